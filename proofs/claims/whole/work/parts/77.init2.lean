/-! ===== what is told, made anew: the rest (wip/whole/gen_init.py) ===== -/
theorem zrs_gn {G : zG} {t c i j v : Int} (ne : c ≠ i) : zrx (zrs G (t + i) j v) (t + c) = zrx G (t + c) := zrs_g (by omega)
theorem znG_rn {G : zG} {t c m k l : Int} {n : Nat} (z : (zsz G : Int) = t + m) (ne : c ≠ m) : zrx (znG G k l n) (t + c) = zrx G (t + c) := znG_r (by omega)
theorem zrs_gb {G : zG} {t b i0 i j v : Int} (hb : b < t + i0) (ne : i0 ≤ i) : zrx (zrs G (t + i) j v) b = zrx G b := zrs_g (by omega)
theorem znG_rb {G : zG} {t b i0 m k l : Int} {n : Nat} (z : (zsz G : Int) = t + m) (hb : b < t + i0) (ne : i0 ≤ m) : zrx (znG G k l n) b = zrx G b := znG_r (by omega)
theorem spI {LC LS : Nat} {Q : List zV → zG → zX → Prop} {U : zX} {G0 G : zG} {X0 X : zX} {t : Int} {s : Nat} (h : zFn U G0 X0 G X t 9 s 8) (t0 : 0 ≤ t) (fr : zrx G (t + 8) = fun _ => -1) (hC : zsz G + 6 = LC) (hS : ztt G + 716 = LS) (q : ∀ (G2 : zG) (X2 : zX), zsz G2 = LC → ztt G2 = LS → zFn U G0 X0 G2 X2 t 15 (s + 716) 15 → (∀ b : Int, b < t + 8 → zrx G2 b = zrx G b) → Q [] G2 X2) : Sp_init LC LS [zR (t + 8)] G X Q := by
  have h1 := h.1
  have h2 := h.2.1
  have k8 : zk0 (1 + 8) = 6 := by decide +kernel
  refine Sp_init_e0 ?_
  rw [show Int.toNat 160 = 160 from rfl, show Int.toNat 20 = 20 from rfl, show Int.toNat 8 = 8 from rfl, show Int.toNat 500 = 500 from rfl, h1]
  obtain ⟨S1, eS1⟩ : ∃ HH : zG, HH = znG G 51 160 160 := ⟨_, rfl⟩
  have fS1 : zFn U G0 X0 S1 (znX G X) t 10 (s + 160) 8 := by rw [eS1]; exact zFn_new h (by omega) (by omega) (by decide +kernel) (by decide +kernel)
  have gS1 := fS1.1
  have kS1 := fS1.2.1
  rw [← eS1]
  obtain ⟨S2, eS2⟩ : ∃ HH : zG, HH = zrs S1 (t + 8) 0 (t + 9) := ⟨_, rfl⟩
  have fS2 : zFn U G0 X0 S2 (znX G X) t 10 (s + 160) 8 := by rw [eS2]; exact zFn_ref (i := 8) fS1 rfl (by omega) (by omega)
  have gS2 := fS2.1
  have kS2 := fS2.2.1
  rw [← eS2]
  have zS2 : (zsz S2 : Int) = t + 10 := by have := fS2.1; omega
  rw [zS2]
  obtain ⟨S3, eS3⟩ : ∃ HH : zG, HH = znG S2 50 20 20 := ⟨_, rfl⟩
  have fS3 : zFn U G0 X0 S3 (znX S2 (znX G X)) t 11 (s + 160 + 20) 8 := by rw [eS3]; exact zFn_new fS2 (by omega) (by omega) (by decide +kernel) (by decide +kernel)
  have gS3 := fS3.1
  have kS3 := fS3.2.1
  rw [← eS3]
  refine ⟨by omega, by omega, by omega, by omega, by omega, zFn_k fS1 (by omega) (by omega) k8, by omega, by omega, by omega, by omega, zFn_k fS3 (by omega) (by omega) k8, fun G1 eG1 => ?_⟩
  have fG1 : zFn U G0 X0 G1 (znX S2 (znX G X)) t 11 (s + 160 + 20) 8 := by rw [eG1]; exact zFn_ref (i := 8) fS3 rfl (by omega) (by omega)
  have gG1 := fG1.1
  have kG1 := fG1.2.1
  have zG1 : (zsz G1 : Int) = t + 11 := by have := fG1.1; omega
  rw [zG1]
  obtain ⟨S4, eS4⟩ : ∃ HH : zG, HH = znG G1 50 20 20 := ⟨_, rfl⟩
  have fS4 : zFn U G0 X0 S4 (znX G1 (znX S2 (znX G X))) t 12 (s + 160 + 20 + 20) 8 := by rw [eS4]; exact zFn_new fG1 (by omega) (by omega) (by decide +kernel) (by decide +kernel)
  have gS4 := fS4.1
  have kS4 := fS4.2.1
  rw [← eS4]
  obtain ⟨S5, eS5⟩ : ∃ HH : zG, HH = zrs S4 (t + 8) 2 (t + 11) := ⟨_, rfl⟩
  have fS5 : zFn U G0 X0 S5 (znX G1 (znX S2 (znX G X))) t 12 (s + 160 + 20 + 20) 8 := by rw [eS5]; exact zFn_ref (i := 8) fS4 rfl (by omega) (by omega)
  have gS5 := fS5.1
  have kS5 := fS5.2.1
  rw [← eS5]
  refine ⟨by omega, by omega, zFn_k fS4 (by omega) (by omega) k8, by omega, by omega, by omega, by omega, fun X2 eX2 => ?_⟩
  have zS5 : (zsz S5 : Int) = t + 12 := by have := fS5.1; omega
  rw [zS5]
  obtain ⟨S6, eS6⟩ : ∃ HH : zG, HH = znG S5 50 8 8 := ⟨_, rfl⟩
  have fS6 : zFn U G0 X0 S6 (znX S5 (znX G1 (znX S2 (znX G X)))) t 13 (s + 160 + 20 + 20 + 8) 8 := by rw [eS6]; exact zFn_new fS5 (by omega) (by omega) (by decide +kernel) (by decide +kernel)
  have gS6 := fS6.1
  have kS6 := fS6.2.1
  rw [← eS6]
  refine ⟨zFn_k fS6 (by omega) (by omega) k8, fun G3 eG3 => ?_⟩
  have fG3 : zFn U G0 X0 G3 (znX S5 (znX G1 (znX S2 (znX G X)))) t 13 (s + 160 + 20 + 20 + 8) 8 := by rw [eG3]; exact zFn_ref (i := 8) fS6 rfl (by omega) (by omega)
  have gG3 := fG3.1
  have kG3 := fG3.2.1
  have zG3 : (zsz G3 : Int) = t + 13 := by have := fG3.1; omega
  rw [zG3]
  obtain ⟨S7, eS7⟩ : ∃ HH : zG, HH = znG G3 50 8 8 := ⟨_, rfl⟩
  have fS7 : zFn U G0 X0 S7 (znX G3 (znX S5 (znX G1 (znX S2 (znX G X))))) t 14 (s + 160 + 20 + 20 + 8 + 8) 8 := by rw [eS7]; exact zFn_new fG3 (by omega) (by omega) (by decide +kernel) (by decide +kernel)
  have gS7 := fS7.1
  have kS7 := fS7.2.1
  rw [← eS7]
  obtain ⟨S8, eS8⟩ : ∃ HH : zG, HH = zrs S7 (t + 8) 4 (t + 13) := ⟨_, rfl⟩
  have fS8 : zFn U G0 X0 S8 (znX G3 (znX S5 (znX G1 (znX S2 (znX G X))))) t 14 (s + 160 + 20 + 20 + 8 + 8) 8 := by rw [eS8]; exact zFn_ref (i := 8) fS7 rfl (by omega) (by omega)
  have gS8 := fS8.1
  have kS8 := fS8.2.1
  rw [← eS8]
  have zS8 : (zsz S8 : Int) = t + 14 := by have := fS8.1; omega
  rw [zS8]
  obtain ⟨S9, eS9⟩ : ∃ HH : zG, HH = znG S8 51 500 500 := ⟨_, rfl⟩
  have fS9 : zFn U G0 X0 S9 (znX S8 (znX G3 (znX S5 (znX G1 (znX S2 (znX G X)))))) t 15 (s + 160 + 20 + 20 + 8 + 8 + 500) 8 := by rw [eS9]; exact zFn_new fS8 (by omega) (by omega) (by decide +kernel) (by decide +kernel)
  have gS9 := fS9.1
  have kS9 := fS9.2.1
  rw [← eS9]
  refine ⟨by omega, by omega, zFn_k fS7 (by omega) (by omega) k8, by omega, by omega, by omega, by omega, zFn_k fS9 (by omega) (by omega) k8, fun G4 eG4 => ?_⟩
  have fG4 : zFn U G0 X0 G4 (znX S8 (znX G3 (znX S5 (znX G1 (znX S2 (znX G X)))))) t 15 (s + 160 + 20 + 20 + 8 + 8 + 500) 8 := by rw [eG4]; exact zFn_ref (i := 8) fS9 rfl (by omega) (by omega)
  have gG4 := fG4.1
  have kG4 := fG4.2.1
  rw [eX2]
  have f9 := zFn_fin (m2 := 15) fG4 (fun x x0 x6 x7 x1 x2 x3 x4 j j0 => ?_)
  · refine q G4 _ (by omega) (by omega) ?_ (fun b hb => ?_)
    · rw [show s + 716 = s + 160 + 20 + 20 + 8 + 8 + 500 by omega]
      exact f9
    · rw [eG4, zrs_gb hb (by decide), eS9, znG_rb zS8 hb (by decide), eS8, zrs_gb hb (by decide), eS7, znG_rb zG3 hb (by decide), eG3, zrs_gb hb (by decide), eS6, znG_rb zS5 hb (by decide), eS5, zrs_gb hb (by decide), eS4, znG_rb zG1 hb (by decide), eG1, zrs_gb hb (by decide), eS3, znG_rb zS2 hb (by decide), eS2, zrs_gb hb (by decide), eS1, znG_rb h1 hb (by decide)]
  · rcases (by omega : x = 8 ∨ x = 9 ∨ x = 10 ∨ x = 11 ∨ x = 12 ∨ x = 13 ∨ x = 14) with c | c | c | c | c | c | c
    · rw [c, eG4, zrs_f, eS9, znG_rn zS8 (by decide), eS8, zrs_f, eS7, znG_rn zG3 (by decide), eG3, zrs_f, eS6, znG_rn zS5 (by decide), eS5, zrs_f, eS4, znG_rn zG1 (by decide), eG1, zrs_f, eS3, znG_rn zS2 (by decide), eS2, zrs_f, eS1, znG_rn h1 (by decide), fr]
      by_cases c0 : j = 0
      · rw [c0]
        exact zIb (r := 10) (by decide +kernel) (by omega) (by rw [zup_n (by omega), zup_n (by omega), zup_n (by omega), zup_n (by omega), zup_n (by omega), zup_s]; omega)
      · skip
        by_cases c1 : j = 1
        · rw [c1]
          exact zIb (r := 11) (by decide +kernel) (by omega) (by rw [zup_n (by omega), zup_n (by omega), zup_n (by omega), zup_n (by omega), zup_s]; omega)
        · skip
          by_cases c2 : j = 2
          · rw [c2]
            exact zIb (r := 12) (by decide +kernel) (by omega) (by rw [zup_n (by omega), zup_n (by omega), zup_n (by omega), zup_s]; omega)
          · skip
            by_cases c3 : j = 3
            · rw [c3]
              exact zIb (r := 13) (by decide +kernel) (by omega) (by rw [zup_n (by omega), zup_n (by omega), zup_s]; omega)
            · skip
              by_cases c4 : j = 4
              · rw [c4]
                exact zIb (r := 14) (by decide +kernel) (by omega) (by rw [zup_n (by omega), zup_s]; omega)
              · skip
                by_cases c5 : j = 5
                · rw [c5]
                  exact zIb (r := 15) (by decide +kernel) (by omega) (by rw [zup_s]; omega)
                · skip
                  rw [zup_n c5, zup_n c4, zup_n c3, zup_n c2, zup_n c1, zup_n c0]
                  exact zIa (zr0_t9 (by omega)) rfl
    · rw [c, eG4, zrs_gn (by decide), eS9, znG_rn zS8 (by decide), eS8, zrs_gn (by decide), eS7, znG_rn zG3 (by decide), eG3, zrs_gn (by decide), eS6, znG_rn zS5 (by decide), eS5, zrs_gn (by decide), eS4, znG_rn zG1 (by decide), eG1, zrs_gn (by decide), eS3, znG_rn zS2 (by decide), eS2, zrs_gn (by decide), eS1, ← h1, znG_rs]
      exact zIa (zr0_ar (by omega) (by omega) (by decide +kernel)) rfl
    · rw [c, eG4, zrs_gn (by decide), eS9, znG_rn zS8 (by decide), eS8, zrs_gn (by decide), eS7, znG_rn zG3 (by decide), eG3, zrs_gn (by decide), eS6, znG_rn zS5 (by decide), eS5, zrs_gn (by decide), eS4, znG_rn zG1 (by decide), eG1, zrs_gn (by decide), eS3, ← zS2, znG_rs]
      exact zIa (zr0_ar (by omega) (by omega) (by decide +kernel)) rfl
    · rw [c, eG4, zrs_gn (by decide), eS9, znG_rn zS8 (by decide), eS8, zrs_gn (by decide), eS7, znG_rn zG3 (by decide), eG3, zrs_gn (by decide), eS6, znG_rn zS5 (by decide), eS5, zrs_gn (by decide), eS4, ← zG1, znG_rs]
      exact zIa (zr0_ar (by omega) (by omega) (by decide +kernel)) rfl
    · rw [c, eG4, zrs_gn (by decide), eS9, znG_rn zS8 (by decide), eS8, zrs_gn (by decide), eS7, znG_rn zG3 (by decide), eG3, zrs_gn (by decide), eS6, ← zS5, znG_rs]
      exact zIa (zr0_ar (by omega) (by omega) (by decide +kernel)) rfl
    · rw [c, eG4, zrs_gn (by decide), eS9, znG_rn zS8 (by decide), eS8, zrs_gn (by decide), eS7, ← zG3, znG_rs]
      exact zIa (zr0_ar (by omega) (by omega) (by decide +kernel)) rfl
    · rw [c, eG4, zrs_gn (by decide), eS9, ← zS8, znG_rs]
      exact zIa (zr0_ar (by omega) (by omega) (by decide +kernel)) rfl
