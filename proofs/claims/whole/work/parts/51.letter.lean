/-! ===== letter, word ===== -/
def zCcl (X : zX) : Prop := (0 ≤ X 9 8 ∧ X 9 8 ≤ 500) ∧ (0 ≤ X 9 6 ∧ X 9 6 ≤ 20) ∧ (∀ k : Int, 0 ≤ k → k < 20 → 0 ≤ X 11 k ∧ X 11 k ≤ 8)
theorem zCcl_w {X X2 : zX} (w : zWk X X2) (h : zCcl X) : zCcl X2 := by
  unfold zCcl
  rw [w 9 (by omega), w 11 (by omega)]
  exact h
theorem zCcl_R {X : zX} (h : zRT X 1 0) : zCcl X := ⟨⟨(zR_lcn h).2.1, (zR_lcn h).2.2⟩, ⟨(zR_wcn h).2.1, (zR_wcn h).2.2⟩, fun k k0 k1 => ⟨(zR_wln h k k0 k1).2.1, (zR_wln h k k0 k1).2.2⟩⟩
theorem isWord_C {Q : List zV → zX → Prop} {G : zG} {X : zX} {a k fr t : Int} (hG : SH G) (h : zCcl X) (hk : zk0 a = 51) (hl : zl0 a = 500) (k0 : 0 ≤ k) (k1 : k < 20) (f0 : 0 ≤ fr) (f1 : fr ≤ t) (t1 : t ≤ 500) (q1 : zPw X (X a) fr (t - fr) k → Q [zI 1] X) (q0 : ¬zPw X (X a) fr (t - fr) k → Q [zI 0] X) : Sp_isWord [zR 9, zI k, zR a, zI fr, zI t] G X Q := by
  have wl : 0 ≤ X 11 k ∧ X 11 k ≤ 8 := h.2.2 k k0 k1
  refine Sp_isWord_f0 hG hk ⟨k0, k1, zw_id (by omega) (by omega), fun e => ?_, fun e => q0 (fun p => e p.1)⟩
  have lp : ∀ (d : Nat) (j : Int), j + d = t → fr ≤ j → (∀ i : Int, 0 ≤ i → i < j - fr → X a (fr + i) = X 10 (8 * k + i)) → Sp_isWord_W Q 18 [zR 9, zI k, zR a, zI fr, zI t, zI j] [] G X := by
    intro d
    induction d with
    | zero =>
      intro j ej j0 hj
      exact Sp_isWord_f18 hG hk ⟨fun z => absurd z (by omega), fun _ => q1 ⟨e, fun i i0 i1 => hj i i0 (by omega)⟩⟩
    | succ d ih =>
      intro j ej j0 hj
      refine Sp_isWord_f18 hG hk ⟨fun _ => ?_, fun z => absurd z (by omega)⟩
      rw [hl, show k * 8 + j - fr = 8 * k + (j - fr) by omega]
      refine ⟨by omega, by omega, zw_id (by omega) (by omega), zw_id (by omega) (by omega), zw_id (by omega) (by omega), by omega, by omega, fun c => ⟨zw_id (by omega) (by omega), ?_⟩, fun c => q0 (fun p => ?_)⟩
      · refine ih (j + 1) (by omega) (by omega) (fun i i0 i1 => ?_)
        by_cases hi : i = j - fr
        · rw [hi, ← c, show fr + (j - fr) = j by omega]
        · exact hj i i0 (by omega)
      · have z := p.2 (j - fr) (by omega) (by omega)
        rw [show fr + (j - fr) = j by omega] at z
        exact c z
  exact lp (t - fr).toNat fr (by omega) (by omega) (fun i _ _ => by omega)
theorem meaning_C {Q : List zV → zX → Prop} {G : zG} {X : zX} {fr t : Int} (hG : SH G) (h : zCcl X) (f0 : 0 ≤ fr) (f1 : fr ≤ t) (t1 : t ≤ 500) (q : Q [zI (zMw X fr t)] X) : Sp_meaningOf [zR 9, zI fr, zI t] G X Q := by
  have hw : 0 ≤ X 9 6 ∧ X 9 6 ≤ 20 := h.2.1
  have lp : ∀ (d : Nat) (k : Int), k + d = X 9 6 → 0 ≤ k → zFst (zPw X (X 15) fr (t - fr)) d k = zWd X (X 15) fr (t - fr) → Sp_meaningOf_W Q 2 [zR 9, zI fr, zI t, zI k] [] G X := by
    intro d
    induction d with
    | zero =>
      intro k ek k0 z
      refine Sp_meaningOf_f2 hG ⟨fun z => absurd z (by omega), fun _ => ?_⟩
      unfold zMw at q
      rw [← z, if_pos (by unfold zFst; omega)] at q
      exact q
    | succ d ih =>
      intro k ek k0 z
      refine Sp_meaningOf_f2 hG ⟨fun _ => isWord_C hG h rfl rfl k0 (by omega) f0 f1 t1 (fun p => ⟨1, rfl, fun y => absurd y (by omega), fun _ => ⟨by omega, by omega, ?_⟩⟩) (fun p => ⟨0, rfl, fun _ => ⟨zw_id (by omega) (by omega), ?_⟩, fun y => absurd rfl y⟩), fun y => absurd y (by omega)⟩
      · rw [zFst_p p] at z
        unfold zMw at q
        rw [← z, if_neg (by omega)] at q
        exact q
      · rw [zFst_n p] at z
        exact ih (k + 1) (by omega) (by omega) z
  exact Sp_meaningOf_f0 hG (lp (X 9 6).toNat 0 (by omega) (by omega) rfl)
theorem hear_C {Q : List zV → zX → Prop} {G : zG} {X0 : zX} (hG : SH G) (h : zCcl X0) : ∀ (f : Nat) (n fr hd hs i : Int) (X : zX), i + f = X0 9 8 + 1 → 0 ≤ i → 0 ≤ fr → fr ≤ i → 0 ≤ n → 2 * n ≤ i → (hs ≠ 0 ∨ fr < i → 2 * n + 1 ≤ i) → zWk X0 X →
    (∀ X2 : zX, zWk X0 X2 → X2 138 = (zHr (X0 15) (X0 9 8) (zMw X0) f n fr hd hs i (X 138)).2 → Q [zI (zHr (X0 15) (X0 9 8) (zMw X0) f n fr hd hs i (X 138)).1] X2) → Sp_hear_W Q 13 [zR 9, zR 138, zI n, zI fr, zI hd, zI hs, zI i, zT] [] G X := by
  have hl : 0 ≤ X0 9 8 ∧ X0 9 8 ≤ 500 := h.1
  intro f
  induction f with
  | zero =>
    intro n fr hd hs i X e i0 fr0 fr1 n0 n2 n3 wk q
    refine Sp_hear_f13 hG ?_
    rw [wk 9 (by omega)]
    exact ⟨fun _ => q X wk rfl, fun z => absurd z (by omega)⟩
  | succ f ih =>
    intro n fr hd hs i X e i0 fr0 fr1 n0 n2 n3 wk q
    have st : ∀ c : Int, c = (if i < X0 9 8 then X0 15 i else 46) → Sp_hear_W Q 43 [zR 9, zR 138, zI n, zI fr, zI hd, zI hs, zI i, zT] [zI c] G X := fun c hc => by
      unfold zHr at q
      rw [← hc] at q
      have hX := zCcl_w wk h
      have mw : zMw X = zMw X0 := by
        unfold zMw zWd zPw
        rw [wk 9 (by omega), wk 10 (by omega), wk 11 (by omega), wk 12 (by omega), wk 15 (by omega)]
      refine Sp_hear_f43 hG (q_dLetter hG (fun cl => ⟨1, rfl, fun z => absurd z (by omega), fun _ => ⟨zw_id (by omega) (by omega), ?_⟩⟩) (fun cl => ⟨0, rfl, fun _ => ?_, fun z => absurd rfl z⟩))
      · rw [if_pos cl] at q
        exact ih n fr hd hs (i + 1) X (by omega) (by omega) fr0 (by omega) n0 (by omega) (by omega) wk q
      · rw [if_neg cl] at q
        have tl : ∀ hd2 hs2 : Int, hd2 = (if fr < i then zor hd (zMw X0 fr i) else hd) → hs2 = (if fr < i then 1 else hs) → (hs2 ≠ 0 → 2 * n + 1 ≤ i) → Sp_hear_W Q 77 [zR 9, zR 138, zI n, zT, zI hd2, zI hs2, zI i, zI c] [] G X := fun hd2 hs2 eh es hb => by
          rw [← eh, ← es] at q
          refine Sp_hear_f77 hG ⟨zw_id (by omega) (by omega), fun c46 => ⟨fun s0 => ⟨zw_id (by omega) (by omega), ?_⟩, fun s1 => ⟨fun n251 => ⟨n0, n251, zw_id (by omega) (by omega), zw_id (by omega) (by omega), ?_⟩, fun n251 => absurd n251 (by have := hb s1; omega)⟩⟩, fun c46 => ⟨zw_id (by omega) (by omega), ?_⟩⟩
          · rw [if_neg (fun z => z.2 s0)] at q
            exact ih n (i + 1) hd2 hs2 (i + 1) X (by omega) (by omega) (by omega) (by omega) n0 (by omega) (by omega) wk q
          · rw [if_pos ⟨c46, s1⟩] at q
            have b1 := hb s1
            refine ih (n + 1) (i + 1) 0 0 (i + 1) _ (by omega) (by omega) (by omega) (by omega) (by omega) (by omega) (by omega) (zWk_w wk (by omega)) ?_
            rw [zst_a]
            exact q
          · rw [if_neg (fun z => c46 z.1)] at q
            exact ih n (i + 1) hd2 hs2 (i + 1) X (by omega) (by omega) (by omega) (by omega) n0 (by omega) (by omega) wk q
        refine ⟨fun lt => meaning_C hG hX fr0 (by omega) (by omega) ⟨_, rfl, ?_⟩, fun ge => ?_⟩
        · rw [mw]
          exact tl _ _ (by rw [if_pos lt]) (by rw [if_pos lt]) (by omega)
        · exact tl _ _ (by rw [if_neg (by omega)]) (by rw [if_neg (by omega)]) (by omega)
    refine Sp_hear_f13 hG ?_
    rw [wk 9 (by omega), wk 15 (by omega)]
    exact ⟨fun z => absurd z (by omega), fun _ => ⟨fun lt => ⟨i0, by omega, st _ (by rw [if_pos lt])⟩, fun ge => st _ (by rw [if_neg (by omega)])⟩⟩
theorem hear_SC {Q : List zV → zX → Prop} {G : zG} {X : zX} (hG : SH G) (h : zCcl X) (q : ∀ X2 : zX, zWk X X2 → (∀ j : Int, 0 ≤ j → j < (zSe X).1 → X2 138 j = (zSe X).2 j) → Q [zI (zSe X).1] X2) : Sp_hear [zR 9, zR 138] G X Q := by
  have hl : 0 ≤ X 9 8 ∧ X 9 8 ≤ 500 := h.1
  have c := zHr_F (L := X 15) (len := X 9 8) (mw := zMw X) (X 9 8 + 1).toNat 0 0 0 0 0 (X 138) (fun _ => 0) (fun j a b => by omega)
  refine Sp_hear_f0 hG (hear_C hG h (X 9 8 + 1).toNat 0 0 0 0 0 X (by omega) (by omega) (by omega) (by omega) (by omega) (by omega) (by omega) (zWk_r X) (fun X2 w2 e2 => ?_))
  rw [c.1]
  exact q X2 w2 (fun j j0 j1 => by rw [e2]; exact c.2 j j0 (by rw [c.1]; exact j1))
/-! the tape taken -/
def zTp (X Y : zX) (f p : Int) : Prop := (∀ a : Int, a ≠ 2 → Y a = X a) ∧ Y 2 1 = 0 ∧ Y 2 4 = X 2 1 ∧ Y 2 2 = f ∧ Y 2 3 = p
def zTm (X Y : zX) (f p : Int) : Prop := (∀ a : Int, a ≠ 139 → a ≠ 140 → Y a = X a) ∧ (∀ k : Int, k ≠ 6 → k ≠ 7 → k ≠ 8 → Y 140 k = X 140 k) ∧ Y 140 6 = 0 ∧ Y 140 7 = f ∧ Y 140 8 = p ∧ Y 139 2 = X 140 6
theorem zTp_f {X Y : zX} {f p f2 p2 : Int} (h : zTp X Y f p) : zTp X (zst (zst Y 2 2 f2) 2 3 p2) f2 p2 :=
  ⟨fun a ha => by rw [zrd_r ha, zrd_r ha]; exact h.1 a ha, by (simp (disch := omega) only [zrd_q, zrd_n]); exact h.2.1, by (simp (disch := omega) only [zrd_q, zrd_n]); exact h.2.2.1, by (simp (disch := omega) only [zrd_q, zrd_n]), by (simp (disch := omega) only [zrd_q, zrd_n])⟩
theorem zTm_f {X Y : zX} {f p f2 p2 : Int} (h : zTm X Y f p) : zTm X (zst (zst Y 140 7 f2) 140 8 p2) f2 p2 :=
  ⟨fun a h1 h2 => by rw [zrd_r h2, zrd_r h2]; exact h.1 a h1 h2, fun k k6 k7 k8 => by rw [zrd_n (by omega), zrd_n (by omega)]; exact h.2.1 k k6 k7 k8, by (simp (disch := omega) only [zrd_q, zrd_n]); exact h.2.2.1, by (simp (disch := omega) only [zrd_q, zrd_n]), by (simp (disch := omega) only [zrd_q, zrd_n]), by (simp (disch := omega) only [zrd_q, zrd_n]); exact h.2.2.2.2.2⟩
theorem take_D {Q : List zV → zX → Prop} {G : zG} {X : zX} (hG : SH G) (q : ∀ X2 : zX, zTp X X2 0 (-1) → Q [] X2) : Ta_take [zR 2] G X Q := by
  refine Ta_take_f0 hG (q _ ⟨fun a ha => ?_, ?_, ?_, ?_, ?_⟩)
  · rw [zrd_r ha, zrd_r ha, zrd_r ha, zrd_r ha]
  · (simp (disch := omega) only [zrd_q, zrd_n])
  · (simp (disch := omega) only [zrd_q, zrd_n])
  · (simp (disch := omega) only [zrd_q, zrd_n])
  · (simp (disch := omega) only [zrd_q, zrd_n])
theorem begins_M {Q : List zV → zX → Prop} {G : zG} {X : zX} (hG : SH G) (q : ∀ X2 : zX, zTm X X2 0 (-1) → X2 139 3 = 0 → X2 139 9 = 0 → X2 139 10 = 0 → X2 139 11 = 0 → Q [] X2) : M_begins [zR 139] G X Q := by
  refine M_begins_f0 hG (fun X1 e => q _ ⟨fun a h1 h2 => ?_, fun k k6 k7 k8 => ?_, ?_, ?_, ?_, ?_⟩ ?_ ?_ ?_ ?_)
  · rw [e, zrd_r h1, zrd_r h1, zrd_r h1, zrd_r h1, zrd_r h2, zrd_r h2, zrd_r h2, zrd_r h1]
  · rw [e, zrd_n (by omega), zrd_n (by omega), zrd_n (by omega), zrd_n (by omega), zrd_n (by omega), zrd_n (by omega), zrd_n (by omega), zrd_n (by omega)]
  all_goals rw [e]; (simp (disch := omega) only [zrd_q, zrd_n])
theorem stuck_D {Q : List zV → zX → Prop} {G : zG} {X : zX} {p : Int} (hG : SH G) (q1 : X 2 2 = 1 → Q [] X) (q0 : X 2 2 ≠ 1 → Q [] (zst (zst X 2 2 1) 2 3 p)) : Ta_stuck [zR 2, zI p] G X Q := Ta_stuck_f0 hG ⟨q1, q0⟩
/-- what is left of the relation when the tape alone was taken -/
theorem zTd_RT {X W : zX} {f p : Int} (h : zRT X 1 0) (hX : ∀ a k : Int, (1 ≤ a ∧ a < 103) ∨ (a = 140 ∧ 0 ≤ k ∧ k < 5520) → ¬(a = 2 ∨ a = 4 ∨ a = 5 ∨ a = 6 ∨ a = 140 ∧ 6 ≤ k ∧ k ≤ 8) → W a k = X a k) (e1 : W 2 1 = 0) (e2 : W 140 6 = 0) (f1 : W 2 2 = f) (f2 : W 140 7 = f) (p1 : W 2 3 = p) (p2 : W 140 8 = p) (bf : 0 ≤ f ∧ f ≤ 4) (bp : -1 ≤ p ∧ p ≤ 500) : zRT W 1 0 := by
  refine zU_tape h (fun a k r n => hX a k r (by omega)) ?_ ?_ ?_ ?_
  · show W 140 6 = W 2 1 ∧ 0 ≤ W 2 1 ∧ W 2 1 ≤ 500
    rw [e1, e2]; omega
  · show W 140 7 = W 2 2 ∧ 0 ≤ W 2 2 ∧ W 2 2 ≤ 4
    rw [f1, f2]; omega
  · show W 140 8 = W 2 3 ∧ -1 ≤ W 2 3 ∧ W 2 3 ≤ 500
    rw [p1, p2]; omega
  · intro j j0 j1
    have z := zR_byt h j j0 j1
    show W 140 (0 + 70 + j) = W 3 j ∧ 0 ≤ W 3 j ∧ W 3 j ≤ 255
    rw [hX 140 (0 + 70 + j) (by omega) (by omega), hX 3 j (by omega) (by omega)]
    exact z
theorem zTd_Kp {X W : zX} (h : zRT X 1 0) (hA : ∀ a : Int, a ≠ 2 → a < 103 ∨ 140 ≤ a → a ≠ 140 → W a = X a) (hB : ∀ k : Int, k ≠ 6 → k ≠ 7 → k ≠ 8 → W 140 k = X 140 k) : zKp X W := by
  have hq1 := q_houses h
  have hq2 := q_pages h
  exact ⟨fun a ha => hA a (by omega) (by omega) (by omega), fun i hi => hB i (by omega) (by omega) (by omega), hA 141 (by omega) (by omega) (by omega), fun p i _ _ _ _ => hB _ (by omega) (by omega) (by omega), fun p i _ _ _ _ => hB _ (by omega) (by omega) (by omega), by rw [hA 1 (by omega) (by omega) (by omega)], by rw [hA 1 (by omega) (by omega) (by omega)], fun p _ _ => hA _ (by omega) (by omega) (by omega), fun p _ _ => hA _ (by omega) (by omega) (by omega)⟩
/-- both sides have taken the tape, and nothing else -/
theorem zTt {X Y Z : zX} {f p : Int} (h : zRT X 1 0) (t : zTp X Y f p) (m : zTm Y Z f p) (bf : 0 ≤ f ∧ f ≤ 4) (bp : -1 ≤ p ∧ p ≤ 500) : zRT Z 1 0 ∧ zKp X Z := by
  have eA : ∀ a : Int, a ≠ 2 → a ≠ 139 → a ≠ 140 → Z a = X a := fun a a2 a9 a0 => (m.1 a a9 a0).trans (t.1 a a2)
  have eB : ∀ k : Int, k ≠ 6 → k ≠ 7 → k ≠ 8 → Z 140 k = X 140 k := fun k k6 k7 k8 => (m.2.1 k k6 k7 k8).trans (by rw [t.1 140 (by omega)])
  have e2 : Z 2 = Y 2 := m.1 2 (by omega) (by omega)
  refine ⟨zTd_RT h (fun a k r n => ?_) (by rw [e2]; exact t.2.1) m.2.2.1 (by rw [e2]; exact t.2.2.2.1) m.2.2.2.1 (by rw [e2]; exact t.2.2.2.2) m.2.2.2.2.1 bf bp, zTd_Kp h (fun a a2 a9 a0 => eA a a2 (by omega) a0) eB⟩
  by_cases c : a = 140
  · rw [c]
    exact eB k (by omega) (by omega) (by omega)
  · rw [eA a (by omega) (by omega) c]
/-- the first place of what may not be there -/
noncomputable def zBd (P : Int → Prop) (L : Int → Int) (n : Int) : Int := zFst (fun i => P (L i)) n.toNat 0
theorem zBd_in {P : Int → Prop} {L : Int → Int} {n : Int} (h : 0 ≤ n) : -1 ≤ zBd P L n ∧ zBd P L n < n ∨ n = 0 ∧ zBd P L n = -1 := by
  have z := zFst_in (P := fun i => P (L i)) n.toNat 0 (by omega)
  unfold zBd
  omega
theorem zBd_c {P P2 : Int → Prop} {L L2 : Int → Int} {n : Int} (h : 0 ≤ n) (e : ∀ j : Int, 0 ≤ j → j < n → (P (L j) ↔ P2 (L2 j))) : zBd P L n = zBd P2 L2 n := zFst_c _ _ (fun j a b => e j a (by omega))
theorem q_dDigit {Q : List zV → zX → Prop} {G : zG} {X : zX} {x : Int} (hG : SH G) (h1 : 48 ≤ x ∧ x ≤ 57 → Q [zI 1] X) (h0 : ¬(48 ≤ x ∧ x ≤ 57) → Q [zI 0] X) : D_isDigit [zI x] G X Q :=
  D_isDigit_f0 hG ⟨fun a => h0 (by omega), fun a => ⟨fun b => h0 (by omega), fun b => h1 ⟨a, b⟩⟩⟩
theorem q_dBlank {Q : List zV → zX → Prop} {G : zG} {X : zX} {x : Int} (hG : SH G) (h1 : x = 10 ∨ x = 32 → Q [zI 1] X) (h0 : x ≠ 10 → x ≠ 32 → Q [zI 0] X) : D_isBlank [zI x] G X Q :=
  D_isBlank_f0 hG ⟨fun a => h1 (Or.inl a), fun a => ⟨fun b => h1 (Or.inr b), fun b => h0 a b⟩⟩
theorem q_mLetter {Q : List zV → zX → Prop} {G : zG} {X : zX} {x : Int} (hG : SH G) (h1 : 97 ≤ x ∧ x ≤ 122 → Q [zI 1] X) (h0 : ¬(97 ≤ x ∧ x ≤ 122) → Q [zI 0] X) : M_isLetter [zI x] G X Q :=
  M_isLetter_f0 hG ⟨fun a => h0 (by omega), fun a => ⟨fun b => h0 (by omega), fun b => h1 ⟨a, b⟩⟩⟩
theorem q_mDigit {Q : List zV → zX → Prop} {G : zG} {X : zX} {x : Int} (hG : SH G) (h1 : 48 ≤ x ∧ x ≤ 57 → Q [zI 1] X) (h0 : ¬(48 ≤ x ∧ x ≤ 57) → Q [zI 0] X) : M_isDigit [zI x] G X Q :=
  M_isDigit_f0 hG ⟨fun a => h0 (by omega), fun a => ⟨fun b => h0 (by omega), fun b => h1 ⟨a, b⟩⟩⟩
theorem q_byte {Q : List zV → zX → Prop} {G : zG} {X : zX} {k : Int} (hG : SH G) (h0 : 0 ≤ k) (h1 : k < X 139 2) (h2 : k ≤ 500) (q : Q [zI (X 140 (70 + k))] X) : M_byteAt [zR 139, zI k] G X Q :=
  M_byteAt_f0 hG ⟨fun _ => ⟨zw_id (by omega) (by omega), by omega, by omega, q⟩, fun z => absurd z (by omega)⟩
def zLb (c : Int) : Prop := ¬(97 ≤ c ∧ c ≤ 122) ∧ c ≠ 46 ∧ c ≠ 10 ∧ c ≠ 32
theorem takeLetter_D {Q : List zV → zX → Prop} {G : zG} {X : zX} {J : Int} (hG : SH G) (h : zRT X 1 0) (hJ : zBd zLb (X 3) (X 2 1) = J) (q1 : J = -1 → ∀ X2 : zX, zTp X X2 0 (-1) → Q [zI 1] X2) (q0 : 0 ≤ J → ∀ X2 : zX, zTp X X2 1 J → Q [zI 0] X2) : Ta_takeLetter [zR 2] G X Q := by
  have hl : X 140 6 = X 2 1 ∧ 0 ≤ X 2 1 ∧ X 2 1 ≤ 500 := zR_len h
  have lp : ∀ (d : Nat) (i : Int) (Y : zX), i + d = X 2 1 → 0 ≤ i → ((zTp X Y 0 (-1) ∧ zFst (fun i => zLb (X 3 i)) d i = J) ∨ (zTp X Y 1 J ∧ 0 ≤ J)) → Ta_takeLetter_W Q 6 [zR 2, zI i] [] G Y := by
    intro d
    induction d with
    | zero =>
      intro i Y e i0 c
      have e4 : Y 2 4 = X 2 1 := by
        rcases c with c | c
        · exact c.1.2.2.1
        · exact c.1.2.2.1
      refine Ta_takeLetter_f6 hG ⟨fun z => absurd z (by omega), fun _ => ?_⟩
      rcases c with ⟨c, f⟩ | ⟨c, j0⟩
      · have f2 : (-1 : Int) = J := f
        exact ⟨fun _ => q1 f2.symm Y c, fun z => absurd c.2.2.2.1 z⟩
      · exact ⟨fun z => absurd z (by have := c.2.2.2.1; omega), fun _ => q0 j0 Y c⟩
    | succ d ih =>
      intro i Y e i0 c
      have e4 : Y 2 4 = X 2 1 := by
        rcases c with c | c
        · exact c.1.2.2.1
        · exact c.1.2.2.1
      have e3 : Y 3 = X 3 := by
        rcases c with c | c
        · exact c.1.1 3 (by omega)
        · exact c.1.1 3 (by omega)
      have go : ∀ Y2 : zX, ((zTp X Y2 0 (-1) ∧ zFst (fun i => zLb (X 3 i)) d (i + 1) = J) ∨ (zTp X Y2 1 J ∧ 0 ≤ J)) → zw (i + 1) = i + 1 ∧ Ta_takeLetter_W Q 6 [zR 2, zI (i + 1)] [] G Y2 := fun Y2 c2 => ⟨zw_id (by omega) (by omega), ih (i + 1) Y2 (by omega) (by omega) c2⟩
      have skip : ¬zLb (Y 3 i) → zw (i + 1) = i + 1 ∧ Ta_takeLetter_W Q 6 [zR 2, zI (i + 1)] [] G Y := fun nb => go Y (by
        rw [e3] at nb
        rcases c with ⟨c, f⟩ | c
        · rw [zFst_n (P := fun i => zLb (X 3 i)) nb] at f
          exact Or.inl ⟨c, f⟩
        · exact Or.inr c)
      refine Ta_takeLetter_f6 hG ⟨fun _ => ⟨i0, by omega, q_dLetter hG (fun cl => ⟨1, rfl, fun z => absurd z (by omega), fun _ => skip (fun b => b.1 cl)⟩) (fun cl => ⟨0, rfl, fun _ => ⟨fun c46 => skip (fun b => b.2.1 c46), fun n46 => q_dBlank hG (fun bl => ⟨1, rfl, fun z => absurd z (by omega), fun _ => skip (fun b => by have := b.2.2; omega)⟩) (fun n10 n32 => ⟨0, rfl, fun _ => stuck_D hG (fun f1 => ⟨rfl, ?_⟩) (fun f1 => ⟨rfl, ?_⟩), fun z => absurd rfl z⟩)⟩, fun z => absurd rfl z⟩)⟩, fun z => absurd z (by omega)⟩
      · rcases c with ⟨c, f⟩ | c
        · exact absurd c.2.2.2.1 (by omega)
        · exact go Y (Or.inr c)
      · have b : zLb (X 3 i) := by rw [← e3]; exact ⟨cl, n46, n10, n32⟩
        rcases c with ⟨c, f⟩ | c
        · rw [zFst_p (P := fun i => zLb (X 3 i)) b] at f
          rw [← f] at go
          exact go _ (Or.inr ⟨zTp_f c, i0⟩)
        · exact absurd c.1.2.2.2.1 f1
  exact Ta_takeLetter_f0 hG (take_D hG (fun X1 t1 => ⟨rfl, lp (X 2 1).toNat 0 X1 (by omega) (by omega) (Or.inl ⟨t1, hJ⟩)⟩))
/-- the reference's letter: what is left to do when no place is bad -/
theorem letter_M {Q : List zV → zX → Prop} {G : zG} {X : zX} {L : Int → Int} {n J : Int} (hG : SH G) (n0 : 0 ≤ n) (n5 : n ≤ 500) (en : X 140 6 = n) (hb : ∀ j : Int, 0 ≤ j → j < n → X 140 (70 + j) = L j) (hJ : zBd zLb L n = J) (q1 : J = -1 → ∀ X2 : zX, zTm X X2 0 (-1) → M_letter_W Q 86 [zR 139, zI 0, zT] [] G (zst X2 140 5010 n)) (q0 : 0 ≤ J → ∀ X2 : zX, zTm X X2 1 J → Q [zI (-1)] X2) : M_letter [zR 139] G X Q := by
  refine M_letter_f0 hG (begins_M hG (fun X1 t1 _ _ _ _ => ⟨rfl, ?_⟩))
  have e2 : X1 139 2 = n := t1.2.2.2.2.2.trans en
  have lp : ∀ (d : Nat) (i : Int), i + d = n → 0 ≤ i → zFst (fun i => zLb (L i)) d i = J → M_letter_W Q 6 [zR 139, zI i, zT] [] G X1 := by
    intro d
    induction d with
    | zero =>
      intro i e i0 f
      have f2 : (-1 : Int) = J := f
      refine M_letter_f6 hG ⟨fun z => absurd z (by omega), fun _ => ?_⟩
      rw [e2]
      exact q1 f2.symm X1 t1
    | succ d ih =>
      intro i e i0 f
      have ev : X1 140 (70 + i) = L i := (t1.2.1 _ (by omega) (by omega) (by omega)).trans (hb i i0 (by omega))
      have skip : ¬zLb (L i) → zw (i + 1) = i + 1 ∧ M_letter_W Q 6 [zR 139, zI (i + 1), zT] [] G X1 := fun nb => ⟨zw_id (by omega) (by omega), ih (i + 1) (by omega) (by omega) (by
        rw [zFst_n (P := fun i => zLb (L i)) nb] at f
        exact f)⟩
      refine M_letter_f6 hG ⟨fun _ => q_byte hG i0 (by omega) (by omega) ⟨_, rfl, ?_⟩, fun z => absurd z (by omega)⟩
      rw [ev]
      refine q_mLetter hG (fun cl => ⟨1, rfl, fun z => absurd z (by omega), fun _ => skip (fun b => b.1 cl)⟩) (fun cl => ⟨0, rfl, fun _ => ⟨fun c => skip (fun b => b.2.1 c), fun c1 => ⟨fun c => skip (fun b => b.2.2.1 c), fun c2 => ⟨fun c => skip (fun b => b.2.2.2 c), fun c3 => ?_⟩⟩⟩, fun z => absurd rfl z⟩)
      rw [zFst_p (P := fun i => zLb (L i)) ⟨cl, c1, c2, c3⟩] at f
      rw [← f] at q0
      exact q0 i0 _ (zTm_f t1)
  exact lp n.toNat 0 (by omega) (by omega) hJ
theorem op_letter {G : zG} {X : zX} (hG : SH G) (h : zRT X 1 0) : zOp D_letter M_letter [] [] G X := by
  have hl : X 140 6 = X 2 1 ∧ 0 ≤ X 2 1 ∧ X 2 1 ≤ 500 := zR_len h
  have hlc : X 140 5010 = X 9 8 ∧ 0 ≤ X 9 8 ∧ X 9 8 ≤ 500 := zR_lcn h
  have hb : ∀ j : Int, 0 ≤ j → j < X 2 1 → X 140 (70 + j) = X 3 j := fun j j0 j1 => by
    have z := zR_byt h j j0 (by omega)
    rw [show (0 : Int) + 70 + j = 70 + j by omega] at z
    exact z.1
  generalize hn : X 2 1 = n at hl hb
  generalize hJ : zBd zLb (X 3) n = J
  have bJ := zBd_in (P := zLb) (L := X 3) (n := n) (by omega)
  rw [hJ] at bJ
  refine D_letter_f0 hG (takeLetter_D (J := J) hG h (by rw [hn]; exact hJ) (fun j1 Y t => ⟨1, rfl, fun z => absurd z (by omega), fun _ => ?_⟩) (fun j0 Y t => ⟨0, rfl, fun _ => ?_, fun z => absurd rfl z⟩))
  · have e24 : Y 2 4 = n := t.2.2.1.trans hn
    rw [e24]
    have em : min n 500 = n := by omega
    refine Sp_tellLetter_f0 hG ?_
    rw [em, zrd_q ⟨rfl, rfl⟩]
    refine ⟨by omega, by omega, fun X1 e1 => ⟨rfl, ?_⟩⟩
    have r15 : X1 15 = zcpy (X 3) (X 15) 0 0 n := by
      rw [e1, zsa_s, zrd_r (by omega), zrd_r (by omega), t.1 3 (by omega), t.1 15 (by omega)]
    have r98 : X1 9 8 = n := by rw [e1, zsa_n (by omega), zrd_q ⟨rfl, rfl⟩]
    have r9 : ∀ k : Int, k ≠ 8 → X1 9 k = X 9 k := fun k hk => by rw [e1, zsa_n (by omega), zrd_n (by omega), t.1 9 (by omega)]
    have ro : ∀ a : Int, a ≠ 2 → a ≠ 9 → a ≠ 15 → X1 a = X a := fun a a2 a9 a15 => by rw [e1, zsa_n a15, zrd_r a9, t.1 a a2]
    have r2 : X1 2 = Y 2 := by rw [e1, zsa_n (by omega), zrd_r (by omega)]
    have hc : zCcl X1 := by
      have hc0 := zCcl_R h
      refine ⟨by rw [r98]; omega, by rw [r9 6 (by omega)]; exact hc0.2.1, fun k k0 k1 => by rw [ro 11 (by omega) (by omega) (by omega)]; exact hc0.2.2 k k0 k1⟩
    refine hear_SC hG hc (fun X2 w2 _ => ⟨_, rfl, ?_⟩)
    have p140 : X2 140 = X 140 := (w2 140 (by omega)).trans (ro 140 (by omega) (by omega) (by omega))
    refine letter_M (L := X 3) hG hl.2.1 hl.2.2 (by rw [p140]; exact hl.1) (fun j j0 j1 => by rw [p140]; exact hb j j0 j1) hJ (fun _ Z m => ?_) (fun j0 => absurd j0 (by omega))
    have z1392 : Z 139 2 = n := by rw [m.2.2.2.2.2, p140]; exact hl.1
    have zb : ∀ j : Int, 0 ≤ j → j < n → Z 140 (70 + j) = X 3 j := fun j j0 j1 => by
      rw [m.2.1 _ (by omega) (by omega) (by omega), p140]
      exact hb j j0 j1
    -- the reference copies
    have lp : ∀ (d : Nat) (i : Int) (V : zX), i + d = n → 0 ≤ i → (∀ a : Int, a ≠ 140 → V a = Z a) → (∀ k : Int, k ≠ 5010 → ¬(5011 ≤ k ∧ k < 5011 + i) → V 140 k = Z 140 k) → V 140 5010 = n → (∀ j : Int, 0 ≤ j → j < i → V 140 (5011 + j) = X 3 j) → M_letter_W (fun w X2 => w = [zI (zSe X1).1] ∧ zRT X2 1 0 ∧ zKp X X2) 86 [zR 139, zI i, zT] [] G V := by
      intro d
      induction d with
      | zero =>
        intro i V e i0 va vb vc vd
        have ei : i = n := by omega
        rw [ei] at vb vd
        refine M_letter_f86 hG ⟨fun z => absurd z (by rw [va 139 (by omega), z1392]; omega), fun _ => ?_⟩
        -- the relation in two steps
        have vX : ∀ a : Int, a < 103 → a ≠ 2 → a ≠ 9 → a ≠ 15 → V a = X a := fun a a1 a2 a9 a15 => by
          rw [va a (by omega), m.1 a (by omega) (by omega), w2 a (by omega), ro a a2 a9 a15]
        have v2 : V 2 = Y 2 := by rw [va 2 (by omega), m.1 2 (by omega) (by omega), w2 2 (by omega), r2]
        have v9 : V 9 = X1 9 := by rw [va 9 (by omega), m.1 9 (by omega) (by omega), w2 9 (by omega)]
        have v15 : V 15 = zcpy (X 3) (X 15) 0 0 n := by rw [va 15 (by omega), m.1 15 (by omega) (by omega), w2 15 (by omega), r15]
        have vB : ∀ k : Int, k ≠ 6 → k ≠ 7 → k ≠ 8 → ¬(5010 ≤ k ∧ k < 5011 + n) → V 140 k = X 140 k := fun k k6 k7 k8 kl => by
          rw [vb k (by omega) (by omega), m.2.1 k k6 k7 k8, p140]
        have vR : zRT V 1 0 := by
          generalize hW : (fun a k : Int => if (a = 9 ∧ k = 8) ∨ a = 15 ∨ (a = 140 ∧ 5010 ≤ k ∧ k < 5511) then X a k else V a k) = W
          have wp : ∀ a k : Int, ((a = 9 ∧ k = 8) ∨ a = 15 ∨ (a = 140 ∧ 5010 ≤ k ∧ k < 5511)) → W a k = X a k := fun a k c => by rw [← hW]; exact if_pos c
          have wn : ∀ a k : Int, ¬((a = 9 ∧ k = 8) ∨ a = 15 ∨ (a = 140 ∧ 5010 ≤ k ∧ k < 5511)) → W a k = V a k := fun a k c => by rw [← hW]; exact if_neg c
          have wR : zRT W 1 0 := by
            refine zTd_RT (f := 0) (p := -1) h (fun a k r ne => ?_) ?_ ?_ ?_ ?_ ?_ ?_ (by omega) (by omega)
            · by_cases c : (a = 9 ∧ k = 8) ∨ a = 15 ∨ (a = 140 ∧ 5010 ≤ k ∧ k < 5511)
              · exact wp a k c
              · rw [wn a k c]
                by_cases c9 : a = 9
                · rw [c9, v9, r9 k (by omega)]
                · by_cases c0 : a = 140
                  · rw [c0]
                    exact vB k (by omega) (by omega) (by omega) (by omega)
                  · rw [vX a (by omega) (by omega) c9 (by omega)]
            · rw [wn 2 1 (by omega), v2]; exact t.2.1
            · rw [wn 140 6 (by omega), vb 6 (by omega) (by omega)]; exact m.2.2.1
            · rw [wn 2 2 (by omega), v2]; exact t.2.2.2.1
            · rw [wn 140 7 (by omega), vb 7 (by omega) (by omega)]; exact m.2.2.2.1
            · rw [wn 2 3 (by omega), v2]; exact t.2.2.2.2
            · rw [wn 140 8 (by omega), vb 8 (by omega) (by omega)]; exact m.2.2.2.2.1
          refine zU_letter wR (fun a k _ ne => (wn a k (by omega)).symm) ?_ ?_
          · show V 140 5010 = V 9 8 ∧ 0 ≤ V 9 8 ∧ V 9 8 ≤ 500
            rw [vc, v9, r98]
            omega
          · intro j j0 j1
            have zl := zR_ltr h j j0 j1
            show V 140 (0 + 5011 + j) = V 15 j ∧ 0 ≤ V 15 j ∧ V 15 j ≤ 255
            rw [v15, show (0 : Int) + 5011 + j = 5011 + j by omega]
            rw [show (0 : Int) + 5011 + j = 5011 + j by omega] at zl
            unfold zcpy
            by_cases c : j < n
            · have zy := zR_byt h j j0 j1
              rw [if_pos (by omega), vd j j0 c, show (0 : Int) + (j - 0) = j by omega]
              exact ⟨rfl, zy.2⟩
            · rw [if_neg (by omega), vB _ (by omega) (by omega) (by omega) (by omega)]
              exact zl
        refine sent_S hG vR (fun Y2 w5 _ => ⟨_, rfl, ?_, zWk_RT w5 vR, ?_⟩)
        · have e9 : zSe V = zSe X1 := by
            unfold zSe zMw zWd zPw
            rw [v9, v15, r15, vX 10 (by omega) (by omega) (by omega) (by omega), vX 11 (by omega) (by omega) (by omega) (by omega), vX 12 (by omega) (by omega) (by omega) (by omega), ro 10 (by omega) (by omega) (by omega), ro 11 (by omega) (by omega) (by omega), ro 12 (by omega) (by omega) (by omega)]
          rw [e9]
        · refine zKp_t ?_ (zWk_Kp w5)
          have hq1 := q_houses h
          have hq2 := q_pages h
          have vK : ∀ a : Int, a ≠ 2 → a ≠ 9 → a ≠ 15 → a < 103 ∨ 141 ≤ a ∧ a ≤ 141 ∨ 166 ≤ a → V a = X a := fun a a2 a9 a15 ar => by
            rw [va a (by omega), m.1 a (by omega) (by omega), w2 a (by omega), ro a a2 a9 a15]
          exact ⟨fun a ha => vK a (by omega) (by omega) (by omega) (by omega), fun i hi => vB i (by omega) (by omega) (by omega) (by omega), vK 141 (by omega) (by omega) (by omega) (by omega), fun p i _ _ _ _ => vB _ (by omega) (by omega) (by omega) (by omega), fun p i _ _ _ _ => vB _ (by omega) (by omega) (by omega) (by omega), by rw [vK 1 (by omega) (by omega) (by omega) (by omega)], by rw [vK 1 (by omega) (by omega) (by omega) (by omega)], fun p _ _ => vK _ (by omega) (by omega) (by omega) (by omega), fun p _ _ => vK _ (by omega) (by omega) (by omega) (by omega)⟩
      | succ d ih =>
        intro i V e i0 va vb vc vd
        refine M_letter_f86 hG ⟨fun _ => ⟨zw_id (by omega) (by omega), q_byte hG i0 (by rw [va 139 (by omega), z1392]; omega) (by omega) ⟨_, rfl, by omega, by omega, zw_id (by omega) (by omega), ?_⟩⟩, fun z => absurd z (by rw [va 139 (by omega), z1392]; omega)⟩
        have ev : V 140 (70 + i) = X 3 i := by
          rw [vb _ (by omega) (by omega)]
          exact zb i i0 (by omega)
        rw [ev]
        refine ih (i + 1) _ (by omega) (by omega) (fun a ha => by rw [zrd_r ha]; exact va a ha) (fun k k1 k2 => by rw [zrd_n (by omega)]; exact vb k k1 (by omega)) (by rw [zrd_n (by omega)]; exact vc) (fun j j0 j1 => ?_)
        by_cases c : j = i
        · rw [c, zrd_q ⟨rfl, rfl⟩]
        · rw [zrd_n (by omega)]
          exact vd j j0 (by omega)
    refine lp n.toNat 0 _ (by omega) (by omega) (fun a ha => by rw [zrd_r ha]) (fun k k1 _ => by rw [zrd_n (by omega)]) (by rw [zrd_q ⟨rfl, rfl⟩]) (fun j j0 j1 => by omega)
  · have p140 : Y 140 = X 140 := t.1 140 (by omega)
    refine letter_M (L := X 3) hG hl.2.1 hl.2.2 (by rw [p140]; exact hl.1) (fun j j0 j1 => by rw [p140]; exact hb j j0 j1) hJ (fun j1 => absurd j1 (by omega)) (fun _ Z m => ?_)
    exact ⟨rfl, zTt h t m (by omega) (by omega)⟩
