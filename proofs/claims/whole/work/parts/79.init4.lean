/-! ===== what is told, made anew: the rows of houses and pages, and all (wip/whole/gen_init.py) ===== -/
theorem zk0_l {b : Int} (h : zk0 b = 3 ∨ zk0 b = 4) (b1 : 0 ≤ b) (b2 : b < 103) : zl0 b = 0 := by
  have key : ∀ n : Fin 103, (zk0 (n.val : Int) = 3 ∨ zk0 (n.val : Int) = 4) → zl0 (n.val : Int) = 0 := by decide +kernel
  have z := key ⟨b.toNat, by omega⟩
  simp only [Int.toNat_of_nonneg b1] at z
  exact z h
theorem zr0_t1 {j : Int} (j0 : 11 ≤ j) : zr0 1 j = -1 := by
  by_cases c : 17 ≤ j
  · exact zr0_hi (by omega) (by omega) c
  · have key : ∀ m : Fin 17, 11 ≤ m.val → zr0 1 (m.val : Int) = -1 := by decide +kernel
    have z := key ⟨j.toNat, by omega⟩ (by show 11 ≤ j.toNat; omega)
    simp only [Int.toNat_of_nonneg (by omega : 0 ≤ j)] at z
    exact z
theorem zr0_t7 {j : Int} (j0 : 5 ≤ j) : zr0 7 j = -1 := by
  by_cases c : 17 ≤ j
  · exact zr0_hi (by omega) (by omega) c
  · have key : ∀ m : Fin 17, 5 ≤ m.val → zr0 7 (m.val : Int) = -1 := by decide +kernel
    have z := key ⟨j.toNat, by omega⟩ (by show 5 ≤ j.toNat; omega)
    simp only [Int.toNat_of_nonneg (by omega : 0 ≤ j)] at z
    exact z
theorem zr0_t8 {j : Int} (j0 : 10 ≤ j) : zr0 8 j = -1 := by
  by_cases c : 17 ≤ j
  · exact zr0_hi (by omega) (by omega) c
  · have key : ∀ m : Fin 17, 10 ≤ m.val → zr0 8 (m.val : Int) = -1 := by decide +kernel
    have z := key ⟨j.toNat, by omega⟩ (by show 10 ≤ j.toNat; omega)
    simp only [Int.toNat_of_nonneg (by omega : 0 ≤ j)] at z
    exact z
/-- the houses -/
theorem toH {LC LS : Nat} {Q : List zV → zG → zX → Prop} {U : zX} {G0 : zG} {X0 : zX} {t : Int} {F : Int → Int} (t0 : 0 ≤ t) (F1 : F 1 = t + 6) (q : ∀ (G : zG) (X : zX) (s : Nat), zFn U G0 X0 G X t 52 s 52 → zrx G (t + 0) = F → (∀ j : Int, 0 ≤ j → j < 5 → zrx G (t + 6) j = t + 22 + 6 * j) → (∀ j : Int, 5 ≤ j → zrx G (t + 6) j = -1) → zrx G (t + 7) = (fun _ => -1) → ztt G + 1850 = LS → zsz G + 50 = LC → To_init_W LC LS Q 187 [zR (t + 0), zI 0] [] G X) : ∀ (m : Nat) (x : Int) (G : zG) (X : zX) (s : Nat), x + m = 5 → 0 ≤ x → zFn U G0 X0 G X t (22 + 6 * x) s (22 + 6 * x) → zrx G (t + 0) = F → (∀ j : Int, 0 ≤ j → j < x → zrx G (t + 6) j = t + 22 + 6 * j) → (∀ j : Int, x ≤ j → zrx G (t + 6) j = -1) → zrx G (t + 7) = (fun _ => -1) → ztt G + 150 * m + 1850 = LS → zsz G + 6 * m + 50 = LC → To_init_W LC LS Q 157 [zR (t + 0), zI x] [] G X := by
  intro m
  induction m with
  | zero =>
    intro x G X s em x0 f hF h6 h6n h7 hS hC
    obtain rfl : x = 5 := by omega
    refine To_init_e157 ?_
    rw [hF, F1, zFn_k f (i := 0) (c := 1) (by omega) (by omega) (by decide +kernel), zFn_k f (i := 6) (c := 55) (by omega) (by omega) (by decide +kernel), zFn_l f (i := 6) (c := 5) (by omega) (by omega) (by decide +kernel)]
    exact ⟨rfl, by omega, by omega, fun z => absurd z (by omega), fun _ => q G X s f hF h6 h6n h7 (by omega) (by omega)⟩
  | succ m ih =>
    intro x G X s em x0 f hF h6 h6n h7 hS hC
    have g1 := f.1
    have ho := (zHo_at x0 (by omega : x < 5)).2
    rw [show 23 + 6 * x = 1 + (22 + 6 * x) by omega] at ho
    have hn := zFn_new (k := 3) (l := 0) (c := 4) f (by omega) (by omega) ho (zk0_l (Or.inl ho) (by omega) (by omega))
    refine To_init_e157 ?_
    rw [hF, F1, zFn_k f (i := 0) (c := 1) (by omega) (by omega) (by decide +kernel), zFn_k f (i := 6) (c := 55) (by omega) (by omega) (by decide +kernel), zFn_l f (i := 6) (c := 5) (by omega) (by omega) (by decide +kernel), g1]
    obtain ⟨H, eH⟩ : ∃ H : zG, H = znG G 3 0 4 := ⟨_, rfl⟩
    rw [← eH] at hn ⊢
    have frH : zrx H (t + (22 + 6 * x)) = fun _ => -1 := by rw [eH, ← g1, znG_rs]
    have hH1 : zsz H = zsz G + 1 := by rw [eH]; rfl
    have hH2 : ztt H = ztt G + 4 := by rw [eH]; rfl
    refine ⟨rfl, by omega, by omega, fun _ => ⟨by omega, by omega, zFn_k hn (by omega) (by omega) ho, zsz H + 5, ztt H + 146, by omega, by omega, by omega, by omega, hoI hn t0 (by omega) rfl ho (by omega) frH rfl rfl (fun K Z fk rk ck sk => ⟨ck, sk, rfl, zFn_k fk (i := 6) (by omega) (by omega) (by decide +kernel), x0, by rw [zFn_l fk (i := 6) (c := 5) (by omega) (by omega) (by decide +kernel)]; omega, zFn_k fk (by omega) (by omega) ho, ?_⟩)⟩, fun z => absurd z (by omega)⟩
    rw [zw_id (by omega) (by omega)]
    have o : ∀ b : Int, b < t + (22 + 6 * x) → zrx K b = zrx G b := fun b hb => by rw [rk b hb, eH, znG_r (by omega)]
    have fk2 : zFn U G0 X0 K Z t (22 + 6 * (x + 1)) (s + 4 + 146) (22 + 6 * (x + 1)) := by
      rw [show 22 + 6 * (x + 1) = 22 + 6 * x + 6 by omega]
      rw [show 22 + 6 * x + 1 + 5 = 22 + 6 * x + 6 by omega] at fk
      exact fk
    refine ih (x + 1) _ Z _ (by omega) (by omega) (zFn_ref (i := 6) fk2 rfl (by omega) (by omega)) ?_ (fun j j0 j1 => ?_) (fun j j0 => ?_) ?_ (by show ztt K + 150 * m + 1850 = LS; omega) (by show zsz K + 6 * m + 50 = LC; omega)
    · rw [zrs_g (by omega), o _ (by omega), hF]
    · rw [zrs_f, o _ (by omega)]
      by_cases c : j = x
      · rw [c, zup_s]
        omega
      · rw [zup_n c]
        exact h6 j j0 (by omega)
    · rw [zrs_f, o _ (by omega), zup_n (by omega)]
      exact h6n j (by omega)
    · rw [zrs_g (by omega), o _ (by omega), h7]
/-- the pages -/
theorem toP {LC LS : Nat} {Q : List zV → zG → zX → Prop} {U : zX} {G0 : zG} {X0 : zX} {t : Int} {F : Int → Int} (t0 : 0 ≤ t) (F2 : F 2 = t + 7) (q : ∀ (G : zG) (X : zX) (s : Nat), zFn U G0 X0 G X t 102 s 102 → zrx G (t + 0) = F → (∀ j : Int, 0 ≤ j → j < 5 → zrx G (t + 6) j = t + 22 + 6 * j) → (∀ j : Int, 5 ≤ j → zrx G (t + 6) j = -1) → (∀ j : Int, 0 ≤ j → j < 10 → zrx G (t + 7) j = t + 52 + 5 * j) → (∀ j : Int, 10 ≤ j → zrx G (t + 7) j = -1) → ztt G = LS → zsz G = LC → To_init_W LC LS Q 217 [zR (t + 0), zI 0] [] G X) : ∀ (m : Nat) (x : Int) (G : zG) (X : zX) (s : Nat), x + m = 10 → 0 ≤ x → zFn U G0 X0 G X t (52 + 5 * x) s (52 + 5 * x) → zrx G (t + 0) = F → (∀ j : Int, 0 ≤ j → j < 5 → zrx G (t + 6) j = t + 22 + 6 * j) → (∀ j : Int, 5 ≤ j → zrx G (t + 6) j = -1) → (∀ j : Int, 0 ≤ j → j < x → zrx G (t + 7) j = t + 52 + 5 * j) → (∀ j : Int, x ≤ j → zrx G (t + 7) j = -1) → ztt G + 185 * m = LS → zsz G + 5 * m = LC → To_init_W LC LS Q 187 [zR (t + 0), zI x] [] G X := by
  intro m
  induction m with
  | zero =>
    intro x G X s em x0 f hF h6 h6n h7 h7n hS hC
    obtain rfl : x = 10 := by omega
    refine To_init_e187 ?_
    rw [hF, F2, zFn_k f (i := 0) (c := 1) (by omega) (by omega) (by decide +kernel), zFn_k f (i := 7) (c := 56) (by omega) (by omega) (by decide +kernel), zFn_l f (i := 7) (c := 10) (by omega) (by omega) (by decide +kernel)]
    exact ⟨rfl, by omega, by omega, fun z => absurd z (by omega), fun _ => q G X s f hF h6 h6n h7 h7n (by omega) (by omega)⟩
  | succ m ih =>
    intro x G X s em x0 f hF h6 h6n h7 h7n hS hC
    have g1 := f.1
    have ho := (zCa_at x0 (by omega : x < 10)).2
    rw [show 53 + 5 * x = 1 + (52 + 5 * x) by omega] at ho
    have hn := zFn_new (k := 4) (l := 0) (c := 9) f (by omega) (by omega) ho (zk0_l (Or.inr ho) (by omega) (by omega))
    refine To_init_e187 ?_
    rw [hF, F2, zFn_k f (i := 0) (c := 1) (by omega) (by omega) (by decide +kernel), zFn_k f (i := 7) (c := 56) (by omega) (by omega) (by decide +kernel), zFn_l f (i := 7) (c := 10) (by omega) (by omega) (by decide +kernel), g1]
    obtain ⟨H, eH⟩ : ∃ H : zG, H = znG G 4 0 9 := ⟨_, rfl⟩
    rw [← eH] at hn ⊢
    have frH : zrx H (t + (52 + 5 * x)) = fun _ => -1 := by rw [eH, ← g1, znG_rs]
    have hH1 : zsz H = zsz G + 1 := by rw [eH]; rfl
    have hH2 : ztt H = ztt G + 9 := by rw [eH]; rfl
    refine ⟨rfl, by omega, by omega, fun _ => ⟨by omega, by omega, zFn_k hn (by omega) (by omega) ho, zsz H + 4, ztt H + 176, by omega, by omega, by omega, by omega, caI hn t0 (by omega) rfl ho (by omega) frH rfl rfl (fun K Z fk rk ck sk => ⟨ck, sk, rfl, zFn_k fk (i := 7) (by omega) (by omega) (by decide +kernel), x0, by rw [zFn_l fk (i := 7) (c := 10) (by omega) (by omega) (by decide +kernel)]; omega, zFn_k fk (by omega) (by omega) ho, ?_⟩)⟩, fun z => absurd z (by omega)⟩
    rw [zw_id (by omega) (by omega)]
    have o : ∀ b : Int, b < t + (52 + 5 * x) → zrx K b = zrx G b := fun b hb => by rw [rk b hb, eH, znG_r (by omega)]
    have fk2 : zFn U G0 X0 K Z t (52 + 5 * (x + 1)) (s + 9 + 176) (52 + 5 * (x + 1)) := by
      rw [show 52 + 5 * (x + 1) = 52 + 5 * x + 5 by omega]
      rw [show 52 + 5 * x + 1 + 4 = 52 + 5 * x + 5 by omega] at fk
      exact fk
    refine ih (x + 1) _ Z _ (by omega) (by omega) (zFn_ref (i := 7) fk2 rfl (by omega) (by omega)) ?_ (fun j j0 j1 => ?_) (fun j j0 => ?_) (fun j j0 j1 => ?_) (fun j j0 => ?_) (by show ztt K + 185 * m = LS; omega) (by show zsz K + 5 * m = LC; omega)
    · rw [zrs_g (by omega), o _ (by omega), hF]
    · rw [zrs_g (by omega), o _ (by omega)]
      exact h6 j j0 j1
    · rw [zrs_g (by omega), o _ (by omega)]
      exact h6n j j0
    · rw [zrs_f, o _ (by omega)]
      by_cases c : j = x
      · rw [c, zup_s]
        omega
      · rw [zup_n c]
        exact h7 j j0 (by omega)
    · rw [zrs_f, o _ (by omega), zup_n (by omega)]
      exact h7n j (by omega)
/-- the numbers -/
theorem toN {LC LS : Nat} {Q : List zV → zG → zX → Prop} {U : zX} {G0 G : zG} {X0 : zX} {t : Int} {s : Nat} {F : Int → Int} (F8 : F 8 = t + 19) (F9 : F 9 = t + 20) (F10 : F 10 = t + 21) (hF : zrx G (t + 0) = F) (q : ∀ X V : zX, zFn V G0 X0 G X t 102 s 102 → (∀ i : Int, i ≠ 19 → i ≠ 20 → i ≠ 21 → V i = U i) → (∀ j : Int, 0 ≤ j → j < 1296 → V 19 j = 6) → (∀ j : Int, 0 ≤ j → j < 10 → V 20 j = -1 ∧ V 21 j = -1) → Q [] G X) : ∀ (X : zX), zFn U G0 X0 G X t 102 s 102 → To_init_W LC LS Q 217 [zR (t + 0), zI 0] [] G X := by
  have lp2 : ∀ (m : Nat) (x : Int) (X V : zX), x + m = 10 → 0 ≤ x → zFn V G0 X0 G X t 102 s 102 → (∀ i : Int, i ≠ 19 → i ≠ 20 → i ≠ 21 → V i = U i) → (∀ j : Int, 0 ≤ j → j < 1296 → V 19 j = 6) → (∀ j : Int, 0 ≤ j → j < x → V 20 j = -1 ∧ V 21 j = -1) → To_init_W LC LS Q 242 [zR (t + 0), zI x] [] G X := by
    intro m
    induction m with
    | zero =>
      intro x X V em x0 f v1 v2 v3
      exact To_init_e242 ⟨fun z => absurd z (by omega), fun _ => q X V f v1 v2 (fun j j0 j1 => v3 j j0 (by omega))⟩
    | succ m ih =>
      intro x X V em x0 f v1 v2 v3
      refine To_init_e242 ?_
      rw [hF, F9, F10, zFn_k f (i := 0) (c := 1) (by omega) (by omega) (by decide +kernel), zFn_k f (i := 20) (c := 50) (by omega) (by omega) (by decide +kernel), zFn_l f (i := 20) (c := 10) (by omega) (by omega) (by decide +kernel), zFn_k f (i := 21) (c := 50) (by omega) (by omega) (by decide +kernel), zFn_l f (i := 21) (c := 10) (by omega) (by omega) (by decide +kernel), zw_id (by omega) (by omega)]
      refine ⟨fun _ => ⟨rfl, rfl, x0, by omega, rfl, by omega, ih (x + 1) _ (zst (zst V 20 x (-1)) 21 x (-1)) (by omega) (by omega) (zFn_num (i := 21) (zFn_num (i := 20) f rfl (by omega) (by omega)) rfl (by omega) (by omega)) (fun i i1 i2 i3 => ?_) (fun j j0 j1 => ?_) (fun j j0 j1 => ?_)⟩, fun z => absurd z (by omega)⟩
      · rw [zst_n i3, zst_n i2]
        exact v1 i i1 i2 i3
      · rw [zst_n (by omega), zst_n (by omega)]
        exact v2 j j0 j1
      · rw [zst_n (a := 21) (b := 20) (by omega), zst_row, zst_row, zst_n (a := 20) (b := 21) (by omega)]
        by_cases c : j = x
        · rw [c, zup_s, zup_s]
          exact ⟨rfl, rfl⟩
        · rw [zup_n c, zup_n c]
          exact v3 j j0 (by omega)
  have lp1 : ∀ (m : Nat) (x : Int) (X V : zX), x + m = 1296 → 0 ≤ x → zFn V G0 X0 G X t 102 s 102 → (∀ i : Int, i ≠ 19 → i ≠ 20 → i ≠ 21 → V i = U i) → (∀ j : Int, 0 ≤ j → j < x → V 19 j = 6) → To_init_W LC LS Q 217 [zR (t + 0), zI x] [] G X := by
    intro m
    induction m with
    | zero =>
      intro x X V em x0 f v1 v2
      refine To_init_e217 ?_
      rw [hF, F8, zFn_k f (i := 0) (c := 1) (by omega) (by omega) (by decide +kernel), zFn_k f (i := 19) (c := 50) (by omega) (by omega) (by decide +kernel), zFn_l f (i := 19) (c := 1296) (by omega) (by omega) (by decide +kernel)]
      exact ⟨rfl, by omega, by omega, fun z => absurd z (by omega), fun _ => lp2 10 0 X V (by omega) (Int.le_refl _) f v1 (fun j j0 j1 => v2 j j0 (by omega)) (fun j j0 j1 => absurd j1 (by omega))⟩
    | succ m ih =>
      intro x X V em x0 f v1 v2
      refine To_init_e217 ?_
      rw [hF, F8, zFn_k f (i := 0) (c := 1) (by omega) (by omega) (by decide +kernel), zFn_k f (i := 19) (c := 50) (by omega) (by omega) (by decide +kernel), zFn_l f (i := 19) (c := 1296) (by omega) (by omega) (by decide +kernel), zw_id (by omega) (by omega)]
      refine ⟨rfl, by omega, by omega, fun _ => ⟨rfl, x0, by omega, ih (x + 1) _ (zst V 19 x 6) (by omega) (by omega) (zFn_num (i := 19) f rfl (by omega) (by omega)) (fun i i1 i2 i3 => ?_) (fun j j0 j1 => ?_)⟩, fun z => absurd z (by omega)⟩
      · rw [zst_n i1]
        exact v1 i i1 i2 i3
      · rw [zst_row]
        by_cases c : j = x
        · rw [c, zup_s]
        · rw [zup_n c]
          exact v2 j j0 (by omega)
  exact fun X f => lp1 1296 0 X U (by omega) (Int.le_refl _) f (fun _ _ _ _ => rfl) (fun j j0 j1 => absurd j1 (by omega))
def zFF (t : Int) : Int → Int := (zup (zup (zup (zup (zup (zup (zup (zup (zup (zup (zup (fun _ => -1) 0 (t + 1)) 1 (t + 6)) 2 (t + 7)) 3 (t + 8)) 4 (t + 15)) 5 (t + 16)) 6 (t + 17)) 7 (t + 18)) 8 (t + 19)) 9 (t + 20)) 10 (t + 21))
theorem zFF_0 (t : Int) : zFF t 0 = t + 1 := by unfold zFF; rw [zup_n (by omega), zup_n (by omega), zup_n (by omega), zup_n (by omega), zup_n (by omega), zup_n (by omega), zup_n (by omega), zup_n (by omega), zup_n (by omega), zup_n (by omega), zup_s]
theorem zFF_1 (t : Int) : zFF t 1 = t + 6 := by unfold zFF; rw [zup_n (by omega), zup_n (by omega), zup_n (by omega), zup_n (by omega), zup_n (by omega), zup_n (by omega), zup_n (by omega), zup_n (by omega), zup_n (by omega), zup_s]
theorem zFF_2 (t : Int) : zFF t 2 = t + 7 := by unfold zFF; rw [zup_n (by omega), zup_n (by omega), zup_n (by omega), zup_n (by omega), zup_n (by omega), zup_n (by omega), zup_n (by omega), zup_n (by omega), zup_s]
theorem zFF_3 (t : Int) : zFF t 3 = t + 8 := by unfold zFF; rw [zup_n (by omega), zup_n (by omega), zup_n (by omega), zup_n (by omega), zup_n (by omega), zup_n (by omega), zup_n (by omega), zup_s]
theorem zFF_4 (t : Int) : zFF t 4 = t + 15 := by unfold zFF; rw [zup_n (by omega), zup_n (by omega), zup_n (by omega), zup_n (by omega), zup_n (by omega), zup_n (by omega), zup_s]
theorem zFF_5 (t : Int) : zFF t 5 = t + 16 := by unfold zFF; rw [zup_n (by omega), zup_n (by omega), zup_n (by omega), zup_n (by omega), zup_n (by omega), zup_s]
theorem zFF_6 (t : Int) : zFF t 6 = t + 17 := by unfold zFF; rw [zup_n (by omega), zup_n (by omega), zup_n (by omega), zup_n (by omega), zup_s]
theorem zFF_7 (t : Int) : zFF t 7 = t + 18 := by unfold zFF; rw [zup_n (by omega), zup_n (by omega), zup_n (by omega), zup_s]
theorem zFF_8 (t : Int) : zFF t 8 = t + 19 := by unfold zFF; rw [zup_n (by omega), zup_n (by omega), zup_s]
theorem zFF_9 (t : Int) : zFF t 9 = t + 20 := by unfold zFF; rw [zup_n (by omega), zup_s]
theorem zFF_10 (t : Int) : zFF t 10 = t + 21 := by unfold zFF; rw [zup_s]
theorem zFF_n {t j : Int} (h : 11 ≤ j) : zFF t j = -1 := by unfold zFF; rw [zup_n (by omega), zup_n (by omega), zup_n (by omega), zup_n (by omega), zup_n (by omega), zup_n (by omega), zup_n (by omega), zup_n (by omega), zup_n (by omega), zup_n (by omega), zup_n (by omega)]
/-- the numbers of what is told, as they are made -/
def zTn (U V : zX) : Prop := (∀ i : Int, i ≠ 19 → i ≠ 20 → i ≠ 21 → V i = zUa U i) ∧ (∀ j : Int, 0 ≤ j → j < 1296 → V 19 j = 6) ∧ (∀ j : Int, 0 ≤ j → j < 10 → V 20 j = -1 ∧ V 21 j = -1)
theorem toI {LC LS : Nat} {Q : List zV → zG → zX → Prop} {U : zX} {G0 G : zG} {X0 X : zX} {t : Int} {s : Nat} (h : zFn U G0 X0 G X t 1 s 1) (t0 : 0 ≤ t) (fr : zrx G (t + 0) = fun _ => -1) (hC : zsz G + 101 = LC) (hS : ztt G + 5249 = LS) (q : ∀ (G2 : zG) (X2 V : zX) (s2 : Nat), zsz G2 = LC → ztt G2 = LS → (∀ b : Int, 1 ≤ b → b < 103 → zkd G2 (b + (t - 1)) = zk0 b ∧ zln G2 (b + (t - 1)) = zl0 b ∧ ∀ j : Int, 0 ≤ j → zrx G2 (b + (t - 1)) j = (if zr0 b j = -1 then -1 else zr0 b j + (t - 1))) → (∀ b : Int, b < t → zkd G2 b = zkd G0 b ∧ zln G2 b = zln G0 b ∧ zrx G2 b = zrx G0 b ∧ X2 b = X0 b) → zFn V G0 X0 G2 X2 t 102 s2 102 → zTn U V → Q [] G2 X2) : To_init LC LS [zR (t + 0)] G X Q := by
  have h1 := h.1
  have h2 := h.2.1
  refine to157 h t0 fr hC hS (fun G2 X2 f2 r0 r6 r7 => ?_)
  have g1 := f2.1
  have g2 := f2.2.1
  have r0' : zrx G2 (t + 0) = zFF t := r0
  refine toH (F := zFF t) t0 (zFF_1 t) (fun G3 X3 s3 f3 e0 e6 e6n e7 hS3 hC3 => ?_) 5 0 G2 X2 _ (by omega) (Int.le_refl _) f2 r0' (fun j j0 j1 => absurd j1 (by omega)) (fun j _ => by rw [r6]) r7 (by omega) (by omega)
  refine toP (F := zFF t) t0 (zFF_2 t) (fun G4 X4 s4 f4 i0 i6 i6n i7 i7n hS4 hC4 => ?_) 10 0 G3 X3 _ (by omega) (Int.le_refl _) f3 e0 e6 e6n (fun j j0 j1 => absurd j1 (by omega)) (fun j _ => by rw [e7]) (by omega) (by omega)
  refine toN (F := zFF t) (zFF_8 t) (zFF_9 t) (zFF_10 t) i0 (fun X5 V f5 v1 v2 v3 => q G4 X5 V s4 hC4 hS4 (fun b b0 b1 => ?_) f5.2.2.1 f5 ⟨v1, v2, v3⟩) X4 f4
  have z := f5.2.2.2.1 (b - 1) (by omega) (by omega)
  rw [show t + (b - 1) = b + (t - 1) by omega, show 1 + (b - 1) = b by omega] at z
  refine ⟨z.1, z.2.1, fun j j0 => ?_⟩
  by_cases c0 : b = 1
  · rw [c0, show (1 : Int) + (t - 1) = t + 0 by omega, i0]
    by_cases c0 : j = 0
    · rw [c0]
      exact zIb (r := 2) (by decide +kernel) (by omega) (by rw [zFF_0]; omega)
    · skip
      by_cases c1 : j = 1
      · rw [c1]
        exact zIb (r := 7) (by decide +kernel) (by omega) (by rw [zFF_1]; omega)
      · skip
        by_cases c2 : j = 2
        · rw [c2]
          exact zIb (r := 8) (by decide +kernel) (by omega) (by rw [zFF_2]; omega)
        · skip
          by_cases c3 : j = 3
          · rw [c3]
            exact zIb (r := 9) (by decide +kernel) (by omega) (by rw [zFF_3]; omega)
          · skip
            by_cases c4 : j = 4
            · rw [c4]
              exact zIb (r := 16) (by decide +kernel) (by omega) (by rw [zFF_4]; omega)
            · skip
              by_cases c5 : j = 5
              · rw [c5]
                exact zIb (r := 17) (by decide +kernel) (by omega) (by rw [zFF_5]; omega)
              · skip
                by_cases c6 : j = 6
                · rw [c6]
                  exact zIb (r := 18) (by decide +kernel) (by omega) (by rw [zFF_6]; omega)
                · skip
                  by_cases c7 : j = 7
                  · rw [c7]
                    exact zIb (r := 19) (by decide +kernel) (by omega) (by rw [zFF_7]; omega)
                  · skip
                    by_cases c8 : j = 8
                    · rw [c8]
                      exact zIb (r := 20) (by decide +kernel) (by omega) (by rw [zFF_8]; omega)
                    · skip
                      by_cases c9 : j = 9
                      · rw [c9]
                        exact zIb (r := 21) (by decide +kernel) (by omega) (by rw [zFF_9]; omega)
                      · skip
                        by_cases c10 : j = 10
                        · rw [c10]
                          exact zIb (r := 22) (by decide +kernel) (by omega) (by rw [zFF_10]; omega)
                        · skip
                          rw [zFF_n (by omega)]
                          exact zIa (zr0_t1 (by omega)) rfl
  · by_cases c6 : b = 7
    · rw [c6, show (7 : Int) + (t - 1) = t + 6 by omega]
      by_cases j5 : j < 5
      · exact zIb (zHo_at j0 j5).1 (by omega) (by rw [i6 j j0 j5]; omega)
      · exact zIa (zr0_t7 (by omega)) (i6n j (by omega))
    · by_cases c7 : b = 8
      · rw [c7, show (8 : Int) + (t - 1) = t + 7 by omega]
        by_cases j5 : j < 10
        · exact zIb (zCa_at j0 j5).1 (by omega) (by rw [i7 j j0 j5]; omega)
        · exact zIa (zr0_t8 (by omega)) (i7n j (by omega))
      · exact z.2.2 (by omega) (by omega) (by omega) (by omega) j j0
