/-! ===== pass, met: what a FORGER can do ===== -/
theorem zFot_c {r r2 : Int → Int} {cnt : Nat} {land day : Int} (c14 : cnt ≤ 14) (hw : ∀ k : Nat, k < cnt → -1 ≤ r (5 * k + 2) ∧ r (5 * k + 2) < k) (pre : zPre r cnt) (e : ∀ j : Int, 0 ≤ j → j < 5 * (cnt : Int) → r2 j = r j) : zFot r2 cnt land day = zFot r cnt land day := by
  obtain ⟨X, b, a, tx, op⟩ := zOp_ex (r := r) (land := land) (day := day) c14 hw pre
  have ct : ∀ k : Nat, k ≤ cnt → zCt r2 (X (105 + 5)) k = zCt r (X (105 + 5)) k := by
    intro k
    induction k with
    | zero => exact fun _ => rfl
    | succ k ih =>
      intro hk
      have z := ih (by omega)
      have e0 : r2 (5 * (k : Int)) = r (5 * (k : Int)) := e _ (by omega) (by omega)
      show zCt r2 (X (105 + 5)) k + (if X (105 + 5) k ≠ -1 ∧ r2 (5 * (k : Int)) ≠ 8 then 1 else 0) = zCt r (X (105 + 5)) k + (if X (105 + 5) k ≠ -1 ∧ r (5 * (k : Int)) ≠ 8 then 1 else 0)
      rw [z, e0]
  have tx2 : zOtx X 105 r2 cnt land day := by
    obtain ⟨t1, t2, t3, t4, t5⟩ := tx
    refine ⟨by rw [ct cnt (Nat.le_refl _)]; exact t1, t2, t3, t4, fun k hk => ?_⟩
    have z := t5 k hk
    have e0 : r2 (5 * (k : Int)) = r (5 * (k : Int)) := e _ (by omega) (by omega)
    have e1 : r2 (5 * (k : Int) + 1) = r (5 * (k : Int) + 1) := e _ (by omega) (by omega)
    have e2 : r2 (5 * (k : Int) + 2) = r (5 * (k : Int) + 2) := e _ (by omega) (by omega)
    have e3 : r2 (5 * (k : Int) + 3) = r (5 * (k : Int) + 3) := e _ (by omega) (by omega)
    have e4 : r2 (5 * (k : Int) + 4) = r (5 * (k : Int) + 4) := e _ (by omega) (by omega)
    unfold zOtb zPr zSw at z ⊢
    rw [e0, e1, e2, e3, e4, ct k (by omega)]
    exact z
  have op2 : zOpn X 105 (zCt r2 (X (105 + 5)) cnt) b a := by
    rw [ct cnt (Nat.le_refl _)]
    exact op
  rw [← zFot_e tx2 op2, ct cnt (Nat.le_refl _), zFot_e tx op]
/-- a text's row, its waits and its price with a set of CHANGES -/
def zFg (R C : Int → Int) (x : Int) : Nat → (Int → Int)
  | 0 => R
  | k + 1 => if zand (zshr x (k : Int)) 1 = 0 ∨ C (4 * (k : Int)) = 2 then zFg R C x k else if C (4 * (k : Int)) = 0 then zup (zFg R C x k) (5 * C (4 * (k : Int) + 1)) 8 else zup (zFg R C x k) (5 * C (4 * (k : Int) + 1) + 1) (C (4 * (k : Int) + 2))
def zFwt (C : Int → Int) (x : Int) : Nat → Int
  | 0 => 0
  | k + 1 => if zand (zshr x (k : Int)) 1 ≠ 0 ∧ C (4 * (k : Int)) = 2 then zFwt C x k + C (4 * (k : Int) + 2) else zFwt C x k
def zFpr (C : Int → Int) (x : Int) : Nat → Int
  | 0 => 0
  | k + 1 => if zand (zshr x (k : Int)) 1 ≠ 0 then zFpr C x k + C (4 * (k : Int) + 3) else zFpr C x k
/-- what CHANGES are told by -/
def zChs (C : Int → Int) (n : Nat) : Prop := ∀ k : Nat, k < n → (0 ≤ C (4 * (k : Int)) ∧ C (4 * (k : Int)) ≤ 2) ∧ (C (4 * (k : Int)) ≠ 2 → 0 ≤ C (4 * (k : Int) + 1) ∧ C (4 * (k : Int) + 1) ≤ 13) ∧ (C (4 * (k : Int)) ≠ 0 → 0 ≤ C (4 * (k : Int) + 2) ∧ C (4 * (k : Int) + 2) ≤ 99) ∧ 1 ≤ C (4 * (k : Int) + 3) ∧ C (4 * (k : Int) + 3) ≤ 99
theorem zFg_l {R C : Int → Int} {x : Int} : ∀ (k : Nat) (i j : Int), 2 ≤ j → j ≤ 4 → zFg R C x k (5 * i + j) = R (5 * i + j)
  | 0, i, j, _, _ => rfl
  | k + 1, i, j, j0, j1 => by
    have z := zFg_l (R := R) (C := C) (x := x) k i j j0 j1
    unfold zFg
    by_cases c : zand (zshr x (k : Int)) 1 = 0 ∨ C (4 * (k : Int)) = 2
    · rw [if_pos c]
      exact z
    · rw [if_neg c]
      by_cases d : C (4 * (k : Int)) = 0
      · rw [if_pos d, zup_n (by omega)]
        exact z
      · rw [if_neg d, zup_n (by omega)]
        exact z
theorem zFg_k {R C : Int → Int} {x : Int} : ∀ (k : Nat) (i : Int), zFg R C x k (5 * i) = 8 ∨ zFg R C x k (5 * i) = R (5 * i)
  | 0, i => Or.inr rfl
  | k + 1, i => by
    have z := zFg_k (R := R) (C := C) (x := x) k i
    unfold zFg
    by_cases c : zand (zshr x (k : Int)) 1 = 0 ∨ C (4 * (k : Int)) = 2
    · rw [if_pos c]
      exact z
    · rw [if_neg c]
      by_cases d : C (4 * (k : Int)) = 0
      · rw [if_pos d]
        by_cases e : 5 * i = 5 * C (4 * (k : Int) + 1)
        · rw [e, zup_s]
          exact Or.inl rfl
        · rw [zup_n e]
          exact z
      · rw [if_neg d, zup_n (by omega)]
        exact z
theorem zFwt_in {C : Int → Int} {x : Int} {n : Nat} (h : zChs C n) : ∀ k : Nat, k ≤ n → 0 ≤ zFwt C x k ∧ zFwt C x k ≤ 99 * k
  | 0, _ => by
    show (0 : Int) ≤ 0 ∧ (0 : Int) ≤ 99 * ((0 : Nat) : Int)
    omega
  | k + 1, hk => by
    have z := zFwt_in (x := x) h k (by omega)
    have c := h k (by omega)
    unfold zFwt
    by_cases d : zand (zshr x (k : Int)) 1 ≠ 0 ∧ C (4 * (k : Int)) = 2
    · rw [if_pos d]
      have y := c.2.2.1 (by omega)
      omega
    · rw [if_neg d]
      omega
theorem zFpr_in {C : Int → Int} {x : Int} {n : Nat} (h : zChs C n) : ∀ k : Nat, k ≤ n → 0 ≤ zFpr C x k ∧ zFpr C x k ≤ 99 * k
  | 0, _ => by
    show (0 : Int) ≤ 0 ∧ (0 : Int) ≤ 99 * ((0 : Nat) : Int)
    omega
  | k + 1, hk => by
    have z := zFpr_in (x := x) h k (by omega)
    have c := h k (by omega)
    unfold zFpr
    by_cases d : zand (zshr x (k : Int)) 1 ≠ 0
    · rw [if_pos d]
      omega
    · rw [if_neg d]
      omega
theorem chs_in {X : zX} {p : Int} (h : zRT X 1 0) (p0 : 0 ≤ p) (p1 : p < 10) : X 140 (2685 + 210 * p) = X (53 + 5 * p) 7 ∧ 0 ≤ X (53 + 5 * p) 7 ∧ X (53 + 5 * p) 7 ≤ 6 ∧ zChs (X (56 + 5 * p)) (X (53 + 5 * p) 7).toNat ∧ (∀ k : Nat, (k : Int) < X (53 + 5 * p) 7 → X 140 (2686 + 210 * p + 4 * (k : Int)) = X (56 + 5 * p) (4 * (k : Int)) ∧ (X (56 + 5 * p) (4 * (k : Int)) ≠ 2 → X 140 (2686 + 210 * p + 4 * (k : Int) + 1) = X (56 + 5 * p) (4 * (k : Int) + 1)) ∧ (X (56 + 5 * p) (4 * (k : Int)) ≠ 0 → X 140 (2686 + 210 * p + 4 * (k : Int) + 2) = X (56 + 5 * p) (4 * (k : Int) + 2)) ∧ X 140 (2686 + 210 * p + 4 * (k : Int) + 3) = X (56 + 5 * p) (4 * (k : Int) + 3)) := by
  have n := zR_chn h p p0 p1
  rw [show (0 : Int) + 2685 + 210 * p = 2685 + 210 * p by omega, show (1 : Int) + 52 + 5 * p = 53 + 5 * p by omega] at n
  have g : ∀ k : Nat, (k : Int) < X (53 + 5 * p) 7 → _ := fun k hk => zR_chg h p k p0 p1 (by omega) (by omega) (by rw [show (1 : Int) + 52 + 5 * p = 53 + 5 * p by omega]; exact hk)
  refine ⟨n.1, n.2.1, n.2.2, fun k hk => ?_, fun k hk => ?_⟩
  · have z := g k (by omega)
    rw [show (1 : Int) + 55 + 5 * p = 56 + 5 * p by omega] at z
    exact ⟨z.1.2, fun y => (z.2.1 y).2, fun y => (z.2.2.1 y).2, z.2.2.2.2⟩
  · have z := g k hk
    rw [show (1 : Int) + 55 + 5 * p = 56 + 5 * p by omega, show (0 : Int) + 2686 + 210 * p + 4 * (k : Int) = 2686 + 210 * p + 4 * (k : Int) by omega, show (0 : Int) + 2687 + 210 * p + 4 * (k : Int) = 2686 + 210 * p + 4 * (k : Int) + 1 by omega, show (0 : Int) + 2688 + 210 * p + 4 * (k : Int) = 2686 + 210 * p + 4 * (k : Int) + 2 by omega, show (0 : Int) + 2689 + 210 * p + 4 * (k : Int) = 2686 + 210 * p + 4 * (k : Int) + 3 by omega] at z
    exact ⟨z.1.1, fun y => (z.2.1 y).1, fun y => (z.2.2.1 y).1, z.2.2.2.1⟩
def zGn (X : zX) (p : Int) : Nat := (X (53 + 5 * p) 7).toNat
def zGr (X : zX) (p x : Int) : Int → Int := zFg (X (55 + 5 * p)) (X (56 + 5 * p)) x (zGn X p)
noncomputable def zGf (X : zX) (p x day : Int) : zFo := zFot (zGr X p x) (X (54 + 5 * p) 1).toNat 0 day
noncomputable def zGlk (X : zX) (p x day : Int) : Int × Int := zLi X (zGf X p x day) 0 day (X 1 11).toNat
noncomputable def zGa (X : zX) (p x day : Int) : Int := zAq (X 19) (zGf X p x day)
def zGw (X : zX) (p x : Int) : Int := zFwt (X (56 + 5 * p)) x (zGn X p)
def zGp (X : zX) (p x : Int) : Int := zFpr (X (56 + 5 * p)) x (zGn X p)
noncomputable def zGel (X : zX) (p x day : Int) : Int := zEw X (zGlk X p x day).1 (2670 + 210 * p)
noncomputable def zGs (X : zX) (p x day : Int) : Int := zSi X (zGlk X p x day).1 (zGlk X p x day).2 (zGa X p x day) (zGel X p x day) (zAge X p day + zGw X p x)
abbrev zGo (X : zX) (p x day k w : Int) : Prop := w ≤ zGa X p x day ∧ (zGlk X p x day).1 ≠ -1 ∧ (zGlk X p x day).2 ≤ k
theorem zSi_b {X Y : zX} (w : zWb X Y) : zSi Y = zSi X := by
  funext a b c d e
  unfold zSi zS4 zS2 zS1
  rw [w 1 (by omega)]
/-- a forged text is as a text should be -/
theorem zGr_in {X : zX} {p x : Int} (h : zRT X 1 0) (p0 : 0 ≤ p) (p1 : p < 10) : (X (54 + 5 * p) 1).toNat ≤ 14 ∧ (∀ k : Nat, k < (X (54 + 5 * p) 1).toNat → -1 ≤ zGr X p x (5 * k + 2) ∧ zGr X p x (5 * k + 2) < k) ∧ zPre (zGr X p x) (X (54 + 5 * p) 1).toNat ∧ (∀ k : Nat, k < (X (54 + 5 * p) 1).toNat → -1 ≤ zGr X p x (5 * k + 3)) ∧ (∀ k : Nat, k < (X (54 + 5 * p) 1).toNat → zGr X p x (5 * k) ≠ 8 → 0 ≤ zGr X p x (5 * k) ∧ zGr X p x (5 * k) ≤ 7) := by
  have t := txt_page h p0 p1
  have u := txt_pre t
  rw [show (1 : Int) + (54 + 5 * p) = 55 + 5 * p by omega] at u
  obtain ⟨u1, u2, u3, u4, u5⟩ := u
  have l : ∀ i j : Int, 2 ≤ j → j ≤ 4 → zGr X p x (5 * i + j) = X (55 + 5 * p) (5 * i + j) := fun i j a b => zFg_l _ i j a b
  refine ⟨u1, fun k hk => ?_, fun i j ij hj c => ?_, fun k hk => ?_, fun k hk c => ?_⟩
  · rw [l k 2 (by omega) (by omega)]
    exact u2 k hk
  · rw [l j 2 (by omega) (by omega)] at c ⊢
    rw [l i 2 (by omega) (by omega)]
    exact u3 i j ij hj c
  · rw [l k 3 (by omega) (by omega)]
    exact u4 k hk
  · have z : zGr X p x (5 * k) = 8 ∨ zGr X p x (5 * k) = X (55 + 5 * p) (5 * k) := zFg_k _ k
    rcases z with z | z
    · exact absurd z c
    · rw [z] at c ⊢
      exact u5 k hk c
theorem zGf_k {X : zX} {p x day : Int} (h : zRT X 1 0) (p0 : 0 ≤ p) (p1 : p < 10) : (∀ y, y ∈ zGf X p x day → 0 ≤ y.2.1 ∧ y.2.1 ≤ 7) ∧ (zGf X p x day).length ≤ 14 := by
  have z := zGr_in (x := x) h p0 p1
  exact zFot_k z.1 z.2.1 z.2.2.1 z.2.2.2.2
theorem zGlk_in {X : zX} {p x day : Int} (h : zRT X 1 0) : -1 ≤ (zGlk X p x day).1 ∧ (zGlk X p x day).1 < X 1 11 ∧ 0 ≤ (zGlk X p x day).2 ∧ (zGlk X p x day).2 ≤ 999 := by
  have z := zLi_in (X := X) (F := zGf X p x day) (land := 0) (day := day) (X 1 11).toNat
  have hh := q_houses h
  unfold zGlk
  omega
theorem zGw_in {X : zX} {p x : Int} (h : zRT X 1 0) (p0 : 0 ≤ p) (p1 : p < 10) : 0 ≤ zGw X p x ∧ zGw X p x ≤ 600 := by
  have c := chs_in h p0 p1
  have z := zFwt_in (x := x) c.2.2.2.1 _ (Nat.le_refl _)
  unfold zGw zGn
  omega
theorem zGp_in {X : zX} {p x : Int} (h : zRT X 1 0) (p0 : 0 ≤ p) (p1 : p < 10) : 0 ≤ zGp X p x ∧ zGp X p x ≤ 600 := by
  have c := chs_in h p0 p1
  have z := zFpr_in (x := x) c.2.2.2.1 _ (Nat.le_refl _)
  unfold zGp zGn
  omega
/-! the class's side -/
theorem priceOf_D {Q : List zV → zX → Prop} {G : zG} {X Y : zX} {p x : Int} (hG : SH G) (h : zRT X 1 0) (w : zWb X Y) (p0 : 0 ≤ p) (p1 : p < 10) (q : Q [zI (zGp X p x)] Y) : Fo_priceOf [zR 119, zR (53 + 5 * p), zI x] G Y Q := by
  have c := chs_in h p0 p1
  have hk := (zCa_at p0 p1).2
  have lp : ∀ (d k : Nat), k + d = zGn X p → Fo_priceOf_W Q 5 [zT, zR (53 + 5 * p), zI x, zI (zFpr (X (56 + 5 * p)) x k), zI (k : Int)] [] G Y := by
    intro d
    induction d with
    | zero =>
      intro k e
      have ek : k = zGn X p := by omega
      rw [ek]
      refine Fo_priceOf_f5 hG hk ?_
      rw [w (53 + 5 * p) (by omega)]
      exact ⟨fun z => absurd z (by unfold zGn; omega), fun _ => q⟩
    | succ d ih =>
      intro k e
      have kn : (k : Int) < X (53 + 5 * p) 7 := by unfold zGn at e; omega
      have ck := c.2.2.2.1 k (by omega)
      have pk := zFpr_in (x := x) c.2.2.2.1 k (by omega)
      have nx := ih (k + 1) (by omega)
      rw [show ((k + 1 : Nat) : Int) = (k : Int) + 1 by omega] at nx
      unfold zFpr at nx
      refine Fo_priceOf_f5 hG hk ?_
      rw [w (53 + 5 * p) (by omega), show 3 + (53 + 5 * p) = 56 + 5 * p by omega, w (56 + 5 * p) (by omega), show (k : Int) * 4 = 4 * (k : Int) by omega]
      refine ⟨fun _ => ⟨fun z => ⟨zw_id (by omega) (by omega), ?_⟩, fun z => ⟨zw_id (by omega) (by omega), zw_id (by omega) (by omega), by omega, by omega, zw_id (by omega) (by omega), zw_id (by omega) (by omega), ?_⟩⟩, fun z => absurd z (by omega)⟩
      · rw [if_neg (fun y => y z)] at nx
        exact nx
      · rw [if_pos z] at nx
        exact nx
  exact Fo_priceOf_f0 hG hk (lp (zGn X p) 0 (by omega))
theorem forge_D {Q : List zV → zX → Prop} {G : zG} {X Y : zX} {p x : Int} (hG : SH G) (h : zRT X 1 0) (w : zWb X Y) (p0 : 0 ≤ p) (p1 : p < 10)
    (q : ∀ Y2 : zX, (∀ b : Int, b ≠ 119 → b ≠ 120 → b ≠ 121 → Y2 b = Y b) → (∀ j : Int, j ≠ 3 → Y2 119 j = Y 119 j) → Y2 119 3 = zGw X p x → Y2 120 1 = X (54 + 5 * p) 1 → (∀ j : Int, 0 ≤ j → j < 70 → Y2 121 j = zGr X p x j) → Q [] Y2) : Fo_forge [zR 119, zR (53 + 5 * p), zI x] G Y Q := by
  have c := chs_in h p0 p1
  have hk := (zCa_at p0 p1).2
  have k54 : zk0 (54 + 5 * p) = 5 := by
    have z := (zCa_a hk).1.2
    rw [show 53 + 5 * p + 1 = 54 + 5 * p by omega] at z
    exact z
  have k120 : zk0 120 = 5 := by decide +kernel
  have lp : ∀ (d k : Nat) (Z : zX), k + d = zGn X p → (∀ b : Int, b ≠ 119 → b ≠ 120 → b ≠ 121 → Z b = Y b) → (∀ j : Int, j ≠ 3 → Z 119 j = Y 119 j) → Z 119 3 = zFwt (X (56 + 5 * p)) x k → Z 120 1 = X (54 + 5 * p) 1 → (∀ j : Int, 0 ≤ j → j < 70 → Z 121 j = zFg (X (55 + 5 * p)) (X (56 + 5 * p)) x k j) → Fo_forge_W Q 18 [zR 119, zR (53 + 5 * p), zI x, zI (k : Int), zT] [] G Z := by
    intro d
    induction d with
    | zero =>
      intro k Z e f f9 z3 z0 zr
      have ek : k = zGn X p := by omega
      rw [ek] at z3 zr ⊢
      refine Fo_forge_f18 hG hk ?_
      rw [f (53 + 5 * p) (by omega) (by omega) (by omega), w (53 + 5 * p) (by omega)]
      exact ⟨fun z => absurd z (by unfold zGn; omega), fun _ => q Z f f9 z3 z0 zr⟩
    | succ d ih =>
      intro k Z e f f9 z3 z0 zr
      have kn : (k : Int) < X (53 + 5 * p) 7 := by unfold zGn at e; omega
      have ck := c.2.2.2.1 k (by omega)
      have wk := zFwt_in (x := x) c.2.2.2.1 k (by omega)
      have nx := fun Z2 => ih (k + 1) Z2 (by omega)
      rw [show ((k + 1 : Nat) : Int) = (k : Int) + 1 by omega] at nx
      unfold zFwt zFg at nx
      refine Fo_forge_f18 hG hk ?_
      rw [f (53 + 5 * p) (by omega) (by omega) (by omega), w (53 + 5 * p) (by omega), show 3 + (53 + 5 * p) = 56 + 5 * p by omega, f (56 + 5 * p) (by omega) (by omega) (by omega), w (56 + 5 * p) (by omega), show (k : Int) * 4 = 4 * (k : Int) by omega]
      refine ⟨fun _ => ⟨fun z => ⟨zw_id (by omega) (by omega), ?_⟩, fun z => ⟨zw_id (by omega) (by omega), by omega, by omega, zw_id (by omega) (by omega), by omega, by omega, zw_id (by omega) (by omega), by omega, by omega, Fo_alter_f0 hG ?_⟩⟩, fun z => absurd z (by omega)⟩
      · rw [if_neg (fun y => y.1 z), if_pos (Or.inl z)] at nx
        exact nx Z f f9 z3 z0 zr
      · rw [z3]
        refine ⟨fun s2 => ⟨zw_id (by have := ck.2.2.1 (by omega); omega) (by have := ck.2.2.1 (by omega); omega), rfl, zw_id (by omega) (by omega), ?_⟩, fun s2 => ⟨fun s0 => Pg_tell_f0 hG k120 ?_, fun s0 => Pg_tell_f0 hG k120 ?_⟩⟩
        · rw [if_pos ⟨z, s2⟩, if_pos (Or.inr s2)] at nx
          refine nx _ (fun b b1 b2 b3 => by rw [zrd_r b1]; exact f b b1 b2 b3) (fun j hj => by rw [zrd_n (by omega)]; exact f9 j hj) (zrd_s _ _ _ _) (by rw [zrd_n (by omega)]; exact z0) (fun j j0 j1 => by rw [zrd_n (by omega)]; exact zr j j0 j1)
        · have bx := ck.2.1 s2
          rw [if_neg (fun y => s2 y.2), if_neg (fun y => by rcases y with y | y; exact z y; exact s2 y), if_pos s0] at nx
          rw [show (1 : Int) + 120 = 121 by omega, show X (56 + 5 * p) (4 * (k : Int) + 1) * 5 + 0 = 5 * X (56 + 5 * p) (4 * (k : Int) + 1) by omega]
          refine ⟨zw_id (by omega) (by omega), zw_id (by omega) (by omega), by omega, by omega, rfl, rfl, zw_id (by omega) (by omega), nx _ (fun b b1 b2 b3 => by rw [zrd_r b3]; exact f b b1 b2 b3) (fun j hj => by rw [zrd_r (by omega)]; exact f9 j hj) (by rw [zrd_r (by omega)]; exact z3) (by rw [zrd_r (by omega)]; exact z0) (fun j j0 j1 => ?_)⟩
          by_cases cj : j = 5 * X (56 + 5 * p) (4 * (k : Int) + 1)
          · rw [cj, zrd_s, zup_s]
          · rw [zrd_n (Or.inr cj), zup_n cj]
            exact zr j j0 j1
        · have bx := ck.2.1 s2
          have bn := ck.2.2.1 s0
          rw [if_neg (fun y => s2 y.2), if_neg (fun y => by rcases y with y | y; exact z y; exact s2 y), if_neg s0] at nx
          rw [show (1 : Int) + 120 = 121 by omega, show X (56 + 5 * p) (4 * (k : Int) + 1) * 5 + 1 = 5 * X (56 + 5 * p) (4 * (k : Int) + 1) + 1 by omega]
          refine ⟨zw_id (by omega) (by omega), zw_id (by omega) (by omega), by omega, by omega, rfl, rfl, zw_id (by omega) (by omega), nx _ (fun b b1 b2 b3 => by rw [zrd_r b3]; exact f b b1 b2 b3) (fun j hj => by rw [zrd_r (by omega)]; exact f9 j hj) (by rw [zrd_r (by omega)]; exact z3) (by rw [zrd_r (by omega)]; exact z0) (fun j j0 j1 => ?_)⟩
          by_cases cj : j = 5 * X (56 + 5 * p) (4 * (k : Int) + 1) + 1
          · rw [cj, zrd_s, zup_s]
          · rw [zrd_n (Or.inr cj), zup_n cj]
            exact zr j j0 j1
  refine Fo_forge_f0 hG hk ?_
  rw [show (1 : Int) + (53 + 5 * p) = 54 + 5 * p by omega]
  refine Pg_copy_f0 hG k120 k54 ⟨by omega, by omega, fun X1 e1 => ⟨rfl, ?_⟩⟩
  rw [show (1 : Int) + (54 + 5 * p) = 55 + 5 * p by omega, show (1 : Int) + 120 = 121 by omega] at e1
  refine lp (zGn X p) 0 _ (by omega) (fun b b1 b2 b3 => ?_) (fun j hj => ?_) (zrd_s _ _ _ _) ?_ (fun j j0 j1 => ?_)
  · rw [zrd_r b1, e1, zrd_r b2, zsa_n b3]
  · rw [zrd_n (by omega), e1, zrd_r (by omega), zsa_n (by omega)]
  · rw [zrd_n (by omega), e1, zrd_s, zsa_n (by omega), w (54 + 5 * p) (by omega)]
  · rw [zrd_r (by omega), e1, zrd_r (by omega), zsa_s]
    unfold zcpy
    rw [if_pos (by omega), show (0 : Int) + (j - 0) = j by omega, w (55 + 5 * p) (by omega)]
    rfl
/-- does the forged PAGE look and ask as wanted -/
theorem aims_D {Q : List zV → zX → Prop} {G : zG} {X Y : zX} {p x day k w' : Int} (hG : SH G) (h : zRT X 1 0) (w : zWb X Y) (p0 : 0 ≤ p) (p1 : p < 10)
    (q : ∀ (Y2 : zX) (r : Int), zWb X Y2 → (∀ j : Int, j ≠ 3 → Y2 119 j = Y 119 j) → ((r = 1 ∧ zGo X p x day k w' ∧ Y2 119 3 = zGw X p x ∧ zOpd Y2 105 (zGf X p x day) ∧ Y2 104 5 = (zGlk X p x day).1 ∧ Y2 104 6 = (zGlk X p x day).2) ∨ (r = 0 ∧ ¬zGo X p x day k w')) → Q [zI r] Y2) : Fo_aims [zR 119, zR (53 + 5 * p), zI day, zI x, zI k, zI w'] G Y Q := by
  have hk := (zCa_at p0 p1).2
  have hh := q_houses h
  have k120 : zk0 120 = 5 := by decide +kernel
  have g := zGr_in (x := x) h p0 p1
  have gk := zGf_k (x := x) (day := day) h p0 p1
  have gl := zGlk_in (p := p) (x := x) (day := day) h
  refine Fo_aims_f0 hG hk (forge_D hG h w p0 p1 (fun Y2 f f9 y3 y0 yr => ⟨rfl, ?_⟩))
  have w2 : zWb X Y2 := fun a ha => (f a (by omega) (by omega) (by omega)).trans (w a ha)
  have yg : ∀ j : Int, 0 ≤ j → j < 5 * ((X (54 + 5 * p) 1).toNat : Int) → Y2 (1 + 120) j = zGr X p x j := fun j j0 j1 => yr j j0 (by omega)
  have rw2 : ∀ k : Nat, k < (X (54 + 5 * p) 1).toNat → Y2 (1 + 120) (5 * k + 2) = zGr X p x (5 * k + 2) := fun k hk => yg _ (by omega) (by omega)
  have cc : 0 ≤ X (54 + 5 * p) 1 := by
    have t := txt_page h p0 p1
    have := t.2.1
    omega
  refine open_D105 (cnt := (X (54 + 5 * p) 1).toNat) hG k120 (by rw [y0]; omega) g.1 (fun k hk => by rw [rw2 k hk]; exact g.2.1 k hk) (fun i j ij hj c => ?_) (fun Y3 b a fr tx op => ⟨rfl, ?_⟩)
  · rw [rw2 j hj] at c ⊢
    rw [rw2 i (by omega)]
    exact g.2.2.1 i j ij hj c
  have w3 : zWb X Y3 := fun a ha => (fr a (by omega)).trans (w2 a ha)
  have eF : zFot (Y2 (1 + 120)) (X (54 + 5 * p) 1).toNat 0 day = zGf X p x day := zFot_c g.1 g.2.1 g.2.2.1 yg
  have od : zOpd Y3 105 (zGf X p x day) := by
    refine ⟨_, b, a, op, tx.2.1, tx.2.2.1, (zFot_e tx op).trans eF, ?_⟩
    rw [← eF, ← zFot_e tx op, zLs_len]
    rfl
  have y119 : ∀ j : Int, j ≠ 3 → Y3 119 j = Y 119 j := fun j hj => by rw [fr 119 (by omega)]; exact f9 j hj
  refine asked_C hG od gk.1 (fun j a b => (q_wor (zWb_RT w3 h) j a b).2) ⟨_, rfl, fun lt => ?_, fun ge => ?_⟩
  · rw [w3 19 (by omega)] at lt
    exact q Y3 0 w3 y119 (Or.inr ⟨rfl, fun z => by have y := z.1; unfold zGa at y; omega⟩)
  · rw [w3 19 (by omega)] at ge
    have ga : w' ≤ zGa X p x day := ge
    refine liken_C hG (zWb_RT w3 h) od gk.2 (fun Y4 w4 od4 e5 e6 => ⟨rfl, ?_⟩)
    have w5 := zWb_t w3 (zWk_b w4)
    rw [w3 1 (by omega), zLi_b h w3 _ (by omega)] at e5 e6
    have l5 : Y4 104 5 = (zGlk X p x day).1 := e5
    have l6 : Y4 104 6 = (zGlk X p x day).2 := e6
    have y4 : Y4 119 = Y3 119 := w4 119 (by omega)
    have z119 : ∀ j : Int, j ≠ 3 → Y4 119 j = Y 119 j := fun j hj => by rw [y4]; exact y119 j hj
    rw [l5, l6]
    refine ⟨fun z => q Y4 0 w5 z119 (Or.inr ⟨rfl, fun y => y.2.1 z⟩), fun z => ⟨fun lt => q Y4 0 w5 z119 (Or.inr ⟨rfl, fun y => by have := y.2.2; omega⟩), fun le => q Y4 1 w5 z119 (Or.inl ⟨rfl, ⟨ga, z, le⟩, ?_, od4, l5, l6⟩)⟩⟩
    rw [y4, fr 119 (by omega)]
    exact y3
/-- SIGNS of a forged PAGE that aims well -/
theorem gsigns_D {Q : List zV → zX → Prop} {G : zG} {X Y : zX} {p x day : Int} (hG : SH G) (h : zRT X 1 0) (hn : zNm2 G X 1 0) (w : zWb X Y) (p0 : 0 ≤ p) (p1 : p < 10) (d0 : 0 ≤ day) (d1 : day ≤ 99) (y3 : Y 119 3 = zGw X p x) (od : zOpd Y 105 (zGf X p x day)) (l5 : Y 104 5 = (zGlk X p x day).1) (l6 : Y 104 6 = (zGlk X p x day).2) (q : Q [zI (zGs X p x day)] Y) : Ca_age [zR (53 + 5 * p), zI day] G Y (fun v5 X6 => ∃ r8, v5 = [zI r8] ∧ zw (r8 + (X6 119 3)) = (r8 + (X6 119 3)) ∧ Rm_signsAt [zR 104, zR (zrx G (53 + 5 * p) 3), zI (r8 + (X6 119 3))] G X6 Q) := by
  have gk := zGf_k (x := x) (day := day) h p0 p1
  have gl := zGlk_in (p := p) (x := x) (day := day) h
  have gw := zGw_in (x := x) h p0 p1
  have si := zR_sin h p p0 p1
  rw [show (1 : Int) + 52 + 5 * p = 53 + 5 * p by omega] at si
  refine Ca_age_f0 hG (zCa_at p0 p1).2 ?_
  rw [w (53 + 5 * p) (by omega), y3]
  refine ⟨zw_id (by omega) (by omega), _, rfl, zw_id (by omega) (by omega), signsAt_D hG (zWb_RT w h) (zNm2_b w hn) (zNas_b w (nm_page hn p0 p1)) od gk.1 l5 l6 gl.1 (by rw [w 1 (by omega)]; exact gl.2.1) ?_⟩
  rw [zSi_b w, zEw_b w, w 19 (by omega)]
  exact q
theorem zGs_in (X : zX) (p x day : Int) : 0 ≤ zGs X p x day ∧ zGs X p x day ≤ 7 := zSi_in _ _ _ _ _ _
noncomputable def zGy (X : zX) (p x day : Int) : Int := zSay (zGs X p x day)
/-- the best set of the first x ones, its price, what is said -/
noncomputable def zPf (X : zX) (p day k w : Int) : Nat → Int × Int × Int
  | 0 => (-1, 0, 0)
  | x + 1 => if (zGo X p x day k w ∧ zGy X p x day ≠ 2) ∧ ((zPf X p day k w x).1 < 0 ∨ zGp X p x < (zPf X p day k w x).2.1 ∨ (zGp X p x = (zPf X p day k w x).2.1 ∧ zpp (x : Int).toNat < zpp (zPf X p day k w x).1.toNat)) then ((x : Int), zGp X p x, zGy X p x day) else zPf X p day k w x
theorem zPf_in {X : zX} {p day k w : Int} : ∀ x : Nat, -1 ≤ (zPf X p day k w x).1 ∧ (zPf X p day k w x).1 < x
  | 0 => by
    show (-1 : Int) ≤ -1 ∧ (-1 : Int) < ((0 : Nat) : Int)
    omega
  | x + 1 => by
    have z := zPf_in (X := X) (p := p) (day := day) (k := k) (w := w) x
    unfold zPf
    split
    · show (-1 : Int) ≤ (x : Int) ∧ (x : Int) < ((x + 1 : Nat) : Int)
      omega
    · omega
theorem zPf_y {X : zX} {p day k w : Int} {x : Nat} (c : (zGo X p x day k w ∧ zGy X p x day ≠ 2) ∧ ((zPf X p day k w x).1 < 0 ∨ zGp X p x < (zPf X p day k w x).2.1 ∨ (zGp X p x = (zPf X p day k w x).2.1 ∧ zpp (x : Int).toNat < zpp (zPf X p day k w x).1.toNat))) : zPf X p day k w (x + 1) = ((x : Int), zGp X p x, zGy X p x day) := if_pos c
theorem zPf_n {X : zX} {p day k w : Int} {x : Nat} (c : ¬((zGo X p x day k w ∧ zGy X p x day ≠ 2) ∧ ((zPf X p day k w x).1 < 0 ∨ zGp X p x < (zPf X p day k w x).2.1 ∨ (zGp X p x = (zPf X p day k w x).2.1 ∧ zpp (x : Int).toNat < zpp (zPf X p day k w x).1.toNat)))) : zPf X p day k w (x + 1) = zPf X p day k w x := if_neg c
theorem sets_in {n : Int} (n0 : 0 ≤ n) (n1 : n ≤ 6) : 1 ≤ zshl 1 n ∧ zshl 1 n ≤ 64 := by
  have key : ∀ m : Fin 7, 1 ≤ zshl 1 (m.val : Int) ∧ zshl 1 (m.val : Int) ≤ 64 := by decide +kernel
  have z : 1 ≤ zshl 1 ((n.toNat : Nat) : Int) ∧ zshl 1 ((n.toNat : Nat) : Int) ≤ 64 := key ⟨n.toNat, by omega⟩
  rw [show ((n.toNat : Nat) : Int) = n by omega] at z
  exact z
theorem passes_D {Q : List zV → zX → Prop} {G : zG} {X : zX} {p day k w' : Int} {N : Nat} (hG : SH G) (h : zRT X 1 0) (hn : zNm2 G X 1 0) (p0 : 0 ≤ p) (p1 : p < 10) (d0 : 0 ≤ day) (d1 : day ≤ 99) (eN : zshl 1 (X (53 + 5 * p) 7) = N)
    (q : ∀ (Y : zX) (r : Int), zWb X Y → ((r = 0 ∧ (zPf X p day k w' N).1 < 0) ∨ (r = 1 ∧ 0 ≤ (zPf X p day k w' N).1 ∧ Y 119 4 = (zPf X p day k w' N).2.1 ∧ Y 119 5 = (zPf X p day k w' N).1 ∧ Y 119 6 = (zPf X p day k w' N).2.2)) → Q [zI r] Y) : Fo_passes [zR 119, zR (53 + 5 * p), zI day, zI k, zI w'] G X Q := by
  have hk := (zCa_at p0 p1).2
  have c := chs_in h p0 p1
  have sn := sets_in c.2.1 c.2.2.1
  have lp : ∀ (d x : Nat) (Y : zX) (r : Int), x + d = N → zWb X Y → ((r = 0 ∧ (zPf X p day k w' x).1 < 0) ∨ (r = 1 ∧ 0 ≤ (zPf X p day k w' x).1 ∧ Y 119 4 = (zPf X p day k w' x).2.1 ∧ Y 119 5 = (zPf X p day k w' x).1 ∧ Y 119 6 = (zPf X p day k w' x).2.2)) → Fo_passes_W Q 6 [zR 119, zR (53 + 5 * p), zI day, zI k, zI w', zI r, zI (x : Int), zT, zT, zT] [] G Y := by
    intro d
    induction d with
    | zero =>
      intro x Y r e w st
      have ex : x = N := by omega
      rw [ex] at st ⊢
      refine Fo_passes_f6 hG hk ?_
      rw [w (53 + 5 * p) (by omega), eN]
      exact ⟨fun z => absurd z (by omega), fun _ => ⟨by omega, q Y r w st⟩⟩
    | succ d ih =>
      intro x Y r e w st
      have nx := fun Y2 r2 => ih (x + 1) Y2 r2 (by omega)
      rw [show ((x + 1 : Nat) : Int) = (x : Int) + 1 by omega] at nx
      have gs := zGs_in X p x day
      have pin := zPf_in (X := X) (p := p) (day := day) (k := k) (w := w') x
      -- kept as it is
      have keep : ∀ Y2 : zX, zWb X Y2 → (∀ j : Int, j ≠ 3 → Y2 119 j = Y 119 j) → ¬((zGo X p x day k w' ∧ zGy X p x day ≠ 2) ∧ ((zPf X p day k w' x).1 < 0 ∨ zGp X p x < (zPf X p day k w' x).2.1 ∨ (zGp X p x = (zPf X p day k w' x).2.1 ∧ zpp (x : Int).toNat < zpp (zPf X p day k w' x).1.toNat))) → Fo_passes_W Q 6 [zR 119, zR (53 + 5 * p), zI day, zI k, zI w', zI r, zI ((x : Int) + 1), zT, zT, zT] [] G Y2 := fun Y2 w2 f no => by
        refine nx Y2 r w2 ?_
        rw [zPf_n no, f 4 (by omega), f 5 (by omega), f 6 (by omega)]
        exact st
      have f68 : ¬((zPf X p day k w' x).1 < 0 ∨ zGp X p x < (zPf X p day k w' x).2.1 ∨ (zGp X p x = (zPf X p day k w' x).2.1 ∧ zpp (x : Int).toNat < zpp (zPf X p day k w' x).1.toNat)) → Fo_passes_W Q 68 [zR 119, zR (53 + 5 * p), zI day, zI k, zI w', zI r, zI (x : Int), zI (zGp X p x), zT, zT] [] G Y := fun no =>
        Fo_passes_f68 hG hk (Fo_passes_f69 hG hk ⟨fun _ => ⟨zw_id (by omega) (by omega), keep Y w (fun _ _ => rfl) (fun z => no z.2)⟩, fun z => absurd rfl z⟩)
      have f69 : ((zPf X p day k w' x).1 < 0 ∨ zGp X p x < (zPf X p day k w' x).2.1 ∨ (zGp X p x = (zPf X p day k w' x).2.1 ∧ zpp (x : Int).toNat < zpp (zPf X p day k w' x).1.toNat)) → Fo_passes_W Q 69 [zR 119, zR (53 + 5 * p), zI day, zI k, zI w', zI r, zI (x : Int), zI (zGp X p x), zT, zT] [zI 1] G Y := fun yes => by
        refine Fo_passes_f69 hG hk ⟨fun z => absurd z (by omega), fun _ => aims_D hG h w p0 p1 (fun Y2 r2 w2 f2 ev => ⟨_, rfl, ?_⟩)⟩
        rcases ev with ⟨rfl, go, y3, od, l5, l6⟩ | ⟨rfl, no⟩
        · refine ⟨fun z => absurd z (by omega), fun _ => gsigns_D hG h hn w2 p0 p1 d0 d1 y3 od l5 l6 ⟨_, rfl, said_D hG gs.1 gs.2 ⟨_, rfl, fun e2 => ⟨zw_id (by omega) (by omega), keep Y2 w2 f2 (fun z => z.1.2 e2)⟩, fun n2 => ⟨zw_id (by omega) (by omega), ?_⟩⟩⟩⟩
          refine nx _ 1 (zWb_w (zWb_w (zWb_w w2 (by omega)) (by omega)) (by omega)) (Or.inr ?_)
          rw [zPf_y ⟨⟨go, n2⟩, yes⟩]
          refine ⟨rfl, by show (0 : Int) ≤ (x : Int); omega, ?_, ?_, ?_⟩
          · rw [zrd_n (by omega), zrd_n (by omega), zrd_s]
          · rw [zrd_n (by omega), zrd_s]
          · rw [zrd_s]
            rfl
        · exact ⟨fun _ => ⟨zw_id (by omega) (by omega), keep Y2 w2 f2 (fun z => no z.1.1)⟩, fun z => absurd rfl z⟩
      refine Fo_passes_f6 hG hk ?_
      rw [w (53 + 5 * p) (by omega), eN]
      refine ⟨fun _ => priceOf_D hG h w p0 p1 ⟨_, rfl, fun r0 => ?_, fun r1 => ?_⟩, fun z => absurd z (by omega)⟩
      · refine f69 (Or.inl ?_)
        rcases st with st | st
        · exact st.2
        · omega
      · rcases st with st | ⟨_, s0, s4, s5, s6⟩
        · exact absurd st.1 r1
        · rw [s4]
          refine ⟨fun lt => f69 (Or.inr (Or.inl lt)), fun ge => ⟨fun eq => pop_D (by omega) (by omega) ⟨_, rfl, ?_⟩, fun ne => f68 (by omega)⟩⟩
          rw [s5]
          refine pop_D s0 (by omega) ⟨_, rfl, fun lt => f69 (Or.inr (Or.inr ⟨eq, by omega⟩)), fun ge2 => f68 (by omega)⟩
  exact Fo_passes_f0 hG hk (lp N 0 X 0 (by omega) (zWb_r X) (Or.inl ⟨rfl, by show (-1 : Int) < 0; omega⟩))
/-! the reference's side -/
theorem forges_R {Q : List zV → zX → Prop} {G : zG} {X Y : zX} {p x day : Int} (hG : SH G) (h : zRT X 1 0) (hn : zNm2 G X 1 0) (w : zWb X Y) (p0 : 0 ≤ p) (p1 : p < 10)
    (q : ∀ Y2 : zX, zWb X Y2 → Y2 139 31 = (zGlk X p x day).1 → ((zGlk X p x day).1 ≠ -1 → Y2 139 32 = (zGlk X p x day).2) → Y2 139 33 = zGa X p x day → Y2 139 34 = zGel X p x day → Y2 139 40 = zGw X p x → Y2 139 41 = zGp X p x → Q [] Y2) : M_forges [zR 139, zI p, zI day, zI x] G Y Q := by
  have c := chs_in h p0 p1
  have hh := q_houses h
  have g := zGr_in (x := x) h p0 p1
  have eT : Y (54 + 5 * p) 1 = X (54 + 5 * p) 1 := by rw [w (54 + 5 * p) (by omega)]
  have t := txt_page (zWb_RT w h) p0 p1
  refine M_forges_f0 hG (q_treeOf hG p0 p1 ⟨_, rfl, takes_M hG t (fun Y1 f1 f9 mt => ⟨rfl, ?_⟩)⟩)
  rw [show (1 : Int) + (54 + 5 * p) = 55 + 5 * p by omega, eT, w (55 + 5 * p) (by omega)] at mt
  have w1 : zWb X Y1 := fun a ha => by
    by_cases c0 : a = 139 ∨ a = 145 ∨ a = 146
    · omega
    · exact (f1 a (by omega) (by omega) (by omega)).trans (w a ha)
  have cnt14 := g.1
  have lp : ∀ (d k : Nat) (Z : zX), k + d = zGn X p → zWb X Z → Z 139 40 = zFwt (X (56 + 5 * p)) x k → Z 139 41 = zFpr (X (56 + 5 * p)) x k → zMt Z (2712 + 210 * p) (zFg (X (55 + 5 * p)) (X (56 + 5 * p)) x k) (X (54 + 5 * p) 1).toNat → M_forges_W Q 21 [zR 139, zI p, zI day, zI x, zI (k : Int), zT] [] G Z := by
    intro d
    induction d with
    | zero =>
      intro k Z e wz z40 z41 mt
      have ek : k = zGn X p := by omega
      rw [ek] at z40 z41 mt ⊢
      refine M_forges_f21 hG (q_pageAt hG p0 p1 ⟨_, rfl, zw_id (by omega) (by omega), by omega, by omega, ?_⟩)
      rw [wz 140 (by omega), show 2670 + 210 * p + 15 = 2685 + 210 * p by omega, c.1]
      refine ⟨fun z => absurd z (by unfold zGn; omega), fun _ => ?_⟩
      refine see_R (w := X 19) (r := zGr X p x) hG (by omega) (by omega) g.1 mt g.2.1 g.2.2.1 g.2.2.2.1 (fun j a b => by rw [wz 140 (by omega)]; exact q_wor h j a b) (fun Y3 m fr rf h26 h27 => ⟨rfl, ?_⟩)
      have w3 : zWb X Y3 := fun a ha => (fr.1 a (by omega) (by omega)).trans (wz a ha)
      refine judges_R (F := zGf X p x day) (ask := zGa X p x day) hG (zWb_RT w3 h) (zNm2_b w3 hn) p0 p1 rf h27 (fun Y4 w4 e31 e32 e33 e34 ff => ⟨rfl, ?_⟩)
      have w5 := zWb_t w3 (zWk_b w4)
      rw [w3 1 (by omega), zLi_b h w3 _ (by omega)] at e31 e32 e34
      rw [zEw_b w3] at e34
      refine q Y4 w5 e31 e32 e33 e34 ?_ ?_
      · rw [ff 40 (by omega) (by omega) (by omega) (by omega), fr.2.1 40 (by omega) (by omega)]
        exact z40
      · rw [ff 41 (by omega) (by omega) (by omega) (by omega), fr.2.1 41 (by omega) (by omega)]
        exact z41
    | succ d ih =>
      intro k Z e wz z40 z41 mt
      have kn : (k : Int) < X (53 + 5 * p) 7 := by unfold zGn at e; omega
      have ck := c.2.2.2.1 k (by omega)
      have cr := c.2.2.2.2 k kn
      have wk := zFwt_in (x := x) c.2.2.2.1 k (by omega)
      have pk := zFpr_in (x := x) c.2.2.2.1 k (by omega)
      have nx := fun Z2 => ih (k + 1) Z2 (by omega)
      rw [show ((k + 1 : Nat) : Int) = (k : Int) + 1 by omega] at nx
      unfold zFwt zFpr zFg at nx
      refine M_forges_f21 hG (q_pageAt hG p0 p1 ⟨_, rfl, zw_id (by omega) (by omega), by omega, by omega, ?_⟩)
      rw [wz 140 (by omega), show 2670 + 210 * p + 15 = 2685 + 210 * p by omega, c.1]
      refine ⟨fun _ => q_pageAt hG p0 p1 ⟨_, rfl, zw_id (by omega) (by omega), by rw [zw_id (x := 4 * (k : Int)) (by omega) (by omega)]; exact zw_id (by omega) (by omega), fun z => ⟨zw_id (by omega) (by omega), ?_⟩, fun z => ?_⟩, fun z => absurd z (by omega)⟩
      · rw [if_neg (fun y => y.1 z), if_neg (fun y => y z), if_pos (Or.inl z)] at nx
        exact nx Z wz z40 z41 mt
      · rw [wz 140 (by omega), z41, show 2670 + 210 * p + 16 + 4 * (k : Int) = 2686 + 210 * p + 4 * (k : Int) by omega, cr.2.2.2]
        refine ⟨zw_id (by omega) (by omega), by omega, by omega, zw_id (by omega) (by omega), by omega, by omega, fun r9 e9 => ?_⟩
        rw [zrd_r (by omega), wz 140 (by omega), cr.1] at e9
        rw [if_pos z] at nx
        have wz2 : zWb X (zst Z 139 41 (zFpr (X (56 + 5 * p)) x k + X (56 + 5 * p) (4 * (k : Int) + 3))) := zWb_w wz (by omega)
        have mt2 : zMt (zst Z 139 41 (zFpr (X (56 + 5 * p)) x k + X (56 + 5 * p) (4 * (k : Int) + 3))) (2712 + 210 * p) (zFg (X (55 + 5 * p)) (X (56 + 5 * p)) x k) (X (54 + 5 * p) 1).toNat := by
          unfold zMt at mt ⊢
          rw [zrd_n (by omega), zrd_r (by omega), zrd_r (by omega), zrd_r (by omega)]
          exact mt
        have y40 : zst Z 139 41 (zFpr (X (56 + 5 * p)) x k + X (56 + 5 * p) (4 * (k : Int) + 3)) 139 40 = zFwt (X (56 + 5 * p)) x k := by
          rw [zrd_n (by omega)]
          exact z40
        have y41 : zst Z 139 41 (zFpr (X (56 + 5 * p)) x k + X (56 + 5 * p) (4 * (k : Int) + 3)) 139 41 = zFpr (X (56 + 5 * p)) x k + X (56 + 5 * p) (4 * (k : Int) + 3) := zrd_s _ _ _ _
        generalize zst Z 139 41 (zFpr (X (56 + 5 * p)) x k + X (56 + 5 * p) (4 * (k : Int) + 3)) = V at wz2 mt2 y40 y41 ⊢
        obtain ⟨m1, m2, m3, m4, m5⟩ := mt2
        refine ⟨fun s0 => ?_, fun s0 => ⟨fun s1 => ?_, fun s1 => ?_⟩⟩
        · have s : X (56 + 5 * p) (4 * (k : Int)) = 0 := by omega
          have bx := ck.2.1 (by omega)
          rw [if_neg (fun y => by have := y.2; omega), if_neg (fun y => by rcases y with y | y; exact z y; omega), if_pos s] at nx
          refine M_forges_f116 hG ?_
          rw [wz2 140 (by omega), cr.2.1 (by omega)]
          refine ⟨zw_id (by omega) (by omega), by omega, by omega, by omega, by omega, zw_id (by omega) (by omega), nx _ (zWb_w wz2 (by omega)) (by rw [zrd_r (by omega)]; exact y40) (by rw [zrd_r (by omega)]; exact y41) ⟨by rw [zrd_r (by omega)]; exact m1, m2, m3, by rw [zrd_r (by omega)]; exact m4, fun j hj => ?_⟩⟩
          have mj := m5 j hj
          rw [zrd_r (by omega : (140 : Int) ≠ 145), zrd_r (by omega : (146 : Int) ≠ 145), zup_n (by omega : 5 * (j : Int) + 1 ≠ 5 * X (56 + 5 * p) (4 * (k : Int) + 1)), zup_n (by omega : 5 * (j : Int) + 2 ≠ 5 * X (56 + 5 * p) (4 * (k : Int) + 1)), zup_n (by omega : 5 * (j : Int) + 3 ≠ 5 * X (56 + 5 * p) (4 * (k : Int) + 1)), zup_n (by omega : 5 * (j : Int) + 4 ≠ 5 * X (56 + 5 * p) (4 * (k : Int) + 1))]
          by_cases cj : (j : Int) = X (56 + 5 * p) (4 * (k : Int) + 1)
          · rw [← cj, zrd_s, zup_s]
            exact ⟨⟨fun _ => rfl, fun _ => by omega⟩, fun y => absurd rfl y, mj.2.2⟩
          · rw [zrd_n (by omega), zup_n (by omega)]
            exact mj
        · have s : X (56 + 5 * p) (4 * (k : Int)) = 1 := by omega
          have bx := ck.2.1 (by omega)
          have bn := ck.2.2.1 (by omega)
          rw [if_neg (fun y => by have := y.2; omega), if_neg (fun y => by rcases y with y | y; exact z y; omega), if_neg (by omega)] at nx
          refine M_forges_f134 hG ?_
          rw [wz2 140 (by omega), cr.2.1 (by omega), cr.2.2.1 (by omega)]
          refine ⟨zw_id (by omega) (by omega), by omega, by omega, zw_id (by omega) (by omega), by omega, by omega, by omega, by omega, zw_id (by omega) (by omega), nx _ (zWb_w wz2 (by omega)) (by rw [zrd_r (by omega)]; exact y40) (by rw [zrd_r (by omega)]; exact y41) ⟨by rw [zrd_r (by omega)]; exact m1, m2, m3, by rw [zrd_r (by omega)]; exact m4, fun j hj => ?_⟩⟩
          have mj := m5 j hj
          rw [zrd_r (by omega : (140 : Int) ≠ 146), zrd_r (by omega : (145 : Int) ≠ 146), zup_n (by omega : 5 * (j : Int) ≠ 5 * X (56 + 5 * p) (4 * (k : Int) + 1) + 1), zup_n (by omega : 5 * (j : Int) + 2 ≠ 5 * X (56 + 5 * p) (4 * (k : Int) + 1) + 1), zup_n (by omega : 5 * (j : Int) + 3 ≠ 5 * X (56 + 5 * p) (4 * (k : Int) + 1) + 1), zup_n (by omega : 5 * (j : Int) + 4 ≠ 5 * X (56 + 5 * p) (4 * (k : Int) + 1) + 1)]
          by_cases cj : (j : Int) = X (56 + 5 * p) (4 * (k : Int) + 1)
          · rw [← cj, zrd_s, zup_s]
            exact ⟨mj.1, fun y => ⟨(mj.2.1 y).1, (mj.2.1 y).2.1, (mj.2.1 y).2.2.1, rfl⟩, mj.2.2⟩
          · rw [zrd_n (by omega), zup_n (by omega)]
            exact mj
        · have s : X (56 + 5 * p) (4 * (k : Int)) = 2 := by omega
          have bn := ck.2.2.1 (by omega)
          rw [if_pos ⟨z, s⟩, if_pos (Or.inr s)] at nx
          refine M_forges_f160 hG ?_
          rw [wz2 140 (by omega), y40, cr.2.2.1 (by omega)]
          refine ⟨zw_id (by omega) (by omega), by omega, by omega, zw_id (by omega) (by omega), zw_id (by omega) (by omega), nx _ (zWb_w wz2 (by omega)) (zrd_s _ _ _ _) (by rw [zrd_n (by omega)]; exact y41) ⟨by rw [zrd_n (by omega)]; exact m1, m2, m3, by rw [zrd_r (by omega)]; exact m4, fun j hj => ?_⟩⟩
          rw [zrd_r (by omega), zrd_r (by omega), zrd_r (by omega)]
          exact m5 j hj
  have mt0 : zMt (zst (zst Y1 139 40 0) 139 41 0) (2712 + 210 * p) (zFg (X (55 + 5 * p)) (X (56 + 5 * p)) x 0) (X (54 + 5 * p) 1).toNat := by
    unfold zMt at mt ⊢
    rw [zrd_n (by omega), zrd_n (by omega), zrd_r (by omega), zrd_r (by omega), zrd_r (by omega), zrd_r (by omega), zrd_r (by omega), zrd_r (by omega)]
    exact mt
  exact lp (zGn X p) 0 _ (by omega) (zWb_w (zWb_w w1 (by omega)) (by omega)) (by rw [zrd_n (by omega), zrd_s]; rfl) (by rw [zrd_s]; rfl) mt0
theorem isForgery_M {Q : List zV → zX → Prop} {G : zG} {X Y : zX} {p x day k w : Int} (hG : SH G) (h : zRT X 1 0) (e31 : Y 139 31 = (zGlk X p x day).1) (e32 : (zGlk X p x day).1 ≠ -1 → Y 139 32 = (zGlk X p x day).2) (e33 : Y 139 33 = zGa X p x day) (q1 : zGo X p x day k w → Q [zI 1] Y) (q0 : ¬zGo X p x day k w → Q [zI 0] Y) : M_isForgery [zR 139, zI k, zI w] G Y Q := by
  have gl := zGlk_in (p := p) (x := x) (day := day) h
  refine M_isForgery_f0 hG ?_
  rw [e31, e33]
  refine ⟨fun z => q0 (fun y => by have := y.2.1; omega), fun z => ?_⟩
  rw [e32 (by omega)]
  exact ⟨fun lt => q0 (fun y => by have := y.2.2; omega), fun le => ⟨fun lt => q0 (fun y => by have := y.1; omega), fun ge => q1 ⟨ge, by omega, le⟩⟩⟩
theorem q_dAim {Q : List zV → zX → Prop} {G : zG} {X : zX} {k w : Int} (hG : SH G) (h1 : 0 ≤ k ∧ k ≤ 99 ∧ 0 ≤ w ∧ w ≤ 999 → Q [zI 1] X) (h0 : ¬(0 ≤ k ∧ k ≤ 99 ∧ 0 ≤ w ∧ w ≤ 999) → Q [zI 0] X) : D_isAim [zI k, zI w] G X Q :=
  D_isAim_f0 hG ⟨fun a => h0 (by omega), fun a => ⟨fun b => h0 (by omega), fun b => ⟨fun c => h0 (by omega), fun c => ⟨fun d => h0 (by omega), fun d => h1 ⟨a, b, c, d⟩⟩⟩⟩⟩
theorem q_mForger {Q : List zV → zX → Prop} {G : zG} {X : zX} {p day k w : Int} (hG : SH G) (hp : X 140 1 = X 1 12 ∧ 0 ≤ X 1 12 ∧ X 1 12 ≤ 10) (h1 : 0 ≤ p ∧ p < X 1 12 ∧ 0 ≤ day ∧ day ≤ 99 ∧ 0 ≤ k ∧ k ≤ 99 ∧ 0 ≤ w ∧ w ≤ 999 → Q [zI 1] X) (h0 : ¬(0 ≤ p ∧ p < X 1 12 ∧ 0 ≤ day ∧ day ≤ 99 ∧ 0 ≤ k ∧ k ≤ 99 ∧ 0 ≤ w ∧ w ≤ 999) → Q [zI 0] X) : M_isForger [zR 139, zI p, zI day, zI k, zI w] G X Q :=
  M_isForger_f0 hG (q_isPage hG hp (fun a b => ⟨1, rfl, fun z => absurd z (by omega), fun _ => q_isIn hG (fun c d => ⟨1, rfl, fun z => absurd z (by omega), fun _ => q_isIn hG (fun e f => ⟨1, rfl, fun z => absurd z (by omega), fun _ => q_isIn hG (fun i j => ⟨1, rfl, fun z => absurd z (by omega), fun _ => h1 ⟨a, b, c, d, e, f, i, j⟩⟩) (fun _ => ⟨0, rfl, fun _ => h0 (by omega), fun z => absurd rfl z⟩)⟩) (fun _ => ⟨0, rfl, fun _ => h0 (by omega), fun z => absurd rfl z⟩)⟩) (fun _ => ⟨0, rfl, fun _ => h0 (by omega), fun z => absurd rfl z⟩)⟩) (fun _ => ⟨0, rfl, fun _ => h0 (by omega), fun z => absurd rfl z⟩))
theorem pass_R {Q : List zV → zX → Prop} {G : zG} {X : zX} {p day k w' what : Int} {N : Nat} (hG : SH G) (h : zRT X 1 0) (hn : zNm2 G X 1 0) (p0 : 0 ≤ p) (p1 : p < 10) (d0 : 0 ≤ day) (d1 : day ≤ 99) (eN : zshl 1 (X (53 + 5 * p) 7) = N)
    (q : ∀ Y : zX, zWb X Y → Q [zI (if (zPf X p day k w' N).1 < 0 then -1 else if what = 0 then (zPf X p day k w' N).2.1 else if what = 1 then (zPf X p day k w' N).1 else (zPf X p day k w' N).2.2)] Y) :
    ∀ (d x : Nat) (Y : zX), x + d = N → zWb X Y → M_pass_W Q 36 [zR 139, zI p, zI day, zI k, zI w', zI what, zI (zPf X p day k w' x).1, zI (zPf X p day k w' x).2.1, zI (zPf X p day k w' x).2.2, zI (x : Int), zT] [] G Y := by
  have c := chs_in h p0 p1
  have sn := sets_in c.2.1 c.2.2.1
  intro d
  induction d with
  | zero =>
    intro x Y e w
    have ex : x = N := by omega
    rw [ex]
    refine M_pass_f36 hG (q_pageAt hG p0 p1 ⟨_, rfl, zw_id (by omega) (by omega), by omega, by omega, ?_⟩)
    rw [w 140 (by omega), show 2670 + 210 * p + 15 = 2685 + 210 * p by omega, c.1, eN]
    have qq := q Y w
    refine ⟨fun z => absurd z (by omega), fun _ => ⟨fun z => ?_, fun z => ⟨fun y => ?_, fun y => ⟨fun y1 => ?_, fun y1 => ?_⟩⟩⟩⟩
    · rw [if_pos z] at qq
      exact qq
    · rw [if_neg (by omega), if_pos y] at qq
      exact qq
    · rw [if_neg (by omega), if_neg y, if_pos y1] at qq
      exact qq
    · rw [if_neg (by omega), if_neg y, if_neg y1] at qq
      exact qq
  | succ d ih =>
    intro x Y e w
    have nx := fun Y2 => ih (x + 1) Y2 (by omega)
    rw [show ((x + 1 : Nat) : Int) = (x : Int) + 1 by omega] at nx
    have gs := zGs_in X p x day
    have gw := zGw_in (x := x) h p0 p1
    have gl := zGlk_in (p := p) (x := x) (day := day) h
    have pin := zPf_in (X := X) (p := p) (day := day) (k := k) (w := w') x
    have si := zR_sin h p p0 p1
    rw [show (1 : Int) + 52 + 5 * p = 53 + 5 * p by omega] at si
    have keep : ∀ Y2 : zX, zWb X Y2 → ¬((zGo X p x day k w' ∧ zGy X p x day ≠ 2) ∧ ((zPf X p day k w' x).1 < 0 ∨ zGp X p x < (zPf X p day k w' x).2.1 ∨ (zGp X p x = (zPf X p day k w' x).2.1 ∧ zpp (x : Int).toNat < zpp (zPf X p day k w' x).1.toNat))) → M_pass_W Q 36 [zR 139, zI p, zI day, zI k, zI w', zI what, zI (zPf X p day k w' x).1, zI (zPf X p day k w' x).2.1, zI (zPf X p day k w' x).2.2, zI ((x : Int) + 1), zT] [] G Y2 := fun Y2 w2 no => by
      have z := nx Y2 w2
      rw [zPf_n no] at z
      exact z
    refine M_pass_f36 hG (q_pageAt hG p0 p1 ⟨_, rfl, zw_id (by omega) (by omega), by omega, by omega, ?_⟩)
    rw [w 140 (by omega), show 2670 + 210 * p + 15 = 2685 + 210 * p by omega, c.1, eN]
    refine ⟨fun _ => forges_R hG h hn w p0 p1 (fun Y2 w2 e31 e32 e33 e34 e40 e41 => ⟨rfl, age_R hG (zWb_RT w2 h) p0 p1 d0 (by omega) ⟨_, rfl, ?_⟩⟩), fun z => absurd z (by omega)⟩
    have ea : zAge Y2 p day = zAge X p day := by
      unfold zAge
      rw [w2 (53 + 5 * p) (by omega)]
    have ab : 0 ≤ zAge X p day ∧ zAge X p day ≤ 99 := by
      unfold zAge
      omega
    rw [ea, e40]
    refine ⟨zw_id (by omega) (by omega), signsBy_R hG (zWb_RT w2 h) e31 e32 e33 e34 gl.1 ⟨_, rfl, ?_⟩⟩
    rw [zSi_b w2]
    refine said_M hG gs.1 gs.2 ⟨_, rfl, fun s2 => ⟨zw_id (by omega) (by omega), keep Y2 w2 (fun z => z.1.2 s2)⟩, fun s2 => isForgery_M hG h e31 e32 e33 (fun go => ⟨1, rfl, fun z => absurd z (by omega), fun _ => ?_⟩) (fun no => ⟨0, rfl, fun _ => ⟨zw_id (by omega) (by omega), keep Y2 w2 (fun z => no z.1.1)⟩, fun z => absurd rfl z⟩)⟩
    rw [e41]
    have put : ((zPf X p day k w' x).1 < 0 ∨ zGp X p x < (zPf X p day k w' x).2.1 ∨ (zGp X p x = (zPf X p day k w' x).2.1 ∧ zpp (x : Int).toNat < zpp (zPf X p day k w' x).1.toNat)) → M_pass_W Q 141 [zR 139, zI p, zI day, zI k, zI w', zI what, zT, zT, zT, zI (x : Int), zI (zGy X p x day)] [] G Y2 := fun yes => by
      refine M_pass_f141 hG ?_
      rw [e41]
      have z := nx Y2 w2
      rw [zPf_y ⟨⟨go, s2⟩, yes⟩] at z
      exact ⟨zw_id (by omega) (by omega), z⟩
    refine ⟨fun neg => put (Or.inl neg), fun pos => ⟨fun lt => ⟨zw_id (by omega) (by omega), keep Y2 w2 (by omega)⟩, fun le => ⟨fun eq => pop_M hG (by omega) (by omega) ⟨_, rfl, pop_M hG pos (by omega) ⟨_, rfl, fun lt => put (Or.inr (Or.inr ⟨eq, by omega⟩)), fun ge => ⟨zw_id (by omega) (by omega), keep Y2 w2 (by omega)⟩⟩⟩, fun ne => put (Or.inr (Or.inl (by omega)))⟩⟩⟩
theorem op_pass {G : zG} {X : zX} {a b c d e : Int} (hG : SH G) (h : zRT X 1 0) (hn : zNm2 G X 1 0) : zOp D_pass M_pass [zI a, zI b, zI c, zI d, zI e] [zI a, zI b, zI c, zI d, zI e] G X := by
  have hp := q_pages h
  by_cases ok : 0 ≤ a ∧ a < X 1 12 ∧ 0 ≤ b ∧ b ≤ 99 ∧ 0 ≤ c ∧ c ≤ 99 ∧ 0 ≤ d ∧ d ≤ 999 ∧ 0 ≤ e ∧ e ≤ 2
  · have cc := chs_in h ok.1 (by omega : a < 10)
    have sn := sets_in cc.2.1 cc.2.2.1
    obtain ⟨N, eN⟩ : ∃ N : Nat, zshl 1 (X (53 + 5 * a) 7) = N := ⟨(zshl 1 (X (53 + 5 * a) 7)).toNat, by omega⟩
    have mm : ∀ (Y : zX) (v : Int), zWb X Y → v = (if (zPf X a b c d N).1 < 0 then -1 else if e = 0 then (zPf X a b c d N).2.1 else if e = 1 then (zPf X a b c d N).1 else (zPf X a b c d N).2.2) → M_pass [zR 139, zI a, zI b, zI c, zI d, zI e] G Y (fun w X2 => w = [zI v] ∧ zRT X2 1 0 ∧ zKp X X2) := fun Y v w ev => by
      refine M_pass_f0 hG (q_mForger hG (by rw [w 140 (by omega), w 1 (by omega)]; exact hp) (fun _ => ⟨1, rfl, fun z => absurd z (by omega), fun _ => q_isIn hG (fun _ _ => ⟨1, rfl, fun z => absurd z (by omega), fun _ => ?_⟩) (fun z => absurd z (by omega))⟩) (fun z => absurd (by rw [w 1 (by omega)]; omega) z))
      exact pass_R hG h hn ok.1 (by omega) (by omega) (by omega) eN (fun Y2 w2 => ⟨by rw [ev], zWb_RT w2 h, zWb_Kp w2⟩) N 0 Y (by omega) w
    refine D_pass_f0 hG (q_dPage hG (fun _ _ => ⟨1, rfl, fun z => absurd z (by omega), fun _ => q_dDay hG (fun _ _ => ⟨1, rfl, fun z => absurd z (by omega), fun _ => q_dAim hG (fun _ => ⟨1, rfl, fun z => absurd z (by omega), fun _ => ⟨fun z => absurd z (by omega), fun _ => ⟨fun z => absurd z (by omega), fun _ => ⟨by omega, by omega, ?_⟩⟩⟩⟩) (fun z => absurd ⟨by omega, by omega, by omega, by omega⟩ z)⟩) (fun z => absurd z (by omega))⟩) (fun z => absurd z (by omega)))
    refine passes_D hG h hn ok.1 (by omega) (by omega) (by omega) eN (fun Y r w st => ⟨_, rfl, ?_⟩)
    rcases st with ⟨rfl, neg⟩ | ⟨rfl, pos, s4, s5, s6⟩
    · exact ⟨fun _ => mm Y _ w (by rw [if_pos neg]), fun z => absurd rfl z⟩
    · exact ⟨fun z => absurd z (by omega), fun _ => ⟨fun z => mm Y _ w (by rw [if_neg (by omega), if_pos z, s4]), fun z => ⟨fun y => mm Y _ w (by rw [if_neg (by omega), if_neg z, if_pos y, s5]), fun y => mm Y _ w (by rw [if_neg (by omega), if_neg z, if_neg y, s6])⟩⟩⟩
  · have no : M_pass [zR 139, zI a, zI b, zI c, zI d, zI e] G X (fun w X2 => w = [zI (-1)] ∧ zRT X2 1 0 ∧ zKp X X2) :=
      M_pass_f0 hG (q_mForger hG hp (fun _ => ⟨1, rfl, fun z => absurd z (by omega), fun _ => q_isIn hG (fun _ _ => absurd ⟨by omega, by omega, by omega, by omega, by omega, by omega, by omega, by omega, by omega, by omega⟩ ok) (fun _ => ⟨0, rfl, fun _ => ⟨rfl, h, zKp_r X⟩, fun z => absurd rfl z⟩)⟩) (fun _ => ⟨0, rfl, fun _ => ⟨rfl, h, zKp_r X⟩, fun z => absurd rfl z⟩))
    exact D_pass_f0 hG (q_dPage hG (fun _ _ => ⟨1, rfl, fun z => absurd z (by omega), fun _ => q_dDay hG (fun _ _ => ⟨1, rfl, fun z => absurd z (by omega), fun _ => q_dAim hG (fun _ => ⟨1, rfl, fun z => absurd z (by omega), fun _ => ⟨fun _ => no, fun _ => ⟨fun _ => no, fun _ => absurd ⟨by omega, by omega, by omega, by omega, by omega, by omega, by omega, by omega, by omega, by omega⟩ ok⟩⟩⟩) (fun _ => ⟨0, rfl, fun _ => no, fun z => absurd rfl z⟩)⟩) (fun _ => ⟨0, rfl, fun _ => no, fun z => absurd rfl z⟩)⟩) (fun _ => ⟨0, rfl, fun _ => no, fun z => absurd rfl z⟩))
/-! met -/
abbrev zGc (X : zX) (p x day : Int) : Prop := X 1 15 ≤ zGa X p x day ∧ zGel X p x day ≠ 0 ∧ zAge X p day + zGw X p x ≤ X 1 16
theorem zGc_e {X : zX} {p x day : Int} : zand (zGs X p x day) (-2) = 6 ↔ zGc X p x day := by
  have h1 : zS1 X (zGlk X p x day).1 (zGlk X p x day).2 = 0 ∨ zS1 X (zGlk X p x day).1 (zGlk X p x day).2 = 1 := by
    unfold zS1
    by_cases c : (zGlk X p x day).1 ≠ -1 ∧ (zGlk X p x day).2 ≤ X 1 14
    · exact Or.inr (if_pos c)
    · exact Or.inl (if_neg c)
  have key : ∀ s : Fin 2, zand (zor (zor (s.val : Int) 2) 4) (-2) = 6 ∧ zand (zor (s.val : Int) 2) (-2) ≠ 6 ∧ zand (zor (s.val : Int) 4) (-2) ≠ 6 ∧ zand (s.val : Int) (-2) ≠ 6 := by decide +kernel
  have k : zand (zor (zor (zS1 X (zGlk X p x day).1 (zGlk X p x day).2) 2) 4) (-2) = 6 ∧ zand (zor (zS1 X (zGlk X p x day).1 (zGlk X p x day).2) 2) (-2) ≠ 6 ∧ zand (zor (zS1 X (zGlk X p x day).1 (zGlk X p x day).2) 4) (-2) ≠ 6 ∧ zand (zS1 X (zGlk X p x day).1 (zGlk X p x day).2) (-2) ≠ 6 := by
    rcases h1 with h1 | h1
    · rw [h1]
      exact key 0
    · rw [h1]
      exact key 1
  unfold zGs zSi zS4 zS2
  by_cases a : X 1 15 ≤ zGa X p x day
  · rw [if_pos a]
    by_cases b : zGel X p x day ≠ 0 ∧ zAge X p day + zGw X p x ≤ X 1 16
    · rw [if_pos b]
      exact ⟨fun _ => ⟨a, b⟩, fun _ => k.1⟩
    · rw [if_neg b]
      exact ⟨fun z => absurd z k.2.1, fun z => absurd z.2 b⟩
  · rw [if_neg a]
    by_cases b : zGel X p x day ≠ 0 ∧ zAge X p day + zGw X p x ≤ X 1 16
    · rw [if_pos b]
      exact ⟨fun z => absurd z k.2.2.1, fun z => absurd z.1 a⟩
    · rw [if_neg b]
      exact ⟨fun z => absurd z k.2.2.2, fun z => absurd z.1 a⟩
noncomputable def zMc (X : zX) (p day k w : Int) : Nat → Int
  | 0 => 0
  | x + 1 => if zGo X p x day k w then max (zMc X p day k w x) (if zGc X p x day then (zGlk X p x day).2 else 61) else zMc X p day k w x
/-- the reference's two: the greatest LOOK, whether one is never cried at -/
noncomputable def zMrf (X : zX) (p day k w : Int) : Nat → Int × Int
  | 0 => (0, 0)
  | x + 1 => if zGo X p x day k w then (if (zMrf X p day k w x).1 < (zGlk X p x day).2 then (zGlk X p x day).2 else (zMrf X p day k w x).1, if (zMrf X p day k w x).2 = 0 ∧ zGc X p x day then 0 else 1) else zMrf X p day k w x
theorem zMc_r {X : zX} {p day k w : Int} (h : zRT X 1 0) : ∀ x : Nat, 0 ≤ zMc X p day k w x ∧ ((zMrf X p day k w x).2 = 0 → zMc X p day k w x = (zMrf X p day k w x).1) ∧ ((zMrf X p day k w x).2 ≠ 0 → 61 ≤ zMc X p day k w x)
  | 0 => ⟨Int.le_refl _, fun _ => rfl, fun z => absurd rfl z⟩
  | x + 1 => by
    have z := zMc_r (p := p) (day := day) (k := k) (w := w) h x
    have gl := zGlk_in (p := p) (x := x) (day := day) h
    unfold zMc zMrf
    by_cases go : zGo X p x day k w
    · rw [if_pos go, if_pos go]
      simp only
      by_cases gc : zGc X p x day
      · rw [if_pos gc]
        by_cases n : (zMrf X p day k w x).2 = 0
        · rw [if_pos ⟨n, gc⟩]
          have e := z.2.1 n
          refine ⟨by omega, fun _ => ?_, fun y => absurd rfl y⟩
          by_cases lt : (zMrf X p day k w x).1 < (zGlk X p x day).2
          · rw [if_pos lt]
            omega
          · rw [if_neg lt]
            omega
        · rw [if_neg (fun y => n y.1)]
          have e := z.2.2 n
          exact ⟨by omega, fun y => absurd y (by omega), fun _ => by omega⟩
      · rw [if_neg gc, if_neg (fun y => gc y.2)]
        exact ⟨by omega, fun y => absurd y (by omega), fun _ => by omega⟩
    · rw [if_neg go, if_neg go]
      exact z
theorem least_D {Q : List zV → zX → Prop} {G : zG} {X : zX} {p day k w' : Int} {N : Nat} (hG : SH G) (h : zRT X 1 0) (hn : zNm2 G X 1 0) (p0 : 0 ≤ p) (p1 : p < 10) (d0 : 0 ≤ day) (d1 : day ≤ 99) (eN : zshl 1 (X (53 + 5 * p) 7) = N)
    (q : ∀ Y : zX, zWb X Y → Q [zI (zMc X p day k w' N)] Y) : Fo_leastMark [zR 119, zR (53 + 5 * p), zI day, zI k, zI w'] G X Q := by
  have hk := (zCa_at p0 p1).2
  have c := chs_in h p0 p1
  have sn := sets_in c.2.1 c.2.2.1
  have lp : ∀ (d x : Nat) (Y : zX), x + d = N → zWb X Y → Fo_leastMark_W Q 6 [zR 119, zR (53 + 5 * p), zI day, zI k, zI w', zI (zMc X p day k w' x), zI (x : Int), zT, zT] [] G Y := by
    intro d
    induction d with
    | zero =>
      intro x Y e w
      have ex : x = N := by omega
      rw [ex]
      refine Fo_leastMark_f6 hG hk ?_
      rw [w (53 + 5 * p) (by omega), eN]
      exact ⟨fun z => absurd z (by omega), fun _ => q Y w⟩
    | succ d ih =>
      intro x Y e w
      have nx := fun Y2 => ih (x + 1) Y2 (by omega)
      rw [show ((x + 1 : Nat) : Int) = (x : Int) + 1 by omega] at nx
      unfold zMc at nx
      refine Fo_leastMark_f6 hG hk ?_
      rw [w (53 + 5 * p) (by omega), eN]
      refine ⟨fun _ => aims_D hG h w p0 p1 (fun Y2 r2 w2 f2 ev => ⟨_, rfl, ?_⟩), fun z => absurd z (by omega)⟩
      rcases ev with ⟨rfl, go, y3, od, l5, l6⟩ | ⟨rfl, no⟩
      · rw [if_pos go] at nx
        refine ⟨fun z => absurd z (by omega), fun _ => gsigns_D hG h hn w2 p0 p1 d0 d1 y3 od l5 l6 ⟨_, rfl, fun cr => Fo_leastMark_f72 hG hk ⟨fun z => absurd z (by omega), fun _ => Fo_leastMark_f93 hG hk ⟨zw_id (by omega) (by omega), ?_⟩⟩, fun cr => Fo_leastMark_f72 hG hk ⟨fun _ => Fo_leastMark_f93 hG hk ⟨zw_id (by omega) (by omega), ?_⟩, fun z => absurd rfl z⟩⟩⟩
        · rw [if_pos (zGc_e.1 cr)] at nx
          rw [l6]
          exact nx Y2 w2
        · rw [if_neg (fun z => cr (zGc_e.2 z))] at nx
          exact nx Y2 w2
      · rw [if_neg no] at nx
        exact ⟨fun _ => ⟨zw_id (by omega) (by omega), nx Y2 w2⟩, fun z => absurd rfl z⟩
  exact Fo_leastMark_f0 hG hk (lp N 0 X (by omega) (zWb_r X))
theorem met_R {Q : List zV → zX → Prop} {G : zG} {X : zX} {p day k w' : Int} {N : Nat} (hG : SH G) (h : zRT X 1 0) (hn : zNm2 G X 1 0) (p0 : 0 ≤ p) (p1 : p < 10) (d0 : 0 ≤ day) (d1 : day ≤ 99) (eN : zshl 1 (X (53 + 5 * p) 7) = N)
    (q : ∀ Y : zX, zWb X Y → Q [zI (if zMc X p day k w' N ≤ 60 then zMc X p day k w' N else -1)] Y) :
    ∀ (d x : Nat) (Y : zX), x + d = N → zWb X Y → M_met_W Q 23 [zR 139, zI p, zI day, zI k, zI w', zI (zMrf X p day k w' x).1, zI (zMrf X p day k w' x).2, zI (x : Int), zT] [] G Y := by
  have c := chs_in h p0 p1
  have sn := sets_in c.2.1 c.2.2.1
  have m1 : X 140 4 = X 1 15 := (zR_mrk h 1 (by omega) (by omega)).1
  have m2 : X 140 5 = X 1 16 := (zR_mrk h 2 (by omega) (by omega)).1
  intro d
  induction d with
  | zero =>
    intro x Y e w
    have ex : x = N := by omega
    rw [ex]
    refine M_met_f23 hG (q_pageAt hG p0 p1 ⟨_, rfl, zw_id (by omega) (by omega), by omega, by omega, ?_⟩)
    rw [w 140 (by omega), show 2670 + 210 * p + 15 = 2685 + 210 * p by omega, c.1, eN]
    have qq := q Y w
    have mr := zMc_r (p := p) (day := day) (k := k) (w := w') h N
    refine ⟨fun z => absurd z (by omega), fun _ => ⟨fun z => ⟨fun y => ?_, fun y => ?_⟩, fun z => ?_⟩⟩
    · rw [if_neg (by have := mr.2.1 z; omega)] at qq
      exact qq
    · rw [if_pos (by have := mr.2.1 z; omega), mr.2.1 z] at qq
      exact qq
    · rw [if_neg (by have := mr.2.2 z; omega)] at qq
      exact qq
  | succ d ih =>
    intro x Y e w
    have nx := fun Y2 => ih (x + 1) Y2 (by omega)
    rw [show ((x + 1 : Nat) : Int) = (x : Int) + 1 by omega] at nx
    unfold zMrf at nx
    have gw := zGw_in (x := x) h p0 p1
    have gl := zGlk_in (p := p) (x := x) (day := day) h
    have si := zR_sin h p p0 p1
    rw [show (1 : Int) + 52 + 5 * p = 53 + 5 * p by omega] at si
    refine M_met_f23 hG (q_pageAt hG p0 p1 ⟨_, rfl, zw_id (by omega) (by omega), by omega, by omega, ?_⟩)
    rw [w 140 (by omega), show 2670 + 210 * p + 15 = 2685 + 210 * p by omega, c.1, eN]
    refine ⟨fun _ => forges_R hG h hn w p0 p1 (fun Y2 w2 e31 e32 e33 e34 e40 e41 => ⟨rfl, isForgery_M hG h e31 e32 e33 (fun go => ⟨1, rfl, fun z => absurd z (by omega), fun _ => ?_⟩) (fun no => ⟨0, rfl, fun _ => ⟨zw_id (by omega) (by omega), ?_⟩, fun z => absurd rfl z⟩)⟩), fun z => absurd z (by omega)⟩
    · rw [if_pos go] at nx
      simp only at nx
      have g32 : Y2 139 32 = (zGlk X p x day).2 := e32 go.2.1
      have f125 : ∀ v : Int, v = (if (zMrf X p day k w' x).2 = 0 ∧ zGc X p x day then 0 else 1) → M_met_W Q 125 [zR 139, zI p, zI day, zI k, zI w', zI (zMrf X p day k w' x).1, zT, zI (x : Int), zT] [zI v] G Y2 := fun v ev => by
        refine M_met_f125 hG ?_
        rw [g32]
        have z := nx Y2 w2
        rw [← ev] at z
        refine ⟨fun lt => ⟨zw_id (by omega) (by omega), ?_⟩, fun ge => ⟨zw_id (by omega) (by omega), ?_⟩⟩
        · rw [if_pos lt] at z
          exact z
        · rw [if_neg (by omega)] at z
          exact z
      have f108 : ∀ s0 : Int, (s0 ≠ 0 ↔ zGc X p x day) → M_met_W Q 108 [zR 139, zI p, zI day, zI k, zI w', zI (zMrf X p day k w' x).1, zI (zMrf X p day k w' x).2, zI (x : Int), zT] [zI s0] G Y2 := fun s0 es =>
        M_met_f108 hG ⟨fun z => ⟨fun y => f125 1 (by rw [if_neg (fun u => es.2 u.2 y)]), fun y => f125 0 (by rw [if_pos ⟨z, es.1 y⟩])⟩, fun z => f125 1 (by rw [if_neg (fun u => z u.1)])⟩
      have f107 : ¬zGc X p x day → M_met_W Q 107 [zR 139, zI p, zI day, zI k, zI w', zI (zMrf X p day k w' x).1, zI (zMrf X p day k w' x).2, zI (x : Int), zT] [] G Y2 := fun n => M_met_f107 hG (f108 0 ⟨fun y => absurd rfl y, fun y => absurd y n⟩)
      rw [e33, e34, w2 140 (by omega), m1]
      refine ⟨fun lt => f107 (fun y => by have := y.1; omega), fun ge => ⟨fun z => f107 (fun y => y.2.1 z), fun z => age_R hG (zWb_RT w2 h) p0 p1 d0 (by omega) ⟨_, rfl, ?_⟩⟩⟩
      have ea : zAge Y2 p day = zAge X p day := by
        unfold zAge
        rw [w2 (53 + 5 * p) (by omega)]
      have ab : 0 ≤ zAge X p day ∧ zAge X p day ≤ 99 := by
        unfold zAge
        omega
      rw [ea, e40, w2 140 (by omega), m2]
      exact ⟨zw_id (by omega) (by omega), fun lt => f107 (fun y => by have := y.2.2; omega), fun le => f108 1 ⟨fun _ => ⟨ge, z, le⟩, fun _ => by omega⟩⟩
    · rw [if_neg no] at nx
      exact nx Y2 w2
theorem op_met {G : zG} {X : zX} {a b c d : Int} (hG : SH G) (h : zRT X 1 0) (hn : zNm2 G X 1 0) : zOp D_met M_met [zI a, zI b, zI c, zI d] [zI a, zI b, zI c, zI d] G X := by
  have hp := q_pages h
  by_cases ok : 0 ≤ a ∧ a < X 1 12 ∧ 0 ≤ b ∧ b ≤ 99 ∧ 0 ≤ c ∧ c ≤ 99 ∧ 0 ≤ d ∧ d ≤ 999
  · have cc := chs_in h ok.1 (by omega : a < 10)
    have sn := sets_in cc.2.1 cc.2.2.1
    obtain ⟨N, eN⟩ : ∃ N : Nat, zshl 1 (X (53 + 5 * a) 7) = N := ⟨(zshl 1 (X (53 + 5 * a) 7)).toNat, by omega⟩
    have mm : ∀ (Y : zX) (v : Int), zWb X Y → v = (if zMc X a b c d N ≤ 60 then zMc X a b c d N else -1) → M_met [zR 139, zI a, zI b, zI c, zI d] G Y (fun w X2 => w = [zI v] ∧ zRT X2 1 0 ∧ zKp X X2) := fun Y v w ev => by
      refine M_met_f0 hG (q_mForger hG (by rw [w 140 (by omega), w 1 (by omega)]; exact hp) (fun _ => ⟨1, rfl, fun z => absurd z (by omega), fun _ => ?_⟩) (fun z => absurd (by rw [w 1 (by omega)]; omega) z))
      exact met_R hG h hn ok.1 (by omega) (by omega) (by omega) eN (fun Y2 w2 => ⟨by rw [ev], zWb_RT w2 h, zWb_Kp w2⟩) N 0 Y (by omega) w
    refine D_met_f0 hG (q_dPage hG (fun _ _ => ⟨1, rfl, fun z => absurd z (by omega), fun _ => q_dDay hG (fun _ _ => ⟨1, rfl, fun z => absurd z (by omega), fun _ => q_dAim hG (fun _ => ⟨1, rfl, fun z => absurd z (by omega), fun _ => ⟨by omega, by omega, ?_⟩⟩) (fun z => absurd ⟨by omega, by omega, by omega, by omega⟩ z)⟩) (fun z => absurd z (by omega))⟩) (fun z => absurd z (by omega)))
    exact least_D hG h hn ok.1 (by omega) (by omega) (by omega) eN (fun Y w => ⟨_, rfl, fun z => mm Y _ w (by rw [if_neg (by omega)]), fun z => mm Y _ w (by rw [if_pos z])⟩)
  · have no : M_met [zR 139, zI a, zI b, zI c, zI d] G X (fun w X2 => w = [zI (-1)] ∧ zRT X2 1 0 ∧ zKp X X2) :=
      M_met_f0 hG (q_mForger hG hp (fun _ => absurd ⟨by omega, by omega, by omega, by omega, by omega, by omega, by omega, by omega⟩ ok) (fun _ => ⟨0, rfl, fun _ => ⟨rfl, h, zKp_r X⟩, fun z => absurd rfl z⟩))
    exact D_met_f0 hG (q_dPage hG (fun _ _ => ⟨1, rfl, fun z => absurd z (by omega), fun _ => q_dDay hG (fun _ _ => ⟨1, rfl, fun z => absurd z (by omega), fun _ => q_dAim hG (fun _ => absurd ⟨by omega, by omega, by omega, by omega, by omega, by omega, by omega, by omega⟩ ok) (fun _ => ⟨0, rfl, fun _ => no, fun z => absurd rfl z⟩)⟩) (fun _ => ⟨0, rfl, fun _ => no, fun z => absurd rfl z⟩)⟩) (fun _ => ⟨0, rfl, fun _ => no, fun z => absurd rfl z⟩))
