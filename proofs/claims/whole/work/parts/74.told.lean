/-! ===== what is told, copied: the end; again ===== -/
theorem zBw_e {G2 : zG} {f : Int} (hb : zBw G2 f) : zkd G2 (1 + f) = 1 ∧ zrx G2 (1 + f) 6 = 18 + f ∧ zkd G2 (18 + f) = 52 ∧ zln G2 (18 + f) = 16 ∧ zrx G2 (1 + f) 7 = 19 + f ∧ zkd G2 (19 + f) = 50 ∧ zln G2 (19 + f) = 8 ∧ zrx G2 (1 + f) 8 = 20 + f ∧ zkd G2 (20 + f) = 50 ∧ zln G2 (20 + f) = 1296 ∧ zrx G2 (1 + f) 9 = 21 + f ∧ zkd G2 (21 + f) = 50 ∧ zln G2 (21 + f) = 10 ∧ zrx G2 (1 + f) 10 = 22 + f ∧ zkd G2 (22 + f) = 50 ∧ zln G2 (22 + f) = 10 := ⟨zBw_k hb (b := 1) (c := 1) (by omega) (by omega) (by decide +kernel), zBw_r hb (b := 1) (j := 6) (r := 18) (by omega) (by omega) (by decide +kernel) (by decide +kernel) (by omega), zBw_k hb (b := 18) (c := 52) (by omega) (by omega) (by decide +kernel), zBw_l hb (b := 18) (c := 16) (by omega) (by omega) (by decide +kernel), zBw_r hb (b := 1) (j := 7) (r := 19) (by omega) (by omega) (by decide +kernel) (by decide +kernel) (by omega), zBw_k hb (b := 19) (c := 50) (by omega) (by omega) (by decide +kernel), zBw_l hb (b := 19) (c := 8) (by omega) (by omega) (by decide +kernel), zBw_r hb (b := 1) (j := 8) (r := 20) (by omega) (by omega) (by decide +kernel) (by decide +kernel) (by omega), zBw_k hb (b := 20) (c := 50) (by omega) (by omega) (by decide +kernel), zBw_l hb (b := 20) (c := 1296) (by omega) (by omega) (by decide +kernel), zBw_r hb (b := 1) (j := 9) (r := 21) (by omega) (by omega) (by decide +kernel) (by decide +kernel) (by omega), zBw_k hb (b := 21) (c := 50) (by omega) (by omega) (by decide +kernel), zBw_l hb (b := 21) (c := 10) (by omega) (by omega) (by decide +kernel), zBw_r hb (b := 1) (j := 10) (r := 22) (by omega) (by omega) (by decide +kernel) (by decide +kernel) (by omega), zBw_k hb (b := 22) (c := 50) (by omega) (by omega) (by decide +kernel), zBw_l hb (b := 22) (c := 10) (by omega) (by omega) (by decide +kernel)⟩
theorem to124 {LC LS : Nat} {Q : List zV → zG → zX → Prop} {G2 : zG} {Z : zX} {d e : Int} (hd : zBw G2 d) (he : zBw G2 e) (d0 : 0 ≤ d) (e0 : 0 ≤ e) (dj : d + 102 ≤ e ∨ e + 102 ≤ d) (bo : ∀ j : Int, 0 ≤ j → j < 16 → Z (18 + e) j = 0 ∨ Z (18 + e) j = 1)
    (q : ∀ W : zX, (∀ x : Int, x ≠ 1 + d → ¬(18 + d ≤ x ∧ x ≤ 22 + d) → W x = Z x) → (∀ i : Int, 11 ≤ i → i ≤ 16 → W (1 + d) i = Z (1 + e) i) → (∀ j : Int, 0 ≤ j → j < 16 → W (18 + d) j = Z (18 + e) j) → (∀ j : Int, 0 ≤ j → j < 8 → W (19 + d) j = Z (19 + e) j) → (∀ j : Int, 0 ≤ j → j < 1296 → W (20 + d) j = Z (20 + e) j) → (∀ j : Int, 0 ≤ j → j < 10 → W (21 + d) j = Z (21 + e) j) → (∀ j : Int, 0 ≤ j → j < 10 → W (22 + d) j = Z (22 + e) j) → Q [] G2 W) : To_copy_W LC LS Q 124 [zR (1 + d), zR (1 + e), zI 0] [] G2 Z := by
  have fd := zBw_e hd
  have fe := zBw_e he
  have lp : ∀ (m : Nat) (k : Int) (Y : zX), k + m = 16 → 0 ≤ k → (∀ x : Int, x ≠ 18 + d → Y x = Z x) → (∀ j : Int, 0 ≤ j → j < k → Y (18 + d) j = Z (18 + e) j) → To_copy_W LC LS Q 124 [zR (1 + d), zR (1 + e), zI k] [] G2 Y := by
    intro m
    induction m with
    | zero =>
      intro k Y em k0 f g
      obtain rfl : k = 16 := by omega
      refine To_copy_e124 ?_
      rw [fd.2.1, fd.1, fd.2.2.1, fd.2.2.2.1]
      refine ⟨rfl, by omega, by omega, fun z => absurd z (by omega), fun _ => ?_⟩
      rw [fe.1, fd.2.2.2.2.1, fe.2.2.2.2.1, fd.2.2.2.2.2.1, fe.2.2.2.2.2.1, fd.2.2.2.2.2.2.1, fe.2.2.2.2.2.2.1, fd.2.2.2.2.2.2.2.1, fe.2.2.2.2.2.2.2.1, fd.2.2.2.2.2.2.2.2.1, fe.2.2.2.2.2.2.2.2.1, fd.2.2.2.2.2.2.2.2.2.1, fe.2.2.2.2.2.2.2.2.2.1, fd.2.2.2.2.2.2.2.2.2.2.1, fe.2.2.2.2.2.2.2.2.2.2.1, fd.2.2.2.2.2.2.2.2.2.2.2.1, fe.2.2.2.2.2.2.2.2.2.2.2.1, fd.2.2.2.2.2.2.2.2.2.2.2.2.1, fe.2.2.2.2.2.2.2.2.2.2.2.2.1, fd.2.2.2.2.2.2.2.2.2.2.2.2.2.1, fe.2.2.2.2.2.2.2.2.2.2.2.2.2.1, fd.2.2.2.2.2.2.2.2.2.2.2.2.2.2.1, fe.2.2.2.2.2.2.2.2.2.2.2.2.2.2.1, fd.2.2.2.2.2.2.2.2.2.2.2.2.2.2.2, fe.2.2.2.2.2.2.2.2.2.2.2.2.2.2.2]
      refine ⟨rfl, by omega, by omega, by omega, by omega, by omega, by omega, by omega, by omega, by omega, by omega, by omega, by omega, by omega, by omega, by omega, by omega, by omega, by omega, by omega, fun X1 h1 => ⟨by omega, by omega, by omega, by omega, by omega, by omega, by omega, by omega, by omega, by omega, by omega, by omega, by omega, by omega, by omega, by omega, by omega, by omega, fun X2 h2 X3 h3 X4 h4 => ?_⟩⟩
      have z1 := zsa2 h1 (by omega) (by omega)
      have z2 := zsa2 h2 (by omega) (by omega)
      have z3 := zst3 h3 (by omega) (by omega) (by omega) (by omega)
      have z4 := zst3 h4 (by omega) (by omega) (by omega) (by omega)
      have o2 : ∀ x : Int, x ≠ 18 + d → x ≠ 19 + d → x ≠ 20 + d → x ≠ 21 + d → x ≠ 22 + d → X2 x = Z x := fun x a b c g h => by rw [z2.1 x g h, z1.1 x b c, f x a]
      have old : ∀ x : Int, x ≠ 1 + d → x ≠ 18 + d → x ≠ 19 + d → x ≠ 20 + d → x ≠ 21 + d → x ≠ 22 + d → X4 x = Z x := fun x u a b c g h => by rw [z4.1 x u, z3.1 x u, o2 x a b c g h]
      have oe : X2 (1 + e) = Z (1 + e) := o2 _ (by omega) (by omega) (by omega) (by omega) (by omega)
      have oe3 : X3 (1 + e) = Z (1 + e) := by rw [z3.1 _ (by omega), oe]
      refine q X4 (fun x x1 x2 => old x x1 (by omega) (by omega) (by omega) (by omega) (by omega)) (fun i i0 i1 => ?_) (fun j j0 j1 => ?_) (fun j j0 j1 => ?_) (fun j j0 j1 => ?_) (fun j j0 j1 => ?_) (fun j j0 j1 => ?_)
      · rcases (by omega : i = 11 ∨ i = 12 ∨ i = 13 ∨ i = 14 ∨ i = 15 ∨ i = 16) with c | c | c | c | c | c
        · rw [c, z4.2.2.2.2 11 (by omega) (by omega) (by omega), z3.2.1, oe]
        · rw [c, z4.2.2.2.2 12 (by omega) (by omega) (by omega), z3.2.2.1, oe]
        · rw [c, z4.2.2.2.2 13 (by omega) (by omega) (by omega), z3.2.2.2.1, oe]
        · rw [c, z4.2.1, oe3]
        · rw [c, z4.2.2.1, oe3]
        · rw [c, z4.2.2.2.1, oe3]
      · rw [z4.1 _ (by omega), z3.1 _ (by omega), z2.1 _ (by omega) (by omega), z1.1 _ (by omega) (by omega)]
        exact g j j0 j1
      · rw [z4.1 _ (by omega), z3.1 _ (by omega), z2.1 _ (by omega) (by omega), z1.2.1 j j0 j1, f _ (by omega)]
      · rw [z4.1 _ (by omega), z3.1 _ (by omega), z2.1 _ (by omega) (by omega), z1.2.2 j j0 j1, f _ (by omega)]
      · rw [z4.1 _ (by omega), z3.1 _ (by omega), z2.2.1 j j0 j1, z1.1 _ (by omega) (by omega), f _ (by omega)]
      · rw [z4.1 _ (by omega), z3.1 _ (by omega), z2.2.2 j j0 j1, z1.1 _ (by omega) (by omega), f _ (by omega)]
    | succ m ih =>
      intro k Y em k0 f g
      refine To_copy_e124 ?_
      rw [fd.2.1, fd.1, fd.2.2.1, fd.2.2.2.1]
      refine ⟨rfl, by omega, by omega, fun _ => ?_, fun z => absurd z (by omega)⟩
      rw [fe.2.1, fe.1, fe.2.2.1, fe.2.2.2.1, zw_id (by omega) (by omega), f (18 + e) (by omega)]
      refine ⟨rfl, rfl, k0, by omega, rfl, by omega, bo k k0 (by omega), ih (k + 1) _ (by omega) (by omega) (fun x hx => by rw [zrd_r hx]; exact f x hx) (fun j j0 j1 => ?_)⟩
      by_cases c : j = k
      · rw [c, zrd_s]
      · rw [zrd_n (by omega)]
        exact g j j0 (by omega)
  exact lp 16 0 Z (by omega) (Int.le_refl _) (fun _ _ => rfl) (fun j j0 j1 => absurd j1 (by omega))
theorem tod {LC LS : Nat} {Q : List zV → zG → zX → Prop} {G : zG} {X : zX} {a b d e : Int} (ea : a = 1 + d) (eb : b = 1 + e) (hd : zBw G d) (he : zBw G e) (d0 : 0 ≤ d) (e0 : 0 ≤ e) (dj : d + 102 ≤ e ∨ e + 102 ≤ d) (hC : zsz G ≤ LC) (hS : ztt G ≤ LS) (bo : ∀ j : Int, 0 ≤ j → j < 16 → X (18 + e) j = 0 ∨ X (18 + e) j = 1)
    (q : ∀ (G2 : zG) (W : zX), zCfr G G2 X W d → zMcp X W (1 + e) (1 + d) → (∀ p : Int, 0 ≤ p → p < 5 → zrx G2 (23 + 6 * p + d) 1 = zrx G (23 + 6 * p + e) 1) → (∀ p : Int, 0 ≤ p → p < 10 → zrx G2 (53 + 5 * p + d) 3 = zrx G (53 + 5 * p + e) 3) → Q [] G2 W) : To_copy LC LS [zR a, zR b] G X Q := by
  rw [ea, eb]
  have kd := zBw_k hd (b := 1) (c := 1) (by omega) (by omega) (by decide +kernel)
  have ke := zBw_k he (b := 1) (c := 1) (by omega) (by omega) (by decide +kernel)
  refine To_copy_e0 ?_
  rw [zBw_r hd (b := 1) (j := 0) (r := 2) (by omega) (by omega) (by decide +kernel) (by decide +kernel) (by omega), zBw_r he (b := 1) (j := 0) (r := 2) (by omega) (by omega) (by decide +kernel) (by decide +kernel) (by omega), zBw_r hd (b := 1) (j := 3) (r := 9) (by omega) (by omega) (by decide +kernel) (by decide +kernel) (by omega), zBw_r he (b := 1) (j := 3) (r := 9) (by omega) (by omega) (by decide +kernel) (by decide +kernel) (by omega)]
  refine ⟨kd, ke, zBw_k hd (b := 2) (c := 2) (by omega) (by omega) (by decide +kernel), tad hd he d0 e0 dj (fun Y0 f0 t1 t2 => ⟨rfl, zBw_k hd (b := 9) (c := 6) (by omega) (by omega) (by decide +kernel), spd hd he d0 e0 dj (fun Y1 f1 sp => ⟨rfl, ?_⟩)⟩)⟩
  have start : zCll G G X Y1 d e 0 0 := by
    refine ⟨⟨⟨rfl, rfl, rfl, rfl⟩, fun _ _ _ => rfl, hd, fun x hx => by rw [f1 x (by omega), f0 x (by omega) (by omega)]⟩, ⟨fun i i0 i1 => by rw [f1 _ (by omega)]; exact t1 i i0 i1, fun j j0 j1 => by rw [f1 _ (by omega)]; exact t2 j j0 j1⟩, ?_, fun p p0 p1 => absurd p1 (by omega), fun p p0 p1 => absurd p1 (by omega)⟩
    unfold zCsp at sp ⊢
    rw [f0 (9 + e) (by omega) (by omega), f0 (10 + e) (by omega) (by omega), f0 (11 + e) (by omega) (by omega), f0 (12 + e) (by omega) (by omega), f0 (13 + e) (by omega) (by omega), f0 (14 + e) (by omega) (by omega), f0 (15 + e) (by omega) (by omega)] at sp
    exact sp
  refine to24 he d0 e0 dj hC hS (fun G2 Y2 c2 => to56 he d0 e0 dj hC hS (fun G3 Y Z c fz z6 z7 => ?_) 10 0 G2 Y2 (by omega) (Int.le_refl _) c2) 5 0 G Y1 (by omega) (Int.le_refl _) start
  obtain ⟨cf, ct, cs, ch, cp⟩ := c
  have oe : ∀ x : Int, 1 + e ≤ x → x < 103 + e → Z x = X x := fun x x0 x1 => by rw [fz x (by omega) (by omega)]; exact cf.2.2.2 x (by omega)
  refine to124 cf.2.2.1 (zCfr_e cf dj he) d0 e0 dj (fun j j0 j1 => by rw [oe _ (by omega) (by omega)]; exact bo j j0 j1) (fun W fw w1 w18 w19 w20 w21 w22 => q G3 W ⟨cf.1, cf.2.1, cf.2.2.1, fun x hx => by rw [fw x (by omega) (by omega), fz x (by omega) (by omega)]; exact cf.2.2.2 x hx⟩ ?_ (fun p p0 p1 => (ch p p0 p1).1) (fun p p0 p1 => (cp p p0 p1).1))
  have old : ∀ x : Int, x ≠ 1 + d → ¬(16 + d ≤ x ∧ x ≤ 22 + d) → W x = Y x := fun x x1 x2 => by rw [fw x x1 (by omega), fz x (by omega) (by omega)]
  refine ⟨fun k k0 k1 => ?_, fun k k0 k1 => ?_, fun k k0 k1 => ?_, fun k k0 k1 => ?_, fun k k0 k1 => ?_, fun k k0 k1 => ?_, fun k k0 k1 => ?_, fun k k0 k1 => ?_, fun k k0 k1 => ?_, fun k k0 k1 => ?_, fun k k0 k1 => ?_, fun k k0 k1 => ?_, fun k k0 k1 => ?_, fun k k0 k1 => ?_, fun k k0 k1 => ?_, fun k k0 k1 => ?_, fun k k0 k1 => ?_, fun p k p0 p1 k0 k1 => ?_, fun p k p0 p1 k0 k1 => ?_, fun p k p0 p1 k0 k1 => ?_, fun p k p0 p1 k0 k1 => ?_, fun p k p0 p1 k0 k1 => ?_, fun p k p0 p1 k0 k1 => ?_, fun p k p0 p1 k0 k1 => ?_, fun p k p0 p1 k0 k1 => ?_, fun p k p0 p1 k0 k1 => ?_, fun p k p0 p1 k0 k1 => ?_⟩
  · rw [show 1 + d + 0 = 1 + d by omega, show 1 + e + 0 = 1 + e by omega]
    rw [w1 k k0 k1, oe _ (by omega) (by omega)]
  · rw [show 1 + d + 1 = 2 + d by omega, show 1 + e + 1 = 2 + e by omega, old _ (by omega) (by omega)]
    exact ct.1 k k0 k1
  · rw [show 1 + d + 2 = 3 + d by omega, show 1 + e + 2 = 3 + e by omega, old _ (by omega) (by omega)]
    exact ct.2 k k0 k1
  · rw [show 1 + d + 8 = 9 + d by omega, show 1 + e + 8 = 9 + e by omega, old _ (by omega) (by omega)]
    exact cs.1 k k0 k1
  · rw [show 1 + d + 9 = 10 + d by omega, show 1 + e + 9 = 10 + e by omega, old _ (by omega) (by omega)]
    exact cs.2.1 k k0 (by omega)
  · rw [show 1 + d + 10 = 11 + d by omega, show 1 + e + 10 = 11 + e by omega, old _ (by omega) (by omega)]
    exact cs.2.2.1 k k0 (by omega)
  · rw [show 1 + d + 11 = 12 + d by omega, show 1 + e + 11 = 12 + e by omega, old _ (by omega) (by omega)]
    exact cs.2.2.2.1 k k0 (by omega)
  · rw [show 1 + d + 12 = 13 + d by omega, show 1 + e + 12 = 13 + e by omega, old _ (by omega) (by omega)]
    exact cs.2.2.2.2.1 k k0 (by omega)
  · rw [show 1 + d + 13 = 14 + d by omega, show 1 + e + 13 = 14 + e by omega, old _ (by omega) (by omega)]
    exact cs.2.2.2.2.2.1 k k0 (by omega)
  · rw [show 1 + d + 14 = 15 + d by omega, show 1 + e + 14 = 15 + e by omega, old _ (by omega) (by omega)]
    exact cs.2.2.2.2.2.2 k k0 (by omega)
  · rw [show 1 + d + 15 = 16 + d by omega, show 1 + e + 15 = 16 + e by omega, fw _ (by omega) (by omega)]
    exact z6 k k0 (by omega)
  · rw [show 1 + d + 16 = 17 + d by omega, show 1 + e + 16 = 17 + e by omega, fw _ (by omega) (by omega)]
    exact z7 k k0 (by omega)
  · rw [show 1 + d + 17 = 18 + d by omega, show 1 + e + 17 = 18 + e by omega, w18 k k0 (by omega), oe _ (by omega) (by omega)]
  · rw [show 1 + d + 18 = 19 + d by omega, show 1 + e + 18 = 19 + e by omega, w19 k k0 (by omega), oe _ (by omega) (by omega)]
  · rw [show 1 + d + 19 = 20 + d by omega, show 1 + e + 19 = 20 + e by omega, w20 k k0 (by omega), oe _ (by omega) (by omega)]
  · rw [show 1 + d + 20 = 21 + d by omega, show 1 + e + 20 = 21 + e by omega, w21 k k0 (by omega), oe _ (by omega) (by omega)]
  · rw [show 1 + d + 21 = 22 + d by omega, show 1 + e + 21 = 22 + e by omega, w22 k k0 (by omega), oe _ (by omega) (by omega)]
  · rw [show 1 + d + 22 + 6 * p = 23 + 6 * p + d by omega, show 1 + e + 22 + 6 * p = 23 + 6 * p + e by omega, old _ (by omega) (by omega)]
    exact (ch p p0 p1).2.1 k k0 k1
  · rw [show 1 + d + 24 + 6 * p = 23 + 6 * p + 2 + d by omega, show 1 + e + 24 + 6 * p = 23 + 6 * p + 2 + e by omega, old _ (by omega) (by omega), show k = 1 by omega]
    exact (ch p p0 p1).2.2.1
  · rw [show 1 + d + 26 + 6 * p = 23 + 6 * p + 4 + d by omega, show 1 + e + 26 + 6 * p = 23 + 6 * p + 4 + e by omega, old _ (by omega) (by omega), show k = 1 by omega]
    exact (ch p p0 p1).2.2.2.1
  · rw [show 1 + d + 25 + 6 * p = 23 + 6 * p + 2 + 1 + d by omega, show 1 + e + 25 + 6 * p = 23 + 6 * p + 2 + 1 + e by omega, old _ (by omega) (by omega)]
    exact (ch p p0 p1).2.2.2.2.1 k k0 k1
  · rw [show 1 + d + 27 + 6 * p = 23 + 6 * p + 4 + 1 + d by omega, show 1 + e + 27 + 6 * p = 23 + 6 * p + 4 + 1 + e by omega, old _ (by omega) (by omega)]
    exact (ch p p0 p1).2.2.2.2.2 k k0 k1
  · rw [show 1 + d + 52 + 5 * p = 53 + 5 * p + d by omega, show 1 + e + 52 + 5 * p = 53 + 5 * p + e by omega, old _ (by omega) (by omega)]
    exact (cp p p0 p1).2.1 k k0 k1
  · rw [show 1 + d + 53 + 5 * p = 53 + 5 * p + 1 + d by omega, show 1 + e + 53 + 5 * p = 53 + 5 * p + 1 + e by omega, old _ (by omega) (by omega), show k = 1 by omega]
    exact (cp p p0 p1).2.2.1
  · rw [show 1 + d + 54 + 5 * p = 53 + 5 * p + 1 + 1 + d by omega, show 1 + e + 54 + 5 * p = 53 + 5 * p + 1 + 1 + e by omega, old _ (by omega) (by omega)]
    exact (cp p p0 p1).2.2.2.1 k k0 k1
  · rw [show 1 + d + 55 + 5 * p = 53 + 5 * p + 3 + d by omega, show 1 + e + 55 + 5 * p = 53 + 5 * p + 3 + e by omega, old _ (by omega) (by omega)]
    exact (cp p p0 p1).2.2.2.2.1 k k0 k1
  · rw [show 1 + d + 56 + 5 * p = 53 + 5 * p + 4 + d by omega, show 1 + e + 56 + 5 * p = 53 + 5 * p + 4 + e by omega, old _ (by omega) (by omega)]
    exact (cp p p0 p1).2.2.2.2.2 k k0 k1
