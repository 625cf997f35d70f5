/-! ===== feed ===== -/
theorem z_andm (x : Int) {m : Int} (h0 : 0 ≤ m) (h1 : m < 2147483648) : 0 ≤ zand x m ∧ zand x m ≤ m := by
  unfold zand
  have h : (Int32.ofInt x &&& Int32.ofInt m).toBitVec.toNat ≤ m.toNat := by
    rw [Int32.toBitVec_and, BitVec.toNat_and]
    refine Nat.le_trans Nat.and_le_right ?_
    show (BitVec.ofInt 32 m).toNat ≤ m.toNat
    rw [BitVec.toNat_ofInt]
    omega
  have e : (Int32.ofInt x &&& Int32.ofInt m).toInt = (Int32.ofInt x &&& Int32.ofInt m).toBitVec.toInt := rfl
  rw [e, BitVec.toInt_eq_toNat_cond]
  split <;> omega
theorem z_shl1 {n : Int} (h0 : 0 ≤ n) (h1 : n < 31) : 1 ≤ zshl 1 n ∧ zshl 1 n ≤ 1073741824 := by
  have key : ∀ k : Fin 31, 1 ≤ zshl 1 (k.val : Int) ∧ zshl 1 (k.val : Int) ≤ 1073741824 := by decide +kernel
  have z := key ⟨n.toNat, by omega⟩
  rw [show ((⟨n.toNat, by omega⟩ : Fin 31).val : Int) = n from Int.toNat_of_nonneg h0] at z
  exact z
theorem put_D {Q : List zV → zX → Prop} {G : zG} {X0 : zX} {s L : Int} (hG : SH G) (hL : 0 ≤ L ∧ L + 4 ≤ 500) (q : ∀ X2 : zX, X2 2 1 = L + 4 → (∀ i : Int, 0 ≤ i → i < 4 → X2 3 (L + i) = zand (zshr s (24 - 8 * i)) 255) → (∀ a k : Int, ¬(a = 2 ∧ k = 1) → ¬(a = 3 ∧ L ≤ k ∧ k < L + 4) → X2 a k = X0 a k) → Q [] X2) :
    ∀ (d : Nat) (m : Int) (X : zX), m + d = 4 → 0 ≤ m → X 2 1 = L + m → (∀ i : Int, 0 ≤ i → i < m → X 3 (L + i) = zand (zshr s (24 - 8 * i)) 255) → (∀ a k : Int, ¬(a = 2 ∧ k = 1) → ¬(a = 3 ∧ L ≤ k ∧ k < L + 4) → X a k = X0 a k) → Ta_put_W Q 3 [zR 2, zI s, zI (24 - 8 * m)] [] G X
  | 0, m, X, e, m0, h1, h2, h3 => by
    have hm : m = 4 := by omega
    subst hm
    exact Ta_put_f3 hG ⟨fun _ => q X h1 h2 h3, fun z => absurd z (by omega)⟩
  | d + 1, m, X, e, m0, h1, h2, h3 => by
    refine Ta_put_f3 hG ⟨fun z => absurd z (by omega), fun _ => ⟨fun _ => ?_, fun z => absurd z (by omega)⟩⟩
    have zb := z_andm (zshr s (24 - 8 * m)) (m := 255) (by omega) (by omega)
    rw [h1, show zand (zshr s (24 - 8 * m)) 255 % 65536 % 65536 = zand (zshr s (24 - 8 * m)) 255 by omega, show zst X 3 (L + m) (zand (zshr s (24 - 8 * m)) 255) 2 1 = L + m from (zrd_n (by omega)).trans h1]
    refine ⟨by omega, by omega, zw_id (by omega) (by omega), fun X1 e1 => ⟨by rw [zw_id (by omega) (by omega)]; omega, ?_⟩⟩
    rw [show 24 - 8 * m - 8 = 24 - 8 * (m + 1) by omega]
    refine put_D hG hL q d (m + 1) X1 (by omega) (by omega) (by rw [e1, zrd_s]; omega) (fun i i0 i1 => ?_) (fun a k n1 n2 => ?_)
    · rw [e1, zrd_n (by omega)]
      by_cases hi : i = m
      · rw [hi, zrd_s]
      · rw [zrd_n (by omega)]
        exact h2 i i0 (by omega)
    · rw [e1, zrd_n (by omega), zrd_n (by omega)]
      exact h3 a k n1 n2
def zW5 (a b c d e i : Int) : Int := if i < 4 then a else if i < 8 then b else if i < 12 then c else if i < 16 then d else e
theorem put_D4 {Q : List zV → zX → Prop} {G : zG} {X : zX} {s L : Int} (hG : SH G) (hL : 0 ≤ L ∧ L + 4 ≤ 500) (h1 : X 2 1 = L) (q : ∀ X2 : zX, X2 2 1 = L + 4 → (∀ i : Int, 0 ≤ i → i < 4 → X2 3 (L + i) = zand (zshr s (24 - 8 * i)) 255) → (∀ a k : Int, ¬(a = 2 ∧ k = 1) → ¬(a = 3 ∧ L ≤ k ∧ k < L + 4) → X2 a k = X a k) → Q [] X2) : Ta_put [zR 2, zI s] G X Q :=
  Ta_put_f0 hG (put_D hG hL q 4 0 X (by omega) (by omega) (by omega) (fun i _ _ => by omega) (fun a k _ _ => rfl))
theorem feed_D {Q : List zV → zX → Prop} {G : zG} {X : zX} {a b c d e L : Int} (hG : SH G) (h1 : X 2 1 = L) (h0 : 0 ≤ L ∧ L ≤ 500)
    (q1 : L + 20 ≤ 500 → ∀ X2 : zX, X2 2 1 = L + 20 → (∀ i : Int, 0 ≤ i → i < 20 → X2 3 (L + i) = zand (zshr (zW5 a b c d e i) (24 - 8 * (i % 4))) 255) → (∀ x k : Int, ¬(x = 2 ∧ k = 1) → ¬(x = 3 ∧ L ≤ k ∧ k < L + 20) → X2 x k = X x k) → Q [zI (L + 20)] X2)
    (q0 : 500 < L + 20 → Q [zI (-1)] X) : D_feed [zR 0, zI a, zI b, zI c, zI d, zI e] G X Q := by
  refine D_feed_f0 hG ?_
  rw [h1]
  refine ⟨zw_id (by omega) (by omega), q0, fun hl => ?_⟩
  refine put_D4 hG (L := L) (by omega) h1 (fun X1 l1 v1 f1 => ⟨rfl, ?_⟩)
  refine put_D4 hG (L := L + 4) (by omega) l1 (fun X2 l2 v2 f2 => ⟨rfl, ?_⟩)
  refine put_D4 hG (L := L + 8) (by omega) (by omega) (fun X3 l3 v3 f3 => ⟨rfl, ?_⟩)
  refine put_D4 hG (L := L + 12) (by omega) (by omega) (fun X4 l4 v4 f4 => ⟨rfl, ?_⟩)
  refine put_D4 hG (L := L + 16) (by omega) (by omega) (fun X5 l5 v5 f5 => ⟨rfl, ?_⟩)
  have l6 : X5 2 1 = L + 20 := by omega
  rw [l6]
  refine q1 hl X5 l6 (fun i i0 i1 => ?_) (fun x k n1 n2 => ?_)
  · unfold zW5
    by_cases c1 : i < 4
    · rw [if_pos c1, f5 _ _ (by omega) (by omega), f4 _ _ (by omega) (by omega), f3 _ _ (by omega) (by omega), f2 _ _ (by omega) (by omega), v1 i i0 c1, show i % 4 = i by omega]
    · rw [if_neg c1]
      by_cases c2 : i < 8
      · rw [if_pos c2, f5 _ _ (by omega) (by omega), f4 _ _ (by omega) (by omega), f3 _ _ (by omega) (by omega), show L + i = L + 4 + (i - 4) by omega, v2 (i - 4) (by omega) (by omega), show i % 4 = i - 4 by omega]
      · rw [if_neg c2]
        by_cases c3 : i < 12
        · rw [if_pos c3, f5 _ _ (by omega) (by omega), f4 _ _ (by omega) (by omega), show L + i = L + 8 + (i - 8) by omega, v3 (i - 8) (by omega) (by omega), show i % 4 = i - 8 by omega]
        · rw [if_neg c3]
          by_cases c4 : i < 16
          · rw [if_pos c4, f5 _ _ (by omega) (by omega), show L + i = L + 12 + (i - 12) by omega, v4 (i - 12) (by omega) (by omega), show i % 4 = i - 12 by omega]
          · rw [if_neg c4, show L + i = L + 16 + (i - 16) by omega, v5 (i - 16) (by omega) (by omega), show i % 4 = i - 16 by omega]
  · rw [f5 _ _ n1 (by omega), f4 _ _ n1 (by omega), f3 _ _ n1 (by omega), f2 _ _ n1 (by omega), f1 _ _ n1 (by omega)]
theorem feed_M {Q : List zV → zX → Prop} {G : zG} {X0 : zX} {a b c d e L : Int} (hG : SH G) (hL : 0 ≤ L ∧ L + 20 ≤ 500) (q : ∀ X2 : zX, X2 140 6 = L + 20 → (∀ i : Int, 0 ≤ i → i < 20 → X2 140 (70 + (L + i)) = zand (zshr (zW5 a b c d e i) (24 - 8 * (i % 4))) 255) → (∀ x k : Int, ¬(x = 140 ∧ k = 6) → ¬(x = 140 ∧ 70 + L ≤ k ∧ k < 90 + L) → X2 x k = X0 x k) → Q [zI (L + 20)] X2) :
    ∀ (n : Nat) (m : Int) (X : zX), m + n = 20 → 0 ≤ m → X 140 6 = L + m → (∀ i : Int, 0 ≤ i → i < m → X 140 (70 + (L + i)) = zand (zshr (zW5 a b c d e i) (24 - 8 * (i % 4))) 255) → (∀ x k : Int, ¬(x = 140 ∧ k = 6) → ¬(x = 140 ∧ 70 + L ≤ k ∧ k < 90 + L) → X x k = X0 x k) → M_feed_W Q 21 [zR 139, zI a, zI b, zI c, zI d, zI e, zI m, zT] [] G X
  | 0, m, X, en, m0, h1, h2, h3 => by
    have hm : m = 20 := by omega
    subst hm
    refine M_feed_f21 hG ⟨fun z => absurd z (by omega), fun _ => ?_⟩
    rw [h1]
    exact q X h1 h2 h3
  | n + 1, m, X, en, m0, h1, h2, h3 => by
    have st : ∀ s0 : Int, s0 = zW5 a b c d e m → M_feed_W Q 74 [zR 139, zI a, zI b, zI c, zI d, zI e, zI m, zT] [zI s0] G X := fun s0 es => by
      refine M_feed_f74 hG ?_
      rw [h1, show zst X 140 (70 + (L + m)) (zand (zshr s0 (24 - 8 * (m % 4))) 255) 140 6 = L + m from (zrd_n (by omega)).trans h1, Int.tmod_eq_emod_of_nonneg m0]
      refine ⟨zw_id (by omega) (by omega), by simp only [zw]; omega, by omega, by omega, zw_id (by omega) (by omega), fun X1 e1 => ⟨zw_id (by omega) (by omega), ?_⟩⟩
      refine feed_M hG hL q n (m + 1) X1 (by omega) (by omega) (by rw [e1, zrd_s]; omega) (fun i i0 i1 => ?_) (fun x k n1 n2 => ?_)
      · rw [e1, zrd_n (by omega)]
        by_cases hi : i = m
        · rw [hi, zrd_s, es]
        · rw [zrd_n (by omega)]
          exact h2 i i0 (by omega)
      · rw [e1, zrd_n (by omega), zrd_n (by omega)]
        exact h3 x k n1 n2
    unfold zW5 at st
    refine M_feed_f21 hG ⟨fun _ => ⟨fun c1 => st a (by rw [if_pos c1]), fun c1 => ⟨fun c2 => st b (by rw [if_neg (by omega), if_pos c2]), fun c2 => ⟨fun c3 => st c (by rw [if_neg (by omega), if_neg (by omega), if_pos c3]), fun c3 => ⟨fun c4 => st d (by rw [if_neg (by omega), if_neg (by omega), if_neg (by omega), if_pos c4]), fun c4 => st e (by rw [if_neg (by omega), if_neg (by omega), if_neg (by omega), if_neg (by omega)])⟩⟩⟩⟩, fun z => absurd z (by omega)⟩
theorem op_feed {G : zG} {X : zX} {a b c d e : Int} (hG : SH G) (h : zRT X 1 0) : zOp D_feed M_feed [zI a, zI b, zI c, zI d, zI e] [zI a, zI b, zI c, zI d, zI e] G X := by
  have hl : X 140 6 = X 2 1 ∧ 0 ≤ X 2 1 ∧ X 2 1 ≤ 500 := zR_len h
  have hq1 := q_houses h
  have hq2 := q_pages h
  refine feed_D hG rfl hl.2 (fun l20 X1 l1 v1 f1 => ?_) (fun l20 => ?_)
  · have hl1 : X1 140 6 = X 2 1 := by rw [f1 _ _ (by omega) (by omega)]; exact hl.1
    refine M_feed_f0 hG ?_
    rw [hl1]
    refine ⟨zw_id (by omega) (by omega), fun z => absurd z (by omega), fun _ => ?_⟩
    refine feed_M hG (L := X 2 1) (by omega) (fun X2 l2 v2 f2 => ⟨rfl, ?_, ?_⟩) 20 0 X1 (by omega) (by omega) (by omega) (fun i _ _ => by omega) (fun _ _ _ _ => rfl)
    · have fr : ∀ x k : Int, ¬(x = 2 ∧ k = 1) → ¬(x = 3 ∧ X 2 1 ≤ k ∧ k < X 2 1 + 20) → ¬(x = 140 ∧ k = 6) → ¬(x = 140 ∧ 70 + X 2 1 ≤ k ∧ k < 90 + X 2 1) → X2 x k = X x k := fun x k n1 n2 n3 n4 => (f2 x k n3 n4).trans (f1 x k n1 n2)
      refine zU_tape h (fun x k h1 h2 => fr x k (by omega) (by omega) (by omega) (by omega)) ?_ ?_ ?_ ?_
      · show X2 140 6 = X2 2 1 ∧ 0 ≤ X2 2 1 ∧ X2 2 1 ≤ 500
        rw [l2, f2 2 1 (by omega) (by omega), l1]
        omega
      · have z := zR_flt h
        unfold zF_flt at z ⊢
        rw [fr _ _ (by omega) (by omega) (by omega) (by omega), fr _ _ (by omega) (by omega) (by omega) (by omega)]
        exact z
      · have z := zR_plc h
        unfold zF_plc at z ⊢
        rw [fr _ _ (by omega) (by omega) (by omega) (by omega), fr _ _ (by omega) (by omega) (by omega) (by omega)]
        exact z
      · unfold zF_byt
        intro j j0 j1
        by_cases hj : X 2 1 ≤ j ∧ j < X 2 1 + 20
        · have y1 := v1 (j - X 2 1) (by omega) (by omega)
          have y2 := v2 (j - X 2 1) (by omega) (by omega)
          rw [show X 2 1 + (j - X 2 1) = j by omega] at y1 y2
          have zb := z_andm (zshr (zW5 a b c d e (j - X 2 1)) (24 - 8 * ((j - X 2 1) % 4))) (m := 255) (by omega) (by omega)
          rw [show (0 : Int) + 70 + j = 70 + j by omega, show (1 : Int) + 2 = 3 by omega, y2, f2 3 j (by omega) (by omega), y1]
          omega
        · have z := zR_byt h j j0 j1
          rw [fr _ _ (by omega) (by omega) (by omega) (by omega), fr _ _ (by omega) (by omega) (by omega) (by omega)]
          exact z
    · have k1 : zKp X X1 := ⟨fun x hx => funext fun k => f1 x k (by omega) (by omega), fun i _ => f1 140 i (by omega) (by omega), funext fun k => f1 141 k (by omega) (by omega), fun p i _ _ _ _ => f1 _ _ (by omega) (by omega), fun p i _ _ _ _ => f1 _ _ (by omega) (by omega), f1 _ _ (by omega) (by omega), f1 _ _ (by omega) (by omega), fun p _ _ => funext fun k => f1 _ k (by omega) (by omega), fun p _ _ => funext fun k => f1 _ k (by omega) (by omega)⟩
      exact zKp_t k1 ⟨fun x hx => funext fun k => f2 x k (by omega) (by omega), fun i _ => f2 140 i (by omega) (by omega), funext fun k => f2 141 k (by omega) (by omega), fun p i _ _ _ _ => f2 _ _ (by omega) (by omega), fun p i _ _ _ _ => f2 _ _ (by omega) (by omega), f2 _ _ (by omega) (by omega), f2 _ _ (by omega) (by omega), fun p _ _ => funext fun k => f2 _ k (by omega) (by omega), fun p _ _ => funext fun k => f2 _ k (by omega) (by omega)⟩
  · refine M_feed_f0 hG ?_
    rw [hl.1]
    exact ⟨zw_id (by omega) (by omega), fun _ => ⟨rfl, h, zKp_r X⟩, fun z => absurd z (by omega)⟩
/-! ===== sketches ===== -/
def zKs (R : Int → Int) : Nat → Int
  | 0 => 7
  | k + 1 => zand (zKs R k * 31 + 10 * R (5 * (k : Int)) + R (5 * (k : Int) + 1)) 65535
theorem zKs_in (R : Int → Int) : ∀ k, 0 ≤ zKs R k ∧ zKs R k ≤ 65535
  | 0 => by unfold zKs; omega
  | k + 1 => z_andm _ (by omega) (by omega)
theorem sk_Dl {Q : List zV → zX → Prop} {G : zG} {X : zX} {n p : Int} (hG : SH G) (h : zRT X 1 0) (p0 : 0 ≤ p) (p1 : p < 10) (n0 : 0 ≤ n) (n1 : n ≤ 16) (q : Q [zI (zand (zKs (X (55 + 5 * p)) (X (54 + 5 * p) 1).toNat) (zshl 1 n - 1))] X) :
    ∀ (d k : Nat), (k : Int) + d = X (54 + 5 * p) 1 → D_sketched_W Q 20 [zT, zT, zI n, zR (54 + 5 * p), zI (zKs (X (55 + 5 * p)) k), zI k] [] G X := by
  intro d
  have hs := z_shl1 (n := n) n0 (by omega)
  induction d with
  | zero =>
    intro k e
    refine D_sketched_f20 hG (q_came p0 p1) ⟨fun z => absurd z (by omega), fun _ => ⟨zw_id (by omega) (by omega), ?_⟩⟩
    rw [show (X (54 + 5 * p) 1).toNat = k by omega] at q
    exact q
  | succ d ih =>
    intro k e
    have hc := q_ccnt h p0 p1
    have z := zR_crow h p k p0 p1 (by omega) (by omega) (by rw [show (1 : Int) + 53 + 5 * p = 54 + 5 * p by omega]; omega)
    have y := zKs_in (X (55 + 5 * p)) k
    rw [show (1 : Int) + 54 + 5 * p = 55 + 5 * p by omega] at z
    refine D_sketched_f20 hG (q_came p0 p1) ⟨fun _ => ⟨zw_id (by omega) (by omega), q_told hG (q_came p0 p1) (by omega) (by omega) (by omega) (by omega) ⟨_, rfl, ?_⟩⟩, fun z => absurd z (by omega)⟩
    rw [show 1 + (54 + 5 * p) = 55 + 5 * p by omega, show 5 * (k : Int) + 0 = 5 * k by omega]
    refine ⟨by rw [zw_id (x := 10 * X (55 + 5 * p) (5 * k)) (by omega) (by omega)]; exact zw_id (by omega) (by omega), q_told hG (q_came p0 p1) (by omega) (by omega) (by omega) (by omega) ⟨_, rfl, ?_⟩⟩
    rw [show 1 + (54 + 5 * p) = 55 + 5 * p by omega]
    refine ⟨zw_id (by omega) (by omega), zw_id (by omega) (by omega), ?_⟩
    exact ih (k + 1) (by omega)
theorem sk_D {Q : List zV → zX → Prop} {G : zG} {X : zX} {n p : Int} (hG : SH G) (h : zRT X 1 0) (p0 : 0 ≤ p) (p1 : p < 10) (n0 : 0 ≤ n) (n1 : n ≤ 16) (q : Q [zI (zand (zKs (X (55 + 5 * p)) (X (54 + 5 * p) 1).toNat) (zshl 1 n - 1))] X) : D_sketched [zR 0, zI p, zI n] G X Q := by
  have hc := q_ccnt h p0 p1
  exact D_sketched_f0 hG ⟨p0, p1, sk_Dl hG h p0 p1 n0 n1 q (X (54 + 5 * p) 1).toNat 0 (by omega)⟩
theorem sk_Ml {Q : List zV → zX → Prop} {G : zG} {X : zX} {n p : Int} (hG : SH G) (h : zRT X 1 0) (p0 : 0 ≤ p) (p1 : p < 10) (n0 : 0 ≤ n) (n1 : n ≤ 16) (q : Q [zI (zand (zKs (X (55 + 5 * p)) (X (54 + 5 * p) 1).toNat) (zshl 1 n - 1))] X) :
    ∀ (d k : Nat), (k : Int) + d = X (54 + 5 * p) 1 → M_sketchOf_W Q 12 [zR 139, zT, zI n, zI (zKs (X (55 + 5 * p)) k), zI (2712 + 210 * p), zI k] [] G X := by
  intro d
  have hs := z_shl1 (n := n) n0 (by omega)
  have hc := q_ccnt h p0 p1
  induction d with
  | zero =>
    intro k e
    refine M_sketchOf_f12 hG ⟨by omega, by omega, ?_⟩
    rw [hc.1]
    refine ⟨fun z => absurd z (by omega), fun _ => ⟨zw_id (by omega) (by omega), ?_⟩⟩
    rw [show (X (54 + 5 * p) 1).toNat = k by omega] at q
    exact q
  | succ d ih =>
    intro k e
    have z := zR_crow h p k p0 p1 (by omega) (by omega) (by rw [show (1 : Int) + 53 + 5 * p = 54 + 5 * p by omega]; omega)
    have y := zKs_in (X (55 + 5 * p)) k
    have z0 := z.1
    have z1 := z.2.1
    rw [show (1 : Int) + 54 + 5 * p = 55 + 5 * p by omega] at z0 z1
    refine M_sketchOf_f12 hG ⟨by omega, by omega, ?_⟩
    rw [hc.1, show 2712 + 210 * p + 1 + 5 * (k : Int) = (0 : Int) + 2713 + 210 * p + 5 * k by omega, show 2712 + 210 * p + 2 + 5 * (k : Int) = (0 : Int) + 2714 + 210 * p + 5 * k by omega, z0.1, z1.1]
    refine ⟨fun _ => ⟨zw_id (by omega) (by omega), zw_id (by omega) (by omega), by rw [zw_id (x := 5 * (k : Int)) (by omega) (by omega), zw_id (by omega) (by omega)]; omega, by omega, by omega, by rw [zw_id (x := 10 * X (55 + 5 * p) (5 * k)) (by omega) (by omega)]; exact zw_id (by omega) (by omega), zw_id (by omega) (by omega), by rw [zw_id (x := 5 * (k : Int)) (by omega) (by omega), zw_id (by omega) (by omega)]; omega, by omega, by omega, zw_id (by omega) (by omega), fun r1 e1 => ⟨zw_id (by omega) (by omega), ?_⟩⟩, fun z => absurd z (by omega)⟩
    rw [e1]
    exact ih (k + 1) (by omega)
theorem sk_M {Q : List zV → zX → Prop} {G : zG} {X : zX} {n p : Int} (hG : SH G) (h : zRT X 1 0) (p0 : 0 ≤ p) (p1 : p < 10) (n0 : 0 ≤ n) (n1 : n ≤ 16) (q : Q [zI (zand (zKs (X (55 + 5 * p)) (X (54 + 5 * p) 1).toNat) (zshl 1 n - 1))] X) : M_sketchOf [zR 139, zI p, zI n] G X Q := by
  have hc := q_ccnt h p0 p1
  exact M_sketchOf_f0 hG (q_treeOf hG p0 p1 ⟨_, rfl, sk_Ml hG h p0 p1 n0 n1 q (X (54 + 5 * p) 1).toNat 0 (by omega)⟩)
theorem op_sketch {G : zG} {X : zX} {a b : Int} (hG : SH G) (h : zRT X 1 0) : zOp D_sketch M_sketch [zI a, zI b] [zI a, zI b] G X := by
  have hp := q_pages h
  have no : ¬(0 ≤ a ∧ a < X 1 12 ∧ 0 ≤ b ∧ b ≤ 16) → M_sketch [zR 139, zI a, zI b] G X (fun w X2 => w = [zI (-1)] ∧ zRT X2 1 0 ∧ zKp X X2) := fun n => by
    refine M_sketch_f0 hG ?_
    (repeat' (first | (exact ⟨rfl, h, zKp_r X⟩) | (with_reducible exact rfl) | (with_reducible apply And.intro) | (with_reducible refine ⟨_, rfl, ?_⟩) | (with_reducible refine q_isIn hG (fun _ _ => ?_) (fun _ => ?_)) | (with_reducible refine q_isAddress hG (fun _ _ => ?_) (fun _ => ?_)) | (with_reducible refine q_isMade hG (fun _ _ => ?_) (fun _ => ?_)) | (with_reducible refine q_isPage hG (by assumption) (fun _ _ => ?_) (fun _ => ?_)) | (with_reducible refine q_isHouse hG (by assumption) (fun _ _ => ?_) (fun _ => ?_)) | (with_reducible refine q_dPage hG (fun _ _ => ?_) (fun _ => ?_)) | (with_reducible refine q_dHouse hG (fun _ _ => ?_) (fun _ => ?_)) | (with_reducible refine q_dDay hG (fun _ _ => ?_) (fun _ => ?_)) | (with_reducible refine q_dLand hG (fun _ _ => ?_) (fun _ => ?_)) | (with_reducible refine q_dPerson hG (fun _ => ?_) (fun _ => ?_)) | (with_reducible refine q_mPerson hG (fun _ => ?_) (fun _ => ?_)) | (with_reducible refine q_pageAt hG (by omega) (by omega) ?_) | (with_reducible refine q_houseAt hG (by omega) (by omega) ?_) | (with_reducible refine q_treeOf hG (by omega) (by omega) ?_) | (with_reducible intro hz; exfalso; omega) | (with_reducible intro _) | (with_reducible refine zw_id ?_ ?_) | omega | (simp only [zw]; omega)))
  refine D_sketch_f0 hG ?_
  (repeat' (first | (with_reducible exact no (by omega)) | (with_reducible refine sk_D hG h (by omega) (by omega) (by omega) (by omega) ?_) | (with_reducible exact rfl) | (with_reducible apply And.intro) | (with_reducible refine ⟨_, rfl, ?_⟩) | (with_reducible refine q_isIn hG (fun _ _ => ?_) (fun _ => ?_)) | (with_reducible refine q_isAddress hG (fun _ _ => ?_) (fun _ => ?_)) | (with_reducible refine q_isMade hG (fun _ _ => ?_) (fun _ => ?_)) | (with_reducible refine q_isPage hG (by assumption) (fun _ _ => ?_) (fun _ => ?_)) | (with_reducible refine q_isHouse hG (by assumption) (fun _ _ => ?_) (fun _ => ?_)) | (with_reducible refine q_dPage hG (fun _ _ => ?_) (fun _ => ?_)) | (with_reducible refine q_dHouse hG (fun _ _ => ?_) (fun _ => ?_)) | (with_reducible refine q_dDay hG (fun _ _ => ?_) (fun _ => ?_)) | (with_reducible refine q_dLand hG (fun _ _ => ?_) (fun _ => ?_)) | (with_reducible refine q_dPerson hG (fun _ => ?_) (fun _ => ?_)) | (with_reducible refine q_mPerson hG (fun _ => ?_) (fun _ => ?_)) | (with_reducible refine q_pageAt hG (by omega) (by omega) ?_) | (with_reducible refine q_houseAt hG (by omega) (by omega) ?_) | (with_reducible refine q_treeOf hG (by omega) (by omega) ?_) | (with_reducible intro hz; exfalso; omega) | (with_reducible intro _) | (with_reducible refine zw_id ?_ ?_) | omega | (simp only [zw]; omega)))
  refine M_sketch_f0 hG ?_
  (repeat' (first | (exact ⟨rfl, h, zKp_r X⟩) | (with_reducible refine sk_M hG h (by omega) (by omega) (by omega) (by omega) ?_) | (with_reducible exact rfl) | (with_reducible apply And.intro) | (with_reducible refine ⟨_, rfl, ?_⟩) | (with_reducible refine q_isIn hG (fun _ _ => ?_) (fun _ => ?_)) | (with_reducible refine q_isAddress hG (fun _ _ => ?_) (fun _ => ?_)) | (with_reducible refine q_isMade hG (fun _ _ => ?_) (fun _ => ?_)) | (with_reducible refine q_isPage hG (by assumption) (fun _ _ => ?_) (fun _ => ?_)) | (with_reducible refine q_isHouse hG (by assumption) (fun _ _ => ?_) (fun _ => ?_)) | (with_reducible refine q_dPage hG (fun _ _ => ?_) (fun _ => ?_)) | (with_reducible refine q_dHouse hG (fun _ _ => ?_) (fun _ => ?_)) | (with_reducible refine q_dDay hG (fun _ _ => ?_) (fun _ => ?_)) | (with_reducible refine q_dLand hG (fun _ _ => ?_) (fun _ => ?_)) | (with_reducible refine q_dPerson hG (fun _ => ?_) (fun _ => ?_)) | (with_reducible refine q_mPerson hG (fun _ => ?_) (fun _ => ?_)) | (with_reducible refine q_pageAt hG (by omega) (by omega) ?_) | (with_reducible refine q_houseAt hG (by omega) (by omega) ?_) | (with_reducible refine q_treeOf hG (by omega) (by omega) ?_) | (with_reducible intro hz; exfalso; omega) | (with_reducible intro _) | (with_reducible refine zw_id ?_ ?_) | omega | (simp only [zw]; omega)))
/-! leaves -/
def zFit (f : Int → Int) (v : Int) : Nat → Int
  | 0 => 0
  | k + 1 => zFit f v k + (if f k = v then 1 else 0)
theorem zFit_in (f : Int → Int) (v : Int) : ∀ k, 0 ≤ zFit f v k ∧ zFit f v k ≤ k
  | 0 => by unfold zFit; omega
  | k + 1 => by
    have z := zFit_in f v k
    unfold zFit
    split <;> omega
theorem zFit_p {f : Int → Int} {v : Int} {k : Nat} (h : f k = v) : zFit f v (k + 1) = zFit f v k + 1 := by
  show zFit f v k + (if f k = v then 1 else 0) = _
  rw [if_pos h]
theorem zFit_n {f : Int → Int} {v : Int} {k : Nat} (h : f k ≠ v) : zFit f v (k + 1) = zFit f v k := by
  show zFit f v k + (if f k = v then 1 else 0) = _
  rw [if_neg h]
  omega
def zLv (g : Int → Int) (m : Int) : Nat → Int
  | 0 => -1
  | k + 1 => if m ≤ g k then k else zLv g m k
theorem zLv_p {g : Int → Int} {m : Int} {k : Nat} (h : m ≤ g k) : zLv g m (k + 1) = k := if_pos h
theorem zLv_n {g : Int → Int} {m : Int} {k : Nat} (h : ¬(m ≤ g k)) : zLv g m (k + 1) = zLv g m k := if_neg h
def zSn (X : zX) (n p : Int) : Int := zand (zKs (X (55 + 5 * p)) (X (54 + 5 * p) 1).toNat) (zshl 1 n - 1)
def zGl (X : zX) (a n : Int) : Int := zFit (zSn X n) (zSn X n a) (X 1 12).toNat
theorem fits_D {Q : List zV → zX → Prop} {G : zG} {X : zX} {n p : Int} (hG : SH G) (h : zRT X 1 0) (p0 : 0 ≤ p) (p1 : p < 10) (n0 : 0 ≤ n) (n1 : n ≤ 16) (q : Q [zI (zFit (zSn X n) (zSn X n p) (X 1 12).toNat)] X) : D_fits [zR 0, zI p, zI n] G X Q := by
  have hp := q_pages h
  refine D_fits_f0 hG (sk_D hG h p0 p1 n0 n1 ⟨_, rfl, ?_⟩)
  have lp : ∀ (d k : Nat), (k : Int) + d = X 1 12 → D_fits_W Q 13 [zR 0, zT, zI n, zI (zSn X n p), zI (zFit (zSn X n) (zSn X n p) k), zI k] [] G X := by
    intro d
    induction d with
    | zero =>
      intro k e
      rw [show (X 1 12).toNat = k by omega] at q
      exact D_fits_f13 hG ⟨fun z => absurd z (by omega), fun _ => q⟩
    | succ d ih =>
      intro k e
      have z := zFit_in (zSn X n) (zSn X n p) k
      refine D_fits_f13 hG ⟨fun _ => sk_D hG h (by omega) (by omega) n0 n1 ⟨_, rfl, fun y => ⟨zw_id (by omega) (by omega), zw_id (by omega) (by omega), ?_⟩, fun y => ⟨zw_id (by omega) (by omega), ?_⟩⟩, fun z => absurd z (by omega)⟩
      · have r := ih (k + 1) (by omega)
        rw [zFit_p (f := zSn X n) (k := k) y] at r
        exact r
      · have r := ih (k + 1) (by omega)
        rw [zFit_n (f := zSn X n) (k := k) y] at r
        exact r
  exact lp (X 1 12).toNat 0 (by omega)
theorem op_leaves {G : zG} {X : zX} {a b : Int} (hG : SH G) (h : zRT X 1 0) : zOp D_leaves M_leaves [zI a, zI b] [zI a, zI b] G X := by
  have hp := q_pages h
  have no : ¬(0 ≤ a ∧ a < X 1 12 ∧ 1 ≤ b ∧ b ≤ 10) → M_leaves [zR 139, zI a, zI b] G X (fun w X2 => w = [zI (-1)] ∧ zRT X2 1 0 ∧ zKp X X2) := fun n => by
    refine M_leaves_f0 hG ?_
    (repeat' (first | (exact ⟨rfl, h, zKp_r X⟩) | (with_reducible exact rfl) | (with_reducible apply And.intro) | (with_reducible refine ⟨_, rfl, ?_⟩) | (with_reducible refine q_isIn hG (fun _ _ => ?_) (fun _ => ?_)) | (with_reducible refine q_isAddress hG (fun _ _ => ?_) (fun _ => ?_)) | (with_reducible refine q_isMade hG (fun _ _ => ?_) (fun _ => ?_)) | (with_reducible refine q_isPage hG (by assumption) (fun _ _ => ?_) (fun _ => ?_)) | (with_reducible refine q_isHouse hG (by assumption) (fun _ _ => ?_) (fun _ => ?_)) | (with_reducible refine q_dPage hG (fun _ _ => ?_) (fun _ => ?_)) | (with_reducible refine q_dHouse hG (fun _ _ => ?_) (fun _ => ?_)) | (with_reducible refine q_dDay hG (fun _ _ => ?_) (fun _ => ?_)) | (with_reducible refine q_dLand hG (fun _ _ => ?_) (fun _ => ?_)) | (with_reducible refine q_dPerson hG (fun _ => ?_) (fun _ => ?_)) | (with_reducible refine q_mPerson hG (fun _ => ?_) (fun _ => ?_)) | (with_reducible refine q_pageAt hG (by omega) (by omega) ?_) | (with_reducible refine q_houseAt hG (by omega) (by omega) ?_) | (with_reducible refine q_treeOf hG (by omega) (by omega) ?_) | (with_reducible intro hz; exfalso; omega) | (with_reducible intro _) | (with_reducible refine zw_id ?_ ?_) | omega | (simp only [zw]; omega)))
  have dl : ∀ {Q : List zV → zX → Prop}, 0 ≤ a → a < 10 → Q [zI (zLv (zGl X a) b 17)] X → ∀ k : Nat, k ≤ 17 → zLv (zGl X a) b k = zLv (zGl X a) b 17 → D_leaves_W Q 24 [zR 0, zI a, zI b, zI ((k : Int) - 1)] [] G X := by
    intro Q a0 a1 q k
    induction k with
    | zero =>
      intro _ e
      rw [← e] at q
      exact D_leaves_f24 hG ⟨fun _ => q, fun z => absurd z (by omega)⟩
    | succ k ih =>
      intro hk e
      rw [show ((k + 1 : Nat) : Int) - 1 = k by omega]
      refine D_leaves_f24 hG ⟨fun z => absurd z (by omega), fun _ => fits_D hG h a0 a1 (by omega) (by omega) ⟨_, rfl, fun c => ⟨by rw [zw_id (by omega) (by omega)]; omega, ?_⟩, fun c => ?_⟩⟩
      · rw [zLv_n (g := zGl X a) (k := k) (by show ¬(b ≤ zFit (zSn X k) (zSn X k a) (X 1 12).toNat); omega)] at e
        exact ih (by omega) e
      · rw [zLv_p (g := zGl X a) (k := k) c] at e
        rw [← e] at q
        exact q
  have ml : ∀ {Q : List zV → zX → Prop}, 0 ≤ a → a < 10 → Q [zI (zLv (zGl X a) b 17)] X → ∀ k : Nat, k ≤ 17 → zLv (zGl X a) b k = zLv (zGl X a) b 17 → M_leaves_W Q 23 [zR 139, zI a, zI b, zI ((k : Int) - 1), zT, zT] [] G X := by
    intro Q a0 a1 q k
    induction k with
    | zero =>
      intro _ e
      rw [← e] at q
      exact M_leaves_f23 hG ⟨fun _ => q, fun z => absurd z (by omega)⟩
    | succ k ih =>
      intro hk e
      rw [show ((k + 1 : Nat) : Int) - 1 = k by omega]
      refine M_leaves_f23 hG ⟨fun z => absurd z (by omega), fun _ => ?_⟩
      have lp : ∀ (d j : Nat), (j : Int) + d = X 1 12 → M_leaves_W Q 33 [zR 139, zI a, zI b, zI k, zI (zFit (zSn X k) (zSn X k a) j), zI j] [] G X := by
        intro d
        induction d with
        | zero =>
          intro j ej
          refine M_leaves_f33 hG ⟨fun z => absurd z (by omega), fun _ => ⟨fun c => ⟨by rw [zw_id (by omega) (by omega)]; omega, ?_⟩, fun c => ?_⟩⟩
          · rw [zLv_n (g := zGl X a) (k := k) (by show ¬(b ≤ zFit (zSn X k) (zSn X k a) (X 1 12).toNat); rw [show (X 1 12).toNat = j by omega]; omega)] at e
            exact ih (by omega) e
          · rw [zLv_p (g := zGl X a) (k := k) (by show b ≤ zFit (zSn X k) (zSn X k a) (X 1 12).toNat; rw [show (X 1 12).toNat = j by omega]; exact c)] at e
            rw [← e] at q
            exact q
        | succ d ih2 =>
          intro j ej
          have z := zFit_in (zSn X k) (zSn X k a) j
          refine M_leaves_f33 hG ⟨fun _ => sk_M hG h (by omega) (by omega) (by omega) (by omega) ⟨_, rfl, sk_M hG h a0 a1 (by omega) (by omega) ⟨_, rfl, fun y => ⟨zw_id (by omega) (by omega), zw_id (by omega) (by omega), ?_⟩, fun y => ⟨by rw [zw_id (by omega) (by omega)]; omega, zw_id (by omega) (by omega), ?_⟩⟩⟩, fun z => absurd z (by omega)⟩
          · have r := ih2 (j + 1) (by omega)
            rw [zFit_p (f := zSn X k) (v := zSn X k a) (k := j) y] at r
            exact r
          · have r := ih2 (j + 1) (by omega)
            rw [zFit_n (f := zSn X k) (v := zSn X k a) (k := j) y] at r
            exact r
      exact lp (X 1 12).toNat 0 (by omega)
  refine D_leaves_f0 hG ?_
  (repeat' (first | (with_reducible exact no (by omega)) | (with_reducible exact rfl) | (with_reducible apply And.intro) | (with_reducible refine ⟨_, rfl, ?_⟩) | (with_reducible refine q_isIn hG (fun _ _ => ?_) (fun _ => ?_)) | (with_reducible refine q_isAddress hG (fun _ _ => ?_) (fun _ => ?_)) | (with_reducible refine q_isMade hG (fun _ _ => ?_) (fun _ => ?_)) | (with_reducible refine q_isPage hG (by assumption) (fun _ _ => ?_) (fun _ => ?_)) | (with_reducible refine q_isHouse hG (by assumption) (fun _ _ => ?_) (fun _ => ?_)) | (with_reducible refine q_dPage hG (fun _ _ => ?_) (fun _ => ?_)) | (with_reducible refine q_dHouse hG (fun _ _ => ?_) (fun _ => ?_)) | (with_reducible refine q_dDay hG (fun _ _ => ?_) (fun _ => ?_)) | (with_reducible refine q_dLand hG (fun _ _ => ?_) (fun _ => ?_)) | (with_reducible refine q_dPerson hG (fun _ => ?_) (fun _ => ?_)) | (with_reducible refine q_mPerson hG (fun _ => ?_) (fun _ => ?_)) | (with_reducible refine q_pageAt hG (by omega) (by omega) ?_) | (with_reducible refine q_houseAt hG (by omega) (by omega) ?_) | (with_reducible refine q_treeOf hG (by omega) (by omega) ?_) | (with_reducible intro hz; exfalso; omega) | (with_reducible intro _) | (with_reducible refine zw_id ?_ ?_) | omega | (simp only [zw]; omega)))
  refine dl (by omega) (by omega) ?_ 17 (by omega) rfl
  refine M_leaves_f0 hG ?_
  (repeat' (first | (exact ⟨rfl, h, zKp_r X⟩) | (with_reducible exact rfl) | (with_reducible apply And.intro) | (with_reducible refine ⟨_, rfl, ?_⟩) | (with_reducible refine q_isIn hG (fun _ _ => ?_) (fun _ => ?_)) | (with_reducible refine q_isAddress hG (fun _ _ => ?_) (fun _ => ?_)) | (with_reducible refine q_isMade hG (fun _ _ => ?_) (fun _ => ?_)) | (with_reducible refine q_isPage hG (by assumption) (fun _ _ => ?_) (fun _ => ?_)) | (with_reducible refine q_isHouse hG (by assumption) (fun _ _ => ?_) (fun _ => ?_)) | (with_reducible refine q_dPage hG (fun _ _ => ?_) (fun _ => ?_)) | (with_reducible refine q_dHouse hG (fun _ _ => ?_) (fun _ => ?_)) | (with_reducible refine q_dDay hG (fun _ _ => ?_) (fun _ => ?_)) | (with_reducible refine q_dLand hG (fun _ _ => ?_) (fun _ => ?_)) | (with_reducible refine q_dPerson hG (fun _ => ?_) (fun _ => ?_)) | (with_reducible refine q_mPerson hG (fun _ => ?_) (fun _ => ?_)) | (with_reducible refine q_pageAt hG (by omega) (by omega) ?_) | (with_reducible refine q_houseAt hG (by omega) (by omega) ?_) | (with_reducible refine q_treeOf hG (by omega) (by omega) ?_) | (with_reducible intro hz; exfalso; omega) | (with_reducible intro _) | (with_reducible refine zw_id ?_ ?_) | omega | (simp only [zw]; omega)))
  exact ml (by omega) (by omega) ⟨rfl, h, zKp_r X⟩ 17 (by omega) rfl
