/-! ===== odds ===== -/
def zCn (n : Nat) : Nat → Nat
  | 0 => 1
  | k + 1 => zCn n k * (n - k) / (k + 1)
theorem zCn_le {n k : Nat} (hn : n ≤ 20) (hk : k ≤ 20) : zCn n k ≤ 184756 ∧ (n < k → zCn n k = 0) := by
  have key : ∀ n k : Fin 21, zCn n.val k.val ≤ 184756 ∧ (n.val < k.val → zCn n.val k.val = 0) := by decide +kernel
  exact key ⟨n, by omega⟩ ⟨k, by omega⟩
theorem zCn_m {m i : Nat} (hm : m ≤ 20) (hi : 1 ≤ i) (him : i ≤ m) : zCn (m - 1) (i - 1) * m / i = zCn m i := by
  have key : ∀ m i : Fin 21, 1 ≤ i.val → i.val ≤ m.val → zCn (m.val - 1) (i.val - 1) * m.val / i.val = zCn m.val i.val := by decide +kernel
  exact key ⟨m, by omega⟩ ⟨i, by omega⟩ hi him
theorem choices_D {Q : List zV → zX → Prop} {G : zG} {X : zX} {n k : Nat} (hG : SH G) (hn : n ≤ 20) (hk : k ≤ 20) (q : Q [zL (zCn n k : Nat)] X) : D_choices [zI (n : Int), zI (k : Int)] G X Q := by
  have lp : ∀ (d i : Nat), i + d = k → k ≤ n → D_choices_W Q 12 [zI (n : Int), zI (k : Int), zL (zCn n i : Nat), zT, zI (i : Int)] [] G X := by
    intro d
    induction d with
    | zero =>
      intro i e kn
      rw [show k = i by omega] at q ⊢
      exact D_choices_f12 hG ⟨fun z => absurd z (by omega), fun _ => q⟩
    | succ d ih =>
      intro i e kn
      have nx := ih (i + 1) (by omega) kn
      have b := (zCn_le hn (k := i) (by omega)).1
      have hP : ((zCn n i : Nat) : Int) * ((n : Int) - (i : Int)) = ((zCn n i * (n - i) : Nat) : Int) := by
        rw [Int.natCast_mul, Int.ofNat_sub (by omega)]
      have bP : zCn n i * (n - i) ≤ 184756 * 20 := Nat.mul_le_mul b (by omega)
      have hD : ((zCn n i * (n - i) : Nat) : Int) / ((i : Int) + 1) = ((zCn n (i + 1) : Nat) : Int) := by
        show _ = ((zCn n i * (n - i) / (i + 1) : Nat) : Int)
        rw [Int.natCast_ediv]
        rfl
      have b2 := (zCn_le hn (k := i + 1) (by omega)).1
      refine D_choices_f12 hG ⟨fun _ => ?_, fun z => absurd z (by omega)⟩
      rw [hP, Int.tdiv_eq_ediv_of_nonneg (by omega), hD]
      exact ⟨zw_id (by omega) (by omega), zwl_id (by omega) (by omega), zw_id (by omega) (by omega), by omega, zwl_id (by omega) (by omega), zw_id (by omega) (by omega), nx⟩
  refine D_choices_f0 hG ⟨fun l => ?_, fun g => lp k 0 (by omega) (by omega)⟩
  rw [(zCn_le hn hk).2 (by omega)] at q
  exact q
theorem choose_M {Q : List zV → zX → Prop} {G : zG} {X : zX} {n k : Nat} (hG : SH G) (hn : n ≤ 20) (hk : k ≤ 20) (q : Q [zI (zCn n k : Nat)] X) : M_choose [zI (n : Int), zI (k : Int)] G X Q := by
  have lp : ∀ (d i : Nat), i + d = k → k ≤ n → M_choose_W Q 16 [zI (n : Int), zI (k : Int), zL (zCn (n - k + i) i : Nat), zT, zI ((i : Int) + 1)] [] G X := by
    intro d
    induction d with
    | zero =>
      intro i e kn
      rw [show n - k + i = n by omega, show i = k by omega]
      have b := (zCn_le hn hk).1
      exact M_choose_f16 hG ⟨fun _ => ⟨zw_id (by omega) (by omega), q⟩, fun z => absurd z (by omega)⟩
    | succ d ih =>
      intro i e kn
      have nx := ih (i + 1) (by omega) kn
      have b := (zCn_le (n := n - k + i) (k := i) (by omega) (by omega)).1
      have hP : ((zCn (n - k + i) i : Nat) : Int) * ((n : Int) - (k : Int) + ((i : Int) + 1)) = ((zCn (n - k + i) i * (n - k + i + 1) : Nat) : Int) := by
        rw [Int.natCast_mul, show ((n - k + i + 1 : Nat) : Int) = (n : Int) - (k : Int) + ((i : Int) + 1) by omega]
      have bP : zCn (n - k + i) i * (n - k + i + 1) ≤ 184756 * 20 := Nat.mul_le_mul b (by omega)
      have hD : ((zCn (n - k + i) i * (n - k + i + 1) : Nat) : Int) / ((i : Int) + 1) = ((zCn (n - k + (i + 1)) (i + 1) : Nat) : Int) := by
        rw [← zCn_m (m := n - k + (i + 1)) (i := i + 1) (by omega) (by omega) (by omega), Int.natCast_ediv, show n - k + (i + 1) - 1 = n - k + i by omega, show i + 1 - 1 = i by omega, show n - k + (i + 1) = n - k + i + 1 by omega]
        rfl
      have b2 := (zCn_le (n := n - k + (i + 1)) (k := i + 1) (by omega) (by omega)).1
      refine M_choose_f16 hG ⟨fun z => absurd z (by omega), fun _ => ?_⟩
      rw [hP, Int.tdiv_eq_ediv_of_nonneg (by omega), hD]
      exact ⟨zw_id (by omega) (by omega), zw_id (by omega) (by omega), zwl_id (by omega) (by omega), by omega, zwl_id (by omega) (by omega), zw_id (by omega) (by omega), nx⟩
  refine M_choose_f0 hG ⟨fun z => absurd z (by omega), fun _ => ⟨fun l => ?_, fun g => lp k 0 (by omega) (by omega)⟩⟩
  rw [(zCn_le hn hk).2 (by omega)] at q
  exact q
def zTx3 (n m x : Nat) : Nat := if x ≤ m then zCn n x * zCn (20 - n) (m - x) else 0
def zSs (n m : Nat) : Nat → Nat
  | 0 => 0
  | d + 1 => zSs n m d + zTx3 n m (20 - d)
theorem zTx3_s {n m x : Nat} (hn : n ≤ 20) (hm : m ≤ 20) (hx : x ≤ 20) : zTx3 n m x * zCn 20 n = zTx3 m n x * zCn 20 m := by
  have key : ∀ n m x : Fin 21, zTx3 n.val m.val x.val * zCn 20 n.val = zTx3 m.val n.val x.val * zCn 20 m.val := by decide +kernel
  exact key ⟨n, by omega⟩ ⟨m, by omega⟩ ⟨x, by omega⟩
theorem zSs_s {n m : Nat} (hn : n ≤ 20) (hm : m ≤ 20) : ∀ d : Nat, zSs n m d * zCn 20 n = zSs m n d * zCn 20 m
  | 0 => by show 0 * _ = 0 * _; omega
  | d + 1 => by
    show (zSs n m d + zTx3 n m (20 - d)) * zCn 20 n = (zSs m n d + zTx3 m n (20 - d)) * zCn 20 m
    rw [Nat.add_mul, Nat.add_mul, zSs_s hn hm d, zTx3_s hn hm (by omega)]
theorem zSs_21 {n m : Nat} (hn : n ≤ 20) (hm : m ≤ 20) : zSs n m 21 ≤ 184756 := by
  have key : ∀ n m : Fin 21, zSs n.val m.val 21 ≤ 184756 := by decide +kernel
  exact key ⟨n, by omega⟩ ⟨m, by omega⟩
theorem zSs_mo {n m : Nat} {a : Nat} : ∀ d : Nat, zSs n m a ≤ zSs n m (a + d)
  | 0 => Nat.le_refl _
  | d + 1 => Nat.le_trans (zSs_mo d) (Nat.le_add_right _ _)
theorem zSs_le {n m d : Nat} (hn : n ≤ 20) (hm : m ≤ 20) (hd : d ≤ 21) : zSs n m d ≤ 184756 := by
  have a := zSs_mo (n := n) (m := m) (a := d) (21 - d)
  rw [show d + (21 - d) = 21 by omega] at a
  exact Nat.le_trans a (zSs_21 hn hm)
theorem zSs_0 {n m : Nat} : ∀ d : Nat, d + m ≤ 20 → zSs n m d = 0
  | 0, _ => rfl
  | d + 1, h => by
    show zSs n m d + zTx3 n m (20 - d) = 0
    rw [zSs_0 d (by omega)]
    unfold zTx3
    rw [if_neg (by omega)]
theorem shared_D {Q : List zV → zX → Prop} {G : zG} {X : zX} {n m s : Nat} (hG : SH G) (hn : n ≤ 20) (hm : m ≤ 20) (q : Q [zL (zSs n m (21 - s) : Nat)] X) : ∀ (d x y : Nat), x + d = 21 → y + zSs n m d = zSs n m (21 - s) → y ≤ 184756 → D_sharedWays_W Q 44 [zT, zT, zT, zI (n : Int), zI (m : Int), zL (y : Int), zT, zI (x : Int)] [] G X := by
  intro d
  induction d with
  | zero =>
    intro x y e ey yb
    have ey2 : y = zSs n m (21 - s) := ey
    rw [← ey2] at q
    exact D_sharedWays_f44 hG ⟨fun _ => q, fun z => absurd z (by omega)⟩
  | succ d ih =>
    intro x y e ey yb
    by_cases c : m < x
    · rw [zSs_0 (d + 1) (by omega)] at ey
      have ey2 : y = zSs n m (21 - s) := ey
      rw [← ey2] at q
      exact D_sharedWays_f44 hG ⟨fun _ => q, fun z => absurd z (by omega)⟩
    · have ut : zSs n m (d + 1) = zSs n m d + zCn n x * zCn (20 - n) (m - x) := by
        show zSs n m d + zTx3 n m (20 - d) = _
        unfold zTx3
        rw [if_pos (by omega), show 20 - d = x by omega]
      have tb : zSs n m (d + 1) ≤ 184756 := zSs_le hn hm (by omega)
      have sb : zSs n m (21 - s) ≤ 184756 := zSs_le hn hm (by omega)
      refine D_sharedWays_f44 hG ⟨fun z => absurd z (by omega), fun _ => choices_D hG hn (by omega) ⟨_, rfl, zw_id (by omega) (by omega), zw_id (by omega) (by omega), ?_⟩⟩
      rw [show (20 : Int) - (n : Int) = ((20 - n : Nat) : Int) by omega, show (m : Int) - (x : Int) = ((m - x : Nat) : Int) by omega]
      refine choices_D hG (by omega) (by omega) ⟨_, rfl, ?_⟩
      rw [← Int.natCast_mul]
      refine ⟨by rw [zwl_id (x := ((zCn n x * zCn (20 - n) (m - x) : Nat) : Int)) (by omega) (by omega)]; exact zwl_id (by omega) (by omega), zw_id (by omega) (by omega), ?_⟩
      exact ih (x + 1) (y + zCn n x * zCn (20 - n) (m - x)) (by omega) (by omega) (by omega)
theorem odds_Ml {Q : List zV → zX → Prop} {G : zG} {X : zX} {n m s : Nat} (hG : SH G) (hn : n ≤ 20) (hm : m ≤ 20) (q : Q [zI (zSs n m (21 - s) : Nat)] X) : ∀ (d x y : Nat), x + d = 21 → y + zSs n m d = zSs n m (21 - s) → y ≤ 184756 → M_oddsOf_W Q 38 [zT, zT, zT, zI (n : Int), zI (m : Int), zI (y : Int), zI (x : Int)] [] G X := by
  intro d
  induction d with
  | zero =>
    intro x y e ey yb
    have ey2 : y = zSs n m (21 - s) := ey
    rw [← ey2] at q
    exact M_oddsOf_f38 hG ⟨fun _ => q, fun z => absurd z (by omega)⟩
  | succ d ih =>
    intro x y e ey yb
    by_cases c : m < x
    · rw [zSs_0 (d + 1) (by omega)] at ey
      have ey2 : y = zSs n m (21 - s) := ey
      rw [← ey2] at q
      exact M_oddsOf_f38 hG ⟨fun _ => q, fun z => absurd z (by omega)⟩
    · have ut : zSs n m (d + 1) = zSs n m d + zCn n x * zCn (20 - n) (m - x) := by
        show zSs n m d + zTx3 n m (20 - d) = _
        unfold zTx3
        rw [if_pos (by omega), show 20 - d = x by omega]
      have tb : zSs n m (d + 1) ≤ 184756 := zSs_le hn hm (by omega)
      have sb : zSs n m (21 - s) ≤ 184756 := zSs_le hn hm (by omega)
      refine M_oddsOf_f38 hG ⟨fun z => absurd z (by omega), fun _ => choose_M hG hn (by omega) ⟨_, rfl, zw_id (by omega) (by omega), zw_id (by omega) (by omega), ?_⟩⟩
      rw [show (20 : Int) - (n : Int) = ((20 - n : Nat) : Int) by omega, show (m : Int) - (x : Int) = ((m - x : Nat) : Int) by omega]
      refine choose_M hG (by omega) (by omega) ⟨_, rfl, ?_⟩
      rw [← Int.natCast_mul]
      refine ⟨by rw [zw_id (x := ((zCn n x * zCn (20 - n) (m - x) : Nat) : Int)) (by omega) (by omega)]; exact zw_id (by omega) (by omega), zw_id (by omega) (by omega), ?_⟩
      exact ih (x + 1) (y + zCn n x * zCn (20 - n) (m - x)) (by omega) (by omega) (by omega)
/-! pieces of two pages -/
theorem zpp_20 {n : Nat} (h : n < 1048576) : zpp n ≤ 20 := by
  have a := zp8_le (n % 256)
  have b := zp8_le (n / 256 % 256)
  have c : zp8 (n / 65536 % 256) ≤ 4 := by
    have key : ∀ k : Fin 16, zp8 k.val ≤ 4 := by decide +kernel
    have z := key ⟨n / 65536 % 256, by omega⟩
    exact z
  have d : zp8 (n / 16777216) = 0 := by
    rw [show n / 16777216 = 0 by omega]
    rfl
  unfold zpp
  omega
def zPcs (X : zX) (p : Int) : Nat := (X (53 + 5 * p) 5).toNat
theorem q_pcs {X : zX} (h : zRT X 1 0) {p : Int} (p0 : 0 ≤ p) (p1 : p < 10) : X 140 (2670 + 210 * p + 14) = X (53 + 5 * p) 5 ∧ X (53 + 5 * p) 5 = (zPcs X p : Nat) ∧ zPcs X p < 1048576 := by
  have z := zR_pcs h p p0 p1
  rw [show (0 : Int) + 2684 + 210 * p = 2670 + 210 * p + 14 by omega, show (1 : Int) + 52 + 5 * p = 53 + 5 * p by omega] at z
  unfold zPcs
  omega
def zShc (X : zX) (a b : Int) : Nat := zpp (zPcs X a &&& zPcs X b)
def zOdw (X : zX) (a b : Int) : Nat := zSs (zpp (zPcs X a)) (zpp (zPcs X b)) (21 - zShc X a b)
theorem zShc_le {X : zX} (h : zRT X 1 0) {a b : Int} (a0 : 0 ≤ a) (a1 : a < 10) : zShc X a b ≤ 20 := by
  have p := (q_pcs h a0 a1).2.2
  exact zpp_20 (Nat.lt_of_le_of_lt Nat.and_le_left p)
theorem shares_D {Q : List zV → zX → Prop} {G : zG} {X : zX} {a b : Int} (hG : SH G) (h : zRT X 1 0) (a0 : 0 ≤ a) (a1 : a < 10) (b0 : 0 ≤ b) (b1 : b < 10) (q : Q [zI (zShc X a b : Nat)] X) : D_shares [zR 0, zI a, zI b] G X Q := by
  have pa := q_pcs h a0 a1
  have pb := q_pcs h b0 b1
  refine D_shares_f0 hG ⟨a0, a1, b0, b1, ?_⟩
  have ea : zand (X (53 + 5 * a) 5) (X (53 + 5 * b) 5) = ((zPcs X a &&& zPcs X b : Nat) : Int) := by
    rw [pa.2.1, pb.2.1, z_and (by omega) (by omega) (by omega) (by omega), Int.toNat_natCast, Int.toNat_natCast]
  rw [ea]
  have l : zPcs X a &&& zPcs X b ≤ zPcs X a := Nat.and_le_left
  refine pop_D (by omega) (by omega) ⟨_, rfl, ?_⟩
  rw [Int.toNat_natCast]
  exact q
theorem ways_D {Q : List zV → zX → Prop} {G : zG} {X : zX} {a b : Int} (hG : SH G) (h : zRT X 1 0) (a0 : 0 ≤ a) (a1 : a < 10) (b0 : 0 ≤ b) (b1 : b < 10) (q : Q [zL (zOdw X a b : Nat)] X) : D_sharedWays [zR 0, zI a, zI b] G X Q := by
  have pa := q_pcs h a0 a1
  have pb := q_pcs h b0 b1
  refine D_sharedWays_f0 hG ⟨a0, a1, pop_D (by omega) (by omega) ⟨_, rfl, b0, b1, pop_D (by omega) (by omega) ⟨_, rfl, shares_D hG h a0 a1 b0 b1 ⟨_, rfl, ?_⟩⟩⟩⟩
  have s := zShc_le (b := b) h a0 a1
  exact shared_D hG (zpp_20 pa.2.2) (zpp_20 pb.2.2) q (21 - zShc X a b) (zShc X a b) 0 (by omega) (by omega) (by omega)
theorem all_D {Q : List zV → zX → Prop} {G : zG} {X : zX} {b : Int} (hG : SH G) (h : zRT X 1 0) (b0 : 0 ≤ b) (b1 : b < 10) (q : Q [zL (zCn 20 (zpp (zPcs X b)) : Nat)] X) : D_allWays [zR 0, zI b] G X Q := by
  have pb := q_pcs h b0 b1
  exact D_allWays_f0 hG ⟨b0, b1, pop_D (by omega) (by omega) ⟨_, rfl, choices_D (n := 20) hG (by omega) (zpp_20 pb.2.2) ⟨_, rfl, q⟩⟩⟩
theorem pieces_M {Q : List zV → zX → Prop} {G : zG} {X : zX} {a : Int} (hG : SH G) (h : zRT X 1 0) (a0 : 0 ≤ a) (a1 : a < 10) (q : Q [zI (zPcs X a : Nat)] X) : M_pieces [zR 139, zI a] G X Q := by
  have pa := q_pcs h a0 a1
  refine M_pieces_f0 hG (q_pageAt hG a0 a1 ⟨_, rfl, zw_id (by omega) (by omega), by omega, by omega, ?_⟩)
  rw [pa.1, pa.2.1]
  exact q
theorem ones_M {Q : List zV → zX → Prop} {G : zG} {X : zX} {n : Nat} (hG : SH G) (h1 : n < 2147483648) (q : Q [zI (zpp n : Nat)] X) : M_ones [zI (n : Int)] G X Q :=
  pop_M hG (by omega) (by omega) (by rw [Int.toNat_natCast]; exact q)
theorem odds_M {Q : List zV → zX → Prop} {G : zG} {X : zX} {a b : Int} (hG : SH G) (h : zRT X 1 0) (a0 : 0 ≤ a) (a1 : a < 10) (b0 : 0 ≤ b) (b1 : b < 10) (q : Q [zI (zOdw X a b : Nat)] X) : M_oddsOf [zR 139, zI a, zI b] G X Q := by
  have pa := q_pcs h a0 a1
  have pb := q_pcs h b0 b1
  have l : zPcs X a &&& zPcs X b ≤ zPcs X a := Nat.and_le_left
  have s := zShc_le (b := b) h a0 a1
  refine M_oddsOf_f0 hG (pieces_M hG h a0 a1 ⟨_, rfl, ones_M hG (by omega) ⟨_, rfl, pieces_M hG h b0 b1 ⟨_, rfl, ones_M hG (by omega) ⟨_, rfl, pieces_M hG h a0 a1 ⟨_, rfl, pieces_M hG h b0 b1 ⟨_, rfl, ?_⟩⟩⟩⟩⟩⟩)
  rw [z_and (by omega) (by omega) (by omega) (by omega), Int.toNat_natCast, Int.toNat_natCast]
  exact ones_M hG (by omega) ⟨_, rfl, odds_Ml hG (zpp_20 pa.2.2) (zpp_20 pb.2.2) q (21 - zShc X a b) (zShc X a b) 0 (by omega) (by omega) (by omega)⟩
theorem zOdw_le {X : zX} (h : zRT X 1 0) {a b : Int} (a0 : 0 ≤ a) (a1 : a < 10) (b0 : 0 ≤ b) (b1 : b < 10) : zOdw X a b ≤ 184756 :=
  zSs_le (zpp_20 (q_pcs h a0 a1).2.2) (zpp_20 (q_pcs h b0 b1).2.2) (by omega)
theorem op_odds {G : zG} {X : zX} {a b c : Int} (hG : SH G) (h : zRT X 1 0) : zOp D_odds M_odds [zI a, zI b, zI c] [zI a, zI b, zI c] G X := by
  have hp := q_pages h
  have no : ¬(0 ≤ a ∧ a < X 1 12 ∧ 0 ≤ b ∧ b < X 1 12 ∧ a ≠ b ∧ 0 ≤ c ∧ c ≤ 1) → M_odds [zR 139, zI a, zI b, zI c] G X (fun w X2 => w = [zI (-1)] ∧ zRT X2 1 0 ∧ zKp X X2) := fun n => by
    refine M_odds_f0 hG ?_
    (repeat' (first | (exact ⟨rfl, h, zKp_r X⟩) | (with_reducible exact rfl) | (with_reducible apply And.intro) | (with_reducible refine ⟨_, rfl, ?_⟩) | (with_reducible refine q_isIn hG (fun _ _ => ?_) (fun _ => ?_)) | (with_reducible refine q_isAddress hG (fun _ _ => ?_) (fun _ => ?_)) | (with_reducible refine q_isMade hG (fun _ _ => ?_) (fun _ => ?_)) | (with_reducible refine q_isPage hG (by assumption) (fun _ _ => ?_) (fun _ => ?_)) | (with_reducible refine q_isHouse hG (by assumption) (fun _ _ => ?_) (fun _ => ?_)) | (with_reducible refine q_dPage hG (fun _ _ => ?_) (fun _ => ?_)) | (with_reducible refine q_dHouse hG (fun _ _ => ?_) (fun _ => ?_)) | (with_reducible refine q_dDay hG (fun _ _ => ?_) (fun _ => ?_)) | (with_reducible refine q_dLand hG (fun _ _ => ?_) (fun _ => ?_)) | (with_reducible refine q_dPerson hG (fun _ => ?_) (fun _ => ?_)) | (with_reducible refine q_mPerson hG (fun _ => ?_) (fun _ => ?_)) | (with_reducible refine q_pageAt hG (by omega) (by omega) ?_) | (with_reducible refine q_houseAt hG (by omega) (by omega) ?_) | (with_reducible refine q_treeOf hG (by omega) (by omega) ?_) | (with_reducible intro hz; exfalso; omega) | (with_reducible intro _) | (with_reducible refine zw_id ?_ ?_) | omega | (simp only [zw]; omega)))
  refine D_odds_f0 hG ?_
  (repeat' (first | (with_reducible exact no (by omega)) | (with_reducible refine ways_D hG h (by omega) (by omega) (by omega) (by omega) ⟨_, rfl, zw_id ?_ ?_, ?_⟩) | (with_reducible refine all_D hG h (by omega) (by omega) ⟨_, rfl, zw_id ?_ ?_, ?_⟩) | ((have zz := zOdw_le (a := a) (b := b) h (by omega) (by omega) (by omega) (by omega); omega)) | ((have zz := (zCn_le (n := 20) (by omega) (zpp_20 (q_pcs (p := b) h (by omega) (by omega)).2.2)).1; omega)) | (with_reducible exact rfl) | (with_reducible apply And.intro) | (with_reducible refine ⟨_, rfl, ?_⟩) | (with_reducible refine q_isIn hG (fun _ _ => ?_) (fun _ => ?_)) | (with_reducible refine q_isAddress hG (fun _ _ => ?_) (fun _ => ?_)) | (with_reducible refine q_isMade hG (fun _ _ => ?_) (fun _ => ?_)) | (with_reducible refine q_isPage hG (by assumption) (fun _ _ => ?_) (fun _ => ?_)) | (with_reducible refine q_isHouse hG (by assumption) (fun _ _ => ?_) (fun _ => ?_)) | (with_reducible refine q_dPage hG (fun _ _ => ?_) (fun _ => ?_)) | (with_reducible refine q_dHouse hG (fun _ _ => ?_) (fun _ => ?_)) | (with_reducible refine q_dDay hG (fun _ _ => ?_) (fun _ => ?_)) | (with_reducible refine q_dLand hG (fun _ _ => ?_) (fun _ => ?_)) | (with_reducible refine q_dPerson hG (fun _ => ?_) (fun _ => ?_)) | (with_reducible refine q_mPerson hG (fun _ => ?_) (fun _ => ?_)) | (with_reducible refine q_pageAt hG (by omega) (by omega) ?_) | (with_reducible refine q_houseAt hG (by omega) (by omega) ?_) | (with_reducible refine q_treeOf hG (by omega) (by omega) ?_) | (with_reducible intro hz; exfalso; omega) | (with_reducible intro _) | (with_reducible refine zw_id ?_ ?_) | omega | (simp only [zw]; omega)))
  · refine M_odds_f0 hG ?_
    (repeat' (first | (exact ⟨rfl, h, zKp_r X⟩) | (with_reducible refine odds_M hG h (by omega) (by omega) (by omega) (by omega) ⟨_, rfl, ?_⟩) | (with_reducible exact rfl) | (with_reducible apply And.intro) | (with_reducible refine ⟨_, rfl, ?_⟩) | (with_reducible refine q_isIn hG (fun _ _ => ?_) (fun _ => ?_)) | (with_reducible refine q_isAddress hG (fun _ _ => ?_) (fun _ => ?_)) | (with_reducible refine q_isMade hG (fun _ _ => ?_) (fun _ => ?_)) | (with_reducible refine q_isPage hG (by assumption) (fun _ _ => ?_) (fun _ => ?_)) | (with_reducible refine q_isHouse hG (by assumption) (fun _ _ => ?_) (fun _ => ?_)) | (with_reducible refine q_dPage hG (fun _ _ => ?_) (fun _ => ?_)) | (with_reducible refine q_dHouse hG (fun _ _ => ?_) (fun _ => ?_)) | (with_reducible refine q_dDay hG (fun _ _ => ?_) (fun _ => ?_)) | (with_reducible refine q_dLand hG (fun _ _ => ?_) (fun _ => ?_)) | (with_reducible refine q_dPerson hG (fun _ => ?_) (fun _ => ?_)) | (with_reducible refine q_mPerson hG (fun _ => ?_) (fun _ => ?_)) | (with_reducible refine q_pageAt hG (by omega) (by omega) ?_) | (with_reducible refine q_houseAt hG (by omega) (by omega) ?_) | (with_reducible refine q_treeOf hG (by omega) (by omega) ?_) | (with_reducible intro hz; exfalso; omega) | (with_reducible intro _) | (with_reducible refine zw_id ?_ ?_) | omega | (simp only [zw]; omega)))
  · refine M_odds_f0 hG ?_
    (repeat' (first | (exact ⟨rfl, h, zKp_r X⟩) | (with_reducible refine pieces_M hG h (by omega) (by omega) ⟨_, rfl, ?_⟩) | (with_reducible refine ones_M hG (by have zz := (q_pcs (p := b) h (by omega) (by omega)).2.2; omega) ⟨_, rfl, ?_⟩) | (with_reducible refine choose_M (n := 20) hG (by omega) (zpp_20 (q_pcs (p := b) h (by omega) (by omega)).2.2) ⟨_, rfl, ?_⟩) | (with_reducible exact rfl) | (with_reducible apply And.intro) | (with_reducible refine ⟨_, rfl, ?_⟩) | (with_reducible refine q_isIn hG (fun _ _ => ?_) (fun _ => ?_)) | (with_reducible refine q_isAddress hG (fun _ _ => ?_) (fun _ => ?_)) | (with_reducible refine q_isMade hG (fun _ _ => ?_) (fun _ => ?_)) | (with_reducible refine q_isPage hG (by assumption) (fun _ _ => ?_) (fun _ => ?_)) | (with_reducible refine q_isHouse hG (by assumption) (fun _ _ => ?_) (fun _ => ?_)) | (with_reducible refine q_dPage hG (fun _ _ => ?_) (fun _ => ?_)) | (with_reducible refine q_dHouse hG (fun _ _ => ?_) (fun _ => ?_)) | (with_reducible refine q_dDay hG (fun _ _ => ?_) (fun _ => ?_)) | (with_reducible refine q_dLand hG (fun _ _ => ?_) (fun _ => ?_)) | (with_reducible refine q_dPerson hG (fun _ => ?_) (fun _ => ?_)) | (with_reducible refine q_mPerson hG (fun _ => ?_) (fun _ => ?_)) | (with_reducible refine q_pageAt hG (by omega) (by omega) ?_) | (with_reducible refine q_houseAt hG (by omega) (by omega) ?_) | (with_reducible refine q_treeOf hG (by omega) (by omega) ?_) | (with_reducible intro hz; exfalso; omega) | (with_reducible intro _) | (with_reducible refine zw_id ?_ ?_) | omega | (simp only [zw]; omega)))
    exact choose_M (n := 20) hG (by omega) (zpp_20 (q_pcs (p := b) h (by omega) (by omega)).2.2) ⟨_, rfl, rfl, h, zKp_r X⟩
