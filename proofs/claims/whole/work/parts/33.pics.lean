/-! ===== pictures ===== -/
theorem z_or {x y : Int} (h0 : 0 ≤ x) (h1 : x < 33554432) (h2 : 0 ≤ y) (h3 : y < 33554432) : 0 ≤ zor x y ∧ zor x y < 33554432 := by
  have l : x.toNat ||| y.toNat < 2 ^ 25 := Nat.or_lt_two_pow (by omega) (by omega)
  have e : zor x y = ((x.toNat ||| y.toNat : Nat) : Int) := by
    unfold zor
    refine z_toI ?_ (by omega)
    rw [Int32.toBitVec_or, BitVec.toNat_or, z_on h0 (by omega), z_on h2 (by omega)]
  rw [e]
  omega
theorem z_sh01 {t : Int} (h0 : 0 ≤ t) (h1 : t < 25) : zshl 0 t = 0 ∧ 0 ≤ zshl 1 t ∧ zshl 1 t < 33554432 := by
  have key : ∀ k : Fin 25, zshl 0 (k.val : Int) = 0 ∧ 0 ≤ zshl 1 (k.val : Int) ∧ zshl 1 (k.val : Int) < 33554432 := by decide +kernel
  have z := key ⟨t.toNat, by omega⟩
  rw [show ((⟨t.toNat, by omega⟩ : Fin 25).val : Int) = t from Int.toNat_of_nonneg h0] at z
  exact z
/-- a bit put at a place -/
theorem z_put {acc b t : Int} (ha : 0 ≤ acc ∧ acc < 33554432) (hb : 0 ≤ b ∧ b ≤ 1) (h0 : 0 ≤ t) (h1 : t < 25) : (0 ≤ zor acc (zshl b t) ∧ zor acc (zshl b t) < 33554432) ∧ (b ≠ 1 → zor acc (zshl b t) = acc) := by
  have z := z_sh01 h0 h1
  have c : b = 0 ∨ b = 1 := by omega
  rcases c with rfl | rfl
  · rw [z.1, zor_0 (by unfold zin; omega)]
    exact ⟨ha, fun _ => rfl⟩
  · exact ⟨z_or ha.1 ha.2 z.2.1 z.2.2, fun n => absurd rfl n⟩
def zMv (sq dn rt : Int) : Nat → Int
  | 0 => 0
  | k + 1 => if 0 ≤ (k : Int) / 5 + dn ∧ (k : Int) / 5 + dn < 5 ∧ 0 ≤ (k : Int) % 5 + rt ∧ (k : Int) % 5 + rt < 5 then zor (zMv sq dn rt k) (zshl (zand (zshr sq k) 1) (((k : Int) / 5 + dn) * 5 + ((k : Int) % 5 + rt))) else zMv sq dn rt k
theorem zMv_p {sq dn rt : Int} {k : Nat} (h : 0 ≤ (k : Int) / 5 + dn ∧ (k : Int) / 5 + dn < 5 ∧ 0 ≤ (k : Int) % 5 + rt ∧ (k : Int) % 5 + rt < 5) : zMv sq dn rt (k + 1) = zor (zMv sq dn rt k) (zshl (zand (zshr sq k) 1) (((k : Int) / 5 + dn) * 5 + ((k : Int) % 5 + rt))) := if_pos h
theorem zMv_n {sq dn rt : Int} {k : Nat} (h : ¬(0 ≤ (k : Int) / 5 + dn ∧ (k : Int) / 5 + dn < 5 ∧ 0 ≤ (k : Int) % 5 + rt ∧ (k : Int) % 5 + rt < 5)) : zMv sq dn rt (k + 1) = zMv sq dn rt k := if_neg h
theorem z_bit (x : Int) : 0 ≤ zand x 1 ∧ zand x 1 ≤ 1 := z_andm x (by omega) (by omega)
theorem zMv_in (sq dn rt : Int) : ∀ k : Nat, k ≤ 25 → 0 ≤ zMv sq dn rt k ∧ zMv sq dn rt k < 33554432
  | 0, _ => by unfold zMv; omega
  | k + 1, hk => by
    have ih := zMv_in sq dn rt k (by omega)
    by_cases c : 0 ≤ (k : Int) / 5 + dn ∧ (k : Int) / 5 + dn < 5 ∧ 0 ≤ (k : Int) % 5 + rt ∧ (k : Int) % 5 + rt < 5
    · rw [zMv_p c]
      exact (z_put ih (z_bit _) (by omega) (by omega)).1
    · rw [zMv_n c]
      exact ih
theorem moved_D {Q : List zV → zX → Prop} {G : zG} {X : zX} {sq dn rt : Int} (hG : SH G) (d0 : -1 ≤ dn ∧ dn ≤ 1) (r0 : -1 ≤ rt ∧ rt ≤ 1) (q : Q [zI (zMv sq dn rt 25)] X) : D_moved [zI sq, zI dn, zI rt] G X Q := by
  have lp : ∀ (d k : Nat), k + d = 25 → 1 ≤ d → D_moved_W Q 14 [zI sq, zI dn, zI rt, zI (zMv sq dn rt k), zI ((k : Int) / 5), zI ((k : Int) % 5), zT, zT] [] G X := by
    intro d
    induction d with
    | zero => exact fun k _ h => absurd h (by omega)
    | succ d ih =>
      intro k ek _
      have nx : D_moved_W Q 14 [zI sq, zI dn, zI rt, zI (zMv sq dn rt (k + 1)), zI ((k : Int) / 5), zI ((k : Int) % 5 + 1), zT, zT] [] G X := by
        by_cases c : (k : Int) % 5 = 4
        · refine D_moved_f14 hG ⟨fun z => absurd z (by omega), fun _ => ⟨zw_id (by omega) (by omega), D_moved_f5 hG ⟨fun l => ?_, fun g => ?_⟩⟩⟩
          · have r := ih (k + 1) (by omega) (by omega)
            rw [show ((k + 1 : Nat) : Int) / 5 = (k : Int) / 5 + 1 by omega, show ((k + 1 : Nat) : Int) % 5 = 0 by omega] at r
            exact r
          · rw [show k + 1 = 25 by omega]
            exact q
        · have r := ih (k + 1) (by omega) (by omega)
          rw [show ((k + 1 : Nat) : Int) / 5 = (k : Int) / 5 by omega, show ((k + 1 : Nat) : Int) % 5 = (k : Int) % 5 + 1 by omega] at r
          exact r
      refine D_moved_f14 hG ⟨fun _ => ⟨zw_id (by omega) (by omega), zw_id (by omega) (by omega), fun n1 => ?_, fun n1 => ⟨fun n2 => ⟨fun n3 => ?_, fun n3 => ⟨fun n4 => ?_, fun n4 => ?_⟩⟩, fun n2 => ?_⟩⟩, fun z => absurd z (by omega)⟩
      · rw [zMv_n (by omega)] at nx
        exact ⟨zw_id (by omega) (by omega), nx⟩
      · rw [zMv_n (by omega)] at nx
        exact ⟨zw_id (by omega) (by omega), nx⟩
      · rw [zMv_p (by omega)] at nx
        rw [show (k : Int) / 5 * 5 + (k : Int) % 5 = k by omega]
        exact ⟨zw_id (by omega) (by omega), zw_id (by omega) (by omega), zw_id (by omega) (by omega), zw_id (by omega) (by omega), zw_id (by omega) (by omega), nx⟩
      · rw [zMv_n (by omega)] at nx
        exact ⟨zw_id (by omega) (by omega), nx⟩
      · rw [zMv_n (by omega)] at nx
        exact ⟨zw_id (by omega) (by omega), nx⟩
  exact D_moved_f0 hG (D_moved_f5 hG ⟨fun _ => lp 25 0 (by omega) (by omega), fun z => absurd z (by omega)⟩)
theorem moved_M {Q : List zV → zX → Prop} {G : zG} {X : zX} {sq dn rt : Int} (hG : SH G) (d0 : -1 ≤ dn ∧ dn ≤ 1) (r0 : -1 ≤ rt ∧ rt ≤ 1) (q : Q [zI (zMv sq dn rt 25)] X) : M_moved [zI sq, zI dn, zI rt] G X Q := by
  have lp : ∀ (d k : Nat), k + d = 25 → M_moved_W Q 5 [zI sq, zI dn, zI rt, zI (zMv sq dn rt k), zI (k : Int), zT, zT] [] G X := by
    intro d
    induction d with
    | zero =>
      intro k ek
      rw [show k = 25 by omega]
      exact M_moved_f5 hG ⟨fun z => absurd z (by omega), fun _ => q⟩
    | succ d ih =>
      intro k ek
      have nx := ih (k + 1) (by omega)
      have ai := zMv_in sq dn rt k (by omega)
      have zb := z_bit (zshr sq k)
      refine M_moved_f5 hG ⟨fun _ => ?_, fun z => absurd z (by omega)⟩
      rw [Int.tdiv_eq_ediv_of_nonneg (by omega), Int.tmod_eq_emod_of_nonneg (by omega)]
      refine ⟨zw_id (by omega) (by omega), zw_id (by omega) (by omega), zw_id (by omega) (by omega), zw_id (by omega) (by omega), fun b1 => q_isIn hG (fun c0 c1 => ⟨1, rfl, fun z => absurd z (by omega), fun _ => q_isIn hG (fun c2 c3 => ⟨1, rfl, fun z => absurd z (by omega), fun _ => ⟨zw_id (by omega) (by omega), zw_id (by omega) (by omega), zw_id (by omega) (by omega), ?_⟩⟩) (fun c2 => ⟨0, rfl, fun _ => ⟨zw_id (by omega) (by omega), ?_⟩, fun z => absurd rfl z⟩)⟩) (fun c0 => ⟨0, rfl, fun _ => ⟨zw_id (by omega) (by omega), ?_⟩, fun z => absurd rfl z⟩), fun b0 => ⟨zw_id (by omega) (by omega), ?_⟩⟩
      · rw [zMv_p (by omega), b1] at nx
        rw [show 5 * ((k : Int) / 5 + dn) + ((k : Int) % 5 + rt) = ((k : Int) / 5 + dn) * 5 + ((k : Int) % 5 + rt) by omega]
        exact nx
      · rw [zMv_n (by omega)] at nx
        exact nx
      · rw [zMv_n (by omega)] at nx
        exact nx
      · by_cases c : 0 ≤ (k : Int) / 5 + dn ∧ (k : Int) / 5 + dn < 5 ∧ 0 ≤ (k : Int) % 5 + rt ∧ (k : Int) % 5 + rt < 5
        · rw [zMv_p c, (z_put ai zb (by omega) (by omega)).2 b0] at nx
          exact nx
        · rw [zMv_n c] at nx
          exact nx
  exact M_moved_f0 hG (lp 25 0 (by omega))
def zTu (sq : Int) : Nat → Int
  | 0 => 0
  | k + 1 => zor (zTu sq k) (zshl (zand (zshr sq k) 1) ((k : Int) % 5 * 5 + 5 - 1 - (k : Int) / 5))
theorem zTu_in (sq : Int) : ∀ k : Nat, k ≤ 25 → 0 ≤ zTu sq k ∧ zTu sq k < 33554432
  | 0, _ => by unfold zTu; omega
  | k + 1, hk => (z_put (zTu_in sq k (by omega)) (z_bit _) (by omega) (by omega)).1
theorem turn_D {Q : List zV → zX → Prop} {G : zG} {X : zX} {sq : Int} (hG : SH G) (q : Q [zI (zTu sq 25)] X) : D_turnedRight [zI sq] G X Q := by
  have lp : ∀ (d k : Nat), k + d = 25 → 1 ≤ d → D_turnedRight_W Q 11 [zI sq, zI (zTu sq k), zI ((k : Int) / 5), zI ((k : Int) % 5), zT] [] G X := by
    intro d
    induction d with
    | zero => exact fun k _ h => absurd h (by omega)
    | succ d ih =>
      intro k ek _
      have nx : D_turnedRight_W Q 11 [zI sq, zI (zTu sq (k + 1)), zI ((k : Int) / 5), zI ((k : Int) % 5 + 1), zT] [] G X := by
        by_cases c : (k : Int) % 5 = 4
        · refine D_turnedRight_f11 hG ⟨fun z => absurd z (by omega), fun _ => ⟨zw_id (by omega) (by omega), D_turnedRight_f4 hG ⟨fun l => ?_, fun g => ?_⟩⟩⟩
          · have r := ih (k + 1) (by omega) (by omega)
            rw [show ((k + 1 : Nat) : Int) / 5 = (k : Int) / 5 + 1 by omega, show ((k + 1 : Nat) : Int) % 5 = 0 by omega] at r
            exact r
          · rw [show k + 1 = 25 by omega]
            exact q
        · have r := ih (k + 1) (by omega) (by omega)
          rw [show ((k + 1 : Nat) : Int) / 5 = (k : Int) / 5 by omega, show ((k + 1 : Nat) : Int) % 5 = (k : Int) % 5 + 1 by omega] at r
          exact r
      refine D_turnedRight_f11 hG ⟨fun _ => ?_, fun z => absurd z (by omega)⟩
      rw [show (k : Int) / 5 * 5 + (k : Int) % 5 = k by omega]
      exact ⟨zw_id (by omega) (by omega), zw_id (by omega) (by omega), zw_id (by omega) (by omega), zw_id (by omega) (by omega), zw_id (by omega) (by omega), zw_id (by omega) (by omega), zw_id (by omega) (by omega), nx⟩
  exact D_turnedRight_f0 hG (D_turnedRight_f4 hG ⟨fun _ => lp 25 0 (by omega) (by omega), fun z => absurd z (by omega)⟩)
theorem turn_M {Q : List zV → zX → Prop} {G : zG} {X : zX} {sq : Int} (hG : SH G) (q : Q [zI (zTu sq 25)] X) : M_quarter [zI sq] G X Q := by
  have lp : ∀ (d k : Nat), k + d = 25 → M_quarter_W Q 4 [zI sq, zI (zTu sq k), zI (k : Int)] [] G X := by
    intro d
    induction d with
    | zero =>
      intro k ek
      rw [show k = 25 by omega]
      exact M_quarter_f4 hG ⟨fun z => absurd z (by omega), fun _ => q⟩
    | succ d ih =>
      intro k ek
      have nx := ih (k + 1) (by omega)
      have ai := zTu_in sq k (by omega)
      have zb := z_bit (zshr sq k)
      have un : zTu sq (k + 1) = zor (zTu sq k) (zshl (zand (zshr sq k) 1) ((k : Int) % 5 * 5 + 5 - 1 - (k : Int) / 5)) := rfl
      refine M_quarter_f4 hG ⟨fun _ => ?_, fun z => absurd z (by omega)⟩
      rw [Int.tdiv_eq_ediv_of_nonneg (by omega), Int.tmod_eq_emod_of_nonneg (by omega)]
      refine ⟨fun b1 => ⟨by simp only [zw]; omega, zw_id (by omega) (by omega), by simp only [zw]; omega, zw_id (by omega) (by omega), ?_⟩, fun b0 => ⟨zw_id (by omega) (by omega), ?_⟩⟩
      · rw [un, b1] at nx
        rw [show 5 * ((k : Int) % 5) + 4 - (k : Int) / 5 = (k : Int) % 5 * 5 + 5 - 1 - (k : Int) / 5 by omega]
        exact nx
      · rw [un, (z_put ai zb (by omega) (by omega)).2 b0] at nx
        rw [zor_0 (by unfold zin; omega)]
        exact nx
  exact M_quarter_f0 hG (lp 25 0 (by omega))
def zU1 (mine pic best : Int) : Nat → Int
  | 0 => best
  | k + 1 => min (zU1 mine pic best k) (zpp (zxor (zMv mine ((k : Int) / 3 - 1) ((k : Int) % 3 - 1) 25) pic).toNat)
def zU4 (sq pic : Int) : Nat → Int × Int
  | 0 => (25, sq)
  | t + 1 => (zU1 (zU4 sq pic t).2 pic (zU4 sq pic t).1 9, zTu (zU4 sq pic t).2 25)
theorem z_xorin {x y : Int} (h0 : 0 ≤ x) (h1 : x < 33554432) (h2 : 0 ≤ y) (h3 : y < 33554432) : 0 ≤ zxor x y ∧ zxor x y < 2147483648 := by
  rw [z_xor h0 (by omega) h2 (by omega)]
  have z := Nat.xor_lt_two_pow (n := 31) (x := x.toNat) (y := y.toNat) (by omega) (by omega)
  omega
theorem unlike_D {Q : List zV → zX → Prop} {G : zG} {X : zX} {p hs : Int} (hG : SH G) (p0 : 0 ≤ p) (p1 : p < 10) (s0 : 0 ≤ hs) (s1 : hs < 5) (c0 : 0 ≤ X (23 + 6 * hs) 3 ∧ X (23 + 6 * hs) 3 < 33554432) (q : Q [zI (zU4 (X (53 + 5 * p) 6) (X (23 + 6 * hs) 3) 4).1] X) : D_unlikeOf [zR 0, zI p, zI hs] G X Q := by
  have il : ∀ (t : Nat) (best mine : Int), D_unlikeOf_W Q 20 [zR 0, zT, zI hs, zI (zTu mine 25), zI (zU1 mine (X (23 + 6 * hs) 3) best 9), zI ((t : Int) + 1), zT, zT, zT] [] G X → t < 4 → ∀ (d k : Nat), k + d = 9 → 1 ≤ d → D_unlikeOf_W Q 38 [zR 0, zT, zI hs, zI mine, zI (zU1 mine (X (23 + 6 * hs) 3) best k), zI t, zI ((k : Int) / 3 - 1), zI ((k : Int) % 3 - 1), zT] [] G X := by
    intro t best mine qq t4 d
    induction d with
    | zero => exact fun k _ h => absurd h (by omega)
    | succ d ih =>
      intro k ek _
      have nx : D_unlikeOf_W Q 38 [zR 0, zT, zI hs, zI mine, zI (zU1 mine (X (23 + 6 * hs) 3) best (k + 1)), zI t, zI ((k : Int) / 3 - 1), zI ((k : Int) % 3 - 1 + 1), zT] [] G X := by
        by_cases c : (k : Int) % 3 = 2
        · refine D_unlikeOf_f38 hG ⟨fun _ => ⟨zw_id (by omega) (by omega), D_unlikeOf_f29 hG ⟨fun g => turn_D hG ⟨_, rfl, zw_id (by omega) (by omega), ?_⟩, fun l => ?_⟩⟩, fun z => absurd z (by omega)⟩
          · rw [show k + 1 = 9 by omega]
            exact qq
          · have r := ih (k + 1) (by omega) (by omega)
            rw [show ((k + 1 : Nat) : Int) / 3 - 1 = (k : Int) / 3 - 1 + 1 by omega, show ((k + 1 : Nat) : Int) % 3 - 1 = -1 by omega] at r
            exact r
        · have r := ih (k + 1) (by omega) (by omega)
          rw [show ((k + 1 : Nat) : Int) / 3 = (k : Int) / 3 by omega, show ((k + 1 : Nat) : Int) % 3 - 1 = (k : Int) % 3 - 1 + 1 by omega] at r
          exact r
      have mi := zMv_in mine ((k : Int) / 3 - 1) ((k : Int) % 3 - 1) 25 (by omega)
      have xi := z_xorin mi.1 mi.2 c0.1 c0.2
      exact D_unlikeOf_f38 hG ⟨fun z => absurd z (by omega), fun _ => moved_D hG (by omega) (by omega) ⟨_, rfl, s0, s1, pop_D xi.1 xi.2 ⟨_, rfl, zw_id (by omega) (by omega), nx⟩⟩⟩
  have ol : ∀ (d t : Nat), t + d = 4 → D_unlikeOf_W Q 20 [zR 0, zT, zI hs, zI (zU4 (X (53 + 5 * p) 6) (X (23 + 6 * hs) 3) t).2, zI (zU4 (X (53 + 5 * p) 6) (X (23 + 6 * hs) 3) t).1, zI (t : Int), zT, zT, zT] [] G X := by
    intro d
    induction d with
    | zero =>
      intro t et
      rw [show t = 4 by omega]
      exact D_unlikeOf_f20 hG ⟨fun z => absurd z (by omega), fun _ => q⟩
    | succ d ih =>
      intro t et
      refine D_unlikeOf_f20 hG ⟨fun _ => D_unlikeOf_f29 hG ⟨fun z => absurd z (by omega), fun _ => ?_⟩, fun z => absurd z (by omega)⟩
      exact il t _ _ (ih (t + 1) (by omega)) (by omega) 9 0 (by omega) (by omega)
  exact D_unlikeOf_f0 hG ⟨p0, p1, ol 4 0 (by omega)⟩
theorem unlike_M {Q : List zV → zX → Prop} {G : zG} {X : zX} {p hs : Int} (hG : SH G) (h : zRT X 1 0) (p0 : 0 ≤ p) (p1 : p < 10) (s0 : 0 ≤ hs) (s1 : hs < 5) (q : Q [zI (zU4 (X (53 + 5 * p) 6) (X (23 + 6 * hs) 3) 4).1] X) : M_unlikeOf [zR 139, zI p, zI hs] G X Q := by
  have cp := zR_cpic h p p0 p1
  rw [show (0 : Int) + 2872 + 210 * p = 2670 + 210 * p + 202 by omega, show (1 : Int) + 52 + 5 * p = 53 + 5 * p by omega] at cp
  have hp := zR_hpic h hs s0 s1
  rw [show (0 : Int) + 2029 + 160 * hs = 1870 + 160 * hs + 159 by omega, show (1 : Int) + 22 + 6 * hs = 23 + 6 * hs by omega] at hp
  have il : ∀ (t : Nat) (best mine : Int), M_unlikeOf_W Q 21 [zR 139, zT, zI hs, zI (zU1 mine (X (23 + 6 * hs) 3) best 9), zI (zTu mine 25), zI ((t : Int) + 1), zT] [] G X → t < 4 → ∀ (d k : Nat), k + d = 9 → M_unlikeOf_W Q 30 [zR 139, zT, zI hs, zI (zU1 mine (X (23 + 6 * hs) 3) best k), zI mine, zI t, zI (k : Int)] [] G X := by
    intro t best mine qq t4 d
    induction d with
    | zero =>
      intro k ek
      rw [show k = 9 by omega]
      exact M_unlikeOf_f30 hG ⟨fun z => absurd z (by omega), fun _ => turn_M hG ⟨_, rfl, zw_id (by omega) (by omega), qq⟩⟩
    | succ d ih =>
      intro k ek
      have nx := ih (k + 1) (by omega)
      have mi := zMv_in mine ((k : Int) / 3 - 1) ((k : Int) % 3 - 1) 25 (by omega)
      have xi := z_xorin mi.1 mi.2 hp.2.1 (by omega)
      refine M_unlikeOf_f30 hG ⟨fun _ => ?_, fun z => absurd z (by omega)⟩
      rw [Int.tdiv_eq_ediv_of_nonneg (by omega), Int.tmod_eq_emod_of_nonneg (by omega)]
      refine ⟨zw_id (by omega) (by omega), zw_id (by omega) (by omega), zw_id (by omega) (by omega), zw_id (by omega) (by omega), moved_M hG (by omega) (by omega) ⟨_, rfl, q_houseAt hG s0 s1 ⟨_, rfl, zw_id (by omega) (by omega), by omega, by omega, ?_⟩⟩⟩
      rw [hp.1]
      have le : ∀ r : Int, r = zU1 mine (X (23 + 6 * hs) 3) best (k + 1) → ∃ r16, [zI r] = [zI r16] ∧ zw ((k : Int) + 1) = (k : Int) + 1 ∧ M_unlikeOf_W Q 30 [zR 139, zT, zI hs, zI r16, zI mine, zI t, zI ((k : Int) + 1)] [] G X := fun r er => ⟨r, rfl, zw_id (by omega) (by omega), by rw [er]; exact nx⟩
      have un : zU1 mine (X (23 + 6 * hs) 3) best (k + 1) = min (zU1 mine (X (23 + 6 * hs) 3) best k) (zpp (zxor (zMv mine ((k : Int) / 3 - 1) ((k : Int) % 3 - 1) 25) (X (23 + 6 * hs) 3)).toNat) := rfl
      refine pop_M hG xi.1 xi.2 ⟨_, rfl, M_lesser_f0 hG ⟨fun l => le _ (by omega), fun g => le _ (by omega)⟩⟩
  have ol : ∀ (d t : Nat), t + d = 4 → M_unlikeOf_W Q 21 [zR 139, zT, zI hs, zI (zU4 (X (53 + 5 * p) 6) (X (23 + 6 * hs) 3) t).1, zI (zU4 (X (53 + 5 * p) 6) (X (23 + 6 * hs) 3) t).2, zI (t : Int), zT] [] G X := by
    intro d
    induction d with
    | zero =>
      intro t et
      rw [show t = 4 by omega]
      exact M_unlikeOf_f21 hG ⟨fun z => absurd z (by omega), fun _ => q⟩
    | succ d ih =>
      intro t et
      refine M_unlikeOf_f21 hG ⟨fun _ => ?_, fun z => absurd z (by omega)⟩
      exact il t _ _ (ih (t + 1) (by omega)) (by omega) 9 0 (by omega)
  refine M_unlikeOf_f0 hG (q_pageAt hG p0 p1 ⟨_, rfl, zw_id (by omega) (by omega), by omega, by omega, ?_⟩)
  rw [cp.1]
  exact ol 4 0 (by omega)
theorem pic_in {X : zX} (h : zRT X 1 0) {hs : Int} (s0 : 0 ≤ hs) (s1 : hs < 5) : 0 ≤ X (23 + 6 * hs) 3 ∧ X (23 + 6 * hs) 3 < 33554432 := by
  have hp := zR_hpic h hs s0 s1
  rw [show (1 : Int) + 22 + 6 * hs = 23 + 6 * hs by omega] at hp
  omega
theorem op_unlike {G : zG} {X : zX} {a b : Int} (hG : SH G) (h : zRT X 1 0) : zOp D_unlike M_unlike [zI a, zI b] [zI a, zI b] G X := by
  have hp := q_pages h
  have hh := q_houses h
  have no : ¬(0 ≤ a ∧ a < X 1 12 ∧ 0 ≤ b ∧ b < X 1 11) → M_unlike [zR 139, zI a, zI b] G X (fun w X2 => w = [zI (-1)] ∧ zRT X2 1 0 ∧ zKp X X2) := fun n => by
    refine M_unlike_f0 hG ?_
    (repeat' (first | (exact ⟨rfl, h, zKp_r X⟩) | (with_reducible exact rfl) | (with_reducible apply And.intro) | (with_reducible refine ⟨_, rfl, ?_⟩) | (with_reducible refine q_isIn hG (fun _ _ => ?_) (fun _ => ?_)) | (with_reducible refine q_isAddress hG (fun _ _ => ?_) (fun _ => ?_)) | (with_reducible refine q_isMade hG (fun _ _ => ?_) (fun _ => ?_)) | (with_reducible refine q_isPage hG (by assumption) (fun _ _ => ?_) (fun _ => ?_)) | (with_reducible refine q_isHouse hG (by assumption) (fun _ _ => ?_) (fun _ => ?_)) | (with_reducible refine q_dPage hG (fun _ _ => ?_) (fun _ => ?_)) | (with_reducible refine q_dHouse hG (fun _ _ => ?_) (fun _ => ?_)) | (with_reducible refine q_dDay hG (fun _ _ => ?_) (fun _ => ?_)) | (with_reducible refine q_dLand hG (fun _ _ => ?_) (fun _ => ?_)) | (with_reducible refine q_dPerson hG (fun _ => ?_) (fun _ => ?_)) | (with_reducible refine q_mPerson hG (fun _ => ?_) (fun _ => ?_)) | (with_reducible refine q_pageAt hG (by omega) (by omega) ?_) | (with_reducible refine q_houseAt hG (by omega) (by omega) ?_) | (with_reducible refine q_treeOf hG (by omega) (by omega) ?_) | (with_reducible intro hz; exfalso; omega) | (with_reducible intro _) | (with_reducible refine zw_id ?_ ?_) | omega | (simp only [zw]; omega)))
  refine D_unlike_f0 hG ?_
  (repeat' (first | (with_reducible exact no (by omega)) | (with_reducible refine unlike_D hG (by omega) (by omega) (by omega) (by omega) (pic_in h (by omega) (by omega)) ?_) | (with_reducible exact rfl) | (with_reducible apply And.intro) | (with_reducible refine ⟨_, rfl, ?_⟩) | (with_reducible refine q_isIn hG (fun _ _ => ?_) (fun _ => ?_)) | (with_reducible refine q_isAddress hG (fun _ _ => ?_) (fun _ => ?_)) | (with_reducible refine q_isMade hG (fun _ _ => ?_) (fun _ => ?_)) | (with_reducible refine q_isPage hG (by assumption) (fun _ _ => ?_) (fun _ => ?_)) | (with_reducible refine q_isHouse hG (by assumption) (fun _ _ => ?_) (fun _ => ?_)) | (with_reducible refine q_dPage hG (fun _ _ => ?_) (fun _ => ?_)) | (with_reducible refine q_dHouse hG (fun _ _ => ?_) (fun _ => ?_)) | (with_reducible refine q_dDay hG (fun _ _ => ?_) (fun _ => ?_)) | (with_reducible refine q_dLand hG (fun _ _ => ?_) (fun _ => ?_)) | (with_reducible refine q_dPerson hG (fun _ => ?_) (fun _ => ?_)) | (with_reducible refine q_mPerson hG (fun _ => ?_) (fun _ => ?_)) | (with_reducible refine q_pageAt hG (by omega) (by omega) ?_) | (with_reducible refine q_houseAt hG (by omega) (by omega) ?_) | (with_reducible refine q_treeOf hG (by omega) (by omega) ?_) | (with_reducible intro hz; exfalso; omega) | (with_reducible intro _) | (with_reducible refine zw_id ?_ ?_) | omega | (simp only [zw]; omega)))
  refine M_unlike_f0 hG ?_
  (repeat' (first | (exact ⟨rfl, h, zKp_r X⟩) | (with_reducible refine unlike_M hG h (by omega) (by omega) (by omega) (by omega) ?_) | (with_reducible exact rfl) | (with_reducible apply And.intro) | (with_reducible refine ⟨_, rfl, ?_⟩) | (with_reducible refine q_isIn hG (fun _ _ => ?_) (fun _ => ?_)) | (with_reducible refine q_isAddress hG (fun _ _ => ?_) (fun _ => ?_)) | (with_reducible refine q_isMade hG (fun _ _ => ?_) (fun _ => ?_)) | (with_reducible refine q_isPage hG (by assumption) (fun _ _ => ?_) (fun _ => ?_)) | (with_reducible refine q_isHouse hG (by assumption) (fun _ _ => ?_) (fun _ => ?_)) | (with_reducible refine q_dPage hG (fun _ _ => ?_) (fun _ => ?_)) | (with_reducible refine q_dHouse hG (fun _ _ => ?_) (fun _ => ?_)) | (with_reducible refine q_dDay hG (fun _ _ => ?_) (fun _ => ?_)) | (with_reducible refine q_dLand hG (fun _ _ => ?_) (fun _ => ?_)) | (with_reducible refine q_dPerson hG (fun _ => ?_) (fun _ => ?_)) | (with_reducible refine q_mPerson hG (fun _ => ?_) (fun _ => ?_)) | (with_reducible refine q_pageAt hG (by omega) (by omega) ?_) | (with_reducible refine q_houseAt hG (by omega) (by omega) ?_) | (with_reducible refine q_treeOf hG (by omega) (by omega) ?_) | (with_reducible intro hz; exfalso; omega) | (with_reducible intro _) | (with_reducible refine zw_id ?_ ?_) | omega | (simp only [zw]; omega)))
def zNr (V : Int → Int) : Nat → Int
  | 0 => -1
  | k + 1 => if zNr V k = -1 ∨ V k < V (zNr V k) then k else zNr V k
theorem zNr_in (V : Int → Int) : ∀ k : Nat, -1 ≤ zNr V k ∧ zNr V k < k
  | 0 => by unfold zNr; omega
  | k + 1 => by
    have ih := zNr_in V k
    unfold zNr
    split <;> omega
theorem zNr_p {V : Int → Int} {k : Nat} (h : zNr V k = -1 ∨ V k < V (zNr V k)) : zNr V (k + 1) = k := if_pos h
theorem zNr_n {V : Int → Int} {k : Nat} (h : ¬(zNr V k = -1 ∨ V k < V (zNr V k))) : zNr V (k + 1) = zNr V k := if_neg h
def zVl (X : zX) (p hs : Int) : Int := (zU4 (X (53 + 5 * p) 6) (X (23 + 6 * hs) 3) 4).1
theorem op_near {G : zG} {X : zX} {a : Int} (hG : SH G) (h : zRT X 1 0) : zOp D_near M_near [zI a] [zI a] G X := by
  have hp := q_pages h
  have hh := q_houses h
  have no : ¬(0 ≤ a ∧ a < X 1 12) → M_near [zR 139, zI a] G X (fun w X2 => w = [zI (-1)] ∧ zRT X2 1 0 ∧ zKp X X2) := fun n => by
    refine M_near_f0 hG ?_
    (repeat' (first | (exact ⟨rfl, h, zKp_r X⟩) | (with_reducible exact rfl) | (with_reducible apply And.intro) | (with_reducible refine ⟨_, rfl, ?_⟩) | (with_reducible refine q_isIn hG (fun _ _ => ?_) (fun _ => ?_)) | (with_reducible refine q_isAddress hG (fun _ _ => ?_) (fun _ => ?_)) | (with_reducible refine q_isMade hG (fun _ _ => ?_) (fun _ => ?_)) | (with_reducible refine q_isPage hG (by assumption) (fun _ _ => ?_) (fun _ => ?_)) | (with_reducible refine q_isHouse hG (by assumption) (fun _ _ => ?_) (fun _ => ?_)) | (with_reducible refine q_dPage hG (fun _ _ => ?_) (fun _ => ?_)) | (with_reducible refine q_dHouse hG (fun _ _ => ?_) (fun _ => ?_)) | (with_reducible refine q_dDay hG (fun _ _ => ?_) (fun _ => ?_)) | (with_reducible refine q_dLand hG (fun _ _ => ?_) (fun _ => ?_)) | (with_reducible refine q_dPerson hG (fun _ => ?_) (fun _ => ?_)) | (with_reducible refine q_mPerson hG (fun _ => ?_) (fun _ => ?_)) | (with_reducible refine q_pageAt hG (by omega) (by omega) ?_) | (with_reducible refine q_houseAt hG (by omega) (by omega) ?_) | (with_reducible refine q_treeOf hG (by omega) (by omega) ?_) | (with_reducible intro hz; exfalso; omega) | (with_reducible intro _) | (with_reducible refine zw_id ?_ ?_) | omega | (simp only [zw]; omega)))
  have dl : ∀ {Q : List zV → zX → Prop}, 0 ≤ a → a < 10 → Q [zI (zNr (zVl X a) (X 1 11).toNat)] X → ∀ (d k : Nat) (v : Int), (k : Int) + d = X 1 11 → (zNr (zVl X a) k ≠ -1 → v = zVl X a (zNr (zVl X a) k)) → D_near_W Q 17 [zR 0, zI a, zI (zNr (zVl X a) k), zI v, zI k, zT] [] G X := by
    intro Q a0 a1 q d
    induction d with
    | zero =>
      intro k v ek ev
      rw [show (X 1 11).toNat = k by omega] at q
      exact D_near_f17 hG ⟨fun z => absurd z (by omega), fun _ => q⟩
    | succ d ih =>
      intro k v ek ev
      have yes : zNr (zVl X a) (k + 1) = k → D_near_W Q 49 [zR 0, zI a, zT, zT, zI k, zI (zVl X a k)] [] G X := fun e => by
        have r := ih (k + 1) (zVl X a k) (by omega) (fun _ => by rw [e])
        rw [e] at r
        exact D_near_f49 hG ⟨zw_id (by omega) (by omega), r⟩
      refine D_near_f17 hG ⟨fun _ => unlike_D hG a0 a1 (by omega) (by omega) (pic_in h (by omega) (by omega)) ⟨_, rfl, fun c => yes (zNr_p (Or.inl c)), fun c => ⟨fun l => yes (zNr_p (Or.inr (by rw [← ev c]; exact l))), fun g => ⟨zw_id (by omega) (by omega), ?_⟩⟩⟩, fun z => absurd z (by omega)⟩
      have e : zNr (zVl X a) (k + 1) = zNr (zVl X a) k := zNr_n (fun z => by
        rcases z with z | z
        · exact c z
        · rw [← ev c] at z
          have g2 : v ≤ zVl X a k := g
          omega)
      have r := ih (k + 1) v (by omega) (fun n => by rw [e] at n ⊢; exact ev n)
      rw [e] at r
      exact r
  have ml : ∀ {Q : List zV → zX → Prop}, 0 ≤ a → a < 10 → Q [zI (zNr (zVl X a) (X 1 11).toNat)] X → ∀ (d k : Nat), (k : Int) + d = X 1 11 → M_near_W Q 14 [zR 139, zI a, zI (zNr (zVl X a) k), zI k] [] G X := by
    intro Q a0 a1 q d
    induction d with
    | zero =>
      intro k ek
      rw [show (X 1 11).toNat = k by omega] at q
      exact M_near_f14 hG ⟨fun z => absurd z (by omega), fun _ => q⟩
    | succ d ih =>
      intro k ek
      have nx := ih (k + 1) (by omega)
      have ni := zNr_in (zVl X a) k
      refine M_near_f14 hG ⟨fun _ => ⟨fun neg => ⟨zw_id (by omega) (by omega), ?_⟩, fun pos => unlike_M hG h a0 a1 (by omega) (by omega) ⟨_, rfl, unlike_M hG h a0 a1 (by omega) (by omega) ⟨_, rfl, fun l => ⟨zw_id (by omega) (by omega), ?_⟩, fun g => ⟨zw_id (by omega) (by omega), ?_⟩⟩⟩⟩, fun z => absurd z (by omega)⟩
      · rw [zNr_p (Or.inl (by omega))] at nx
        exact nx
      · have l2 : zVl X a k < zVl X a (zNr (zVl X a) k) := l
        rw [zNr_p (V := zVl X a) (k := k) (Or.inr l2)] at nx
        exact nx
      · rw [zNr_n (fun z => by
          rcases z with z | z
          · omega
          · have g2 : zVl X a (zNr (zVl X a) k) ≤ zVl X a k := g
            omega)] at nx
        exact nx
  refine D_near_f0 hG ?_
  (repeat' (first | (with_reducible exact no (by omega)) | (with_reducible exact rfl) | (with_reducible apply And.intro) | (with_reducible refine ⟨_, rfl, ?_⟩) | (with_reducible refine q_isIn hG (fun _ _ => ?_) (fun _ => ?_)) | (with_reducible refine q_isAddress hG (fun _ _ => ?_) (fun _ => ?_)) | (with_reducible refine q_isMade hG (fun _ _ => ?_) (fun _ => ?_)) | (with_reducible refine q_isPage hG (by assumption) (fun _ _ => ?_) (fun _ => ?_)) | (with_reducible refine q_isHouse hG (by assumption) (fun _ _ => ?_) (fun _ => ?_)) | (with_reducible refine q_dPage hG (fun _ _ => ?_) (fun _ => ?_)) | (with_reducible refine q_dHouse hG (fun _ _ => ?_) (fun _ => ?_)) | (with_reducible refine q_dDay hG (fun _ _ => ?_) (fun _ => ?_)) | (with_reducible refine q_dLand hG (fun _ _ => ?_) (fun _ => ?_)) | (with_reducible refine q_dPerson hG (fun _ => ?_) (fun _ => ?_)) | (with_reducible refine q_mPerson hG (fun _ => ?_) (fun _ => ?_)) | (with_reducible refine q_pageAt hG (by omega) (by omega) ?_) | (with_reducible refine q_houseAt hG (by omega) (by omega) ?_) | (with_reducible refine q_treeOf hG (by omega) (by omega) ?_) | (with_reducible intro hz; exfalso; omega) | (with_reducible intro _) | (with_reducible refine zw_id ?_ ?_) | omega | (simp only [zw]; omega)))
  refine dl (by omega) (by omega) ?_ (X 1 11).toNat 0 0 (by omega) (fun z => absurd rfl z)
  refine M_near_f0 hG ?_
  (repeat' (first | (exact ⟨rfl, h, zKp_r X⟩) | (with_reducible exact rfl) | (with_reducible apply And.intro) | (with_reducible refine ⟨_, rfl, ?_⟩) | (with_reducible refine q_isIn hG (fun _ _ => ?_) (fun _ => ?_)) | (with_reducible refine q_isAddress hG (fun _ _ => ?_) (fun _ => ?_)) | (with_reducible refine q_isMade hG (fun _ _ => ?_) (fun _ => ?_)) | (with_reducible refine q_isPage hG (by assumption) (fun _ _ => ?_) (fun _ => ?_)) | (with_reducible refine q_isHouse hG (by assumption) (fun _ _ => ?_) (fun _ => ?_)) | (with_reducible refine q_dPage hG (fun _ _ => ?_) (fun _ => ?_)) | (with_reducible refine q_dHouse hG (fun _ _ => ?_) (fun _ => ?_)) | (with_reducible refine q_dDay hG (fun _ _ => ?_) (fun _ => ?_)) | (with_reducible refine q_dLand hG (fun _ _ => ?_) (fun _ => ?_)) | (with_reducible refine q_dPerson hG (fun _ => ?_) (fun _ => ?_)) | (with_reducible refine q_mPerson hG (fun _ => ?_) (fun _ => ?_)) | (with_reducible refine q_pageAt hG (by omega) (by omega) ?_) | (with_reducible refine q_houseAt hG (by omega) (by omega) ?_) | (with_reducible refine q_treeOf hG (by omega) (by omega) ?_) | (with_reducible intro hz; exfalso; omega) | (with_reducible intro _) | (with_reducible refine zw_id ?_ ?_) | omega | (simp only [zw]; omega)))
  exact ml (by omega) (by omega) ⟨rfl, h, zKp_r X⟩ (X 1 11).toNat 0 (by omega)
