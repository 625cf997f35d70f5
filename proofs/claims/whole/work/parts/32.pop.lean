/-! ===== how many bits ===== -/
theorem z_toI {v : Int32} {n : Nat} (h : v.toBitVec.toNat = n) (hn : n < 2147483648) : v.toInt = n := by
  rw [show v.toInt = v.toBitVec.toInt from rfl, BitVec.toInt_eq_toNat_cond]
  split <;> omega
theorem z_on {x : Int} (h0 : 0 ≤ x) (h1 : x < 2147483648) : (Int32.ofInt x).toBitVec.toNat = x.toNat := by
  show (BitVec.ofInt 32 x).toNat = x.toNat
  rw [BitVec.toNat_ofInt]
  omega
theorem z_and {x y : Int} (h0 : 0 ≤ x) (h1 : x < 2147483648) (h2 : 0 ≤ y) (h3 : y < 2147483648) : zand x y = ((x.toNat &&& y.toNat : Nat) : Int) := by
  unfold zand
  refine z_toI ?_ ?_
  · rw [Int32.toBitVec_and, BitVec.toNat_and, z_on h0 h1, z_on h2 h3]
  · exact Nat.lt_of_le_of_lt Nat.and_le_left (by omega)
theorem z_xor {x y : Int} (h0 : 0 ≤ x) (h1 : x < 2147483648) (h2 : 0 ≤ y) (h3 : y < 2147483648) : zxor x y = ((x.toNat ^^^ y.toNat : Nat) : Int) := by
  unfold zxor
  refine z_toI ?_ ?_
  · rw [Int32.toBitVec_xor, BitVec.toNat_xor, z_on h0 h1, z_on h2 h3]
  · exact Nat.xor_lt_two_pow (n := 31) (by omega) (by omega)
theorem z_ushr {x k : Int} (h0 : 0 ≤ x) (h1 : x < 2147483648) (k0 : 0 ≤ k) (k1 : k < 32) : zushr x k = ((x.toNat / 2 ^ k.toNat : Nat) : Int) := by
  unfold zushr
  have kk : ((Int32.ofInt k).toUInt32 &&& Int32.toUInt32 31).toNat % 32 = k.toNat := by
    have key : ∀ j : Fin 32, ((Int32.ofInt (j.val : Int)).toUInt32 &&& Int32.toUInt32 31).toNat % 32 = j.val := by decide +kernel
    have z := key ⟨k.toNat, by omega⟩
    rw [show ((⟨k.toNat, by omega⟩ : Fin 32).val : Int) = k from Int.toNat_of_nonneg k0] at z
    exact z
  refine z_toI ?_ ?_
  · show ((Int32.ofInt x).toUInt32 >>> ((Int32.ofInt k).toUInt32 &&& Int32.toUInt32 31)).toNat = _
    rw [UInt32.toNat_shiftRight, kk, Nat.shiftRight_eq_div_pow]
    rw [show (Int32.ofInt x).toUInt32.toNat = (Int32.ofInt x).toBitVec.toNat from rfl, z_on h0 h1]
  · exact Nat.lt_of_le_of_lt (Nat.div_le_self _ _) (by omega)
theorem z_l2 (k a c : Nat) {b d : Nat} (hb : b < 2 ^ k) (hd : d < 2 ^ k) : (2 ^ k * a + b) &&& (2 ^ k * c + d) = 2 ^ k * (a &&& c) + (b &&& d) := by
  apply Nat.eq_of_testBit_eq
  intro j
  rw [Nat.testBit_and, Nat.testBit_two_pow_mul_add a hb, Nat.testBit_two_pow_mul_add c hd, Nat.testBit_two_pow_mul_add (a &&& c) (Nat.lt_of_le_of_lt Nat.and_le_left hb)]
  split <;> rw [Nat.testBit_and]
theorem z_l8 (a c : Nat) {b d : Nat} (hb : b < 256) (hd : d < 256) : (256 * a + b) &&& (256 * c + d) = 256 * (a &&& c) + (b &&& d) := z_l2 8 a c hb hd
def zB4 (a b c d : Nat) : Nat := 256 * (256 * (256 * d + c) + b) + a
theorem z_l4 {a b c d m : Nat} (ha : a < 256) (hb : b < 256) (hc : c < 256) (hm : m < 256) : zB4 a b c d &&& zB4 m m m m = zB4 (a &&& m) (b &&& m) (c &&& m) (d &&& m) := by
  unfold zB4
  rw [z_l8 _ _ ha hm, z_l8 _ _ hb hm, z_l8 _ _ hc hm]
def zp8 (n : Nat) : Nat := n % 2 + n / 2 % 2 + n / 4 % 2 + n / 8 % 2 + n / 16 % 2 + n / 32 % 2 + n / 64 % 2 + n / 128 % 2
def zpp (n : Nat) : Nat := zp8 (n % 256) + zp8 (n / 256 % 256) + zp8 (n / 65536 % 256) + zp8 (n / 16777216)
theorem zp8_le (n : Nat) : zp8 n ≤ 8 := by unfold zp8; omega
theorem zpp_le (n : Nat) : zpp n ≤ 32 := by
  have a := zp8_le (n % 256)
  have b := zp8_le (n / 256 % 256)
  have c := zp8_le (n / 65536 % 256)
  have d := zp8_le (n / 16777216)
  unfold zpp
  omega
/-- one byte, through the three steps -/
def zv1 (b : Nat) : Nat := b - ((b / 2) &&& 85)
def zv2 (c : Nat) : Nat := (c &&& 51) + ((c / 4) &&& 51)
theorem zb_1 (b : Fin 256) (e : Fin 2) : (b.val / 2 + 128 * e.val) &&& 85 = (b.val / 2) &&& 85 ∧ ((b.val / 2) &&& 85) ≤ b.val := by
  have key : ∀ b : Fin 256, ∀ e : Fin 2, (b.val / 2 + 128 * e.val) &&& 85 = (b.val / 2) &&& 85 ∧ ((b.val / 2) &&& 85) ≤ b.val := by decide +kernel
  exact key b e
theorem zb_2 (b : Fin 256) (e : Fin 4) : (zv1 b.val / 4 + 64 * e.val) &&& 51 = (zv1 b.val / 4) &&& 51 ∧ zv1 b.val < 256 := by
  have key : ∀ b : Fin 256, ∀ e : Fin 4, (zv1 b.val / 4 + 64 * e.val) &&& 51 = (zv1 b.val / 4) &&& 51 ∧ zv1 b.val < 256 := by decide +kernel
  exact key b e
theorem zb_3 (b : Fin 256) (e : Fin 5) : (zv2 (zv1 b.val) + (zv2 (zv1 b.val) / 16 + 16 * e.val)) &&& 15 = zp8 b.val ∧ zv2 (zv1 b.val) % 16 < 5 ∧ zv2 (zv1 b.val) ≤ 68 := by
  have key : ∀ b : Fin 256, ∀ e : Fin 5, (zv2 (zv1 b.val) + (zv2 (zv1 b.val) / 16 + 16 * e.val)) &&& 15 = zp8 b.val ∧ zv2 (zv1 b.val) % 16 < 5 ∧ zv2 (zv1 b.val) ≤ 68 := by decide +kernel
  exact key b e
theorem z_63 {h l : Nat} (hl : l < 64) : (64 * h + l) &&& 63 = l := by
  have z := z_l2 6 h 0 (b := l) (d := 63) (by omega) (by omega)
  rw [Nat.and_zero] at z
  have e : l &&& 63 = l := by
    have key : ∀ l : Fin 64, l.val &&& 63 = l.val := by decide +kernel
    exact key ⟨l, hl⟩
  rw [e] at z
  exact (show (2 ^ 6 * h + l) &&& (2 ^ 6 * 0 + 63) = l by rw [z]; omega)
theorem pop_D {Q : List zV → zX → Prop} {G : zG} {X : zX} {x : Int} (h0 : 0 ≤ x) (h1 : x < 2147483648) (q : Q [zI (zpp x.toNat)] X) : IN_bitCount [zI x] G X Q := by
  obtain ⟨n, rfl⟩ : ∃ n : Nat, x = n := ⟨x.toNat, (Int.toNat_of_nonneg h0).symm⟩
  rw [Int.toNat_natCast] at q
  obtain ⟨a, b, c, d, ha, hb, hc, hd, e, ea, eb, ec, ed⟩ : ∃ a b c d : Nat, a < 256 ∧ b < 256 ∧ c < 256 ∧ d < 128 ∧ n = zB4 a b c d ∧ a = n % 256 ∧ b = n / 256 % 256 ∧ c = n / 65536 % 256 ∧ d = n / 16777216 :=
    ⟨n % 256, n / 256 % 256, n / 65536 % 256, n / 16777216, by omega, by omega, by omega, by omega, by unfold zB4; omega, rfl, rfl, rfl, rfl⟩
  have pa := fun k hk => zb_1 ⟨a, ha⟩ ⟨k, hk⟩
  have pb := fun k hk => zb_1 ⟨b, hb⟩ ⟨k, hk⟩
  have pc := fun k hk => zb_1 ⟨c, hc⟩ ⟨k, hk⟩
  have pd := zb_1 ⟨d, by omega⟩ ⟨0, by omega⟩
  -- step one
  have s1 : zand (zushr (n : Int) 1) 1431655765 = ((zB4 ((a / 2) &&& 85) ((b / 2) &&& 85) ((c / 2) &&& 85) ((d / 2) &&& 85) : Nat) : Int) := by
    rw [z_ushr h0 h1 (by omega) (by omega)]
    have e2 : (n : Int).toNat / 2 ^ (1 : Int).toNat = zB4 (a / 2 + 128 * (b % 2)) (b / 2 + 128 * (c % 2)) (c / 2 + 128 * (d % 2)) (d / 2) := by
      rw [Int.toNat_natCast, e, show (2 : Nat) ^ (1 : Int).toNat = 2 from rfl]
      unfold zB4
      omega
    rw [e2, z_and (by omega) (by unfold zB4; omega) (by omega) (by omega), Int.toNat_natCast, show (1431655765 : Int).toNat = zB4 85 85 85 85 from rfl, z_l4 (by omega) (by omega) (by omega) (by omega)]
    rw [(pa (b % 2) (by omega)).1, (pb (c % 2) (by omega)).1, (pc (d % 2) (by omega)).1]
  have s2 : zw ((n : Int) - zand (zushr (n : Int) 1) 1431655765) = ((zB4 (zv1 a) (zv1 b) (zv1 c) (zv1 d) : Nat) : Int) := by
    have q1 := (pa 0 (by omega)).2
    have q2 := (pb 0 (by omega)).2
    have q3 := (pc 0 (by omega)).2
    have q4 := pd.2
    rw [s1, e]
    unfold zv1 zB4
    simp only at q1 q2 q3 q4
    rw [zw_id (by omega) (by omega)]
    omega
  have ra := fun k hk => zb_2 ⟨a, ha⟩ ⟨k, hk⟩
  have rb := fun k hk => zb_2 ⟨b, hb⟩ ⟨k, hk⟩
  have rc := fun k hk => zb_2 ⟨c, hc⟩ ⟨k, hk⟩
  have rd := zb_2 ⟨d, by omega⟩ ⟨0, by omega⟩
  have ba := (ra 0 (by omega)).2
  have bb := (rb 0 (by omega)).2
  have bc := (rc 0 (by omega)).2
  have bd := rd.2
  have bd2 : zv1 d ≤ d := by unfold zv1; omega
  simp only at ba bb bc bd
  have ta := fun k hk => zb_3 ⟨a, ha⟩ ⟨k, hk⟩
  have tb := fun k hk => zb_3 ⟨b, hb⟩ ⟨k, hk⟩
  have tc := fun k hk => zb_3 ⟨c, hc⟩ ⟨k, hk⟩
  have td := zb_3 ⟨d, by omega⟩ ⟨0, by omega⟩
  have ua := (ta 0 (by omega)).2
  have ub := (tb 0 (by omega)).2
  have uc := (tc 0 (by omega)).2
  have ud := td.2
  simp only at ua ub uc ud
  have l51 : ∀ y : Nat, y &&& 51 ≤ 51 := fun y => Nat.and_le_right
  have s3 : zand ((zB4 (zv1 a) (zv1 b) (zv1 c) (zv1 d) : Nat) : Int) 858993459 = ((zB4 (zv1 a &&& 51) (zv1 b &&& 51) (zv1 c &&& 51) (zv1 d &&& 51) : Nat) : Int) := by
    rw [z_and (by omega) (by unfold zB4; omega) (by omega) (by omega), Int.toNat_natCast, show (858993459 : Int).toNat = zB4 51 51 51 51 from rfl, z_l4 ba bb bc (by omega)]
  have s4 : zand (zushr ((zB4 (zv1 a) (zv1 b) (zv1 c) (zv1 d) : Nat) : Int) 2) 858993459 = ((zB4 ((zv1 a / 4) &&& 51) ((zv1 b / 4) &&& 51) ((zv1 c / 4) &&& 51) ((zv1 d / 4) &&& 51) : Nat) : Int) := by
    rw [z_ushr (by omega) (by unfold zB4; omega) (by omega) (by omega)]
    have e2 : ((zB4 (zv1 a) (zv1 b) (zv1 c) (zv1 d) : Nat) : Int).toNat / 2 ^ (2 : Int).toNat = zB4 (zv1 a / 4 + 64 * (zv1 b % 4)) (zv1 b / 4 + 64 * (zv1 c % 4)) (zv1 c / 4 + 64 * (zv1 d % 4)) (zv1 d / 4) := by
      rw [Int.toNat_natCast, show (2 : Nat) ^ (2 : Int).toNat = 4 from rfl]
      unfold zB4
      omega
    rw [e2, z_and (by omega) (by unfold zB4; omega) (by omega) (by omega), Int.toNat_natCast, show (858993459 : Int).toNat = zB4 51 51 51 51 from rfl, z_l4 (by omega) (by omega) (by omega) (by omega)]
    rw [(ra (zv1 b % 4) (by omega)).1, (rb (zv1 c % 4) (by omega)).1, (rc (zv1 d % 4) (by omega)).1]
  have s5 : zw (zand ((zB4 (zv1 a) (zv1 b) (zv1 c) (zv1 d) : Nat) : Int) 858993459 + zand (zushr ((zB4 (zv1 a) (zv1 b) (zv1 c) (zv1 d) : Nat) : Int) 2) 858993459) = ((zB4 (zv2 (zv1 a)) (zv2 (zv1 b)) (zv2 (zv1 c)) (zv2 (zv1 d)) : Nat) : Int) := by
    rw [s3, s4]
    have g1 := l51 (zv1 a)
    have g2 := l51 (zv1 b)
    have g3 := l51 (zv1 c)
    have g4 := l51 (zv1 d)
    have g5 := l51 (zv1 a / 4)
    have g6 := l51 (zv1 b / 4)
    have g7 := l51 (zv1 c / 4)
    have g8 := l51 (zv1 d / 4)
    unfold zv2 zB4
    rw [zw_id (by omega) (by omega)]
    omega
  refine IN_bitCount_e0 ?_
  rw [s2, s5]
  intro r1 e1
  subst e1
  have s6 : zand (zw (((zB4 (zv2 (zv1 a)) (zv2 (zv1 b)) (zv2 (zv1 c)) (zv2 (zv1 d)) : Nat) : Int) + zushr ((zB4 (zv2 (zv1 a)) (zv2 (zv1 b)) (zv2 (zv1 c)) (zv2 (zv1 d)) : Nat) : Int) 4)) 252645135 = ((zB4 (zp8 a) (zp8 b) (zp8 c) (zp8 d) : Nat) : Int) := by
    rw [z_ushr (by omega) (by unfold zB4; omega) (by omega) (by omega)]
    have e2 : ((zB4 (zv2 (zv1 a)) (zv2 (zv1 b)) (zv2 (zv1 c)) (zv2 (zv1 d)) : Nat) : Int).toNat / 2 ^ (4 : Int).toNat = zB4 (zv2 (zv1 a) / 16 + 16 * (zv2 (zv1 b) % 16)) (zv2 (zv1 b) / 16 + 16 * (zv2 (zv1 c) % 16)) (zv2 (zv1 c) / 16 + 16 * (zv2 (zv1 d) % 16)) (zv2 (zv1 d) / 16) := by
      rw [Int.toNat_natCast, show (2 : Nat) ^ (4 : Int).toNat = 16 from rfl]
      unfold zB4
      omega
    rw [e2]
    have e3 : ((zB4 (zv2 (zv1 a)) (zv2 (zv1 b)) (zv2 (zv1 c)) (zv2 (zv1 d)) : Nat) : Int) + ((zB4 (zv2 (zv1 a) / 16 + 16 * (zv2 (zv1 b) % 16)) (zv2 (zv1 b) / 16 + 16 * (zv2 (zv1 c) % 16)) (zv2 (zv1 c) / 16 + 16 * (zv2 (zv1 d) % 16)) (zv2 (zv1 d) / 16) : Nat) : Int) = ((zB4 (zv2 (zv1 a) + (zv2 (zv1 a) / 16 + 16 * (zv2 (zv1 b) % 16))) (zv2 (zv1 b) + (zv2 (zv1 b) / 16 + 16 * (zv2 (zv1 c) % 16))) (zv2 (zv1 c) + (zv2 (zv1 c) / 16 + 16 * (zv2 (zv1 d) % 16))) (zv2 (zv1 d) + (zv2 (zv1 d) / 16 + 16 * 0)) : Nat) : Int) := by
      unfold zB4
      omega
    rw [e3, zw_id (by omega) (by unfold zB4; omega), z_and (by omega) (by unfold zB4; omega) (by omega) (by omega), Int.toNat_natCast, show (252645135 : Int).toNat = zB4 15 15 15 15 from rfl, z_l4 (by omega) (by omega) (by omega) (by omega)]
    rw [(ta (zv2 (zv1 b) % 16) ub.1).1, (tb (zv2 (zv1 c) % 16) uc.1).1, (tc (zv2 (zv1 d) % 16) ud.1).1, td.1]
  rw [s6]
  have k1 := zp8_le a
  have k2 := zp8_le b
  have k3 := zp8_le c
  have k4 := zp8_le d
  intro r2 e2
  have s7 : zushr ((zB4 (zp8 a) (zp8 b) (zp8 c) (zp8 d) : Nat) : Int) 8 = ((zB4 (zp8 b) (zp8 c) (zp8 d) 0 : Nat) : Int) := by
    rw [z_ushr (by omega) (by unfold zB4; omega) (by omega) (by omega), Int.toNat_natCast, show (2 : Nat) ^ (8 : Int).toNat = 256 from rfl]
    unfold zB4
    omega
  have e2b : r2 = ((zB4 (zp8 a + zp8 b) (zp8 b + zp8 c) (zp8 c + zp8 d) (zp8 d) : Nat) : Int) := by
    rw [e2, s7, zw_id (by omega) (by unfold zB4; omega)]
    unfold zB4
    omega
  rw [e2b]
  have s8 : zushr ((zB4 (zp8 a + zp8 b) (zp8 b + zp8 c) (zp8 c + zp8 d) (zp8 d) : Nat) : Int) 16 = ((zB4 (zp8 c + zp8 d) (zp8 d) 0 0 : Nat) : Int) := by
    rw [z_ushr (by omega) (by unfold zB4; omega) (by omega) (by omega), Int.toNat_natCast, show (2 : Nat) ^ (16 : Int).toNat = 65536 from rfl]
    unfold zB4
    omega
  have s9 : zand (zw (((zB4 (zp8 a + zp8 b) (zp8 b + zp8 c) (zp8 c + zp8 d) (zp8 d) : Nat) : Int) + zushr ((zB4 (zp8 a + zp8 b) (zp8 b + zp8 c) (zp8 c + zp8 d) (zp8 d) : Nat) : Int) 16)) 63 = ((zpp n : Nat) : Int) := by
    have e4 : ((zB4 (zp8 a + zp8 b) (zp8 b + zp8 c) (zp8 c + zp8 d) (zp8 d) : Nat) : Int) + ((zB4 (zp8 c + zp8 d) (zp8 d) 0 0 : Nat) : Int) = ((64 * (4 * (256 * (256 * zp8 d + (zp8 c + zp8 d)) + (zp8 b + zp8 c + zp8 d))) + (zp8 a + zp8 b + zp8 c + zp8 d) : Nat) : Int) := by
      unfold zB4
      omega
    rw [s8, e4, zw_id (by omega) (by omega), z_and (by omega) (by omega) (by omega) (by omega), Int.toNat_natCast, show (63 : Int).toNat = 63 from rfl, z_63 (by omega)]
    unfold zpp
    rw [← ea, ← eb, ← ec, ← ed]
  rw [s9]
  exact q
/-! one bit less -/
theorem z_less {n : Nat} (h0 : 0 < n) (h1 : n < 2147483648) : zpp (n &&& (n - 1)) + 1 = zpp n := by
  have k8 : ∀ b : Fin 256, 0 < b.val → zp8 (b.val &&& (b.val - 1)) + 1 = zp8 b.val ∧ b.val &&& (b.val - 1) < 256 := by decide +kernel
  have z0 : zp8 0 = 0 := rfl
  have kz : ∀ b : Fin 256, 0 &&& b.val = 0 := by decide +kernel
  obtain ⟨a, b, c, d, ha, hb, hc, hd, e, ea, eb, ec, ed⟩ : ∃ a b c d : Nat, a < 256 ∧ b < 256 ∧ c < 256 ∧ d < 128 ∧ n = zB4 a b c d ∧ a = n % 256 ∧ b = n / 256 % 256 ∧ c = n / 65536 % 256 ∧ d = n / 16777216 :=
    ⟨n % 256, n / 256 % 256, n / 65536 % 256, n / 16777216, by omega, by omega, by omega, by omega, by unfold zB4; omega, rfl, rfl, rfl, rfl⟩
  have pp : ∀ a b c d : Nat, a < 256 → b < 256 → c < 256 → zpp (zB4 a b c d) = zp8 a + zp8 b + zp8 c + zp8 d := fun a b c d ha hb hc => by
    unfold zpp
    rw [show zB4 a b c d % 256 = a by unfold zB4; omega, show zB4 a b c d / 256 % 256 = b by unfold zB4; omega, show zB4 a b c d / 65536 % 256 = c by unfold zB4; omega, show zB4 a b c d / 16777216 = d by unfold zB4; omega]
  have ld : ∀ a b c d a2 b2 c2 d2 : Nat, a < 256 → b < 256 → c < 256 → a2 < 256 → b2 < 256 → c2 < 256 → zB4 a b c d &&& zB4 a2 b2 c2 d2 = zB4 (a &&& a2) (b &&& b2) (c &&& c2) (d &&& d2) := fun a b c d a2 b2 c2 d2 h1 h2 h3 h4 h5 h6 => by
    unfold zB4
    rw [z_l8 _ _ h1 h4, z_l8 _ _ h2 h5, z_l8 _ _ h3 h6]
  rw [e, pp a b c d ha hb hc]
  by_cases ca : 0 < a
  · have y := k8 ⟨a, ha⟩ ca
    simp only at y
    rw [show zB4 a b c d - 1 = zB4 (a - 1) b c d by unfold zB4; omega, ld _ _ _ _ _ _ _ _ ha hb hc (by omega) hb hc, Nat.and_self, Nat.and_self, Nat.and_self, pp _ _ _ _ y.2 hb hc]
    omega
  · have a0 : a = 0 := by omega
    by_cases cb : 0 < b
    · have y := k8 ⟨b, hb⟩ cb
      simp only at y
      rw [a0, show zB4 0 b c d - 1 = zB4 255 (b - 1) c d by unfold zB4; omega, ld _ _ _ _ _ _ _ _ (by omega) hb hc (by omega) (by omega) hc, Nat.and_self, Nat.and_self, Nat.zero_and, pp _ _ _ _ (by omega) y.2 hc]
      omega
    · have b0 : b = 0 := by omega
      by_cases cc : 0 < c
      · have y := k8 ⟨c, hc⟩ cc
        simp only at y
        rw [a0, b0, show zB4 0 0 c d - 1 = zB4 255 255 (c - 1) d by unfold zB4; omega, ld _ _ _ _ _ _ _ _ (by omega) (by omega) hc (by omega) (by omega) (by omega), Nat.and_self, Nat.zero_and, pp _ _ _ _ (by omega) (by omega) y.2]
        omega
      · have c0 : c = 0 := by omega
        have cd : 0 < d := by unfold zB4 at e; omega
        have y := k8 ⟨d, by omega⟩ cd
        simp only at y
        rw [a0, b0, c0, show zB4 0 0 0 d - 1 = zB4 255 255 255 (d - 1) by unfold zB4; omega, ld _ _ _ _ _ _ _ _ (by omega) (by omega) (by omega) (by omega) (by omega) (by omega), Nat.zero_and, pp _ _ _ _ (by omega) (by omega) (by omega)]
        omega
theorem pop_Ml {Q : List zV → zX → Prop} {G : zG} {X : zX} {m : Int} (hG : SH G) (q : Q [zI m] X) : ∀ (d n : Nat) (k : Int), n < 2147483648 → zpp n = d → 0 ≤ k → k + zpp n = m → m ≤ 64 → M_ones_W Q 4 [zT, zI k, zI (n : Int)] [] G X := by
  intro d
  induction d with
  | zero =>
    intro n k h1 e k0 ek m1
    have hz : n = 0 := by
      by_cases h0 : 0 < n
      · have z := z_less h0 h1
        omega
      · omega
    refine M_ones_f4 hG ⟨fun _ => ?_, fun z => absurd (by omega) z⟩
    rw [show k = m by omega]
    exact q
  | succ d ih =>
    intro n k h1 e k0 ek m1
    have h0 : 0 < n := by
      by_cases h0 : 0 < n
      · exact h0
      · have z : n = 0 := by omega
        rw [z] at e
        have z2 : zpp 0 = 0 := by decide
        omega
    have z := z_less h0 h1
    refine M_ones_f4 hG ⟨fun z => absurd z (by omega), fun _ => ⟨zw_id (by omega) (by omega), zw_id (by omega) (by omega), ?_⟩⟩
    have ea : zand (n : Int) ((n : Int) - 1) = ((n &&& (n - 1) : Nat) : Int) := by
      rw [z_and (by omega) (by omega) (by omega) (by omega), Int.toNat_natCast, show ((n : Int) - 1).toNat = n - 1 by omega]
    rw [ea]
    exact ih _ (k + 1) (Nat.lt_of_le_of_lt Nat.and_le_left h1) (by omega) (by omega) (by omega) m1
theorem pop_M {Q : List zV → zX → Prop} {G : zG} {X : zX} {x : Int} (hG : SH G) (h0 : 0 ≤ x) (h1 : x < 2147483648) (q : Q [zI (zpp x.toNat)] X) : M_ones [zI x] G X Q := by
  obtain ⟨n, rfl⟩ : ∃ n : Nat, x = n := ⟨x.toNat, (Int.toNat_of_nonneg h0).symm⟩
  rw [Int.toNat_natCast] at q
  have z := zpp_le n
  exact M_ones_f0 hG (pop_Ml hG q (zpp n) n 0 (by omega) rfl (by omega) (by omega) (by omega))
