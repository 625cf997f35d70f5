/-! ===== abstract values: ints and longs as whole numbers, references as numbers (-1: null) ===== -/
abbrev zV : Type := Int ⊕ (Int ⊕ (Int ⊕ Unit))
abbrev zI (x : Int) : zV := Sum.inl x
abbrev zR (a : Int) : zV := Sum.inr (Sum.inl a)
abbrev zL (x : Int) : zV := Sum.inr (Sum.inr (Sum.inl x))
abbrev zT : zV := Sum.inr (Sum.inr (Sum.inr ()))
def zw (x : Int) : Int := (x + 2147483648) % 4294967296 - 2147483648
def zwl (x : Int) : Int := (x + 9223372036854775808) % 18446744073709551616 - 9223372036854775808
def zin (x : Int) : Prop := -2147483648 ≤ x ∧ x ≤ 2147483647
def zinl (x : Int) : Prop := -9223372036854775808 ≤ x ∧ x ≤ 9223372036854775807
theorem zw_id {x : Int} (h : -2147483648 ≤ x) (h2 : x ≤ 2147483647) : zw x = x := by unfold zw; omega
theorem zwl_id {x : Int} (h : -9223372036854775808 ≤ x) (h2 : x ≤ 9223372036854775807) : zwl x = x := by unfold zwl; omega
theorem zw_in (x : Int) : zin (zw x) := by unfold zin zw; omega
theorem zwl_in (x : Int) : zinl (zwl x) := by unfold zinl zwl; omega
theorem zw_bmod (x : Int) : zw x = x.bmod 4294967296 := by
  unfold zw
  rw [Int.bmod_def]
  split <;> omega
theorem zwl_bmod (x : Int) : zwl x = x.bmod 18446744073709551616 := by
  unfold zwl
  rw [Int.bmod_def]
  split <;> omega
theorem z32 {x : Int} (h : zin x) : (Int32.ofInt x).toInt = x := by
  rw [Int32.toInt_ofInt]
  show x.bmod 4294967296 = x
  rw [← zw_bmod]
  exact zw_id h.1 h.2
theorem z64 {x : Int} (h : zinl x) : (Int64.ofInt x).toInt = x := by
  rw [Int64.toInt_ofInt]
  show x.bmod 18446744073709551616 = x
  rw [← zwl_bmod]
  exact zwl_id h.1 h.2
theorem z32w (x : Int) : Int32.ofInt (zw x) = Int32.ofInt x := by
  apply Int32.toInt_inj.mp
  rw [z32 (zw_in x), Int32.toInt_ofInt, zw_bmod]
theorem z64w (x : Int) : Int64.ofInt (zwl x) = Int64.ofInt x := by
  apply Int64.toInt_inj.mp
  rw [z64 (zwl_in x), Int64.toInt_ofInt, zwl_bmod]
theorem z32_in (v : Int32) : zin v.toInt := ⟨Int32.le_toInt v, by have := Int32.toInt_lt v; omega⟩
theorem z64_in (v : Int64) : zinl v.toInt := ⟨Int64.le_toInt v, by have := Int64.toInt_lt v; omega⟩
theorem z32e (v : Int32) : Int32.ofInt v.toInt = v := Int32.toInt_inj.mp (z32 (z32_in v))
theorem z64e (v : Int64) : Int64.ofInt v.toInt = v := Int64.toInt_inj.mp (z64 (z64_in v))
/-- to show that a machine number is a written one -/
theorem z32i {v : Int32} {x : Int} (h : v.toInt = x) : v = Int32.ofInt x := by rw [← h, z32e]
theorem z64i {v : Int64} {x : Int} (h : v.toInt = x) : v = Int64.ofInt x := by rw [← h, z64e]
theorem z_add {x y : Int} (hx : zin x) (hy : zin y) : Int32.ofInt x + Int32.ofInt y = Int32.ofInt (zw (x + y)) := by
  apply z32i
  rw [Int32.toInt_add, z32 hx, z32 hy, zw_bmod]
theorem z_sub {x y : Int} (hx : zin x) (hy : zin y) : Int32.ofInt x - Int32.ofInt y = Int32.ofInt (zw (x - y)) := by
  apply z32i
  rw [Int32.toInt_sub, z32 hx, z32 hy, zw_bmod]
theorem z_mul {x y : Int} (hx : zin x) (hy : zin y) : Int32.ofInt x * Int32.ofInt y = Int32.ofInt (zw (x * y)) := by
  apply z32i
  rw [Int32.toInt_mul, z32 hx, z32 hy, zw_bmod]
theorem z_neg {x : Int} (hx : zin x) : -Int32.ofInt x = Int32.ofInt (zw (-x)) := by
  apply z32i
  rw [Int32.toInt_neg, z32 hx, zw_bmod]
theorem z_div {x y : Int} (hx : zin x) (hy : zin y) : Int32.ofInt x / Int32.ofInt y = Int32.ofInt (zw (x.tdiv y)) := by
  apply z32i
  rw [Int32.toInt_div, z32 hx, z32 hy, zw_bmod]
theorem z_lt {x y : Int} (hx : zin x) (hy : zin y) : Int32.ofInt x < Int32.ofInt y ↔ x < y := by
  rw [Int32.lt_iff_toInt_lt, z32 hx, z32 hy]
theorem z_le {x y : Int} (hx : zin x) (hy : zin y) : Int32.ofInt x ≤ Int32.ofInt y ↔ x ≤ y := by
  rw [Int32.le_iff_toInt_le, z32 hx, z32 hy]
theorem z_eq {x y : Int} (hx : zin x) (hy : zin y) : Int32.ofInt x = Int32.ofInt y ↔ x = y := by
  rw [← Int32.toInt_inj, z32 hx, z32 hy]
theorem z_0 : (0 : Int32) = Int32.ofInt 0 := rfl
theorem zin_0 : zin 0 := by unfold zin; omega
theorem z_nc {x : Int} (h0 : 0 ≤ x) (hx : zin x) : (Int32.ofInt x).toNatClampNeg = x.toNat := by
  show (Int32.ofInt x).toInt.toNat = _
  rw [z32 hx]
