/-! ===== rings ===== -/
def zbt (v : Int) (k : Nat) : Bool := (Int32.ofInt v).toBitVec.getLsbD k
theorem zbt_or (x y : Int) (k : Nat) : zbt (zor x y) k = (zbt x k || zbt y k) := by
  unfold zbt zor
  rw [Int32.ofInt_toInt, Int32.toBitVec_or, BitVec.getLsbD_or]
theorem zbt_and (x y : Int) (k : Nat) : zbt (zand x y) k = (zbt x k && zbt y k) := by
  unfold zbt zand
  rw [Int32.ofInt_toInt, Int32.toBitVec_and, BitVec.getLsbD_and]
theorem zbt_not (x : Int) {k : Nat} (hk : k < 32) : zbt (zxor x (-1)) k = !zbt x k := by
  unfold zbt zxor
  rw [Int32.ofInt_toInt, Int32.toBitVec_xor, BitVec.getLsbD_xor, show (Int32.ofInt (-1)).toBitVec = BitVec.allOnes 32 from by decide +kernel, BitVec.getLsbD_allOnes]
  simp [hk]
theorem zbt_0 (k : Nat) : zbt 0 k = false := by
  show (0#32).getLsbD k = false
  exact BitVec.getLsbD_zero
theorem zbt_one {j k : Nat} (hj : j < 10) (hk : k < 32) : zbt (zshl 1 (j : Int)) k = decide (k = j) := by
  have key : ∀ (j : Fin 10) (k : Fin 32), zbt (zshl 1 (j.val : Int)) k.val = decide (k.val = j.val) := by decide +kernel
  exact key ⟨j, hj⟩ ⟨k, hk⟩
theorem z_onb (b : BitVec 32) : b &&& 1#32 = if b.getLsbD 0 then 1#32 else 0#32 := by
  apply BitVec.eq_of_getLsbD_eq
  intro i hi
  rw [BitVec.getLsbD_and]
  cases h : b.getLsbD 0
  · by_cases c : i = 0
    · subst c
      rw [h]
      simp
    · simp [BitVec.getLsbD_one, c]
  · by_cases c : i = 0
    · subst c
      rw [h]
      simp
    · simp [BitVec.getLsbD_one, c]
theorem zbt_t (w : Int) {a : Nat} (ha : a < 10) : (zbt w a = true → zand (zshr w (a : Int)) 1 = 1) ∧ (zbt w a = false → zand (zshr w (a : Int)) 1 = 0) := by
  have e : ((Int32.ofInt w >>> (Int32.ofInt (a : Int) &&& 31)).toBitVec).getLsbD 0 = zbt w a := by
    have key : ∀ a : Fin 10, ((Int32.ofInt (a.val : Int) &&& 31).toBitVec.smod 32).toNat = a.val := by decide +kernel
    have k2 := key ⟨a, ha⟩
    simp only at k2
    rw [Int32.toBitVec_shiftRight, BitVec.sshiftRight_eq', k2, BitVec.getLsbD_sshiftRight]
    unfold zbt
    rw [if_pos (by omega)]
    simp
  have f : zand (zshr w (a : Int)) 1 = ((Int32.ofInt w >>> (Int32.ofInt (a : Int) &&& 31)).toBitVec &&& 1#32).toInt := by
    unfold zand zshr
    rw [Int32.ofInt_toInt]
    rfl
  rw [f, z_onb, e]
  refine ⟨fun c => ?_, fun c => ?_⟩ <;> rw [c] <;> rfl
theorem zbt_ext {x y : Int} (hx : zin x) (hy : zin y) (h : ∀ k, k < 32 → zbt x k = zbt y k) : x = y := by
  have e : (Int32.ofInt x).toBitVec = (Int32.ofInt y).toBitVec := BitVec.eq_of_getLsbD_eq (fun i hi => h i hi)
  have e2 : Int32.ofInt x = Int32.ofInt y := Int32.toBitVec_inj.1 e
  rw [← z_oi hx, ← z_oi hy, e2]
/-! the closure -/
def zHn (X : zX) (q : Int) (a b : Nat) : Prop := a ≠ b ∧ 0 < zShc X a b ∧ (zOdw X a b : Int) * q ≤ (zCn 20 (zpp (zPcs X b)) : Nat)
def zRe (X : zX) (q : Int) (p : Nat) : Nat → Nat → Prop
  | 0, b => b = p
  | n + 1, b => zRe X q p n b ∨ ∃ a, zRe X q p n a ∧ (b : Int) < X 1 12 ∧ zHn X q a b
def zCl (X : zX) (q : Int) (p b : Nat) : Prop := ∃ n, zRe X q p n b
theorem zRe_lt {X : zX} {q : Int} {p : Nat} (hp : (p : Int) < X 1 12) : ∀ n b, zRe X q p n b → (b : Int) < X 1 12
  | 0, b, h => by rw [show b = p from h]; exact hp
  | n + 1, b, h => by
    rcases h with h | ⟨a, _, h, _⟩
    · exact zRe_lt hp n b h
    · exact h
theorem zCl_st {X : zX} {q : Int} {p a b : Nat} (h : zCl X q p a) (hb : (b : Int) < X 1 12) (hr : zHn X q a b) : zCl X q p b := by
  obtain ⟨n, hn⟩ := h
  exact ⟨n + 1, Or.inr ⟨a, hn, hb, hr⟩⟩
theorem zCl_in {X : zX} {q : Int} {p : Nat} {S : Nat → Prop} (hp : S p) (hc : ∀ a b : Nat, S a → zCl X q p a → (b : Int) < X 1 12 → zHn X q a b → S b) : ∀ b, zCl X q p b → S b := by
  have key : ∀ n b, zRe X q p n b → S b := by
    intro n
    induction n with
    | zero => exact fun b h => by rw [show b = p from h]; exact hp
    | succ n ih =>
      intro b h
      rcases h with h | ⟨a, ha, hb, hr⟩
      · exact ih b h
      · exact hc a b (ih a ha) ⟨n, ha⟩ hb hr
  exact fun b h => by
    obtain ⟨n, hn⟩ := h
    exact key n b hn
/-- how many bits below n -/
def zct (v : Int) : Nat → Nat
  | 0 => 0
  | n + 1 => zct v n + (if zbt v n = true then 1 else 0)
theorem zct_le (v : Int) : ∀ n, zct v n ≤ n
  | 0 => Nat.le_refl _
  | n + 1 => by
    have z := zct_le v n
    unfold zct
    split <;> omega
theorem zct_mo {v w : Int} : ∀ n, (∀ k, k < n → zbt v k = true → zbt w k = true) → zct v n ≤ zct w n
  | 0, _ => Nat.le_refl _
  | n + 1, h => by
    have z := zct_mo n (fun k hk => h k (by omega))
    have y := h n (by omega)
    unfold zct
    split
    · rename_i c
      rw [if_pos (y c)]
      omega
    · split <;> omega
theorem zct_lt {v w : Int} {j : Nat} : ∀ n, (∀ k, k < n → zbt v k = true → zbt w k = true) → j < n → zbt w j = true → ¬(zbt v j = true) → zct v n + 1 ≤ zct w n
  | 0, _, hj, _, _ => absurd hj (by omega)
  | n + 1, h, hj, hw, hv => by
    by_cases c : j = n
    · have z := zct_mo n (fun k hk => h k (by omega))
      subst c
      unfold zct
      rw [if_pos hw, if_neg hv]
      omega
    · have z := zct_lt n (fun k hk => h k (by omega)) (by omega) hw hv
      have y := h n (by omega)
      unfold zct
      split
      · rename_i c
        rw [if_pos (y c)]
        omega
      · split <;> omega
theorem zct_all {v : Int} : ∀ n, n ≤ zct v n → ∀ k, k < n → zbt v k = true
  | 0, _, k, hk => absurd hk (by omega)
  | n + 1, h, k, hk => by
    have z := zct_le v n
    unfold zct at h
    split at h
    · rename_i c
      by_cases e : k = n
      · rw [e]; exact c
      · exact zct_all n (by omega) k (by omega)
    · omega
/-! of one hand -/
theorem z_sym {X : zX} {q : Int} (h : zRT X 1 0) {a b : Nat} (a1 : a < 10) (b1 : b < 10) (q0 : 1 ≤ q) (e : (zOdw X a b : Int) * q ≤ (zCn 20 (zpp (zPcs X b)) : Nat)) : (zOdw X b a : Int) * q ≤ (zCn 20 (zpp (zPcs X a)) : Nat) := by
  obtain ⟨n, rfl⟩ : ∃ n : Nat, q = n := ⟨q.toNat, by omega⟩
  have pa := zpp_20 (q_pcs (p := a) h (by omega) (by omega)).2.2
  have pb := zpp_20 (q_pcs (p := b) h (by omega) (by omega)).2.2
  have s : zOdw X a b * zCn 20 (zpp (zPcs X a)) = zOdw X b a * zCn 20 (zpp (zPcs X b)) := by
    unfold zOdw zShc
    rw [Nat.and_comm (zPcs X b) (zPcs X a)]
    exact zSs_s pa pb _
  have e2 : zOdw X a b * n ≤ zCn 20 (zpp (zPcs X b)) := by
    rw [← Int.natCast_mul] at e
    omega
  have pos : 0 < zCn 20 (zpp (zPcs X b)) := by
    have key : ∀ k : Fin 21, 0 < zCn 20 k.val := by decide +kernel
    exact key ⟨zpp (zPcs X b), by omega⟩
  have e3 : zOdw X b a * n * zCn 20 (zpp (zPcs X b)) ≤ zCn 20 (zpp (zPcs X a)) * zCn 20 (zpp (zPcs X b)) := by
    calc zOdw X b a * n * zCn 20 (zpp (zPcs X b)) = (zOdw X b a * zCn 20 (zpp (zPcs X b))) * n := by rw [Nat.mul_assoc, Nat.mul_comm n, ← Nat.mul_assoc]
      _ = (zOdw X a b * zCn 20 (zpp (zPcs X a))) * n := by rw [s]
      _ = (zOdw X a b * n) * zCn 20 (zpp (zPcs X a)) := by rw [Nat.mul_assoc, Nat.mul_comm (zCn 20 (zpp (zPcs X a))) n, ← Nat.mul_assoc]
      _ ≤ zCn 20 (zpp (zPcs X b)) * zCn 20 (zpp (zPcs X a)) := Nat.mul_le_mul_right _ e2
      _ = _ := Nat.mul_comm _ _
  have e4 := Nat.le_of_mul_le_mul_right e3 pos
  rw [← Int.natCast_mul]
  omega
theorem zShc_0 {X : zX} (h : zRT X 1 0) {a b : Nat} (a1 : a < 10) : 0 < zShc X a b ↔ ¬(zPcs X a &&& zPcs X b = 0) := by
  have p := (q_pcs (p := a) h (by omega) (by omega)).2.2
  have l : zPcs X a &&& zPcs X b ≤ zPcs X a := Nat.and_le_left
  unfold zShc
  refine ⟨fun z e => ?_, fun z => ?_⟩
  · rw [e] at z
    exact absurd z (by decide)
  · have y := z_less (n := zPcs X a &&& zPcs X b) (by omega) (by omega)
    omega
theorem hand_M {Q : List zV → zX → Prop} {G : zG} {X : zX} {q : Int} {a b : Nat} (hG : SH G) (h : zRT X 1 0) (a1 : a < 10) (b1 : b < 10) (ab : a ≠ b) (q0 : 1 ≤ q) (q1 : q ≤ 9999) (y1 : zHn X q a b → Q [zI 1] X) (y0 : ¬zHn X q a b → Q [zI 0] X) : M_isOneHand [zR 139, zI (a : Int), zI (b : Int), zI q] G X Q := by
  have pa := q_pcs (p := a) h (by omega) (by omega)
  have pb := q_pcs (p := b) h (by omega) (by omega)
  have l1 := zOdw_le (a := a) (b := b) h (by omega) (by omega) (by omega) (by omega)
  have l2 := zOdw_le (a := b) (b := a) h (by omega) (by omega) (by omega) (by omega)
  have m1 := z_mulb (x := (zOdw X a b : Int)) (y := q) (A := 184756) (B := 9999) (by omega) (by omega) (by omega) q1
  have m2 := z_mulb (x := (zOdw X b a : Int)) (y := q) (A := 184756) (B := 9999) (by omega) (by omega) (by omega) q1
  have n52 : ¬zHn X q a b → M_isOneHand_W Q 52 [zR 139, zI (a : Int), zI (b : Int), zT, zT] [] G X := fun n => M_isOneHand_f52 hG (M_isOneHand_f53 hG ⟨fun _ => y0 n, fun z => absurd rfl z⟩)
  refine M_isOneHand_f0 hG (odds_M hG h (by omega) (by omega) (by omega) (by omega) ⟨_, rfl, zw_id (by omega) (by omega), pieces_M hG h (by omega) (by omega) ⟨_, rfl, ones_M hG (by omega) ⟨_, rfl, choose_M (n := 20) hG (by omega) (zpp_20 pb.2.2) ⟨_, rfl, fun lt => n52 (fun z => ?_), fun ge => ?_⟩⟩⟩⟩)
  · have z3 := z.2.2
    omega
  · have sy := z_sym h a1 b1 q0 ge
    refine odds_M hG h (by omega) (by omega) (by omega) (by omega) ⟨_, rfl, zw_id (by omega) (by omega), pieces_M hG h (by omega) (by omega) ⟨_, rfl, ones_M hG (by omega) ⟨_, rfl, choose_M (n := 20) hG (by omega) (zpp_20 pa.2.2) ⟨_, rfl, fun lt => absurd lt (by omega), fun _ => M_isOneHand_f53 hG ⟨fun z => absurd z (by omega), fun _ => pieces_M hG h (by omega) (by omega) ⟨_, rfl, pieces_M hG h (by omega) (by omega) ⟨_, rfl, ?_⟩⟩⟩⟩⟩⟩⟩
    rw [z_and (by omega) (by omega) (by omega) (by omega), Int.toNat_natCast, Int.toNat_natCast]
    have s0 := zShc_0 (b := b) h a1
    refine ⟨fun z => y0 (fun y => s0.1 y.2.1 (by omega)), fun z => y1 ⟨ab, s0.2 (fun e => z (by rw [e]; rfl)), ge⟩⟩
theorem hand_D {Q : List zV → zX → Prop} {G : zG} {X : zX} {q : Int} {a : Nat} (hG : SH G) (h : zRT X 1 0) (a1 : (a : Int) < X 1 12) (q0 : 1 ≤ q) (q1 : q ≤ 9999) (qq : ∀ v : Int, zin v → (∀ k, k < 32 → (zbt v k = true ↔ (k : Int) < X 1 12 ∧ zHn X q a k)) → Q [zI v] X) : D_ofOneHand [zR 0, zI (a : Int), zI q] G X Q := by
  have hp := q_pages h
  have lp : ∀ (d k : Nat) (v : Int), (k : Int) + d = X 1 12 → zin v → (∀ j, j < 32 → (zbt v j = true ↔ j < k ∧ zHn X q a j)) → D_ofOneHand_W Q 5 [zR 0, zI (a : Int), zI q, zI v, zI (k : Int)] [] G X := by
    intro d
    induction d with
    | zero =>
      intro k v e hv hb
      exact D_ofOneHand_f5 hG ⟨fun z => absurd z (by omega), fun _ => qq v hv (fun j hj => (hb j hj).trans ⟨fun z => ⟨by omega, z.2⟩, fun z => ⟨by omega, z.2⟩⟩)⟩
    | succ d ih =>
      intro k v e hv hb
      have same : ¬zHn X q a k → zw ((k : Int) + 1) = (k : Int) + 1 ∧ D_ofOneHand_W Q 5 [zR 0, zI (a : Int), zI q, zI v, zI ((k : Int) + 1)] [] G X := fun n => by
        have r := ih (k + 1) v (by omega) hv (fun j hj => (hb j hj).trans ⟨fun z => ⟨by omega, z.2⟩, fun z => ⟨by
          have : j ≠ k := fun c => n (by rw [← c]; exact z.2)
          omega, z.2⟩⟩)
        exact ⟨zw_id (by omega) (by omega), r⟩
      have s0 := zShc_0 (b := k) h (by omega : a < 10)
      have l1 := zOdw_le (a := a) (b := k) h (by omega) (by omega) (by omega) (by omega)
      have m1 := z_mulb (x := (zOdw X a k : Int)) (y := q) (A := 184756) (B := 9999) (by omega) (by omega) (by omega) q1
      refine D_ofOneHand_f5 hG ⟨fun _ => ⟨fun c => same (fun z => z.1 (by omega)), fun c => shares_D hG h (by omega) (by omega) (by omega) (by omega) ⟨_, rfl, fun pos => ways_D hG h (by omega) (by omega) (by omega) (by omega) ⟨_, rfl, zwl_id (by omega) (by omega), all_D hG h (by omega) (by omega) ⟨_, rfl, fun gt => same (fun z => ?_), fun le => ?_⟩⟩, fun neg => same (fun z => absurd z.2.1 (by omega))⟩⟩, fun z => absurd z (by omega)⟩
      · have z3 := z.2.2
        unfold zcmp at gt
        split at gt
        · omega
        · split at gt <;> omega
      · have le2 : (zOdw X a k : Int) * q ≤ (zCn 20 (zpp (zPcs X k)) : Nat) := by
          unfold zcmp at le
          split at le
          · omega
          · split at le <;> omega
        refine ⟨zw_id (by omega) (by omega), ?_⟩
        have r := ih (k + 1) (zor v (zshl 1 (k : Int))) (by omega) (zor_in _ _) (fun j hj => by
          rw [zbt_or, zbt_one (by omega) hj]
          by_cases jk : j = k
          · subst jk
            refine ⟨fun _ => ⟨by omega, fun c2 => c (by omega), by omega, le2⟩, fun _ => by simp⟩
          · have e3 : (zbt v j || decide (j = k)) = zbt v j := by simp [jk]
            rw [e3]
            exact (hb j hj).trans ⟨fun z => ⟨by omega, z.2⟩, fun z => ⟨by omega, z.2⟩⟩)
        exact r
  exact D_ofOneHand_f0 hG (lp (X 1 12).toNat 0 0 (by omega) (by unfold zin; omega) (fun j hj => by
    rw [zbt_0]
    exact ⟨fun z => absurd z (by decide), fun z => absurd z.1 (by omega)⟩))
