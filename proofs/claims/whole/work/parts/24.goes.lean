/-! ===== goes ===== -/
def zorb (R : Int → Int) (a : Int) : Nat → Int
  | 0 => a
  | n + 1 => R (zorb R a n)
theorem zorb_add {R : Int → Int} {a : Int} {i j : Nat} (e : zorb R a i = zorb R a j) : ∀ k, zorb R a (i + k) = zorb R a (j + k)
  | 0 => e
  | k + 1 => congrArg R (zorb_add e k)
/-- ten hops among ten addresses never end -/
theorem z_ring {R : Int → Int} {a : Int} (ha : 0 ≤ a ∧ a < 10) (hR : ∀ x : Int, 0 ≤ x → x < 10 → -1 ≤ R x ∧ R x ≤ 9) (h : ∀ i, i < 10 → R (zorb R a i) ≠ -1) : ∀ i, 0 ≤ zorb R a i ∧ zorb R a i < 10 := by
  have h10 : ∀ i, i ≤ 10 → 0 ≤ zorb R a i ∧ zorb R a i < 10 := by
    intro i
    induction i with
    | zero => exact fun _ => ha
    | succ i ih =>
      intro hi
      have z := ih (by omega)
      have q := hR _ z.1 z.2
      have n := h i (by omega)
      show 0 ≤ R (zorb R a i) ∧ R (zorb R a i) < 10
      omega
  obtain ⟨i, j, hij, hj, e⟩ := z_php 10 (fun i => (zorb R a i).toNat) (fun i hi => by
    have z := h10 i hi
    show (zorb R a i).toNat < 10
    omega)
  have e2 : zorb R a i = zorb R a j := by
    have z1 := h10 i (by omega)
    have z2 := h10 j hj
    have e3 : (zorb R a i).toNat = (zorb R a j).toNat := e
    omega
  have all : ∀ n, 0 ≤ zorb R a n ∧ zorb R a n < 10 := by
    intro n
    induction n using Nat.strongRecOn with
    | _ n ih =>
      by_cases hn : n ≤ 10
      · exact h10 n hn
      · have z := zorb_add e2 (n - j)
        rw [show j + (n - j) = n by omega] at z
        rw [← z]
        exact ih _ (by omega)
  exact all
theorem goes_D {Q : List zV → zX → Prop} {G : zG} {X : zX} {a w : Int} (hG : SH G) (k : Nat) (hk : k < 10) (hr : ∀ i, i ≤ k → 0 ≤ zorb (X 21) a i ∧ zorb (X 21) a i < 10) (hm : ∀ i, i < k → X 21 (zorb (X 21) a i) ≠ -1) (he : X 21 (zorb (X 21) a k) = -1)
    (q0 : w = 0 → Q [zI (zorb (X 21) a k)] X) (q1 : w ≠ 0 → Q [zI k] X) : ∀ d m : Nat, m + d = k → D_goes_W Q 14 [zR 0, zT, zI w, zI (zorb (X 21) a m), zI (m : Int)] [] G X
  | 0, m, e => by
    have e2 : m = k := by omega
    subst e2
    exact D_goes_f14 hG ⟨fun _ => ⟨(hr m (by omega)).1, (hr m (by omega)).2, fun _ => ⟨q0, q1⟩, fun n => absurd he n⟩, fun z => absurd z (by omega)⟩
  | d + 1, m, e => D_goes_f14 hG ⟨fun _ => ⟨(hr m (by omega)).1, (hr m (by omega)).2, fun z => absurd z (hm m (by omega)), fun _ => ⟨zw_id (by omega) (by omega), goes_D hG k hk hr hm he q0 q1 d (m + 1) (by omega)⟩⟩, fun z => absurd z (by omega)⟩
theorem goes_DN {Q : List zV → zX → Prop} {G : zG} {X : zX} {a w : Int} (hG : SH G) (hr : ∀ i, i ≤ 10 → 0 ≤ zorb (X 21) a i ∧ zorb (X 21) a i < 10) (hm : ∀ i, i < 10 → X 21 (zorb (X 21) a i) ≠ -1) (q : Q [zI (-1)] X) : ∀ d m : Nat, m + d = 10 → D_goes_W Q 14 [zR 0, zT, zI w, zI (zorb (X 21) a m), zI (m : Int)] [] G X
  | 0, m, e => D_goes_f14 hG ⟨fun z => absurd z (by omega), fun _ => q⟩
  | d + 1, m, e => D_goes_f14 hG ⟨fun _ => ⟨(hr m (by omega)).1, (hr m (by omega)).2, fun z => absurd z (hm m (by omega)), fun _ => ⟨zw_id (by omega) (by omega), goes_DN hG hr hm q d (m + 1) (by omega)⟩⟩, fun z => absurd z (by omega)⟩
