/-! ===== goes ===== -/
def zorb (R : Int → Int) (a : Int) : Nat → Int
  | 0 => a
  | n + 1 => R (zorb R a n)
theorem zorb_add {R : Int → Int} {a : Int} {i j : Nat} (e : zorb R a i = zorb R a j) : ∀ k, zorb R a (i + k) = zorb R a (j + k)
  | 0 => e
  | k + 1 => congrArg R (zorb_add e k)
/-- ten hops among ten addresses never end -/
theorem z_ring {R : Int → Int} {a : Int} (ha : 0 ≤ a ∧ a < 10) (hR : ∀ x : Int, 0 ≤ x → x < 10 → -1 ≤ R x ∧ R x ≤ 9) (h : ∀ i, i < 10 → R (zorb R a i) ≠ -1) : ∀ i, 0 ≤ zorb R a i ∧ zorb R a i < 10 := by
  have h10 : ∀ i, i ≤ 10 → 0 ≤ zorb R a i ∧ zorb R a i < 10 := by
    intro i
    induction i with
    | zero => exact fun _ => ha
    | succ i ih =>
      intro hi
      have z := ih (by omega)
      have q := hR _ z.1 z.2
      have n := h i (by omega)
      show 0 ≤ R (zorb R a i) ∧ R (zorb R a i) < 10
      omega
  obtain ⟨i, j, hij, hj, e⟩ := z_php 10 (fun i => (zorb R a i).toNat) (fun i hi => by
    have z := h10 i hi
    show (zorb R a i).toNat < 10
    omega)
  have e2 : zorb R a i = zorb R a j := by
    have z1 := h10 i (by omega)
    have z2 := h10 j hj
    have e3 : (zorb R a i).toNat = (zorb R a j).toNat := e
    omega
  have all : ∀ n, 0 ≤ zorb R a n ∧ zorb R a n < 10 := by
    intro n
    induction n using Nat.strongRecOn with
    | _ n ih =>
      by_cases hn : n ≤ 10
      · exact h10 n hn
      · have z := zorb_add e2 (n - j)
        rw [show j + (n - j) = n by omega] at z
        rw [← z]
        exact ih _ (by omega)
  exact all
theorem goes_D {Q : List zV → zX → Prop} {G : zG} {X : zX} {a w : Int} (hG : SH G) (k : Nat) (hk : k < 10) (hr : ∀ i, i ≤ k → 0 ≤ zorb (X 21) a i ∧ zorb (X 21) a i < 10) (hm : ∀ i, i < k → X 21 (zorb (X 21) a i) ≠ -1) (he : X 21 (zorb (X 21) a k) = -1)
    (q0 : w = 0 → Q [zI (zorb (X 21) a k)] X) (q1 : w ≠ 0 → Q [zI k] X) : ∀ d m : Nat, m + d = k → D_goes_W Q 14 [zR 0, zT, zI w, zI (zorb (X 21) a m), zI (m : Int)] [] G X
  | 0, m, e => by
    have e2 : m = k := by omega
    subst e2
    exact D_goes_f14 hG ⟨fun _ => ⟨(hr m (by omega)).1, (hr m (by omega)).2, fun _ => ⟨q0, q1⟩, fun n => absurd he n⟩, fun z => absurd z (by omega)⟩
  | d + 1, m, e => D_goes_f14 hG ⟨fun _ => ⟨(hr m (by omega)).1, (hr m (by omega)).2, fun z => absurd z (hm m (by omega)), fun _ => ⟨zw_id (by omega) (by omega), goes_D hG k hk hr hm he q0 q1 d (m + 1) (by omega)⟩⟩, fun z => absurd z (by omega)⟩
theorem goes_DN {Q : List zV → zX → Prop} {G : zG} {X : zX} {a w : Int} (hG : SH G) (hr : ∀ i, i ≤ 10 → 0 ≤ zorb (X 21) a i ∧ zorb (X 21) a i < 10) (hm : ∀ i, i < 10 → X 21 (zorb (X 21) a i) ≠ -1) (q : Q [zI (-1)] X) : ∀ d m : Nat, m + d = 10 → D_goes_W Q 14 [zR 0, zT, zI w, zI (zorb (X 21) a m), zI (m : Int)] [] G X
  | 0, m, e => D_goes_f14 hG ⟨fun z => absurd z (by omega), fun _ => q⟩
  | d + 1, m, e => D_goes_f14 hG ⟨fun _ => ⟨(hr m (by omega)).1, (hr m (by omega)).2, fun z => absurd z (hm m (by omega)), fun _ => ⟨zw_id (by omega) (by omega), goes_DN hG hr hm q d (m + 1) (by omega)⟩⟩, fun z => absurd z (by omega)⟩
theorem zst_t (X : zX) (a j u v : Int) : zst (zst X a j u) a j v = zst X a j v := by
  funext b k
  rw [zrd_e, zrd_e, zrd_e]
  by_cases h : b = a ∧ k = j
  · rw [if_pos h, if_pos h]
  · rw [if_neg h, if_neg h, if_neg h]
theorem goes_M {Q : List zV → zX → Prop} {G : zG} {X : zX} {a : Int} (hG : SH G) (hA : ∀ x : Int, 0 ≤ x → x < 10 → X 140 (4770 + x) = X 21 x + 1 ∧ -1 ≤ X 21 x ∧ X 21 x ≤ 9) (k : Nat) (hk : k < 10) (hr : ∀ i, i ≤ k → 0 ≤ zorb (X 21) a i ∧ zorb (X 21) a i < 10) (hm : ∀ i, i < k → X 21 (zorb (X 21) a i) ≠ -1) (he : X 21 (zorb (X 21) a k) = -1)
    (q : Q [zI (zorb (X 21) a k)] (zst X 139 47 k)) : ∀ d m : Nat, m + d = k → M_endOf_W Q 7 [zR 139, zT, zI (zorb (X 21) a m)] [] G (zst X 139 47 m) := by
  intro d
  induction d with
  | zero =>
    intro m e
    have e2 : m = k := by omega
    subst e2
    have z := hr m (by omega)
    have y := hA _ z.1 z.2
    refine M_endOf_f7 hG ⟨zw_id (by omega) (by omega), by omega, by omega, ?_⟩
    rw [show zst X 139 47 m 140 (4770 + zorb (X 21) a m) = X 140 (4770 + zorb (X 21) a m) from zrd_n (by omega)]
    exact ⟨fun w => absurd w (by omega), fun _ => q⟩
  | succ d ih =>
    intro m e
    have z := hr m (by omega)
    have y := hA _ z.1 z.2
    have n := hm m (by omega)
    refine M_endOf_f7 hG ⟨zw_id (by omega) (by omega), by omega, by omega, ?_⟩
    rw [show zst X 139 47 m 140 (4770 + zorb (X 21) a m) = X 140 (4770 + zorb (X 21) a m) from zrd_n (by omega), zrd_s, zst_t, zrd_s, y.1]
    refine ⟨fun _ => ⟨zw_id (by omega) (by omega), zw_id (by omega) (by omega), fun w => absurd w (by omega), fun _ => ?_⟩, fun w => absurd w (by omega)⟩
    have r := ih (m + 1) (by omega)
    rw [show X 21 (zorb (X 21) a m) + 1 - 1 = zorb (X 21) a (m + 1) from by show X 21 (zorb (X 21) a m) + 1 - 1 = X 21 (zorb (X 21) a m); omega]
    exact r
theorem goes_MN {Q : List zV → zX → Prop} {G : zG} {X : zX} {a : Int} (hG : SH G) (hA : ∀ x : Int, 0 ≤ x → x < 10 → X 140 (4770 + x) = X 21 x + 1 ∧ -1 ≤ X 21 x ∧ X 21 x ≤ 9) (hr : ∀ i, 0 ≤ zorb (X 21) a i ∧ zorb (X 21) a i < 10) (q : Q [zI (-1)] (zst X 139 47 11)) :
    ∀ d m : Nat, m + d = 10 → M_endOf_W Q 7 [zR 139, zT, zI (zorb (X 21) a m)] [] G (zst X 139 47 m) := by
  intro d
  induction d with
  | zero =>
    intro m e
    have e2 : m = 10 := by omega
    subst e2
    have z := hr 10
    have y := hA _ z.1 z.2
    have z2 : 0 ≤ X 21 (zorb (X 21) a 10) := (hr 11).1
    refine M_endOf_f7 hG ⟨zw_id (by omega) (by omega), by omega, by omega, ?_⟩
    rw [show zst X 139 47 ((10 : Nat) : Int) 140 (4770 + zorb (X 21) a 10) = X 140 (4770 + zorb (X 21) a 10) from zrd_n (by omega), zrd_s, zst_t, zrd_s, y.1]
    exact ⟨fun _ => ⟨zw_id (by omega) (by omega), zw_id (by omega) (by omega), fun _ => q, fun w => absurd w (by omega)⟩, fun w => absurd w (by omega)⟩
  | succ d ih =>
    intro m e
    have z := hr m
    have y := hA _ z.1 z.2
    have z2 : 0 ≤ X 21 (zorb (X 21) a m) := (hr (m + 1)).1
    refine M_endOf_f7 hG ⟨zw_id (by omega) (by omega), by omega, by omega, ?_⟩
    rw [show zst X 139 47 m 140 (4770 + zorb (X 21) a m) = X 140 (4770 + zorb (X 21) a m) from zrd_n (by omega), zrd_s, zst_t, zrd_s, y.1]
    refine ⟨fun _ => ⟨zw_id (by omega) (by omega), zw_id (by omega) (by omega), fun w => absurd w (by omega), fun _ => ?_⟩, fun w => absurd w (by omega)⟩
    have r := ih (m + 1) (by omega)
    rw [show X 21 (zorb (X 21) a m) + 1 - 1 = zorb (X 21) a (m + 1) from by show X 21 (zorb (X 21) a m) + 1 - 1 = X 21 (zorb (X 21) a m); omega]
    exact r
