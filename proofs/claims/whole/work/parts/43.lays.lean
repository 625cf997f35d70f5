/-! ===== the reference's table of distances ===== -/
def zRv (X : zX) (s : Int) (m : Nat) (f : Nat → Nat) : Prop := 1 ≤ m ∧ m ≤ 15 ∧ (∀ p : Nat, p < m → X 154 (16 * s + p) = f p) ∧ zPo m f
def zEr (X : zX) (s : Int) (p : Nat) : Nat × Int × Int := (((p : Int) - X 154 (16 * s + p) + 1).toNat, X 152 (16 * s + p), X 153 (16 * s + p))
theorem zEr_1 {X : zX} {s : Int} {m : Nat} {f : Nat → Nat} (h : zRv X s m f) {p : Nat} (hp : p < m) : (zEr X s p).1 = p - f p + 1 := by
  have e := h.2.2.1 p hp
  have l := h.2.2.2.1 p hp
  show ((p : Int) - X 154 (16 * s + p) + 1).toNat = _
  rw [e]
  omega
theorem without_M {Q : List zV → zX → Prop} {G : zG} {X : zX} {x s : Int} {p : Nat} (hG : SH G) (ex : x = 16 * s + p) (h0 : 0 ≤ x) (h1 : x < 32) (q : Q [zI (zpr (zEr X s p) : Nat)] X) : M_without [zR 139, zI x] G X Q := by
  subst ex
  refine M_without_f0 hG ⟨h0, h1, fun c => ?_, fun c => ?_⟩
  · rw [show zpr (zEr X s p) = 1000 from if_pos c] at q
    exact q
  · rw [show zpr (zEr X s p) = 2 from if_neg (by show ¬(X 152 (16 * s + p) < 0); omega)] at q
    exact q
theorem changed_M {Q : List zV → zX → Prop} {G : zG} {X : zX} {i j : Nat} (hG : SH G) (i1 : i < 16) (j1 : j < 16) (q : Q [zI (zchq (zEr X 0 i).2 (zEr X 1 j).2 : Nat)] X) : M_changed [zR 139, zI (i : Int), zI (j : Int)] G X Q := by
  have e : zchq (zEr X 0 i).2 (zEr X 1 j).2 = zchq (X 152 i, X 153 i) (X 152 (16 + j), X 153 (16 + j)) := by
    unfold zEr
    rw [show (16 : Int) * 0 + (i : Int) = i by omega, show (16 : Int) * 1 + (j : Int) = 16 + j by omega]
  rw [e] at q
  have f21 : (X 152 i < 0 ∨ X 152 (16 + j) < 0) → M_changed_W Q 21 [zR 139, zI (i : Int), zI (j : Int)] [] G X := fun c => by
    unfold zchq at q
    simp only at q
    rw [if_pos c] at q
    refine M_changed_f21 hG ⟨by omega, by omega, zw_id (by omega) (by omega), by omega, by omega, fun d => ?_, fun d => ?_⟩
    · rw [if_pos d] at q
      exact q
    · rw [if_neg d] at q
      exact q
  refine M_changed_f0 hG ⟨by omega, by omega, fun c => f21 (Or.inl c), fun c => ⟨zw_id (by omega) (by omega), by omega, by omega, fun d => f21 (Or.inr d), fun d => ?_⟩⟩
  unfold zchq at q
  simp only at q
  rw [if_neg (by omega)] at q
  have k : ∀ v : Nat, v ≤ 3 → v = (if X 152 i = X 152 (16 + j) then 0 else 3) → M_changed_W Q 70 [zR 139, zI (i : Int), zI (j : Int)] [zI (v : Int)] G X := fun v v3 ev => by
    unfold zch at q
    simp only at q
    rw [← ev] at q
    refine M_changed_f70 hG ⟨by omega, by omega, zw_id (by omega) (by omega), by omega, by omega, fun c2 => ⟨by rw [Int.add_zero]; exact zw_id (by omega) (by omega), ?_⟩, fun c2 => ⟨zw_id (by omega) (by omega), ?_⟩⟩
    · rw [if_pos c2] at q
      exact q
    · rw [if_neg c2] at q
      exact q
  exact ⟨fun c2 => k 0 (by omega) (by rw [if_pos c2]), fun c2 => k 3 (by omega) (by rw [if_neg c2])⟩
def zQt (X : zX) (f f2 : Nat → Nat) (i j : Nat) : Nat := zq (zRl (zEr X 0) (f i) (i + 1 - f i)) (zRl (zEr X 1) (f2 j) (j + 1 - f2 j))
def zQr (X : zX) (la lb i j : Nat) : Nat := zq (zRl (zEr X 0) la (i - la)) (zRl (zEr X 1) lb (j - lb))
theorem zQr_le {X : zX} {la lb i j : Nat} (h1 : i ≤ 15) (h2 : j ≤ 15) : zQr X la lb i j ≤ 30000 := by
  have z := zq_le _ (zRl (zEr X 0) la (i - la)) (zRl (zEr X 1) lb (j - lb)) (Nat.le_refl _)
  rw [zRl_len, zRl_len] at z
  unfold zQr
  omega
theorem lays_M {Q : List zV → zX → Prop} {G : zG} {X0 : zX} {m n : Nat} {f f2 : Nat → Nat} {x y : Nat} (hG : SH G) (o1 : zRv X0 0 m f) (o2 : zRv X0 1 n f2) (x1 : x < m) (y1 : y < n) (ht : ∀ i j : Nat, f x ≤ i → i ≤ x → f2 y ≤ j → j ≤ y → ¬(f i = f x ∧ f2 j = f2 y) → X0 155 (16 * (i : Int) + j) = zQt X0 f f2 i j)
    (q : ∀ X2 : zX, (∀ c : Int, c ≠ 155 → c ≠ 156 → X2 c = X0 c) → (∀ i j : Nat, i < 16 → j < 16 → ((f x ≤ i ∧ i ≤ x ∧ f i = f x ∧ f2 y ≤ j ∧ j ≤ y ∧ f2 j = f2 y) → X2 155 (16 * (i : Int) + j) = zQt X0 f f2 i j) ∧ (¬(f x ≤ i ∧ i ≤ x ∧ f i = f x ∧ f2 y ≤ j ∧ j ≤ y ∧ f2 j = f2 y) → X2 155 (16 * (i : Int) + j) = X0 155 (16 * (i : Int) + j))) → Q [] X2) : M_lays [zR 139, zI (x : Int), zI (y : Int)] G X0 Q := by
  have he : ∀ p, p < m → (zEr X0 0 p).1 = p - f p + 1 := fun p hp => zEr_1 o1 hp
  have he2 : ∀ p, p < n → (zEr X0 1 p).1 = p - f2 p + 1 := fun p hp => zEr_1 o2 hp
  obtain ⟨m0, m15, hf, tr⟩ := o1
  obtain ⟨n0, n15, hf2, tr2⟩ := o2
  have bx := tr.1 x x1
  have by1 := tr2.1 y y1
  have gf : ∀ i : Nat, i < m → X0 154 (i : Int) = f i := fun i hi => by
    have z := hf i hi
    rw [show (16 : Int) * 0 + (i : Int) = i by omega] at z
    exact z
  have gf2 : ∀ j : Nat, j < n → X0 154 (16 + (j : Int)) = f2 j := fun j hj => by
    have z := hf2 j hj
    rw [show (16 : Int) * 1 + (j : Int) = 16 + j by omega] at z
    exact z
  have hbx : ∀ k, f x ≤ k → k ≤ x → f x ≤ f k := fun k k0 k1 => by
    by_cases c : k = x
    · rw [c]; exact Nat.le_refl _
    · exact tr.2 x k x1 (by omega) k0
  have hby : ∀ k, f2 y ≤ k → k ≤ y → f2 y ≤ f2 k := fun k k0 k1 => by
    by_cases c : k = y
    · rw [c]; exact Nat.le_refl _
    · exact tr2.2 y k y1 (by omega) k0
  have le : ∀ i j, i ≤ 15 → j ≤ 15 → zQr X0 (f x) (f2 y) i j ≤ 30000 := fun i j a b => zQr_le a b
  have er : ∀ (Y : zX) (s : Int) (p : Nat), (∀ c : Int, c ≠ 155 → c ≠ 156 → Y c = X0 c) → zEr Y s p = zEr X0 s p := fun Y s p fr => by
    unfold zEr
    rw [fr 152 (by omega) (by omega), fr 153 (by omega) (by omega), fr 154 (by omega) (by omega)]
  -- the table itself
  have main : ∀ (d i : Nat) (X : zX), i + d = x + 1 → f x ≤ i → (∀ c : Int, c ≠ 155 → c ≠ 156 → X c = X0 c) → (∀ i2 j : Nat, f x ≤ i2 → i2 ≤ i → f2 y ≤ j → j ≤ y + 1 → X 156 (17 * (i2 : Int) + j) = zQr X0 (f x) (f2 y) i2 j) → (∀ i2 : Nat, f x ≤ i2 → i2 ≤ x + 1 → X 156 (17 * (i2 : Int) + f2 y) = zQr X0 (f x) (f2 y) i2 (f2 y)) → (∀ i2 j : Nat, i2 < 16 → j < 16 → ((i2 < i ∧ f x ≤ i2 ∧ i2 ≤ x ∧ f i2 = f x ∧ f2 y ≤ j ∧ j ≤ y ∧ f2 j = f2 y) → X 155 (16 * (i2 : Int) + j) = zQt X0 f f2 i2 j) ∧ (¬(i2 < i ∧ f x ≤ i2 ∧ i2 ≤ x ∧ f i2 = f x ∧ f2 y ≤ j ∧ j ≤ y ∧ f2 j = f2 y) → X 155 (16 * (i2 : Int) + j) = X0 155 (16 * (i2 : Int) + j))) → M_lays_W Q 136 [zR 139, zI (x : Int), zI (y : Int), zI (f x : Int), zI (f2 y : Int), zI (i : Int), zT, zT, zT] [] G X := by
    intro d
    induction d with
    | zero =>
      intro i X e fi fr rw1 rw2 t1
      refine M_lays_f136 hG ⟨fun _ => q X fr (fun i2 j i0 j0 => ⟨fun z => (t1 i2 j i0 j0).1 ⟨by omega, z⟩, fun z => (t1 i2 j i0 j0).2 (fun y => z y.2)⟩), fun z => absurd z (by omega)⟩
    | succ d ih =>
      intro i X e fi fr rw1 rw2 t1
      refine M_lays_f136 hG ⟨fun z => absurd z (by omega), fun _ => ?_⟩
      have row : ∀ (d2 j : Nat) (Y : zX), j + d2 = y + 1 → f2 y ≤ j → (∀ c : Int, c ≠ 155 → c ≠ 156 → Y c = X0 c) → (∀ i2 j2 : Nat, f x ≤ i2 → i2 ≤ i → f2 y ≤ j2 → j2 ≤ y + 1 → Y 156 (17 * (i2 : Int) + j2) = zQr X0 (f x) (f2 y) i2 j2) → (∀ i2 : Nat, f x ≤ i2 → i2 ≤ x + 1 → Y 156 (17 * (i2 : Int) + f2 y) = zQr X0 (f x) (f2 y) i2 (f2 y)) → (∀ j2 : Nat, f2 y ≤ j2 → j2 ≤ j → Y 156 (17 * ((i : Int) + 1) + j2) = zQr X0 (f x) (f2 y) (i + 1) j2) → (∀ i2 j2 : Nat, i2 < 16 → j2 < 16 → (((i2 < i ∨ (i2 = i ∧ j2 < j)) ∧ f x ≤ i2 ∧ i2 ≤ x ∧ f i2 = f x ∧ f2 y ≤ j2 ∧ j2 ≤ y ∧ f2 j2 = f2 y) → Y 155 (16 * (i2 : Int) + j2) = zQt X0 f f2 i2 j2) ∧ (¬((i2 < i ∨ (i2 = i ∧ j2 < j)) ∧ f x ≤ i2 ∧ i2 ≤ x ∧ f i2 = f x ∧ f2 y ≤ j2 ∧ j2 ≤ y ∧ f2 j2 = f2 y) → Y 155 (16 * (i2 : Int) + j2) = X0 155 (16 * (i2 : Int) + j2))) → M_lays_W Q 146 [zR 139, zI (x : Int), zI (y : Int), zI (f x : Int), zI (f2 y : Int), zI (i : Int), zI (j : Int), zT, zT] [] G Y := by
        intro d2
        induction d2 with
        | zero =>
          intro j Y e2 fj f1 r2 r3 r4 r5
          refine M_lays_f146 hG ⟨fun _ => ⟨zw_id (by omega) (by omega), ?_⟩, fun z => absurd z (by omega)⟩
          refine ih (i + 1) Y (by omega) (by omega) f1 (fun i2 j2 i0 i3 j0 j3 => ?_) r3 (fun i2 j2 i0 j0 => ⟨fun z => (r5 i2 j2 i0 j0).1 ⟨by omega, z.2⟩, fun z => (r5 i2 j2 i0 j0).2 (fun w => z ⟨by omega, w.2⟩)⟩)
          by_cases c : i2 = i + 1
          · rw [c]
            exact r4 j2 j0 (by omega)
          · exact r2 i2 j2 i0 (by omega) j0 j3
        | succ d2 ih2 =>
          intro j Y e2 fj f1 r2 r3 r4 r5
          have st := zq_step (i := i) (j := j) tr tr2 he he2 (by omega) (by omega) (hbx i fi (by omega)) (hby j fj (by omega))
          have v1 := r2 i (j + 1) fi (Nat.le_refl _) (by omega) (by omega)
          have v2 := r4 j fj (Nat.le_refl _)
          have v3 := r2 i j fi (Nat.le_refl _) fj (by omega)
          rw [show 17 * (i : Int) + ((j + 1 : Nat) : Int) = 17 * (i : Int) + j + 1 by omega] at v1
          have l1 := le i (j + 1) (by omega) (by omega)
          have l2 := le (i + 1) j (by omega) (by omega)
          have l3 := le i j (by omega) (by omega)
          have l0 := le (i + 1) (j + 1) (by omega) (by omega)
          have pi := zpr_le (zEr X0 0 i)
          have pj := zpr_le (zEr X0 1 j)
          have g1 : Y 154 (i : Int) = f i := by rw [f1 154 (by omega) (by omega)]; exact gf i (by omega)
          have g2 : Y 154 (16 + (j : Int)) = f2 j := by rw [f1 154 (by omega) (by omega)]; exact gf2 j (by omega)
          have bi := hbx i fi (by omega)
          have bj := hby j fj (by omega)
          have bi0 := tr.1 i (by omega)
          have bj0 := tr2.1 j (by omega)
          refine M_lays_f146 hG ⟨fun z => absurd z (by omega), fun _ => ⟨zw_id (by omega) (by omega), zw_id (by omega) (by omega), zw_id (by omega) (by omega), by omega, by omega, without_M (s := 0) (p := i) hG (by omega) (by omega) (by omega) ⟨_, rfl, ?_⟩⟩⟩
          rw [er Y 0 i f1, v1]
          refine ⟨zw_id (by omega) (by omega), by rw [zw_id (x := (i : Int) + 1) (by omega) (by omega)]; exact zw_id (by omega) (by omega), zw_id (by omega) (by omega), by omega, by omega, zw_id (by omega) (by omega), without_M (s := 1) (p := j) hG (by omega) (by omega) (by omega) ⟨_, rfl, ?_⟩⟩
          rw [er Y 1 j f1, v2]
          refine ⟨zw_id (by omega) (by omega), ?_⟩
          -- behind the smaller of the two
          have two : ∀ v7 : Int, v7 = min ((zQr X0 (f x) (f2 y) i (j + 1) : Int) + zpr (zEr X0 0 i)) ((zQr X0 (f x) (f2 y) (i + 1) j : Int) + zpr (zEr X0 1 j)) → ∃ r12, [zI v7] = [zI r12] ∧ (0 : Int) ≤ (i : Int) ∧ (i : Int) < 32 ∧ ((Y 154 (i : Int) = (f x : Int) → (0 : Int) ≤ 16 + (j : Int) ∧ 16 + (j : Int) < 32 ∧ ((Y 154 (16 + (j : Int)) = (f2 y : Int) → M_lays_W Q 235 [zR 139, zI (x : Int), zI (y : Int), zI (f x : Int), zI (f2 y : Int), zI (i : Int), zI (j : Int), zI r12, zT] [zI 1] G Y) ∧ (Y 154 (16 + (j : Int)) ≠ (f2 y : Int) → M_lays_W Q 234 [zR 139, zI (x : Int), zI (y : Int), zI (f x : Int), zI (f2 y : Int), zI (i : Int), zI (j : Int), zI r12, zT] [] G Y))) ∧ (Y 154 (i : Int) ≠ (f x : Int) → M_lays_W Q 234 [zR 139, zI (x : Int), zI (y : Int), zI (f x : Int), zI (f2 y : Int), zI (i : Int), zI (j : Int), zI r12, zT] [] G Y)) := fun v7 ev => by
            -- the last of three
            have fin : ∀ (wh : Int) (c3 : Int), (wh ≠ 0 ↔ f i = f x ∧ f2 j = f2 y) → 0 ≤ c3 → c3 ≤ 100000 → min v7 c3 = zQr X0 (f x) (f2 y) (i + 1) (j + 1) → M_lays_W Q 309 [zR 139, zI (x : Int), zI (y : Int), zI (f x : Int), zI (f2 y : Int), zI (i : Int), zI (j : Int), zT, zI wh] [zI c3, zI v7] G Y := fun wh c3 hwh c0 c1 em => by
              have go : ∀ r : Int, r = zQr X0 (f x) (f2 y) (i + 1) (j + 1) → ∃ r4, [zI r] = [zI r4] ∧ zw (17 * (zw ((i : Int) + 1))) = (17 * ((i : Int) + 1)) ∧ zw ((17 * ((i : Int) + 1)) + j) = ((17 * ((i : Int) + 1)) + j) ∧ zw (((17 * ((i : Int) + 1)) + j) + 1) = (((17 * ((i : Int) + 1)) + j) + 1) ∧ (0 : Int) ≤ (((17 * ((i : Int) + 1)) + j) + 1) ∧ (((17 * ((i : Int) + 1)) + j) + 1) < 289 ∧ ((wh = 0 → zw ((j : Int) + 1) = (j : Int) + 1 ∧ M_lays_W Q 146 [zR 139, zI (x : Int), zI (y : Int), zI (f x : Int), zI (f2 y : Int), zI (i : Int), zI ((j : Int) + 1), zT, zT] [] G (zst Y 156 (((17 * ((i : Int) + 1)) + j) + 1) r4)) ∧ (wh ≠ 0 → zw (16 * (i : Int)) = (16 * (i : Int)) ∧ zw ((16 * (i : Int)) + j) = ((16 * (i : Int)) + j) ∧ (0 : Int) ≤ ((16 * (i : Int)) + j) ∧ ((16 * (i : Int)) + j) < 256 ∧ zw ((j : Int) + 1) = (j : Int) + 1 ∧ M_lays_W Q 146 [zR 139, zI (x : Int), zI (y : Int), zI (f x : Int), zI (f2 y : Int), zI (i : Int), zI ((j : Int) + 1), zT, zT] [] G (zst (zst Y 156 (((17 * ((i : Int) + 1)) + j) + 1) r4) 155 ((16 * (i : Int)) + j) r4))) := fun r erq => by
                have nx : ∀ Z : zX, (∀ c : Int, c ≠ 155 → Z c = zst Y 156 (((17 * ((i : Int) + 1)) + j) + 1) r c) → (∀ i2 j2 : Nat, i2 < 16 → j2 < 16 → (i2 = i ∧ j2 = j ∧ f i = f x ∧ f2 j = f2 y → Z 155 (16 * (i2 : Int) + j2) = zQt X0 f f2 i2 j2) ∧ (¬(i2 = i ∧ j2 = j ∧ f i = f x ∧ f2 j = f2 y) → Z 155 (16 * (i2 : Int) + j2) = Y 155 (16 * (i2 : Int) + j2))) → M_lays_W Q 146 [zR 139, zI (x : Int), zI (y : Int), zI (f x : Int), zI (f2 y : Int), zI (i : Int), zI ((j : Int) + 1), zT, zT] [] G Z := fun Z z1 z2 => by
                  have z156 := z1 156 (by omega)
                  have res := ih2 (j + 1) Z (by omega) (by omega) (fun c c1 c2 => by rw [z1 c c1, zrd_r c2]; exact f1 c c1 c2) (fun i2 j2 i0 i3 j0 j3 => by rw [z156, zrd_n (by omega)]; exact r2 i2 j2 i0 i3 j0 j3) (fun i2 i0 i3 => by rw [z156, zrd_n (by omega)]; exact r3 i2 i0 i3) (fun j2 j0 j3 => by
                    rw [z156]
                    by_cases c : j2 = j + 1
                    · rw [c, zrd_q (by omega)]
                      exact erq
                    · rw [zrd_n (by omega)]
                      exact r4 j2 j0 (by omega)) (fun i2 j2 i0 j0 => by
                    have zz := z2 i2 j2 i0 j0
                    have ff := r5 i2 j2 i0 j0
                    by_cases c : i2 = i ∧ j2 = j ∧ f i = f x ∧ f2 j = f2 y
                    · refine ⟨fun _ => zz.1 c, fun w => absurd ?_ w⟩
                      obtain ⟨rfl, rfl, c3, c4⟩ := c
                      exact ⟨Or.inr ⟨rfl, by omega⟩, fi, by omega, c3, fj, by omega, c4⟩
                    · rw [zz.2 c]
                      refine ⟨fun w => ff.1 ⟨?_, w.2⟩, fun w => ff.2 (fun u => w ⟨by omega, u.2⟩)⟩
                      rcases w.1 with w1 | w1
                      · exact Or.inl w1
                      · by_cases cj : j2 = j
                        · obtain ⟨w3, w4⟩ := w1
                          have w2 := w.2
                          subst w3 cj
                          exact absurd ⟨rfl, rfl, w2.2.2.1, w2.2.2.2.2.2⟩ c
                        · exact Or.inr ⟨w1.1, by omega⟩)
                  exact res
                refine ⟨r, rfl, by rw [zw_id (x := (i : Int) + 1) (by omega) (by omega)]; exact zw_id (by omega) (by omega), zw_id (by omega) (by omega), zw_id (by omega) (by omega), by omega, by omega, fun w0 => ⟨zw_id (by omega) (by omega), nx _ (fun _ _ => rfl) (fun i2 j2 _ _ => ⟨fun w => absurd w0 (hwh.2 ⟨w.2.2.1, w.2.2.2⟩), fun _ => zrd_n (by omega)⟩)⟩, fun w1 => ⟨zw_id (by omega) (by omega), zw_id (by omega) (by omega), by omega, by omega, zw_id (by omega) (by omega), nx _ (fun c c1 => zrd_r c1) (fun i2 j2 i0 j0 => ⟨fun w => ?_, fun w => ?_⟩)⟩⟩
                · obtain ⟨rfl, rfl, w3, w4⟩ := w
                  rw [zrd_s, erq]
                  unfold zQt zQr
                  rw [w3, w4]
                · have hw2 := hwh.1 w1
                  rw [zrd_n (by omega), zrd_n (by omega)]
              exact M_lays_f309 hG (M_lesser_f0 hG ⟨fun lt => go _ (by omega), fun ge => go _ (by omega)⟩)
            have yes : f i = f x ∧ f2 j = f2 y → M_lays_W Q 235 [zR 139, zI (x : Int), zI (y : Int), zI (f x : Int), zI (f2 y : Int), zI (i : Int), zI (j : Int), zI v7, zT] [zI 1] G Y := fun c => by
              have s1 := st.1 c
              have cl := zchq_le (zEr X0 0 i).2 (zEr X0 1 j).2
              refine M_lays_f235 hG ⟨fun z => absurd z (by omega), fun _ => ⟨zw_id (by omega) (by omega), zw_id (by omega) (by omega), by omega, by omega, changed_M hG (by omega) (by omega) ⟨_, rfl, ?_⟩⟩⟩
              rw [er Y 0 i f1, er Y 1 j f1, v3]
              refine ⟨zw_id (by omega) (by omega), fin 1 _ ⟨fun _ => c, fun _ => by omega⟩ (by omega) (by omega) ?_⟩
              unfold zQr at ev ⊢
              omega
            have non : ¬(f i = f x ∧ f2 j = f2 y) → M_lays_W Q 234 [zR 139, zI (x : Int), zI (y : Int), zI (f x : Int), zI (f2 y : Int), zI (i : Int), zI (j : Int), zI v7, zT] [] G Y := fun ne => by
              have tv : Y 155 (16 * (i : Int) + j) = zQt X0 f f2 i j := by
                rw [(r5 i j (by omega) (by omega)).2 (fun w => ne ⟨w.2.2.2.1, w.2.2.2.2.2.2⟩)]
                exact ht i j fi (by omega) fj (by omega) ne
              have rv := r2 (f i) (f2 j) bi (by omega) bj (by omega)
              have lr := le (f i) (f2 j) (by omega) (by omega)
              have lt2 : zQt X0 f f2 i j ≤ 32000 := by
                have z := zq_le _ (zRl (zEr X0 0) (f i) (i + 1 - f i)) (zRl (zEr X0 1) (f2 j) (j + 1 - f2 j)) (Nat.le_refl _)
                rw [zRl_len, zRl_len] at z
                unfold zQt
                omega
              refine M_lays_f234 hG (M_lays_f235 hG ⟨fun _ => ?_, fun z => absurd rfl z⟩)
              rw [g1, g2, tv, rv]
              refine ⟨by omega, by omega, zw_id (by omega) (by omega), zw_id (by omega) (by omega), by omega, by omega, zw_id (by omega) (by omega), by omega, by omega, zw_id (by omega) (by omega), zw_id (by omega) (by omega), by omega, by omega, zw_id (by omega) (by omega), fin 0 _ ⟨fun z => absurd rfl z, fun z => absurd z ne⟩ (by omega) (by omega) ?_⟩
              have s2 := st.2
              unfold zQr zQt at *
              omega
            refine ⟨v7, rfl, by omega, by omega, ?_, ?_⟩
            · rw [g1]
              intro c1
              refine ⟨by omega, by omega, ?_, ?_⟩
              · rw [g2]
                exact fun c2 => yes ⟨by omega, by omega⟩
              · rw [g2]
                exact fun c2 => non (fun z => c2 (by omega))
            · rw [g1]
              exact fun c1 => non (fun z => c1 (by omega))
          exact M_lesser_f0 hG ⟨fun lt => two _ (by omega), fun ge => two _ (by omega)⟩
      refine row (y + 1 - f2 y) (f2 y) X (by omega) (Nat.le_refl _) fr rw1 rw2 (fun j2 j0 j1 => ?_) (fun i2 j2 i0 j0 => ⟨fun z => (t1 i2 j2 i0 j0).1 ⟨by omega, z.2⟩, fun z => (t1 i2 j2 i0 j0).2 (fun w => z ⟨Or.inl w.1, w.2⟩)⟩)
      rw [show j2 = f2 y by omega]
      have z := rw2 (i + 1) (by omega) (by omega)
      rw [show ((i + 1 : Nat) : Int) = (i : Int) + 1 by omega] at z
      exact z
  -- the borders
  have zc0 : ∀ i, f x ≤ i → zQr X0 (f x) (f2 y) (i + 1) (f2 y) = zQr X0 (f x) (f2 y) i (f2 y) + zpr (zEr X0 0 i) := fun i hi => by
    unfold zQr
    rw [Nat.sub_self, show i + 1 - f x = (i - f x) + 1 by omega]
    show zq (zEr X0 0 (f x + (i - f x)) :: zRl (zEr X0 0) (f x) (i - f x)) [] = _
    rw [zq_c0, show f x + (i - f x) = i by omega, Nat.add_comm]
    rfl
  have z0c : ∀ j, f2 y ≤ j → zQr X0 (f x) (f2 y) (f x) (j + 1) = zQr X0 (f x) (f2 y) (f x) j + zpr (zEr X0 1 j) := fun j hj => by
    unfold zQr
    rw [Nat.sub_self, show j + 1 - f2 y = (j - f2 y) + 1 by omega]
    show zq [] (zEr X0 1 (f2 y + (j - f2 y)) :: zRl (zEr X0 1) (f2 y) (j - f2 y)) = _
    rw [zq_0c, show f2 y + (j - f2 y) = j by omega, Nat.add_comm]
    rfl
  have z00 : zQr X0 (f x) (f2 y) (f x) (f2 y) = 0 := by
    unfold zQr
    rw [Nat.sub_self, Nat.sub_self]
    rfl
  have lb2 : ∀ (d j : Nat) (X : zX), j + d = y + 1 → f2 y ≤ j → (∀ c : Int, c ≠ 156 → X c = X0 c) → (∀ i : Nat, f x ≤ i → i ≤ x + 1 → X 156 (17 * (i : Int) + f2 y) = zQr X0 (f x) (f2 y) i (f2 y)) → (∀ j2 : Nat, f2 y ≤ j2 → j2 ≤ j → X 156 (17 * (f x : Int) + j2) = zQr X0 (f x) (f2 y) (f x) j2) → M_lays_W Q 85 [zR 139, zI (x : Int), zI (y : Int), zI (f x : Int), zI (f2 y : Int), zI (j : Int), zT, zT, zT] [] G X := by
    intro d
    induction d with
    | zero =>
      intro j X e fj f1 r1 r2
      refine M_lays_f85 hG ⟨fun _ => main (x + 1 - f x) (f x) X (by omega) (Nat.le_refl _) (fun c _ c2 => f1 c c2) (fun i2 j2 i0 i3 j0 j3 => by rw [show i2 = f x by omega]; exact r2 j2 j0 (by omega)) r1 (fun i2 j2 _ _ => ⟨fun z => absurd z (by omega), fun _ => by rw [f1 155 (by omega)]⟩), fun z => absurd z (by omega)⟩
    | succ d ih =>
      intro j X e fj f1 r1 r2
      have v := r2 j fj (Nat.le_refl _)
      have l1 := le (f x) j (by omega) (by omega)
      have zz := z0c j fj
      have pj := zpr_le (zEr X0 1 j)
      refine M_lays_f85 hG ⟨fun z => absurd z (by omega), fun _ => ⟨zw_id (by omega) (by omega), zw_id (by omega) (by omega), zw_id (by omega) (by omega), by omega, by omega, zw_id (by omega) (by omega), without_M (s := 1) (p := j) hG (by omega) (by omega) (by omega) ⟨_, rfl, ?_⟩⟩⟩
      rw [er X 1 j (fun c _ c2 => f1 c c2), v]
      refine ⟨zw_id (by omega) (by omega), by omega, by omega, zw_id (by omega) (by omega), ?_⟩
      refine ih (j + 1) _ (by omega) (by omega) (fun c c2 => by rw [zrd_r c2]; exact f1 c c2) (fun i i0 i1 => ?_) (fun j2 j0 j1 => ?_)
      · by_cases c : (17 * (i : Int) + f2 y) = 17 * (f x : Int) + j + 1
        · omega
        · rw [zrd_n (by omega)]
          exact r1 i i0 i1
      · by_cases c : j2 = j + 1
        · rw [c, zrd_q (by omega)]
          omega
        · rw [zrd_n (by omega)]
          exact r2 j2 j0 (by omega)
  have lb1 : ∀ (d i : Nat) (X : zX), i + d = x + 1 → f x ≤ i → (∀ c : Int, c ≠ 156 → X c = X0 c) → (∀ i2 : Nat, f x ≤ i2 → i2 ≤ i → X 156 (17 * (i2 : Int) + f2 y) = zQr X0 (f x) (f2 y) i2 (f2 y)) → M_lays_W Q 34 [zR 139, zI (x : Int), zI (y : Int), zI (f x : Int), zI (f2 y : Int), zI (i : Int), zT, zT, zT] [] G X := by
    intro d
    induction d with
    | zero =>
      intro i X e fi f1 r1
      exact M_lays_f34 hG ⟨fun _ => lb2 (y + 1 - f2 y) (f2 y) X (by omega) (Nat.le_refl _) f1 (fun i2 i0 i1 => r1 i2 i0 (by omega)) (fun j2 j0 j1 => by rw [show j2 = f2 y by omega]; exact r1 (f x) (Nat.le_refl _) (by omega)), fun z => absurd z (by omega)⟩
    | succ d ih =>
      intro i X e fi f1 r1
      have v := r1 i fi (Nat.le_refl _)
      have l1 := le i (f2 y) (by omega) (by omega)
      have zz := zc0 i fi
      have pi := zpr_le (zEr X0 0 i)
      refine M_lays_f34 hG ⟨fun z => absurd z (by omega), fun _ => ⟨by rw [zw_id (x := (i : Int) + 1) (by omega) (by omega)]; exact zw_id (by omega) (by omega), zw_id (by omega) (by omega), zw_id (by omega) (by omega), zw_id (by omega) (by omega), by omega, by omega, without_M (s := 0) (p := i) hG (by omega) (by omega) (by omega) ⟨_, rfl, ?_⟩⟩⟩
      rw [er X 0 i (fun c _ c2 => f1 c c2), v]
      refine ⟨zw_id (by omega) (by omega), by omega, by omega, zw_id (by omega) (by omega), ?_⟩
      refine ih (i + 1) _ (by omega) (by omega) (fun c c2 => by rw [zrd_r c2]; exact f1 c c2) (fun i2 i0 i1 => ?_)
      · by_cases c : i2 = i + 1
        · rw [c, zrd_q (by omega)]
          omega
        · rw [zrd_n (by omega)]
          exact r1 i2 i0 (by omega)
  refine M_lays_f0 hG ?_
  rw [gf x x1, gf2 y y1]
  refine ⟨by omega, by omega, zw_id (by omega) (by omega), by omega, by omega, zw_id (by omega) (by omega), zw_id (by omega) (by omega), by omega, by omega, ?_⟩
  refine lb1 (x + 1 - f x) (f x) _ (by omega) (Nat.le_refl _) (fun c c2 => zrd_r c2) (fun i2 i0 i1 => ?_)
  rw [show i2 = f x by omega, zrd_s, z00]
  rfl
