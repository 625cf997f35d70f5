/-! ===== again ===== -/
theorem zNv_y {G G2 : zG} {X X2 : zX} {r b b2 : Int} (hs : zsz G ≤ zsz G2) (hk : ∀ c : Int, c < (zsz G : Int) → zkd G2 c = zkd G c ∧ zln G2 c = zln G c) (hr : ∀ c : Int, 166 ≤ c → c < (zsz G : Int) → zkd G c = 13 → zrx G2 c 0 = zrx G c 0) (hx : ∀ c : Int, 166 ≤ c → c < (zsz G : Int) → zkd G c = 13 ∨ zkd G c = 53 → X2 c = X c) (hb : ∀ i : Int, 0 ≤ i → i < 13 → X2 140 (b2 + i) = X 140 (b + i)) (h : zNv G X r b) : zNv G2 X2 r b2 := by
  unfold zNv at h ⊢
  obtain ⟨h1, h2, h3, h4, h5, h6, h7, h8, h9, h10, h11⟩ := h
  have b0 : X2 140 b2 = X 140 b := by
    have z := hb 0 (by omega) (by omega)
    rw [show b2 + 0 = b2 by omega, show b + 0 = b by omega] at z
    exact z
  rw [hr r h1 h2 h5, b0, hx r h1 h2 (Or.inl h5), hx (zrx G r 0) h3 h4 (Or.inr h7), (hk r h2).1, (hk (zrx G r 0) h4).1, (hk (zrx G r 0) h4).2]
  refine ⟨h1, by omega, h3, by omega, h5, h6, h7, h8, h9, h10, fun i i0 i1 => ?_⟩
  have z := hb (1 + i) (by omega) (by omega)
  rw [show b2 + (1 + i) = b2 + 1 + i by omega, show b + (1 + i) = b + 1 + i by omega] at z
  rw [z]
  exact h11 i i0 i1
theorem zNas_y {G G2 : zG} {X X2 : zX} {r b b2 : Int} (hs : zsz G ≤ zsz G2) (hk : ∀ c : Int, c < (zsz G : Int) → zkd G2 c = zkd G c ∧ zln G2 c = zln G c) (hr : ∀ c : Int, 166 ≤ c → c < (zsz G : Int) → zkd G c = 13 → zrx G2 c 0 = zrx G c 0) (hx : ∀ c : Int, 166 ≤ c → c < (zsz G : Int) → zkd G c = 13 ∨ zkd G c = 53 → X2 c = X c) (hb : ∀ i : Int, 0 ≤ i → i < 13 → X2 140 (b2 + i) = X 140 (b + i)) (h : zNas G X r b) : zNas G2 X2 r b2 := by
  rcases h with ⟨h1, h2⟩ | h
  · refine Or.inl ⟨h1, ?_⟩
    have z := hb 0 (by omega) (by omega)
    rw [show b2 + 0 = b2 by omega, show b + 0 = b by omega] at z
    rw [z]
    exact h2
  · exact Or.inr (zNv_y hs hk hr hx hb h)
/-- one image, or what is told now: kept when its own cells, the names and its row are -/
theorem zNm2_y {G G2 : zG} {X X2 : zX} {t B t2 B2 : Int} (hs : zsz G ≤ zsz G2) (hk : ∀ c : Int, c < (zsz G : Int) → zkd G2 c = zkd G c ∧ zln G2 c = zln G c) (hr : ∀ c : Int, 166 ≤ c → c < (zsz G : Int) → zkd G c = 13 → zrx G2 c 0 = zrx G c 0) (hx : ∀ c : Int, 166 ≤ c → c < (zsz G : Int) → zkd G c = 13 ∨ zkd G c = 53 → X2 c = X c) (hA : ∀ i : Int, 0 ≤ i → i < 5520 → X2 140 (B2 + i) = X 140 (B + i)) (n1 : X2 t2 11 = X t 11) (n5 : X t 11 ≤ 5) (r1 : ∀ p : Int, 0 ≤ p → p < 5 → zrx G2 (t2 + 22 + 6 * p) 1 = zrx G (t + 22 + 6 * p) 1) (r3 : ∀ p : Int, 0 ≤ p → p < 10 → zrx G2 (t2 + 52 + 5 * p) 3 = zrx G (t + 52 + 5 * p) 3) (h : zNm2 G X t B) : zNm2 G2 X2 t2 B2 := by
  refine ⟨fun p p0 p1 => ?_, fun p p0 p1 => ?_⟩
  · rw [r3 p p0 p1]
    refine zNas_y hs hk hr hx (fun i i0 i1 => ?_) (h.1 p p0 p1)
    rw [show B2 + 2670 + 210 * p + i = B2 + (2670 + 210 * p + i) by omega, show B + 2670 + 210 * p + i = B + (2670 + 210 * p + i) by omega]
    exact hA _ (by omega) (by omega)
  · rw [n1] at p1
    rw [r1 p p0 (by omega)]
    refine zNv_y hs hk hr hx (fun i i0 i1 => ?_) (h.2 p p0 p1)
    rw [show B2 + 1870 + 160 * p + i = B2 + (1870 + 160 * p + i) by omega, show B + 1870 + 160 * p + i = B + (1870 + 160 * p + i) by omega]
    exact hA _ (by omega) (by omega)
theorem zFrs_y {G G2 : zG} {X X2 : zX} {t t2 : Int} (n1 : X2 t2 11 = X t 11) (n2 : X2 t2 12 = X t 12) (c1 : 0 ≤ X t 12) (c2 : 0 ≤ X t 11) (r1 : ∀ p : Int, 0 ≤ p → p < 5 → zrx G2 (t2 + 22 + 6 * p) 1 = zrx G (t + 22 + 6 * p) 1) (r3 : ∀ p : Int, 0 ≤ p → p < 10 → zrx G2 (t2 + 52 + 5 * p) 3 = zrx G (t + 52 + 5 * p) 3) (x1 : ∀ p k : Int, 0 ≤ p → p < 5 → 2 ≤ k → k ≤ 3 → X2 (t2 + 22 + 6 * p) k = X (t + 22 + 6 * p) k) (x2 : ∀ p k : Int, 0 ≤ p → p < 10 → 4 ≤ k → k ≤ 8 → X2 (t2 + 52 + 5 * p) k = X (t + 52 + 5 * p) k) (h : zFrs G X t) : zFrs G2 X2 t2 := by
  refine ⟨fun p k p0 p1 k0 k1 => ?_, fun p k p0 p1 k0 k1 => ?_⟩
  · rw [n2] at p0
    rw [r3 p (by omega) p1, x2 p k (by omega) p1 k0 k1]
    exact h.1 p k p0 p1 k0 k1
  · rw [n1] at p0
    rw [r1 p (by omega) p1, x1 p k (by omega) p1 k0 k1]
    exact h.2 p k p0 p1 k0 k1
def zIm (G : zG) (X : zX) (t B : Int) : Prop := zTs G t ∧ zRT X t B ∧ zNm2 G X t B ∧ zFrs G X t
theorem zIm_y {G G2 : zG} {X X2 : zX} {t B : Int} (hs : zsz G ≤ zsz G2) (hk : ∀ c : Int, c < (zsz G : Int) → zkd G2 c = zkd G c ∧ zln G2 c = zln G c) (hr : ∀ c : Int, 166 ≤ c → c < (zsz G : Int) → zkd G c = 13 → zrx G2 c 0 = zrx G c 0) (hx : ∀ c : Int, 166 ≤ c → c < (zsz G : Int) → zkd G c = 13 ∨ zkd G c = 53 → X2 c = X c) (hA : ∀ i : Int, 0 ≤ i → i < 5520 → X2 140 (B + i) = X 140 (B + i)) (rt : ∀ c j : Int, t ≤ c → c < t + 102 → zrx G2 c j = zrx G c j) (xt : ∀ c : Int, t ≤ c → c < t + 102 → X2 c = X c) (h : zIm G X t B) : zIm G2 X2 t B := by
  obtain ⟨h1, h2, h3, h4⟩ := h
  have n := zRT_in h2
  have t1 := h1.1
  have t2 := h1.2.1
  have et : X2 t = X t := xt t (by omega) (by omega)
  refine ⟨⟨t1, by omega, fun i i0 i1 => ?_⟩, zRT_congr (fun a a0 a1 => xt a a0 a1) (fun i i0 i1 => ?_) h2, zNm2_y hs hk hr hx hA (by rw [et]) n.2.2.2 (fun p p0 p1 => rt _ _ (by omega) (by omega)) (fun p p0 p1 => rt _ _ (by omega) (by omega)) h3, zFrs_y (by rw [et]) (by rw [et]) n.1 n.2.2.1 (fun p p0 p1 => rt _ _ (by omega) (by omega)) (fun p p0 p1 => rt _ _ (by omega) (by omega)) (fun p k p0 p1 _ _ => by rw [xt _ (by omega) (by omega)]) (fun p k p0 p1 _ _ => by rw [xt _ (by omega) (by omega)]) h4⟩
  · have z := h1.2.2 i i0 i1
    rw [(hk (t + i) (by omega)).1, (hk (t + i) (by omega)).2]
    refine ⟨z.1, z.2.1, fun j j0 hd => ?_⟩
    rw [rt _ _ (by omega) (by omega)]
    exact z.2.2 j j0 hd
  · have z := hA (i - B) (by omega) (by omega)
    rw [show B + (i - B) = i by omega] at z
    exact z
/-- no cell of what is told is a text, and its bytes are only the builder's -/
theorem zk0_n {b : Int} (b0 : 1 ≤ b) (b1 : b < 103) : zk0 b ≠ 13 ∧ (zk0 b = 53 → b = 6) ∧ (zk0 b = 1 → b = 1) := by
  have key : ∀ n : Fin 103, 1 ≤ n.val → zk0 (n.val : Int) ≠ 13 ∧ (zk0 (n.val : Int) = 53 → (n.val : Int) = 6) ∧ (zk0 (n.val : Int) = 1 → (n.val : Int) = 1) := by decide +kernel
  have := key ⟨b.toNat, by omega⟩ (by show 1 ≤ b.toNat; omega)
  simp only [Int.toNat_of_nonneg (by omega : 0 ≤ b)] at this
  exact this
/-- two bases are the same, or apart -/
theorem zTs_d {G : zG} {t u : Int} (h : zTs G t) (g : zTs G u) (ne : t ≠ u) : t + 102 ≤ u ∨ u + 102 ≤ t := by
  have key : ∀ a c : Int, zTs G a → zTs G c → a < c → c < a + 102 → False := fun a c ha hc l1 l2 => by
    have z := (zBw_t ha (c - a + 1) (by omega) (by omega)).1
    have y := (zBw_t hc 1 (by omega) (by omega)).1
    rw [show c - a + 1 + (a - 1) = c by omega] at z
    rw [show 1 + (c - 1) = c by omega] at y
    have x : zk0 (c - a + 1) = 1 := by rw [← z, y]; decide +kernel
    have w := (zk0_n (b := c - a + 1) (by omega) (by omega)).2.2 x
    omega
  by_cases c1 : t + 102 ≤ u
  · exact Or.inl c1
  · by_cases c2 : u + 102 ≤ t
    · exact Or.inr c2
    · rcases (by omega : t < u ∨ u < t) with l | l
      · exact absurd (key t u h g l (by omega)) (fun z => z)
      · exact absurd (key u t g h l (by omega)) (fun z => z)
/-- the copying keeps the names -/
theorem zCfr_n {G G2 : zG} {X Y : zX} {d : Int} (hb : zBw G d) (h : zCfr G G2 X Y d) : (∀ c : Int, zkd G c = 13 → zrx G2 c 0 = zrx G c 0) ∧ (∀ c : Int, zkd G c = 13 ∨ zkd G c = 53 → Y c = X c) := by
  refine ⟨fun c hc => ?_, fun c hc => ?_⟩
  · by_cases r : 1 + d ≤ c ∧ c < 103 + d
    · have z := (hb (c - d) (by omega) (by omega)).1
      rw [show c - d + d = c by omega, hc] at z
      exact absurd z.symm (zk0_n (by omega) (by omega)).1
    · exact h.2.1 c 0 (by omega)
  · by_cases r : 1 + d ≤ c ∧ c < 103 + d
    · have z := (hb (c - d) (by omega) (by omega)).1
      rw [show c - d + d = c by omega] at z
      have y := zk0_n (b := c - d) (by omega) (by omega)
      rcases hc with hc | hc
      · exact absurd (z.symm.trans hc) y.1
      · have w := y.2.1 (z.symm.trans hc)
        exact h.2.2.2 c (by omega)
    · exact h.2.2.2 c (by omega)
theorem againC_M {Q : List zV → zX → Prop} {G : zG} {Z : zX} {k : Int} (hG : SH G) (k0 : 0 ≤ k) (k3 : k < 3) (q : ∀ Y : zX, (∀ b : Int, b ≠ 140 → Y b = Z b) → (∀ i : Int, i < 0 ∨ 5520 ≤ i → Y 140 i = Z 140 i) → (∀ i : Int, 0 ≤ i → i < 5520 → Y 140 i = Z 140 (5520 * (k + 1) + i)) → Q [zI 1] Y) : M_again_W Q 22 [zR 139, zI k, zI 0] [] G Z := by
  have lp : ∀ (m : Nat) (x : Int) (Y : zX), x + m = 5520 → 0 ≤ x → (∀ b : Int, b ≠ 140 → Y b = Z b) → (∀ i : Int, i < 0 ∨ x ≤ i → Y 140 i = Z 140 i) → (∀ i : Int, 0 ≤ i → i < x → Y 140 i = Z 140 (5520 * (k + 1) + i)) → M_again_W Q 22 [zR 139, zI k, zI x] [] G Y := by
    intro m
    induction m with
    | zero =>
      intro x Y e x0 f g yi
      obtain rfl : x = 5520 := by omega
      exact M_again_f22 hG ⟨fun z => absurd z (by omega), fun _ => q Y f g yi⟩
    | succ m ih =>
      intro x Y e x0 f g yi
      refine M_again_f22 hG ⟨fun _ => ⟨by rw [zw_id (x := k + 1) (by omega) (by omega)]; exact zw_id (by omega) (by omega), zw_id (by omega) (by omega), by omega, by omega, x0, by omega, zw_id (by omega) (by omega), ih (x + 1) _ (by omega) (by omega) (fun b hb => by rw [zrd_r hb]; exact f b hb) (fun i hi => by rw [zrd_n (by omega)]; exact g i (by omega)) (fun i i0 i1 => ?_)⟩, fun z => absurd z (by omega)⟩
      by_cases c : i = x
      · rw [c, zrd_s]
        exact g _ (by omega)
      · rw [zrd_n (by omega)]
        exact yi i i0 (by omega)
  exact lp 5520 0 Z (by omega) (Int.le_refl _) (fun _ _ => rfl) (fun _ _ => rfl) (fun i i0 i1 => absurd i1 (by omega))
theorem op_again {G : zG} {X : zX} {a : Int} (h : zRela G X) : D_again (zsz G) (ztt G) [zR 0, zI a] G X (fun v G1 X1 => zsz G1 = zsz G ∧ ztt G1 = ztt G ∧ zkd G1 139 = 12 ∧ M_again [zR 139, zI a] G1 X1 (fun w X2 => w = v ∧ zRela G1 X2)) := by
  have hk := h
  obtain ⟨hG, hr, hn, hf, hi, hc⟩ := h
  have hs := hG.2.2
  have r00 : zrx G 0 0 = 1 := zSr hG 0 0 1 (by decide +kernel)
  have r01 : zrx G 0 1 = 103 := zSr hG 0 1 103 (by decide +kernel)
  have k0 : zkd G 0 = 0 := zSk hG 0 0 (by decide +kernel)
  have k1 : zkd G 1 = 1 := zSk hG 1 1 (by decide +kernel)
  have k103 : zkd G 103 = 54 := zSk hG 103 54 (by decide +kernel)
  have l103 : zln G 103 = 3 := zSl hG 103 3 (by decide +kernel)
  refine D_again_e0 ?_
  rw [r00, r01, k0, k1, k103, l103]
  refine ⟨fun lt => ⟨rfl, rfl, zSk hG 139 12 (by decide +kernel), M_again_f0 hG (M_isIn_f0 hG ⟨fun _ => ⟨0, rfl, fun _ => ⟨rfl, hk⟩, fun z => absurd rfl z⟩, fun z => absurd z (by omega)⟩)⟩, fun a0 => ⟨fun a3 => ⟨rfl, rfl, a0, a3, ?_⟩, fun ge => ⟨rfl, rfl, zSk hG 139 12 (by decide +kernel), M_again_f0 hG (M_isIn_f0 hG ⟨fun z => absurd z (by omega), fun _ => ⟨fun _ => ⟨0, rfl, fun _ => ⟨rfl, hk⟩, fun z => absurd rfl z⟩, fun z => absurd z (by omega)⟩⟩)⟩⟩⟩
  obtain ⟨t, et⟩ : ∃ t : Int, zrx G 103 a = t := ⟨_, rfl⟩
  rw [et]
  refine ⟨fun tn => ⟨rfl, rfl, zSk hG 139 12 (by decide +kernel), M_again_f0 hG (M_isIn_f0 hG ⟨fun z => absurd z (by omega), fun _ => ⟨fun z => absurd z (by omega), fun _ => ⟨1, rfl, fun z => absurd z (by omega), fun _ => ⟨a0, a3, fun _ => ⟨rfl, hk⟩, fun z => absurd ?_ z⟩⟩⟩⟩)⟩, fun tn => ⟨rfl, zsz G, ztt G, Nat.le_refl _, Nat.le_refl _, Nat.le_refl _, Nat.le_refl _, ?_⟩⟩
  · rcases hi.2 a a0 a3 with c | c
    · exact c.1
    · have := c.2.1.1
      omega
  · rcases hi.2 a a0 a3 with c | ⟨i1, i2, i3, i4, i5⟩
    · rw [et] at c
      exact absurd c.2 tn
    · rw [et] at i2 i3 i4 i5
      have n := zRT_in i3
      have hb1 := zBw_1 hG
      have t1 := i2.1
      have t2 := i2.2.1
      refine tod (d := 0) (e := t - 1) (by omega) (by omega) hb1 (zBw_t i2) (by omega) (by omega) (by omega) (Nat.le_refl _) (Nat.le_refl _) (fun j j0 j1 => ?_) (fun G2 W cf mv r1 r3 => ?_)
      · have z := zR_cpr i3 j j0 j1
        rw [show 18 + (t - 1) = t + 17 by omega]
        omega
      · have hG2 : SH G2 := by
          refine ⟨fun b b0 b1 => by rw [cf.1.2.2.1, cf.1.2.2.2]; exact hG.1 b b0 b1, fun b j b0 b1 hd => ?_, by rw [cf.1.1]; exact hs⟩
          by_cases r : 1 ≤ b ∧ b < 103 ∧ 0 ≤ j
          · have z := (cf.2.2.1 b r.1 r.2.1).2.2 j r.2.2 hd
            rw [Int.add_zero] at z
            rw [z]
            by_cases e : zr0 b j = -1
            · rw [if_pos e, e]
            · rw [if_neg e, Int.add_zero]
          · rw [cf.2.1 b j (by omega)]
            exact hG.2.1 b j b0 b1 hd
        refine ⟨cf.1.1, cf.1.2.1, rfl, cf.1.1, cf.1.2.1, zSk hG2 139 12 (by decide +kernel), M_again_f0 hG2 (M_isIn_f0 hG2 ⟨fun z => absurd z (by omega), fun _ => ⟨fun z => absurd z (by omega), fun _ => ⟨1, rfl, fun z => absurd z (by omega), fun _ => ⟨a0, a3, fun z => absurd z ?_, fun _ => againC_M hG2 a0 a3 (fun V fv gv cv => ⟨rfl, ?_⟩)⟩⟩⟩⟩)⟩
        · rw [cf.2.2.2 141 (by omega), i1]
          omega
        have w140 : W 140 = X 140 := cf.2.2.2 140 (by omega)
        have nm := zCfr_n hb1 cf
        have kk : ∀ c : Int, c < (zsz G : Int) → zkd G2 c = zkd G c ∧ zln G2 c = zln G c := fun c _ => by rw [cf.1.2.2.1, cf.1.2.2.2]; exact ⟨rfl, rfl⟩
        have sz : zsz G ≤ zsz G2 := Nat.le_of_eq cf.1.1.symm
        have xx : ∀ c : Int, 166 ≤ c → c < (zsz G : Int) → zkd G c = 13 ∨ zkd G c = 53 → V c = X c := fun c c0 _ hc2 => by rw [fv c (by omega)]; exact nm.2 c hc2
        have hA : ∀ i : Int, 0 ≤ i → i < 5520 → V 140 (0 + i) = X 140 (5520 * (a + 1) + i) := fun i i0 i1 => by
          rw [show (0 : Int) + i = i by omega, cv i i0 i1, w140]
        have v1 : V 1 = W 1 := fv 1 (by omega)
        have m0 := mv.1
        have mv2 : zMcp X V t 1 := by
          have e1 : (1 : Int) + (t - 1) = t := by omega
          have e2 : (1 : Int) + 0 = 1 := by omega
          rw [e1, e2] at mv
          exact zMcp_f mv (fun c c0 c1 => fv c (by omega))
        have n11 : V 1 11 = X t 11 := by
          have z := mv2.1 11 (by omega) (by omega)
          rw [show (1 : Int) + 0 = 1 by omega, show t + 0 = t by omega] at z
          exact z
        have n12 : V 1 12 = X t 12 := by
          have z := mv2.1 12 (by omega) (by omega)
          rw [show (1 : Int) + 0 = 1 by omega, show t + 0 = t by omega] at z
          exact z
        have q1 : ∀ p : Int, 0 ≤ p → p < 5 → zrx G2 (1 + 22 + 6 * p) 1 = zrx G (t + 22 + 6 * p) 1 := fun p p0 p1 => by
          have z := r1 p p0 p1
          rw [show 23 + 6 * p + 0 = 1 + 22 + 6 * p by omega, show 23 + 6 * p + (t - 1) = t + 22 + 6 * p by omega] at z
          exact z
        have q3 : ∀ p : Int, 0 ≤ p → p < 10 → zrx G2 (1 + 52 + 5 * p) 3 = zrx G (t + 52 + 5 * p) 3 := fun p p0 p1 => by
          have z := r3 p p0 p1
          rw [show 53 + 5 * p + 0 = 1 + 52 + 5 * p by omega, show 53 + 5 * p + (t - 1) = t + 52 + 5 * p by omega] at z
          exact z
        refine ⟨hG2, zRT_move i3 mv2 (fun i b e1 e2 e3 => ?_), zNm2_y sz kk (fun c _ _ hc2 => nm.1 c hc2) xx hA n11 n.2.2.2 q1 q3 i4, zFrs_y n11 n12 n.1 n.2.2.1 q1 q3 (zMcp_h mv2) (zMcp_c mv2) i5, ⟨fun k l x0 x1 y0 y1 ne kn => ?_, fun k x0 x1 => ?_⟩, ?_⟩
        · rw [show i = 0 + (b - 5520 * (a + 1)) by omega, hA _ (by omega) (by omega), show 5520 * (a + 1) + (b - 5520 * (a + 1)) = b by omega]
        · rw [cf.2.1 103 k (by omega)] at kn
          rw [cf.2.1 103 k (by omega), cf.2.1 103 l (by omega)]
          exact hi.1 k l x0 x1 y0 y1 ne kn
        · rw [cf.2.1 103 k (by omega), fv 141 (by omega), cf.2.2.2 141 (by omega)]
          rcases hi.2 k x0 x1 with c | ⟨c1, c2⟩
          · exact Or.inl c
          · refine Or.inr ⟨c1, zIm_y sz kk (fun c _ _ hc2 => nm.1 c hc2) xx (fun i i0 i1 => ?_) (fun c j c3 c4 => cf.2.1 c j (by have := c2.1.1; omega)) (fun c c3 c4 => ?_) c2⟩
            · rw [gv _ (by omega), w140]
            · have := c2.1.1
              rw [fv c (by omega)]
              exact cf.2.2.2 c (by omega)
        · obtain ⟨g1, g2, g3, g4, g5, g6, g7⟩ := hc
          refine ⟨by rw [cf.1.2.2.1]; exact g1, by rw [cf.2.1 (-3) 0 (by omega)]; exact g2, by rw [cf.1.2.2.1]; exact g3, by rw [cf.1.2.2.2]; exact g4, ?_, ?_, ?_⟩
          · rw [fv (-3) (by omega), cf.2.2.2 (-3) (by omega)]
            exact g5
          · rw [fv (-4) (by omega), cf.2.2.2 (-4) (by omega)]
            exact g6
          · rw [fv 5 (by omega), cf.2.2.2 5 (by omega)]
            exact g7
