/-! ===== image ===== -/
theorem imageC_M {Q : List zV → zX → Prop} {G : zG} {Z : zX} {k : Int} (hG : SH G) (k0 : 0 ≤ k) (k3 : k < 3) (q : ∀ Y : zX, (∀ b : Int, b ≠ 140 → Y b = Z b) → (∀ i : Int, ¬(5520 * (k + 1) ≤ i ∧ i < 5520 * (k + 1) + 5520) → Y 140 i = Z 140 i) → (∀ i : Int, 0 ≤ i → i < 5520 → Y 140 (5520 * (k + 1) + i) = Z 140 i) → Q [zI 1] Y) : M_image_W Q 20 [zR 139, zI k, zI 0] [] G Z := by
  have lp : ∀ (m : Nat) (x : Int) (Y : zX), x + m = 5520 → 0 ≤ x → (∀ b : Int, b ≠ 140 → Y b = Z b) → (∀ i : Int, ¬(5520 * (k + 1) ≤ i ∧ i < 5520 * (k + 1) + x) → Y 140 i = Z 140 i) → (∀ i : Int, 0 ≤ i → i < x → Y 140 (5520 * (k + 1) + i) = Z 140 i) → M_image_W Q 20 [zR 139, zI k, zI x] [] G Y := by
    intro m
    induction m with
    | zero =>
      intro x Y e x0 f g yi
      obtain rfl : x = 5520 := by omega
      exact M_image_f20 hG ⟨fun z => absurd z (by omega), fun _ => q Y f g yi⟩
    | succ m ih =>
      intro x Y e x0 f g yi
      refine M_image_f20 hG ⟨fun _ => ⟨by rw [zw_id (x := k + 1) (by omega) (by omega)]; exact zw_id (by omega) (by omega), zw_id (by omega) (by omega), x0, by omega, by omega, by omega, zw_id (by omega) (by omega), ih (x + 1) _ (by omega) (by omega) (fun b hb => by rw [zrd_r hb]; exact f b hb) (fun i hi => by rw [zrd_n (by omega)]; exact g i (by omega)) (fun i i0 i1 => ?_)⟩, fun z => absurd z (by omega)⟩
      by_cases c : i = x
      · rw [c, zrd_s]
        exact g _ (by omega)
      · rw [zrd_n (by omega)]
        exact yi i i0 (by omega)
  exact lp 5520 0 Z (by omega) (Int.le_refl _) (fun _ _ => rfl) (fun _ _ => rfl) (fun i i0 i1 => absurd i1 (by omega))
/-- all but image a, whose cells stand from t on -/
def zRx (G : zG) (X : zX) (a t : Int) : Prop := SH G ∧ zRT X 1 0 ∧ zNm2 G X 1 0 ∧ zFrs G X 1 ∧ zKct G X ∧ zBw G (t - 1) ∧ 166 ≤ t ∧ t + 102 ≤ (zsz G : Int) ∧ zrx G 103 a = t ∧ (∀ k l : Int, 0 ≤ k → k < 3 → 0 ≤ l → l < 3 → k ≠ l → zrx G 103 k ≠ -1 → zrx G 103 k ≠ zrx G 103 l) ∧ (∀ k : Int, 0 ≤ k → k < 3 → k ≠ a → (X 141 k = 0 ∧ zrx G 103 k = -1) ∨ (X 141 k = 1 ∧ (t + 102 ≤ zrx G 103 k ∨ zrx G 103 k + 102 ≤ t) ∧ zIm G X (zrx G 103 k) (5520 * (k + 1))))
theorem image33 {G : zG} {X : zX} {a t : Int} {LC LS : Nat} (a0 : 0 ≤ a) (a3 : a < 3) (h : zRx G X a t) (hC : zsz G = LC) (hS : ztt G = LS) : D_image_W LC LS (fun v G1 X1 => zsz G1 = LC ∧ ztt G1 = LS ∧ zkd G1 139 = 12 ∧ M_image [zR 139, zI a] G1 X1 (fun w X2 => w = v ∧ zRela G1 X2)) 33 [zR 0, zI a] [] G X := by
  obtain ⟨hG, hr, hn, hf, hc, hb, t1, t2, et, dis, oth⟩ := h
  have hs := hG.2.2
  have n := zRT_in hr
  have hb1 := zBw_1 hG
  have r00 : zrx G 0 0 = 1 := zSr hG 0 0 1 (by decide +kernel)
  have r01 : zrx G 0 1 = 103 := zSr hG 0 1 103 (by decide +kernel)
  have k0 : zkd G 0 = 0 := zSk hG 0 0 (by decide +kernel)
  have k103 : zkd G 103 = 54 := zSk hG 103 54 (by decide +kernel)
  have l103 : zln G 103 = 3 := zSl hG 103 3 (by decide +kernel)
  have kt : zkd G t = 1 := by
    have z := zBw_k hb (b := 1) (c := 1) (by omega) (by omega) (by decide +kernel)
    rw [show (1 : Int) + (t - 1) = t by omega] at z
    exact z
  refine D_image_e33 ?_
  rw [r00, r01, k0, k103, l103, et, kt]
  refine ⟨rfl, rfl, a0, a3, rfl, zsz G, ztt G, Nat.le_refl _, Nat.le_refl _, Nat.le_of_eq hC, Nat.le_of_eq hS, ?_⟩
  refine tod (d := t - 1) (e := 0) (by omega) (by omega) hb hb1 (by omega) (by omega) (by omega) (Nat.le_refl _) (Nat.le_refl _) (fun j j0 j1 => ?_) (fun G2 W cf mv r1 r3 => ?_)
  · have z := zR_cpr hr j j0 j1
    rw [show (18 : Int) + 0 = 1 + 17 by omega]
    omega
  have hG2 : SH G2 := ⟨fun b b0 b1 => by rw [cf.1.2.2.1, cf.1.2.2.2]; exact hG.1 b b0 b1, fun b j b0 b1 hd => by rw [cf.2.1 b j (by omega)]; exact hG.2.1 b j b0 b1 hd, by rw [cf.1.1]; exact hs⟩
  refine ⟨cf.1.1, cf.1.2.1, rfl, cf.1.1.trans hC, cf.1.2.1.trans hS, zSk hG2 139 12 (by decide +kernel), M_image_f0 hG2 (M_isIn_f0 hG2 ⟨fun z => absurd z (by omega), fun _ => ⟨fun z => absurd z (by omega), fun _ => ⟨1, rfl, fun z => absurd z (by omega), fun _ => ⟨a0, a3, imageC_M hG2 a0 a3 (fun V fv gv cv => ⟨rfl, ?_⟩)⟩⟩⟩⟩)⟩
  have wl : ∀ b : Int, b < t → W b = X b := fun b hb2 => cf.2.2.2 b (by omega)
  have v : ∀ b : Int, b ≠ 140 → b ≠ 141 → V b = W b := fun b b1 b2 => by rw [fv b b1, zrd_r b2]
  have vl : ∀ b : Int, b < t → b ≠ 140 → b ≠ 141 → V b = X b := fun b b0 b1 b2 => (v b b1 b2).trans (wl b b0)
  have v140 : ∀ i : Int, ¬(5520 * (a + 1) ≤ i ∧ i < 5520 * (a + 1) + 5520) → V 140 i = X 140 i := fun i hi => by rw [gv i hi, zrd_r (by omega), wl 140 (by omega)]
  have v140c : ∀ i : Int, 0 ≤ i → i < 5520 → V 140 (5520 * (a + 1) + i) = X 140 i := fun i i0 i1 => by rw [cv i i0 i1, zrd_r (by omega), wl 140 (by omega)]
  have v141 : ∀ k : Int, k ≠ a → V 141 k = X 141 k := fun k hk => by rw [fv 141 (by omega), zrd_n (by omega), wl 141 (by omega)]
  have nm := zCfr_n hb cf
  have kk : ∀ c : Int, c < (zsz G : Int) → zkd G2 c = zkd G c ∧ zln G2 c = zln G c := fun c _ => by rw [cf.1.2.2.1, cf.1.2.2.2]; exact ⟨rfl, rfl⟩
  have sz : zsz G ≤ zsz G2 := Nat.le_of_eq cf.1.1.symm
  have xx : ∀ c : Int, 166 ≤ c → c < (zsz G : Int) → zkd G c = 13 ∨ zkd G c = 53 → V c = X c := fun c c0 _ hc2 => by rw [v c (by omega) (by omega)]; exact nm.2 c hc2
  have hr13 : ∀ c : Int, 166 ≤ c → c < (zsz G : Int) → zkd G c = 13 → zrx G2 c 0 = zrx G c 0 := fun c _ _ hc2 => nm.1 c hc2
  have v1 : V 1 = X 1 := vl 1 (by omega) (by omega) (by omega)
  have mv2 : zMcp X V 1 t := by
    have e1 : (1 : Int) + (t - 1) = t := by omega
    have e2 : (1 : Int) + 0 = 1 := by omega
    rw [e1, e2] at mv
    exact zMcp_f mv (fun c c0 c1 => v c (by omega) (by omega))
  have n11 : V t 11 = X 1 11 := by
    have z := mv2.1 11 (by omega) (by omega)
    rw [show (1 : Int) + 0 = 1 by omega, show t + 0 = t by omega] at z
    exact z
  have n12 : V t 12 = X 1 12 := by
    have z := mv2.1 12 (by omega) (by omega)
    rw [show (1 : Int) + 0 = 1 by omega, show t + 0 = t by omega] at z
    exact z
  have q1 : ∀ p : Int, 0 ≤ p → p < 5 → zrx G2 (t + 22 + 6 * p) 1 = zrx G (1 + 22 + 6 * p) 1 := fun p p0 p1 => by
    have z := r1 p p0 p1
    rw [show 23 + 6 * p + 0 = 1 + 22 + 6 * p by omega, show 23 + 6 * p + (t - 1) = t + 22 + 6 * p by omega] at z
    exact z
  have q3 : ∀ p : Int, 0 ≤ p → p < 10 → zrx G2 (t + 52 + 5 * p) 3 = zrx G (1 + 52 + 5 * p) 3 := fun p p0 p1 => by
    have z := r3 p p0 p1
    rw [show 53 + 5 * p + 0 = 1 + 52 + 5 * p by omega, show 53 + 5 * p + (t - 1) = t + 52 + 5 * p by omega] at z
    exact z
  have hA : ∀ i : Int, 0 ≤ i → i < 5520 → V 140 (5520 * (a + 1) + i) = X 140 (0 + i) := fun i i0 i1 => by
    rw [show (0 : Int) + i = i by omega]
    exact v140c i i0 i1
  refine ⟨hG2, zRT_congr (fun c c0 c1 => vl c (by omega) (by omega) (by omega)) (fun i i0 i1 => v140 i (by omega)) hr, zNm2_y sz kk hr13 xx (fun i i0 i1 => v140 _ (by omega)) (by rw [v1]) n.2.2.2 (fun p p0 p1 => cf.2.1 _ _ (by omega)) (fun p p0 p1 => cf.2.1 _ _ (by omega)) hn, zFrs_y (by rw [v1]) (by rw [v1]) n.1 n.2.2.1 (fun p p0 p1 => cf.2.1 _ _ (by omega)) (fun p p0 p1 => cf.2.1 _ _ (by omega)) (fun p k p0 p1 _ _ => by rw [vl _ (by omega) (by omega) (by omega)]) (fun p k p0 p1 _ _ => by rw [vl _ (by omega) (by omega) (by omega)]) hf, ⟨fun k l x0 x1 y0 y1 ne kn => ?_, fun k x0 x1 => ?_⟩, ?_⟩
  · rw [cf.2.1 103 k (by omega)] at kn
    rw [cf.2.1 103 k (by omega), cf.2.1 103 l (by omega)]
    exact dis k l x0 x1 y0 y1 ne kn
  · rw [cf.2.1 103 k (by omega)]
    by_cases ka : k = a
    · rw [ka, et]
      refine Or.inr ⟨?_, zTs_b cf.2.2.1 t1 (by rw [cf.1.1]; exact t2), zRT_move hr mv2 (fun i b e1 e2 e3 => ?_), zNm2_y sz kk hr13 xx hA n11 n.2.2.2 q1 q3 hn, zFrs_y n11 n12 n.1 n.2.2.1 q1 q3 (zMcp_h mv2) (zMcp_c mv2) hf⟩
      · rw [fv 141 (by omega), zrd_s]
      · rw [show i = 5520 * (a + 1) + b by omega, v140c b (by omega) (by omega)]
    · rw [v141 k ka]
      rcases oth k x0 x1 ka with c | ⟨c1, c2, c3⟩
      · exact Or.inl c
      · have u1 := c3.1.1
        have u2 := c3.1.2.1
        refine Or.inr ⟨c1, zIm_y sz kk hr13 xx (fun i i0 i1 => v140 _ (by omega)) (fun c j c4 c5 => cf.2.1 c j (by omega)) (fun c c4 c5 => ?_) c3⟩
        rw [v c (by omega) (by omega)]
        exact cf.2.2.2 c (by omega)
  · obtain ⟨g1, g2, g3, g4, g5, g6, g7⟩ := hc
    refine ⟨by rw [cf.1.2.2.1]; exact g1, by rw [cf.2.1 (-3) 0 (by omega)]; exact g2, by rw [cf.1.2.2.1]; exact g3, by rw [cf.1.2.2.2]; exact g4, ?_, ?_, ?_⟩
    · rw [vl (-3) (by omega) (by omega) (by omega)]
      exact g5
    · rw [vl (-4) (by omega) (by omega) (by omega)]
      exact g6
    · rw [vl 5 (by omega) (by omega) (by omega)]
      exact g7
theorem op_image {G : zG} {X : zX} {a : Int} (h : zRela G X) : ∃ LC LS : Nat, zsz G ≤ LC ∧ LC ≤ zsz G + 102 ∧ ztt G ≤ LS ∧ LS ≤ ztt G + 5266 ∧ D_image LC LS [zR 0, zI a] G X (fun v G1 X1 => zsz G1 = LC ∧ ztt G1 = LS ∧ zkd G1 139 = 12 ∧ M_image [zR 139, zI a] G1 X1 (fun w X2 => w = v ∧ zRela G1 X2)) := by
  have hk := h
  obtain ⟨hG, hr, hn, hf, hi, hc⟩ := h
  have hs := hG.2.2
  have n := zRT_in hr
  have r01 : zrx G 0 1 = 103 := zSr hG 0 1 103 (by decide +kernel)
  have k0 : zkd G 0 = 0 := zSk hG 0 0 (by decide +kernel)
  have k103 : zkd G 103 = 54 := zSk hG 103 54 (by decide +kernel)
  have l103 : zln G 103 = 3 := zSl hG 103 3 (by decide +kernel)
  by_cases a0 : 0 ≤ a
  · by_cases a3 : a < 3
    · obtain ⟨t, et⟩ : ∃ t : Int, zrx G 103 a = t := ⟨_, rfl⟩
      by_cases tn : t = -1
      · -- made anew
        refine ⟨zsz G + 102, ztt G + 5266, by omega, by omega, by omega, by omega, D_image_e0 ?_⟩
        rw [r01, k0, k103, l103, et]
        refine ⟨fun z => absurd z (by omega), fun _ => ⟨fun _ => ⟨rfl, rfl, a0, a3, fun _ => ?_, fun z => absurd tn z⟩, fun z => absurd z (by omega)⟩⟩
        obtain ⟨u, eu⟩ : ∃ u : Int, (zsz G : Int) = u := ⟨_, rfl⟩
        have f0 : zFn (fun _ _ => 0) G X (znG G 1 0 17) (znX G X) u 1 17 1 := by
          refine ⟨?_, rfl, fun b hb => ⟨znG_k (by omega), znG_l (by omega), znG_r (by omega), znX_r (by omega)⟩, fun i i0 i1 => ?_, fun i i0 i1 => ?_, fun _ _ => rfl⟩
          · show ((zsz G + 1 : Nat) : Int) = _
            omega
          · rw [show u + i = (zsz G : Int) by omega, znG_ks, znG_ls, show 1 + i = 1 by omega]
            exact ⟨by decide +kernel, by decide +kernel, fun z => absurd (by omega) z⟩
          · rw [show u + i = (zsz G : Int) by omega]
            exact zup_s _ _ _
        have fr : zrx (znG G 1 0 17) (u + 0) = fun _ => -1 := by rw [show u + 0 = (zsz G : Int) by omega, znG_rs]
        rw [eu]
        refine ⟨by omega, by omega, by rw [← eu]; exact znG_ks, zsz G + 102, ztt G + 5266, by show zsz G + 1 ≤ _; omega, by show ztt G + 17 ≤ _; omega, Nat.le_refl _, Nat.le_refl _, ?_⟩
        have ti := toI (LC := zsz G + 102) (LS := ztt G + 5266) (Q := fun v1 G5 X2 => zsz G5 = zsz G + 102 ∧ ztt G5 = ztt G + 5266 ∧ v1 = [] ∧ zkd G5 103 = 54 ∧ a < zln G5 103 ∧ zkd G5 u = 1 ∧ D_image_W (zsz G + 102) (ztt G + 5266) (fun v G1 X1 => zsz G1 = zsz G + 102 ∧ ztt G1 = ztt G + 5266 ∧ zkd G1 139 = 12 ∧ M_image [zR 139, zI a] G1 X1 (fun w X2 => w = v ∧ zRela G1 X2)) 33 [zR 0, zI a] [] (zrs G5 103 a u) X2) f0 (by omega) fr (by show zsz G + 1 + 101 = _; omega) (by show ztt G + 17 + 5249 = _; omega) (fun G2 X2 _ _ cC cS hB fo _ _ => ?_)
        · rw [show u + 0 = u by omega] at ti
          exact ti
        have hb : zBw G2 (u - 1) := fun b b0 b1 => ⟨(hB b b0 b1).1, (hB b b0 b1).2.1, fun j j0 _ => (hB b b0 b1).2.2 j j0⟩
        have kt : zkd G2 u = 1 := by
          have z := zBw_k hb (b := 1) (c := 1) (by omega) (by omega) (by decide +kernel)
          rw [show (1 : Int) + (u - 1) = u by omega] at z
          exact z
        refine ⟨cC, cS, rfl, (fo 103 (by omega)).1.trans k103, by rw [(fo 103 (by omega)).2.1, l103]; exact a3, kt, image33 (t := u) a0 a3 ?_ cC cS⟩
        have so : ∀ b : Int, b < u → b ≠ 103 → zrx (zrs G2 103 a u) b = zrx G b := fun b hb2 b3 => (zrs_g b3).trans (fo b hb2).2.2.1
        have s103 : ∀ k : Int, k ≠ a → zrx (zrs G2 103 a u) 103 k = zrx G 103 k := fun k hk2 => by rw [zrs_f, zup_n hk2, (fo 103 (by omega)).2.2.1]
        have hG2 : SH (zrs G2 103 a u) := by
          refine SH_ref ⟨fun b b0 b1 => ?_, fun b j b0 b1 hd => ?_, by omega⟩ (Or.inr (by unfold zd0; simp))
          · rw [(fo b (by omega)).1, (fo b (by omega)).2.1]
            exact hG.1 b b0 b1
          · rw [(fo b (by omega)).2.2.1]
            exact hG.2.1 b j b0 b1 hd
        have kk : ∀ c : Int, c < (zsz G : Int) → zkd (zrs G2 103 a u) c = zkd G c ∧ zln (zrs G2 103 a u) c = zln G c := fun c hc2 => ⟨(fo c (by omega)).1, (fo c (by omega)).2.1⟩
        have sz : zsz G ≤ zsz (zrs G2 103 a u) := by show zsz G ≤ zsz G2; omega
        have xx : ∀ c : Int, 166 ≤ c → c < (zsz G : Int) → zkd G c = 13 ∨ zkd G c = 53 → X2 c = X c := fun c c0 c1 _ => (fo c (by omega)).2.2.2
        have hr13 : ∀ c : Int, 166 ≤ c → c < (zsz G : Int) → zkd G c = 13 → zrx (zrs G2 103 a u) c 0 = zrx G c 0 := fun c c0 c1 _ => by rw [so c (by omega) (by omega)]
        have x1 : X2 1 = X 1 := (fo 1 (by omega)).2.2.2
        have x140 : X2 140 = X 140 := (fo 140 (by omega)).2.2.2
        have imb : ∀ k : Int, 0 ≤ k → k < 3 → zrx G 103 k = -1 ∨ (166 ≤ zrx G 103 k ∧ zrx G 103 k + 102 ≤ u) := fun k x0 x3 => by
          rcases hi.2 k x0 x3 with c | c
          · exact Or.inl c.2
          · exact Or.inr ⟨c.2.1.1, by have := c.2.1.2.1; omega⟩
        refine ⟨hG2, zRT_congr (fun c c0 c1 => (fo c (by omega)).2.2.2) (fun i _ _ => by rw [x140]) hr, zNm2_y sz kk hr13 xx (fun i _ _ => by rw [x140]) (by rw [x1]) n.2.2.2 (fun p p0 p1 => by rw [so _ (by omega) (by omega)]) (fun p p0 p1 => by rw [so _ (by omega) (by omega)]) hn, zFrs_y (by rw [x1]) (by rw [x1]) n.1 n.2.2.1 (fun p p0 p1 => by rw [so _ (by omega) (by omega)]) (fun p p0 p1 => by rw [so _ (by omega) (by omega)]) (fun p k p0 p1 _ _ => by rw [(fo _ (by omega)).2.2.2]) (fun p k p0 p1 _ _ => by rw [(fo _ (by omega)).2.2.2]) hf, ?_, zBw_ref hb (fun b b0 b1 eb => absurd eb (by omega)), by omega, by show u + 102 ≤ (zsz G2 : Int); omega, by rw [zrs_f, zup_s], fun k l x0 x3 y0 y3 ne kn => ?_, fun k x0 x3 ka => ?_⟩
        · obtain ⟨g1, g2, g3, g4, g5, g6, g7⟩ := hc
          exact ⟨(fo (-3) (by omega)).1.trans g1, by rw [so (-3) (by omega) (by omega)]; exact g2, (fo (-4) (by omega)).1.trans g3, (fo (-4) (by omega)).2.1.trans g4, by rw [(fo (-3) (by omega)).2.2.2]; exact g5, by rw [(fo (-4) (by omega)).2.2.2]; exact g6, by rw [(fo 5 (by omega)).2.2.2]; exact g7⟩
        · by_cases ka : k = a
          · have la : l ≠ a := fun z => ne (ka.trans z.symm)
            have il := imb l y0 y3
            rw [ka, s103 l la, zrs_f, zup_s]
            omega
          · rw [s103 k ka] at kn ⊢
            have ik := imb k x0 x3
            by_cases la : l = a
            · rw [la, zrs_f, zup_s]
              omega
            · rw [s103 l la]
              exact hi.1 k l x0 x3 y0 y3 ne kn
        · rw [s103 k ka, (fo 141 (by omega)).2.2.2]
          have ik := imb k x0 x3
          rcases hi.2 k x0 x3 with c | ⟨c1, c2⟩
          · exact Or.inl c
          · have u1 := c2.1.1
            refine Or.inr ⟨c1, by omega, zIm_y sz kk hr13 xx (fun i _ _ => by rw [x140]) (fun c j c4 c5 => by rw [so c (by omega) (by omega)]) (fun c c4 c5 => (fo c (by omega)).2.2.2) c2⟩
      · -- it stands
        refine ⟨zsz G, ztt G, Nat.le_refl _, by omega, Nat.le_refl _, by omega, D_image_e0 ?_⟩
        rw [r01, k0, k103, l103, et]
        refine ⟨fun z => absurd z (by omega), fun _ => ⟨fun _ => ⟨rfl, rfl, a0, a3, fun z => absurd z tn, fun _ => image33 (t := t) a0 a3 ?_ rfl rfl⟩, fun z => absurd z (by omega)⟩⟩
        rcases hi.2 a a0 a3 with c | ⟨i1, i2⟩
        · rw [et] at c
          exact absurd c.2 tn
        · rw [et] at i2
          refine ⟨hG, hr, hn, hf, hc, zBw_t i2.1, i2.1.1, i2.1.2.1, et, hi.1, fun k x0 x3 ka => ?_⟩
          rcases hi.2 k x0 x3 with c | ⟨c1, c2⟩
          · exact Or.inl c
          · refine Or.inr ⟨c1, zTs_d i2.1 c2.1 (fun z => ?_), c2⟩
            have y := hi.1 k a x0 x3 a0 a3 ka (by have := c2.1.1; omega)
            rw [et] at y
            exact y z.symm
    · refine ⟨zsz G, ztt G, Nat.le_refl _, by omega, Nat.le_refl _, by omega, D_image_e0 ⟨fun z => absurd z (by omega), fun _ => ⟨fun z => absurd z a3, fun _ => ⟨rfl, rfl, zSk hG 139 12 (by decide +kernel), M_image_f0 hG (M_isIn_f0 hG ⟨fun z => absurd z (by omega), fun _ => ⟨fun _ => ⟨0, rfl, fun _ => ⟨rfl, hk⟩, fun z => absurd rfl z⟩, fun z => absurd z (by omega)⟩⟩)⟩⟩⟩⟩
  · exact ⟨zsz G, ztt G, Nat.le_refl _, by omega, Nat.le_refl _, by omega, D_image_e0 ⟨fun _ => ⟨rfl, rfl, zSk hG 139 12 (by decide +kernel), M_image_f0 hG (M_isIn_f0 hG ⟨fun _ => ⟨0, rfl, fun _ => ⟨rfl, hk⟩, fun z => absurd rfl z⟩, fun z => absurd z (by omega)⟩)⟩, fun z => absurd z a0⟩⟩
