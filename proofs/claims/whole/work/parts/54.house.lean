/-! ===== house, name ===== -/
/-- two cells more: a text and its bytes -/
def zG9 (G G9 : zG) (n v : Int) (k : Nat) : Prop := v = (zsz G : Int) + 1 ∧ SH G9 ∧ zsz G9 = zsz G + 2 ∧ ztt G9 = ztt G + 4 + k ∧ (∀ b : Int, b < (zsz G : Int) → zkd G9 b = zkd G b ∧ zln G9 b = zln G b) ∧ (∀ b i : Int, b < (zsz G : Int) → zrx G9 b i = zrx G b i) ∧ zkd G9 (zsz G : Int) = 13 ∧ zrx G9 (zsz G : Int) 0 = v ∧ zkd G9 v = 53 ∧ zln G9 v = n
theorem rowG {G : zG} {n v : Int} {k : Nat} (hG : SH G) (hv : v = (zsz G : Int) + 1) : zG9 G (zrs (znG (znG G 13 0 4) 53 n k) (zsz G : Int) 0 v) n v k := by
  have hs := hG.2.2
  have sz1 : (zsz (znG G 13 0 4) : Int) = (zsz G : Int) + 1 := by
    show ((zsz G + 1 : Nat) : Int) = _
    omega
  refine ⟨hv, SH_ref (SH_new (SH_new hG)) (Or.inl (by omega)), rfl, rfl, fun b hb => ⟨?_, ?_⟩, fun b i hb => ?_, ?_, zrs_s, ?_, ?_⟩
  · show zkd (znG (znG G 13 0 4) 53 n k) b = zkd G b
    rw [znG_k (by omega), znG_k (by omega)]
  · show zln (znG (znG G 13 0 4) 53 n k) b = zln G b
    rw [znG_l (by omega), znG_l (by omega)]
  · rw [zrs_n (Or.inl (by omega)), znG_r (by omega), znG_r (by omega)]
  · show zkd (znG (znG G 13 0 4) 53 n k) (zsz G : Int) = 13
    rw [znG_k (by omega), znG_ks]
  · show zkd (znG (znG G 13 0 4) 53 n k) v = 53
    rw [hv, ← sz1, znG_ks]
  · show zln (znG (znG G 13 0 4) 53 n k) v = n
    rw [hv, ← sz1, znG_ls]
theorem row_D2 {LC LS : Nat} {Q : List zV → zG → zX → Prop} {G : zG} {X : zX} {n : Int} (hG : SH G) (e4 : X 2 4 = n) (n0 : 1 ≤ n) (n1 : n ≤ 12) (b1 : X 5 1 = 0) (b3 : 0 ≤ X 5 3) (b4 : X 5 3 ≤ 12) (hb : ∀ j : Int, 0 ≤ j → j < n → 0 ≤ X 3 j ∧ X 3 j ≤ 127) (eC : LC = zsz G + 2) (eS : LS = ztt G + 4 + n.toNat)
    (q : ∀ (G9 : zG) (X2 : zX) (v : Int), zG9 G G9 n v n.toNat → (∀ b : Int, b < (zsz G : Int) → b ≠ 5 → b ≠ 6 → X2 b = X b) → X2 5 1 = 0 → X2 5 3 = n → X2 (zsz G : Int) 1 = 0 → (∀ j : Int, 0 ≤ j → j < n → X2 v j = X 3 j) → Q [zR (zsz G : Int)] G9 X2) : Ta_row LC LS [zR 2] G X Q :=
  row_D hG e4 n0 n1 b1 b3 b4 hb eC eS (fun X2 v ev f a b c d => q _ X2 v (rowG hG ev) f a b c d)
theorem zNv_new {G G9 : zG} {X2 : zX} {L : Int → Int} {n v b a j : Int} {k : Nat} (hG : SH G) (g : zG9 G G9 n v k) (ha : a < 103) (z1 : X2 (zsz G : Int) 1 = 0) (zv : ∀ i : Int, 0 ≤ i → i < n → X2 v i = L i) (n0 : 1 ≤ n) (n1 : n ≤ 12) (bn : X2 140 b = n) (bl : ∀ i : Int, 0 ≤ i → i < n → X2 140 (b + 1 + i) = zsg (L i)) (ok : ∀ i : Int, 0 ≤ i → i < n → 0 ≤ zsg (L i)) : zNv (zrs G9 a j (zsz G : Int)) X2 (zsz G : Int) b := by
  have hs := hG.2.2
  obtain ⟨hv, _, h3, _, _, _, h7, h8, h9, h10⟩ := g
  have r : zrx (zrs G9 a j (zsz G : Int)) (zsz G : Int) 0 = v := (zrs_n (Or.inl (by omega))).trans h8
  have es : (zsz (zrs G9 a j (zsz G : Int)) : Int) = (zsz G : Int) + 2 := by
    show (zsz G9 : Int) = _
    rw [h3]
    omega
  unfold zNv
  rw [r, bn, es]
  refine ⟨by omega, by omega, by omega, by omega, h7, z1, h9, h10, n0, n1, fun i i0 i1 => ?_⟩
  rw [bl i i0 i1, zv i i0 i1]
  exact ⟨rfl, ok i i0 i1⟩
theorem zXs_new {G G9 : zG} {X X2 : zX} {n v a j u : Int} {k : Nat} (g : zG9 G G9 n v k) (h4 : ∀ b : Int, b < 0 ∨ 166 ≤ b → b < (zsz G : Int) → X2 b = X b) (h5 : X2 141 = X 141) (h6 : ∀ i : Int, 5520 ≤ i → X2 140 i = X 140 i) : zXs G X (zrs G9 a j u) X2 a j :=
  ⟨by show zsz G ≤ zsz G9; have := g.2.2.1; omega, g.2.2.2.2.1, fun b i hb ne => (zrs_n ne).trans (g.2.2.2.2.2.1 b i hb), h4, h5, h6⟩
theorem op_house {G : zG} {X : zX} (h : zRela G X) : ∃ LC LS : Nat, zsz G ≤ LC ∧ LC ≤ zsz G + 2 ∧ ztt G ≤ LS ∧ LS ≤ ztt G + 16 ∧ D_house LC LS [zR 0] G X (fun v G1 X1 => zsz G1 = LC ∧ ztt G1 = LS ∧ M_house [zR 139] G1 X1 (fun w X2 => w = v ∧ zRela G1 X2)) := by
  have hk := h
  obtain ⟨hG, hr, hn, hf, hi, hc⟩ := h
  have hs := hG.2.2
  have hh := q_houses hr
  have hp := q_pages hr
  have hl : X 140 6 = X 2 1 ∧ 0 ≤ X 2 1 ∧ X 2 1 ≤ 500 := zR_len hr
  have hb : ∀ j : Int, 0 ≤ j → j < X 2 1 → X 140 (70 + j) = X 3 j := fun j j0 j1 => by
    have z := (zR_byt hr j j0 (by omega)).1
    rw [show (0 : Int) + 70 + j = 70 + j by omega] at z
    exact z
  have r00 : zrx G 0 0 = 1 := zSr hG 0 0 1 (by decide +kernel)
  have r10 : zrx G 1 0 = 2 := zSr hG 1 0 2 (by decide +kernel)
  have r11 : zrx G 1 1 = 7 := zSr hG 1 1 7 (by decide +kernel)
  have k0 : zkd G 0 = 0 := zSk hG 0 0 (by decide +kernel)
  have k1 : zkd G 1 = 1 := zSk hG 1 1 (by decide +kernel)
  have k2 : zkd G 2 = 2 := zSk hG 2 2 (by decide +kernel)
  have k7 : zkd G 7 = 55 := zSk hG 7 55 (by decide +kernel)
  have l7 : zln G 7 = 5 := zSl hG 7 5 (by decide +kernel)
  by_cases full : X 1 11 < 5
  · obtain ⟨J, hJ⟩ : ∃ J : Int, zBd (zRb 1) (X 3) (X 2 1) = J := ⟨_, rfl⟩
    by_cases ok : J = -1 ∧ X 2 1 ≠ 0 ∧ X 2 1 ≤ 12
    · have good : ∀ j : Int, 0 ≤ j → j < X 2 1 → 0 ≤ zsg (X 3 j) := fun j j0 j1 => by
        have z := zFst_a (P := fun i => zRb 1 (X 3 i)) (X 2 1).toNat 0 (by omega) (by rw [← ok.1]; exact hJ) j j0 (by omega)
        have y : ¬(zsg (X 3 j) < 0) := fun c => z (zRb_s.2 c)
        omega
      obtain ⟨H, eH⟩ : ∃ H : Int, X 1 11 = H := ⟨_, rfl⟩
      have hH : 0 ≤ H ∧ H < 5 := by omega
      have ho := zHo_at hH.1 hH.2
      have r7 : zrx G 7 H = 23 + 6 * H := (zSR hG (b := 7) (c := 55) (j := H) (by decide +kernel) (by omega) rfl).trans ho.1
      have zd : zd0 (23 + 6 * H) 1 = true := by
        unfold zd0
        rw [ho.2]
        rfl
      refine ⟨zsz G + 2, ztt G + 4 + (X 2 1).toNat, by omega, by omega, by omega, by omega, D_house_e0 ?_⟩
      rw [r00, r10, r11]
      refine ⟨k0, k1, fun _ => ⟨k2, takeRow_D hG hr (by omega) hJ (fun _ _ _ Y t => ⟨1, rfl, fun z => absurd z (by omega), fun _ => ?_⟩) (fun f p Y r _ => absurd r (by unfold zRwf; omega))⟩, fun z => absurd z (by omega)⟩
      have y1 : Y 1 = X 1 := t.1 1 (by omega)
      have y3 : Y 3 = X 3 := t.1 3 (by omega)
      have y5 : Y 5 = X 5 := t.1 5 (by omega)
      rw [y1, eH, r7]
      refine ⟨k7, hH.1, by rw [l7]; exact hH.2, zsz G + 2, ztt G + 4 + (X 2 1).toNat, by omega, by omega, Nat.le_refl _, Nat.le_refl _, row_D2 hG t.2.2.1 (by omega) ok.2.2 (by rw [y5]; exact hc.2.2.2.2.2.2.1) (by rw [y5]; exact hc.2.2.2.2.2.2.2.1) (by rw [y5]; exact hc.2.2.2.2.2.2.2.2) (fun j j0 j1 => ?_) rfl rfl (fun G9 Z v g za z51 z53 zs1 zv => ?_)⟩
      · rw [y3]
        have z := zsg_v (good j j0 j1)
        omega
      have hG9 : SH G9 := g.2.1
      have hG0 : SH (zrs G9 (23 + 6 * H) 1 (zsz G : Int)) := SH_ref hG9 (Or.inr zd)
      have r0 : zrx (zrs G9 (23 + 6 * H) 1 (zsz G : Int)) 0 0 = 1 := zSr hG0 0 0 1 (by decide +kernel)
      refine ⟨g.2.2.1, g.2.2.2.1, _, rfl, (hG9.1 _ (by omega) (by omega)).1.trans ho.2, zSk hG0 0 0 (by decide +kernel), ?_⟩
      rw [r0]
      refine ⟨zSk hG0 1 1 (by decide +kernel), fun r10 e10 X11 e11 r12 e12 => ⟨g.2.2.1, g.2.2.2.1, ?_⟩⟩
      have z1 : Z 1 = X 1 := (za 1 (by omega) (by omega) (by omega)).trans y1
      have e10b : r10 = H + 1 := by
        rw [e10, z1, eH]
        exact zw_id (by omega) (by omega)
      rw [e10b] at e11
      have e12b : r12 = H := by
        rw [e12, e11, zrd_s, show H + 1 - 1 = H by omega]
        exact zw_id (by omega) (by omega)
      rw [e12b]
      have za2 : ∀ b : Int, b < (zsz G : Int) → b ≠ 2 → b ≠ 5 → b ≠ 6 → Z b = X b := fun b hb b2 b5 b6 => (za b hb b5 b6).trans (t.1 b b2)
      have xa : ∀ b : Int, b ≠ 1 → X11 b = Z b := fun b hb => by rw [e11, zrd_r hb]
      have x140 : X11 140 = X 140 := (xa 140 (by omega)).trans (za2 140 (by omega) (by omega) (by omega) (by omega))
      refine M_house_f0 hG0 (begins_M hG0 (fun U m _ _ _ _ => ⟨rfl, ?_⟩))
      have um : ∀ i : Int, i ≠ 6 → i ≠ 7 → i ≠ 8 → U 140 i = X 140 i := fun i i6 i7 i8 => by rw [m.2.1 i i6 i7 i8, x140]
      have u0 : U 140 0 = H := by rw [um 0 (by omega) (by omega) (by omega), hh.1, eH]
      rw [u0]
      refine ⟨fun z => absurd z (by omega), fun _ => q_houseAt hG0 hH.1 hH.2 ⟨_, rfl, named_M hG0 (L := X 3) (n := X 2 1) (J := J) hl.2.1 hl.2.2 (by rw [m.2.2.2.2.2, x140]; exact hl.1) m.2.2.2.1 (fun j j0 j1 => by rw [um _ (by omega) (by omega) (by omega)]; exact hb j j0 j1) hJ (by omega) (by omega) (fun _ _ _ V va vb vn vl => ⟨1, rfl, fun z => absurd z (by omega), fun _ => ?_⟩) (fun f p r => absurd r (by unfold zRwf; omega))⟩⟩
      have v0 : V 140 0 = H := by rw [vb 0 (by omega), u0]
      rw [v0]
      refine q_houseAt hG0 hH.1 hH.2 ⟨_, rfl, zw_id (by omega) (by omega), by omega, by omega, ?_⟩
      rw [show zst V 140 (1870 + 160 * H + 13) 0 140 0 = H by rw [zrd_n (by omega)]; exact v0]
      refine q_houseAt hG0 hH.1 hH.2 ⟨_, rfl, zw_id (by omega) (by omega), by omega, by omega, ?_⟩
      have w0 : zst (zst V 140 (1870 + 160 * H + 13) 0) 140 (1870 + 160 * H + 159) 0 140 0 = H := by
        rw [zrd_n (by omega), zrd_n (by omega)]
        exact v0
      rw [w0, zrd_s]
      refine ⟨zw_id (by omega) (by omega), zw_id (by omega) (by omega), fun r21 e21 => ⟨by rw [e21, show H + 1 - 1 = H by omega], ?_⟩⟩
      obtain ⟨W, eW⟩ : ∃ W : zX, W = zst (zst (zst V 140 (1870 + 160 * H + 13) 0) 140 (1870 + 160 * H + 159) 0) 140 0 (H + 1) := ⟨_, rfl⟩
      rw [← eW]
      have wU : ∀ b : Int, b ≠ 140 → W b = U b := fun b hb => by rw [eW, zrd_r hb, zrd_r hb, zrd_r hb]; exact va b hb
      have wX : ∀ b : Int, b ≠ 139 → b ≠ 140 → W b = X11 b := fun b b9 b0 => (wU b b0).trans (m.1 b b9 b0)
      have wZ : ∀ b : Int, b ≠ 1 → b ≠ 139 → b ≠ 140 → W b = Z b := fun b b1 b9 b0 => (wX b b9 b0).trans (xa b b1)
      have wK : ∀ b : Int, b < (zsz G : Int) → b ≠ 1 → b ≠ 2 → b ≠ 5 → b ≠ 6 → b ≠ 139 → b ≠ 140 → W b = X b := fun b hb b1 b2 b5 b6 b9 b0 => (wZ b b1 b9 b0).trans (za2 b hb b2 b5 b6)
      have w1n : ∀ i : Int, i ≠ 11 → W 1 i = X 1 i := fun i hi => by rw [wX 1 (by omega) (by omega), e11, zrd_n (by omega), z1]
      have w1s : W 1 11 = H + 1 := by rw [wX 1 (by omega) (by omega), e11, zrd_s]
      have wB : ∀ i : Int, i ≠ 0 → i ≠ 6 → i ≠ 7 → i ≠ 8 → ¬(1870 + 160 * H ≤ i ∧ i < 1883 + 160 * H) → W 140 i = X 140 i := fun i i0 i6 i7 i8 ih => by
        have own := (zR_hown hr H hH.1 hH.2).1
        have pic := (zR_hpic hr H hH.1 hH.2).1
        rw [show (0 : Int) + 1883 + 160 * H = 1870 + 160 * H + 13 by omega, (hf.2 H 2 (by omega) hH.2 (by omega) (by omega)).1] at own
        rw [show (0 : Int) + 2029 + 160 * H = 1870 + 160 * H + 159 by omega, (hf.2 H 3 (by omega) hH.2 (by omega) (by omega)).1] at pic
        rw [eW, zrd_n (by omega)]
        by_cases c : i = 1870 + 160 * H + 159
        · rw [c, zrd_s, pic]
        · rw [zrd_n (by omega)]
          by_cases c2 : i = 1870 + 160 * H + 13
          · rw [c2, zrd_s, own]
          · rw [zrd_n (by omega), vb i (by omega)]
            exact um i i6 i7 i8
      have wb0 : W 140 0 = H + 1 := by rw [eW, zrd_s]
      have wb : ∀ i : Int, i = 6 ∨ i = 7 ∨ i = 8 → W 140 i = U 140 i := fun i hi => by
        rw [eW, zrd_n (by omega), zrd_n (by omega), zrd_n (by omega)]
        exact vb i (by omega)
      have wn : ∀ i : Int, 1870 + 160 * H ≤ i → i < 1883 + 160 * H → W 140 i = V 140 i := fun i i0 i1 => by rw [eW, zrd_n (by omega), zrd_n (by omega), zrd_n (by omega)]
      have x : zXs G X (zrs G9 (23 + 6 * H) 1 (zsz G : Int)) W (23 + 6 * H) 1 := zXs_new g (fun b c hb => wK b hb (by omega) (by omega) (by omega) (by omega) (by omega) (by omega)) (wK 141 (by omega) (by omega) (by omega) (by omega) (by omega) (by omega) (by omega)) (fun i hi => wB i (by omega) (by omega) (by omega) (by omega) (by omega))
      have w5 : W 5 = Z 5 := wZ 5 (by omega) (by omega) (by omega)
      have w2 : W 2 = Y 2 := (wZ 2 (by omega) (by omega) (by omega)).trans (za 2 (by omega) (by omega) (by omega))
      refine ⟨hG0, ?_, ⟨fun p p0 p1 => ?_, fun p p0 p1 => ?_⟩, ⟨fun p j p0 p1 j0 j1 => ?_, fun p j p0 p1 j0 j1 => ?_⟩, zIgs_x hG x (by omega) hi, zKct_x hG x (by omega) (by rw [w5]; exact ⟨z51, by rw [z53]; omega, by rw [z53]; omega⟩) hc⟩
      · generalize hT : (fun b i : Int => if (b = 1 ∧ i = 11) ∨ (b = 140 ∧ i = 0) ∨ (b = 140 ∧ 1870 + 160 * H ≤ i ∧ i < 1883 + 160 * H) then X b i else W b i) = T
        have tp : ∀ b i : Int, ((b = 1 ∧ i = 11) ∨ (b = 140 ∧ i = 0) ∨ (b = 140 ∧ 1870 + 160 * H ≤ i ∧ i < 1883 + 160 * H)) → T b i = X b i := fun b i c => by rw [← hT]; exact if_pos c
        have tn : ∀ b i : Int, ¬((b = 1 ∧ i = 11) ∨ (b = 140 ∧ i = 0) ∨ (b = 140 ∧ 1870 + 160 * H ≤ i ∧ i < 1883 + 160 * H)) → T b i = W b i := fun b i c => by rw [← hT]; exact if_neg c
        have tR : zRT T 1 0 := by
          refine zTd_RT (f := 0) (p := -1) hr (fun b i r ne => ?_) ?_ ?_ ?_ ?_ ?_ ?_ (by omega) (by omega)
          · by_cases c : (b = 1 ∧ i = 11) ∨ (b = 140 ∧ i = 0) ∨ (b = 140 ∧ 1870 + 160 * H ≤ i ∧ i < 1883 + 160 * H)
            · exact tp b i c
            · rw [tn b i c]
              by_cases c1 : b = 1
              · rw [c1]
                exact w1n i (by omega)
              · by_cases c0 : b = 140
                · rw [c0]
                  exact wB i (by omega) (by omega) (by omega) (by omega) (by omega)
                · rw [wK b (by omega) c1 (by omega) (by omega) (by omega) (by omega) c0]
          · rw [tn 2 1 (by omega), w2]
            exact t.2.1
          · rw [tn 140 6 (by omega), wb 6 (by omega)]
            exact m.2.2.1
          · rw [tn 2 2 (by omega), w2]
            exact t.2.2.2.1
          · rw [tn 140 7 (by omega), wb 7 (by omega)]
            exact m.2.2.2.1
          · rw [tn 2 3 (by omega), w2]
            exact t.2.2.2.2
          · rw [tn 140 8 (by omega), wb 8 (by omega)]
            exact m.2.2.2.2.1
        refine zU_house tR hH.1 hH.2 (fun b i _ ne => (tn b i (by omega)).symm) (fun p p0 p3 => ?_)
        have zc := hr.1 p p0 p3
        show W 140 (0 + 0 + p) = W 1 (11 + p) ∧ _
        by_cases c : p = 0
        · rw [c]
          show W 140 0 = W 1 11 ∧ 0 ≤ W 1 11 ∧ ((0 : Int) = 0 → W 1 11 ≤ 5) ∧ ((0 : Int) = 1 → W 1 11 ≤ 10) ∧ ((0 : Int) = 2 → W 1 11 ≤ 16)
          rw [wb0, w1s]
          omega
        · rw [show (0 : Int) + 0 + p = p by omega, show (1 : Int) + 0 = 1 by omega] at zc ⊢
          rw [wB p c (by omega) (by omega) (by omega) (by omega), w1n (11 + p) (by omega)]
          exact zc
      · rw [x.2.2.1 (1 + 52 + 5 * p) 3 (by omega) (Or.inr (by omega))]
        exact zNas_x x (by omega) (fun i i0 i1 => wB _ (by omega) (by omega) (by omega) (by omega) (by omega)) (hn.1 p p0 p1)
      · rw [w1s] at p1
        by_cases c : p = H
        · rw [c, show (1 : Int) + 22 + 6 * H = 23 + 6 * H by omega, zrs_s, show (0 : Int) + 1870 + 160 * H = 1870 + 160 * H by omega]
          refine zNv_new (L := X 3) hG g (by omega) ?_ (fun i i0 i1 => ?_) (by omega) ok.2.2 ?_ (fun i i0 i1 => ?_) good
          · rw [wZ _ (by omega) (by omega) (by omega)]
            exact zs1
          · rw [wZ _ (by have := g.1; omega) (by have := g.1; omega) (by have := g.1; omega), zv i i0 i1, y3]
          · rw [wn _ (by omega) (by omega)]
            exact vn
          · rw [wn _ (by omega) (by omega)]
            exact vl i i0 i1
        · rw [x.2.2.1 (1 + 22 + 6 * p) 1 (by omega) (Or.inl (by omega))]
          exact zNv_x x (by omega) (fun i i0 i1 => wB _ (by omega) (by omega) (by omega) (by omega) (by rcases (by omega : p < H ∨ H < p) with hx | hx <;> omega)) (hn.2 p p0 (by omega))
      · rw [w1n 12 (by omega)] at p0
        rw [x.2.2.1 (1 + 52 + 5 * p) 3 (by omega) (Or.inr (by omega)), wK _ (by omega) (by omega) (by omega) (by omega) (by omega) (by omega) (by omega)]
        exact hf.1 p j p0 p1 j0 j1
      · rw [w1s] at p0
        rw [x.2.2.1 (1 + 22 + 6 * p) 1 (by omega) (Or.inl (by omega)), wK _ (by omega) (by omega) (by omega) (by omega) (by omega) (by omega) (by omega)]
        exact hf.2 p j (by omega) p1 j0 j1
    · refine ⟨zsz G, ztt G, Nat.le_refl _, by omega, Nat.le_refl _, by omega, D_house_e0 ?_⟩
      rw [r00, r10, r11]
      refine ⟨k0, k1, fun _ => ⟨k2, takeRow_D hG hr (by omega) hJ (fun c1 c2 c3 => absurd ⟨c1, c2, c3⟩ ok) (fun f p Y r t => ⟨0, rfl, fun _ => ⟨rfl, rfl, ?_⟩, fun z => absurd rfl z⟩)⟩, fun z => absurd z (by omega)⟩
      have p140 : Y 140 = X 140 := t.1 140 (by omega)
      have bf : 0 ≤ f ∧ f ≤ 4 ∧ -1 ≤ p ∧ p ≤ 500 := by
        have z := zBd_in (P := zRb 1) (L := X 3) hl.2.1
        unfold zRwf at r
        omega
      refine M_house_f0 hG (begins_M hG (fun U m _ _ _ _ => ⟨rfl, ?_⟩))
      have um : ∀ i : Int, i ≠ 6 → i ≠ 7 → i ≠ 8 → U 140 i = X 140 i := fun i i6 i7 i8 => by rw [m.2.1 i i6 i7 i8, p140]
      rw [um 0 (by omega) (by omega) (by omega), hh.1]
      refine ⟨fun z => absurd z (by omega), fun _ => q_houseAt hG hh.2.1 full ⟨_, rfl, named_M hG (L := X 3) (n := X 2 1) (J := J) hl.2.1 hl.2.2 (by rw [m.2.2.2.2.2, p140]; exact hl.1) m.2.2.2.1 (fun j j0 j1 => by rw [um _ (by omega) (by omega) (by omega)]; exact hb j j0 j1) hJ (by omega) (by omega) (fun c1 c2 c3 => absurd ⟨c1, c2, c3⟩ ok) (fun f2 p2 r2 => ⟨0, rfl, fun _ => ⟨rfl, ?_⟩, fun z => absurd rfl z⟩)⟩⟩
      have ef : f2 = f ∧ p2 = p := by
        unfold zRwf at r r2
        omega
      rw [ef.1, ef.2]
      have z := zTt hr t (zTm_f (f2 := f) (p2 := p) m) ⟨bf.1, bf.2.1⟩ bf.2.2
      exact zRela_k hk z.1 z.2
  · refine ⟨zsz G, ztt G, Nat.le_refl _, by omega, Nat.le_refl _, by omega, D_house_e0 ?_⟩
    rw [r00, r10, r11]
    refine ⟨k0, k1, fun z => absurd z full, fun _ => ⟨k2, take_D hG (fun Y t => ⟨rfl, rfl, rfl, M_house_f0 hG (begins_M hG (fun U m _ _ _ _ => ⟨rfl, fun _ => ⟨rfl, ?_⟩, fun z => absurd ?_ z⟩))⟩)⟩⟩
    · have z := zTt hr t m (by omega) (by omega)
      exact zRela_k hk z.1 z.2
    · rw [m.2.1 0 (by omega) (by omega) (by omega), t.1 140 (by omega), hh.1]
      omega
theorem op_name {G : zG} {X : zX} {a : Int} (h : zRela G X) : ∃ LC LS : Nat, zsz G ≤ LC ∧ LC ≤ zsz G + 2 ∧ ztt G ≤ LS ∧ LS ≤ ztt G + 16 ∧ D_name LC LS [zR 0, zI a] G X (fun v G1 X1 => zsz G1 = LC ∧ ztt G1 = LS ∧ M_name [zR 139, zI a] G1 X1 (fun w X2 => w = v ∧ zRela G1 X2)) := by
  have hk := h
  obtain ⟨hG, hr, hn, hf, hi, hc⟩ := h
  have hs := hG.2.2
  have hh := q_houses hr
  have hp := q_pages hr
  have hl : X 140 6 = X 2 1 ∧ 0 ≤ X 2 1 ∧ X 2 1 ≤ 500 := zR_len hr
  have hb : ∀ j : Int, 0 ≤ j → j < X 2 1 → X 140 (70 + j) = X 3 j := fun j j0 j1 => by
    have z := (zR_byt hr j j0 (by omega)).1
    rw [show (0 : Int) + 70 + j = 70 + j by omega] at z
    exact z
  have r00 : zrx G 0 0 = 1 := zSr hG 0 0 1 (by decide +kernel)
  have r10 : zrx G 1 0 = 2 := zSr hG 1 0 2 (by decide +kernel)
  have r12 : zrx G 1 2 = 8 := zSr hG 1 2 8 (by decide +kernel)
  have k0 : zkd G 0 = 0 := zSk hG 0 0 (by decide +kernel)
  have k1 : zkd G 1 = 1 := zSk hG 1 1 (by decide +kernel)
  have k2 : zkd G 2 = 2 := zSk hG 2 2 (by decide +kernel)
  have k8 : zkd G 8 = 56 := zSk hG 8 56 (by decide +kernel)
  have l8 : zln G 8 = 10 := zSl hG 8 10 (by decide +kernel)
  by_cases page : 0 ≤ a ∧ a < X 1 12
  · obtain ⟨J, hJ⟩ : ∃ J : Int, zBd (zRb 1) (X 3) (X 2 1) = J := ⟨_, rfl⟩
    have a10 : a < 10 := by omega
    by_cases ok : J = -1 ∧ X 2 1 ≠ 0 ∧ X 2 1 ≤ 12
    · have good : ∀ j : Int, 0 ≤ j → j < X 2 1 → 0 ≤ zsg (X 3 j) := fun j j0 j1 => by
        have z := zFst_a (P := fun i => zRb 1 (X 3 i)) (X 2 1).toNat 0 (by omega) (by rw [← ok.1]; exact hJ) j j0 (by omega)
        have y : ¬(zsg (X 3 j) < 0) := fun c => z (zRb_s.2 c)
        omega
      have ho := zCa_at page.1 a10
      have r8 : zrx G 8 a = 53 + 5 * a := (zSR hG (b := 8) (c := 56) (j := a) (by decide +kernel) (by omega) rfl).trans ho.1
      have zd : zd0 (53 + 5 * a) 3 = true := by
        unfold zd0
        rw [ho.2]
        rfl
      refine ⟨zsz G + 2, ztt G + 4 + (X 2 1).toNat, by omega, by omega, by omega, by omega, D_name_e0 ⟨k0, q_dPage hG (fun _ _ => ⟨1, rfl, fun z => absurd z (by omega), fun _ => ?_⟩) (fun z => absurd z (by omega))⟩⟩
      rw [r00, r10, r12]
      refine ⟨k1, k2, takeRow_D hG hr (by omega) hJ (fun _ _ _ Y t => ⟨1, rfl, fun z => absurd z (by omega), fun _ => ?_⟩) (fun f p Y r _ => absurd r (by unfold zRwf; omega))⟩
      have y3 : Y 3 = X 3 := t.1 3 (by omega)
      have y5 : Y 5 = X 5 := t.1 5 (by omega)
      rw [r8]
      refine ⟨k8, page.1, by rw [l8]; exact a10, zsz G + 2, ztt G + 4 + (X 2 1).toNat, by omega, by omega, Nat.le_refl _, Nat.le_refl _, row_D2 hG t.2.2.1 (by omega) ok.2.2 (by rw [y5]; exact hc.2.2.2.2.2.2.1) (by rw [y5]; exact hc.2.2.2.2.2.2.2.1) (by rw [y5]; exact hc.2.2.2.2.2.2.2.2) (fun j j0 j1 => ?_) rfl rfl (fun G9 Z v g za z51 z53 zs1 zv => ?_)⟩
      · rw [y3]
        have z := zsg_v (good j j0 j1)
        omega
      have hG9 : SH G9 := g.2.1
      have hG0 : SH (zrs G9 (53 + 5 * a) 3 (zsz G : Int)) := SH_ref hG9 (Or.inr zd)
      refine ⟨g.2.2.1, g.2.2.2.1, _, rfl, (hG9.1 _ (by omega) (by omega)).1.trans ho.2, g.2.2.1, g.2.2.2.1, ?_⟩
      have za2 : ∀ b : Int, b < (zsz G : Int) → b ≠ 2 → b ≠ 5 → b ≠ 6 → Z b = X b := fun b hb b2 b5 b6 => (za b hb b5 b6).trans (t.1 b b2)
      have x140 : Z 140 = X 140 := za2 140 (by omega) (by omega) (by omega) (by omega)
      have x1 : Z 1 = X 1 := za2 1 (by omega) (by omega) (by omega) (by omega)
      refine M_name_f0 hG0 (begins_M hG0 (fun U m _ _ _ _ => ⟨rfl, ?_⟩))
      have um : ∀ i : Int, i ≠ 6 → i ≠ 7 → i ≠ 8 → U 140 i = X 140 i := fun i i6 i7 i8 => by rw [m.2.1 i i6 i7 i8, x140]
      have u1 : U 1 = X 1 := (m.1 1 (by omega) (by omega)).trans x1
      refine q_isPage hG0 (by rw [um 1 (by omega) (by omega) (by omega), u1]; exact hp) (fun _ _ => ⟨1, rfl, fun z => absurd z (by omega), fun _ => q_pageAt hG0 page.1 a10 ⟨_, rfl, named_M hG0 (L := X 3) (n := X 2 1) (J := J) hl.2.1 hl.2.2 (by rw [m.2.2.2.2.2, x140]; exact hl.1) m.2.2.2.1 (fun j j0 j1 => by rw [um _ (by omega) (by omega) (by omega)]; exact hb j j0 j1) hJ (by omega) (by omega) (fun _ _ _ W va vb vn vl => ⟨1, rfl, fun z => absurd z (by omega), fun _ => ⟨rfl, ?_⟩⟩) (fun f p r => absurd r (by unfold zRwf; omega))⟩⟩) (fun z => absurd z (by rw [u1]; omega))
      have wZ : ∀ b : Int, b ≠ 139 → b ≠ 140 → W b = Z b := fun b b9 b0 => (va b b0).trans (m.1 b b9 b0)
      have wK : ∀ b : Int, b < (zsz G : Int) → b ≠ 2 → b ≠ 5 → b ≠ 6 → b ≠ 139 → b ≠ 140 → W b = X b := fun b hb b2 b5 b6 b9 b0 => (wZ b b9 b0).trans (za2 b hb b2 b5 b6)
      have wB : ∀ i : Int, i ≠ 6 → i ≠ 7 → i ≠ 8 → ¬(2670 + 210 * a ≤ i ∧ i < 2683 + 210 * a) → W 140 i = X 140 i := fun i i6 i7 i8 ih => by
        rw [vb i (by omega)]
        exact um i i6 i7 i8
      have wb : ∀ i : Int, i = 6 ∨ i = 7 ∨ i = 8 → W 140 i = U 140 i := fun i hi => vb i (by omega)
      have x : zXs G X (zrs G9 (53 + 5 * a) 3 (zsz G : Int)) W (53 + 5 * a) 3 := zXs_new g (fun b c hb => wK b hb (by omega) (by omega) (by omega) (by omega) (by omega)) (wK 141 (by omega) (by omega) (by omega) (by omega) (by omega) (by omega)) (fun i hi => wB i (by omega) (by omega) (by omega) (by omega))
      have w5 : W 5 = Z 5 := wZ 5 (by omega) (by omega)
      have w2 : W 2 = Y 2 := (wZ 2 (by omega) (by omega)).trans (za 2 (by omega) (by omega) (by omega))
      have w1 : W 1 = X 1 := wK 1 (by omega) (by omega) (by omega) (by omega) (by omega) (by omega)
      refine ⟨hG0, ?_, ⟨fun p p0 p1 => ?_, fun p p0 p1 => ?_⟩, ⟨fun p j p0 p1 j0 j1 => ?_, fun p j p0 p1 j0 j1 => ?_⟩, zIgs_x hG x (by omega) hi, zKct_x hG x (by omega) (by rw [w5]; exact ⟨z51, by rw [z53]; omega, by rw [z53]; omega⟩) hc⟩
      · generalize hT : (fun b i : Int => if (b = 140 ∧ 2670 + 210 * a ≤ i ∧ i < 2683 + 210 * a) then X b i else W b i) = T
        have tp : ∀ b i : Int, (b = 140 ∧ 2670 + 210 * a ≤ i ∧ i < 2683 + 210 * a) → T b i = X b i := fun b i c => by rw [← hT]; exact if_pos c
        have tn : ∀ b i : Int, ¬(b = 140 ∧ 2670 + 210 * a ≤ i ∧ i < 2683 + 210 * a) → T b i = W b i := fun b i c => by rw [← hT]; exact if_neg c
        have tR : zRT T 1 0 := by
          refine zTd_RT (f := 0) (p := -1) hr (fun b i r ne => ?_) ?_ ?_ ?_ ?_ ?_ ?_ (by omega) (by omega)
          · by_cases c : b = 140 ∧ 2670 + 210 * a ≤ i ∧ i < 2683 + 210 * a
            · exact tp b i c
            · rw [tn b i c]
              by_cases c0 : b = 140
              · rw [c0]
                exact wB i (by omega) (by omega) (by omega) (by omega)
              · rw [wK b (by omega) (by omega) (by omega) (by omega) (by omega) c0]
          · rw [tn 2 1 (by omega), w2]
            exact t.2.1
          · rw [tn 140 6 (by omega), wb 6 (by omega)]
            exact m.2.2.1
          · rw [tn 2 2 (by omega), w2]
            exact t.2.2.2.1
          · rw [tn 140 7 (by omega), wb 7 (by omega)]
            exact m.2.2.2.1
          · rw [tn 2 3 (by omega), w2]
            exact t.2.2.2.2
          · rw [tn 140 8 (by omega), wb 8 (by omega)]
            exact m.2.2.2.2.1
        exact zU_name tR page.1 a10 (fun b i _ ne => (tn b i ne).symm)
      · by_cases c : p = a
        · rw [c, show (1 : Int) + 52 + 5 * a = 53 + 5 * a by omega, zrs_s, show (0 : Int) + 2670 + 210 * a = 2670 + 210 * a by omega]
          refine Or.inr (zNv_new (L := X 3) hG g (by omega) ?_ (fun i i0 i1 => ?_) (by omega) ok.2.2 vn vl good)
          · rw [wZ _ (by omega) (by omega)]
            exact zs1
          · rw [wZ _ (by have := g.1; omega) (by have := g.1; omega), zv i i0 i1, y3]
        · rw [x.2.2.1 (1 + 52 + 5 * p) 3 (by omega) (Or.inl (by omega))]
          exact zNas_x x (by omega) (fun i i0 i1 => wB _ (by omega) (by omega) (by omega) (by rcases (by omega : p < a ∨ a < p) with hx | hx <;> omega)) (hn.1 p p0 p1)
      · rw [w1] at p1
        rw [x.2.2.1 (1 + 22 + 6 * p) 1 (by omega) (Or.inr (by omega))]
        exact zNv_x x (by omega) (fun i i0 i1 => wB _ (by omega) (by omega) (by omega) (by omega)) (hn.2 p p0 p1)
      · rw [w1] at p0
        rw [x.2.2.1 (1 + 52 + 5 * p) 3 (by omega) (Or.inl (by omega)), wK _ (by omega) (by omega) (by omega) (by omega) (by omega) (by omega)]
        exact hf.1 p j p0 p1 j0 j1
      · rw [w1] at p0
        rw [x.2.2.1 (1 + 22 + 6 * p) 1 (by omega) (Or.inr (by omega)), wK _ (by omega) (by omega) (by omega) (by omega) (by omega) (by omega)]
        exact hf.2 p j p0 p1 j0 j1
    · refine ⟨zsz G, ztt G, Nat.le_refl _, by omega, Nat.le_refl _, by omega, D_name_e0 ⟨k0, q_dPage hG (fun _ _ => ⟨1, rfl, fun z => absurd z (by omega), fun _ => ?_⟩) (fun z => absurd z (by omega))⟩⟩
      rw [r00, r10, r12]
      refine ⟨k1, k2, takeRow_D hG hr (by omega) hJ (fun c1 c2 c3 => absurd ⟨c1, c2, c3⟩ ok) (fun f p Y r t => ⟨0, rfl, fun _ => ⟨rfl, rfl, ?_⟩, fun z => absurd rfl z⟩)⟩
      have p140 : Y 140 = X 140 := t.1 140 (by omega)
      have bf : 0 ≤ f ∧ f ≤ 4 ∧ -1 ≤ p ∧ p ≤ 500 := by
        have z := zBd_in (P := zRb 1) (L := X 3) hl.2.1
        unfold zRwf at r
        omega
      refine M_name_f0 hG (begins_M hG (fun U m _ _ _ _ => ⟨rfl, ?_⟩))
      have um : ∀ i : Int, i ≠ 6 → i ≠ 7 → i ≠ 8 → U 140 i = X 140 i := fun i i6 i7 i8 => by rw [m.2.1 i i6 i7 i8, p140]
      have u1 : U 1 = X 1 := (m.1 1 (by omega) (by omega)).trans (t.1 1 (by omega))
      refine q_isPage hG (by rw [um 1 (by omega) (by omega) (by omega), u1]; exact hp) (fun _ _ => ⟨1, rfl, fun z => absurd z (by omega), fun _ => q_pageAt hG page.1 a10 ⟨_, rfl, named_M hG (L := X 3) (n := X 2 1) (J := J) hl.2.1 hl.2.2 (by rw [m.2.2.2.2.2, p140]; exact hl.1) m.2.2.2.1 (fun j j0 j1 => by rw [um _ (by omega) (by omega) (by omega)]; exact hb j j0 j1) hJ (by omega) (by omega) (fun c1 c2 c3 => absurd ⟨c1, c2, c3⟩ ok) (fun f2 p2 r2 => ⟨0, rfl, fun _ => ⟨rfl, ?_⟩, fun z => absurd rfl z⟩)⟩⟩) (fun z => absurd z (by rw [u1]; omega))
      have ef : f2 = f ∧ p2 = p := by
        unfold zRwf at r r2
        omega
      rw [ef.1, ef.2]
      have z := zTt hr t (zTm_f (f2 := f) (p2 := p) m) ⟨bf.1, bf.2.1⟩ bf.2.2
      exact zRela_k hk z.1 z.2
  · refine ⟨zsz G, ztt G, Nat.le_refl _, by omega, Nat.le_refl _, by omega, D_name_e0 ⟨k0, q_dPage hG (fun z1 z2 => absurd ⟨z1, z2⟩ page) (fun _ => ⟨0, rfl, fun _ => ?_, fun z => absurd rfl z⟩)⟩⟩
    rw [r00, r10]
    refine ⟨k1, k2, take_D hG (fun Y t => ⟨rfl, rfl, rfl, M_name_f0 hG (begins_M hG (fun U m _ _ _ _ => ⟨rfl, ?_⟩))⟩)⟩
    have u1 : U 1 = X 1 := (m.1 1 (by omega) (by omega)).trans (t.1 1 (by omega))
    have u0 : U 140 1 = X 140 1 := by rw [m.2.1 1 (by omega) (by omega) (by omega), t.1 140 (by omega)]
    refine q_isPage hG (by rw [u0, u1]; exact hp) (fun z1 z2 => absurd ⟨z1, by rw [u1] at z2; exact z2⟩ page) (fun _ => ⟨0, rfl, fun _ => ⟨rfl, ?_⟩, fun z => absurd rfl z⟩)
    have z := zTt hr t m (by omega) (by omega)
    exact zRela_k hk z.1 z.2
