/-! ===== names: cells made anew; all that is related ===== -/
theorem znG_k {G : zG} {k l a : Int} {n : Nat} (h : a ≠ (zsz G : Int)) : zkd (znG G k l n) a = zkd G a := zup_n h
theorem znG_l {G : zG} {k l a : Int} {n : Nat} (h : a ≠ (zsz G : Int)) : zln (znG G k l n) a = zln G a := zup_n h
theorem znG_r {G : zG} {k l a : Int} {n : Nat} (h : a ≠ (zsz G : Int)) : zrx (znG G k l n) a = zrx G a := zup_n h
theorem znG_ks {G : zG} {k l : Int} {n : Nat} : zkd (znG G k l n) (zsz G : Int) = k := zup_s _ _ _
theorem znG_ls {G : zG} {k l : Int} {n : Nat} : zln (znG G k l n) (zsz G : Int) = l := zup_s _ _ _
theorem znX_r {G : zG} {X : zX} {a : Int} (h : a ≠ (zsz G : Int)) : znX G X a = X a := zup_n h
theorem zrs_n {G : zG} {a j v b i : Int} (h : b ≠ a ∨ i ≠ j) : zrx (zrs G a j v) b i = zrx G b i := zrd_n (X := zrx G) h
theorem zrs_s {G : zG} {a j v : Int} : zrx (zrs G a j v) a j = v := zrd_s (zrx G) a j v
theorem SH_new {G : zG} {k l : Int} {n : Nat} (h : SH G) : SH (znG G k l n) := by
  have e : 166 ≤ zsz G := h.2.2
  refine ⟨fun a a0 a1 => ?_, fun a j a0 a1 d => ?_, ?_⟩
  · have z := h.1 a a0 a1
    have ne : a ≠ (zsz G : Int) := by omega
    exact ⟨(znG_k ne).trans z.1, (znG_l ne).trans z.2⟩
  · have ne : a ≠ (zsz G : Int) := by omega
    rw [znG_r ne]
    exact h.2.1 a j a0 a1 d
  · show 166 ≤ zsz G + 1
    omega
theorem SH_ref {G : zG} {a j v : Int} (h : SH G) (d : 166 ≤ a ∨ zd0 a j = true) : SH (zrs G a j v) := by
  refine ⟨fun b b0 b1 => h.1 b b0 b1, fun b i b0 b1 e => ?_, h.2.2⟩
  have n : b ≠ a ∨ i ≠ j := by
    by_cases c : b = a
    · by_cases c2 : i = j
      · rcases d with d | d
        · omega
        · rw [c, c2, d] at e
          exact absurd e (by decide)
      · exact Or.inr c2
    · exact Or.inl c
  rw [zrs_n n]
  exact h.2.1 b i b0 b1 e
/-- a name: r the text's cell, b the row's place -/
def zNv (G : zG) (X : zX) (r b : Int) : Prop := 166 ≤ r ∧ r < (zsz G : Int) ∧ 166 ≤ zrx G r 0 ∧ zrx G r 0 < (zsz G : Int) ∧ zkd G r = 13 ∧ X r 1 = 0 ∧ zkd G (zrx G r 0) = 53 ∧ zln G (zrx G r 0) = X 140 b ∧ 1 ≤ X 140 b ∧ X 140 b ≤ 12 ∧ ∀ i : Int, 0 ≤ i → i < X 140 b → X 140 (b + 1 + i) = zsg (X (zrx G r 0) i) ∧ 0 ≤ zsg (X (zrx G r 0) i)
def zNas (G : zG) (X : zX) (r b : Int) : Prop := (r = -1 ∧ X 140 b = 0) ∨ zNv G X r b
def zNm2 (G : zG) (X : zX) (t B : Int) : Prop := (∀ p : Int, 0 ≤ p → p < 10 → zNas G X (zrx G (t + 52 + 5 * p) 3) (B + 2670 + 210 * p)) ∧ (∀ p : Int, 0 ≤ p → p < X t 11 → zNv G X (zrx G (t + 22 + 6 * p) 1) (B + 1870 + 160 * p))
/-- what is not told yet is as it was made -/
def zFrs (G : zG) (X : zX) (t : Int) : Prop := (∀ p k : Int, X t 12 ≤ p → p < 10 → 4 ≤ k → k ≤ 8 → X (t + 52 + 5 * p) k = 0 ∧ zrx G (t + 52 + 5 * p) 3 = -1) ∧ (∀ p k : Int, X t 11 ≤ p → p < 5 → 2 ≤ k → k ≤ 3 → X (t + 22 + 6 * p) k = 0 ∧ zrx G (t + 22 + 6 * p) 1 = -1)
/-- the shape of an image -/
def zTs (G : zG) (t : Int) : Prop := 166 ≤ t ∧ t + 102 ≤ (zsz G : Int) ∧ ∀ i : Int, 0 ≤ i → i < 102 → zkd G (t + i) = zk0 (1 + i) ∧ zln G (t + i) = zl0 (1 + i) ∧ ∀ j : Int, 0 ≤ j → zd0 (1 + i) j = false → zrx G (t + i) j = (if zr0 (1 + i) j = -1 then -1 else zr0 (1 + i) j + (t - 1))
def zIgs (G : zG) (X : zX) : Prop := (∀ k l : Int, 0 ≤ k → k < 3 → 0 ≤ l → l < 3 → k ≠ l → zrx G 103 k ≠ -1 → zrx G 103 k ≠ zrx G 103 l) ∧ ∀ k : Int, 0 ≤ k → k < 3 → (X 141 k = 0 ∧ zrx G 103 k = -1) ∨ (X 141 k = 1 ∧ zTs G (zrx G 103 k) ∧ zRT X (zrx G 103 k) (5520 * (k + 1)) ∧ zNm2 G X (zrx G 103 k) (5520 * (k + 1)) ∧ zFrs G X (zrx G 103 k))
/-- the constant text, the builder -/
def zKct (G : zG) (X : zX) : Prop := zkd G (-3) = 15 ∧ zrx G (-3) 0 = -4 ∧ zkd G (-4) = 53 ∧ zln G (-4) = 79 ∧ X (-3) 1 = 0 ∧ (∀ i : Int, 0 ≤ i → i < 79 → X (-4) i = zWt i) ∧ X 5 1 = 0 ∧ 0 ≤ X 5 3 ∧ X 5 3 ≤ 12
def zRela (G : zG) (X : zX) : Prop := SH G ∧ zRT X 1 0 ∧ zNm2 G X 1 0 ∧ zFrs G X 1 ∧ zIgs G X ∧ zKct G X
/-- later: cells made anew, the reference a j anew -/
def zXs (G : zG) (X : zX) (G2 : zG) (X2 : zX) (a j : Int) : Prop := zsz G ≤ zsz G2 ∧ (∀ b : Int, b < (zsz G : Int) → zkd G2 b = zkd G b ∧ zln G2 b = zln G b) ∧ (∀ b i : Int, b < (zsz G : Int) → (b ≠ a ∨ i ≠ j) → zrx G2 b i = zrx G b i) ∧ (∀ b : Int, b < 0 ∨ 166 ≤ b → b < (zsz G : Int) → X2 b = X b) ∧ X2 141 = X 141 ∧ (∀ i : Int, 5520 ≤ i → X2 140 i = X 140 i)
theorem zNv_x {G G2 : zG} {X X2 : zX} {a j r b : Int} (x : zXs G X G2 X2 a j) (ha : a < 166) (hb : ∀ i : Int, 0 ≤ i → i < 13 → X2 140 (b + i) = X 140 (b + i)) (h : zNv G X r b) : zNv G2 X2 r b := by
  obtain ⟨h1, h2, h3, h4, h5, h6, h7, h8, h9, h10, h11⟩ := h
  obtain ⟨x1, x2, x3, x4, x5, x6⟩ := x
  have er : zrx G2 r 0 = zrx G r 0 := x3 r 0 h2 (Or.inl (by omega))
  have eb : X2 140 b = X 140 b := by
    have z := hb 0 (by omega) (by omega)
    rw [show b + 0 = b by omega] at z
    exact z
  unfold zNv
  rw [er, eb, (x2 r h2).1, (x2 _ h4).1, (x2 _ h4).2, x4 r (by omega) h2, x4 _ (by omega) h4]
  refine ⟨h1, by omega, h3, by omega, h5, h6, h7, h8, h9, h10, fun i i0 i1 => ?_⟩
  have z := h11 i i0 i1
  rw [show b + 1 + i = b + (1 + i) by omega] at z ⊢
  rw [hb (1 + i) (by omega) (by omega)]
  exact z
theorem zNas_x {G G2 : zG} {X X2 : zX} {a j r b : Int} (x : zXs G X G2 X2 a j) (ha : a < 166) (hb : ∀ i : Int, 0 ≤ i → i < 13 → X2 140 (b + i) = X 140 (b + i)) (h : zNas G X r b) : zNas G2 X2 r b := by
  rcases h with h | h
  · refine Or.inl ⟨h.1, ?_⟩
    have z := hb 0 (by omega) (by omega)
    rw [show b + 0 = b by omega] at z
    rw [z]
    exact h.2
  · exact Or.inr (zNv_x x ha hb h)
theorem zNm2_x {G G2 : zG} {X X2 : zX} {a j t B : Int} (x : zXs G X G2 X2 a j) (ha : a < 166) (ht : 166 ≤ t) (ht2 : t + 102 ≤ (zsz G : Int)) (hB : 5520 ≤ B) (c2 : X t 11 ≤ 5) (h : zNm2 G X t B) : zNm2 G2 X2 t B := by
  have et : X2 t = X t := x.2.2.2.1 t (by omega) (by omega)
  refine ⟨fun p p0 p1 => ?_, fun p p0 p1 => ?_⟩
  · rw [x.2.2.1 (t + 52 + 5 * p) 3 (by omega) (Or.inl (by omega))]
    exact zNas_x x ha (fun i i0 i1 => x.2.2.2.2.2 _ (by omega)) (h.1 p p0 p1)
  · rw [et] at p1
    rw [x.2.2.1 (t + 22 + 6 * p) 1 (by omega) (Or.inl (by omega))]
    exact zNv_x x ha (fun i i0 i1 => x.2.2.2.2.2 _ (by omega)) (h.2 p p0 p1)
theorem zFrs_x {G G2 : zG} {X X2 : zX} {a j t : Int} (x : zXs G X G2 X2 a j) (ha : a < 166) (ht : 166 ≤ t) (ht2 : t + 102 ≤ (zsz G : Int)) (c1 : 0 ≤ X t 12) (c2 : 0 ≤ X t 11) (h : zFrs G X t) : zFrs G2 X2 t := by
  have et : X2 t = X t := x.2.2.2.1 t (by omega) (by omega)
  refine ⟨fun p k p0 p1 k0 k1 => ?_, fun p k p0 p1 k0 k1 => ?_⟩
  · rw [et] at p0
    rw [x.2.2.1 (t + 52 + 5 * p) 3 (by omega) (Or.inl (by omega)), x.2.2.2.1 (t + 52 + 5 * p) (by omega) (by omega)]
    exact h.1 p k p0 p1 k0 k1
  · rw [et] at p0
    rw [x.2.2.1 (t + 22 + 6 * p) 1 (by omega) (Or.inl (by omega)), x.2.2.2.1 (t + 22 + 6 * p) (by omega) (by omega)]
    exact h.2 p k p0 p1 k0 k1
theorem zTs_x {G G2 : zG} {X X2 : zX} {a j t : Int} (x : zXs G X G2 X2 a j) (ha : a < 166) (h : zTs G t) : zTs G2 t := by
  obtain ⟨h1, h2, h3⟩ := h
  refine ⟨h1, by have := x.1; omega, fun i i0 i1 => ?_⟩
  have z := h3 i i0 i1
  rw [(x.2.1 (t + i) (by omega)).1, (x.2.1 (t + i) (by omega)).2]
  refine ⟨z.1, z.2.1, fun k kk d => ?_⟩
  rw [x.2.2.1 (t + i) k (by omega) (Or.inl (by omega))]
  exact z.2.2 k kk d
theorem zRT_in {X : zX} {t B : Int} (h : zRT X t B) : 0 ≤ X t 12 ∧ X t 12 ≤ 10 ∧ 0 ≤ X t 11 ∧ X t 11 ≤ 5 := by
  have z1 := h.1 1 (by omega) (by omega)
  have z0 := h.1 0 (by omega) (by omega)
  rw [show t + 0 = t by omega] at z1 z0
  have y1 : 0 ≤ X t 12 := z1.2.1
  have y2 : X t 12 ≤ 10 := z1.2.2.2.1 rfl
  have y3 : 0 ≤ X t 11 := z0.2.1
  have y4 : X t 11 ≤ 5 := z0.2.2.1 rfl
  exact ⟨y1, y2, y3, y4⟩
theorem zIgs_x {G G2 : zG} {X X2 : zX} {a j : Int} (hG : SH G) (x : zXs G X G2 X2 a j) (ha : a < 103) (h : zIgs G X) : zIgs G2 X2 := by
  have hs := hG.2.2
  have er : ∀ k : Int, zrx G2 103 k = zrx G 103 k := fun k => x.2.2.1 103 k (by omega) (Or.inl (by omega))
  refine ⟨fun k l k0 k1 l0 l1 kl n => ?_, fun k k0 k1 => ?_⟩
  · rw [er k] at n
    rw [er k, er l]
    exact h.1 k l k0 k1 l0 l1 kl n
  · rw [er, x.2.2.2.2.1]
    rcases h.2 k k0 k1 with c | ⟨c1, c2, c3, c4, c5⟩
    · exact Or.inl c
    · have b1 := c2.1
      have b2 := c2.2.1
      have n := zRT_in c3
      exact Or.inr ⟨c1, zTs_x x (by omega) c2, zRT_congr (fun b b0 b1 => x.2.2.2.1 b (by omega) (by omega)) (fun i i0 i1 => x.2.2.2.2.2 i (by omega)) c3, zNm2_x x (by omega) b1 b2 (by omega) n.2.2.2 c4, zFrs_x x (by omega) b1 b2 n.1 n.2.2.1 c5⟩
theorem zKct_x {G G2 : zG} {X X2 : zX} {a j : Int} (hG : SH G) (x : zXs G X G2 X2 a j) (ha : 0 ≤ a) (b : X2 5 1 = 0 ∧ 0 ≤ X2 5 3 ∧ X2 5 3 ≤ 12) (h : zKct G X) : zKct G2 X2 := by
  have hs := hG.2.2
  obtain ⟨h1, h2, h3, h4, h5, h6, _⟩ := h
  refine ⟨(x.2.1 (-3) (by omega)).1.trans h1, (x.2.2.1 (-3) 0 (by omega) (Or.inl (by omega))).trans h2, (x.2.1 (-4) (by omega)).1.trans h3, (x.2.1 (-4) (by omega)).2.trans h4, ?_, ?_, b⟩
  · rw [x.2.2.2.1 (-3) (by omega) (by omega)]
    exact h5
  · rw [x.2.2.2.1 (-4) (by omega) (by omega)]
    exact h6
/-- after a call that makes no cell -/
theorem zRela_k {G : zG} {X X2 : zX} (h : zRela G X) (r : zRT X2 1 0) (k : zKp X X2) : zRela G X2 := by
  obtain ⟨hG, hr, hn, hf, hi, hc⟩ := h
  obtain ⟨k1, k2, k3, k4, k5, k6, k7, k8, k9⟩ := k
  have x : zXs G X G X2 0 0 := ⟨Nat.le_refl _, fun _ _ => ⟨rfl, rfl⟩, fun _ _ _ _ => rfl, fun b c _ => k1 b (by omega), k3, k2⟩
  have q1 := q_pages hr
  have q2 := q_houses hr
  refine ⟨hG, r, ⟨fun p p0 p1 => ?_, fun p p0 p1 => ?_⟩, ⟨fun p j p0 p1 j0 j1 => ?_, fun p j p0 p1 j0 j1 => ?_⟩, zIgs_x hG x (by omega) hi, zKct_x hG x (by omega) ?_ hc⟩
  · refine zNas_x x (by omega) (fun i i0 i1 => ?_) (hn.1 p p0 p1)
    have z := k5 p i p0 p1 i0 i1
    rw [show (0 : Int) + 2670 + 210 * p + i = 2670 + 210 * p + i by omega]
    exact z
  · rw [k6] at p1
    refine zNv_x x (by omega) (fun i i0 i1 => ?_) (hn.2 p p0 p1)
    have z := k4 p i p0 (by omega) i0 i1
    rw [show (0 : Int) + 1870 + 160 * p + i = 1870 + 160 * p + i by omega]
    exact z
  · rw [k7] at p0
    have z := hf.1 p j p0 p1 j0 j1
    rw [show (1 : Int) + 52 + 5 * p = 53 + 5 * p by omega] at z ⊢
    rw [k8 p p0 p1]
    exact z
  · rw [k6] at p0
    have z := hf.2 p j p0 p1 j0 j1
    rw [show (1 : Int) + 22 + 6 * p = 23 + 6 * p by omega] at z ⊢
    rw [k9 p p0 p1]
    exact z
  · rw [k1 5 (by omega)]
    exact hc.2.2.2.2.2.2
/-- the text is made -/
theorem row_D {LC LS : Nat} {Q : List zV → zG → zX → Prop} {G : zG} {X : zX} {n : Int} (hG : SH G) (e4 : X 2 4 = n) (n0 : 1 ≤ n) (n1 : n ≤ 12) (b1 : X 5 1 = 0) (b3 : 0 ≤ X 5 3) (b4 : X 5 3 ≤ 12) (hb : ∀ j : Int, 0 ≤ j → j < n → 0 ≤ X 3 j ∧ X 3 j ≤ 127) (eC : LC = zsz G + 2) (eS : LS = ztt G + 4 + n.toNat)
    (q : ∀ (X2 : zX) (v : Int), v = (zsz G : Int) + 1 → (∀ b : Int, b < (zsz G : Int) → b ≠ 5 → b ≠ 6 → X2 b = X b) → X2 5 1 = 0 → X2 5 3 = n → X2 (zsz G : Int) 1 = 0 → (∀ j : Int, 0 ≤ j → j < n → X2 v j = X 3 j) → Q [zR (zsz G : Int)] (zrs (znG (znG G 13 0 4) 53 n n.toNat) (zsz G : Int) 0 v) X2) : Ta_row LC LS [zR 2] G X Q := by
  have hs := hG.2.2
  have r26 : zrx G 2 6 = 5 := zSr hG 2 6 5 (by decide +kernel)
  have r20 : zrx G 2 0 = 3 := zSr hG 2 0 3 (by decide +kernel)
  have r50 : zrx G 5 0 = 6 := zSr hG 5 0 6 (by decide +kernel)
  have k2 : zkd G 2 = 2 := zSk hG 2 2 (by decide +kernel)
  have k5 : zkd G 5 = 14 := zSk hG 5 14 (by decide +kernel)
  have k3 : zkd G 3 = 51 := zSk hG 3 51 (by decide +kernel)
  have k6 : zkd G 6 = 53 := zSk hG 6 53 (by decide +kernel)
  have l3 : zln G 3 = 500 := zSl hG 3 500 (by decide +kernel)
  have l6 : zln G 6 = 16 := zSl hG 6 16 (by decide +kernel)
  have s16 : zshr 16 0 = 16 := by decide +kernel
  have ens : ∀ (x : Int) (Y : zX) (R : List zV → zX → Prop), Y 5 1 = 0 → 0 ≤ x → x ≤ 16 → R [] Y → AB_ensureCapacityInternal [zR 5, zI x] G Y R := fun x Y R y1 x0 x1 r => AB_ensureCapacityInternal_e0 (by
    rw [r50, l6, y1, s16, k6]
    exact ⟨k5, by omega, by omega, fun z => absurd z (by rw [zw_id (by omega) (by omega)]; omega), fun _ => r⟩)
  have app : ∀ (c k : Int) (Y : zX) (R : List zV → zX → Prop), Y 5 1 = 0 → Y 5 3 = k → 0 ≤ k → k ≤ 11 → 0 ≤ c → c ≤ 127 → R [zR 5] (zst (zst Y 5 3 (k + 1)) 6 k c) → SB_append [zR 5, zI c] G Y R := fun c k Y R y1 y3 i0 i1 c0 c1 r => by
    refine SB_append_e0 ⟨k5, AB_append_e0 ⟨k5, ?_⟩⟩
    rw [y3, zw_id (x := k + 1) (by omega) (by omega)]
    refine ens (k + 1) Y _ y1 (by omega) (by omega) ⟨rfl, AB_isLatin1_e0 ⟨k5, fun _ => ⟨1, rfl, fun z => absurd z (by omega), fun _ => SL_canEncode_e0 ⟨fun z => absurd z (by omega), fun _ => ⟨1, rfl, fun z => absurd z (by omega), fun _ => ?_⟩⟩⟩, fun z => absurd y1 z⟩⟩
    rw [r50, l6, y3]
    refine ⟨k6, by omega, by omega, by omega, fun X13 e => ⟨5, rfl, ?_⟩⟩
    rw [zw_id (x := k + 1) (by omega) (by omega), show ((c + 128) % 256 - 128 + 128) % 256 - 128 = c by omega] at e
    rw [e]
    exact r
  have f44 : ∀ Y : zX, (∀ b : Int, b ≠ 5 → b ≠ 6 → Y b = X b) → Y 5 1 = 0 → Y 5 3 = n → (∀ j : Int, 0 ≤ j → j < n → Y 6 j = X 3 j) → Ta_row_W LC LS Q 44 [zR 2, zT] [] G Y := fun Y ya y1 y3 y6 => by
    refine Ta_row_e44 ?_
    rw [r26]
    refine ⟨k2, k5, LC, LS, by omega, by omega, Nat.le_refl _, Nat.le_refl _, SB_toString_e0 ⟨by omega, by omega, znG_ks, LC, LS, ?_, ?_, Nat.le_refl _, Nat.le_refl _, S_init_e0 ⟨znG_ks, LC, LS, ?_, ?_, Nat.le_refl _, Nat.le_refl _, S_init2_e0 ?_⟩⟩⟩
    · show zsz G + 1 ≤ LC
      omega
    · show ztt G + 4 ≤ LS
      omega
    · show zsz G + 1 ≤ LC
      omega
    · show ztt G + 4 ≤ LS
      omega
    have n5 : (5 : Int) ≠ (zsz G : Int) := by omega
    have n6 : (6 : Int) ≠ (zsz G : Int) := by omega
    have k5b : zkd (znG G 13 0 4) 5 = 14 := (znG_k n5).trans k5
    have k6b : zkd (znG G 13 0 4) 6 = 53 := (znG_k n6).trans k6
    have l6b : zln (znG G 13 0 4) 6 = 16 := (znG_l n6).trans l6
    have r5b : zrx (znG G 13 0 4) 5 0 = 6 := by rw [znG_r n5]; exact r50
    have x5 : znX G Y 5 = Y 5 := znX_r n5
    have eN : zw (n - 0) = n := by rw [Int.sub_zero]; exact zw_id (by omega) (by omega)
    have sz1 : (zsz (znG G 13 0 4) : Int) = (zsz G : Int) + 1 := by
      show ((zsz G + 1 : Nat) : Int) = _
      omega
    have n61 : (6 : Int) ≠ (zsz (znG G 13 0 4) : Int) := by omega
    refine ⟨by omega, k5b, AB_getValue_e0 ⟨k5b, 6, by rw [r5b], SB_length_e0 ⟨k5b, AB_length_e0 ⟨k5b, n, by rw [x5, y3], n, rfl, AB_isLatin1_e0 ⟨k5b, fun _ => ⟨1, rfl, fun z => absurd z (by omega), fun _ => ⟨znG_ks, LC, LS, ?_, ?_, Nat.le_refl _, Nat.le_refl _, AR_copyOfRange_e0 ⟨fun _ => ?_, fun z => absurd rfl z⟩⟩⟩, fun z => absurd (by rw [x5]; exact y1) z⟩⟩⟩⟩⟩
    · show zsz G + 1 ≤ LC
      omega
    · show ztt G + 4 ≤ LS
      omega
    rw [k6b, l6b]
    refine ⟨by omega, by omega, fun z => absurd z (by omega), fun _ => AR_copyOfRange_e10 ⟨LC, LS, ?_, ?_, Nat.le_refl _, Nat.le_refl _, AR_copyOfRangeByte_e0 (AR_checkLength_e0 ⟨fun z => absurd z (by omega), fun _ => ⟨rfl, ?_⟩⟩)⟩⟩
    · show zsz G + 1 ≤ LC
      omega
    · show ztt G + 4 ≤ LS
      omega
    rw [eN, znG_k n61, znG_l n61, k6b, l6b, znG_ks, znG_ls]
    refine ⟨by omega, by omega, ?_, ?_, by omega, by omega, fun r5 er => ?_⟩
    · show zsz G + 1 + 1 ≤ LC
      omega
    · show ztt G + 4 + n.toNat ≤ LS
      omega
    have e5 : r5 = n := by
      rw [er, show zw (16 - 0) = 16 from zw_id (by omega) (by omega)]
      omega
    rw [e5]
    have hC2 : zsz (znG (znG G 13 0 4) 53 n n.toNat) = LC := by
      show zsz G + 1 + 1 = LC
      omega
    have hS2 : ztt (znG (znG G 13 0 4) 53 n n.toNat) = LS := by
      show ztt G + 4 + n.toNat = LS
      omega
    have kS : zkd (znG (znG G 13 0 4) 53 n n.toNat) (zsz G : Int) = 13 := (znG_k (by omega)).trans znG_ks
    have xr : ∀ (f : Int → Int) (b : Int), b < (zsz G : Int) → zsa (znX (znG G 13 0 4) (zst (znX G Y) (zsz G : Int) 1 0)) (zsz (znG G 13 0 4) : Int) f b = Y b := fun f b hb => (zup_n (by omega)).trans ((znX_r (by omega)).trans ((zrd_r (by omega)).trans (znX_r (by omega))))
    refine ⟨rfl, rfl, by omega, by omega, by omega, by omega, by omega, by omega, by omega, ?_⟩
    refine ⟨hC2, hS2, _, rfl, hC2, hS2, _, rfl, kS, hC2, hS2, rfl, hC2, hS2, rfl, hC2, hS2, _, rfl, ?_⟩
    refine q _ _ sz1 (fun b hb b5 b6 => (xr _ b hb).trans (ya b b5 b6)) ((congrFun (xr _ 5 (by omega)) 1).trans y1) ((congrFun (xr _ 5 (by omega)) 3).trans y3) ?_ (fun j j0 j1 => ?_)
    · refine (congrFun ((zup_n (by omega)).trans (znX_r (by omega))) 1).trans ?_
      exact zrd_s _ _ _ _
    · refine (congrFun (zup_s _ _ _) j).trans ?_
      show (if (0 : Int) ≤ j ∧ j < 0 + n then znX (znG G 13 0 4) (zst (znX G Y) (zsz G : Int) 1 0) 6 (0 + (j - 0)) else _) = X 3 j
      rw [if_pos ⟨j0, by omega⟩, znX_r n61, zrd_r (by omega), znX_r n6, show (0 : Int) + (j - 0) = j by omega]
      exact y6 j j0 j1
  have lp : ∀ (d : Nat) (i : Int) (Y : zX), i + d = n → 0 ≤ i → (∀ b : Int, b ≠ 5 → b ≠ 6 → Y b = X b) → Y 5 1 = 0 → Y 5 3 = i → (∀ j : Int, 0 ≤ j → j < i → Y 6 j = X 3 j) → Ta_row_W LC LS Q 10 [zR 2, zI i] [] G Y := by
    intro d
    induction d with
    | zero =>
      intro i Y e i0 ya y1 y3 y6
      have y2 : Y 2 = X 2 := ya 2 (by omega) (by omega)
      refine Ta_row_e10 ?_
      rw [y2, e4]
      exact ⟨k2, fun z => absurd z (by omega), fun _ => f44 Y ya y1 (by omega) (fun j j0 j1 => y6 j j0 (by omega))⟩
    | succ d ih =>
      intro i Y e i0 ya y1 y3 y6
      have y2 : Y 2 = X 2 := ya 2 (by omega) (by omega)
      have yc : Y 3 = X 3 := ya 3 (by omega) (by omega)
      have bi := hb i i0 (by omega)
      refine Ta_row_e10 ?_
      rw [y2, e4, r20, r26, k3, l3, yc]
      refine ⟨k2, fun _ => ⟨fun _ => ⟨rfl, i0, by omega, k5, app (X 3 i) i Y _ y1 y3 i0 (by omega) bi.1 bi.2 ⟨5, rfl, ?_⟩⟩, fun z => absurd z (by omega)⟩, fun z => absurd z (by omega)⟩
      rw [zw_id (x := i + 1) (by omega) (by omega)]
      refine ih (i + 1) _ (by omega) (by omega) (fun b b5 b6 => by rw [zrd_r b6, zrd_r b5]; exact ya b b5 b6) ?_ ?_ (fun j j0 j1 => ?_)
      · rw [zrd_n (by omega), zrd_n (by omega)]
        exact y1
      · rw [zrd_n (by omega), zrd_s]
      · by_cases c : j = i
        · rw [c, zrd_s]
        · rw [zrd_n (by omega), zrd_n (by omega)]
          exact y6 j j0 (by omega)
  have st : ∀ Y : zX, (∀ b : Int, b ≠ 5 → Y b = X b) → Y 5 1 = 0 → Ta_row_W LC LS Q 10 [zR 2, zI 0] [] G (zst Y 5 3 0) := fun Y ya y1 => lp n.toNat 0 _ (by omega) (by omega) (fun b b5 _ => by rw [zrd_r b5]; exact ya b b5) (by rw [zrd_n (by omega)]; exact y1) (zrd_s _ _ _ _) (fun j j0 j1 => absurd j1 (by omega))
  refine Ta_row_e0 ?_
  rw [r26]
  refine ⟨k2, k5, SB_setLength_e0 ⟨k5, AB_setLength_e0 ⟨fun z => absurd z (by omega), fun _ => ⟨k5, ens 0 X _ b1 (by omega) (by omega) ⟨rfl, fun z => absurd z (by omega), fun _ => ⟨fun lt => AB_setLength_e76 ⟨k5, rfl, rfl, ?_⟩, fun ge => AB_setLength_e76 ⟨k5, rfl, rfl, ?_⟩⟩⟩⟩⟩⟩⟩
  · exact st _ (fun b b5 => zrd_r b5) (by rw [zrd_n (by omega)]; exact b1)
  · exact st X (fun _ _ => rfl) b1
theorem zRb_s {c : Int} : zRb 1 c ↔ zsg c < 0 := by
  unfold zRb
  constructor
  · intro h
    rw [zsg_n h.1 (fun z => h.2 ⟨by omega, z.1, z.2⟩)]
    omega
  · intro h
    refine ⟨fun z => ?_, fun z => ?_⟩
    · rw [zsg_l z] at h
      omega
    · rw [zsg_d z.2] at h
      omega
theorem zsg_v {c : Int} (h : 0 ≤ zsg c) : 48 ≤ c ∧ c ≤ 122 := by
  by_cases a : 97 ≤ c ∧ c ≤ 122
  · omega
  · by_cases b : 48 ≤ c ∧ c ≤ 57
    · omega
    · rw [zsg_n a b] at h
      omega
theorem zFst_a {P : Int → Prop} : ∀ (d : Nat) (k : Int), 0 ≤ k → zFst P d k = -1 → ∀ j : Int, k ≤ j → j < k + d → ¬P j
  | 0, k, _, _, j, j0, j1 => absurd j1 (by omega)
  | d + 1, k, k0, h, j, j0, j1 => fun p => by
    by_cases c : P k
    · rw [zFst_p c] at h
      omega
    · rw [zFst_n c] at h
      by_cases e : j = k
      · rw [e] at p
        exact c p
      · exact zFst_a d (k + 1) (by omega) h j (by omega) (by omega) p
/-- the reference reads a name into place b -/
theorem named_M {Q : List zV → zX → Prop} {G : zG} {X : zX} {L : Int → Int} {n J b : Int} (hG : SH G) (n0 : 0 ≤ n) (n5 : n ≤ 500) (en : X 139 2 = n) (e7 : X 140 7 = 0) (hb : ∀ j : Int, 0 ≤ j → j < n → X 140 (70 + j) = L j) (hJ : zBd (zRb 1) L n = J) (b0 : 600 ≤ b) (b1 : b ≤ 22000)
    (q1 : J = -1 → n ≠ 0 → n ≤ 12 → ∀ X2 : zX, (∀ a : Int, a ≠ 140 → X2 a = X a) → (∀ i : Int, ¬(b ≤ i ∧ i ≤ b + n) → X2 140 i = X 140 i) → X2 140 b = n → (∀ j : Int, 0 ≤ j → j < n → X2 140 (b + 1 + j) = zsg (L j)) → Q [zI 1] X2)
    (q0 : ∀ f p : Int, zRwf J n 12 f p → Q [zI 0] (zst (zst X 140 7 f) 140 8 p)) : M_named [zR 139, zI b] G X Q := by
  have j1 : -1 ≤ J := by
    have z := zBd_in (P := zRb 1) (L := L) n0
    omega
  have bad : ∀ f p : Int, zRwf J n 12 f p → M_named_W Q 146 [zR 139, zT, zT, zT] [] G (zst (zst X 140 7 f) 140 8 p) := fun f p r => by
    refine M_named_f146 hG ?_
    rw [show zst (zst X 140 7 f) 140 8 p 140 7 = f by rw [zrd_n (by omega), zrd_s]]
    exact ⟨fun z => absurd r (by unfold zRwf; omega), fun _ => q0 f p r⟩
  have lp2 : J = -1 → n ≠ 0 → n ≤ 12 → ∀ (d : Nat) (i : Int) (U : zX), i + d = n → 0 ≤ i → (∀ a : Int, a ≠ 140 → U a = X a) → (∀ k : Int, ¬(b ≤ k ∧ k ≤ b + i) → U 140 k = X 140 k) → U 140 b = n → (∀ j : Int, 0 ≤ j → j < i → U 140 (b + 1 + j) = zsg (L j)) → M_named_W Q 114 [zR 139, zI b, zT, zI i] [] G U := by
    intro cJ cn c12 d
    induction d with
    | zero =>
      intro i U e i0 ua ub un ul
      have ei : i = n := by omega
      rw [ei] at ub ul
      refine M_named_f114 hG ⟨fun z => absurd z (by rw [ua 139 (by omega), en]; omega), fun _ => M_named_f146 hG ⟨fun _ => q1 cJ cn c12 U ua ub un ul, fun z => absurd ((ub 7 (by omega)).trans e7) z⟩⟩
    | succ d ih =>
      intro i U e i0 ua ub un ul
      have ev : U 140 (70 + i) = L i := (ub _ (by omega)).trans (hb i i0 (by omega))
      refine M_named_f114 hG ⟨fun _ => ⟨zw_id (by omega) (by omega), zw_id (by omega) (by omega), q_byte hG i0 (by rw [ua 139 (by omega), en]; omega) (by omega) ⟨_, rfl, q_mSign hG ⟨_, rfl, by omega, by omega, zw_id (by omega) (by omega), ?_⟩⟩⟩, fun z => absurd z (by rw [ua 139 (by omega), en]; omega)⟩
      rw [ev]
      refine ih (i + 1) _ (by omega) (by omega) (fun a ha => by rw [zrd_r ha]; exact ua a ha) (fun k hk => by rw [zrd_n (by omega)]; exact ub k (by omega)) (by rw [zrd_n (by omega)]; exact un) (fun j j0 j1 => ?_)
      by_cases c : j = i
      · rw [c, zrd_s]
      · rw [zrd_n (by omega)]
        exact ul j j0 (by omega)
  have f35 : M_named_W Q 35 [zR 139, zI b, zI J, zT] [] G X := by
    refine M_named_f35 hG ?_
    rw [en]
    refine ⟨fun lt => ⟨fun z => M_named_f46 hG ⟨fun _ => M_named_f69 hG rfl ⟨by omega, by show (8 : Int) < 22080; omega, bad 1 0 (Or.inr (Or.inl ⟨by omega, z, rfl, rfl⟩))⟩, fun y => absurd y (by omega)⟩, fun z => ⟨fun big => bad 2 12 (Or.inr (Or.inr ⟨by omega, z, big, rfl, rfl⟩)), fun sm => ⟨by omega, by omega, ?_⟩⟩⟩, fun ge => M_named_f46 hG ⟨fun y => absurd y (by omega), fun _ => M_named_f69 hG rfl ⟨by omega, by show (8 : Int) < 22080; omega, bad 1 J (Or.inl ⟨ge, rfl, rfl⟩)⟩⟩⟩
    exact lp2 (by omega) z sm n.toNat 0 _ (by omega) (by omega) (fun a ha => zrd_r ha) (fun k hk => zrd_n (by omega)) (zrd_s _ _ _ _) (fun j j0 j1 => absurd j1 (by omega))
  have lp : ∀ (d : Nat) (i : Int), i + d = n → 0 ≤ i → zFst (fun i => zRb 1 (L i)) d i = J → M_named_W Q 4 [zR 139, zI b, zI (-1), zI i] [] G X := by
    intro d
    induction d with
    | zero =>
      intro i e i0 f
      have f2 : (-1 : Int) = J := f
      rw [← f2] at f35
      exact M_named_f4 hG ⟨fun z => absurd z (by omega), fun _ => f35⟩
    | succ d ih =>
      intro i e i0 f
      have ev : X 140 (70 + i) = L i := hb i i0 (by omega)
      refine M_named_f4 hG ⟨fun _ => ⟨fun _ => q_byte hG i0 (by omega) (by omega) ⟨_, rfl, ?_⟩, fun z => absurd z (by omega)⟩, fun z => absurd z (by omega)⟩
      rw [ev]
      refine q_mSign hG ⟨_, rfl, fun lt => ⟨zw_id (by omega) (by omega), ?_⟩, fun ge => ⟨zw_id (by omega) (by omega), ?_⟩⟩
      · rw [zFst_p (P := fun i => zRb 1 (L i)) (zRb_s.2 lt)] at f
        rw [← f] at f35
        exact M_named_f4 hG ⟨fun _ => ⟨fun z => absurd z (by omega), fun _ => f35⟩, fun _ => f35⟩
      · rw [zFst_n (P := fun i => zRb 1 (L i)) (fun z => absurd (zRb_s.1 z) (by omega))] at f
        exact ih (i + 1) (by omega) (by omega) f
  exact M_named_f0 hG (lp n.toNat 0 (by omega) (by omega) hJ)
