/-! ===== behind both constructors (wip/whole/gen_begin.py) ===== -/
def zLDs : List (Int × Int × Int) := [(0, 0, 1), (0, 1, 103), (105, 0, 106), (105, 1, 107), (105, 2, 108), (105, 3, 109), (105, 4, 110), (104, 0, 105), (111, 0, 112), (111, 1, 113), (111, 2, 114), (111, 3, 115), (111, 4, 116), (104, 1, 111), (104, 2, 117), (104, 3, 118), (104, 4, 1), (0, 2, 104), (120, 0, 121), (119, 0, 120), (119, 1, 1), (119, 2, 104), (0, 3, 119), (122, 0, 123), (122, 1, 124), (122, 2, 125), (122, 3, 126), (122, 4, 127), (122, 5, 128), (122, 6, 129), (0, 4, 122), (130, 0, 131), (130, 1, 132), (130, 2, 133), (0, 5, 130), (134, 0, 135), (0, 6, 134), (0, 7, 136), (0, 8, 137), (0, 9, 138)]
def zLMs : List (Int × Int × Int) := [(139, 0, 140), (139, 1, 141), (139, 12, 142), (139, 13, 143), (139, 14, 144), (139, 16, 145), (139, 17, 146), (139, 18, 147), (139, 19, 148), (139, 20, 149), (139, 21, 150), (139, 22, 151), (139, 23, 152), (139, 24, 153), (139, 25, 154), (139, 28, 155), (139, 29, 156), (139, 35, 157), (139, 36, 158), (139, 37, 159), (139, 38, 160), (139, 39, 161), (139, 43, 162), (139, 44, 163), (139, 45, 164), (139, 46, 165)]
def zLUs : List (Int × Int × Int) := [(140, 8, -1), (140, 3, 10), (140, 4, 40), (140, 5, 30), (140, 12, 50), (140, 13, 60), (140, 14, 70)]
def zLSs : List Int := [0, 104, 105, 111, 119, 120, 122, 130, 134, 139]
def zLd (L : List (Int × Int × Int)) (R : zX) : zX := L.foldl (fun R q => zst R q.1 q.2.1 q.2.2) R
theorem zLd_cg (a : Int) : ∀ (L : List (Int × Int × Int)) (R S : zX), R a = S a → zLd L R a = zLd L S a
  | [], R, S, h => h
  | q :: L, R, S, h => zLd_cg a L (zst R q.1 q.2.1 q.2.2) (zst S q.1 q.2.1 q.2.2) (by
      by_cases c : a = q.1
      · rw [c, zst_row, zst_row, ← c, h]
      · rw [zst_n c, zst_n c, h])
theorem zLd_n (a : Int) : ∀ (L : List (Int × Int × Int)) (R : zX), (∀ q ∈ L, q.1 ≠ a) → zLd L R a = R a
  | [], R, h => rfl
  | q :: L, R, h => (zLd_n a L (zst R q.1 q.2.1 q.2.2) (fun p hp => h p (List.mem_cons_of_mem _ hp))).trans (zst_n (fun e => h q List.mem_cons_self e.symm))
theorem zLd_hi (a : Int) : ∀ (L : List (Int × Int × Int)) (R : zX), (∀ q ∈ L, q.2.1 < 49) → (∀ j : Int, 49 ≤ j → R a j = -1) → ∀ j : Int, 49 ≤ j → zLd L R a j = -1
  | [], R, h, hR => hR
  | q :: L, R, h, hR => zLd_hi a L (zst R q.1 q.2.1 q.2.2) (fun p hp => h p (List.mem_cons_of_mem _ hp)) (fun j j0 => by
      have := h q List.mem_cons_self
      rw [zrd_n (Or.inr (by omega))]
      exact hR j j0)
/-- every reference of the first 166 cells -/
theorem zBg_R {R U : zX} (h : zTld R U) {a j : Int} (a0 : 0 ≤ a) (a1 : a < 166) (j0 : 0 ≤ j) : zLd zLMs (zLd zLDs R) a j = zr0 a j := by
  by_cases c : 1 ≤ a ∧ a < 103
  · have d : ∀ q ∈ zLDs, q.1 = 0 ∨ 103 ≤ q.1 := by decide +kernel
    have m : ∀ q ∈ zLMs, q.1 = 139 := by decide +kernel
    rw [zLd_n a zLMs _ (fun q hq => by have := m q hq; omega), zLd_n a zLDs _ (fun q hq => by have := d q hq; omega)]
    exact h.2.1 a j c.1 c.2 j0
  · have hR : R a = fun _ => -1 := by
      by_cases e : a = 0
      · rw [e]
        exact h.1
      · exact (h.2.2.2.2.2 a (by omega)).1
    have e := zLd_cg a zLMs _ _ (zLd_cg a zLDs R (fun _ _ => -1) hR)
    rw [e]
    by_cases j1 : j < 49
    · by_cases hs : a ∈ zLSs
      · have key : ∀ b ∈ zLSs, ∀ m : Fin 49, zLd zLMs (zLd zLDs (fun _ _ => -1)) b (m.val : Int) = zr0 b (m.val : Int) := by decide +kernel
        have z := key a hs ⟨j.toNat, by omega⟩
        simp only [Int.toNat_of_nonneg j0] at z
        exact z
      · have d : ∀ q ∈ zLDs, q.1 ∈ zLSs := by decide +kernel
        have m : ∀ q ∈ zLMs, q.1 ∈ zLSs := by decide +kernel
        rw [zLd_n a zLMs _ (fun q hq e => hs (by rw [← e]; exact m q hq)), zLd_n a zLDs _ (fun q hq e => hs (by rw [← e]; exact d q hq))]
        have key : ∀ n : Fin 166, (n.val = 0 ∨ 103 ≤ n.val) → (n.val : Int) ∉ zLSs → (zrL.getD n.val []).all (fun r => decide (r = -1)) = true := by decide +kernel
        have z := key ⟨a.toNat, by omega⟩ (by show a.toNat = 0 ∨ 103 ≤ a.toNat; omega) (by rw [Int.toNat_of_nonneg a0]; exact hs)
        rw [zr0_L, List.getD_eq_getElem?_getD]
        cases hc : (zrL.getD a.toNat [])[j.toNat]? with
        | none => rfl
        | some v => exact (of_decide_eq_true (List.all_eq_true.mp z v (List.mem_of_getElem? hc))).symm
    · have key : ∀ n : Fin 166, (zrL.getD n.val []).length ≤ 49 := by decide +kernel
      have z := key ⟨a.toNat, by omega⟩
      have y : (zrL.getD a.toNat [])[j.toNat]? = none := List.getElem?_eq_none (Nat.le_trans z (by omega))
      have e2 : zr0 a j = -1 := by
        rw [zr0_L]
        show ((zrL.getD a.toNat [])[j.toNat]?).getD (-1) = -1
        rw [y]
        rfl
      rw [e2]
      exact zLd_hi a zLMs _ (by decide +kernel) (zLd_hi a zLDs _ (by decide +kernel) (fun _ _ => rfl)) j (by omega)
/-- places below 0, which no cell has, as the table has them -/
def zGnn (G : zG) : zG := (zkd G, zln G, fun a j => if j < 0 ∧ 0 ≤ a ∧ a < 166 then zr0 a j else zrx G a j, zsz G, ztt G)
theorem zGnn_r {G : zG} {a j : Int} (j0 : 0 ≤ j) : zrx (zGnn G) a j = zrx G a j := if_neg (fun z => by omega)
theorem zGnn_n {G : zG} {a j : Int} (a0 : a < 0) : zrx (zGnn G) a j = zrx G a j := if_neg (fun z => by omega)
theorem zcell_nn {ft : zTab} {V : zVM} {ad : Int → Nat} {kd ln : Int} {r r' x : Int → Int} (h : ∀ j : Int, 0 ≤ j → r' j = r j) : zcell ft V ad kd ln r' x = zcell ft V ad kd ln r x := by
  have e : ∀ j : Nat, r' (j : Int) = r (j : Int) := fun j => h j (by omega)
  unfold zcell zfs
  simp only [e]
theorem zr0_lt {a j : Int} (a0 : 0 ≤ a) (a1 : a < 166) : zr0 a j < 166 := by
  have key : ∀ n : Fin 166, (zrL.getD n.val []).all (fun r => decide (r < 166)) = true := by decide +kernel
  have z := key ⟨a.toNat, by omega⟩
  rw [zr0_L, List.getD_eq_getElem?_getD]
  cases hc : (zrL.getD a.toNat [])[j.toNat]? with
  | none => decide
  | some v => exact of_decide_eq_true (List.all_eq_true.mp z v (List.mem_of_getElem? hc))
/-- a walk with the table's places goes as well with the heap's own -/
theorem zAt_n {E : zE} {nL pc : Nat} {ls st : List zV} {G : zG} {X : zX} (hs : 166 ≤ zsz G) (h : zAt E nL pc ls st (zGnn G) X) : zAt E nL pc ls st G X := by
  intro ad H locs lsr hH hL hS
  have hce : ∀ k : Int, zce zft (eV E) ad (zGnn G) X k = zce zft (eV E) ad G X k := fun k => zcell_nn (fun j j0 => zGnn_r j0)
  obtain ⟨h1, h2, h3, h4, h5, hP, hD, hSv, hok, hx⟩ := hH
  have ew : zWs E ad (zGnn G) X = zWs E ad G X := by
    show (List.range (zsz G)).map _ = (List.range (zsz G)).map _
    exact List.map_congr_left fun k _ => by rw [hce]
  have ex : zxs zft (eV E) ad (zGnn G) X = zxs zft (eV E) ad G X := by
    unfold zxs
    rw [hce, hce]
  refine h ad H locs lsr ⟨h1, h2, h3, h4, h5, by rw [ew]; exact hP, by rw [ew]; exact hD, hSv, ?_, by rw [ex]; exact hx⟩ hL hS
  obtain ⟨o1, o2, o3, o4, o5, o6, o7⟩ := hok
  refine ⟨o1, o2, o3, o4, o5, o6, fun a j => ?_⟩
  by_cases c : j < 0 ∧ 0 ≤ a ∧ a < 166
  · have z := zr0_lt (j := j) c.2.1 c.2.2
    show (if j < 0 ∧ 0 ≤ a ∧ a < 166 then zr0 a j else zrx G a j) < ((zsz G : Nat) : Int)
    rw [if_pos c]
    omega
  · show (if j < 0 ∧ 0 ≤ a ∧ a < 166 then zr0 a j else zrx G a j) < ((zsz G : Nat) : Int)
    rw [if_neg c]
    exact o7 a j
theorem zBg_SH {R U R2 U2 : zX} {G : zG} {X : zX} {n s : Nat} (h : zFz R2 U2 G X n s) (hn : n = 166) (t : zTld R U) (e : R2 = zLd zLMs (zLd zLDs R)) : SH (zGnn G) := by
  subst hn; subst e
  refine ⟨fun a a0 a1 => h.2.2.1 a a0 (by omega), fun a j a0 a1 _ => ?_, Nat.le_of_eq h.1.symm⟩
  by_cases c : j < 0
  · exact if_pos ⟨c, a0, a1⟩
  · rw [zGnn_r (by omega), zFz_r h a0 (by omega)]
    exact zBg_R t a0 a1 (by omega)
/-- the numbers -/
theorem zUa_0 {j : Int} (h1 : j ≠ 14) (h2 : j ≠ 15) (h3 : j ≠ 16) : zUa (fun _ _ => 0) 0 j = 0 := by
  unfold zUa
  simp only [zrd_e]
  repeat' split
  all_goals omega
theorem zUa_1 {j : Int} (h1 : j ≠ 3) : zUa (fun _ _ => 0) 1 j = 0 := by
  unfold zUa
  simp only [zrd_e]
  repeat' split
  all_goals omega
theorem zUa_18 {j : Int} (h1 : j ≠ 2) (h2 : j ≠ 3) (h3 : j ≠ 4) : zUa (fun _ _ => 0) 18 j = 0 := by
  unfold zUa
  simp only [zrd_e]
  repeat' split
  all_goals omega
theorem zUa_n {b : Int} (h0 : b ≠ 0) (h1 : b ≠ 1) (h2 : b ≠ 18) : zUa (fun _ _ => 0) b = fun _ => 0 := by
  funext j
  unfold zUa
  simp only [zrd_e]
  repeat' split
  all_goals omega
theorem zBg_o {U : zX} {a : Int} (ha : a ≠ 140) : zLd zLUs U a = U a := by
  have hm : ∀ q ∈ zLUs, q.1 = 140 := by decide +kernel
  exact zLd_n a zLUs U (fun q hq => by rw [hm q hq]; exact fun z => ha z.symm)
theorem zBg_140 {U : zX} (h : U 140 = fun _ => 0) : (∀ j : Int, j ≠ 3 → j ≠ 4 → j ≠ 5 → j ≠ 8 → j ≠ 12 → j ≠ 13 → j ≠ 14 → zLd zLUs U 140 j = 0) ∧ (zLd zLUs U 140 3 = 10 ∧ zLd zLUs U 140 4 = 40 ∧ zLd zLUs U 140 5 = 30 ∧ zLd zLUs U 140 8 = -1 ∧ zLd zLUs U 140 12 = 50 ∧ zLd zLUs U 140 13 = 60 ∧ zLd zLUs U 140 14 = 70) := by
  have u140 : zLd zLUs U 140 = zLd zLUs (fun _ _ => 0) 140 := zLd_cg 140 zLUs _ _ h
  rw [u140]
  refine ⟨fun j a1 a2 a3 a4 a5 a6 a7 => ?_, by decide +kernel⟩
  show zst (zst (zst (zst (zst (zst (zst (fun _ _ => 0) 140 8 (-1)) 140 3 10) 140 4 40) 140 5 30) 140 12 50) 140 13 60) 140 14 70 140 j = 0
  rw [zrd_n (Or.inr a7), zrd_n (Or.inr a6), zrd_n (Or.inr a5), zrd_n (Or.inr a3), zrd_n (Or.inr a2), zrd_n (Or.inr a1), zrd_n (Or.inr a4)]
theorem zBg_U1 {R U : zX} (t : zTld R U) : ((∀ j : Int, j ≠ 14 → j ≠ 15 → j ≠ 16 → U 1 j = 0) ∧ U 1 14 = 10 ∧ U 1 15 = 40 ∧ U 1 16 = 30) ∧ ((∀ j : Int, j ≠ 3 → U 2 j = 0) ∧ U 2 3 = -1) ∧ ((∀ j : Int, j ≠ 2 → j ≠ 3 → j ≠ 4 → U 19 j = 0) ∧ U 19 2 = 50 ∧ U 19 3 = 60 ∧ U 19 4 = 70) := by
  have e1 : U 1 = zUa (fun _ _ => 0) 0 := t.2.2.1 1 (by decide) (by decide) (by decide) (by decide) (by decide)
  have e2 : U 2 = zUa (fun _ _ => 0) 1 := t.2.2.1 2 (by decide) (by decide) (by decide) (by decide) (by decide)
  have e19 : U 19 = zUa (fun _ _ => 0) 18 := t.2.2.1 19 (by decide) (by decide) (by decide) (by decide) (by decide)
  rw [e1, e2, e19]
  exact ⟨⟨fun j a b c => zUa_0 a b c, by decide +kernel, by decide +kernel, by decide +kernel⟩, ⟨fun j a => zUa_1 a, by decide +kernel⟩, fun j a b c => zUa_18 a b c, by decide +kernel, by decide +kernel, by decide +kernel⟩
theorem zBg_U {R U U2 : zX} (t : zTld R U) (e : U2 = zLd zLUs U) : (∀ j : Int, j ≠ 3 → j ≠ 4 → j ≠ 5 → j ≠ 8 → j ≠ 12 → j ≠ 13 → j ≠ 14 → U2 140 j = 0) ∧ (U2 140 3 = 10 ∧ U2 140 4 = 40 ∧ U2 140 5 = 30 ∧ U2 140 8 = -1 ∧ U2 140 12 = 50 ∧ U2 140 13 = 60 ∧ U2 140 14 = 70) ∧ (∀ a : Int, 3 ≤ a → a < 103 → a ≠ 19 → a ≠ 20 → a ≠ 21 → a ≠ 22 → U2 a = fun _ => 0) ∧ ((∀ j : Int, j ≠ 14 → j ≠ 15 → j ≠ 16 → U2 1 j = 0) ∧ U2 1 14 = 10 ∧ U2 1 15 = 40 ∧ U2 1 16 = 30) ∧ ((∀ j : Int, j ≠ 3 → U2 2 j = 0) ∧ U2 2 3 = -1) ∧ ((∀ j : Int, j ≠ 2 → j ≠ 3 → j ≠ 4 → U2 19 j = 0) ∧ U2 19 2 = 50 ∧ U2 19 3 = 60 ∧ U2 19 4 = 70) ∧ (∀ j : Int, 0 ≤ j → j < 1296 → U2 20 j = 6) ∧ (∀ j : Int, 0 ≤ j → j < 10 → U2 21 j = -1 ∧ U2 22 j = -1) ∧ (∀ a : Int, 103 ≤ a → a ≠ 140 → U2 a = fun _ => 0) := by
  subst e
  have u1 := zBg_U1 t
  have z140 := zBg_140 (U := U) (t.2.2.2.2.2 140 (by decide)).2
  refine ⟨z140.1, z140.2, fun a a0 a1 b1 b2 b3 b4 => ?_, ?_, ?_, ?_, ?_, ?_, fun a a0 a1 => ?_⟩
  · rw [zBg_o (by omega), t.2.2.1 a (by omega) a1 b2 b3 b4]
    exact zUa_n (by omega) (by omega) (by omega)
  · rw [zBg_o (by decide)]
    exact u1.1
  · rw [zBg_o (by decide)]
    exact u1.2.1
  · rw [zBg_o (by decide)]
    exact u1.2.2
  · rw [zBg_o (by decide)]
    exact t.2.2.2.1
  · rw [zBg_o (a := 21) (by decide), zBg_o (a := 22) (by decide)]
    exact t.2.2.2.2.1
  · rw [zBg_o a1]
    exact (t.2.2.2.2.2 a a0).2
theorem zBg_RT {R U R2 U2 : zX} {G : zG} {X : zX} {n s : Nat} (h : zFz R2 U2 G X n s) (hn : n = 166) (t : zTld R U) (e : U2 = zLd zLUs U) : zRT X 1 0 := by
  subst hn
  have hX : ∀ a : Int, 0 ≤ a → a < 166 → X a = U2 a := fun a a0 a1 => h.2.2.2.2.1 a a0 (by omega)
  obtain ⟨x0, ⟨y3, y4, y5, y8, y12, y13, y14⟩, xz, ⟨x1, p14, p15, p16⟩, ⟨x2, p3⟩, ⟨x19, w2, w3, w4⟩, x20, x21, -⟩ := zBg_U t e
  rw [← hX 140 (by omega) (by omega)] at x0 y3 y4 y5 y8 y12 y13 y14
  rw [← hX 1 (by omega) (by omega)] at x1 p14 p15 p16
  rw [← hX 2 (by omega) (by omega)] at x2 p3
  rw [← hX 19 (by omega) (by omega)] at x19 w2 w3 w4
  rw [← hX 20 (by omega) (by omega)] at x20
  rw [← hX 21 (by omega) (by omega), ← hX 22 (by omega) (by omega)] at x21
  have z : ∀ a j : Int, 3 ≤ a → a < 103 → a ≠ 19 → a ≠ 20 → a ≠ 21 → a ≠ 22 → X a j = 0 := fun a j a0 a1 b1 b2 b3 b4 => by rw [hX a (by omega) (by omega), xz a a0 a1 b1 b2 b3 b4]
  have zz : ∀ i : Int, i ≠ 3 → i ≠ 4 → i ≠ 5 → i ≠ 8 → i ≠ 12 → i ≠ 13 → i ≠ 14 → X 140 i = 0 := x0
  refine ⟨?_, ?_, ?_, ?_, ?_, ?_, ?_, ?_, ?_, ?_, ?_, ?_, ?_, ?_, ?_, ?_, ?_, ?_, ?_, ?_, ?_, ?_, ?_, ?_, ?_, ?_, ?_, ?_, ?_, ?_, ?_, ?_, ?_, ?_, ?_, ?_, ?_, ?_, ?_, ?_⟩
  · intro p p0 p1
    rw [zz _ (by omega) (by omega) (by omega) (by omega) (by omega) (by omega) (by omega), show (1 : Int) + 0 = 1 from rfl, x1 _ (by omega) (by omega) (by omega)]
    omega
  · intro p p0 p1
    obtain rfl | rfl | rfl : p = 0 ∨ p = 1 ∨ p = 2 := by omega
    · exact ⟨y3.trans p14.symm, by rw [show X (1 + 0) (14 + 0) = 10 from p14]; omega⟩
    · exact ⟨y4.trans p15.symm, by rw [show X (1 + 0) (14 + 1) = 40 from p15]; omega⟩
    · exact ⟨y5.trans p16.symm, by rw [show X (1 + 0) (14 + 2) = 30 from p16]; omega⟩
  · show X 140 (0 + 6) = X 2 1 ∧ 0 ≤ X 2 1 ∧ X 2 1 ≤ 500
    rw [zz _ (by omega) (by omega) (by omega) (by omega) (by omega) (by omega) (by omega), x2 _ (by omega)]
    omega
  · show X 140 (0 + 7) = X 2 2 ∧ 0 ≤ X 2 2 ∧ X 2 2 ≤ 4
    rw [zz _ (by omega) (by omega) (by omega) (by omega) (by omega) (by omega) (by omega), x2 _ (by omega)]
    omega
  · exact ⟨y8.trans p3.symm, by rw [show X (1 + 1) 3 = -1 from p3]; omega⟩
  · intro j j0 j1
    rw [zz _ (by omega) (by omega) (by omega) (by omega) (by omega) (by omega) (by omega), z _ _ (by omega) (by omega) (by omega) (by omega) (by omega) (by omega)]
    omega
  · unfold zF_wcn
    rw [zz _ (by omega) (by omega) (by omega) (by omega) (by omega) (by omega) (by omega), z _ _ (by omega) (by omega) (by omega) (by omega) (by omega) (by omega)]
    omega
  · unfold zF_pcn
    rw [zz _ (by omega) (by omega) (by omega) (by omega) (by omega) (by omega) (by omega), z _ _ (by omega) (by omega) (by omega) (by omega) (by omega) (by omega)]
    omega
  · unfold zF_lcn
    rw [zz _ (by omega) (by omega) (by omega) (by omega) (by omega) (by omega) (by omega), z _ _ (by omega) (by omega) (by omega) (by omega) (by omega) (by omega)]
    omega
  · intro p j p0 p1 j0 j1
    rw [zz _ (by omega) (by omega) (by omega) (by omega) (by omega) (by omega) (by omega), z _ _ (by omega) (by omega) (by omega) (by omega) (by omega) (by omega)]
    omega
  · intro j j0 j1
    rw [zz _ (by omega) (by omega) (by omega) (by omega) (by omega) (by omega) (by omega), z _ _ (by omega) (by omega) (by omega) (by omega) (by omega) (by omega)]
    omega
  · intro j j0 j1
    rw [zz _ (by omega) (by omega) (by omega) (by omega) (by omega) (by omega) (by omega), z _ _ (by omega) (by omega) (by omega) (by omega) (by omega) (by omega)]
    omega
  · intro j j0 j1
    rw [zz _ (by omega) (by omega) (by omega) (by omega) (by omega) (by omega) (by omega), z _ _ (by omega) (by omega) (by omega) (by omega) (by omega) (by omega)]
    omega
  · intro j j0 j1
    rw [zz _ (by omega) (by omega) (by omega) (by omega) (by omega) (by omega) (by omega), z _ _ (by omega) (by omega) (by omega) (by omega) (by omega) (by omega)]
    omega
  · intro j j0 j1
    rw [zz _ (by omega) (by omega) (by omega) (by omega) (by omega) (by omega) (by omega), z _ _ (by omega) (by omega) (by omega) (by omega) (by omega) (by omega)]
    omega
  · intro j j0 j1
    rw [zz _ (by omega) (by omega) (by omega) (by omega) (by omega) (by omega) (by omega), z _ _ (by omega) (by omega) (by omega) (by omega) (by omega) (by omega)]
    omega
  · intro j j0 j1
    rw [zz _ (by omega) (by omega) (by omega) (by omega) (by omega) (by omega) (by omega), z _ _ (by omega) (by omega) (by omega) (by omega) (by omega) (by omega)]
    omega
  · intro j j0 j1
    rw [zz _ (by omega) (by omega) (by omega) (by omega) (by omega) (by omega) (by omega), z _ _ (by omega) (by omega) (by omega) (by omega) (by omega) (by omega)]
    omega
  · intro j j0 j1
    rw [show (1 : Int) + 18 = 19 from rfl]
    obtain rfl | rfl | rfl | c : j = 2 ∨ j = 3 ∨ j = 4 ∨ (j ≠ 2 ∧ j ≠ 3 ∧ j ≠ 4) := by omega
    · exact ⟨y12.trans w2.symm, by rw [w2]; omega⟩
    · exact ⟨y13.trans w3.symm, by rw [w3]; omega⟩
    · exact ⟨y14.trans w4.symm, by rw [w4]; omega⟩
    · rw [zz _ (by omega) (by omega) (by omega) (by omega) (by omega) (by omega) (by omega), x19 _ c.1 c.2.1 c.2.2]
      omega
  · intro j j0 j1
    rw [show (1 : Int) + 19 = 20 from rfl, x20 j j0 j1, zz _ (by omega) (by omega) (by omega) (by omega) (by omega) (by omega) (by omega)]
    omega
  · intro j j0 j1
    have y := x21 j j0 j1
    rw [show (1 : Int) + 20 = 21 from rfl, y.1, zz _ (by omega) (by omega) (by omega) (by omega) (by omega) (by omega) (by omega)]
    omega
  · intro j j0 j1
    have y := x21 j j0 j1
    rw [show (1 : Int) + 21 = 22 from rfl, y.2, zz _ (by omega) (by omega) (by omega) (by omega) (by omega) (by omega) (by omega)]
    omega
  · intro p p0 p1
    rw [zz _ (by omega) (by omega) (by omega) (by omega) (by omega) (by omega) (by omega), z _ _ (by omega) (by omega) (by omega) (by omega) (by omega) (by omega)]
    omega
  · intro p p0 p1
    rw [zz _ (by omega) (by omega) (by omega) (by omega) (by omega) (by omega) (by omega), z _ _ (by omega) (by omega) (by omega) (by omega) (by omega) (by omega)]
    omega
  · intro p p0 p1
    rw [zz _ (by omega) (by omega) (by omega) (by omega) (by omega) (by omega) (by omega), z _ _ (by omega) (by omega) (by omega) (by omega) (by omega) (by omega)]
    omega
  · intro p p0 p1
    rw [zz _ (by omega) (by omega) (by omega) (by omega) (by omega) (by omega) (by omega), z _ _ (by omega) (by omega) (by omega) (by omega) (by omega) (by omega)]
    omega
  · intro p j p0 p1 j0 j1 hj
    rw [z _ _ (by omega) (by omega) (by omega) (by omega) (by omega) (by omega)] at hj
    omega
  · intro p j p0 p1 j0 j1 hj
    rw [z _ _ (by omega) (by omega) (by omega) (by omega) (by omega) (by omega)] at hj
    omega
  · intro p p0 p1
    rw [zz _ (by omega) (by omega) (by omega) (by omega) (by omega) (by omega) (by omega), z _ _ (by omega) (by omega) (by omega) (by omega) (by omega) (by omega)]
    omega
  · intro p p0 p1
    rw [zz _ (by omega) (by omega) (by omega) (by omega) (by omega) (by omega) (by omega), z _ _ (by omega) (by omega) (by omega) (by omega) (by omega) (by omega)]
    omega
  · intro p p0 p1
    rw [zz _ (by omega) (by omega) (by omega) (by omega) (by omega) (by omega) (by omega), z _ _ (by omega) (by omega) (by omega) (by omega) (by omega) (by omega)]
    omega
  · intro p p0 p1
    rw [zz _ (by omega) (by omega) (by omega) (by omega) (by omega) (by omega) (by omega), z _ _ (by omega) (by omega) (by omega) (by omega) (by omega) (by omega)]
    omega
  · intro p p0 p1
    rw [zz _ (by omega) (by omega) (by omega) (by omega) (by omega) (by omega) (by omega), z _ _ (by omega) (by omega) (by omega) (by omega) (by omega) (by omega)]
    omega
  · intro p p0 p1
    rw [zz _ (by omega) (by omega) (by omega) (by omega) (by omega) (by omega) (by omega), z _ _ (by omega) (by omega) (by omega) (by omega) (by omega) (by omega)]
    omega
  · intro p j p0 p1 j0 j1 hj
    rw [z _ _ (by omega) (by omega) (by omega) (by omega) (by omega) (by omega)] at hj
    omega
  · intro p j p0 p1 j0 j1 hj
    rw [z _ _ (by omega) (by omega) (by omega) (by omega) (by omega) (by omega)] at hj
    omega
  · intro p j p0 p1 j0 j1 hj
    rw [z _ _ (by omega) (by omega) (by omega) (by omega) (by omega) (by omega)] at hj
    omega
  · intro p i j p0 p1 i0 ij hj
    rw [z _ _ (by omega) (by omega) (by omega) (by omega) (by omega) (by omega)] at hj
    omega
  · intro p i j p0 p1 i0 ij hj
    rw [z _ _ (by omega) (by omega) (by omega) (by omega) (by omega) (by omega)] at hj
    omega
  · intro p i j p0 p1 i0 ij hj
    rw [z _ _ (by omega) (by omega) (by omega) (by omega) (by omega) (by omega)] at hj
    omega
theorem zBg_Rela {R U R2 U2 : zX} {G : zG} {X : zX} {n s : Nat} (h : zFz R2 U2 G X n s) (hn : n = 166) (t : zTld R U) (eR : R2 = zLd zLMs (zLd zLDs R)) (eU : U2 = zLd zLUs U) : zRela (zGnn G) X := by
  have hG := zBg_SH h hn t eR
  have hr := zBg_RT h hn t eU
  have hU := zBg_U t eU
  subst hn
  have hX : ∀ a : Int, 0 ≤ a → a < 166 → X a = U2 a := fun a a0 a1 => h.2.2.2.2.1 a a0 (by omega)
  have z : ∀ a j : Int, 3 ≤ a → a < 103 → a ≠ 19 → a ≠ 20 → a ≠ 21 → a ≠ 22 → X a j = 0 := fun a j a0 a1 b1 b2 b3 b4 => by rw [hX a (by omega) (by omega), hU.2.2.1 a a0 a1 b1 b2 b3 b4]
  have n11 : X 1 11 = 0 := by rw [hX 1 (by omega) (by omega)]; exact hU.2.2.2.1.1 11 (by omega) (by omega) (by omega)
  have rr : ∀ a j : Int, 0 ≤ a → a < 166 → 0 ≤ j → zrx (zGnn G) a j = zr0 a j := fun a j a0 a1 j0 => by
    rw [zGnn_r j0, zFz_r h a0 (by omega), eR]
    exact zBg_R t a0 a1 j0
  have zc : ∀ p : Int, 0 ≤ p → p < 10 → zrx (zGnn G) (1 + 52 + 5 * p) 3 = -1 := fun p p0 p1 => by
    rw [rr _ 3 (by omega) (by omega) (by omega)]
    exact zr0_up (by omega) (by omega) (by omega) (Or.inr (Or.inr ⟨by rw [show 1 + 52 + 5 * p = 53 + 5 * p by omega]; exact (zCa_at p0 p1).2, by omega⟩))
  have zh : ∀ p : Int, 0 ≤ p → p < 5 → zrx (zGnn G) (1 + 22 + 6 * p) 1 = -1 := fun p p0 p1 => by
    rw [rr _ 1 (by omega) (by omega) (by omega)]
    exact zr0_up (by omega) (by omega) (by omega) (Or.inl ⟨Or.inl (by rw [show 1 + 22 + 6 * p = 23 + 6 * p by omega]; exact (zHo_at p0 p1).2), by omega⟩)
  have zi : ∀ k : Int, 0 ≤ k → zrx (zGnn G) 103 k = -1 := fun k k0 => by
    rw [rr 103 k (by omega) (by omega) k0]
    by_cases c : k < 3
    · obtain rfl | rfl | rfl : k = 0 ∨ k = 1 ∨ k = 2 := by omega
      all_goals decide +kernel
    · rw [zr0_L]
      show ((zrL.getD 103 [])[k.toNat]?).getD (-1) = -1
      rw [List.getElem?_eq_none (Nat.le_trans (show (zrL.getD 103 []).length ≤ 3 by decide +kernel) (by omega))]
      rfl
  refine ⟨hG, hr, ⟨fun p p0 p1 => Or.inl ⟨zc p p0 p1, ?_⟩, fun p p0 p1 => ?_⟩, ⟨fun p k _ p1 k4 k8 => ?_, fun p k _ p1 k2 k3 => ?_⟩, ⟨fun k l k0 _ _ _ _ ne => absurd (zi k k0) ne, fun k k0 k1 => Or.inl ⟨?_, zi k k0⟩⟩, ?_⟩
  · rw [hX 140 (by omega) (by omega)]
    exact hU.1 _ (by omega) (by omega) (by omega) (by omega) (by omega) (by omega) (by omega)
  · rw [n11] at p1
    omega
  · have p0 : 0 ≤ p := by
      have n12 : X 1 12 = 0 := by rw [hX 1 (by omega) (by omega)]; exact hU.2.2.2.1.1 12 (by omega) (by omega) (by omega)
      omega
    exact ⟨z _ _ (by omega) (by omega) (by omega) (by omega) (by omega) (by omega), zc p p0 p1⟩
  · have p0 : 0 ≤ p := by omega
    exact ⟨z _ _ (by omega) (by omega) (by omega) (by omega) (by omega) (by omega), zh p p0 p1⟩
  · rw [hX 141 (by omega) (by omega), hU.2.2.2.2.2.2.2.2 141 (by omega) (by omega)]
  · have n3 := h.2.2.2.2.2.2 (-3) (by omega)
    have n4 := h.2.2.2.2.2.2 (-4) (by omega)
    refine ⟨n3.1, by rw [zGnn_n (by omega), n3.2.2.1]; rfl, n4.1, n4.2.1, by rw [n3.2.2.2]; rfl, fun i _ _ => by rw [n4.2.2.2]; rfl, z _ _ (by omega) (by omega) (by omega) (by omega) (by omega) (by omega), ?_⟩
    rw [z 5 3 (by omega) (by omega) (by omega) (by omega) (by omega) (by omega)]
    omega
