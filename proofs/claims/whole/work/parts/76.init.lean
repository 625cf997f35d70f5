/-! ===== what is told, made anew (wip/whole/gen_init.py) ===== -/
def zrL : List (List Int) := [[1, 103, 104, 119, 122, 130, 134, 136, 137, 138], [2, 7, 8, 9, 16, 17, 18, 19, 20, 21, 22, -1, -1, -1, -1, -1, -1], [3, -1, -1, -1, -1, 4, 5, -1, -1, -1, -1], [], [], [6, -1, -1, -1], [], [23, 29, 35, 41, 47], [53, 58, 63, 68, 73, 78, 83, 88, 93, 98], [10, 11, 12, 13, 14, 15, -1, -1, -1], [], [], [], [], [], [], [], [], [], [], [], [], [], [24, -1, -1, -1], [25, 27], [26, -1], [], [28, -1], [], [30, -1, -1, -1], [31, 33], [32, -1], [], [34, -1], [], [36, -1, -1, -1], [37, 39], [38, -1], [], [40, -1], [], [42, -1, -1, -1], [43, 45], [44, -1], [], [46, -1], [], [48, -1, -1, -1], [49, 51], [50, -1], [], [52, -1], [], [54, 56, 57, -1, -1, -1, -1, -1, -1], [55, -1], [], [], [], [59, 61, 62, -1, -1, -1, -1, -1, -1], [60, -1], [], [], [], [64, 66, 67, -1, -1, -1, -1, -1, -1], [65, -1], [], [], [], [69, 71, 72, -1, -1, -1, -1, -1, -1], [70, -1], [], [], [], [74, 76, 77, -1, -1, -1, -1, -1, -1], [75, -1], [], [], [], [79, 81, 82, -1, -1, -1, -1, -1, -1], [80, -1], [], [], [], [84, 86, 87, -1, -1, -1, -1, -1, -1], [85, -1], [], [], [], [89, 91, 92, -1, -1, -1, -1, -1, -1], [90, -1], [], [], [], [94, 96, 97, -1, -1, -1, -1, -1, -1], [95, -1], [], [], [], [99, 101, 102, -1, -1, -1, -1, -1, -1], [100, -1], [], [], [], [-1, -1, -1], [105, 111, 117, 118, 1, -1, -1], [106, 107, 108, 109, 110, -1], [], [], [], [], [], [112, 113, 114, 115, 116, -1], [], [], [], [], [], [], [], [120, 1, 104, -1, -1, -1, -1], [121, -1], [], [123, 124, 125, 126, 127, 128, 129, -1, -1, -1, -1, -1, -1, -1], [], [], [], [], [], [], [], [131, 132, 133, -1], [], [], [], [135, -1], [], [], [], [], [140, 141, -1, -1, -1, -1, -1, -1, -1, -1, -1, -1, 142, 143, 144, -1, 145, 146, 147, 148, 149, 150, 151, 152, 153, 154, -1, -1, 155, 156, -1, -1, -1, -1, -1, 157, 158, 159, 160, 161, -1, -1, -1, 162, 163, 164, 165, -1, -1], [], [], [], [], [], [], [], [], [], [], [], [], [], [], [], [], [], [], [], [], [], [], [], [], [], []]
theorem zr0_L (a j : Int) : zr0 a j = (zrL.getD a.toNat []).getD j.toNat (-1) := rfl
theorem zr0_hi {b j : Int} (b1 : 0 ≤ b) (b2 : b < 103) (h : 17 ≤ j) : zr0 b j = -1 := by
  have key : ∀ n : Fin 103, (zrL.getD n.val []).length ≤ 17 := by decide +kernel
  rw [zr0_L]
  have z := key ⟨b.toNat, by omega⟩
  have y : (zrL.getD b.toNat [])[j.toNat]? = none := List.getElem?_eq_none (Nat.le_trans z (by omega))
  show ((zrL.getD b.toNat [])[j.toNat]?).getD (-1) = -1
  rw [y]
  rfl
theorem zr0_ar {b j : Int} (b1 : 0 ≤ b) (b2 : b < 103) (h : zk0 b = 50 ∨ zk0 b = 51 ∨ zk0 b = 52 ∨ zk0 b = 53) : zr0 b j = -1 := by
  have key : ∀ n : Fin 103, (zk0 (n.val : Int) = 50 ∨ zk0 (n.val : Int) = 51 ∨ zk0 (n.val : Int) = 52 ∨ zk0 (n.val : Int) = 53) → zrL.getD n.val [] = [] := by decide +kernel
  have z := key ⟨b.toNat, by omega⟩
  simp only [Int.toNat_of_nonneg b1] at z
  rw [zr0_L, z h]
  rfl
theorem zr0_up {b j : Int} (b1 : 0 ≤ b) (b2 : b < 103) (j0 : 0 ≤ j) (h : ((zk0 b = 3 ∨ zk0 b = 5 ∨ zk0 b = 14) ∧ 1 ≤ j) ∨ (zk0 b = 57 ∧ 2 ≤ j) ∨ (zk0 b = 4 ∧ 3 ≤ j)) : zr0 b j = -1 := by
  by_cases c : 17 ≤ j
  · exact zr0_hi b1 b2 c
  · have key : ∀ n : Fin 103, ∀ m : Fin 17, (((zk0 (n.val : Int) = 3 ∨ zk0 (n.val : Int) = 5 ∨ zk0 (n.val : Int) = 14) ∧ 1 ≤ m.val) ∨ (zk0 (n.val : Int) = 57 ∧ 2 ≤ m.val) ∨ (zk0 (n.val : Int) = 4 ∧ 3 ≤ m.val)) → zr0 (n.val : Int) (m.val : Int) = -1 := by decide +kernel
    have z := key ⟨b.toNat, by omega⟩ ⟨j.toNat, by omega⟩
    simp only [Int.toNat_of_nonneg b1, Int.toNat_of_nonneg j0] at z
    exact z (by omega)
theorem zrs_f {G : zG} {a j v : Int} : zrx (zrs G a j v) a = zup (zrx G a) j v := zup_s _ _ _
theorem zrs_g {G : zG} {a j v b : Int} (h : b ≠ a) : zrx (zrs G a j v) b = zrx G b := zup_n h
theorem znG_rs {G : zG} {k l : Int} {n : Nat} : zrx (znG G k l n) (zsz G : Int) = fun _ => -1 := zup_s _ _ _
/-- t: the new cells' first; n of them are made; those from m on are under way -/
def zFn (U : zX) (G0 : zG) (X0 : zX) (G : zG) (X : zX) (t n : Int) (s : Nat) (m : Int) : Prop := (zsz G : Int) = t + n ∧ ztt G = ztt G0 + s ∧ (∀ b : Int, b < t → zkd G b = zkd G0 b ∧ zln G b = zln G0 b ∧ zrx G b = zrx G0 b ∧ X b = X0 b) ∧ (∀ i : Int, 0 ≤ i → i < n → zkd G (t + i) = zk0 (1 + i) ∧ zln G (t + i) = zl0 (1 + i) ∧ (i ≠ 0 → i ≠ 6 → i ≠ 7 → i < m → ∀ j : Int, 0 ≤ j → zrx G (t + i) j = (if zr0 (1 + i) j = -1 then -1 else zr0 (1 + i) j + (t - 1)))) ∧ (∀ i : Int, 0 ≤ i → i < n → X (t + i) = U i) ∧ (∀ i : Int, n ≤ i → U i = fun _ => 0)
theorem zFn_k {U : zX} {G0 G : zG} {X0 X : zX} {t n m i c : Int} {s : Nat} (h : zFn U G0 X0 G X t n s m) (i0 : 0 ≤ i) (i1 : i < n) (e : zk0 (1 + i) = c) : zkd G (t + i) = c := (h.2.2.2.1 i i0 i1).1.trans e
theorem zFn_l {U : zX} {G0 G : zG} {X0 X : zX} {t n m i c : Int} {s : Nat} (h : zFn U G0 X0 G X t n s m) (i0 : 0 ≤ i) (i1 : i < n) (e : zl0 (1 + i) = c) : zln G (t + i) = c := (h.2.2.2.1 i i0 i1).2.1.trans e
theorem zFn_new {U : zX} {G0 G : zG} {X0 X : zX} {t n m k l : Int} {s c : Nat} (h : zFn U G0 X0 G X t n s m) (n0 : 0 ≤ n) (mn : m ≤ n) (hk : zk0 (1 + n) = k) (hl : zl0 (1 + n) = l) : zFn U G0 X0 (znG G k l c) (znX G X) t (n + 1) (s + c) m := by
  obtain ⟨h1, h2, h3, h4, h5, h6⟩ := h
  refine ⟨?_, ?_, fun b hb => ?_, fun i i0 i1 => ?_, fun i i0 i1 => ?_, fun i i0 => h6 i (by omega)⟩
  · show ((zsz G + 1 : Nat) : Int) = _
    omega
  · show ztt G + c = _
    omega
  · rw [znG_k (by omega), znG_l (by omega), znG_r (by omega), znX_r (by omega)]
    exact h3 b hb
  · by_cases c : i = n
    · rw [c, ← h1, znG_ks, znG_ls]
      exact ⟨hk.symm, hl.symm, fun _ _ _ z => absurd z (by omega)⟩
    · rw [znG_k (by omega), znG_l (by omega), znG_r (by omega)]
      exact h4 i i0 (by omega)
  · by_cases c : i = n
    · rw [c, ← h1]
      exact (zup_s _ _ _).trans (h6 n (Int.le_refl _)).symm
    · rw [znX_r (by omega)]
      exact h5 i i0 (by omega)
theorem zFn_ref {U : zX} {G0 G : zG} {X0 X : zX} {t n m i a j v : Int} {s : Nat} (h : zFn U G0 X0 G X t n s m) (ea : a = t + i) (ei : i = 0 ∨ i = 6 ∨ i = 7 ∨ m ≤ i) (i0 : 0 ≤ i) : zFn U G0 X0 (zrs G a j v) X t n s m := by
  obtain ⟨h1, h2, h3, h4, h5, h6⟩ := h
  refine ⟨h1, h2, fun b hb => ?_, fun x x0 x1 => ?_, h5, h6⟩
  · rw [zrs_g (by omega)]
    exact h3 b hb
  · have z := h4 x x0 x1
    refine ⟨z.1, z.2.1, fun a1 a2 a3 a4 k k0 => ?_⟩
    rw [zrs_g (by omega)]
    exact z.2.2 a1 a2 a3 a4 k k0
theorem zFn_num {U : zX} {G0 G : zG} {X0 X : zX} {t n m i a j v : Int} {s : Nat} (h : zFn U G0 X0 G X t n s m) (ea : a = t + i) (i0 : 0 ≤ i) (i1 : i < n) : zFn (zst U i j v) G0 X0 G (zst X a j v) t n s m := by
  obtain ⟨h1, h2, h3, h4, h5, h6⟩ := h
  refine ⟨h1, h2, fun b hb => ?_, h4, fun x x0 x1 => ?_, fun x x0 => ?_⟩
  · rw [zrd_r (by omega)]
    exact h3 b hb
  · by_cases c : x = i
    · rw [c, ea, zst_row, zst_row, h5 i i0 i1]
    · rw [zst_n (by omega), zst_n c]
      exact h5 x x0 x1
  · rw [zst_n (by omega)]
    exact h6 x x0
theorem zFn_fin {U : zX} {G0 G : zG} {X0 X : zX} {t n m m2 : Int} {s : Nat} (h : zFn U G0 X0 G X t n s m) (f : ∀ i : Int, i ≠ 0 → i ≠ 6 → i ≠ 7 → 0 ≤ i → m ≤ i → i < m2 → i < n → ∀ j : Int, 0 ≤ j → zrx G (t + i) j = (if zr0 (1 + i) j = -1 then -1 else zr0 (1 + i) j + (t - 1))) : zFn U G0 X0 G X t n s m2 := by
  obtain ⟨h1, h2, h3, h4, h5⟩ := h
  refine ⟨h1, h2, h3, fun i i0 i1 => ⟨(h4 i i0 i1).1, (h4 i i0 i1).2.1, fun a1 a2 a3 a4 j j0 => ?_⟩, h5⟩
  by_cases c : i < m
  · exact (h4 i i0 i1).2.2 a1 a2 a3 c j j0
  · exact f i a1 a2 a3 i0 (by omega) a4 i1 j j0
theorem zIa {b d v j : Int} (e : zr0 b j = -1) (f : v = -1) : v = (if zr0 b j = -1 then -1 else zr0 b j + d) := by rw [if_pos e, f]
theorem zIb {b d v j r : Int} (e : zr0 b j = r) (n : r ≠ -1) (f : v = r + d) : v = (if zr0 b j = -1 then -1 else zr0 b j + d) := by rw [e, if_neg n, f]
/-- a page -/
theorem pgI {LC LS : Nat} {Q : List zV → zG → zX → Prop} {U : zX} {G0 G : zG} {X0 X : zX} {t n m i : Int} {s : Nat} (h : zFn U G0 X0 G X t n s m) (t0 : 0 ≤ t) (i0 : 0 ≤ i) (ei : n = i + 1) (mi : m ≤ i) (k : zk0 (1 + i) = 5) (i2 : i + 2 < 103) (fr : zrx G (t + i) = fun _ => -1) (hC : zsz G + 1 ≤ LC) (hS : ztt G + 70 ≤ LS) (q : ∀ (G2 : zG) (X2 : zX), zFn U G0 X0 G2 X2 t (n + 1) (s + 70) m → (∀ b : Int, b ≠ t + i → b ≠ t + n → zrx G2 b = zrx G b) → (∀ j : Int, 0 ≤ j → zrx G2 (t + i) j = (if zr0 (1 + i) j = -1 then -1 else zr0 (1 + i) j + (t - 1))) → (∀ j : Int, 0 ≤ j → zrx G2 (t + n) j = (if zr0 (1 + n) j = -1 then -1 else zr0 (1 + n) j + (t - 1))) → Q [] G2 X2) : Pg_init LC LS [zR (t + i)] G X Q := by
  have pa := zPg_a k
  have h1 := h.1
  have e1 : 1 + i + 1 = 1 + n := by omega
  rw [e1] at pa
  have hn := zFn_new (k := 50) (l := 70) (c := 70) h (by omega) (by omega) pa.2.1 pa.2.2
  refine Pg_init_e0 ⟨by omega, by omega, by omega, hC, hS, zFn_k hn i0 (by omega) k, q _ _ (zFn_ref hn rfl (by omega) i0) (fun b b1 b2 => ?_) (fun j j0 => ?_) (fun j j0 => ?_)⟩
  · rw [zrs_g b1, znG_r (by omega)]
  · rw [zrs_f, znG_r (by omega), fr]
    by_cases c : j = 0
    · rw [c, zup_s]
      exact zIb pa.1 (by omega) (by omega)
    · rw [zup_n c]
      exact zIa (zr0_up (by omega) (by omega) j0 (by omega)) rfl
  · rw [zrs_g (by omega), ← h1, znG_rs]
    exact zIa (zr0_ar (by omega) (by omega) (Or.inl pa.2.1)) rfl
theorem zPg_l {b : Int} (h : zk0 b = 5) (b1 : 0 ≤ b) (b2 : b < 103) : zl0 b = 0 := by
  have key : ∀ n : Fin 103, zk0 (n.val : Int) = 5 → zl0 (n.val : Int) = 0 := by decide +kernel
  have z := key ⟨b.toNat, by omega⟩
  simp only [Int.toNat_of_nonneg b1] at z
  exact z h
/-- a page that came -/
theorem caI {LC LS : Nat} {Q : List zV → zG → zX → Prop} {U : zX} {G0 G : zG} {X0 X : zX} {t n i : Int} {s : Nat} (h : zFn U G0 X0 G X t n s i) (t0 : 0 ≤ t) (i0 : 8 ≤ i) (ei : n = i + 1) (k : zk0 (1 + i) = 4) (i2 : i + 6 < 104) (fr : zrx G (t + i) = fun _ => -1) (hC : zsz G + 4 = LC) (hS : ztt G + 176 = LS) (q : ∀ (G2 : zG) (X2 : zX), zFn U G0 X0 G2 X2 t (n + 4) (s + 176) (i + 5) → (∀ b : Int, b < t + i → zrx G2 b = zrx G b) → zsz G2 = LC → ztt G2 = LS → Q [] G2 X2) : Ca_init LC LS [zR (t + i)] G X Q := by
  subst ei
  have ha := zCa_a k
  have h1 := h.1
  have h2 := h.2.1
  rw [show 1 + i + 1 = 1 + (i + 1) by omega, show 1 + i + 3 = 1 + (i + 3) by omega, show 1 + i + 4 = 1 + (i + 4) by omega] at ha
  have hn := zFn_new (k := 5) (l := 0) (c := 2) h (by omega) (by omega) ha.1.2 (zPg_l ha.1.2 (by omega) (by omega))
  refine Ca_init_e0 ?_
  rw [h1]
  refine ⟨by omega, by omega, by omega, zFn_k hn (by omega) (by omega) ha.1.2, zsz G + 2, ztt G + 72, by show zsz G + 1 ≤ _; omega, by show ztt G + 2 ≤ _; omega, by omega, by omega, ?_⟩
  have fr1 : zrx (znG G 5 0 2) (t + (i + 1)) = fun _ => -1 := by rw [← h1, znG_rs]
  refine pgI hn t0 (by omega) (by omega) (by omega) ha.1.2 (by omega) fr1 (by show zsz G + 1 + 1 ≤ _; omega) (by show ztt G + 2 + 70 ≤ _; omega) (fun G2 X2 f2 r2 p1 p2 => ?_)
  have g1 := f2.1
  have g2 := f2.2.1
  obtain ⟨G3, e3⟩ : ∃ G3 : zG, G3 = zrs G2 (t + i) 0 (t + (i + 1)) := ⟨_, rfl⟩
  have f3 : zFn U G0 X0 G3 X2 t (i + 1 + 1 + 1) (s + 2 + 70) i := by
    rw [e3]
    exact zFn_ref f2 rfl (by omega) (by omega)
  have r3 : zrx G3 (t + i) = zup (fun _ => -1) 0 (t + (i + 1)) := by rw [e3, zrs_f, r2 _ (by omega) (by omega), znG_r (by omega), fr]
  rw [← e3]
  have g3 := f3.1
  have g4 := f3.2.1
  obtain ⟨G4, e4⟩ : ∃ G4 : zG, G4 = znG G3 50 24 (Int.toNat 24) := ⟨_, rfl⟩
  have f4 : zFn U G0 X0 G4 (znX G3 X2) t (i + 1 + 1 + 1 + 1) (s + 2 + 70 + Int.toNat 24) i := by
    rw [e4]
    exact zFn_new f3 (by omega) (by omega) (by rw [show 1 + (i + 1 + 1 + 1) = 1 + (i + 3) by omega]; exact ha.2.1.2.1) (by rw [show 1 + (i + 1 + 1 + 1) = 1 + (i + 3) by omega]; exact ha.2.1.2.2)
  have r4 : zrx G4 (t + i) = zup (fun _ => -1) 0 (t + (i + 1)) := by rw [e4, znG_r (by omega), r3]
  rw [← e4]
  refine ⟨by omega, by omega, rfl, zFn_k f2 (by omega) (by omega) k, by omega, by omega, by omega, by show ztt G3 + 24 ≤ _; omega, zFn_k f4 (by omega) (by omega) k, fun G6 e6 => ?_⟩
  have z3 : (zsz G3 : Int) = t + (i + 3) := by omega
  rw [z3] at e6
  have f6 : zFn U G0 X0 G6 (znX G3 X2) t (i + 1 + 1 + 1 + 1) (s + 2 + 70 + Int.toNat 24) i := by
    rw [e6]
    exact zFn_ref f4 rfl (by omega) (by omega)
  have r6 : zrx G6 (t + i) = zup (zup (fun _ => -1) 0 (t + (i + 1))) 1 (t + (i + 3)) := by rw [e6, zrs_f, r4]
  have g6 := f6.1
  have g7 := f6.2.1
  obtain ⟨G7, e7⟩ : ∃ G7 : zG, G7 = znG G6 50 80 (Int.toNat 80) := ⟨_, rfl⟩
  have f7 : zFn U G0 X0 G7 (znX G6 (znX G3 X2)) t (i + 1 + 1 + 1 + 1 + 1) (s + 2 + 70 + Int.toNat 24 + Int.toNat 80) i := by
    rw [e7]
    exact zFn_new f6 (by omega) (by omega) (by rw [show 1 + (i + 1 + 1 + 1 + 1) = 1 + (i + 4) by omega]; exact ha.2.2.2.1) (by rw [show 1 + (i + 1 + 1 + 1 + 1) = 1 + (i + 4) by omega]; exact ha.2.2.2.2)
  have r7 : zrx G7 (t + i) = zup (zup (fun _ => -1) 0 (t + (i + 1))) 1 (t + (i + 3)) := by rw [e7, znG_r (by omega), r6]
  have z6 : (zsz G6 : Int) = t + (i + 4) := by omega
  rw [← e7, z6]
  have t24 : Int.toNat 24 = 24 := rfl
  have t80 : Int.toNat 80 = 80 := rfl
  refine ⟨by omega, by omega, by omega, by omega, zFn_k f7 (by omega) (by omega) k, ?_⟩
  obtain ⟨G8, e8⟩ : ∃ G8 : zG, G8 = zrs G7 (t + i) 2 (t + (i + 4)) := ⟨_, rfl⟩
  have f8 : zFn U G0 X0 G8 (znX G6 (znX G3 X2)) t (i + 1 + 1 + 1 + 1 + 1) (s + 2 + 70 + Int.toNat 24 + Int.toNat 80) i := by
    rw [e8]
    exact zFn_ref f7 rfl (by omega) (by omega)
  have r8 : zrx G8 (t + i) = zup (zup (zup (fun _ => -1) 0 (t + (i + 1))) 1 (t + (i + 3))) 2 (t + (i + 4)) := by rw [e8, zrs_f, r7]
  have x4 : ∀ b : Int, b ≠ t + i → b ≠ t + (i + 3) → zrx G4 b = zrx G2 b := fun b b1 b2 => by rw [e4, znG_r (by omega), e3, zrs_g b1]
  have x8 : ∀ b : Int, b ≠ t + i → b ≠ t + (i + 4) → zrx G8 b = zrx G4 b := fun b b1 b2 => by rw [e8, zrs_g b1, e7, znG_r (by omega), e6, zrs_g b1]
  rw [← e8]
  have g8 := f8.1
  have g9 := f8.2.1
  have n3 : zrx G8 (t + (i + 3)) = fun _ => -1 := by
    rw [x8 _ (by omega) (by omega), e4, ← z3, znG_rs]
  have n4 : zrx G8 (t + (i + 4)) = fun _ => -1 := by
    rw [e8, zrs_g (by omega), e7, ← z6, znG_rs]
  have f9 := zFn_fin (m2 := i + 5) f8 (fun x _ _ _ x0 x1 x2 x3 j j0 => ?_)
  · refine q G8 _ ?_ (fun b hb => ?_) (by omega) (by omega)
    · rw [show i + 1 + 4 = i + 1 + 1 + 1 + 1 + 1 by omega, show s + 176 = s + 2 + 70 + Int.toNat 24 + Int.toNat 80 by omega]
      exact f9
    · rw [x8 b (by omega) (by omega), x4 b (by omega) (by omega), r2 b (by omega) (by omega), znG_r (by omega)]
  · rcases (by omega : x = i ∨ x = i + 1 ∨ x = i + 1 + 1 ∨ x = i + 3 ∨ x = i + 4) with c | c | c | c | c
    · rw [c]
      rw [r8]
      by_cases c0 : j = 0
      · rw [c0]
        exact zIb ha.1.1 (by omega) (by rw [zup_n (by omega), zup_n (by omega), zup_s]; omega)
      · by_cases c1 : j = 1
        · rw [c1]
          exact zIb ha.2.1.1 (by omega) (by rw [zup_n (by omega), zup_s]; omega)
        · by_cases c2 : j = 2
          · rw [c2]
            exact zIb ha.2.2.1 (by omega) (by rw [zup_s]; omega)
          · rw [zup_n c2, zup_n c1, zup_n c0]
            exact zIa (zr0_up (by omega) (by omega) j0 (by omega)) rfl
    · rw [c, x8 _ (by omega) (by omega), x4 _ (by omega) (by omega)]
      exact p1 j j0
    · rw [c, x8 _ (by omega) (by omega), x4 _ (by omega) (by omega)]
      exact p2 j j0
    · rw [c, n3]
      exact zIa (zr0_ar (by omega) (by omega) (Or.inl ha.2.1.2.1)) rfl
    · rw [c, n4]
      exact zIa (zr0_ar (by omega) (by omega) (Or.inl ha.2.2.2.1)) rfl
/-- a house -/
theorem hoI {LC LS : Nat} {Q : List zV → zG → zX → Prop} {U : zX} {G0 G : zG} {X0 X : zX} {t n i : Int} {s : Nat} (h : zFn U G0 X0 G X t n s i) (t0 : 0 ≤ t) (i0 : 8 ≤ i) (ei : n = i + 1) (k : zk0 (1 + i) = 3) (i2 : i + 7 < 104) (fr : zrx G (t + i) = fun _ => -1) (hC : zsz G + 5 = LC) (hS : ztt G + 146 = LS) (q : ∀ (G2 : zG) (X2 : zX), zFn U G0 X0 G2 X2 t (n + 5) (s + 146) (i + 6) → (∀ b : Int, b < t + i → zrx G2 b = zrx G b) → zsz G2 = LC → ztt G2 = LS → Q [] G2 X2) : Ho_init LC LS [zR (t + i)] G X Q := by
  subst ei
  have ha := zHo_a k
  have h1 := h.1
  have h2 := h.2.1
  rw [show 1 + i + 1 = 1 + (i + 1) by omega, show 1 + i + 2 = 1 + (i + 2) by omega, show 1 + i + 4 = 1 + (i + 4) by omega] at ha
  obtain ⟨G1, e1⟩ : ∃ G1 : zG, G1 = znG G 57 2 (Int.toNat 2) := ⟨_, rfl⟩
  have f1 : zFn U G0 X0 G1 (znX G X) t (i + 1 + 1) (s + Int.toNat 2) i := by
    rw [e1]
    exact zFn_new h (by omega) (by omega) ha.1.2.1 ha.1.2.2
  have t2 : Int.toNat 2 = 2 := rfl
  refine Ho_init_e0 ?_
  rw [← e1, h1]
  refine ⟨by omega, by omega, by omega, by omega, by omega, zFn_k f1 (by omega) (by omega) k, ?_⟩
  obtain ⟨G2, e2⟩ : ∃ G2 : zG, G2 = zrs G1 (t + i) 0 (t + (i + 1)) := ⟨_, rfl⟩
  have f2 : zFn U G0 X0 G2 (znX G X) t (i + 1 + 1) (s + Int.toNat 2) i := by
    rw [e2]
    exact zFn_ref f1 rfl (by omega) (by omega)
  have r2 : zrx G2 (t + i) = zup (fun _ => -1) 0 (t + (i + 1)) := by rw [e2, zrs_f, e1, znG_r (by omega), fr]
  have a2 : zrx G2 (t + (i + 1)) = fun _ => -1 := by rw [e2, zrs_g (by omega), e1, ← h1, znG_rs]
  have o2 : ∀ b : Int, b < t + i → zrx G2 b = zrx G b := fun b hb => by rw [e2, zrs_g (by omega), e1, znG_r (by omega)]
  rw [← e2]
  -- one page of the two
  have step : ∀ (x c : Int) (s' : Nat) (H : zG) (Y : zX), 0 ≤ x → x < 2 → c = i + 2 + 2 * x → zk0 (1 + c) = 5 → zFn U G0 X0 H Y t c s' i → zrx H (t + i) 0 = t + (i + 1) → zsz H + 2 ≤ LC → ztt H + 72 ≤ LS → (∀ (K : zG) (Z : zX), zFn U G0 X0 K Z t (c + 2) (s' + 72) i → (∀ b : Int, b < t + c → b ≠ t + (i + 1) → zrx K b = zrx H b) → zrx K (t + (i + 1)) = zup (zrx H (t + (i + 1))) x (t + c) → (∀ j : Int, 0 ≤ j → zrx K (t + c) j = (if zr0 (1 + c) j = -1 then -1 else zr0 (1 + c) j + (t - 1))) → (∀ j : Int, 0 ≤ j → zrx K (t + (c + 1)) j = (if zr0 (1 + (c + 1)) j = -1 then -1 else zr0 (1 + (c + 1)) j + (t - 1))) → Ho_init_W LC LS Q 14 [zR (t + i), zI (x + 1)] [] K Z) → Ho_init_W LC LS Q 14 [zR (t + i), zI x] [] H Y := fun x c s' H Y x0 x2 ec kc f ref hc hs nxt => by
    have f' := f.1
    have f'' := f.2.1
    have hn := zFn_new (k := 5) (l := 0) (c := 2) f (by omega) (by omega) kc (zPg_l kc (by omega) (by omega))
    refine Ho_init_e14 ?_
    rw [ref, zFn_k f (by omega) (by omega) k, zFn_k f (by omega) (by omega) ha.1.2.1, zFn_l f (by omega) (by omega) ha.1.2.2, f']
    refine ⟨rfl, by omega, by omega, fun _ => ⟨by omega, by omega, zFn_k hn (by omega) (by omega) kc, zsz H + 2, ztt H + 72, by show zsz H + 1 ≤ _; omega, by show ztt H + 2 ≤ _; omega, by omega, by omega, ?_⟩, fun z => absurd z (by omega)⟩
    have fr1 : zrx (znG H 5 0 2) (t + c) = fun _ => -1 := by rw [← f', znG_rs]
    refine pgI hn t0 (by omega) rfl (by omega) kc (by omega) fr1 (by show zsz H + 1 + 1 ≤ _; omega) (by show ztt H + 2 + 70 ≤ _; omega) (fun K Z fk rk p1 p2 => ?_)
    have gk := fk.1
    have gk2 := fk.2.1
    rw [zw_id (by omega) (by omega)]
    refine ⟨by omega, by omega, rfl, zFn_k fk (by omega) (by omega) ha.1.2.1, x0, by rw [zFn_l fk (by omega) (by omega) ha.1.2.2]; omega, zFn_k fk (by omega) (by omega) kc, nxt _ Z ?_ (fun b b1 b2 => ?_) ?_ (fun j j0 => ?_) (fun j j0 => ?_)⟩
    · rw [show c + 2 = c + 1 + 1 by omega, show s' + 72 = s' + 2 + 70 by omega]
      exact zFn_ref fk rfl (by omega) (by omega)
    · rw [zrs_g b2, rk b (by omega) (by omega), znG_r (by omega)]
    · rw [zrs_f, rk _ (by omega) (by omega), znG_r (by omega)]
    · rw [zrs_g (by omega)]
      exact p1 j j0
    · rw [zrs_g (by omega)]
      exact p2 j j0
  have f2' := f2.1
  have f2'' := f2.2.1
  refine step 0 (i + 2) (s + 2) G2 _ (by omega) (by omega) (by omega) ha.2.1.2 (by rw [show i + 2 = i + 1 + 1 by omega]; exact f2) (by rw [r2, zup_s]) (by omega) (by omega) (fun K Z fk ok ak p1 p2 => ?_)
  have fk' := fk.1
  have fk'' := fk.2.1
  refine step 1 (i + 4) (s + 2 + 72) K Z (by omega) (by omega) (by omega) ha.2.2.2 (by rw [show i + 4 = i + 2 + 2 by omega]; exact fk) (by rw [ok _ (by omega) (by omega), r2, zup_s]) (by omega) (by omega) (fun M W fm om am p3 p4 => ?_)
  have fm' := fm.1
  have fm'' := fm.2.1
  have rm : zrx M (t + i) = zup (fun _ => -1) 0 (t + (i + 1)) := by rw [om _ (by omega) (by omega), ok _ (by omega) (by omega), r2]
  have ae : zrx M (t + (i + 1)) = zup (zup (fun _ => -1) 0 (t + (i + 2))) 1 (t + (i + 4)) := by rw [am, ak, a2]
  refine Ho_init_e14 ?_
  rw [show zrx M (t + i) 0 = t + (i + 1) by rw [rm, zup_s], zFn_k fm (by omega) (by omega) k, zFn_k fm (by omega) (by omega) ha.1.2.1, zFn_l fm (by omega) (by omega) ha.1.2.2]
  refine ⟨rfl, by omega, by omega, fun z => absurd z (by omega), fun _ => ?_⟩
  have f9 := zFn_fin (m2 := i + 6) fm (fun x _ _ _ x0 x1 x2 x3 j j0 => ?_)
  · refine q M W ?_ (fun b hb => ?_) (by omega) (by omega)
    · rw [show i + 1 + 5 = i + 4 + 2 by omega, show s + 146 = s + 2 + 72 + 72 by omega]
      exact f9
    · rw [om b (by omega) (by omega), ok b (by omega) (by omega), o2 b hb]
  · rcases (by omega : x = i ∨ x = i + 1 ∨ x = i + 2 ∨ x = i + 2 + 1 ∨ x = i + 4 ∨ x = i + 4 + 1) with c | c | c | c | c | c
    · rw [c]
      rw [rm]
      by_cases c0 : j = 0
      · rw [c0]
        exact zIb ha.1.1 (by omega) (by rw [zup_s]; omega)
      · rw [zup_n c0]
        exact zIa (zr0_up (by omega) (by omega) j0 (by omega)) rfl
    · rw [c, ae]
      by_cases c0 : j = 0
      · rw [c0]
        exact zIb ha.2.1.1 (by omega) (by rw [zup_n (by omega), zup_s]; omega)
      · by_cases c1 : j = 1
        · rw [c1]
          exact zIb ha.2.2.1 (by omega) (by rw [zup_s]; omega)
        · rw [zup_n c1, zup_n c0]
          exact zIa (zr0_up (by omega) (by omega) j0 (by omega)) rfl
    · rw [c, om _ (by omega) (by omega)]
      exact p1 j j0
    · rw [c, om _ (by omega) (by omega)]
      exact p2 j j0
    · rw [c]
      exact p3 j j0
    · rw [c]
      exact p4 j j0
theorem zr0_t2 {j : Int} (j0 : 0 ≤ j) (n0 : j ≠ 0) (n5 : j ≠ 5) (n6 : j ≠ 6) : zr0 2 j = -1 := by
  by_cases c : 17 ≤ j
  · exact zr0_hi (by omega) (by omega) c
  · have key : ∀ m : Fin 17, m.val ≠ 0 → m.val ≠ 5 → m.val ≠ 6 → zr0 2 (m.val : Int) = -1 := by decide +kernel
    have z := key ⟨j.toNat, by omega⟩ (by show j.toNat ≠ 0; omega) (by show j.toNat ≠ 5; omega) (by show j.toNat ≠ 6; omega)
    simp only [Int.toNat_of_nonneg j0] at z
    exact z
theorem zr0_t9 {j : Int} (j0 : 6 ≤ j) : zr0 9 j = -1 := by
  by_cases c : 17 ≤ j
  · exact zr0_hi (by omega) (by omega) c
  · have key : ∀ m : Fin 17, 6 ≤ m.val → zr0 9 (m.val : Int) = -1 := by decide +kernel
    have z := key ⟨j.toNat, by omega⟩ (by show 6 ≤ j.toNat; omega)
    simp only [Int.toNat_of_nonneg (by omega : 0 ≤ j)] at z
    exact z
/-- the tape -/
theorem taI {LC LS : Nat} {Q : List zV → zG → zX → Prop} {U : zX} {G0 G : zG} {X0 X : zX} {t : Int} {s : Nat} (h : zFn U G0 X0 G X t 2 s 1) (t0 : 0 ≤ t) (fr : zrx G (t + 1) = fun _ => -1) (hC : zsz G + 4 = LC) (hS : ztt G + 526 = LS) (q2 : ∀ (G2 : zG) (X2 : zX), zsz G2 = LC → ztt G2 = LS → zFn (zst (zst U 1 3 (-1)) 4 1 0) G0 X0 G2 X2 t 6 (s + 526) 6 → (∀ b : Int, b < t + 1 → zrx G2 b = zrx G b) → Q [] G2 X2) : Ta_init LC LS [zR (t + 1)] G X Q := by
  have h1 := h.1
  have h2 := h.2.1
  have t500 : Int.toNat 500 = 500 := rfl
  have t6 : Int.toNat 6 = 6 := rfl
  have t16 : Int.toNat 16 = 16 := rfl
  have k1 : zk0 (1 + 1) = 2 := by decide +kernel
  refine Ta_init_e0 ?_
  rw [h1]
  obtain ⟨G1, e1⟩ : ∃ G1 : zG, G1 = znG G 51 500 (Int.toNat 500) := ⟨_, rfl⟩
  have f1 : zFn (zst U 1 3 (-1)) G0 X0 G1 (zst (znX G X) (t + 1) 3 (-1)) t (2 + 1) (s + Int.toNat 500) 1 := by
    rw [e1]
    exact zFn_num (i := 1) (zFn_new h (by omega) (by omega) (by decide +kernel) (by decide +kernel)) rfl (by omega) (by omega)
  rw [← e1]
  obtain ⟨G2, e2⟩ : ∃ G2 : zG, G2 = zrs G1 (t + 1) 0 (t + 2) := ⟨_, rfl⟩
  have f2 : zFn (zst U 1 3 (-1)) G0 X0 G2 (zst (znX G X) (t + 1) 3 (-1)) t (2 + 1) (s + Int.toNat 500) 1 := by
    rw [e2]
    exact zFn_ref f1 rfl (by omega) (by omega)
  rw [← e2]
  have g2 := f2.1
  have g3 := f2.2.1
  have z2 : (zsz G2 : Int) = t + 3 := by omega
  rw [z2]
  obtain ⟨G3, e3⟩ : ∃ G3 : zG, G3 = znG G2 50 6 (Int.toNat 6) := ⟨_, rfl⟩
  have f3 : zFn (zst U 1 3 (-1)) G0 X0 G3 (znX G2 (zst (znX G X) (t + 1) 3 (-1))) t (2 + 1 + 1) (s + Int.toNat 500 + Int.toNat 6) 1 := by
    rw [e3]
    exact zFn_new f2 (by omega) (by omega) (by decide +kernel) (by decide +kernel)
  rw [← e3]
  refine ⟨by omega, by omega, by omega, by omega, by omega, zFn_k f1 (by omega) (by omega) k1, zFn_k f2 (by omega) (by omega) k1, by omega, by omega, by omega, by omega, zFn_k f3 (by omega) (by omega) k1, fun G4 e4 => ?_⟩
  have f4 : zFn (zst U 1 3 (-1)) G0 X0 G4 (znX G2 (zst (znX G X) (t + 1) 3 (-1))) t (2 + 1 + 1) (s + Int.toNat 500 + Int.toNat 6) 1 := by
    rw [e4]
    exact zFn_ref f3 rfl (by omega) (by omega)
  have g4 := f4.1
  have g5 := f4.2.1
  have z4 : (zsz G4 : Int) = t + 4 := by omega
  rw [z4]
  refine ⟨by omega, by omega, fun X2 ex => ?_⟩
  obtain ⟨G5, e5⟩ : ∃ G5 : zG, G5 = znG G4 14 0 4 := ⟨_, rfl⟩
  have f5 : zFn (zst U 1 3 (-1)) G0 X0 G5 X2 t (2 + 1 + 1 + 1) (s + Int.toNat 500 + Int.toNat 6 + 4) 1 := by
    rw [e5, ex]
    exact zFn_new f4 (by omega) (by omega) (by decide +kernel) (by decide +kernel)
  rw [← e5]
  have g6 := f5.1
  have g7 := f5.2.1
  have k4 : zk0 (1 + 4) = 14 := by decide +kernel
  refine ⟨zFn_k f5 (by omega) (by omega) k4, zsz G5 + 1, ztt G5 + 16, by omega, by omega, by omega, by omega, SB_init_e0 ⟨zFn_k f5 (by omega) (by omega) k4, zsz G5 + 1, ztt G5 + 16, by omega, by omega, Nat.le_refl _, Nat.le_refl _, AB_init_e0 ?_⟩⟩
  have z5 : (zsz G5 : Int) = t + 5 := by omega
  rw [z5]
  obtain ⟨G6, e6⟩ : ∃ G6 : zG, G6 = znG G5 53 16 (Int.toNat 16) := ⟨_, rfl⟩
  have f6 : zFn (zst U 1 3 (-1)) G0 X0 G6 (znX G5 X2) t (2 + 1 + 1 + 1 + 1) (s + Int.toNat 500 + Int.toNat 6 + 4 + Int.toNat 16) 1 := by
    rw [e6]
    exact zFn_new f5 (by omega) (by omega) (by decide +kernel) (by decide +kernel)
  rw [← e6]
  have f7 : zFn (zst (zst U 1 3 (-1)) 4 1 0) G0 X0 (zrs G6 (t + 4) 0 (t + 5)) (zst (znX G5 X2) (t + 4) 1 0) t (2 + 1 + 1 + 1 + 1) (s + Int.toNat 500 + Int.toNat 6 + 4 + Int.toNat 16) 1 := zFn_num (i := 4) (zFn_ref f6 rfl (by omega) (by omega)) rfl (by omega) (by omega)
  obtain ⟨G7, e7⟩ : ∃ G7 : zG, G7 = zrs G6 (t + 4) 0 (t + 5) := ⟨_, rfl⟩
  rw [← e7] at f7 ⊢
  have g8 := f7.1
  have g9 := f7.2.1
  have o4 : ∀ b : Int, b ≠ t + 1 → b < t + 4 → b ≠ t + 2 → b ≠ t + 3 → zrx G7 b = zrx G b := fun b b1 b2 b3 b4 => by rw [e7, zrs_g (by omega), e6, znG_r (by omega), e5, znG_r (by omega), e4, zrs_g b1, e3, znG_r (by omega), e2, zrs_g b1, e1, znG_r (by omega)]
  have r1 : zrx G7 (t + 1) = zup (zup (fun _ => -1) 0 (t + 2)) 5 (t + 3) := by rw [e7, zrs_g (by omega), e6, znG_r (by omega), e5, znG_r (by omega), e4, zrs_f, e3, znG_r (by omega), e2, zrs_f, e1, znG_r (by omega), fr]
  have n2 : zrx G7 (t + 2) = fun _ => -1 := by rw [e7, zrs_g (by omega), e6, znG_r (by omega), e5, znG_r (by omega), e4, zrs_g (by omega), e3, znG_r (by omega), e2, zrs_g (by omega), e1, ← h1, znG_rs]
  have n3 : zrx G7 (t + 3) = fun _ => -1 := by rw [e7, zrs_g (by omega), e6, znG_r (by omega), e5, znG_r (by omega), e4, zrs_g (by omega), e3, ← z2, znG_rs]
  have n4 : zrx G7 (t + 4) = zup (fun _ => -1) 0 (t + 5) := by rw [e7, zrs_f, e6, znG_r (by omega), e5, ← z4, znG_rs]
  have n5 : zrx G7 (t + 5) = fun _ => -1 := by rw [e7, zrs_g (by omega), e6, ← z5, znG_rs]
  have k4' : zkd G7 (t + 4) = 14 := zFn_k f7 (by omega) (by omega) k4
  refine ⟨by omega, by omega, by omega, by omega, by omega, zFn_k f6 (by omega) (by omega) k4, k4', by omega, by omega, rfl, by omega, by omega, rfl, zFn_k f7 (by omega) (by omega) k1, q2 (zrs G7 (t + 1) 6 (t + 4)) _ (by show zsz G7 = _; omega) (by show ztt G7 = _; omega) ?_ (fun b hb => (zrs_g (by omega)).trans (o4 b (by omega) (by omega) (by omega) (by omega)))⟩
  have f8 := zFn_ref (i := 1) (j := 6) (v := t + 4) f7 rfl (by omega) (by omega)
  refine zFn_fin (m2 := 6) ?_ (fun x x0 _ _ _ _ x2 x3 j j0 => ?_) (m := 1)
  · rw [show s + 526 = s + Int.toNat 500 + Int.toNat 6 + 4 + Int.toNat 16 by omega]
    exact f8
  · rcases (by omega : x = 1 ∨ x = 2 ∨ x = 3 ∨ x = 4 ∨ x = 5) with c | c | c | c | c
    · rw [c, zrs_f, r1]
      by_cases c0 : j = 0
      · rw [c0]
        exact zIb (r := 3) (by decide +kernel) (by omega) (by rw [zup_n (by omega), zup_n (by omega), zup_s]; omega)
      · by_cases c5 : j = 5
        · rw [c5]
          exact zIb (r := 4) (by decide +kernel) (by omega) (by rw [zup_n (by omega), zup_s]; omega)
        · by_cases c6 : j = 6
          · rw [c6]
            exact zIb (r := 5) (by decide +kernel) (by omega) (by rw [zup_s]; omega)
          · rw [zup_n c6, zup_n c5, zup_n c0]
            exact zIa (zr0_t2 j0 c0 c5 c6) rfl
    · rw [c, zrs_g (by omega), n2]
      exact zIa (zr0_ar (by omega) (by omega) (by decide +kernel)) rfl
    · rw [c, zrs_g (by omega), n3]
      exact zIa (zr0_ar (by omega) (by omega) (by decide +kernel)) rfl
    · rw [c, zrs_g (by omega), n4]
      by_cases c0 : j = 0
      · rw [c0]
        exact zIb (r := 6) (by decide +kernel) (by omega) (by rw [zup_s]; omega)
      · rw [zup_n c0]
        exact zIa (zr0_up (by omega) (by omega) j0 (Or.inl ⟨by decide +kernel, by omega⟩)) rfl
    · rw [c, zrs_g (by omega), n5]
      exact zIa (zr0_ar (by omega) (by omega) (by decide +kernel)) rfl

