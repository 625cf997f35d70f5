/-! ===== cells read and written ===== -/
theorem zGe {G : zG} {X : zX} {a : Int} (h : zokH G X) (h0 : 0 ≤ zkd G a) (h1 : zkd G a ≠ 15) (h2 : zkd G a ≠ 53) : 0 ≤ a ∧ a < zsz G := by
  rcases h.2.2.2.2.1 a h0 with h | h | h
  · exact h
  · exact absurd h.2 h1
  · exact absurd h.2 h2
/-- a cell is in the world, or stood before -/
theorem zHp_cell {E : zE} {ad : Int → Nat} {G : zG} {X : zX} {H : Heap} {locs : List Loc} {a : Int} (hH : zHp E ad G X H locs) (h0 : 0 ≤ zkd G a) : (∃ (ws : va_W) (q0 : Nat), va_P (eV E).1 zcl ws H ∧ ws[q0]? = some (ad a, zce zft (eV E) ad G X a) ∧ a ≠ -1) ∨ (a = -3 ∧ zkd G a = 15) ∨ (a = -4 ∧ zkd G a = 53) := by
  obtain ⟨-, -, -, -, -, hP, -, -, hok, -⟩ := hH
  rcases hok.2.2.2.2.1 a h0 with ⟨h1, h2⟩ | h | h
  · exact Or.inl ⟨_, a.toNat, hP, zws_at h1 h2, by omega⟩
  · exact Or.inr (Or.inl h)
  · exact Or.inr (Or.inr h)
theorem zHp_cw {E : zE} {ad : Int → Nat} {G : zG} {X : zX} {H : Heap} {locs : List Loc} {a : Int} (hH : zHp E ad G X H locs) (h0 : 0 ≤ zkd G a) (h1 : zkd G a ≠ 15) (h2 : zkd G a ≠ 53) : ∃ (ws : va_W) (q0 : Nat), va_P (eV E).1 zcl ws H ∧ ws[q0]? = some (ad a, zce zft (eV E) ad G X a) ∧ a ≠ -1 := by
  rcases zHp_cell hH h0 with h | h | h
  · exact h
  · exact absurd h.2 h1
  · exact absurd h.2 h2
theorem zce_obj {V : zVM} {ad : Int → Nat} {G : zG} {X : zX} {a : Int} {c : Nat} (h : zkd G a = (c : Int)) (hc : c < 50) : zce zft V ad G X a = .inr (c, zfs ad (zft.getD c []) (zrx G a) (X a)) := by
  unfold zce zcell
  rw [h, if_pos (by omega), Int.toNat_natCast]
theorem zce_arr {V : zVM} {ad : Int → Nat} {G : zG} {X : zX} {a : Int} {t : Nat} (h : zkd G a = 50 + (t : Int)) (ht : t < 4) : zce zft V ad G X a = .inl (V.2 t, (zln G a).toNat, .inl (fun i => Int32.ofInt (X a i))) := by
  unfold zce zcell
  rw [h, if_neg (by omega), if_pos (by omega), show (50 + (t : Int) - 50).toNat = t by omega]
theorem zce_arrR {V : zVM} {ad : Int → Nat} {G : zG} {X : zX} {a : Int} {t : Nat} (h : zkd G a = 50 + (t : Int)) (ht : 4 ≤ t) : zce zft V ad G X a = .inl (V.2 t, (zln G a).toNat, .inr (.inr (.inr (.inr (fun i => if zrx G a i = -1 then none else some (ad (zrx G a i))))))) := by
  unfold zce zcell
  rw [h, if_neg (by omega), if_neg (by omega), show (50 + (t : Int) - 50).toNat = t by omega]
theorem zfs_I {ad : Int → Nat} {fl : List Bool} {r x : Int → Int} {j : Nat} (hj : j < fl.length) (hf : fl.getD j false = false) : (zfs ad fl r x)[j]? = some (.int (Int32.ofInt (x j))) := by
  unfold zfs
  rw [List.getElem?_map, List.getElem?_range hj]
  simp only [Option.map_some, hf]
  rfl
theorem zfs_R {ad : Int → Nat} {fl : List Bool} {r x : Int → Int} {j : Nat} (hj : j < fl.length) (hf : fl.getD j false = true) : (zfs ad fl r x)[j]? = some (zrf ad (r j)) := by
  unfold zfs
  rw [List.getElem?_map, List.getElem?_range hj]
  simp only [Option.map_some, hf]
  rfl
theorem zfs_len {ad : Int → Nat} {fl : List Bool} {r x : Int → Int} : (zfs ad fl r x).length = fl.length := by unfold zfs; rw [List.length_map, List.length_range]
theorem zfs_ext {ad : Int → Nat} {fl : List Bool} {r r' x x' : Int → Int} {j : Nat} {v : Value} (hj : j < fl.length) (hr : ∀ i : Nat, i ≠ j → r' i = r i) (hx : ∀ i : Nat, i ≠ j → x' i = x i) (hv : (zfs ad fl r' x')[j]? = some v) : (zfs ad fl r x).set j v = zfs ad fl r' x' := by
  apply List.ext_getElem?
  intro i
  by_cases hi : i = j
  · subst hi
    rw [List.getElem?_set_self (by rw [zfs_len]; exact hj), hv]
  · rw [List.getElem?_set_ne (Ne.symm hi)]
    by_cases hl : i < fl.length
    · by_cases hf : fl.getD i false = true
      · rw [zfs_R hl hf, zfs_R hl hf, hr i hi]
      · have hf := eq_false_of_ne_true hf
        rw [zfs_I hl hf, zfs_I hl hf, hx i hi]
    · rw [List.getElem?_eq_none (by rw [zfs_len]; omega), List.getElem?_eq_none (by rw [zfs_len]; omega)]
theorem zx_kept {E : zE} {cc : ByteArray} {own : String} {nL fr lo : Nat} {ad : Int → Nat} {G : zG} {X : zX} {H H1 : Heap} {locs locs1 : List Loc} (hc : zCx E cc own nL fr lo) (hH : zHp E ad G X H locs) (hS1 : va_S (eA E) (es E).heap H1 locs1) : zxs zft (eV E) ad G X = zx0 (eV E) ad := hH.2.2.2.2.2.2.2.2.2
theorem zx_3 {E : zE} {ad : Int → Nat} {G : zG} {X : zX} {H : Heap} {locs : List Loc} (hH : zHp E ad G X H locs) (h : zkd G (-3) = 15) : zfs ad (zft.getD 15 []) (zrx G (-3)) (X (-3)) = [.ref (ad (-4)), .int 0] := by
  have e := hH.2.2.2.2.2.2.2.2.2
  unfold zxs zx0 at e
  have e1 := (Prod.mk.inj (List.cons.inj e).1).2
  rw [zce_obj (c := 15) h (by omega)] at e1
  exact (Prod.mk.inj (Sum.inr.inj e1)).2
theorem zx_4 {E : zE} {ad : Int → Nat} {G : zG} {X : zX} {H : Heap} {locs : List Loc} (hH : zHp E ad G X H locs) (h : zkd G (-4) = 53) : (zln G (-4)).toNat = 79 ∧ ∀ i : Nat, Int32.ofInt (X (-4) (i : Int)) = Int32.ofInt (zWt (i : Int)) := by
  have e := hH.2.2.2.2.2.2.2.2.2
  unfold zxs zx0 at e
  have e1 := (Prod.mk.inj (List.cons.inj (List.cons.inj e).2).1).2
  rw [zce_arr (t := 3) h (by omega)] at e1
  have e2 := (Prod.mk.inj (Sum.inl.inj e1)).2
  exact ⟨(Prod.mk.inj e2).1, fun i => congrFun (Sum.inl.inj (Prod.mk.inj e2).2) i⟩
/-- the receiver of a call -/
theorem zRecv {E : zE} {cc : ByteArray} {own : String} {nL fr lo : Nat} {ad : Int → Nat} {G : zG} {X : zX} {H : Heap} {locs : List Loc} {b : Int} {c0 : Nat} {q : vw_C} (hc : zCx E cc own nL fr lo) (hH : zHp E ad G X H locs) (hkb : zkd G b = (c0 : Int)) (hc5 : c0 < 50) (hcl : zcl[c0]? = some q) : ∃ cell : Cell, H[ad b]? = some cell ∧ cell.vm.isStatics = false ∧ (es E).vm.findClass q.1 = some cell.cls := by
  rcases zHp_cell hH (a := b) (by omega) with ⟨ws, q0, hP, hq, -⟩ | ⟨rfl, h⟩ | ⟨-, h⟩
  · rw [zce_obj hkb hc5] at hq
    exact va_recv hc.2.2.2.2.2.2.2.1 hP hcl hq
  · have e15 : c0 = 15 := by omega
    subst e15
    have eq : some (zn15, zt15, 2) = some q := hcl
    have eq2 : (zn15, zt15, 2) = q := Option.some.inj eq
    rw [← eq2]
    obtain ⟨cell, g1, g2, g3, -⟩ := hc.2.2.2.2.2.2.2.2.2.2.1.kept hH.2.2.2.2.2.2.2.1.2.1
    rw [show ad (-3) = ead E (-3) from hH.1 (-3) (by omega)]
    exact ⟨cell, g1, g2, g3⟩
  · omega
/-- behind a write into one cell -/
theorem zHp_put {E : zE} {cc : ByteArray} {own : String} {nL fr lo : Nat} {ad : Int → Nat} {G G' : zG} {X X' : zX} {H H1 : Heap} {locs locs1 : List Loc} {a : Int} {e : va_E} (hc : zCx E cc own nL fr lo) (hH : zHp E ad G X H locs) (h0 : 0 ≤ a) (h : a < zsz G) (hs : zsz G' = zsz G) (ht : ztt G' = ztt G)
    (ho : ∀ k : Int, k ≠ a → zce zft (eV E) ad G' X' k = zce zft (eV E) ad G X k) (he : zce zft (eV E) ad G' X' a = e) (hok : zokH G' X')
    (hP1 : va_P (eV E).1 zcl ((zWs E ad G X).set a.toNat (ad a, e)) H1) (hD1 : va_D (eA E) ((zWs E ad G X).set a.toNat (ad a, e))) (hS1 : va_S (eA E) (es E).heap H1 locs1) : zHp E ad G' X' H1 locs1 := by
  have hx := zx_kept hc hH hS1
  have e1 : (zWs E ad G X).set a.toNat (ad a, e) = zWs E ad G' X' := zws_set h0 h hs ho he
  rw [e1] at hP1 hD1
  obtain ⟨hadd, h2, h3, h4, h5, -⟩ := hH
  refine ⟨hadd, by omega, by omega, by omega, by omega, hP1, hD1, hS1, hok, ?_⟩
  have e2 : zxs zft (eV E) ad G' X' = zxs zft (eV E) ad G X := by
    unfold zxs
    rw [ho (-3) (by omega), ho (-4) (by omega)]
  rw [e2]
  exact hx
/-- a class of zcl, by its number -/
def zCf (c : Nat) (C : String) (T : u_T) (N : Nat) (ty : Nat → FieldType) : Prop := zcl[c]? = some (C, T, N) ∧ (∀ w ∈ u_ws C T N, w ∈ zTb) ∧ (∀ k, k < N → parseFieldDescriptor (T k).2.2.1 = some (ty k)) ∧ (∀ a, a < N → ∀ b, b < N → a ≠ b → (T a).2.1 ≠ (T b).2.1) ∧ (zft.getD c []).length = N
def o_getI (c j : Int) (K : zK) : zK := fun ls st G X => match st with
  | .inr (.inl a) :: st => zkd G a = c ∧ K ls (zI (X a j) :: st) G X
  | _ => False
def o_getR (c j : Int) (K : zK) : zK := fun ls st G X => match st with
  | .inr (.inl a) :: st => zkd G a = c ∧ K ls (zR (zrx G a j) :: st) G X
  | _ => False
theorem z_getI {E : zE} {cc : ByteArray} {own : String} {nL fr lo pc : Nat} {c j : Nat} {cI jI : Int} {C : String} {T : u_T} {N index : Nat} {ty : Nat → FieldType} {K : zK} (hc : zCx E cc own nL fr lo) (hcf : zCf c C T N ty) (ec : cI = (c : Int)) (ej : jI = (j : Int)) (hc5 : c < 50) (hj : j < N) (hfl : (zft.getD c []).getD j false = false) (hw : Cond.fieldLink own index (T j).1 (T j).2.1 (T j).2.2.1 ∈ zTb) (hd : decode cc pc = .ok (.getfield index, 3)) (k : ∀ (ls st : List zV) (G : zG) (X : zX), K ls st G X → zAt E nL (pc + 3) ls st G X) : ∀ (ls st : List zV) (G : zG) (X : zX), o_getI cI jI K ls st G X → zAt E nL pc ls st G X := by
  intro ls st G X h ad H locs lsr hH hL hS
  subst ec; subst ej
  unfold o_getI at h
  split at h
  · rename_i a st
    obtain ⟨-, hS⟩ := List.forall_mem_cons.mp hS
    have hok := hH.2.2.2.2.2.2.2.2.1
    rcases zHp_cell hH (a := a) (by rw [h.1]; omega) with ⟨ws, q0, hP, hq, hn⟩ | ⟨ea, e15⟩ | ⟨-, e53⟩
    · rw [zce_obj h.1 hc5] at hq
      rw [List.map_cons, show zv ad (Sum.inr (Sum.inl a)) = .ref (ad a) from if_neg hn]
      refine va_get hc.1 hc.2.1 hc.2.2.2.2.1 hcf.2.1 hc.2.2.2.1 hc.2.2.2.2.2.2.2.1 hP q0 hq hcf.1 j hj (hc.2.2.2.2.1 _ hw) (fun _ z => z) (zfs_I (by rw [hcf.2.2.2.2]; exact hj) hfl) hd ?_
      exact k _ _ _ _ h.2 ad H locs lsr hH hL (List.forall_mem_cons.mpr ⟨hok.1 _ _, hS⟩)
    · subst ea
      have ec : c = 15 := by have := h.1; omega
      subst ec
      have ecl : some (zn15, zt15, 2) = some (C, T, N) := hcf.1
      obtain ⟨eC, eT⟩ := Prod.mk.inj (Option.some.inj ecl)
      obtain ⟨eT, eN⟩ := Prod.mk.inj eT
      subst eC; subst eT; subst eN
      rcases (by omega : j = 0 ∨ j = 1) with ej | ej
      · subst ej
        exact absurd hfl (by decide)
      · subst ej
        have hz := zx_3 hH e15
        have hv := zfs_I (ad := ad) (fl := zft.getD 15 []) (r := zrx G (-3)) (x := X (-3)) (j := 1) (by decide) (by decide)
        rw [hz] at hv
        have e3 : ad (-3) = ead E (-3) := hH.1 (-3) (by omega)
        have e4 : ad (-4) = ead E (-4) := hH.1 (-4) (by omega)
        rw [List.map_cons, show zv ad (Sum.inr (Sum.inl (-3))) = .ref (ad (-3)) from rfl, e3]
        refine vk_getf hc.1 hc.2.1 (o := "java/lang/String") (ref := "java/lang/String") (n := "coder") (d := "B") (v := .int 0) hc.2.2.2.2.2.2.2.2.2.2.2.1 hH.2.2.2.2.2.2.2.1 hc.2.2.2.1 (hc.2.2.2.2.1 _ hw) (fun _ z => z) hd ?_
        have kk := k _ _ _ _ h.2 ad H locs lsr hH hL (List.forall_mem_cons.mpr ⟨hok.1 _ _, (List.forall_mem_cons.mp hS).2⟩)
        rw [List.map_cons] at kk
        have hv2 := Option.some.inj hv
        rw [show zv ad (zI (X (-3) ((1 : Nat) : Int))) = .int (Int32.ofInt (X (-3) ((1 : Nat) : Int))) from rfl, ← hv2] at kk
        exact kk
    · have := h.1; omega
  · exact h.elim
theorem z_getR {E : zE} {cc : ByteArray} {own : String} {nL fr lo pc : Nat} {c j : Nat} {cI jI : Int} {C : String} {T : u_T} {N index : Nat} {ty : Nat → FieldType} {K : zK} (hc : zCx E cc own nL fr lo) (hcf : zCf c C T N ty) (ec : cI = (c : Int)) (ej : jI = (j : Int)) (hc5 : c < 50) (hj : j < N) (hfl : (zft.getD c []).getD j false = true) (hw : Cond.fieldLink own index (T j).1 (T j).2.1 (T j).2.2.1 ∈ zTb) (hd : decode cc pc = .ok (.getfield index, 3)) (k : ∀ (ls st : List zV) (G : zG) (X : zX), K ls st G X → zAt E nL (pc + 3) ls st G X) : ∀ (ls st : List zV) (G : zG) (X : zX), o_getR cI jI K ls st G X → zAt E nL pc ls st G X := by
  intro ls st G X h ad H locs lsr hH hL hS
  subst ec; subst ej
  unfold o_getR at h
  split at h
  · rename_i a st
    obtain ⟨-, hS⟩ := List.forall_mem_cons.mp hS
    have hok := hH.2.2.2.2.2.2.2.2.1
    rcases zHp_cell hH (a := a) (by rw [h.1]; omega) with ⟨ws, q0, hP, hq, hn⟩ | ⟨ea, e15⟩ | ⟨-, e53⟩
    · rw [zce_obj h.1 hc5] at hq
      rw [List.map_cons, show zv ad (Sum.inr (Sum.inl a)) = .ref (ad a) from if_neg hn]
      refine va_get hc.1 hc.2.1 hc.2.2.2.2.1 hcf.2.1 hc.2.2.2.1 hc.2.2.2.2.2.2.2.1 hP q0 hq hcf.1 j hj (hc.2.2.2.2.1 _ hw) (fun _ z => z) (zfs_R (by rw [hcf.2.2.2.2]; exact hj) hfl) hd ?_
      exact k _ _ _ _ h.2 ad H locs lsr hH hL (List.forall_mem_cons.mpr ⟨hok.2.2.2.2.2.2 _ _, hS⟩)
    · subst ea
      have ec : c = 15 := by have := h.1; omega
      subst ec
      have ecl : some (zn15, zt15, 2) = some (C, T, N) := hcf.1
      obtain ⟨eC, eT⟩ := Prod.mk.inj (Option.some.inj ecl)
      obtain ⟨eT, eN⟩ := Prod.mk.inj eT
      subst eC; subst eT; subst eN
      rcases (by omega : j = 0 ∨ j = 1) with ej | ej
      · subst ej
        have hz := zx_3 hH e15
        have hv := zfs_R (ad := ad) (fl := zft.getD 15 []) (r := zrx G (-3)) (x := X (-3)) (j := 0) (by decide) (by decide)
        rw [hz] at hv
        have e3 : ad (-3) = ead E (-3) := hH.1 (-3) (by omega)
        have e4 : ad (-4) = ead E (-4) := hH.1 (-4) (by omega)
        rw [List.map_cons, show zv ad (Sum.inr (Sum.inl (-3))) = .ref (ad (-3)) from rfl, e3]
        refine vk_getf hc.1 hc.2.1 (o := "java/lang/String") (ref := "java/lang/String") (n := "value") (d := "[B") (v := .ref (ead E (-4))) hc.2.2.2.2.2.2.2.2.2.2.2.2.1 hH.2.2.2.2.2.2.2.1 hc.2.2.2.1 (hc.2.2.2.2.1 _ hw) (fun _ z => z) hd ?_
        have kk := k _ _ _ _ h.2 ad H locs lsr hH hL (List.forall_mem_cons.mpr ⟨hok.2.2.2.2.2.2 _ _, (List.forall_mem_cons.mp hS).2⟩)
        rw [List.map_cons] at kk
        have hv2 := Option.some.inj hv
        rw [show zv ad (zR (zrx G (-3) ((0 : Nat) : Int))) = zrf ad (zrx G (-3) ((0 : Nat) : Int)) from rfl, ← hv2, e4] at kk
        exact kk
      · subst ej
        exact absurd hfl (by decide)
    · have := h.1; omega
  · exact h.elim
theorem zst_s {X : zX} {a j v i : Int} : zst X a j v a i = if i = j then v else X a i := by
  unfold zst zsa zup
  rw [if_pos rfl]
theorem zst_n {X : zX} {a j v b : Int} (h : b ≠ a) : zst X a j v b = X b := by
  unfold zst zsa zup
  rw [if_neg h]
theorem zst_row {X : zX} {a j v : Int} : zst X a j v a = zup (X a) j v := by
  unfold zst zsa zup
  rw [if_pos rfl]
theorem zst_v {X : zX} {a j v b i : Int} : zst X a j v b i = v ∨ zst X a j v b i = X b i := by
  by_cases h : b = a
  · subst h
    rw [zst_s]
    split
    · exact Or.inl rfl
    · exact Or.inr rfl
  · rw [zst_n h]; exact Or.inr rfl
/-- a number written that the cell's kind allows -/
theorem zokH_st {G : zG} {X : zX} {a j v : Int} (h : zokH G X) (hv : zin v) (h1 : zkd G a = 51 → 0 ≤ v ∧ v ≤ 65535) (h2 : zkd G a = 52 → v = 0 ∨ v = 1) (h3 : zkd G a = 53 → -128 ≤ v ∧ v ≤ 127) : zokH G (zst X a j v) := by
  obtain ⟨g1, g2, g3, g4, g5⟩ := h
  refine ⟨fun b i => ?_, fun b i hb => ?_, fun b i hb => ?_, fun b i hb => ?_, g5⟩ <;> by_cases hba : b = a
  · subst hba; rw [zst_s]; split
    · exact hv
    · exact g1 _ _
  · rw [zst_n hba]; exact g1 _ _
  · subst hba; rw [zst_s]; split
    · exact h1 hb
    · exact g2 _ _ hb
  · rw [zst_n hba]; exact g2 _ _ hb
  · subst hba; rw [zst_s]; split
    · exact h2 hb
    · exact g3 _ _ hb
  · rw [zst_n hba]; exact g3 _ _ hb
  · subst hba; rw [zst_s]; split
    · exact h3 hb
    · exact g4 _ _ hb
  · rw [zst_n hba]; exact g4 _ _ hb
/-- a reference anew -/
def zrs (G : zG) (a j v : Int) : zG := (G.1, G.2.1, zst G.2.2.1 a j v, G.2.2.2)
theorem zokH_rs {G : zG} {X : zX} {a j v : Int} (h : zokH G X) (hv : v < zsz G) : zokH (zrs G a j v) X := by
  obtain ⟨g1, g2, g3, g4, g5, g6, g7⟩ := h
  refine ⟨g1, g2, g3, g4, g5, g6, fun b i => ?_⟩
  show zst (zrx G) a j v b i < _
  rcases zst_v (X := zrx G) (a := a) (j := j) (v := v) (b := b) (i := i) with e | e
  · rw [e]; exact hv
  · rw [e]; exact g7 _ _
def o_putI (c j : Int) (K : zK) : zK := fun ls st G X => match st with
  | .inl v :: .inr (.inl a) :: st => zkd G a = c ∧ K ls st G (zst X a j v)
  | _ => False
/-- a boolean's field -/
def o_putZ (c j : Int) (K : zK) : zK := fun ls st G X => match st with
  | .inl v :: .inr (.inl a) :: st => zkd G a = c ∧ (v = 0 ∨ v = 1) ∧ K ls st G (zst X a j v)
  | _ => False
/-- a byte's field -/
def o_putB (c j : Int) (K : zK) : zK := fun ls st G X => match st with
  | .inl v :: .inr (.inl a) :: st => zkd G a = c ∧ (-128 ≤ v ∧ v ≤ 127) ∧ K ls st G (zst X a j v)
  | _ => False
def o_putR (c j : Int) (K : zK) : zK := fun ls st G X => match st with
  | .inr (.inl v) :: .inr (.inl a) :: st => zkd G a = c ∧ K ls st (zrs G a j v) X
  | _ => False
theorem z_fitZ {v : Int} (h : v = 0 ∨ v = 1) : narrow .boolean (.int (Int32.ofInt v)) = .int (Int32.ofInt v) ∧ fits .boolean (.int (Int32.ofInt v)) = true := by
  rcases h with rfl | rfl <;> exact ⟨rfl, rfl⟩
theorem z_fitB {v : Int} (h : -128 ≤ v ∧ v ≤ 127) : narrow .byte (.int (Int32.ofInt v)) = .int (Int32.ofInt v) ∧ fits .byte (.int (Int32.ofInt v)) = true := by
  have hv : zin v := by unfold zin; omega
  constructor
  · show Value.int (Int32.ofInt v).toInt8.toInt32 = _
    rw [zq_i2b hv, show (v + 128) % 256 - 128 = v by omega]
  · show (decide (-128 ≤ Int32.ofInt v) && decide (Int32.ofInt v ≤ 127)) = true
    rw [Bool.and_eq_true, decide_eq_true_eq, decide_eq_true_eq]
    exact ⟨(z_le (x := -128) (by unfold zin; omega) hv).mpr h.1, (z_le (y := 127) hv (by unfold zin; omega)).mpr h.2⟩
theorem z_fitR {ad : Int → Nat} {v : Int} {ty : FieldType} (h : (∃ C, ty = .object C) ∨ ∃ t, ty = .array t) : narrow ty (zrf ad v) = zrf ad v ∧ fits ty (zrf ad v) = true := by
  unfold zrf
  rcases h with ⟨C, rfl⟩ | ⟨t, rfl⟩ <;> split <;> exact ⟨rfl, rfl⟩
theorem z_putI {E : zE} {cc : ByteArray} {own : String} {nL fr lo pc : Nat} {c j : Nat} {cI jI : Int} {C : String} {T : u_T} {N index : Nat} {ty : Nat → FieldType} {K : zK} (hc : zCx E cc own nL fr lo) (hcf : zCf c C T N ty) (ec : cI = (c : Int)) (ej : jI = (j : Int)) (hc5 : c < 50) (hc15 : c ≠ 15) (hj : j < N) (hfl : (zft.getD c []).getD j false = false) (hfin : (T j).2.2.2 = false) (hty : ty j = .int) (hw : Cond.fieldLink own index (T j).1 (T j).2.1 (T j).2.2.1 ∈ zTb) (hd : decode cc pc = .ok (.putfield index, 3)) (k : ∀ (ls st : List zV) (G : zG) (X : zX), K ls st G X → zAt E nL (pc + 3) ls st G X) : ∀ (ls st : List zV) (G : zG) (X : zX), o_putI cI jI K ls st G X → zAt E nL pc ls st G X := by
  intro ls st G X h ad H locs lsr hH hL hS
  subst ec; subst ej
  unfold o_putI at h
  split at h
  · rename_i v a st
    obtain ⟨hv, hS⟩ := List.forall_mem_cons.mp hS
    obtain ⟨-, hS⟩ := List.forall_mem_cons.mp hS
    have hok := hH.2.2.2.2.2.2.2.2.1
    obtain ⟨h0, h1⟩ := zGe (a := a) hok (by rw [h.1]; omega) (by rw [h.1]; omega) (by rw [h.1]; omega)
    have hl : j < (zft.getD c []).length := by rw [hcf.2.2.2.2]; exact hj
    have hq : (zWs E ad G X)[a.toNat]? = some (ad a, zce zft (eV E) ad G X a) := zws_at h0 h1
    rw [zce_obj h.1 hc5] at hq
    rw [List.map_cons, List.map_cons, show zv ad (Sum.inr (Sum.inl a)) = .ref (ad a) from if_neg (by omega)]
    refine va_put hc.1 hc.2.1 hc.2.2.2.2.1 hcf.2.1 ty hcf.2.2.1 hcf.2.2.2.1 hc.2.2.2.1 hc.2.2.2.2.2.2.2.1 hH.2.2.2.2.2.1 hH.2.2.2.2.2.2.1 hH.2.2.2.2.2.2.2.1 a.toNat hq hcf.1 j hj (hc.2.2.2.2.1 _ hw) (fun _ z => z) hfin (hcf.2.2.1 j hj) (show narrow (ty j) (.int (Int32.ofInt v)) = .int (Int32.ofInt v) ∧ fits (ty j) (.int (Int32.ofInt v)) = true by rw [hty]; exact ⟨rfl, rfl⟩).1 (show narrow (ty j) (.int (Int32.ofInt v)) = .int (Int32.ofInt v) ∧ fits (ty j) (.int (Int32.ofInt v)) = true by rw [hty]; exact ⟨rfl, rfl⟩).2 (by rw [zfs_len]; exact hl) hd (fun H1 locs1 hP1 hD1 hS1 => ?_)
    refine k _ _ _ _ h.2 ad H1 locs1 lsr (zHp_put (G' := G) (X' := zst X a (j : Int) v) hc hH h0 h1 rfl rfl (fun q hq => ?_) ?_ (zokH_st hok hv (fun z => by rw [h.1] at z; omega) (fun z => by rw [h.1] at z; omega) (fun z => by rw [h.1] at z; omega)) hP1 hD1 hS1) hL hS
    · unfold zce
      rw [zst_n hq]
    · rw [zce_obj (c := c) (G := G) h.1 hc5]
      refine congrArg (fun z => Sum.inr (c, z)) (Eq.symm (zfs_ext hl (fun i hi => ?_) (fun i hi => ?_) ?_))
      · rfl
      · rw [zst_s, if_neg (by omega)]
      · rw [zfs_I hl hfl]
        rw [zst_s, if_pos rfl]
        rfl
  · exact h.elim
theorem z_putZ {E : zE} {cc : ByteArray} {own : String} {nL fr lo pc : Nat} {c j : Nat} {cI jI : Int} {C : String} {T : u_T} {N index : Nat} {ty : Nat → FieldType} {K : zK} (hc : zCx E cc own nL fr lo) (hcf : zCf c C T N ty) (ec : cI = (c : Int)) (ej : jI = (j : Int)) (hc5 : c < 50) (hc15 : c ≠ 15) (hj : j < N) (hfl : (zft.getD c []).getD j false = false) (hfin : (T j).2.2.2 = false) (hty : ty j = .boolean) (hw : Cond.fieldLink own index (T j).1 (T j).2.1 (T j).2.2.1 ∈ zTb) (hd : decode cc pc = .ok (.putfield index, 3)) (k : ∀ (ls st : List zV) (G : zG) (X : zX), K ls st G X → zAt E nL (pc + 3) ls st G X) : ∀ (ls st : List zV) (G : zG) (X : zX), o_putZ cI jI K ls st G X → zAt E nL pc ls st G X := by
  intro ls st G X h ad H locs lsr hH hL hS
  subst ec; subst ej
  unfold o_putZ at h
  split at h
  · rename_i v a st
    obtain ⟨hv, hS⟩ := List.forall_mem_cons.mp hS
    obtain ⟨-, hS⟩ := List.forall_mem_cons.mp hS
    have hok := hH.2.2.2.2.2.2.2.2.1
    obtain ⟨h0, h1⟩ := zGe (a := a) hok (by rw [h.1]; omega) (by rw [h.1]; omega) (by rw [h.1]; omega)
    have hl : j < (zft.getD c []).length := by rw [hcf.2.2.2.2]; exact hj
    have hq : (zWs E ad G X)[a.toNat]? = some (ad a, zce zft (eV E) ad G X a) := zws_at h0 h1
    rw [zce_obj h.1 hc5] at hq
    rw [List.map_cons, List.map_cons, show zv ad (Sum.inr (Sum.inl a)) = .ref (ad a) from if_neg (by omega)]
    refine va_put hc.1 hc.2.1 hc.2.2.2.2.1 hcf.2.1 ty hcf.2.2.1 hcf.2.2.2.1 hc.2.2.2.1 hc.2.2.2.2.2.2.2.1 hH.2.2.2.2.2.1 hH.2.2.2.2.2.2.1 hH.2.2.2.2.2.2.2.1 a.toNat hq hcf.1 j hj (hc.2.2.2.2.1 _ hw) (fun _ z => z) hfin (hcf.2.2.1 j hj) (show narrow (ty j) (.int (Int32.ofInt v)) = .int (Int32.ofInt v) ∧ fits (ty j) (.int (Int32.ofInt v)) = true by rw [hty]; exact z_fitZ h.2.1).1 (show narrow (ty j) (.int (Int32.ofInt v)) = .int (Int32.ofInt v) ∧ fits (ty j) (.int (Int32.ofInt v)) = true by rw [hty]; exact z_fitZ h.2.1).2 (by rw [zfs_len]; exact hl) hd (fun H1 locs1 hP1 hD1 hS1 => ?_)
    refine k _ _ _ _ h.2.2 ad H1 locs1 lsr (zHp_put (G' := G) (X' := zst X a (j : Int) v) hc hH h0 h1 rfl rfl (fun q hq => ?_) ?_ (zokH_st hok hv (fun z => by rw [h.1] at z; omega) (fun z => by rw [h.1] at z; omega) (fun z => by rw [h.1] at z; omega)) hP1 hD1 hS1) hL hS
    · unfold zce
      rw [zst_n hq]
    · rw [zce_obj (c := c) (G := G) h.1 hc5]
      refine congrArg (fun z => Sum.inr (c, z)) (Eq.symm (zfs_ext hl (fun i hi => ?_) (fun i hi => ?_) ?_))
      · rfl
      · rw [zst_s, if_neg (by omega)]
      · rw [zfs_I hl hfl]
        rw [zst_s, if_pos rfl]
        rfl
  · exact h.elim
theorem z_putB {E : zE} {cc : ByteArray} {own : String} {nL fr lo pc : Nat} {c j : Nat} {cI jI : Int} {C : String} {T : u_T} {N index : Nat} {ty : Nat → FieldType} {K : zK} (hc : zCx E cc own nL fr lo) (hcf : zCf c C T N ty) (ec : cI = (c : Int)) (ej : jI = (j : Int)) (hc5 : c < 50) (hc15 : c ≠ 15) (hj : j < N) (hfl : (zft.getD c []).getD j false = false) (hfin : (T j).2.2.2 = false) (hty : ty j = .byte) (hw : Cond.fieldLink own index (T j).1 (T j).2.1 (T j).2.2.1 ∈ zTb) (hd : decode cc pc = .ok (.putfield index, 3)) (k : ∀ (ls st : List zV) (G : zG) (X : zX), K ls st G X → zAt E nL (pc + 3) ls st G X) : ∀ (ls st : List zV) (G : zG) (X : zX), o_putB cI jI K ls st G X → zAt E nL pc ls st G X := by
  intro ls st G X h ad H locs lsr hH hL hS
  subst ec; subst ej
  unfold o_putB at h
  split at h
  · rename_i v a st
    obtain ⟨hv, hS⟩ := List.forall_mem_cons.mp hS
    obtain ⟨-, hS⟩ := List.forall_mem_cons.mp hS
    have hok := hH.2.2.2.2.2.2.2.2.1
    obtain ⟨h0, h1⟩ := zGe (a := a) hok (by rw [h.1]; omega) (by rw [h.1]; omega) (by rw [h.1]; omega)
    have hl : j < (zft.getD c []).length := by rw [hcf.2.2.2.2]; exact hj
    have hq : (zWs E ad G X)[a.toNat]? = some (ad a, zce zft (eV E) ad G X a) := zws_at h0 h1
    rw [zce_obj h.1 hc5] at hq
    rw [List.map_cons, List.map_cons, show zv ad (Sum.inr (Sum.inl a)) = .ref (ad a) from if_neg (by omega)]
    refine va_put hc.1 hc.2.1 hc.2.2.2.2.1 hcf.2.1 ty hcf.2.2.1 hcf.2.2.2.1 hc.2.2.2.1 hc.2.2.2.2.2.2.2.1 hH.2.2.2.2.2.1 hH.2.2.2.2.2.2.1 hH.2.2.2.2.2.2.2.1 a.toNat hq hcf.1 j hj (hc.2.2.2.2.1 _ hw) (fun _ z => z) hfin (hcf.2.2.1 j hj) (show narrow (ty j) (.int (Int32.ofInt v)) = .int (Int32.ofInt v) ∧ fits (ty j) (.int (Int32.ofInt v)) = true by rw [hty]; exact z_fitB h.2.1).1 (show narrow (ty j) (.int (Int32.ofInt v)) = .int (Int32.ofInt v) ∧ fits (ty j) (.int (Int32.ofInt v)) = true by rw [hty]; exact z_fitB h.2.1).2 (by rw [zfs_len]; exact hl) hd (fun H1 locs1 hP1 hD1 hS1 => ?_)
    refine k _ _ _ _ h.2.2 ad H1 locs1 lsr (zHp_put (G' := G) (X' := zst X a (j : Int) v) hc hH h0 h1 rfl rfl (fun q hq => ?_) ?_ (zokH_st hok hv (fun z => by rw [h.1] at z; omega) (fun z => by rw [h.1] at z; omega) (fun z => by rw [h.1] at z; omega)) hP1 hD1 hS1) hL hS
    · unfold zce
      rw [zst_n hq]
    · rw [zce_obj (c := c) (G := G) h.1 hc5]
      refine congrArg (fun z => Sum.inr (c, z)) (Eq.symm (zfs_ext hl (fun i hi => ?_) (fun i hi => ?_) ?_))
      · rfl
      · rw [zst_s, if_neg (by omega)]
      · rw [zfs_I hl hfl]
        rw [zst_s, if_pos rfl]
        rfl
  · exact h.elim
theorem z_putR {E : zE} {cc : ByteArray} {own : String} {nL fr lo pc : Nat} {c j : Nat} {cI jI : Int} {C : String} {T : u_T} {N index : Nat} {ty : Nat → FieldType} {K : zK} (hc : zCx E cc own nL fr lo) (hcf : zCf c C T N ty) (ec : cI = (c : Int)) (ej : jI = (j : Int)) (hc5 : c < 50) (hc15 : c ≠ 15) (hj : j < N) (hfl : (zft.getD c []).getD j false = true) (hfin : (T j).2.2.2 = false) (hty : (∃ D, ty j = .object D) ∨ ∃ t, ty j = .array t) (hw : Cond.fieldLink own index (T j).1 (T j).2.1 (T j).2.2.1 ∈ zTb) (hd : decode cc pc = .ok (.putfield index, 3)) (k : ∀ (ls st : List zV) (G : zG) (X : zX), K ls st G X → zAt E nL (pc + 3) ls st G X) : ∀ (ls st : List zV) (G : zG) (X : zX), o_putR cI jI K ls st G X → zAt E nL pc ls st G X := by
  intro ls st G X h ad H locs lsr hH hL hS
  subst ec; subst ej
  unfold o_putR at h
  split at h
  · rename_i v a st
    obtain ⟨hv, hS⟩ := List.forall_mem_cons.mp hS
    obtain ⟨-, hS⟩ := List.forall_mem_cons.mp hS
    have hok := hH.2.2.2.2.2.2.2.2.1
    obtain ⟨h0, h1⟩ := zGe (a := a) hok (by rw [h.1]; omega) (by rw [h.1]; omega) (by rw [h.1]; omega)
    have hl : j < (zft.getD c []).length := by rw [hcf.2.2.2.2]; exact hj
    have hq : (zWs E ad G X)[a.toNat]? = some (ad a, zce zft (eV E) ad G X a) := zws_at h0 h1
    rw [zce_obj h.1 hc5] at hq
    rw [List.map_cons, List.map_cons, show zv ad (Sum.inr (Sum.inl a)) = .ref (ad a) from if_neg (by omega)]
    refine va_put hc.1 hc.2.1 hc.2.2.2.2.1 hcf.2.1 ty hcf.2.2.1 hcf.2.2.2.1 hc.2.2.2.1 hc.2.2.2.2.2.2.2.1 hH.2.2.2.2.2.1 hH.2.2.2.2.2.2.1 hH.2.2.2.2.2.2.2.1 a.toNat hq hcf.1 j hj (hc.2.2.2.2.1 _ hw) (fun _ z => z) hfin (hcf.2.2.1 j hj) (z_fitR (ad := ad) (v := v) hty).1 (z_fitR (ad := ad) (v := v) hty).2 (by rw [zfs_len]; exact hl) hd (fun H1 locs1 hP1 hD1 hS1 => ?_)
    refine k _ _ _ _ h.2 ad H1 locs1 lsr (zHp_put (G' := zrs G a (j : Int) v) (X' := X) hc hH h0 h1 rfl rfl (fun q hq => ?_) ?_ (zokH_rs hok hv) hP1 hD1 hS1) hL hS
    · unfold zce
      rw [show zrx (zrs G a (j : Int) v) q = zrx G q from zst_n (X := zrx G) hq]
      rfl
    · rw [zce_obj (c := c) (G := zrs G a (j : Int) v) h.1 hc5]
      refine congrArg (fun z => Sum.inr (c, z)) (Eq.symm (zfs_ext hl (fun i hi => ?_) (fun i hi => ?_) ?_))
      · show zst (zrx G) a (j : Int) v a i = _
        rw [zst_s, if_neg (by omega)]
      · rfl
      · rw [zfs_R hl hfl]
        show some (zrf ad (zst (zrx G) a (j : Int) v a j)) = _
        rw [zst_s, if_pos rfl]
        rfl
  · exact h.elim
theorem z_putIF {E : zE} {cc : ByteArray} {own : String} {nL fr lo pc : Nat} {c j : Nat} {cI jI : Int} {C : String} {T : u_T} {N index : Nat} {ty : Nat → FieldType} {K : zK} (hc : zCx E cc own nL fr lo) (hcf : zCf c C T N ty) (ec : cI = (c : Int)) (ej : jI = (j : Int)) (hc5 : c < 50) (hc15 : c ≠ 15) (hj : j < N) (hfl : (zft.getD c []).getD j false = false) (hfin : (T j).2.2.2 = true) (hin2 : (eh E).name = "<init>") (hown : (T j).1 = own) (hty : ty j = .int) (hw : Cond.fieldLink own index (T j).1 (T j).2.1 (T j).2.2.1 ∈ zTb) (hd : decode cc pc = .ok (.putfield index, 3)) (k : ∀ (ls st : List zV) (G : zG) (X : zX), K ls st G X → zAt E nL (pc + 3) ls st G X) : ∀ (ls st : List zV) (G : zG) (X : zX), o_putI cI jI K ls st G X → zAt E nL pc ls st G X := by
  intro ls st G X h ad H locs lsr hH hL hS
  subst ec; subst ej
  unfold o_putI at h
  split at h
  · rename_i v a st
    obtain ⟨hv, hS⟩ := List.forall_mem_cons.mp hS
    obtain ⟨-, hS⟩ := List.forall_mem_cons.mp hS
    have hok := hH.2.2.2.2.2.2.2.2.1
    obtain ⟨h0, h1⟩ := zGe (a := a) hok (by rw [h.1]; omega) (by rw [h.1]; omega) (by rw [h.1]; omega)
    have hl : j < (zft.getD c []).length := by rw [hcf.2.2.2.2]; exact hj
    have hq : (zWs E ad G X)[a.toNat]? = some (ad a, zce zft (eV E) ad G X a) := zws_at h0 h1
    rw [zce_obj h.1 hc5] at hq
    rw [List.map_cons, List.map_cons, show zv ad (Sum.inr (Sum.inl a)) = .ref (ad a) from if_neg (by omega)]
    refine va_putF hc.1 hc.2.1 hc.2.2.2.2.1 hcf.2.1 ty hcf.2.2.1 hcf.2.2.2.1 hc.2.2.2.1 hc.2.2.2.2.2.2.2.1 hH.2.2.2.2.2.1 hH.2.2.2.2.2.2.1 hH.2.2.2.2.2.2.2.1 a.toNat hq hcf.1 j hj (hc.2.2.2.2.1 _ hw) (fun _ z => z) hfin hin2 hown (hcf.2.2.1 j hj) (show narrow (ty j) (.int (Int32.ofInt v)) = .int (Int32.ofInt v) ∧ fits (ty j) (.int (Int32.ofInt v)) = true by rw [hty]; exact ⟨rfl, rfl⟩).1 (show narrow (ty j) (.int (Int32.ofInt v)) = .int (Int32.ofInt v) ∧ fits (ty j) (.int (Int32.ofInt v)) = true by rw [hty]; exact ⟨rfl, rfl⟩).2 (by rw [zfs_len]; exact hl) hd (fun H1 locs1 hP1 hD1 hS1 => ?_)
    refine k _ _ _ _ h.2 ad H1 locs1 lsr (zHp_put (G' := G) (X' := zst X a (j : Int) v) hc hH h0 h1 rfl rfl (fun q hq => ?_) ?_ (zokH_st hok hv (fun z => by rw [h.1] at z; omega) (fun z => by rw [h.1] at z; omega) (fun z => by rw [h.1] at z; omega)) hP1 hD1 hS1) hL hS
    · unfold zce
      rw [zst_n hq]
    · rw [zce_obj (c := c) (G := G) h.1 hc5]
      refine congrArg (fun z => Sum.inr (c, z)) (Eq.symm (zfs_ext hl (fun i hi => ?_) (fun i hi => ?_) ?_))
      · rfl
      · rw [zst_s, if_neg (by omega)]
      · rw [zfs_I hl hfl]
        rw [zst_s, if_pos rfl]
        rfl
  · exact h.elim
theorem z_putZF {E : zE} {cc : ByteArray} {own : String} {nL fr lo pc : Nat} {c j : Nat} {cI jI : Int} {C : String} {T : u_T} {N index : Nat} {ty : Nat → FieldType} {K : zK} (hc : zCx E cc own nL fr lo) (hcf : zCf c C T N ty) (ec : cI = (c : Int)) (ej : jI = (j : Int)) (hc5 : c < 50) (hc15 : c ≠ 15) (hj : j < N) (hfl : (zft.getD c []).getD j false = false) (hfin : (T j).2.2.2 = true) (hin2 : (eh E).name = "<init>") (hown : (T j).1 = own) (hty : ty j = .boolean) (hw : Cond.fieldLink own index (T j).1 (T j).2.1 (T j).2.2.1 ∈ zTb) (hd : decode cc pc = .ok (.putfield index, 3)) (k : ∀ (ls st : List zV) (G : zG) (X : zX), K ls st G X → zAt E nL (pc + 3) ls st G X) : ∀ (ls st : List zV) (G : zG) (X : zX), o_putZ cI jI K ls st G X → zAt E nL pc ls st G X := by
  intro ls st G X h ad H locs lsr hH hL hS
  subst ec; subst ej
  unfold o_putZ at h
  split at h
  · rename_i v a st
    obtain ⟨hv, hS⟩ := List.forall_mem_cons.mp hS
    obtain ⟨-, hS⟩ := List.forall_mem_cons.mp hS
    have hok := hH.2.2.2.2.2.2.2.2.1
    obtain ⟨h0, h1⟩ := zGe (a := a) hok (by rw [h.1]; omega) (by rw [h.1]; omega) (by rw [h.1]; omega)
    have hl : j < (zft.getD c []).length := by rw [hcf.2.2.2.2]; exact hj
    have hq : (zWs E ad G X)[a.toNat]? = some (ad a, zce zft (eV E) ad G X a) := zws_at h0 h1
    rw [zce_obj h.1 hc5] at hq
    rw [List.map_cons, List.map_cons, show zv ad (Sum.inr (Sum.inl a)) = .ref (ad a) from if_neg (by omega)]
    refine va_putF hc.1 hc.2.1 hc.2.2.2.2.1 hcf.2.1 ty hcf.2.2.1 hcf.2.2.2.1 hc.2.2.2.1 hc.2.2.2.2.2.2.2.1 hH.2.2.2.2.2.1 hH.2.2.2.2.2.2.1 hH.2.2.2.2.2.2.2.1 a.toNat hq hcf.1 j hj (hc.2.2.2.2.1 _ hw) (fun _ z => z) hfin hin2 hown (hcf.2.2.1 j hj) (show narrow (ty j) (.int (Int32.ofInt v)) = .int (Int32.ofInt v) ∧ fits (ty j) (.int (Int32.ofInt v)) = true by rw [hty]; exact z_fitZ h.2.1).1 (show narrow (ty j) (.int (Int32.ofInt v)) = .int (Int32.ofInt v) ∧ fits (ty j) (.int (Int32.ofInt v)) = true by rw [hty]; exact z_fitZ h.2.1).2 (by rw [zfs_len]; exact hl) hd (fun H1 locs1 hP1 hD1 hS1 => ?_)
    refine k _ _ _ _ h.2.2 ad H1 locs1 lsr (zHp_put (G' := G) (X' := zst X a (j : Int) v) hc hH h0 h1 rfl rfl (fun q hq => ?_) ?_ (zokH_st hok hv (fun z => by rw [h.1] at z; omega) (fun z => by rw [h.1] at z; omega) (fun z => by rw [h.1] at z; omega)) hP1 hD1 hS1) hL hS
    · unfold zce
      rw [zst_n hq]
    · rw [zce_obj (c := c) (G := G) h.1 hc5]
      refine congrArg (fun z => Sum.inr (c, z)) (Eq.symm (zfs_ext hl (fun i hi => ?_) (fun i hi => ?_) ?_))
      · rfl
      · rw [zst_s, if_neg (by omega)]
      · rw [zfs_I hl hfl]
        rw [zst_s, if_pos rfl]
        rfl
  · exact h.elim
theorem z_putBF {E : zE} {cc : ByteArray} {own : String} {nL fr lo pc : Nat} {c j : Nat} {cI jI : Int} {C : String} {T : u_T} {N index : Nat} {ty : Nat → FieldType} {K : zK} (hc : zCx E cc own nL fr lo) (hcf : zCf c C T N ty) (ec : cI = (c : Int)) (ej : jI = (j : Int)) (hc5 : c < 50) (hc15 : c ≠ 15) (hj : j < N) (hfl : (zft.getD c []).getD j false = false) (hfin : (T j).2.2.2 = true) (hin2 : (eh E).name = "<init>") (hown : (T j).1 = own) (hty : ty j = .byte) (hw : Cond.fieldLink own index (T j).1 (T j).2.1 (T j).2.2.1 ∈ zTb) (hd : decode cc pc = .ok (.putfield index, 3)) (k : ∀ (ls st : List zV) (G : zG) (X : zX), K ls st G X → zAt E nL (pc + 3) ls st G X) : ∀ (ls st : List zV) (G : zG) (X : zX), o_putB cI jI K ls st G X → zAt E nL pc ls st G X := by
  intro ls st G X h ad H locs lsr hH hL hS
  subst ec; subst ej
  unfold o_putB at h
  split at h
  · rename_i v a st
    obtain ⟨hv, hS⟩ := List.forall_mem_cons.mp hS
    obtain ⟨-, hS⟩ := List.forall_mem_cons.mp hS
    have hok := hH.2.2.2.2.2.2.2.2.1
    obtain ⟨h0, h1⟩ := zGe (a := a) hok (by rw [h.1]; omega) (by rw [h.1]; omega) (by rw [h.1]; omega)
    have hl : j < (zft.getD c []).length := by rw [hcf.2.2.2.2]; exact hj
    have hq : (zWs E ad G X)[a.toNat]? = some (ad a, zce zft (eV E) ad G X a) := zws_at h0 h1
    rw [zce_obj h.1 hc5] at hq
    rw [List.map_cons, List.map_cons, show zv ad (Sum.inr (Sum.inl a)) = .ref (ad a) from if_neg (by omega)]
    refine va_putF hc.1 hc.2.1 hc.2.2.2.2.1 hcf.2.1 ty hcf.2.2.1 hcf.2.2.2.1 hc.2.2.2.1 hc.2.2.2.2.2.2.2.1 hH.2.2.2.2.2.1 hH.2.2.2.2.2.2.1 hH.2.2.2.2.2.2.2.1 a.toNat hq hcf.1 j hj (hc.2.2.2.2.1 _ hw) (fun _ z => z) hfin hin2 hown (hcf.2.2.1 j hj) (show narrow (ty j) (.int (Int32.ofInt v)) = .int (Int32.ofInt v) ∧ fits (ty j) (.int (Int32.ofInt v)) = true by rw [hty]; exact z_fitB h.2.1).1 (show narrow (ty j) (.int (Int32.ofInt v)) = .int (Int32.ofInt v) ∧ fits (ty j) (.int (Int32.ofInt v)) = true by rw [hty]; exact z_fitB h.2.1).2 (by rw [zfs_len]; exact hl) hd (fun H1 locs1 hP1 hD1 hS1 => ?_)
    refine k _ _ _ _ h.2.2 ad H1 locs1 lsr (zHp_put (G' := G) (X' := zst X a (j : Int) v) hc hH h0 h1 rfl rfl (fun q hq => ?_) ?_ (zokH_st hok hv (fun z => by rw [h.1] at z; omega) (fun z => by rw [h.1] at z; omega) (fun z => by rw [h.1] at z; omega)) hP1 hD1 hS1) hL hS
    · unfold zce
      rw [zst_n hq]
    · rw [zce_obj (c := c) (G := G) h.1 hc5]
      refine congrArg (fun z => Sum.inr (c, z)) (Eq.symm (zfs_ext hl (fun i hi => ?_) (fun i hi => ?_) ?_))
      · rfl
      · rw [zst_s, if_neg (by omega)]
      · rw [zfs_I hl hfl]
        rw [zst_s, if_pos rfl]
        rfl
  · exact h.elim
theorem z_putRF {E : zE} {cc : ByteArray} {own : String} {nL fr lo pc : Nat} {c j : Nat} {cI jI : Int} {C : String} {T : u_T} {N index : Nat} {ty : Nat → FieldType} {K : zK} (hc : zCx E cc own nL fr lo) (hcf : zCf c C T N ty) (ec : cI = (c : Int)) (ej : jI = (j : Int)) (hc5 : c < 50) (hc15 : c ≠ 15) (hj : j < N) (hfl : (zft.getD c []).getD j false = true) (hfin : (T j).2.2.2 = true) (hin2 : (eh E).name = "<init>") (hown : (T j).1 = own) (hty : (∃ D, ty j = .object D) ∨ ∃ t, ty j = .array t) (hw : Cond.fieldLink own index (T j).1 (T j).2.1 (T j).2.2.1 ∈ zTb) (hd : decode cc pc = .ok (.putfield index, 3)) (k : ∀ (ls st : List zV) (G : zG) (X : zX), K ls st G X → zAt E nL (pc + 3) ls st G X) : ∀ (ls st : List zV) (G : zG) (X : zX), o_putR cI jI K ls st G X → zAt E nL pc ls st G X := by
  intro ls st G X h ad H locs lsr hH hL hS
  subst ec; subst ej
  unfold o_putR at h
  split at h
  · rename_i v a st
    obtain ⟨hv, hS⟩ := List.forall_mem_cons.mp hS
    obtain ⟨-, hS⟩ := List.forall_mem_cons.mp hS
    have hok := hH.2.2.2.2.2.2.2.2.1
    obtain ⟨h0, h1⟩ := zGe (a := a) hok (by rw [h.1]; omega) (by rw [h.1]; omega) (by rw [h.1]; omega)
    have hl : j < (zft.getD c []).length := by rw [hcf.2.2.2.2]; exact hj
    have hq : (zWs E ad G X)[a.toNat]? = some (ad a, zce zft (eV E) ad G X a) := zws_at h0 h1
    rw [zce_obj h.1 hc5] at hq
    rw [List.map_cons, List.map_cons, show zv ad (Sum.inr (Sum.inl a)) = .ref (ad a) from if_neg (by omega)]
    refine va_putF hc.1 hc.2.1 hc.2.2.2.2.1 hcf.2.1 ty hcf.2.2.1 hcf.2.2.2.1 hc.2.2.2.1 hc.2.2.2.2.2.2.2.1 hH.2.2.2.2.2.1 hH.2.2.2.2.2.2.1 hH.2.2.2.2.2.2.2.1 a.toNat hq hcf.1 j hj (hc.2.2.2.2.1 _ hw) (fun _ z => z) hfin hin2 hown (hcf.2.2.1 j hj) (z_fitR (ad := ad) (v := v) hty).1 (z_fitR (ad := ad) (v := v) hty).2 (by rw [zfs_len]; exact hl) hd (fun H1 locs1 hP1 hD1 hS1 => ?_)
    refine k _ _ _ _ h.2 ad H1 locs1 lsr (zHp_put (G' := zrs G a (j : Int) v) (X' := X) hc hH h0 h1 rfl rfl (fun q hq => ?_) ?_ (zokH_rs hok hv) hP1 hD1 hS1) hL hS
    · unfold zce
      rw [show zrx (zrs G a (j : Int) v) q = zrx G q from zst_n (X := zrx G) hq]
      rfl
    · rw [zce_obj (c := c) (G := zrs G a (j : Int) v) h.1 hc5]
      refine congrArg (fun z => Sum.inr (c, z)) (Eq.symm (zfs_ext hl (fun i hi => ?_) (fun i hi => ?_) ?_))
      · show zst (zrx G) a (j : Int) v a i = _
        rw [zst_s, if_neg (by omega)]
      · rfl
      · rw [zfs_R hl hfl]
        show some (zrf ad (zst (zrx G) a (j : Int) v a j)) = _
        rw [zst_s, if_pos rfl]
        rfl
  · exact h.elim
