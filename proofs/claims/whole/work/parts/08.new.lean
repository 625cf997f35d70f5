/-! ===== cells made ===== -/
theorem zv_ad {ad ad' : Int → Nat} {n : Nat} {v : zV} (hv : zok n v) (h : ∀ k : Int, k < n → ad' k = ad k) : zv ad' v = zv ad v := by
  rcases v with x | a | x | x
  · rfl
  · show zrf ad' a = zrf ad a
    unfold zrf
    rw [h a hv]
  · rfl
  · rfl
theorem zok_le {n n' : Nat} {v : zV} (hv : zok n v) (h : n ≤ n') : zok n' v := by
  rcases v with x | a | x | x
  · exact hv
  · show a < n'
    have : a < n := hv
    omega
  · exact hv
  · exact hv
theorem zst_ad {ad ad' : Int → Nat} {n : Nat} {st : List zV} (hv : ∀ v ∈ st, zok n v) (h : ∀ k : Int, k < n → ad' k = ad k) : st.map (zv ad') = st.map (zv ad) := List.map_congr_left fun v hm => zv_ad (hv v hm) h
theorem zLc_ad {ad ad' : Int → Nat} {n n' nL : Nat} {ls : List zV} {lsr : Array Slot} (hL : zLc ad n nL ls lsr) (hn : n ≤ n') (h : ∀ k : Int, k < n → ad' k = ad k) : zLc ad' n' nL ls lsr :=
  ⟨hL.1, hL.2.1, hL.2.2.1, fun i v hv => (hL.2.2.2 i v hv).imp id (fun z => ⟨zok_le z.1 hn, by rw [zv_ad z.1 h]; exact z.2⟩)⟩
/-- one cell more, of a kind, of a length: its references null, its numbers 0 -/
def znG (G : zG) (kd ln : Int) (n : Nat) : zG := (zup (zkd G) (zsz G) kd, zup (zln G) (zsz G) ln, zup (zrx G) (zsz G) (fun _ => -1), zsz G + 1, ztt G + n)
def znX (G : zG) (X : zX) : zX := zup X (zsz G) (fun _ => 0)
theorem zokH_new {G : zG} {X : zX} {kd ln : Int} {n : Nat} (h : zokH G X) (hl : 0 ≤ ln ∧ ln ≤ 100000) : zokH (znG G kd ln n) (znX G X) := by
  obtain ⟨g1, g2, g3, g4, g5, g6, g7⟩ := h
  have hk : ∀ a : Int, a ≠ zsz G → zkd (znG G kd ln n) a = zkd G a := fun a ha => zup_n ha
  have hx : ∀ a : Int, a ≠ zsz G → znX G X a = X a := fun a ha => zup_n ha
  have hx0 : ∀ j : Int, znX G X (zsz G) j = 0 := fun j => by unfold znX; rw [zup_s]
  refine ⟨fun a j => ?_, fun a j ha => ?_, fun a j ha => ?_, fun a j ha => ?_, fun a ha => ?_, fun a => ?_, fun a j => ?_⟩
  · by_cases e : a = zsz G
    · rw [e, hx0]; unfold zin; omega
    · rw [hx a e]; exact g1 _ _
  · by_cases e : a = zsz G
    · rw [e, hx0]; omega
    · rw [hx a e]; rw [hk a e] at ha; exact g2 _ _ ha
  · by_cases e : a = zsz G
    · rw [e, hx0]; exact Or.inl rfl
    · rw [hx a e]; rw [hk a e] at ha; exact g3 _ _ ha
  · by_cases e : a = zsz G
    · rw [e, hx0]; omega
    · rw [hx a e]; rw [hk a e] at ha; exact g4 _ _ ha
  · show (0 ≤ a ∧ a < (zsz G + 1 : Nat)) ∨ _
    by_cases e : a = zsz G
    · exact Or.inl (by omega)
    · rw [hk a e] at ha ⊢
      rcases g5 a ha with z | z | z
      · exact Or.inl (by omega)
      · exact Or.inr (Or.inl z)
      · exact Or.inr (Or.inr z)
  · show 0 ≤ zup (zln G) (zsz G) ln a ∧ zup (zln G) (zsz G) ln a ≤ 100000
    by_cases e : a = zsz G
    · rw [e, zup_s]; exact hl
    · rw [zup_n e]; exact g6 a
  · show zup (zrx G) (zsz G) (fun _ => -1) a j < (zsz G + 1 : Nat)
    by_cases e : a = zsz G
    · rw [e, zup_s]
      omega
    · rw [zup_n e]
      have := g7 a j
      omega
theorem zHp_new {E : zE} {cc : ByteArray} {own : String} {nL fr lo : Nat} {ad : Int → Nat} {G : zG} {X : zX} {H H1 : Heap} {locs : List Loc} {kd ln : Int} {n q : Nat} {e : va_E} (hc : zCx E cc own nL fr lo) (hH : zHp E ad G X H locs) (hl : 0 ≤ ln ∧ ln ≤ 100000)
    (hce : zsz G + 1 - esz E ≤ (eR E).cells) (hsl : ztt G + n - ett E ≤ (eR E).slots) (he : zcell zft (eV E) (zup ad (zsz G) q) kd ln (fun _ => -1) (fun _ => 0) = e)
    (hP1 : va_P (eV E).1 zcl (zWs E ad G X ++ [(q, e)]) H1) (hD1 : va_D (eA E) (zWs E ad G X ++ [(q, e)])) (hS1 : va_S (eA E) (es E).heap H1 locs) : zHp E (zup ad (zsz G) q) (znG G kd ln n) (znX G X) H1 locs := by
  have hx := zx_kept hc hH hS1
  have hok := hH.2.2.2.2.2.2.2.2.1
  have ha : ∀ k : Int, k < zsz G → zup ad (zsz G) q k = ad k := fun k hk => zup_n (by omega)
  have hcell : ∀ k : Int, k < zsz G → zce zft (eV E) (zup ad (zsz G) q) (znG G kd ln n) (znX G X) k = zce zft (eV E) ad G X k := fun k hk => by
    unfold zce znX
    rw [show zkd (znG G kd ln n) k = zkd G k from zup_n (by omega), show zln (znG G kd ln n) k = zln G k from zup_n (by omega), show zrx (znG G kd ln n) k = zrx G k from zup_n (by omega), zup_n (by omega)]
    exact zcell_ad (hok.2.2.2.2.2.2 k) ha
  have e1 : zWs E ad G X ++ [(q, e)] = zWs E (zup ad (zsz G) q) (znG G kd ln n) (znX G X) := zws_push rfl ha (fun k _ hk => hcell k hk) (zup_s _ _ _) (by
    unfold zce znX
    rw [show zkd (znG G kd ln n) (zsz G) = kd from zup_s _ _ _, show zln (znG G kd ln n) (zsz G) = ln from zup_s _ _ _, show zrx (znG G kd ln n) (zsz G) = (fun _ => -1) from zup_s _ _ _, zup_s]
    exact he)
  rw [e1] at hP1 hD1
  obtain ⟨hadd, h2, h3, -⟩ := hH
  refine ⟨fun k hk => (ha k (by omega)).trans (hadd k hk), Nat.le_succ_of_le h2, Nat.le_trans h3 (Nat.le_add_right _ _), hce, hsl, hP1, hD1, hS1, zokH_new hok hl, ?_⟩
  unfold zxs
  rw [ha (-3) (by omega), ha (-4) (by omega), hcell (-3) (by omega), hcell (-4) (by omega)]
  exact hx
/-- how far cells and slots may go -/
def o_new (LC LS : Nat) (c : Int) (N : Nat) (K : zK) : zK := fun ls st G X => zsz G + 1 ≤ LC ∧ ztt G + N ≤ LS ∧ K ls (zR (zsz G) :: st) (znG G c 0 N) (znX G X)
def o_newa (LC LS : Nat) (t : Int) (K : zK) : zK := fun ls st G X => match st with
  | .inl n :: st => 0 ≤ n ∧ n ≤ 100000 ∧ zsz G + 1 ≤ LC ∧ ztt G + n.toNat ≤ LS ∧ K ls (zR (zsz G) :: st) (znG G t n n.toNat) (znX G X)
  | _ => False
theorem zfs_new (ad : Int → Nat) (fl : List Bool) : zfs ad fl (fun _ => -1) (fun _ => 0) = fl.map fun b => if b = true then .null else .int 0 := by
  apply List.ext_getElem?
  intro i
  by_cases hl : i < fl.length
  · rw [List.getElem?_map, List.getElem?_eq_getElem hl]
    by_cases hf : fl.getD i false = true
    · rw [zfs_R hl hf]
      have : fl[i] = true := by rw [← hf]; simp [List.getD_eq_getElem?_getD, hl]
      rw [Option.map_some, this]
      rfl
    · have hf := eq_false_of_ne_true hf
      rw [zfs_I hl hf]
      have : fl[i] = false := by rw [← hf]; simp [List.getD_eq_getElem?_getD, hl]
      rw [Option.map_some, this]
      rfl
  · rw [List.getElem?_eq_none (by rw [zfs_len]; omega), List.getElem?_eq_none (by rw [List.length_map]; omega)]
theorem z_new {E : zE} {cc : ByteArray} {own : String} {nL fr lo pc : Nat} {LC LS : Nat} {c : Nat} {cI : Int} {C : String} {T : u_T} {N index : Nat} {ty : Nat → FieldType} {K : zK} (hc : zCx E cc own nL fr lo) (hcf : zCf c C T N ty) (ec : cI = (c : Int)) (hc5 : c < 50) (hLC : LC - esz E ≤ (eR E).cells) (hLS : LS - ett E ≤ (eR E).slots) (hdf : ∀ j, j < N → defaultValue (ty j) = vp_V ((zft.getD c []).map fun b => if b = true then .null else .int 0) j) (hw : Cond.classLink own index C ∈ zTb) (hw2 : Cond.instantiable C N ∈ zTb) (hw3 : Cond.initialized C ∈ zTb) (hd : decode cc pc = .ok (.new index, 3)) (k : ∀ (ls st : List zV) (G : zG) (X : zX), K ls st G X → zAt E nL (pc + 3) ls st G X) : ∀ (ls st : List zV) (G : zG) (X : zX), o_new LC LS cI N K ls st G X → zAt E nL pc ls st G X := by
  intro ls st G X h ad H locs lsr hH hL hS
  subst ec
  unfold o_new at h
  have h2 := hH.2.1
  have h3 := hH.2.2.1
  refine va_new (c0 := ec E) hc.1 hc.2.1 hc.2.2.2.2.1 hcf.2.1 ty hcf.2.2.1 hc.2.2.2.1 (hc.2.2.2.2.1 _ hw) (hc.2.2.2.2.1 _ hw2) (hc.2.2.2.2.1 _ hw3) hc.2.2.2.2.2.2.2.1 hH.2.2.2.2.2.1 hH.2.2.2.2.2.2.1 hH.2.2.2.2.2.2.2.1 hc.2.2.2.2.2.2.2.2.1 hcf.1 hdf (by omega) (by omega) hd (fun q H1 hP1 hD1 hS1 => ?_)
  have hH1 := zHp_new (kd := (c : Int)) (ln := 0) (n := N) (q := q) hc hH (by omega) (by omega) (by omega) (by
    unfold zcell
    rw [if_pos (by omega), Int.toNat_natCast, zfs_new]) hP1 hD1 hS1
  have ha : ∀ k : Int, k < zsz G → zup ad (zsz G) q k = ad k := fun k hk => zup_n (by omega)
  have hk := k _ _ _ _ h.2.2 _ H1 locs lsr hH1 (zLc_ad hL (Nat.le_succ _) ha) (List.forall_mem_cons.mpr ⟨by show (zsz G : Int) < (zsz G + 1 : Nat); omega, fun v hv => zok_le (hS v hv) (Nat.le_succ _)⟩)
  rw [List.map_cons, zst_ad hS ha, show zv (zup ad (zsz G) q) (zR (zsz G)) = .ref q by show zrf _ _ = _; unfold zrf; rw [if_neg (by omega), zup_s]] at hk
  unfold zW at hk
  rw [show zsz (znG G (c : Int) 0 N) - esz E = zsz G - esz E + 1 by show zsz G + 1 - esz E = _; omega, show ztt (znG G (c : Int) 0 N) - ett E = ztt G - ett E + N by show ztt G + N - ett E = _; omega] at hk
  exact hk
theorem z_cA {E : zE} {cc : ByteArray} {own : String} {nL fr lo t : Nat} {cA : ClassId} {ty : FieldType} (hc : zCx E cc own nL fr lo) (hty : (zty (eV E).2)[t]? = some ((eV E).2 t, ty)) (hn : ty = .int ∨ ty = .char ∨ ty = .boolean ∨ ty = .byte ∨ ∃ C, ty = .object C) (h : va_RA (es E) cA ty) : cA = (eV E).2 t := by
  have h2 := (hc.2.2.2.2.2.2.2.1.2 t _ hty).2
  rcases hn with rfl | rfl | rfl | rfl | ⟨C, rfl⟩
  · exact Option.some.inj ((show (es E).vm.findClass _ = some cA from h).symm.trans h2)
  · exact Option.some.inj ((show (es E).vm.findClass _ = some cA from h).symm.trans h2)
  · exact Option.some.inj ((show (es E).vm.findClass _ = some cA from h).symm.trans h2)
  · exact Option.some.inj ((show (es E).vm.findClass _ = some cA from h).symm.trans h2)
  · obtain ⟨_, _, _, _, _, h3⟩ := h
    obtain ⟨_, _, _, _, _, h4⟩ := h2
    exact Option.some.inj (h3.symm.trans h4)
theorem z_ta {E : zE} {cc : ByteArray} {own : String} {nL fr lo : Nat} {cA : ClassId} {ty : FieldType} (hK : va_K (eV E).1 zcl (zty (eV E).2 ++ [(cA, ty)]) (es E)) (hc : zCx E cc own nL fr lo) : va_RA (es E) cA ty := by
  have := hK.2 (zty (eV E).2).length (cA, ty) (by rw [List.getElem?_append_right (Nat.le_refl _), Nat.sub_self]; rfl)
  exact this.2
theorem z_newa {E : zE} {cc : ByteArray} {own : String} {nL fr lo pc : Nat} {LC LS : Nat} {t : Nat} {tI : Int} {ty : FieldType} {atype : ArrayType} {K : zK} (hc : zCx E cc own nL fr lo) (et : tI = 50 + (t : Int)) (ht : t < 4) (hty : (zty (eV E).2)[t]? = some ((eV E).2 t, ty)) (hat : newarray.typeOf atype = ty) (htn : ty = .int ∨ ty = .char ∨ ty = .boolean ∨ ty = .byte ∨ ∃ C, ty = .object C) (hb : componentBytes ty ≤ 8) (hdv : defaultValue ty = .int 0) (hLC : LC - esz E ≤ (eR E).cells) (hLS : LS - ett E ≤ (eR E).slots) (hw : Cond.arrayClass ty ∈ zTb) (hd : decode cc pc = .ok (.newarray atype, 2)) (k : ∀ (ls st : List zV) (G : zG) (X : zX), K ls st G X → zAt E nL (pc + 2) ls st G X) : ∀ (ls st : List zV) (G : zG) (X : zX), o_newa LC LS tI K ls st G X → zAt E nL pc ls st G X := by
  intro ls st G X h ad H locs lsr hH hL hS
  subst et
  unfold o_newa at h
  split at h
  · rename_i n st
    obtain ⟨hn, hS⟩ := List.forall_mem_cons.mp hS
    have h2 := hH.2.1
    have h3 := hH.2.2.1
    have hbb : n.toNat * componentBytes ty ≤ 536870912 := Nat.le_trans (Nat.mul_le_mul (show n.toNat ≤ 100000 by omega) hb) (by omega)
    refine va_newa (n := Int32.ofInt n) (N' := n.toNat) (a0 := (n.toNat, .inl (fun _ => 0))) hc.1 hc.2.1 (by rw [hat]; exact hc.2.2.2.2.1 _ hw) hat hc.2.2.2.2.2.2.2.1 hH.2.2.2.2.2.1 hH.2.2.2.2.2.2.1 hH.2.2.2.2.2.2.2.1 hc.2.2.2.2.2.2.2.2.1 (fun cA => by rw [vp_cell_i, hdv]) (fun z => by have := (z_lt hn zin_0).mp z; omega) (z_nc h.1 hn) hbb (by omega) (by omega) hd (fun q cA H1 hK1 hP1 hD1 hS1 => ?_)
    have ecA := z_cA hc hty htn (z_ta hK1 hc)
    subst ecA
    have hH1 := zHp_new (kd := 50 + (t : Int)) (ln := n) (n := n.toNat) (q := q) hc hH ⟨h.1, h.2.1⟩ (by omega) (by omega) (by
      unfold zcell
      rw [if_neg (by omega), if_pos (by omega), show (50 + (t : Int) - 50).toNat = t by omega]
      rfl) hP1 hD1 hS1
    have ha : ∀ k : Int, k < zsz G → zup ad (zsz G) q k = ad k := fun k hk => zup_n (by omega)
    have hk := k _ _ _ _ h.2.2.2.2 _ H1 locs lsr hH1 (zLc_ad hL (Nat.le_succ _) ha) (List.forall_mem_cons.mpr ⟨by show (zsz G : Int) < (zsz G + 1 : Nat); omega, fun v hv => zok_le (hS v hv) (Nat.le_succ _)⟩)
    rw [List.map_cons, zst_ad hS ha, show zv (zup ad (zsz G) q) (zR (zsz G)) = .ref q by show zrf _ _ = _; unfold zrf; rw [if_neg (by omega), zup_s]] at hk
    unfold zW at hk
    rw [show zsz (znG G (50 + (t : Int)) n n.toNat) - esz E = zsz G - esz E + 1 by show zsz G + 1 - esz E = _; omega, show ztt (znG G (50 + (t : Int)) n n.toNat) - ett E = ztt G - ett E + n.toNat by show ztt G + n.toNat - ett E = _; omega] at hk
    exact hk
  · exact h.elim
theorem z_anew {E : zE} {cc : ByteArray} {own : String} {nL fr lo pc : Nat} {LC LS : Nat} {t : Nat} {tI : Int} {C : String} {index : Nat} {K : zK} (hc : zCx E cc own nL fr lo) (et : tI = 50 + (t : Int)) (ht : 4 ≤ t) (hty : (zty (eV E).2)[t]? = some ((eV E).2 t, .object C)) (hLC : LC - esz E ≤ (eR E).cells) (hLS : LS - ett E ≤ (eR E).slots) (hw : Cond.classLink own index C ∈ zTb) (hw2 : va_AO C (es E)) (hd : decode cc pc = .ok (.anewarray index, 3)) (k : ∀ (ls st : List zV) (G : zG) (X : zX), K ls st G X → zAt E nL (pc + 3) ls st G X) : ∀ (ls st : List zV) (G : zG) (X : zX), o_newa LC LS tI K ls st G X → zAt E nL pc ls st G X := by
  intro ls st G X h ad H locs lsr hH hL hS
  subst et
  unfold o_newa at h
  split at h
  · rename_i n st
    obtain ⟨hn, hS⟩ := List.forall_mem_cons.mp hS
    have h2 := hH.2.1
    have h3 := hH.2.2.1
    refine va_newq (n := Int32.ofInt n) (N' := n.toNat) hc.1 hc.2.1 hc.2.2.2.1 (hc.2.2.2.2.1 _ hw) hw2 hc.2.2.2.2.2.2.2.1 hH.2.2.2.2.2.1 hH.2.2.2.2.2.2.1 hH.2.2.2.2.2.2.2.1 hc.2.2.2.2.2.2.2.2.1 (fun z => by have := (z_lt hn zin_0).mp z; omega) (z_nc h.1 hn) (by omega) (by omega) (by omega) hd (fun q cA H1 hK1 hP1 hD1 hS1 => ?_)
    have ecA := z_cA hc hty (Or.inr (Or.inr (Or.inr (Or.inr ⟨C, rfl⟩)))) (z_ta hK1 hc)
    subst ecA
    have hH1 := zHp_new (kd := 50 + (t : Int)) (ln := n) (n := n.toNat) (q := q) hc hH ⟨h.1, h.2.1⟩ (by omega) (by omega) (by
      unfold zcell
      rw [if_neg (by omega), if_neg (by omega), show (50 + (t : Int) - 50).toNat = t by omega]
      rfl) hP1 hD1 hS1
    have ha : ∀ k : Int, k < zsz G → zup ad (zsz G) q k = ad k := fun k hk => zup_n (by omega)
    have hk := k _ _ _ _ h.2.2.2.2 _ H1 locs lsr hH1 (zLc_ad hL (Nat.le_succ _) ha) (List.forall_mem_cons.mpr ⟨by show (zsz G : Int) < (zsz G + 1 : Nat); omega, fun v hv => zok_le (hS v hv) (Nat.le_succ _)⟩)
    rw [List.map_cons, zst_ad hS ha, show zv (zup ad (zsz G) q) (zR (zsz G)) = .ref q by show zrf _ _ = _; unfold zrf; rw [if_neg (by omega), zup_s]] at hk
    unfold zW at hk
    rw [show zsz (znG G (50 + (t : Int)) n n.toNat) - esz E = zsz G - esz E + 1 by show zsz G + 1 - esz E = _; omega, show ztt (znG G (50 + (t : Int)) n n.toNat) - ett E = ztt G - ett E + n.toNat by show ztt G + n.toNat - ett E = _; omega] at hk
    exact hk
  · exact h.elim
