/-! ===== a branch that is never taken ===== -/
def o_dead : zK := fun _ _ _ _ => False
theorem z_dead {E : zE} {nL pc : Nat} : ∀ (ls st : List zV) (G : zG) (X : zX), o_dead ls st G X → zAt E nL pc ls st G X := fun _ _ _ _ h => h.elim
/-! ===== System.arraycopy between rows of one kind ===== -/
def zcpy (f g : Int → Int) (sp dp n : Int) : Int → Int := fun j => if dp ≤ j ∧ j < dp + n then f (sp + (j - dp)) else g j
def o_copy (t : Int) (K : zK) : zK := fun ls st G X => match st with
  | .inl n :: .inl dp :: .inr (.inl b) :: .inl sp :: .inr (.inl a) :: st => zkd G a = t ∧ zkd G b = t ∧ 0 ≤ a ∧ 0 ≤ b ∧ 0 ≤ sp ∧ 0 ≤ dp ∧ 0 ≤ n ∧ sp + n ≤ zln G a ∧ dp + n ≤ zln G b ∧ (st.map zcat).sum ≤ 8 ∧ K ls st G (zsa X b (zcpy (X a) (X b) sp dp n))
  | _ => False
theorem z_cpyI {f g : Int → Int} {sp dp n : Int} (hs : zin sp) (hd : zin dp) (hn : zin n) (h1 : 0 ≤ sp) (h2 : 0 ≤ dp) (h3 : 0 ≤ n) :
    va_cpy (fun j : Nat => Int32.ofInt (f j)) (fun j : Nat => Int32.ofInt (g j)) (Int32.ofInt sp).toNatClampNeg (Int32.ofInt dp).toNatClampNeg (Int32.ofInt n).toNatClampNeg = fun j : Nat => Int32.ofInt (zcpy f g sp dp n j) := by
  rw [z_nc h1 hs, z_nc h2 hd, z_nc h3 hn]
  funext j
  unfold va_cpy zcpy
  by_cases h : dp ≤ (j : Int) ∧ (j : Int) < dp + n
  · rw [if_pos h, if_pos (by omega), show sp + ((j : Int) - dp) = ((sp.toNat + (j - dp.toNat) : Nat) : Int) by omega]
  · rw [if_neg h, if_neg (by omega)]
theorem z_fitA {G : zG} {X : zX} {a : Int} {t : Nat} {ty : FieldType} {V : zVM} (h : zokH G X) (hk : zkd G a = 50 + (t : Int)) (ht : t < 4) (hty : (zty V.2)[t]? = some (V.2 t, ty)) (i : Int) : fits ty (.int (Int32.ofInt (X a i))) = true := by
  have e1 : ∀ {x y : Int}, zin x → zin y → x ≤ y → decide (Int32.ofInt x ≤ Int32.ofInt y) = true := fun hx hy hxy => decide_eq_true ((z_le hx hy).mpr hxy)
  rcases t with _ | _ | _ | _ | t
  · cases hty; rfl
  · cases hty
    have := h.2.1 a i hk
    show (decide (Int32.ofInt 0 ≤ Int32.ofInt (X a i)) && decide (Int32.ofInt (X a i) ≤ Int32.ofInt 65535)) = true
    rw [e1 zin_0 (h.1 a i) this.1, e1 (h.1 a i) (by unfold zin; omega) this.2]
    rfl
  · cases hty
    rcases h.2.2.1 a i hk with e | e <;> rw [e] <;> rfl
  · cases hty
    have := h.2.2.2.1 a i hk
    show (decide (Int32.ofInt (-128) ≤ Int32.ofInt (X a i)) && decide (Int32.ofInt (X a i) ≤ Int32.ofInt 127)) = true
    rw [e1 (by unfold zin; omega) (h.1 a i) this.1, e1 (h.1 a i) (by unfold zin; omega) this.2]
    rfl
  · omega
theorem zcpy_v {f g : Int → Int} {sp dp n j : Int} : (∃ i, zcpy f g sp dp n j = f i) ∨ zcpy f g sp dp n j = g j := by
  unfold zcpy
  split
  · exact Or.inl ⟨_, rfl⟩
  · exact Or.inr rfl
theorem zokH_cpy {G : zG} {X : zX} {a b sp dp n : Int} (h : zokH G X) (hk : zkd G a = zkd G b) : zokH G (zsa X b (zcpy (X a) (X b) sp dp n)) := by
  obtain ⟨g1, g2, g3, g4, g5⟩ := h
  have hv : ∀ c j, zsa X b (zcpy (X a) (X b) sp dp n) c j = X c j ∨ (c = b ∧ ∃ i, zsa X b (zcpy (X a) (X b) sp dp n) c j = X a i) := by
    intro c j
    by_cases hc : c = b
    · subst hc
      show zup X c _ c j = _ ∨ _
      rcases zcpy_v (f := X a) (g := X c) (sp := sp) (dp := dp) (n := n) (j := j) with ⟨i, e⟩ | e
      · exact Or.inr ⟨rfl, i, by show zup X c _ c j = _; rw [zup_s]; exact e⟩
      · exact Or.inl (by rw [zup_s]; exact e)
    · exact Or.inl (by show zup X b _ c j = _; rw [zup_n hc])
  refine ⟨fun c j => ?_, fun c j hc => ?_, fun c j hc => ?_, fun c j hc => ?_, g5⟩
  · rcases hv c j with e | ⟨-, i, e⟩ <;> rw [e] <;> exact g1 _ _
  · rcases hv c j with e | ⟨rfl, i, e⟩ <;> rw [e]
    · exact g2 _ _ hc
    · exact g2 _ _ (hk.trans hc)
  · rcases hv c j with e | ⟨rfl, i, e⟩ <;> rw [e]
    · exact g3 _ _ hc
    · exact g3 _ _ (hk.trans hc)
  · rcases hv c j with e | ⟨rfl, i, e⟩ <;> rw [e]
    · exact g4 _ _ hc
    · exact g4 _ _ (hk.trans hc)
theorem z_copy {E : zE} {cc : ByteArray} {own : String} {nL fr lo pc : Nat} {t : Nat} {tI : Int} {ty : FieldType} {index : Nat} {K : zK} (hc : zCx E cc own nL fr lo) (et : tI = 50 + (t : Int)) (ht : t < 4) (hty : (zty (eV E).2)[t]? = some ((eV E).2 t, ty)) (hpr : refKind ty = false) (hw1 : Cond.methodLink own index arraycopyName ∈ zTb) (hw2 : Cond.native arraycopyName ∈ zTb) (hw3 : Cond.static arraycopyName ∈ zTb) (hw4 : Cond.initialized "java/lang/System" ∈ zTb) (hR : 1 ≤ fr ∧ 8 + (nativeFrameWords "java/lang/System" "arraycopy" 5 + 11) ≤ lo) (hd : decode cc pc = .ok (.invokestatic index, 3)) (k : ∀ (ls st : List zV) (G : zG) (X : zX), K ls st G X → zAt E nL (pc + 3) ls st G X) : ∀ (ls st : List zV) (G : zG) (X : zX), o_copy tI K ls st G X → zAt E nL pc ls st G X := by
  intro ls st G X h ad H locs lsr hH hL hS
  subst et
  unfold o_copy at h
  split at h
  · rename_i n dp b sp a st
    obtain ⟨hn, hS⟩ := List.forall_mem_cons.mp hS
    obtain ⟨hdp, hS⟩ := List.forall_mem_cons.mp hS
    obtain ⟨-, hS⟩ := List.forall_mem_cons.mp hS
    obtain ⟨hsp, hS⟩ := List.forall_mem_cons.mp hS
    obtain ⟨-, hS⟩ := List.forall_mem_cons.mp hS
    obtain ⟨ka, kb, a0, b0, c1, c2, c3, c4, c5, c6, h⟩ := h
    have hn : zin n := hn
    have hdp : zin dp := hdp
    have hsp : zin sp := hsp
    have hok := hH.2.2.2.2.2.2.2.2.1
    have hb1 : b < zsz G := by rcases hok.2.2.2.2.1 b (by omega) with z | z | z <;> omega
    have hq1 : (zWs E ad G X)[b.toNat]? = some (ad b, zce zft (eV E) ad G X b) := zws_at b0 hb1
    rw [zce_arr (t := t) kb ht] at hq1
    have hRf : 1 ≤ (eR E).frames := by rw [hc.2.2.2.2.2.1]; exact hR.1
    have hRl : ((st.map (zv ad)).map fun v => v.category).sum + (nativeFrameWords "java/lang/System" "arraycopy" 5 + 11) ≤ (eR E).locals := by
      rw [hc.2.2.2.2.2.2.1, zcat_sum]
      omega
    have hml : (ec E).maxLocals = lsr.size := hc.2.2.1.trans hL.1.symm
    have hn0 : ∀ {x : Int}, zin x → 0 ≤ x → ¬ Int32.ofInt x < 0 := fun hx h0 z => by have := (z_lt hx zin_0).mp z; omega
    have a1 : a < zsz G := by rcases hok.2.2.2.2.1 a (by omega) with z | z | z <;> omega
    · have hq0 : (zWs E ad G X)[a.toNat]? = some (ad a, zce zft (eV E) ad G X a) := zws_at a0 a1
      rw [zce_arr (t := t) ka ht] at hq0
      rw [List.map_cons, List.map_cons, List.map_cons, List.map_cons, List.map_cons, show zv ad (Sum.inr (Sum.inl a)) = .ref (ad a) from if_neg (by omega), show zv ad (Sum.inr (Sum.inl b)) = .ref (ad b) from if_neg (by omega)]
      refine va_copyi hc.1 hc.2.1 hml hc.2.2.2.1 (hc.2.2.2.2.1 _ hw1) (hc.2.2.2.2.1 _ hw2) (hc.2.2.2.2.1 _ hw3) (hc.2.2.2.2.1 _ hw4) hc.2.2.2.2.2.2.2.1 hH.2.2.2.2.2.1 hH.2.2.2.2.2.2.1 hH.2.2.2.2.2.2.2.1 a.toNat b.toNat t t hq0 hq1 hty hty hpr
        (hn0 hsp c1) (hn0 hdp c2) (hn0 hn c3) (by rw [z_nc c1 hsp, z_nc c3 hn]; omega) (by rw [z_nc c2 hdp, z_nc c3 hn]; omega) (fun i _ => z_fitA hok ka ht hty _) hRf hRl hd (fun H1 locs1 hP1 hD1 hS1 => ?_)
      rw [z_cpyI hsp hdp hn c1 c2 c3] at hP1 hD1
      refine k _ _ _ _ h ad H1 locs1 lsr (zHp_put (G' := G) (X' := zsa X b (zcpy (X a) (X b) sp dp n)) hc hH b0 hb1 rfl rfl (fun q hq => ?_) ?_ (zokH_cpy hok (ka.trans kb.symm)) hP1 hD1 hS1) hL hS
      · unfold zce zsa
        rw [zup_n hq]
      · rw [zce_arr (t := t) kb ht]
        unfold zsa
        rw [zup_s]
  · exact h.elim
/-! ===== statics, texts, comparisons of references, Math ===== -/
def o_null2 (K : zK) : zK := fun ls st G X => ∀ r : Int, (r = -1 ∨ r = -2) → K ls (zR r :: st) G X
def o_text (K : zK) : zK := fun ls st G X => K ls (zR (-3) :: st) G X
theorem z_getCS {E : zE} {cc : ByteArray} {own : String} {nL fr lo pc : Nat} {index : Nat} {K : zK} (hc : zCx E cc own nL fr lo) (hx : zXt (ead E) (eA E) (es E)) (hw : Cond.fieldLink own index "java/lang/String" "COMPACT_STRINGS" "Z" ∈ zTb) (hd : decode cc pc = .ok (.getstatic index, 3)) (k : ∀ (ls st : List zV) (G : zG) (X : zX), K ls st G X → zAt E nL (pc + 3) ls st G X) : ∀ (ls st : List zV) (G : zG) (X : zX), o_ipush 1 K ls st G X → zAt E nL pc ls st G X := by
  intro ls st G X h ad H locs lsr hH hL hS
  unfold o_ipush at h
  refine va_gets hc.1 hc.2.1 hx.2.1 hH.2.2.2.2.2.2.2.1 hc.2.2.2.1 (hc.2.2.2.2.1 _ hw) (fun _ z => z) hd ?_
  exact k _ _ _ _ h ad H locs lsr hH hL (List.forall_mem_cons.mpr ⟨by show zin 1; unfold zin; omega, hS⟩)
theorem z_getFm {E : zE} {cc : ByteArray} {own : String} {nL fr lo pc : Nat} {index : Nat} {K : zK} (hc : zCx E cc own nL fr lo) (hx : zXt (ead E) (eA E) (es E)) (hw : Cond.fieldLink own index "jdk/internal/util/Preconditions" "SIOOBE_FORMATTER" "Ljava/util/function/BiFunction;" ∈ zTb) (hd : decode cc pc = .ok (.getstatic index, 3)) (k : ∀ (ls st : List zV) (G : zG) (X : zX), K ls st G X → zAt E nL (pc + 3) ls st G X) : ∀ (ls st : List zV) (G : zG) (X : zX), o_null2 K ls st G X → zAt E nL pc ls st G X := by
  intro ls st G X h ad H locs lsr hH hL hS
  unfold o_null2 at h
  rcases hx.2.2.1 with hz | hz
  · refine va_gets hc.1 hc.2.1 hz hH.2.2.2.2.2.2.2.1 hc.2.2.2.1 (hc.2.2.2.2.1 _ hw) (fun _ z => z) hd ?_
    exact k _ _ _ _ (h (-1) (Or.inl rfl)) ad H locs lsr hH hL (List.forall_mem_cons.mpr ⟨by show (-1 : Int) < _; omega, hS⟩)
  · refine va_gets hc.1 hc.2.1 hz hH.2.2.2.2.2.2.2.1 hc.2.2.2.1 (hc.2.2.2.2.1 _ hw) (fun _ z => z) hd ?_
    have := k _ _ _ _ (h (-2) (Or.inr rfl)) ad H locs lsr hH hL (List.forall_mem_cons.mpr ⟨by show (-2 : Int) < _; omega, hS⟩)
    rw [List.map_cons, show zv ad (zR (-2)) = .ref (ad (-2)) from rfl, hH.1 (-2) (by omega)] at this
    exact this
theorem z_ldcS {E : zE} {cc : ByteArray} {own : String} {nL fr lo pc : Nat} {index : Nat} {K : zK} (hc : zCx E cc own nL fr lo) (hx : zXt (ead E) (eA E) (es E)) (ho : own = "PretendDesk$Tape") (hix : index = zTi) (hd : decode cc pc = .ok (.ldc index, 2)) (k : ∀ (ls st : List zV) (G : zG) (X : zX), K ls st G X → zAt E nL (pc + 2) ls st G X) : ∀ (ls st : List zV) (G : zG) (X : zX), o_text K ls st G X → zAt E nL pc ls st G X := by
  intro ls st G X h ad H locs lsr hH hL hS
  unfold o_text at h
  subst ho; subst hix
  refine va_ldcS hc.1 hc.2.1 hc.2.2.2.1 hx.2.2.2.1 hd ?_
  have := k _ _ _ _ h ad H locs lsr hH hL (List.forall_mem_cons.mpr ⟨by show (-3 : Int) < _; omega, hS⟩)
  rw [List.map_cons, show zv ad (zR (-3)) = .ref (ad (-3)) from rfl, hH.1 (-3) (by omega)] at this
  exact this
/-- an object of class c, asked whether it is one, and cast to it -/
def o_isof (c : Int) (K : zK) : zK := fun ls st G X => match st with
  | .inr (.inl a) :: st => zkd G a = c ∧ K ls (zI 1 :: st) G X
  | _ => False
def o_asof (c : Int) (K : zK) : zK := fun ls st G X => match st with
  | .inr (.inl a) :: st => zkd G a = c ∧ K ls (zR a :: st) G X
  | _ => False
theorem z_instof {E : zE} {cc : ByteArray} {own : String} {nL fr lo pc : Nat} {c index : Nat} {cI : Int} {C : String} {T : u_T} {N : Nat} {K : zK} (hc : zCx E cc own nL fr lo) (ekc : cI = (c : Int)) (hc5 : c < 50) (hcl : zcl[c]? = some (C, T, N)) (hw : Cond.classLink own index C ∈ zTb) (hd : decode cc pc = .ok (.instanceof index, 3)) (k : ∀ (ls st : List zV) (G : zG) (X : zX), K ls st G X → zAt E nL (pc + 3) ls st G X) : ∀ (ls st : List zV) (G : zG) (X : zX), o_isof cI K ls st G X → zAt E nL pc ls st G X := by
  intro ls st G X h ad H locs lsr hH hL hS
  subst ekc
  unfold o_isof at h
  split at h
  · rename_i a st
    obtain ⟨ha, hS2⟩ := List.forall_mem_cons.mp hS
    have hn : a ≠ -1 := fun z => by
      subst z
      have := hH.2.2.2.2.2.2.2.2.1.2.2.2.2.1 (-1) (by rw [h.1]; omega)
      omega
    have hrv := zRecv hc hH h.1 hc5 hcl
    rw [List.map_cons, show zv ad (Sum.inr (Sum.inl a)) = .ref (ad a) from if_neg hn]
    refine va_instE hc.1 hc.2.1 hc.2.2.2.1 (hc.2.2.2.2.1 _ hw) hrv hd ?_
    exact k _ _ _ _ h.2 ad H locs lsr hH hL (List.forall_mem_cons.mpr ⟨by show zin 1; unfold zin; omega, hS2⟩)
  · exact h.elim
theorem z_castto {E : zE} {cc : ByteArray} {own : String} {nL fr lo pc : Nat} {c index : Nat} {cI : Int} {C : String} {T : u_T} {N : Nat} {K : zK} (hc : zCx E cc own nL fr lo) (ekc : cI = (c : Int)) (hc5 : c < 50) (hcl : zcl[c]? = some (C, T, N)) (hw : Cond.classLink own index C ∈ zTb) (hd : decode cc pc = .ok (.checkcast index, 3)) (k : ∀ (ls st : List zV) (G : zG) (X : zX), K ls st G X → zAt E nL (pc + 3) ls st G X) : ∀ (ls st : List zV) (G : zG) (X : zX), o_asof cI K ls st G X → zAt E nL pc ls st G X := by
  intro ls st G X h ad H locs lsr hH hL hS
  subst ekc
  unfold o_asof at h
  split at h
  · rename_i a st
    obtain ⟨ha, hS2⟩ := List.forall_mem_cons.mp hS
    have hn : a ≠ -1 := fun z => by
      subst z
      have := hH.2.2.2.2.2.2.2.2.1.2.2.2.2.1 (-1) (by rw [h.1]; omega)
      omega
    have hrv := zRecv hc hH h.1 hc5 hcl
    rw [List.map_cons, show zv ad (Sum.inr (Sum.inl a)) = .ref (ad a) from if_neg hn]
    refine va_castE hc.1 hc.2.1 hc.2.2.2.1 (hc.2.2.2.2.1 _ hw) hrv hd ?_
    have := k _ _ _ _ h.2 ad H locs lsr hH hL (List.forall_mem_cons.mpr ⟨ha, hS2⟩)
    rw [List.map_cons, show zv ad (zR a) = .ref (ad a) from if_neg hn] at this
    exact this
  · exact h.elim
/-- two objects of class c: the same one or not -/
def o_same (c : Int) (A B : zK) : zK := fun ls st G X => match st with
  | .inr (.inl b) :: .inr (.inl a) :: st => zkd G a = c ∧ zkd G b = c ∧ 0 ≤ a ∧ 0 ≤ b ∧ (a = b → A ls st G X) ∧ (a ≠ b → B ls st G X)
  | _ => False
theorem z_acmp_ne {E : zE} {cc : ByteArray} {own : String} {nL fr lo pc : Nat} {tgt c : Nat} {cI : Int} {off : Int} {KT KF : zK} (hc : zCx E cc own nL fr lo) (ekc : cI = (c : Int)) (ht : (pc : Int) + off = (tgt : Int)) (hd : decode cc pc = .ok (.if_acmp .ne off, 3)) (kT : ∀ (ls st : List zV) (G : zG) (X : zX), KT ls st G X → zAt E nL tgt ls st G X) (kF : ∀ (ls st : List zV) (G : zG) (X : zX), KF ls st G X → zAt E nL (pc + 3) ls st G X) : ∀ (ls st : List zV) (G : zG) (X : zX), o_same cI KF KT ls st G X → zAt E nL pc ls st G X := by
  intro ls st G X h ad H locs lsr hH hL hS
  subst ekc
  unfold o_same at h
  split at h
  · rename_i b a st
    obtain ⟨-, hS2⟩ := List.forall_mem_cons.mp hS
    obtain ⟨-, hS2⟩ := List.forall_mem_cons.mp hS2
    obtain ⟨ka, kb, a0, b0, hA, hB⟩ := h
    have hok := hH.2.2.2.2.2.2.2.2.1
    have ha1 : a < zsz G := by rcases hok.2.2.2.2.1 a (by omega) with z | z | z <;> omega
    have hb1 : b < zsz G := by rcases hok.2.2.2.2.1 b (by omega) with z | z | z <;> omega
    have e : ∀ {q : Int}, 0 ≤ q → zv ad (Sum.inr (Sum.inl q)) = va_rf (some (ad q)) := fun hq => if_neg (by omega)
    rw [List.map_cons, List.map_cons, e a0, e b0]
    refine lv_acmp_ne hc.1 hc.2.1 hd ht (fun c => ?_) (fun c => ?_)
    · exact kT _ _ _ _ (hB (fun z => c (by rw [z]))) ad H locs lsr hH hL hS2
    · refine kF _ _ _ _ (hA ?_) ad H locs lsr hH hL hS2
      have h1 : (zWs E ad G X)[a.toNat]? = some (ad a, zce zft (eV E) ad G X a) := zws_at a0 ha1
      have h2 : (zWs E ad G X)[b.toNat]? = some (ad b, zce zft (eV E) ad G X b) := zws_at b0 hb1
      have := hH.2.2.2.2.2.2.1.1 _ _ _ _ h1 h2 (Option.some.inj c)
      omega
  · exact h.elim
def o_mmax (K : zK) : zK := fun ls st G X => match st with
  | .inl y :: .inl x :: st => (st.map zcat).sum ≤ 8 ∧ K ls (zI (max x y) :: st) G X
  | _ => False
theorem z_mmax {E : zE} {cc : ByteArray} {own : String} {nL fr lo pc : Nat} {index : Nat} {K : zK} (hc : zCx E cc own nL fr lo) (hw1 : Cond.methodLink own index Lib.Math.max.name ∈ zTb) (hw2 : Cond.static Lib.Math.max.name ∈ zTb) (hw3 : Cond.initialized "java/lang/Math" ∈ zTb) (hw4 : Cond.code Lib.Math.max.name Lib.Math.max.code 2 (some .int) ∈ zTb) (hR : 1 ≤ fr ∧ 21 ≤ lo) (hd : decode cc pc = .ok (.invokestatic index, 3)) (k : ∀ (ls st : List zV) (G : zG) (X : zX), K ls st G X → zAt E nL (pc + 3) ls st G X) : ∀ (ls st : List zV) (G : zG) (X : zX), o_mmax K ls st G X → zAt E nL pc ls st G X := by
  intro ls st G X h ad H locs lsr hH hL hS
  unfold o_mmax at h
  split at h
  · rename_i y x st
    obtain ⟨hy, hS⟩ := List.forall_mem_cons.mp hS
    obtain ⟨hx, hS⟩ := List.forall_mem_cons.mp hS
    have hml : (ec E).maxLocals = lsr.size := hc.2.2.1.trans hL.1.symm
    have hRf : 1 ≤ (eR E).frames := by rw [hc.2.2.2.2.2.1]; exact hR.1
    have hRl : ((st.map (zv ad)).map fun v => v.category).sum + 13 ≤ (eR E).locals := by
      rw [hc.2.2.2.2.2.2.1, zcat_sum]
      omega
    refine va_mmax hc.1 hc.2.1 hml hc.2.2.2.1 (hc.2.2.2.2.1 _ hw1) (hc.2.2.2.2.1 _ hw2) (hc.2.2.2.2.1 _ hw3) (hc.2.2.2.2.1 _ hw4) hRf hRl hH.2.2.2.1 hH.2.2.2.2.1 hd ?_
    have e : (if Int32.ofInt x < Int32.ofInt y then Int32.ofInt y else Int32.ofInt x) = Int32.ofInt (max x y) := by
      by_cases hp : x < y
      · rw [if_pos ((z_lt hx hy).mpr hp)]; congr 1; omega
      · rw [if_neg (fun z => hp ((z_lt hx hy).mp z))]; congr 1; omega
    rw [e]
    have hz : zin (max x y) := by
      have h1 : zin x := hx
      have h2 : zin y := hy
      unfold zin at *
      omega
    exact k _ _ _ _ h.2 ad H locs lsr hH hL (List.forall_mem_cons.mpr ⟨hz, hS⟩)
  · exact h.elim
def o_mmin (K : zK) : zK := fun ls st G X => match st with
  | .inl y :: .inl x :: st => (st.map zcat).sum ≤ 8 ∧ K ls (zI (min x y) :: st) G X
  | _ => False
theorem z_mmin {E : zE} {cc : ByteArray} {own : String} {nL fr lo pc : Nat} {index : Nat} {K : zK} (hc : zCx E cc own nL fr lo) (hw1 : Cond.methodLink own index Lib.Math.min.name ∈ zTb) (hw2 : Cond.static Lib.Math.min.name ∈ zTb) (hw3 : Cond.initialized "java/lang/Math" ∈ zTb) (hw4 : Cond.code Lib.Math.min.name Lib.Math.min.code 2 (some .int) ∈ zTb) (hR : 1 ≤ fr ∧ 21 ≤ lo) (hd : decode cc pc = .ok (.invokestatic index, 3)) (k : ∀ (ls st : List zV) (G : zG) (X : zX), K ls st G X → zAt E nL (pc + 3) ls st G X) : ∀ (ls st : List zV) (G : zG) (X : zX), o_mmin K ls st G X → zAt E nL pc ls st G X := by
  intro ls st G X h ad H locs lsr hH hL hS
  unfold o_mmin at h
  split at h
  · rename_i y x st
    obtain ⟨hy, hS⟩ := List.forall_mem_cons.mp hS
    obtain ⟨hx, hS⟩ := List.forall_mem_cons.mp hS
    have hml : (ec E).maxLocals = lsr.size := hc.2.2.1.trans hL.1.symm
    have hRf : 1 ≤ (eR E).frames := by rw [hc.2.2.2.2.2.1]; exact hR.1
    have hRl : ((st.map (zv ad)).map fun v => v.category).sum + 13 ≤ (eR E).locals := by
      rw [hc.2.2.2.2.2.2.1, zcat_sum]
      omega
    refine va_mmin hc.1 hc.2.1 hml hc.2.2.2.1 (hc.2.2.2.2.1 _ hw1) (hc.2.2.2.2.1 _ hw2) (hc.2.2.2.2.1 _ hw3) (hc.2.2.2.2.1 _ hw4) hRf hRl hH.2.2.2.1 hH.2.2.2.2.1 hd ?_
    have e : (if Int32.ofInt y < Int32.ofInt x then Int32.ofInt y else Int32.ofInt x) = Int32.ofInt (min x y) := by
      by_cases hp : y < x
      · rw [if_pos ((z_lt hy hx).mpr hp)]; congr 1; omega
      · rw [if_neg (fun z => hp ((z_lt hy hx).mp z))]; congr 1; omega
    rw [e]
    have hz : zin (min x y) := by
      have h1 : zin x := hx
      have h2 : zin y := hy
      unfold zin at *
      omega
    exact k _ _ _ _ h.2 ad H locs lsr hH hL (List.forall_mem_cons.mpr ⟨hz, hS⟩)
  · exact h.elim
def o_mabs (K : zK) : zK := fun ls st G X => match st with
  | .inl x :: st => (st.map zcat).sum ≤ 8 ∧ K ls (zI (if 0 ≤ x then x else zw (-x)) :: st) G X
  | _ => False
theorem z_mabs {E : zE} {cc : ByteArray} {own : String} {nL fr lo pc : Nat} {index : Nat} {K : zK} (hc : zCx E cc own nL fr lo) (hw1 : Cond.methodLink own index Lib.Math.abs.name ∈ zTb) (hw2 : Cond.static Lib.Math.abs.name ∈ zTb) (hw3 : Cond.initialized "java/lang/Math" ∈ zTb) (hw4 : Cond.code Lib.Math.abs.name Lib.Math.abs.code 1 (some .int) ∈ zTb) (hR : 1 ≤ fr ∧ 21 ≤ lo) (hd : decode cc pc = .ok (.invokestatic index, 3)) (k : ∀ (ls st : List zV) (G : zG) (X : zX), K ls st G X → zAt E nL (pc + 3) ls st G X) : ∀ (ls st : List zV) (G : zG) (X : zX), o_mabs K ls st G X → zAt E nL pc ls st G X := by
  intro ls st G X h ad H locs lsr hH hL hS
  unfold o_mabs at h
  split at h
  · rename_i x st
    obtain ⟨hx, hS⟩ := List.forall_mem_cons.mp hS
    have hml : (ec E).maxLocals = lsr.size := hc.2.2.1.trans hL.1.symm
    have hRf : 1 ≤ (eR E).frames := by rw [hc.2.2.2.2.2.1]; exact hR.1
    have hRl : ((st.map (zv ad)).map fun v => v.category).sum + 13 ≤ (eR E).locals := by
      rw [hc.2.2.2.2.2.2.1, zcat_sum]
      omega
    refine va_mabs hc.1 hc.2.1 hml hc.2.2.2.1 (hc.2.2.2.2.1 _ hw1) (hc.2.2.2.2.1 _ hw2) (hc.2.2.2.2.1 _ hw3) (hc.2.2.2.2.1 _ hw4) hRf hRl hH.2.2.2.1 hH.2.2.2.2.1 hd ?_
    have e : (if 0 ≤ Int32.ofInt x then Int32.ofInt x else 0 - Int32.ofInt x) = Int32.ofInt (if 0 ≤ x then x else zw (-x)) := by
      have := z_le zin_0 hx
      by_cases hp : 0 ≤ x
      · rw [if_pos hp]; exact if_pos (this.mpr hp)
      · rw [if_neg hp]
        refine (if_neg (fun z => hp (this.mp z))).trans ?_
        rw [z_0, z_sub zin_0 hx]
        congr 2
        omega
    rw [e]
    have hz : zin (if 0 ≤ x then x else zw (-x)) := by
      split
      · exact hx
      · exact zw_in _
    exact k _ _ _ _ h.2 ad H locs lsr hH hL (List.forall_mem_cons.mpr ⟨hz, hS⟩)
  · exact h.elim
/-! ===== switches: one place after the other ===== -/
def o_sw : List (Int × zK) → zK → zK
  | [], d => fun ls st G X => match st with
    | .inl _ :: st => d ls st G X
    | _ => False
  | (v, K) :: r, d => fun ls st G X => match st with
    | .inl x :: st => (x = v → K ls st G X) ∧ (x ≠ v → o_sw r d ls (zI x :: st) G X)
    | _ => False
theorem o_sw_pick : ∀ (l : List (Int × zK)) (d : zK) (ls st : List zV) (G : zG) (X : zX) (x : Int), o_sw l d ls (zI x :: st) G X → (∃ p ∈ l, x = p.1 ∧ p.2 ls st G X) ∨ ((∀ p ∈ l, x ≠ p.1) ∧ d ls st G X)
  | [], d, ls, st, G, X, x, h => Or.inr ⟨(fun p hp => by cases hp), h⟩
  | (v, K) :: r, d, ls, st, G, X, x, h => by
    by_cases hx : x = v
    · exact Or.inl ⟨(v, K), List.mem_cons_self, hx, h.1 hx⟩
    · rcases o_sw_pick r d ls st G X x (h.2 hx) with ⟨p, hp, h1, h2⟩ | ⟨h1, h2⟩
      · exact Or.inl ⟨p, List.mem_cons_of_mem _ hp, h1, h2⟩
      · exact Or.inr ⟨fun p hp => (List.mem_cons.mp hp).elim (fun e => by rw [e]; exact hx) (h1 p), h2⟩
theorem o_sw_int : ∀ (l : List (Int × zK)) (d : zK) (ls st : List zV) (G : zG) (X : zX), o_sw l d ls st G X → ∃ x r, st = zI x :: r
  | [], d, ls, st, G, X, h => by
    unfold o_sw at h
    split at h
    · exact ⟨_, _, rfl⟩
    · exact h.elim
  | (v, K) :: r, d, ls, st, G, X, h => by
    unfold o_sw at h
    split at h
    · exact ⟨_, _, rfl⟩
    · exact h.elim
/-- a table: every place of it is listed -/
theorem z_tsw {E : zE} {cc : ByteArray} {own : String} {nL fr lo pc : Nat} {dflt lw hi : Int} {offs : Array Int} {len tgd : Nat} {l : List (Int × zK)} {d : zK} (hc : zCx E cc own nL fr lo) (hd : decode cc pc = .ok (.tableswitch dflt lw hi offs, len)) (hall : ∀ x : Int, lw ≤ x → x ≤ hi → x ∈ l.map (·.1))
    (hl : ∀ p ∈ l, lw ≤ p.1 ∧ p.1 ≤ hi ∧ ∃ (off : Int) (tgt : Nat), offs[(p.1 - lw).toNat]? = some off ∧ (pc : Int) + off = (tgt : Int) ∧ ∀ (ls st : List zV) (G : zG) (X : zX), p.2 ls st G X → zAt E nL tgt ls st G X)
    (hdt : (pc : Int) + dflt = (tgd : Int)) (kd : ∀ (ls st : List zV) (G : zG) (X : zX), d ls st G X → zAt E nL tgd ls st G X) : ∀ (ls st : List zV) (G : zG) (X : zX), o_sw l d ls st G X → zAt E nL pc ls st G X := by
  intro ls st G X h ad H locs lsr hH hL hS
  obtain ⟨x, st, rfl⟩ := o_sw_int l d ls st G X h
  obtain ⟨hx, hS2⟩ := List.forall_mem_cons.mp hS
  have hx : zin x := hx
  rcases o_sw_pick l d ls st G X x h with ⟨p, hp, e, h2⟩ | ⟨h1, h2⟩
  · obtain ⟨h3, h4, off, tgt, h5, h6, h7⟩ := hl p hp
    subst e
    refine lv_tableIn hc.1 hc.2.1 hd (by rw [z32 hx]; omega) (by rw [z32 hx]; omega) (by rw [z32 hx]; exact h5) h6 ?_
    exact h7 _ _ _ _ h2 ad H locs lsr hH hL hS2
  · refine lv_tableOut hc.1 hc.2.1 hd ?_ hdt ?_
    · rw [z32 hx]
      by_cases c1 : x < lw
      · exact Or.inl c1
      · by_cases c2 : hi < x
        · exact Or.inr c2
        · obtain ⟨p, hp, e⟩ := List.mem_map.mp (hall x (by omega) (by omega))
          exact absurd e.symm (h1 p hp)
    · exact kd _ _ _ _ h2 ad H locs lsr hH hL hS2
theorem z_lsw {E : zE} {cc : ByteArray} {own : String} {nL fr lo pc : Nat} {dflt : Int} {ps : Array (Int × Int)} {len tgd : Nat} {l : List (Int × zK)} {d : zK} (hc : zCx E cc own nL fr lo) (hd : decode cc pc = .ok (.lookupswitch dflt ps, len)) (hp : (ps.toList.zip (ps.toList.drop 1)).all (fun (a, next) => a.1 < next.1) = true)
    (hl : ∀ p ∈ l, ∃ (off : Int) (tgt : Nat), Op.lookupswitch.offset ps.toList dflt p.1 = off ∧ (pc : Int) + off = (tgt : Int) ∧ ∀ (ls st : List zV) (G : zG) (X : zX), p.2 ls st G X → zAt E nL tgt ls st G X)
    (hno : ∀ x : Int, (∀ p ∈ l, x ≠ p.1) → Op.lookupswitch.offset ps.toList dflt x = dflt) (hdt : (pc : Int) + dflt = (tgd : Int)) (kd : ∀ (ls st : List zV) (G : zG) (X : zX), d ls st G X → zAt E nL tgd ls st G X) : ∀ (ls st : List zV) (G : zG) (X : zX), o_sw l d ls st G X → zAt E nL pc ls st G X := by
  intro ls st G X h ad H locs lsr hH hL hS
  obtain ⟨x, st, rfl⟩ := o_sw_int l d ls st G X h
  obtain ⟨hx, hS2⟩ := List.forall_mem_cons.mp hS
  have hx : zin x := hx
  rcases o_sw_pick l d ls st G X x h with ⟨p, hp2, e, h2⟩ | ⟨h1, h2⟩
  · obtain ⟨off, tgt, h5, h6, h7⟩ := hl p hp2
    subst e
    refine lv_lookup hc.1 hc.2.1 hd hp (by rw [z32 hx]; exact h5) h6 ?_
    exact h7 _ _ _ _ h2 ad H locs lsr hH hL hS2
  · refine lv_lookup hc.1 hc.2.1 hd hp (by rw [z32 hx]; exact hno x h1) hdt ?_
    exact kd _ _ _ _ h2 ad H locs lsr hH hL hS2
def zcmp (x y : Int) : Int := if x < y then -1 else if x = y then 0 else 1
def o_lcmp (K : zK) : zK := fun ls st G X => match st with
  | .inr (.inr (.inl y)) :: .inr (.inr (.inl x)) :: st => K ls (zI (zcmp x y) :: st) G X
  | _ => False
theorem z_cmpL {x y : Int} (hx : zinl x) (hy : zinl y) : lg_cmp (Int64.ofInt x) (Int64.ofInt y) = Int32.ofInt (zcmp x y) := by
  have e1 : Int64.ofInt x < Int64.ofInt y ↔ x < y := by rw [Int64.lt_iff_toInt_lt, z64 hx, z64 hy]
  have e2 : Int64.ofInt x = Int64.ofInt y ↔ x = y := by rw [← Int64.toInt_inj, z64 hx, z64 hy]
  have e3 : Int64.ofInt y < Int64.ofInt x ↔ y < x := by rw [Int64.lt_iff_toInt_lt, z64 hx, z64 hy]
  unfold lg_cmp zcmp
  by_cases h1 : x < y
  · simp only [e1, e2, e3, h1, if_true]
    first | rfl | (rw [if_neg (by omega), if_neg (by omega)]; rfl) | (rw [if_neg (by omega)]; rfl)
  · by_cases h2 : x = y
    · simp only [e1, e2, e3, h1, h2, if_false, if_true]
      first | rfl | (subst h2; simp; done)
    · have h3 : y < x := by omega
      simp only [e1, e2, e3, h1, h2, h3, if_false, if_true]
      first | rfl | simp
theorem z_lcmp {E : zE} {cc : ByteArray} {own : String} {nL fr lo pc : Nat} {K : zK} (hc : zCx E cc own nL fr lo) (hd : decode cc pc = .ok (.lcmp, 1)) (k : ∀ (ls st : List zV) (G : zG) (X : zX), K ls st G X → zAt E nL (pc + 1) ls st G X) : ∀ (ls st : List zV) (G : zG) (X : zX), o_lcmp K ls st G X → zAt E nL pc ls st G X := by
  intro ls st G X h ad H locs lsr hH hL hS
  unfold o_lcmp at h
  split at h
  · rename_i y x st
    obtain ⟨hy, hS⟩ := List.forall_mem_cons.mp hS
    obtain ⟨hx, hS⟩ := List.forall_mem_cons.mp hS
    refine W.lcmp hc.1 hc.2.1 hd ?_
    rw [z_cmpL hx hy]
    have hz : zin (zcmp x y) := by
      unfold zcmp zin
      split
      · omega
      · split <;> omega
    exact k _ _ _ _ h ad H locs lsr hH hL (List.forall_mem_cons.mpr ⟨hz, hS⟩)
  · exact h.elim
def o_objinit (K : zK) : zK := fun ls st G X => match st with
  | .inr (.inl a) :: st => a ≠ -1 ∧ (st.map zcat).sum ≤ 8 ∧ K ls st G X
  | _ => False
theorem z_objinit {E : zE} {cc : ByteArray} {own : String} {nL fr lo pc : Nat} {index : Nat} {K : zK} (hc : zCx E cc own nL fr lo) (hw1 : Cond.methodLink own index Lib.objectInit ∈ zTb) (hw2 : Cond.instanceMethod Lib.objectInit ∈ zTb) (hw3 : Cond.code Lib.objectInit ⟨#[0xb1]⟩ 1 none ∈ zTb) (hR : 1 ≤ fr ∧ 20 ≤ lo) (hd : decode cc pc = .ok (.invokespecial index, 3)) (k : ∀ (ls st : List zV) (G : zG) (X : zX), K ls st G X → zAt E nL (pc + 3) ls st G X) : ∀ (ls st : List zV) (G : zG) (X : zX), o_objinit K ls st G X → zAt E nL pc ls st G X := by
  intro ls st G X h ad H locs lsr hH hL hS
  unfold o_objinit at h
  split at h
  · rename_i a st
    obtain ⟨ha, hS⟩ := List.forall_mem_cons.mp hS
    have hml : (ec E).maxLocals = lsr.size := hc.2.2.1.trans hL.1.symm
    have hRf : 1 ≤ (eR E).frames := by rw [hc.2.2.2.2.2.1]; exact hR.1
    have hRl : 2 * (F0 (em E) pc lsr (Value.ref (ad a) :: st.map (zv ad))).monitorRoom + ((st.map (zv ad)).map fun v => v.category).sum + 12 ≤ (eR E).locals := by
      have := lv_room (m := em E) (pc := pc) (ls := lsr) (rest := Value.ref (ad a) :: st.map (zv ad)) (z_rsum (ad := ad) h.2.1)
      rw [hc.2.2.2.2.2.2.1]
      omega
    rw [List.map_cons, show zv ad (Sum.inr (Sum.inl a)) = .ref (ad a) from if_neg h.1]
    refine W.objInit hc.1 hc.2.1 hc.2.2.2.1 (hc.2.2.2.2.1 _ hw1) (hc.2.2.2.2.1 _ hw2) (hc.2.2.2.2.1 _ hw3) rfl hml.symm rfl hd hRf hRl ?_
    exact k _ _ _ _ h.2.2 ad H locs lsr hH hL hS
  · exact h.elim
