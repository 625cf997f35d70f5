/-! ===== rows ===== -/
theorem z_in {i : Int} {n : Int} (hi : zin i) (h0 : 0 ≤ i) (h : i < n) : vp_in (Int32.ofInt i) n.toNat := by
  intro z
  rcases z with z | z
  · have := (z_lt hi zin_0).mp z
    omega
  · rw [z_nc h0 hi] at z
    omega
def o_ald (t : Int) (K : zK) : zK := fun ls st G X => match st with
  | .inl i :: .inr (.inl a) :: st => zkd G a = t ∧ 0 ≤ i ∧ i < zln G a ∧ K ls (zI (X a i) :: st) G X
  | _ => False
def o_aldR (t : Int) (K : zK) : zK := fun ls st G X => match st with
  | .inl i :: .inr (.inl a) :: st => zkd G a = t ∧ 0 ≤ i ∧ i < zln G a ∧ K ls (zR (zrx G a i) :: st) G X
  | _ => False
def o_alen (K : zK) : zK := fun ls st G X => match st with
  | .inr (.inl a) :: st => 50 ≤ zkd G a ∧ zkd G a < 58 ∧ K ls (zI (zln G a) :: st) G X
  | _ => False
def o_ast (t : Int) (K : zK) : zK := fun ls st G X => match st with
  | .inl v :: .inl i :: .inr (.inl a) :: st => zkd G a = t ∧ 0 ≤ i ∧ i < zln G a ∧ K ls st G (zst X a i v)
  | _ => False
def o_castore (K : zK) : zK := fun ls st G X => match st with
  | .inl v :: .inl i :: .inr (.inl a) :: st => zkd G a = 51 ∧ 0 ≤ i ∧ i < zln G a ∧ K ls st G (zst X a i (v % 65536))
  | _ => False
def o_zastore (K : zK) : zK := fun ls st G X => match st with
  | .inl v :: .inl i :: .inr (.inl a) :: st => zkd G a = 52 ∧ 0 ≤ i ∧ i < zln G a ∧ (v = 0 ∨ v = 1) ∧ K ls st G (zst X a i v)
  | _ => False
def o_bastore (K : zK) : zK := fun ls st G X => match st with
  | .inl v :: .inl i :: .inr (.inl a) :: st => zkd G a = 53 ∧ 0 ≤ a ∧ 0 ≤ i ∧ i < zln G a ∧ K ls st G (zst X a i ((v + 128) % 256 - 128))
  | _ => False
/-- a reference to an object of class c into a row of kind t -/
def o_astR (t c : Int) (K : zK) : zK := fun ls st G X => match st with
  | .inr (.inl v) :: .inl i :: .inr (.inl a) :: st => zkd G a = t ∧ 0 ≤ i ∧ i < zln G a ∧ zkd G v = c ∧ K ls st (zrs G a i v) X
  | _ => False
theorem z_fI {x : Int → Int} {i : Int} (hi : zin i) (h0 : 0 ≤ i) : (fun j : Nat => Int32.ofInt (x j)) (Int32.ofInt i).toNatClampNeg = Int32.ofInt (x i) := by
  rw [z_nc h0 hi]
  show Int32.ofInt (x (i.toNat : Int)) = _
  rw [Int.toNat_of_nonneg h0]
theorem z_iaload {E : zE} {cc : ByteArray} {own : String} {nL fr lo pc : Nat} {K : zK} (hc : zCx E cc own nL fr lo) (hd : decode cc pc = .ok (.iaload, 1)) (k : ∀ (ls st : List zV) (G : zG) (X : zX), K ls st G X → zAt E nL (pc + 1) ls st G X) : ∀ (ls st : List zV) (G : zG) (X : zX), o_ald 50 K ls st G X → zAt E nL pc ls st G X := by
  intro ls st G X h ad H locs lsr hH hL hS
  unfold o_ald at h
  split at h
  · rename_i i a st
    obtain ⟨hi, hS⟩ := List.forall_mem_cons.mp hS
    obtain ⟨-, hS⟩ := List.forall_mem_cons.mp hS
    obtain ⟨ws, q0, hP, hq, hn⟩ := zHp_cw hH (a := a) (by rw [h.1]; omega) (by rw [h.1]; omega) (by rw [h.1]; omega)
    rw [zce_arr (t := 0) h.1 (by omega)] at hq
    rw [List.map_cons, List.map_cons, show zv ad (Sum.inr (Sum.inl a)) = .ref (ad a) from if_neg hn]
    refine va_iald hc.1 hc.2.1 hc.2.2.2.2.2.2.2.1 hP q0 0 hq rfl (z_in hi h.2.1 h.2.2.1) hd ?_
    rw [show Int32.ofInt (X a ((Int32.ofInt i).toNatClampNeg : Int)) = Int32.ofInt (X a i) from z_fI (x := X a) hi h.2.1]
    exact k _ _ _ _ h.2.2.2 ad H locs lsr hH hL (List.forall_mem_cons.mpr ⟨hH.2.2.2.2.2.2.2.2.1.1 _ _, hS⟩)
  · exact h.elim
theorem z_caload {E : zE} {cc : ByteArray} {own : String} {nL fr lo pc : Nat} {K : zK} (hc : zCx E cc own nL fr lo) (hd : decode cc pc = .ok (.caload, 1)) (k : ∀ (ls st : List zV) (G : zG) (X : zX), K ls st G X → zAt E nL (pc + 1) ls st G X) : ∀ (ls st : List zV) (G : zG) (X : zX), o_ald 51 K ls st G X → zAt E nL pc ls st G X := by
  intro ls st G X h ad H locs lsr hH hL hS
  unfold o_ald at h
  split at h
  · rename_i i a st
    obtain ⟨hi, hS⟩ := List.forall_mem_cons.mp hS
    obtain ⟨-, hS⟩ := List.forall_mem_cons.mp hS
    obtain ⟨ws, q0, hP, hq, hn⟩ := zHp_cw hH (a := a) (by rw [h.1]; omega) (by rw [h.1]; omega) (by rw [h.1]; omega)
    rw [zce_arr (t := 1) h.1 (by omega)] at hq
    rw [List.map_cons, List.map_cons, show zv ad (Sum.inr (Sum.inl a)) = .ref (ad a) from if_neg hn]
    refine va_cald hc.1 hc.2.1 hc.2.2.2.2.2.2.2.1 hP q0 1 hq rfl (z_in hi h.2.1 h.2.2.1) hd ?_
    rw [show Int32.ofInt (X a ((Int32.ofInt i).toNatClampNeg : Int)) = Int32.ofInt (X a i) from z_fI (x := X a) hi h.2.1]
    exact k _ _ _ _ h.2.2.2 ad H locs lsr hH hL (List.forall_mem_cons.mpr ⟨hH.2.2.2.2.2.2.2.2.1.1 _ _, hS⟩)
  · exact h.elim
theorem z_zaload {E : zE} {cc : ByteArray} {own : String} {nL fr lo pc : Nat} {K : zK} (hc : zCx E cc own nL fr lo) (hd : decode cc pc = .ok (.baload, 1)) (k : ∀ (ls st : List zV) (G : zG) (X : zX), K ls st G X → zAt E nL (pc + 1) ls st G X) : ∀ (ls st : List zV) (G : zG) (X : zX), o_ald 52 K ls st G X → zAt E nL pc ls st G X := by
  intro ls st G X h ad H locs lsr hH hL hS
  unfold o_ald at h
  split at h
  · rename_i i a st
    obtain ⟨hi, hS⟩ := List.forall_mem_cons.mp hS
    obtain ⟨-, hS⟩ := List.forall_mem_cons.mp hS
    obtain ⟨ws, q0, hP, hq, hn⟩ := zHp_cw hH (a := a) (by rw [h.1]; omega) (by rw [h.1]; omega) (by rw [h.1]; omega)
    rw [zce_arr (t := 2) h.1 (by omega)] at hq
    rw [List.map_cons, List.map_cons, show zv ad (Sum.inr (Sum.inl a)) = .ref (ad a) from if_neg hn]
    refine va_zald hc.1 hc.2.1 hc.2.2.2.2.2.2.2.1 hP q0 2 hq rfl (z_in hi h.2.1 h.2.2.1) hd ?_
    rw [show Int32.ofInt (X a ((Int32.ofInt i).toNatClampNeg : Int)) = Int32.ofInt (X a i) from z_fI (x := X a) hi h.2.1]
    exact k _ _ _ _ h.2.2.2 ad H locs lsr hH hL (List.forall_mem_cons.mpr ⟨hH.2.2.2.2.2.2.2.2.1.1 _ _, hS⟩)
  · exact h.elim
theorem z_baload {E : zE} {cc : ByteArray} {own : String} {nL fr lo pc : Nat} {K : zK} (hc : zCx E cc own nL fr lo) (hd : decode cc pc = .ok (.baload, 1)) (k : ∀ (ls st : List zV) (G : zG) (X : zX), K ls st G X → zAt E nL (pc + 1) ls st G X) : ∀ (ls st : List zV) (G : zG) (X : zX), o_ald 53 K ls st G X → zAt E nL pc ls st G X := by
  intro ls st G X h ad H locs lsr hH hL hS
  unfold o_ald at h
  split at h
  · rename_i i a st
    obtain ⟨hi, hS⟩ := List.forall_mem_cons.mp hS
    obtain ⟨-, hS⟩ := List.forall_mem_cons.mp hS
    rcases zHp_cell hH (a := a) (by rw [h.1]; omega) with ⟨ws, q0, hP, hq, hn⟩ | ⟨-, e15⟩ | ⟨ea, e53⟩
    · rw [zce_arr (t := 3) h.1 (by omega)] at hq
      rw [List.map_cons, List.map_cons, show zv ad (Sum.inr (Sum.inl a)) = .ref (ad a) from if_neg hn]
      refine va_bald hc.1 hc.2.1 hc.2.2.2.2.2.2.2.1 hP q0 3 hq rfl (z_in hi h.2.1 h.2.2.1) hd ?_
      rw [show Int32.ofInt (X a ((Int32.ofInt i).toNatClampNeg : Int)) = Int32.ofInt (X a i) from z_fI (x := X a) hi h.2.1]
      exact k _ _ _ _ h.2.2.2 ad H locs lsr hH hL (List.forall_mem_cons.mpr ⟨hH.2.2.2.2.2.2.2.2.1.1 _ _, hS⟩)
    · have := h.1; omega
    · subst ea
      obtain ⟨l4, x4⟩ := zx_4 hH e53
      have e4 : ad (-4) = ead E (-4) := hH.1 (-4) (by omega)
      rw [List.map_cons, List.map_cons, show zv ad (Sum.inr (Sum.inl (-4))) = .ref (ad (-4)) from rfl, e4]
      have h79 := z_in hi h.2.1 h.2.2.1
      rw [l4] at h79
      refine va_tb hc.1 hc.2.1 hc.2.2.2.2.2.2.2.2.2.2.2.2.2 hH.2.2.2.2.2.2.2.1 (i := Int32.ofInt i) h79 rfl hd ?_
      rw [← x4, show Int32.ofInt (X (-4) ((Int32.ofInt i).toNatClampNeg : Int)) = Int32.ofInt (X (-4) i) from z_fI (x := X (-4)) hi h.2.1]
      exact k _ _ _ _ h.2.2.2 ad H locs lsr hH hL (List.forall_mem_cons.mpr ⟨hH.2.2.2.2.2.2.2.2.1.1 _ _, (List.forall_mem_cons.mp hS).2⟩)
  · exact h.elim
theorem z_aaload {E : zE} {cc : ByteArray} {own : String} {nL fr lo pc : Nat} {t : Nat} {tI : Int} {C : String} {K : zK} (hc : zCx E cc own nL fr lo) (et : tI = 50 + (t : Int)) (ht : 4 ≤ t) (hty : (zty (eV E).2)[t]? = some ((eV E).2 t, .object C)) (hd : decode cc pc = .ok (.aaload, 1)) (k : ∀ (ls st : List zV) (G : zG) (X : zX), K ls st G X → zAt E nL (pc + 1) ls st G X) : ∀ (ls st : List zV) (G : zG) (X : zX), o_aldR tI K ls st G X → zAt E nL pc ls st G X := by
  intro ls st G X h ad H locs lsr hH hL hS
  subst et
  unfold o_aldR at h
  split at h
  · rename_i i a st
    obtain ⟨hi, hS⟩ := List.forall_mem_cons.mp hS
    obtain ⟨-, hS⟩ := List.forall_mem_cons.mp hS
    obtain ⟨ws, q0, hP, hq, hn⟩ := zHp_cw hH (a := a) (by rw [h.1]; omega) (by rw [h.1]; omega) (by rw [h.1]; omega)
    rw [zce_arrR (t := t) h.1 ht] at hq
    rw [List.map_cons, List.map_cons, show zv ad (Sum.inr (Sum.inl a)) = .ref (ad a) from if_neg hn]
    refine va_aldq hc.1 hc.2.1 hc.2.2.2.2.2.2.2.1 hP q0 t hq hty (z_in hi h.2.1 h.2.2.1) hd ?_
    have e : va_rf ((fun j : Nat => if zrx G a j = -1 then none else some (ad (zrx G a j))) (Int32.ofInt i).toNatClampNeg) = zrf ad (zrx G a i) := by
      rw [z_nc h.2.1 hi]
      show va_rf (if zrx G a (i.toNat : Int) = -1 then none else some (ad (zrx G a (i.toNat : Int)))) = _
      rw [Int.toNat_of_nonneg h.2.1]
      unfold zrf
      split <;> rfl
    rw [e]
    exact k _ _ _ _ h.2.2.2 ad H locs lsr hH hL (List.forall_mem_cons.mpr ⟨hH.2.2.2.2.2.2.2.2.1.2.2.2.2.2.2 _ _, hS⟩)
  · exact h.elim
theorem z_alen {E : zE} {cc : ByteArray} {own : String} {nL fr lo pc : Nat} {K : zK} (hc : zCx E cc own nL fr lo) (hd : decode cc pc = .ok (.arraylength, 1)) (k : ∀ (ls st : List zV) (G : zG) (X : zX), K ls st G X → zAt E nL (pc + 1) ls st G X) : ∀ (ls st : List zV) (G : zG) (X : zX), o_alen K ls st G X → zAt E nL pc ls st G X := by
  intro ls st G X h ad H locs lsr hH hL hS
  unfold o_alen at h
  split at h
  · rename_i a st
    obtain ⟨-, hS⟩ := List.forall_mem_cons.mp hS
    have hok := hH.2.2.2.2.2.2.2.2.1
    have hln := hok.2.2.2.2.2.1 a
    have hz : zin (zln G a) := by unfold zin; omega
    have hv : Int32.ofNat (zln G a).toNat = Int32.ofInt (zln G a) := by
      apply z32i
      rw [show Int32.ofNat (zln G a).toNat = nI (zln G a).toNat from rfl, nI_toInt (by omega)]
      omega
    rcases zHp_cell hH (a := a) (by omega) with ⟨ws, q0, hP, hq, hn⟩ | ⟨-, e15⟩ | ⟨ea, e53⟩
    · obtain ⟨t, ht, et⟩ : ∃ t : Nat, t < 8 ∧ zkd G a = 50 + (t : Int) := ⟨(zkd G a - 50).toNat, by omega, by omega⟩
      have hty : ∃ ty, (zty (eV E).2)[t]? = some ((eV E).2 t, ty) := by
        rcases t with _ | _ | _ | _ | _ | _ | _ | _ | t
        · exact ⟨_, rfl⟩
        · exact ⟨_, rfl⟩
        · exact ⟨_, rfl⟩
        · exact ⟨_, rfl⟩
        · exact ⟨_, rfl⟩
        · exact ⟨_, rfl⟩
        · exact ⟨_, rfl⟩
        · exact ⟨_, rfl⟩
        · omega
      obtain ⟨ty, hty⟩ := hty
      rw [List.map_cons, show zv ad (Sum.inr (Sum.inl a)) = .ref (ad a) from if_neg hn]
      by_cases h4 : t < 4
      · rw [zce_arr et h4] at hq
        refine va_alen hc.1 hc.2.1 hc.2.2.2.2.2.2.2.1 hP q0 t hq hty hv hd ?_
        exact k _ _ _ _ h.2.2 ad H locs lsr hH hL (List.forall_mem_cons.mpr ⟨hz, hS⟩)
      · rw [zce_arrR et (by omega)] at hq
        refine va_alen hc.1 hc.2.1 hc.2.2.2.2.2.2.2.1 hP q0 t hq hty hv hd ?_
        exact k _ _ _ _ h.2.2 ad H locs lsr hH hL (List.forall_mem_cons.mpr ⟨hz, hS⟩)
    · omega
    · subst ea
      obtain ⟨l4, -⟩ := zx_4 hH e53
      have e4 : ad (-4) = ead E (-4) := hH.1 (-4) (by omega)
      rw [List.map_cons, show zv ad (Sum.inr (Sum.inl (-4))) = .ref (ad (-4)) from rfl, e4]
      rw [l4] at hv
      refine va_tlen hc.1 hc.2.1 hc.2.2.2.2.2.2.2.2.2.2.2.2.2 hH.2.2.2.2.2.2.2.1 hv hd ?_
      exact k _ _ _ _ h.2.2 ad H locs lsr hH hL (List.forall_mem_cons.mpr ⟨hz, (List.forall_mem_cons.mp hS).2⟩)
  · exact h.elim
theorem z_narC {v : Int} (hv : zin v) : vp_nar .char (Int32.ofInt v) = Int32.ofInt (v % 65536) := by rw [vp_nar_char]; exact (show (Int32.ofInt v).toUInt32.toUInt16.toUInt32.toInt32 = ((Int32.ofInt v).toUInt32 % 65536).toInt32 by rw [show (Int32.ofInt v).toUInt32.toUInt16.toUInt32 = (Int32.ofInt v).toUInt32 % 65536 from UInt32.toUInt32_toUInt16 _]).trans (zq_i2c hv)
theorem z_narB {v : Int} (hv : zin v) : vp_nar .byte (Int32.ofInt v) = Int32.ofInt ((v + 128) % 256 - 128) := by rw [vp_nar_byte]; exact zq_i2b hv
theorem z_narZ {v : Int} (hv : v = 0 ∨ v = 1) : vp_nar .boolean (Int32.ofInt v) = Int32.ofInt v := by rcases hv with rfl | rfl <;> rfl
/-- a row of numbers with one anew -/
theorem z_updI {x : Int → Int} {i v : Int} (hi : zin i) (h0 : 0 ≤ i) : upd (fun j : Nat => Int32.ofInt (x j)) (Int32.ofInt i).toNatClampNeg (Int32.ofInt v) = fun j : Nat => Int32.ofInt (zup x i v j) := by
  rw [z_nc h0 hi]
  funext j
  unfold upd zup
  by_cases h : j = i.toNat
  · rw [if_pos h, if_pos (by omega)]
  · rw [if_neg h, if_neg (by omega)]
theorem z_iastore {E : zE} {cc : ByteArray} {own : String} {nL fr lo pc : Nat} {K : zK} (hc : zCx E cc own nL fr lo) (hd : decode cc pc = .ok (.iastore, 1)) (k : ∀ (ls st : List zV) (G : zG) (X : zX), K ls st G X → zAt E nL (pc + 1) ls st G X) : ∀ (ls st : List zV) (G : zG) (X : zX), o_ast 50 K ls st G X → zAt E nL pc ls st G X := by
  intro ls st G X h ad H locs lsr hH hL hS
  unfold o_ast at h
  split at h
  · rename_i v i a st
    obtain ⟨hv, hS⟩ := List.forall_mem_cons.mp hS
    obtain ⟨hi, hS⟩ := List.forall_mem_cons.mp hS
    obtain ⟨-, hS⟩ := List.forall_mem_cons.mp hS
    have hv : zin v := hv
    have hok := hH.2.2.2.2.2.2.2.2.1
    obtain ⟨h0, h1⟩ := (zGe hok (by rw [h.1]; omega) (by rw [h.1]; omega) (by rw [h.1]; omega))
    have hq : (zWs E ad G X)[a.toNat]? = some (ad a, zce zft (eV E) ad G X a) := zws_at h0 h1
    rw [zce_arr (t := 0) h.1 (by omega)] at hq
    rw [List.map_cons, List.map_cons, List.map_cons, show zv ad (Sum.inr (Sum.inl a)) = .ref (ad a) from if_neg (by omega)]
    refine va_iast hc.1 hc.2.1 hc.2.2.2.2.2.2.2.1 hH.2.2.2.2.2.1 hH.2.2.2.2.2.2.1 hH.2.2.2.2.2.2.2.1 a.toNat 0 hq rfl (z_in hi h.2.1 h.2.2.1) hd (fun H1 locs1 hP1 hD1 hS1 => ?_)
    rw [z_updI hi h.2.1] at hP1 hD1
    refine k _ _ _ _ h.2.2.2 ad H1 locs1 lsr (zHp_put (G' := G) (X' := zst X a i v) hc hH h0 h1 rfl rfl (fun q hq => ?_) ?_ (zokH_st hok hv (fun z => by rw [h.1] at z; omega) (fun z => by rw [h.1] at z; omega) (fun z => by rw [h.1] at z; omega)) hP1 hD1 hS1) hL hS
    · unfold zce
      rw [zst_n hq]
    · rw [zce_arr (t := 0) h.1 (by omega), zst_row]
  · exact h.elim
theorem z_castore {E : zE} {cc : ByteArray} {own : String} {nL fr lo pc : Nat} {K : zK} (hc : zCx E cc own nL fr lo) (hd : decode cc pc = .ok (.castore, 1)) (k : ∀ (ls st : List zV) (G : zG) (X : zX), K ls st G X → zAt E nL (pc + 1) ls st G X) : ∀ (ls st : List zV) (G : zG) (X : zX), o_castore K ls st G X → zAt E nL pc ls st G X := by
  intro ls st G X h ad H locs lsr hH hL hS
  unfold o_castore at h
  split at h
  · rename_i v i a st
    obtain ⟨hv, hS⟩ := List.forall_mem_cons.mp hS
    obtain ⟨hi, hS⟩ := List.forall_mem_cons.mp hS
    obtain ⟨-, hS⟩ := List.forall_mem_cons.mp hS
    have hv : zin v := hv
    have hok := hH.2.2.2.2.2.2.2.2.1
    obtain ⟨h0, h1⟩ := (zGe hok (by rw [h.1]; omega) (by rw [h.1]; omega) (by rw [h.1]; omega))
    have hq : (zWs E ad G X)[a.toNat]? = some (ad a, zce zft (eV E) ad G X a) := zws_at h0 h1
    rw [zce_arr (t := 1) h.1 (by omega)] at hq
    rw [List.map_cons, List.map_cons, List.map_cons, show zv ad (Sum.inr (Sum.inl a)) = .ref (ad a) from if_neg (by omega)]
    refine va_cast hc.1 hc.2.1 hc.2.2.2.2.2.2.2.1 hH.2.2.2.2.2.1 hH.2.2.2.2.2.2.1 hH.2.2.2.2.2.2.2.1 a.toNat 1 hq rfl (z_in hi h.2.1 h.2.2.1) hd (fun H1 locs1 hP1 hD1 hS1 => ?_)
    rw [z_narC hv] at hP1 hD1
    rw [z_updI hi h.2.1] at hP1 hD1
    refine k _ _ _ _ h.2.2.2 ad H1 locs1 lsr (zHp_put (G' := G) (X' := zst X a i (v % 65536)) hc hH h0 h1 rfl rfl (fun q hq => ?_) ?_ (zokH_st hok (by unfold zin; omega) (fun z => by omega) (fun z => by rw [h.1] at z; omega) (fun z => by rw [h.1] at z; omega)) hP1 hD1 hS1) hL hS
    · unfold zce
      rw [zst_n hq]
    · rw [zce_arr (t := 1) h.1 (by omega), zst_row]
  · exact h.elim
theorem z_zastore {E : zE} {cc : ByteArray} {own : String} {nL fr lo pc : Nat} {K : zK} (hc : zCx E cc own nL fr lo) (hd : decode cc pc = .ok (.bastore, 1)) (k : ∀ (ls st : List zV) (G : zG) (X : zX), K ls st G X → zAt E nL (pc + 1) ls st G X) : ∀ (ls st : List zV) (G : zG) (X : zX), o_zastore K ls st G X → zAt E nL pc ls st G X := by
  intro ls st G X h ad H locs lsr hH hL hS
  unfold o_zastore at h
  split at h
  · rename_i v i a st
    obtain ⟨hv, hS⟩ := List.forall_mem_cons.mp hS
    obtain ⟨hi, hS⟩ := List.forall_mem_cons.mp hS
    obtain ⟨-, hS⟩ := List.forall_mem_cons.mp hS
    have hv : zin v := hv
    have hok := hH.2.2.2.2.2.2.2.2.1
    obtain ⟨h0, h1⟩ := (zGe hok (by rw [h.1]; omega) (by rw [h.1]; omega) (by rw [h.1]; omega))
    have hq : (zWs E ad G X)[a.toNat]? = some (ad a, zce zft (eV E) ad G X a) := zws_at h0 h1
    rw [zce_arr (t := 2) h.1 (by omega)] at hq
    rw [List.map_cons, List.map_cons, List.map_cons, show zv ad (Sum.inr (Sum.inl a)) = .ref (ad a) from if_neg (by omega)]
    refine va_zast hc.1 hc.2.1 hc.2.2.2.2.2.2.2.1 hH.2.2.2.2.2.1 hH.2.2.2.2.2.2.1 hH.2.2.2.2.2.2.2.1 a.toNat 2 hq rfl (z_in hi h.2.1 h.2.2.1) hd (fun H1 locs1 hP1 hD1 hS1 => ?_)
    rw [z_narZ h.2.2.2.1] at hP1 hD1
    rw [z_updI hi h.2.1] at hP1 hD1
    refine k _ _ _ _ h.2.2.2.2 ad H1 locs1 lsr (zHp_put (G' := G) (X' := zst X a i v) hc hH h0 h1 rfl rfl (fun q hq => ?_) ?_ (zokH_st hok hv (fun z => by rw [h.1] at z; omega) (fun z => h.2.2.2.1) (fun z => by rw [h.1] at z; omega)) hP1 hD1 hS1) hL hS
    · unfold zce
      rw [zst_n hq]
    · rw [zce_arr (t := 2) h.1 (by omega), zst_row]
  · exact h.elim
theorem z_bastore {E : zE} {cc : ByteArray} {own : String} {nL fr lo pc : Nat} {K : zK} (hc : zCx E cc own nL fr lo) (hd : decode cc pc = .ok (.bastore, 1)) (k : ∀ (ls st : List zV) (G : zG) (X : zX), K ls st G X → zAt E nL (pc + 1) ls st G X) : ∀ (ls st : List zV) (G : zG) (X : zX), o_bastore K ls st G X → zAt E nL pc ls st G X := by
  intro ls st G X h ad H locs lsr hH hL hS
  unfold o_bastore at h
  split at h
  · rename_i v i a st
    obtain ⟨hv, hS⟩ := List.forall_mem_cons.mp hS
    obtain ⟨hi, hS⟩ := List.forall_mem_cons.mp hS
    obtain ⟨-, hS⟩ := List.forall_mem_cons.mp hS
    have hv : zin v := hv
    have hok := hH.2.2.2.2.2.2.2.2.1
    obtain ⟨h0, h1⟩ := (show 0 ≤ a ∧ a < zsz G from ⟨h.2.1, by rcases hok.2.2.2.2.1 a (by rw [h.1]; omega) with z | z | z <;> omega⟩)
    have hq : (zWs E ad G X)[a.toNat]? = some (ad a, zce zft (eV E) ad G X a) := zws_at h0 h1
    rw [zce_arr (t := 3) h.1 (by omega)] at hq
    rw [List.map_cons, List.map_cons, List.map_cons, show zv ad (Sum.inr (Sum.inl a)) = .ref (ad a) from if_neg (by omega)]
    refine va_bast hc.1 hc.2.1 hc.2.2.2.2.2.2.2.1 hH.2.2.2.2.2.1 hH.2.2.2.2.2.2.1 hH.2.2.2.2.2.2.2.1 a.toNat 3 hq rfl (z_in hi h.2.2.1 h.2.2.2.1) hd (fun H1 locs1 hP1 hD1 hS1 => ?_)
    rw [z_narB hv] at hP1 hD1
    rw [z_updI hi h.2.2.1] at hP1 hD1
    refine k _ _ _ _ h.2.2.2.2 ad H1 locs1 lsr (zHp_put (G' := G) (X' := zst X a i ((v + 128) % 256 - 128)) hc hH h0 h1 rfl rfl (fun q hq => ?_) ?_ (zokH_st hok (by unfold zin; omega) (fun z => by rw [h.1] at z; omega) (fun z => by rw [h.1] at z; omega) (fun z => by omega)) hP1 hD1 hS1) hL hS
    · unfold zce
      rw [zst_n hq]
    · rw [zce_arr (t := 3) h.1 (by omega), zst_row]
  · exact h.elim
theorem z_aastore {E : zE} {cc : ByteArray} {own : String} {nL fr lo pc : Nat} {t c : Nat} {tI cI : Int} {r : vw_C} {K : zK} (hc : zCx E cc own nL fr lo) (et : tI = 50 + (t : Int)) (ec : cI = (c : Int)) (ht : 4 ≤ t) (hc5 : c < 50) (hc15 : c ≠ 15) (hty : (zty (eV E).2)[t]? = some ((eV E).2 t, .object r.1)) (hcl : zcl[c]? = some r) (hd : decode cc pc = .ok (.aastore, 1)) (k : ∀ (ls st : List zV) (G : zG) (X : zX), K ls st G X → zAt E nL (pc + 1) ls st G X) : ∀ (ls st : List zV) (G : zG) (X : zX), o_astR tI cI K ls st G X → zAt E nL pc ls st G X := by
  intro ls st G X h ad H locs lsr hH hL hS
  subst et; subst ec
  unfold o_astR at h
  split at h
  · rename_i v i a st
    obtain ⟨hv, hS⟩ := List.forall_mem_cons.mp hS
    obtain ⟨hi, hS⟩ := List.forall_mem_cons.mp hS
    obtain ⟨-, hS⟩ := List.forall_mem_cons.mp hS
    have hok := hH.2.2.2.2.2.2.2.2.1
    obtain ⟨h0, h1⟩ := zGe (a := a) hok (by rw [h.1]; omega) (by rw [h.1]; omega) (by
      intro z
      rw [h.1] at z
      omega)
    obtain ⟨g0, g1⟩ := zGe (a := v) hok (by rw [h.2.2.2.1]; omega) (by rw [h.2.2.2.1]; omega) (by rw [h.2.2.2.1]; omega)
    have hq : (zWs E ad G X)[a.toNat]? = some (ad a, zce zft (eV E) ad G X a) := zws_at h0 h1
    rw [zce_arrR (t := t) h.1 ht] at hq
    have hqv : (zWs E ad G X)[v.toNat]? = some (ad v, zce zft (eV E) ad G X v) := zws_at g0 g1
    rw [zce_obj h.2.2.2.1 hc5] at hqv
    rw [List.map_cons, List.map_cons, List.map_cons, show zv ad (Sum.inr (Sum.inl a)) = .ref (ad a) from if_neg (by omega), show zv ad (Sum.inr (Sum.inl v)) = .ref (ad v) from if_neg (by omega)]
    refine va_astq hc.1 hc.2.1 hc.2.2.2.2.2.2.2.1 hH.2.2.2.2.2.1 hH.2.2.2.2.2.2.1 hH.2.2.2.2.2.2.2.1 a.toNat t v.toNat c hq hty hqv hcl (z_in hi h.2.1 h.2.2.1) hd (fun H1 locs1 hP1 hD1 hS1 => ?_)
    refine k _ _ _ _ h.2.2.2.2 ad H1 locs1 lsr (zHp_put (G' := zrs G a i v) (X' := X) hc hH h0 h1 rfl rfl (fun q hq => ?_) ?_ (zokH_rs hok hv) hP1 hD1 hS1) hL hS
    · unfold zce
      rw [show zrx (zrs G a i v) q = zrx G q from zst_n (X := zrx G) hq]
      rfl
    · rw [zce_arrR (t := t) (G := zrs G a i v) h.1 ht]
      refine congrArg (fun z => Sum.inl ((eV E).2 t, (zln G a).toNat, Sum.inr (Sum.inr (Sum.inr (Sum.inr z))))) (funext fun j => ?_)
      show (if zst (zrx G) a i v a j = -1 then none else some (ad (zst (zrx G) a i v a j))) = _
      unfold va_up
      rw [z_nc h.2.1 hi, zst_s]
      by_cases hj : (j : Int) = i
      · rw [if_pos hj, if_pos (show j = i.toNat by omega), if_neg (by omega)]
      · rw [if_neg hj, if_neg (show ¬ j = i.toNat by omega)]
  · exact h.elim
