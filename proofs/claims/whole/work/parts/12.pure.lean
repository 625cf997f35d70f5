/-! ===== contracts that make no cell; forgetting locals at a label; labels ===== -/
theorem zSnd_weak {y : MethodName} {bytes : ByteArray} {nL fr lo : Nat} {ret : Option FieldType} {C C2 : zCo} (hC : zSnd y bytes nL ret fr lo C) (h : ∀ LC LS vs G X Q, C2 LC LS vs G X Q → C LC LS vs G X Q) : zSnd y bytes nL ret fr lo C2 :=
  fun l V ad0 hsz LC LS vs G X Q h1 h2 h3 h4 h5 h6 => hC l V ad0 hsz LC LS vs G X Q h1 h2 h3 h4 h5 (h _ _ _ _ _ _ h6)
/-- a method that changes numbers alone -/
def zPu (B : Nat → Nat → (Nat → zK) → Nat → zK) (nL : Nat) : zCp := fun vs G X Q => zC (B (zsz G) (ztt G)) nL vs G X (fun v G2 X2 => G2 = G ∧ Q v X2)
theorem zPu_mono (B : Nat → Nat → (Nat → zK) → Nat → zK) (nL : Nat) : ∀ (vs : List zV) (G : zG) (X : zX) (Q Q2 : List zV → zX → Prop), (∀ v X2, Q v X2 → Q2 v X2) → zPu B nL vs G X Q → zPu B nL vs G X Q2 :=
  fun _ _ _ _ _ h hC => zWP_mono (fun _ _ _ z => ⟨z.1, h _ _ z.2⟩) hC
theorem zSnd_pure {y : MethodName} {bytes : ByteArray} {nL fr lo : Nat} {ret : Option FieldType} {B : Nat → Nat → (Nat → zK) → Nat → zK} (h : zSnd y bytes nL ret fr lo (fun LC LS vs G X Q => zC (B LC LS) nL vs G X Q)) : zSnd y bytes nL ret fr lo (zUp (zPu B nL)) :=
  zSnd_weak h (fun LC LS vs G X Q ⟨e1, e2, h⟩ => by
    subst e1; subst e2
    exact zWP_mono (fun v G2 X2 z => by rw [z.1]; exact z.2) h)
def zmk (m : List Bool) (ls : List zV) : List zV := List.zipWith (fun b v => if b = true then v else zT) m ls
def o_fg (m : List Bool) (K : zK) : zK := fun ls st G X => K (zmk m ls) st G X
theorem z_fg {E : zE} {nL n : Nat} {m : List Bool} {K : zK} (hm : m.length = nL) (k : ∀ (ls st : List zV) (G : zG) (X : zX), K ls st G X → zAt E nL n ls st G X) : ∀ (ls st : List zV) (G : zG) (X : zX), o_fg m K ls st G X → zAt E nL n ls st G X := by
  intro ls st G X h ad H locs lsr hH hL hS
  refine k _ _ _ _ h ad H locs lsr hH (zLc_fg hL ⟨?_, fun i v hi => ?_⟩) hS
  · unfold zmk
    rw [List.length_zipWith, hm, hL.2.2.1]
    exact Nat.min_self _
  · unfold zmk at hi
    rw [List.getElem?_zipWith] at hi
    generalize m[i]? = a at hi
    generalize ls[i]? = b at hi ⊢
    rcases a with _ | a
    · cases hi
    · rcases b with _ | b
      · cases hi
      · rcases a with _ | _
        · cases hi; exact Or.inl rfl
        · cases hi; exact Or.inr rfl
theorem zY_at {E : zE} {nL n : Nat} {Q : List zV → zG → zX → Prop} {Y : Nat → zK} (hY : ∀ (n : Nat) (ls st : List zV) (G : zG) (X : zX), Y n ls st G X → zPt E nL Q n ls st G X) (h : n ≠ 65535) : ∀ (ls st : List zV) (G : zG) (X : zX), Y n ls st G X → zAt E nL n ls st G X := by
  intro ls st G X hy
  rw [← zPt_at (Q := Q) h]
  exact hY _ _ _ _ _ hy
/-! ===== calls of what a class has from another one ===== -/
theorem z_callU {E : zE} {cc : ByteArray} {own : String} {nL fr lo pc : Nat} {c : Int} {c0 : Nat} {CR : String} {y : MethodName} {bytes : ByteArray} {maxL n index fr2 lo2 : Nat} {ret : Option FieldType} {C : zCp} {K : zK} (hc : zCx E cc own nL fr lo) (hx : zXt (ead E) (eA E) (es E)) (hmono : ∀ (vs : List zV) (G : zG) (X : zX) (Q Q2 : List zV → zX → Prop), (∀ v X2, Q v X2 → Q2 v X2) → C vs G X Q → C vs G X Q2) (hC : zSnd y bytes maxL ret fr2 lo2 (zUp C)) (hl : Cond.methodLink own index y ∈ zTb) (hsm : Cond.sameMethod y.cls y.cls y.name y.desc ∈ zTb) (hin : Cond.instanceMethod y ∈ zTb) (hini : Cond.initialized y.cls ∈ zTb) (hcl : ∃ T N, zcl[c0]? = some (CR, T, N)) (ekc : c = (c0 : Int)) (hc5 : c0 < 50) (hsel : Cond.selects CR y y ∈ zTb) (hcode : Cond.code y bytes maxL ret ∈ zTb) (hd0 : y.cls ≠ "java/lang/invoke/MethodHandle" ∧ y.cls ≠ "java/lang/invoke/VarHandle" ∧ (parseMethodDescriptor y.desc).map (fun d => d.parameters.length) = some (n - 1)) (hn0 : n ≠ 0) (hnm : n ≤ maxL) (hR : fr2 + 1 ≤ fr ∧ 8 + (maxL + 11) + lo2 ≤ lo) (hd : decode cc pc = .ok (.invokevirtual index, 3)) (k : ∀ (ls st : List zV) (G : zG) (X : zX), K ls st G X → zAt E nL (pc + 3) ls st G X) : ∀ (ls st : List zV) (G : zG) (X : zX), o_callV c C n K ls st G X → zAt E nL pc ls st G X := by
  intro ls st G X h ad H locs lsr hH hL hS
  unfold o_callV at h
  obtain ⟨hck, hrc, h⟩ := h
  obtain ⟨LC1, e1⟩ : ∃ LC1, LC1 = zsz G := ⟨_, rfl⟩
  obtain ⟨LS1, e2⟩ : ∃ LS1, LS1 = ztt G := ⟨_, rfl⟩
  have b1 : zsz G ≤ LC1 := by omega
  have b2 : ztt G ≤ LS1 := by omega
  have g4 := hH.2.2.2.1
  have g5 := hH.2.2.2.2.1
  have g2 := hH.2.1
  have g3 := hH.2.2.1
  have hok := hH.2.2.2.2.2.2.2.2.1
  have hva : ∀ v ∈ (st.take n).reverse, zok (zsz G) v ∧ z1 v = true := fun v hv => ⟨hS v (List.mem_of_mem_take (List.mem_reverse.mp hv)), List.all_eq_true.mp hck.2.2 v (List.mem_reverse.mp hv)⟩
  have hlen : (st.take n).reverse.length = n := by rw [List.length_reverse, List.length_take]; exact Nat.min_eq_left hck.1
  have hM := hC (el E) (eV E) ad H.size LC1 LS1 _ G X (fun v G2 X2 => K ls (v ++ st.drop n) G2 X2) (by rw [hlen]; exact hnm) hva hok b1 b2 ⟨e1, e2, hmono _ _ _ _ _ (fun v X2 hK => ⟨e1.symm, e2.symm, hK⟩) h⟩
  have hcs : CallFix (ep E) (em E) (ec E) cc nL (es E) (ea E) zTb own := ⟨hc.1, hc.2.1, hc.2.2.1, hc.2.2.2.1, hc.2.2.2.2.1⟩
  have hRR : fr2 + 1 ≤ (eR E).frames ∧ 8 + (maxL + 11) + lo2 ≤ (eR E).locals := by rw [hc.2.2.2.2.2.1, hc.2.2.2.2.2.2.1]; exact hR
  have hsz1 : lsr.size = nL := hL.1
  obtain ⟨b, as, hba⟩ : ∃ b as, (st.take n).reverse = zR b :: as ∧ zkd G b = c := by
    generalize (st.take n).reverse = aa at hrc
    rcases aa with _ | ⟨x | b | x | x, as⟩
    · exact hrc.elim
    · exact hrc.elim
    · exact ⟨b, as, rfl, hrc⟩
    · exact hrc.elim
    · exact hrc.elim
  obtain ⟨hba, hkb⟩ := hba
  rw [hba] at hlen
  subst ekc
  have hb1 : b ≠ -1 := fun z => by
    subst z
    have := hok.2.2.2.2.1 (-1) (by omega)
    omega
  have e9 : zv ad (zR b) = .ref (ad b) := if_neg hb1
  have hlas : (as.map (zv ad)).length = n - 1 := by rw [List.length_map]; rw [List.length_cons] at hlen; omega
  have hstk : st.map (zv ad) = (as.map (zv ad)).reverse ++ .ref (ad b) :: (st.drop n).map (zv ad) := by
    rw [z_split (n := n), hba, List.map_cons, List.reverse_cons, e9, List.append_assoc]
    rfl
  have hpc : ∀ U : State, U.heap = H → (es E).WarmedH U.vm → zPc (eV E) ad H.size (st.take n).reverse G X (Value.ref (ad b) :: as.map (zv ad)).toArray U := fun U h1 h2 => by
    have := zPc_call (vs := (st.take n).reverse) hc hx hH U h1 h2
    rw [hba, List.map_cons, e9] at this
    rw [hba]
    exact this
  obtain ⟨Tb, Nb, hcl⟩ := hcl
  have hrv := zRecv hc hH hkb hc5 hcl
  have hrun := va_runU (H := H) (locs := locs) (cells := zsz G - esz E) (slots := ztt G - ett E) (below := eb E) (meth := eh E) (e := ee E) (b := ad b) (As := as.map (zv ad)) (rest := (st.drop n).map (zv ad)) (g := F0 (em E) pc lsr (st.map (zv ad))) hcs hM (va_cwU (x := y) (owner := y.cls) (n - 1) hc.2.2.2.2.1 (zTb_good (fun w hw => by
      rcases List.mem_append.mp hw with hw | hw
      · rcases List.mem_cons.mp hw with e | hw
        · rw [e]; exact hl
        · rcases List.mem_cons.mp hw with e | hw
          · rw [e]; exact hsm
          · rcases List.mem_cons.mp hw with e | hw
            · rw [e]; exact hsel
            · rcases List.mem_cons.mp hw with e | hw
              · rw [e]; exact hin
              · rcases List.mem_cons.mp hw with e | hw
                · rw [e]; exact hini
                · cases hw
      · exact (List.mem_cons.mp hw).elim (fun e => by rw [e]; exact hcode) id)) rfl rfl rfl rfl hd0 hRR) ⟨zPc_blind, hrv, hpc⟩ rfl hlas hsz1 hstk (lv_room (z_rsum hck.2.1)) hd ⟨by omega, by omega⟩
  exact z_back hc hH hL (fun v hv => hS v (List.mem_of_mem_drop hv)) b1 b2 (by omega) (by omega) hrun (fun v G2 X2 hK _ _ => k _ _ _ _ hK.2)
theorem z_callSU {E : zE} {cc : ByteArray} {own : String} {nL fr lo pc : Nat} {c : Int} {c0 : Nat} {CR : String} {y : MethodName} {bytes : ByteArray} {maxL n index fr2 lo2 : Nat} {ret : Option FieldType} {C : zCp} {K : zK} (hc : zCx E cc own nL fr lo) (hx : zXt (ead E) (eA E) (es E)) (hmono : ∀ (vs : List zV) (G : zG) (X : zX) (Q Q2 : List zV → zX → Prop), (∀ v X2, Q v X2 → Q2 v X2) → C vs G X Q → C vs G X Q2) (hC : zSnd y bytes maxL ret fr2 lo2 (zUp C)) (hl : Cond.methodLink own index y ∈ zTb) (hsm : Cond.sameMethod y.cls y.cls y.name y.desc ∈ zTb) (hin : Cond.instanceMethod y ∈ zTb) (hini : Cond.initialized y.cls ∈ zTb) (hcl : ∃ T N, zcl[c0]? = some (CR, T, N)) (ekc : c = (c0 : Int)) (hc5 : c0 < 50) (hsup : Cond.superclass own y.cls ∈ zTb) (hnm2 : y.name ≠ "<init>") (hcode : Cond.code y bytes maxL ret ∈ zTb) (hd0 : y.cls ≠ "java/lang/invoke/MethodHandle" ∧ y.cls ≠ "java/lang/invoke/VarHandle" ∧ (parseMethodDescriptor y.desc).map (fun d => d.parameters.length) = some (n - 1)) (hn0 : n ≠ 0) (hnm : n ≤ maxL) (hR : fr2 + 1 ≤ fr ∧ 8 + (maxL + 11) + lo2 ≤ lo) (hd : decode cc pc = .ok (.invokespecial index, 3)) (k : ∀ (ls st : List zV) (G : zG) (X : zX), K ls st G X → zAt E nL (pc + 3) ls st G X) : ∀ (ls st : List zV) (G : zG) (X : zX), o_callV c C n K ls st G X → zAt E nL pc ls st G X := by
  intro ls st G X h ad H locs lsr hH hL hS
  unfold o_callV at h
  obtain ⟨hck, hrc, h⟩ := h
  obtain ⟨LC1, e1⟩ : ∃ LC1, LC1 = zsz G := ⟨_, rfl⟩
  obtain ⟨LS1, e2⟩ : ∃ LS1, LS1 = ztt G := ⟨_, rfl⟩
  have b1 : zsz G ≤ LC1 := by omega
  have b2 : ztt G ≤ LS1 := by omega
  have g4 := hH.2.2.2.1
  have g5 := hH.2.2.2.2.1
  have g2 := hH.2.1
  have g3 := hH.2.2.1
  have hok := hH.2.2.2.2.2.2.2.2.1
  have hva : ∀ v ∈ (st.take n).reverse, zok (zsz G) v ∧ z1 v = true := fun v hv => ⟨hS v (List.mem_of_mem_take (List.mem_reverse.mp hv)), List.all_eq_true.mp hck.2.2 v (List.mem_reverse.mp hv)⟩
  have hlen : (st.take n).reverse.length = n := by rw [List.length_reverse, List.length_take]; exact Nat.min_eq_left hck.1
  have hM := hC (el E) (eV E) ad H.size LC1 LS1 _ G X (fun v G2 X2 => K ls (v ++ st.drop n) G2 X2) (by rw [hlen]; exact hnm) hva hok b1 b2 ⟨e1, e2, hmono _ _ _ _ _ (fun v X2 hK => ⟨e1.symm, e2.symm, hK⟩) h⟩
  have hcs : CallFix (ep E) (em E) (ec E) cc nL (es E) (ea E) zTb own := ⟨hc.1, hc.2.1, hc.2.2.1, hc.2.2.2.1, hc.2.2.2.2.1⟩
  have hRR : fr2 + 1 ≤ (eR E).frames ∧ 8 + (maxL + 11) + lo2 ≤ (eR E).locals := by rw [hc.2.2.2.2.2.1, hc.2.2.2.2.2.2.1]; exact hR
  have hsz1 : lsr.size = nL := hL.1
  obtain ⟨b, as, hba⟩ : ∃ b as, (st.take n).reverse = zR b :: as ∧ zkd G b = c := by
    generalize (st.take n).reverse = aa at hrc
    rcases aa with _ | ⟨x | b | x | x, as⟩
    · exact hrc.elim
    · exact hrc.elim
    · exact ⟨b, as, rfl, hrc⟩
    · exact hrc.elim
    · exact hrc.elim
  obtain ⟨hba, hkb⟩ := hba
  rw [hba] at hlen
  subst ekc
  have hb1 : b ≠ -1 := fun z => by
    subst z
    have := hok.2.2.2.2.1 (-1) (by omega)
    omega
  have e9 : zv ad (zR b) = .ref (ad b) := if_neg hb1
  have hlas : (as.map (zv ad)).length = n - 1 := by rw [List.length_map]; rw [List.length_cons] at hlen; omega
  have hstk : st.map (zv ad) = (as.map (zv ad)).reverse ++ .ref (ad b) :: (st.drop n).map (zv ad) := by
    rw [z_split (n := n), hba, List.map_cons, List.reverse_cons, e9, List.append_assoc]
    rfl
  have hpc : ∀ U : State, U.heap = H → (es E).WarmedH U.vm → zPc (eV E) ad H.size (st.take n).reverse G X (Value.ref (ad b) :: as.map (zv ad)).toArray U := fun U h1 h2 => by
    have := zPc_call (vs := (st.take n).reverse) hc hx hH U h1 h2
    rw [hba, List.map_cons, e9] at this
    rw [hba]
    exact this
  obtain ⟨Tb, Nb, hcl⟩ := hcl
  have hrv := zRecv hc hH hkb hc5 hcl
  have hat : ∃ cC, ClassAt (es E) CR cC := ⟨_, (hc.2.2.2.2.2.2.2.1.1 c0 _ hcl).2⟩
  obtain ⟨cC, hat⟩ := hat
  have hrun := va_runSU (H := H) (locs := locs) (cells := zsz G - esz E) (slots := ztt G - ett E) (below := eb E) (meth := eh E) (e := ee E) (b := ad b) (As := as.map (zv ad)) (rest := (st.drop n).map (zv ad)) (g := F0 (em E) pc lsr (st.map (zv ad))) hat hcs hM (va_cwSU (n - 1) hc.2.2.2.2.1 (zTb_good (fun w hw => by
      rcases List.mem_append.mp hw with hw | hw
      · rcases List.mem_cons.mp hw with e | hw
        · rw [e]; exact hl
        · rcases List.mem_cons.mp hw with e | hw
          · rw [e]; exact hsm
          · rcases List.mem_cons.mp hw with e | hw
            · rw [e]; exact hsup
            · rcases List.mem_cons.mp hw with e | hw
              · rw [e]; exact hin
              · rcases List.mem_cons.mp hw with e | hw
                · rw [e]; exact hini
                · cases hw
      · exact (List.mem_cons.mp hw).elim (fun e => by rw [e]; exact hcode) id)) rfl rfl rfl ⟨hnm2, hd0.2.2⟩ hRR) ⟨zPc_blind, hrv, hpc⟩ rfl hlas hsz1 hstk (lv_room (z_rsum hck.2.1)) hd ⟨by omega, by omega⟩
  exact z_back hc hH hL (fun v hv => hS v (List.mem_of_mem_drop hv)) b1 b2 (by omega) (by omega) hrun (fun v G2 X2 hK _ _ => k _ _ _ _ hK.2)
theorem z_sel_priv {C : String} {y y2 : MethodName} {s : State} {args : Array Value} {n : Nat} (hy : y.cls ≠ "java/lang/invoke/MethodHandle" ∧ y.cls ≠ "java/lang/invoke/VarHandle")
    (hins : (Cond.instantiable C n).before args s = true) (hpriv : (Cond.privateMethod y).before args s = true) (hinst : (Cond.instanceMethod y).before args s = true) (hs2 : (Cond.selects C y2 y2).before args s = true) (hcl2 : y2.cls = y.cls) :
    (Cond.selects C y y).before args s = true := by
  obtain ⟨c, k, hc, hk, -, hniab, -, -⟩ := Cond.instantiable_spec hins
  obtain ⟨mk, methM, hnamed, hmethM, -, -⟩ := Cond.instanceMethod_spec hinst
  have hfound : s.methodFound? y.cls y.name y.desc = some mk := State.methodFound?_of_named hnamed hy
  have hmc : s.vm.findClass y.cls = some mk.cls := findClass_of_methodNamed hnamed
  have hsel : selectMethod {} s.vm c mk = .method mk := selectMethod_private hmethM (Cond.privateMethod_at hpriv mk methM hnamed hmethM)
  obtain ⟨c2, r2, m2, q1, q2, q3, q4, kP, hkP, hkPi⟩ := Cond.selects_spec hs2
  have h2 : s.vm.findClass y2.cls = some m2.cls := findClass_of_methodNamed q3
  rw [hcl2, hmc] at h2
  rw [← Option.some.inj h2] at hkP
  simp only [Cond.before, Cond.holds, Cond.value, hc, hfound, hnamed, hsel, hkP]
  simp [hkPi]
theorem z_callUP {E : zE} {cc : ByteArray} {own : String} {nL fr lo pc : Nat} {n2 : Nat} {y2 : MethodName} {c : Int} {c0 : Nat} {CR : String} {y : MethodName} {bytes : ByteArray} {maxL n index fr2 lo2 : Nat} {ret : Option FieldType} {C : zCp} {K : zK} (hc : zCx E cc own nL fr lo) (hx : zXt (ead E) (eA E) (es E)) (hmono : ∀ (vs : List zV) (G : zG) (X : zX) (Q Q2 : List zV → zX → Prop), (∀ v X2, Q v X2 → Q2 v X2) → C vs G X Q → C vs G X Q2) (hC : zSnd y bytes maxL ret fr2 lo2 (zUp C)) (hl : Cond.methodLink own index y ∈ zTb) (hin : Cond.instanceMethod y ∈ zTb) (hini : Cond.initialized y.cls ∈ zTb) (hpr : Cond.privateMethod y ∈ zTb) (hit : Cond.instantiable CR n2 ∈ zTb) (hsm : Cond.sameMethod y.cls y.cls y.name y.desc ∈ zTb ∨ ∀ s args, (Cond.methodLink own index y).before args s = true → (Cond.instanceMethod y).before args s = true → (Cond.sameMethod y.cls y.cls y.name y.desc).before args s = true) (hs2 : Cond.selects CR y2 y2 ∈ zTb) (hy2 : y2.cls = y.cls) (hcl : ∃ T N, zcl[c0]? = some (CR, T, N)) (ekc : c = (c0 : Int)) (hc5 : c0 < 50) (hcode : Cond.code y bytes maxL ret ∈ zTb) (hd0 : y.cls ≠ "java/lang/invoke/MethodHandle" ∧ y.cls ≠ "java/lang/invoke/VarHandle" ∧ (parseMethodDescriptor y.desc).map (fun d => d.parameters.length) = some (n - 1)) (hn0 : n ≠ 0) (hnm : n ≤ maxL) (hR : fr2 + 1 ≤ fr ∧ 8 + (maxL + 11) + lo2 ≤ lo) (hd : decode cc pc = .ok (.invokevirtual index, 3)) (k : ∀ (ls st : List zV) (G : zG) (X : zX), K ls st G X → zAt E nL (pc + 3) ls st G X) : ∀ (ls st : List zV) (G : zG) (X : zX), o_callV c C n K ls st G X → zAt E nL pc ls st G X := by
  intro ls st G X h ad H locs lsr hH hL hS
  unfold o_callV at h
  obtain ⟨hck, hrc, h⟩ := h
  obtain ⟨LC1, e1⟩ : ∃ LC1, LC1 = zsz G := ⟨_, rfl⟩
  obtain ⟨LS1, e2⟩ : ∃ LS1, LS1 = ztt G := ⟨_, rfl⟩
  have b1 : zsz G ≤ LC1 := by omega
  have b2 : ztt G ≤ LS1 := by omega
  have g4 := hH.2.2.2.1
  have g5 := hH.2.2.2.2.1
  have g2 := hH.2.1
  have g3 := hH.2.2.1
  have hok := hH.2.2.2.2.2.2.2.2.1
  have hva : ∀ v ∈ (st.take n).reverse, zok (zsz G) v ∧ z1 v = true := fun v hv => ⟨hS v (List.mem_of_mem_take (List.mem_reverse.mp hv)), List.all_eq_true.mp hck.2.2 v (List.mem_reverse.mp hv)⟩
  have hlen : (st.take n).reverse.length = n := by rw [List.length_reverse, List.length_take]; exact Nat.min_eq_left hck.1
  have hM := hC (el E) (eV E) ad H.size LC1 LS1 _ G X (fun v G2 X2 => K ls (v ++ st.drop n) G2 X2) (by rw [hlen]; exact hnm) hva hok b1 b2 ⟨e1, e2, hmono _ _ _ _ _ (fun v X2 hK => ⟨e1.symm, e2.symm, hK⟩) h⟩
  have hcs : CallFix (ep E) (em E) (ec E) cc nL (es E) (ea E) zTb own := ⟨hc.1, hc.2.1, hc.2.2.1, hc.2.2.2.1, hc.2.2.2.2.1⟩
  have hRR : fr2 + 1 ≤ (eR E).frames ∧ 8 + (maxL + 11) + lo2 ≤ (eR E).locals := by rw [hc.2.2.2.2.2.1, hc.2.2.2.2.2.2.1]; exact hR
  have hsz1 : lsr.size = nL := hL.1
  obtain ⟨b, as, hba⟩ : ∃ b as, (st.take n).reverse = zR b :: as ∧ zkd G b = c := by
    generalize (st.take n).reverse = aa at hrc
    rcases aa with _ | ⟨x | b | x | x, as⟩
    · exact hrc.elim
    · exact hrc.elim
    · exact ⟨b, as, rfl, hrc⟩
    · exact hrc.elim
    · exact hrc.elim
  obtain ⟨hba, hkb⟩ := hba
  rw [hba] at hlen
  subst ekc
  have hb1 : b ≠ -1 := fun z => by
    subst z
    have := hok.2.2.2.2.1 (-1) (by omega)
    omega
  have e9 : zv ad (zR b) = .ref (ad b) := if_neg hb1
  have hlas : (as.map (zv ad)).length = n - 1 := by rw [List.length_map]; rw [List.length_cons] at hlen; omega
  have hstk : st.map (zv ad) = (as.map (zv ad)).reverse ++ .ref (ad b) :: (st.drop n).map (zv ad) := by
    rw [z_split (n := n), hba, List.map_cons, List.reverse_cons, e9, List.append_assoc]
    rfl
  have hpc : ∀ U : State, U.heap = H → (es E).WarmedH U.vm → zPc (eV E) ad H.size (st.take n).reverse G X (Value.ref (ad b) :: as.map (zv ad)).toArray U := fun U h1 h2 => by
    have := zPc_call (vs := (st.take n).reverse) hc hx hH U h1 h2
    rw [hba, List.map_cons, e9] at this
    rw [hba]
    exact this
  obtain ⟨Tb, Nb, hcl⟩ := hcl
  have hrv := zRecv hc hH hkb hc5 hcl
  have hgood : GoodIn zTb (Cond.code y bytes maxL ret :: zTb) := zTb_good (fun w hw => (List.mem_cons.mp hw).elim (fun e => by rw [e]; exact hcode) id)
  have ok := hc.2.2.2.2.1
  have hcw : va_CU (eR E) (es E) (ea E) own CR y.cls index y y bytes maxL ret (Cond.code y bytes maxL ret :: zTb) ({ frames := fr2, cells := LC1 - zsz G, slots := LS1 - ztt G, locals := lo2 } : Room) (LC1 - zsz G) (LS1 - ztt G) (n - 1) := by
    refine ⟨⟨rfl, rfl, hRR.1, hRR.2, pay_in ok hgood, List.mem_cons_self⟩, ok _ hcode, ok _ hini, ⟨hd0.1, hd0.2.1⟩, fun sig h => ?_, ok _ hl, hsm.elim (ok _) (fun z => z _ _ (ok _ hl) (ok _ hin)), va_Decl.of (ok _ hin) (ok _ hcode), z_sel_priv ⟨hd0.1, hd0.2.1⟩ (ok _ hit) (ok _ hpr) (ok _ hin) (ok _ hs2) hy2, ok _ hin⟩
    have h2 := hd0.2.2
    rw [h] at h2
    exact (Option.some.inj h2).symm
  have hrun := va_runU (H := H) (locs := locs) (cells := zsz G - esz E) (slots := ztt G - ett E) (below := eb E) (meth := eh E) (e := ee E) (b := ad b) (As := as.map (zv ad)) (rest := (st.drop n).map (zv ad)) (g := F0 (em E) pc lsr (st.map (zv ad))) hcs hM hcw ⟨zPc_blind, hrv, hpc⟩ rfl hlas hsz1 hstk (lv_room (z_rsum hck.2.1)) hd ⟨by omega, by omega⟩
  exact z_back hc hH hL (fun v hv => hS v (List.mem_of_mem_drop hv)) b1 b2 (by omega) (by omega) hrun (fun v G2 X2 hK _ _ => k _ _ _ _ hK.2)
/-- what the reference names is another method, that a subclass overrides -/
theorem z_callO {E : zE} {cc : ByteArray} {own : String} {nL fr lo pc : Nat} {x : MethodName} {b0 : ByteArray} {m0 : Nat} {r0 : Option FieldType} {c : Int} {c0 : Nat} {CR : String} {y : MethodName} {bytes : ByteArray} {maxL n index fr2 lo2 : Nat} {ret : Option FieldType} {C : zCp} {K : zK} (hc : zCx E cc own nL fr lo) (hx : zXt (ead E) (eA E) (es E)) (hmono : ∀ (vs : List zV) (G : zG) (X : zX) (Q Q2 : List zV → zX → Prop), (∀ v X2, Q v X2 → Q2 v X2) → C vs G X Q → C vs G X Q2) (hC : zSnd y bytes maxL ret fr2 lo2 (zUp C)) (hl : Cond.methodLink own index x ∈ zTb) (hsm : Cond.sameMethod x.cls x.cls x.name x.desc ∈ zTb) (hinx : Cond.instanceMethod x ∈ zTb) (hcx : Cond.code x b0 m0 r0 ∈ zTb) (hin : Cond.instanceMethod y ∈ zTb) (hini : Cond.initialized y.cls ∈ zTb) (hsel : Cond.selects CR x y ∈ zTb) (hdx : x.cls ≠ "java/lang/invoke/MethodHandle" ∧ x.cls ≠ "java/lang/invoke/VarHandle" ∧ (parseMethodDescriptor x.desc).map (fun d => d.parameters.length) = some (n - 1)) (hcl : ∃ T N, zcl[c0]? = some (CR, T, N)) (ekc : c = (c0 : Int)) (hc5 : c0 < 50) (hcode : Cond.code y bytes maxL ret ∈ zTb) (hd0 : y.cls ≠ "java/lang/invoke/MethodHandle" ∧ y.cls ≠ "java/lang/invoke/VarHandle" ∧ (parseMethodDescriptor y.desc).map (fun d => d.parameters.length) = some (n - 1)) (hn0 : n ≠ 0) (hnm : n ≤ maxL) (hR : fr2 + 1 ≤ fr ∧ 8 + (maxL + 11) + lo2 ≤ lo) (hd : decode cc pc = .ok (.invokevirtual index, 3)) (k : ∀ (ls st : List zV) (G : zG) (X : zX), K ls st G X → zAt E nL (pc + 3) ls st G X) : ∀ (ls st : List zV) (G : zG) (X : zX), o_callV c C n K ls st G X → zAt E nL pc ls st G X := by
  intro ls st G X h ad H locs lsr hH hL hS
  unfold o_callV at h
  obtain ⟨hck, hrc, h⟩ := h
  obtain ⟨LC1, e1⟩ : ∃ LC1, LC1 = zsz G := ⟨_, rfl⟩
  obtain ⟨LS1, e2⟩ : ∃ LS1, LS1 = ztt G := ⟨_, rfl⟩
  have b1 : zsz G ≤ LC1 := by omega
  have b2 : ztt G ≤ LS1 := by omega
  have g4 := hH.2.2.2.1
  have g5 := hH.2.2.2.2.1
  have g2 := hH.2.1
  have g3 := hH.2.2.1
  have hok := hH.2.2.2.2.2.2.2.2.1
  have hva : ∀ v ∈ (st.take n).reverse, zok (zsz G) v ∧ z1 v = true := fun v hv => ⟨hS v (List.mem_of_mem_take (List.mem_reverse.mp hv)), List.all_eq_true.mp hck.2.2 v (List.mem_reverse.mp hv)⟩
  have hlen : (st.take n).reverse.length = n := by rw [List.length_reverse, List.length_take]; exact Nat.min_eq_left hck.1
  have hM := hC (el E) (eV E) ad H.size LC1 LS1 _ G X (fun v G2 X2 => K ls (v ++ st.drop n) G2 X2) (by rw [hlen]; exact hnm) hva hok b1 b2 ⟨e1, e2, hmono _ _ _ _ _ (fun v X2 hK => ⟨e1.symm, e2.symm, hK⟩) h⟩
  have hcs : CallFix (ep E) (em E) (ec E) cc nL (es E) (ea E) zTb own := ⟨hc.1, hc.2.1, hc.2.2.1, hc.2.2.2.1, hc.2.2.2.2.1⟩
  have hRR : fr2 + 1 ≤ (eR E).frames ∧ 8 + (maxL + 11) + lo2 ≤ (eR E).locals := by rw [hc.2.2.2.2.2.1, hc.2.2.2.2.2.2.1]; exact hR
  have hsz1 : lsr.size = nL := hL.1
  obtain ⟨b, as, hba⟩ : ∃ b as, (st.take n).reverse = zR b :: as ∧ zkd G b = c := by
    generalize (st.take n).reverse = aa at hrc
    rcases aa with _ | ⟨x | b | x | x, as⟩
    · exact hrc.elim
    · exact hrc.elim
    · exact ⟨b, as, rfl, hrc⟩
    · exact hrc.elim
    · exact hrc.elim
  obtain ⟨hba, hkb⟩ := hba
  rw [hba] at hlen
  subst ekc
  have hb1 : b ≠ -1 := fun z => by
    subst z
    have := hok.2.2.2.2.1 (-1) (by omega)
    omega
  have e9 : zv ad (zR b) = .ref (ad b) := if_neg hb1
  have hlas : (as.map (zv ad)).length = n - 1 := by rw [List.length_map]; rw [List.length_cons] at hlen; omega
  have hstk : st.map (zv ad) = (as.map (zv ad)).reverse ++ .ref (ad b) :: (st.drop n).map (zv ad) := by
    rw [z_split (n := n), hba, List.map_cons, List.reverse_cons, e9, List.append_assoc]
    rfl
  have hpc : ∀ U : State, U.heap = H → (es E).WarmedH U.vm → zPc (eV E) ad H.size (st.take n).reverse G X (Value.ref (ad b) :: as.map (zv ad)).toArray U := fun U h1 h2 => by
    have := zPc_call (vs := (st.take n).reverse) hc hx hH U h1 h2
    rw [hba, List.map_cons, e9] at this
    rw [hba]
    exact this
  obtain ⟨Tb, Nb, hcl⟩ := hcl
  have hrv := zRecv hc hH hkb hc5 hcl
  have hcw : va_CU (eR E) (es E) (ea E) own CR x.cls index x y bytes maxL ret (Cond.code y bytes maxL ret :: zTb) ({ frames := fr2, cells := LC1 - zsz G, slots := LS1 - ztt G, locals := lo2 } : Room) (LC1 - zsz G) (LS1 - ztt G) (n - 1) := va_cwO (n - 1) hc.2.2.2.2.1 (zTb_good (fun w hw => by
      rcases List.mem_append.mp hw with hw | hw
      · rcases List.mem_cons.mp hw with e | hw
        · rw [e]; exact hl
        · rcases List.mem_cons.mp hw with e | hw
          · rw [e]; exact hsm
          · rcases List.mem_cons.mp hw with e | hw
            · rw [e]; exact hinx
            · rcases List.mem_cons.mp hw with e | hw
              · rw [e]; exact hsel
              · rcases List.mem_cons.mp hw with e | hw
                · rw [e]; exact hin
                · rcases List.mem_cons.mp hw with e | hw
                  · rw [e]; exact hini
                  · cases hw
      · exact (List.mem_cons.mp hw).elim (fun e => by rw [e]; exact hcode) id)) rfl rfl rfl (h0 := hcx) hdx hRR
  have hrun := va_runU (H := H) (locs := locs) (cells := zsz G - esz E) (slots := ztt G - ett E) (below := eb E) (meth := eh E) (e := ee E) (b := ad b) (As := as.map (zv ad)) (rest := (st.drop n).map (zv ad)) (g := F0 (em E) pc lsr (st.map (zv ad))) hcs hM hcw ⟨zPc_blind, hrv, hpc⟩ rfl hlas hsz1 hstk (lv_room (z_rsum hck.2.1)) hd ⟨by omega, by omega⟩
  exact z_back hc hH hL (fun v hv => hS v (List.mem_of_mem_drop hv)) b1 b2 (by omega) (by omega) hrun (fun v G2 X2 hK _ _ => k _ _ _ _ hK.2)
