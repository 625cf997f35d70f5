/-! ===== what stood before: two statics, a constant text ===== -/
def zTi : Nat := 141
def zTx : String := "box form pass card pin logo text link land day to read mix put send if go stop "
def zXt (ad : Int → Nat) (A : Nat → Prop) (U : State) : Prop :=
  zK4 ad A U ∧ va_Z "java/lang/String" "COMPACT_STRINGS" "Z" (.int 1) A U U.heap ∧
  (va_Z "jdk/internal/util/Preconditions" "SIOOBE_FORMATTER" "Ljava/util/function/BiFunction;" .null A U U.heap ∨ va_Z "jdk/internal/util/Preconditions" "SIOOBE_FORMATTER" "Ljava/util/function/BiFunction;" (.ref (ad (-2))) A U U.heap) ∧ vk_R "PretendDesk$Tape" zTi zTx (ad (-3)) U ∧
  (∀ q ∈ zNs, va_Nw (.methodLinkNest q.1 q.2.1 q.2.2.1 q.2.2.2) U) ∧ ∀ C ∈ zAs, va_AO C U
/-! ===== a method's contract ===== -/
def zPc (V : zVM) (ad0 : Int → Nat) (hsz : Nat) (vs : List zV) (G : zG) (X : zX) : Array Value → State → Prop :=
  va_Pc (vs.map (zv ad0)) (fun U => U.heap.size = hsz ∧ va_K V.1 zcl (zty V.2) U ∧ va_P V.1 zcl (zws zft V ad0 G X) U.heap ∧ va_D (fun _ => True) (zws zft V ad0 G X) ∧ zxs zft V ad0 G X = zx0 V ad0 ∧ zXt ad0 (va_A (zws zft V ad0 G X) hsz) U)
def zQc (V : zVM) (ad0 : Int → Nat) (hsz LC LS : Nat) (G : zG) (X : zX) (Q : List zV → zG → zX → Prop) : Array Value → State → Outcome → State → Prop := fun _ st oc t =>
  (∃ (v : List zV) (G' : zG) (X' : zX) (ad' : Int → Nat), oc = .returned ((v.map (zv ad')).head?) ∧ v.length ≤ 1 ∧ Q v G' X' ∧ zsz G' = LC ∧ ztt G' = LS ∧ (∀ k : Int, k < zsz G → ad' k = ad0 k) ∧
    va_P V.1 zcl (zws zft V ad' G' X') t.heap ∧ va_D (va_A (zws zft V ad0 G X) hsz) (zws zft V ad' G' X') ∧ zokH G' X' ∧ zxs zft V ad' G' X' = zx0 V ad' ∧ ∀ u ∈ v, zok (zsz G') u) ∧ va_F (va_A (zws zft V ad0 G X) hsz) st t
/-- a method that answers a whole number answers one -/
def zrk (ret : Option FieldType) (v : List zV) : Prop := (ret = some .int ∨ ret = some .boolean) → ∃ r : Int, v = [zI r]
/-- the contract C of the method y: what it says of numbers is so of the machine -/
def zSnd (y : MethodName) (bytes : ByteArray) (nL : Nat) (ret : Option FieldType) (fr lo : Nat) (C : zCo) : Prop :=
  ∀ (l : Launch) (V : zVM) (ad0 : Int → Nat) (hsz LC LS : Nat) (vs : List zV) (G : zG) (X : zX) (Q : List zV → zG → zX → Prop), vs.length ≤ nL → (∀ v ∈ vs, zok (zsz G) v ∧ z1 v = true) → zokH G X → zsz G ≤ LC → ztt G ≤ LS →
    C LC LS vs G X (fun v G' X' => zsz G' = LC ∧ ztt G' = LS ∧ Q v G' X') →
    Met l y (Cond.code y bytes nL ret :: zTb) ({ frames := fr, cells := LC - zsz G, slots := LS - ztt G, locals := lo } : Room) (zPc V ad0 hsz vs G X) (zQc V ad0 hsz LC LS G X (fun v G' X' => zrk ret v ∧ Q v G' X')) (LC - zsz G) (LS - ztt G) (va_A (zws zft V ad0 G X) hsz)
abbrev zCp : Type := List zV → zG → zX → (List zV → zX → Prop) → Prop
/-- a contract that makes no cell and changes no reference -/
def zUp (C : zCp) : zCo := fun LC LS vs G X Q => LC = zsz G ∧ LS = ztt G ∧ C vs G X (fun v X' => Q v G X')
theorem zXt_call {E : zE} {cc : ByteArray} {own : String} {nL fr lo : Nat} {ad : Int → Nat} {G : zG} {X : zX} {H : Heap} {locs : List Loc} (hc : zCx E cc own nL fr lo) (hx : zXt (ead E) (eA E) (es E)) (hH : zHp E ad G X H locs) {U : State} (hU : U.heap = H) (hW : (es E).WarmedH U.vm) : zXt ad (va_A (zWs E ad G X) H.size) U := by
  obtain ⟨hadd, -, -, -, -, -, hD, hS, -, -⟩ := hH
  have hAB : ∀ q, va_A (zWs E ad G X) H.size q → eA E q := by
    intro q hq
    rcases hq with ⟨i, e, hi⟩ | hq
    · exact hD.2 i (q, e) hi
    · exact hc.2.2.2.2.2.2.2.2.1 q (Nat.le_trans hS.1 hq)
  have e2 : ad (-2) = ead E (-2) := hadd _ (by omega)
  have e3 : ad (-3) = ead E (-3) := hadd _ (by omega)
  have hk : ∀ a : Nat, a < (es E).heap.size → ¬ eA E a → U.heap[a]? = (es E).heap[a]? := fun a h1 h2 => by rw [hU]; exact hS.2.1 a h1 h2
  have e4 : ad (-4) = ead E (-4) := hadd _ (by omega)
  refine ⟨⟨fun k hk' => ?_, ?_, ?_, ?_, ?_⟩, ?_, ?_, ?_, fun q hq => (hx.2.2.2.2.1 q hq).warmM hW, fun C hC => (hx.2.2.2.2.2 C hC).moved hW.alike⟩
  · rw [hadd k (by omega), hU]
    exact ⟨Nat.lt_of_lt_of_le (hx.1.1 k hk').1 hS.1, fun z => (hx.1.1 k hk').2 (hAB _ z)⟩
  · rw [e3]; exact (va_O.narrow ((va_O.moved hW.alike hx.1.2.1).kept hk) hAB)
  · rw [e3]; exact (va_OF.narrow ((va_OF.moved hW.alike hx.1.2.2.1).kept hk) hAB)
  · rw [e3, e4]; exact (va_OF.narrow ((va_OF.moved hW.alike hx.1.2.2.2.1).kept hk) hAB)
  · rw [e4]; exact (va_T.narrow ((va_T.moved hW.alike hx.1.2.2.2.2).kept hk) hAB)
  · exact ((hx.2.1.moved hW.alike).kept hk).narrow hAB
  · rw [e2]; exact hx.2.2.1.imp (fun z => ((z.moved hW.alike).kept hk).narrow hAB) (fun z => ((z.moved hW.alike).kept hk).narrow hAB)
  · rw [e3]; exact hx.2.2.2.1.warm hW
theorem zPc_blind {V : zVM} {ad0 : Int → Nat} {hsz : Nat} {vs : List zV} {G : zG} {X : zX} : FrameBlind (zPc V ad0 hsz vs G X) := by
  intro a U g mk h
  obtain ⟨h1, h2, h3, h4, h5, h6, h7⟩ := h
  exact ⟨h1, h2, va_K.moved (u := U) (U := U.calling g mk a) (Vm.Alike.refl U.vm) h3, h4, h5, h6, ⟨h7.1.1, va_O.moved (u := U) (U := U.calling g mk a) (Vm.Alike.refl U.vm) h7.1.2.1, va_OF.moved (u := U) (U := U.calling g mk a) (Vm.Alike.refl U.vm) h7.1.2.2.1, va_OF.moved (u := U) (U := U.calling g mk a) (Vm.Alike.refl U.vm) h7.1.2.2.2.1, va_T.moved (u := U) (U := U.calling g mk a) (Vm.Alike.refl U.vm) h7.1.2.2.2.2⟩, va_Z.moved (u := U) (U := U.calling g mk a) (Vm.Alike.refl U.vm) h7.2.1, h7.2.2.1.imp (fun z => va_Z.moved (u := U) (U := U.calling g mk a) (Vm.Alike.refl U.vm) z) (fun z => va_Z.moved (u := U) (U := U.calling g mk a) (Vm.Alike.refl U.vm) z), vk_R.same (u := U) (U := U.calling g mk a) rfl h7.2.2.2.1, fun q hq => va_Nw.same (u := U) (U := U.calling g mk a) rfl rfl (h7.2.2.2.2.1 q hq), fun C hC => va_AO.moved (u := U) (U := U.calling g mk a) (Vm.Alike.refl U.vm) (h7.2.2.2.2.2 C hC)⟩
/-- what a call's start asks for -/
theorem zPc_call {E : zE} {cc : ByteArray} {own : String} {nL fr lo : Nat} {ad : Int → Nat} {G : zG} {X : zX} {H : Heap} {locs : List Loc} {vs : List zV} (hc : zCx E cc own nL fr lo) (hx : zXt (ead E) (eA E) (es E)) (hH : zHp E ad G X H locs) (U : State) (hU : U.heap = H) (hW : (es E).WarmedH U.vm) : zPc (eV E) ad H.size vs G X (vs.map (zv ad)).toArray U :=
  ⟨rfl, by rw [hU], va_K.moved hW.alike hc.2.2.2.2.2.2.2.1, by rw [hU]; exact hH.2.2.2.2.2.1, hH.2.2.2.2.2.2.1.weaken (fun _ _ _ _ => trivial), hH.2.2.2.2.2.2.2.2.2, zXt_call hc hx hH hU hW⟩
theorem z_back {E : zE} {cc : ByteArray} {own : String} {nL fr lo pc LC LS : Nat} {ad : Int → Nat} {G : zG} {X : zX} {H : Heap} {locs : List Loc} {lsr : Array Slot} {ls rs : List zV} {st0 : List Value} {Q : List zV → zG → zX → Prop} {a : Array Value} (hc : zCx E cc own nL fr lo)
    (hH : zHp E ad G X H locs) (hL : zLc ad (zsz G) nL ls lsr) (hS : ∀ v ∈ rs, zok (zsz G) v) (h1 : zsz G ≤ LC) (h2 : ztt G ≤ LS) (h3 : LC - esz E ≤ (eR E).cells) (h4 : LS - ett E ≤ (eR E).slots)
    (hr : va_Run (ep E) (el E) (ee E) (eR E) (es E) (em E) (ea E) (eb E) (eh E) (ec E) H locs (zsz G - esz E) (ztt G - ett E) (LC - zsz G) (LS - ztt G) (F0 (em E) pc lsr st0) (rs.map (zv ad)) (zQc (eV E) ad H.size LC LS G X Q a) (va_A (zWs E ad G X) H.size))
    (k : ∀ (v : List zV) (G' : zG) (X' : zX), Q v G' X' → zsz G' = LC → ztt G' = LS → zAt E nL (pc + 3) ls (v ++ rs) G' X') : zW E H locs G (F0 (em E) pc lsr st0) := by
  intro T hT Xs
  obtain ⟨v, st₀, t, T', L, h0, X', hLf, e1, e2, ⟨⟨w, G', X2, ad', hv, hw1, hQ, hsz, htt, hag, hP1, hD1, hok1, hPx1, hok2⟩, hz, hk⟩, st⟩ := hr T hT Xs
  rw [h0] at hz hk
  obtain ⟨hadd, g2, g3, g4, g5, hP, hD, hSv, hok, hPx⟩ := hH
  have hAB : ∀ q, va_A (zWs E ad G X) H.size q → eA E q := by
    intro q hq
    rcases hq with ⟨i, e, hi⟩ | hq
    · exact hD.2 i (q, e) hi
    · exact hc.2.2.2.2.2.2.2.2.1 q (Nat.le_trans hSv.1 hq)
  have hS1 : va_S (eA E) (es E).heap T'.heap (locs ++ L) := ⟨Nat.le_trans hSv.1 (by rw [e1]; exact hz), fun q q1 q2 => by
      rw [e1, hk q (Nat.lt_of_lt_of_le q1 hSv.1) (fun z => q2 (hAB q z))]
      exact hSv.2.1 q q1 q2, fun q hq => by
      rcases List.mem_append.mp hq with h | h
      · exact hSv.2.2 q h
      · exact hAB _ (hLf q h)⟩
  have hH1 : zHp E ad' G' X2 T'.heap (locs ++ L) := ⟨fun q hq => (hag q (by omega)).trans (hadd q hq), by omega, by omega, by omega, by omega, by rw [e1]; exact hP1, hD1.weaken (fun _ q _ h => hAB q.1 h), hS1, hok1, hPx1⟩
  have hst : ∀ u ∈ w ++ rs, zok (zsz G') u := fun u hu => by
    rcases List.mem_append.mp hu with h | h
    · exact hok2 u h
    · exact zok_le (hS u h) (by omega)
  have hh := k w G' X2 hQ hsz htt ad' T'.heap (locs ++ L) lsr hH1 (zLc_ad hL (by omega) hag) hst
  unfold zW at hh
  rw [show zsz G' - esz E = zsz G - esz E + (LC - zsz G) by omega, show ztt G' - ett E = ztt G - ett E + (LS - ztt G) by omega] at hh
  obtain ⟨t2, a1, b1⟩ := hh T' rfl X'
  refine ⟨t2, st t2 ?_, b1⟩
  have ev : v = (w.map (zv ad')).head? := by cases hv; rfl
  have es' : (w ++ rs).map (zv ad') = v.toList ++ rs.map (zv ad) := by
    rw [List.map_append, zst_ad hS hag, ev]
    congr 1
    rcases w with _ | ⟨x, _ | ⟨x2, w⟩⟩
    · rfl
    · rfl
    · simp at hw1
  rw [es'] at a1
  exact a1
/-- enough on the stack, and not too much below -/
abbrev zck (n : Nat) (st : List zV) : Prop := n ≤ st.length ∧ ((st.drop n).map zcat).sum ≤ 8 ∧ (st.take n).all z1 = true
def zrc (c : Int) (G : zG) : List zV → Prop
  | .inr (.inl b) :: _ => zkd G b = c
  | _ => False
/-- a call that makes no cell -/
def o_call (C : zCp) (n : Nat) (K : zK) : zK := fun ls st G X => zck n st ∧ C (st.take n).reverse G X (fun v X' => K ls (v ++ st.drop n) G X')
def o_callV (c : Int) (C : zCp) (n : Nat) (K : zK) : zK := fun ls st G X => zck n st ∧ zrc c G (st.take n).reverse ∧ C (st.take n).reverse G X (fun v X' => K ls (v ++ st.drop n) G X')
/-- a call that may make cells -/
def o_callA (LC LS : Nat) (C : zCo) (n : Nat) (K : zK) : zK := fun ls st G X => zck n st ∧ ∃ LC' LS' : Nat, zsz G ≤ LC' ∧ ztt G ≤ LS' ∧ LC' ≤ LC ∧ LS' ≤ LS ∧ C LC' LS' (st.take n).reverse G X (fun v G' X' => zsz G' = LC' ∧ ztt G' = LS' ∧ K ls (v ++ st.drop n) G' X')
def o_callAV (LC LS : Nat) (c : Int) (C : zCo) (n : Nat) (K : zK) : zK := fun ls st G X => zck n st ∧ zrc c G (st.take n).reverse ∧ ∃ LC' LS' : Nat, zsz G ≤ LC' ∧ ztt G ≤ LS' ∧ LC' ≤ LC ∧ LS' ≤ LS ∧ C LC' LS' (st.take n).reverse G X (fun v G' X' => zsz G' = LC' ∧ ztt G' = LS' ∧ K ls (v ++ st.drop n) G' X')
theorem z_split {ad : Int → Nat} {st : List zV} {n : Nat} : st.map (zv ad) = ((st.take n).reverse.map (zv ad)).reverse ++ (st.drop n).map (zv ad) := by
  rw [← List.map_reverse, List.reverse_reverse, ← List.map_append, List.take_append_drop]
theorem z_rsum {ad : Int → Nat} {st : List zV} (h : (st.map zcat).sum ≤ 8) : ((st.map (zv ad)).map fun v => v.category).sum ≤ 8 := by rw [zcat_sum]; exact h
theorem z_callS {E : zE} {cc : ByteArray} {own : String} {nL fr lo pc : Nat} {y : MethodName} {bytes : ByteArray} {maxL n index fr2 lo2 : Nat} {ret : Option FieldType} {C : zCp} {K : zK} (hc : zCx E cc own nL fr lo) (hx : zXt (ead E) (eA E) (es E)) (hmono : ∀ (vs : List zV) (G : zG) (X : zX) (Q Q2 : List zV → zX → Prop), (∀ v X2, Q v X2 → Q2 v X2) → C vs G X Q → C vs G X Q2) (hC : zSnd y bytes maxL ret fr2 lo2 (zUp C)) (hl : Cond.methodLink own index y ∈ zTb) (hst : Cond.static y ∈ zTb) (hini : Cond.initialized y.cls ∈ zTb) (hcode : Cond.code y bytes maxL ret ∈ zTb) (hd0 : y.cls ≠ "java/lang/invoke/MethodHandle" ∧ y.cls ≠ "java/lang/invoke/VarHandle" ∧ (parseMethodDescriptor y.desc).map (fun d => d.parameters.length) = some n) (hnm : n ≤ maxL) (hR : fr2 + 1 ≤ fr ∧ 8 + (maxL + 11) + lo2 ≤ lo) (hd : decode cc pc = .ok (.invokestatic index, 3)) (k : ∀ (ls st : List zV) (G : zG) (X : zX), K ls st G X → zAt E nL (pc + 3) ls st G X) : ∀ (ls st : List zV) (G : zG) (X : zX), o_call C n K ls st G X → zAt E nL pc ls st G X := by
  intro ls st G X h ad H locs lsr hH hL hS
  unfold o_call at h
  obtain ⟨hck, h⟩ := h
  obtain ⟨LC1, e1⟩ : ∃ LC1, LC1 = zsz G := ⟨_, rfl⟩
  obtain ⟨LS1, e2⟩ : ∃ LS1, LS1 = ztt G := ⟨_, rfl⟩
  have b1 : zsz G ≤ LC1 := by omega
  have b2 : ztt G ≤ LS1 := by omega
  have g4 := hH.2.2.2.1
  have g5 := hH.2.2.2.2.1
  have g2 := hH.2.1
  have g3 := hH.2.2.1
  have hok := hH.2.2.2.2.2.2.2.2.1
  have hva : ∀ v ∈ (st.take n).reverse, zok (zsz G) v ∧ z1 v = true := fun v hv => ⟨hS v (List.mem_of_mem_take (List.mem_reverse.mp hv)), List.all_eq_true.mp hck.2.2 v (List.mem_reverse.mp hv)⟩
  have hlen : (st.take n).reverse.length = n := by rw [List.length_reverse, List.length_take]; exact Nat.min_eq_left hck.1
  have hM := hC (el E) (eV E) ad H.size LC1 LS1 _ G X (fun v G2 X2 => K ls (v ++ st.drop n) G2 X2) (by rw [hlen]; exact hnm) hva hok b1 b2 ⟨e1, e2, hmono _ _ _ _ _ (fun v X2 hK => ⟨e1.symm, e2.symm, hK⟩) h⟩
  have hcs : CallFix (ep E) (em E) (ec E) cc nL (es E) (ea E) zTb own := ⟨hc.1, hc.2.1, hc.2.2.1, hc.2.2.2.1, hc.2.2.2.2.1⟩
  have hgood : GoodIn zTb (Cond.code y bytes maxL ret :: zTb) := zTb_good (fun w hw => (List.mem_cons.mp hw).elim (fun e => by rw [e]; exact hcode) id)
  have hRR : fr2 + 1 ≤ (eR E).frames ∧ 8 + (maxL + 11) + lo2 ≤ (eR E).locals := by rw [hc.2.2.2.2.2.1, hc.2.2.2.2.2.2.1]; exact hR
  have hsz1 : lsr.size = nL := hL.1
  have hrun := va_runS (H := H) (locs := locs) (cells := zsz G - esz E) (slots := ztt G - ett E) (below := eb E) (meth := eh E) (e := ee E) (As := ((st.take n).reverse.map (zv ad))) (rest := (st.drop n).map (zv ad)) (g := F0 (em E) pc lsr (st.map (zv ad))) hcs hM (va_cwS n hc.2.2.2.2.1 (zTb_good (fun w hw => by
      rcases List.mem_append.mp hw with hw | hw
      · rcases List.mem_cons.mp hw with e | hw
        · rw [e]; exact hl
        · rcases List.mem_cons.mp hw with e | hw
          · rw [e]; exact hst
          · rcases List.mem_cons.mp hw with e | hw
            · rw [e]; exact hini
            · cases hw
      · exact (List.mem_cons.mp hw).elim (fun e => by rw [e]; exact hcode) id)) rfl rfl rfl hd0 hRR) ⟨zPc_blind, zPc_call hc hx hH⟩ rfl (by rw [List.length_map]; exact hlen) hsz1 z_split (lv_room (z_rsum hck.2.1)) hd ⟨by omega, by omega⟩
  exact z_back hc hH hL (fun v hv => hS v (List.mem_of_mem_drop hv)) b1 b2 (by omega) (by omega) hrun (fun v G2 X2 hK _ _ => k _ _ _ _ hK.2)
theorem z_callSN {E : zE} {cc : ByteArray} {own : String} {nL fr lo pc : Nat} {host : String} {y : MethodName} {bytes : ByteArray} {maxL n index fr2 lo2 : Nat} {ret : Option FieldType} {C : zCp} {K : zK} (hc : zCx E cc own nL fr lo) (hx : zXt (ead E) (eA E) (es E)) (hmono : ∀ (vs : List zV) (G : zG) (X : zX) (Q Q2 : List zV → zX → Prop), (∀ v X2, Q v X2 → Q2 v X2) → C vs G X Q → C vs G X Q2) (hC : zSnd y bytes maxL ret fr2 lo2 (zUp C)) (hl : (own, index, y, host) ∈ zNs) (hst : Cond.static y ∈ zTb) (hini : Cond.initialized y.cls ∈ zTb) (hcode : Cond.code y bytes maxL ret ∈ zTb) (hd0 : y.cls ≠ "java/lang/invoke/MethodHandle" ∧ y.cls ≠ "java/lang/invoke/VarHandle" ∧ (parseMethodDescriptor y.desc).map (fun d => d.parameters.length) = some n) (hnm : n ≤ maxL) (hR : fr2 + 1 ≤ fr ∧ 8 + (maxL + 11) + lo2 ≤ lo) (hd : decode cc pc = .ok (.invokestatic index, 3)) (k : ∀ (ls st : List zV) (G : zG) (X : zX), K ls st G X → zAt E nL (pc + 3) ls st G X) : ∀ (ls st : List zV) (G : zG) (X : zX), o_call C n K ls st G X → zAt E nL pc ls st G X := by
  intro ls st G X h ad H locs lsr hH hL hS
  unfold o_call at h
  obtain ⟨hck, h⟩ := h
  obtain ⟨LC1, e1⟩ : ∃ LC1, LC1 = zsz G := ⟨_, rfl⟩
  obtain ⟨LS1, e2⟩ : ∃ LS1, LS1 = ztt G := ⟨_, rfl⟩
  have b1 : zsz G ≤ LC1 := by omega
  have b2 : ztt G ≤ LS1 := by omega
  have g4 := hH.2.2.2.1
  have g5 := hH.2.2.2.2.1
  have g2 := hH.2.1
  have g3 := hH.2.2.1
  have hok := hH.2.2.2.2.2.2.2.2.1
  have hva : ∀ v ∈ (st.take n).reverse, zok (zsz G) v ∧ z1 v = true := fun v hv => ⟨hS v (List.mem_of_mem_take (List.mem_reverse.mp hv)), List.all_eq_true.mp hck.2.2 v (List.mem_reverse.mp hv)⟩
  have hlen : (st.take n).reverse.length = n := by rw [List.length_reverse, List.length_take]; exact Nat.min_eq_left hck.1
  have hM := hC (el E) (eV E) ad H.size LC1 LS1 _ G X (fun v G2 X2 => K ls (v ++ st.drop n) G2 X2) (by rw [hlen]; exact hnm) hva hok b1 b2 ⟨e1, e2, hmono _ _ _ _ _ (fun v X2 hK => ⟨e1.symm, e2.symm, hK⟩) h⟩
  have hcs : CallFix (ep E) (em E) (ec E) cc nL (es E) (ea E) zTb own := ⟨hc.1, hc.2.1, hc.2.2.1, hc.2.2.2.1, hc.2.2.2.2.1⟩
  have hgood : GoodIn zTb (Cond.code y bytes maxL ret :: zTb) := zTb_good (fun w hw => (List.mem_cons.mp hw).elim (fun e => by rw [e]; exact hcode) id)
  have hRR : fr2 + 1 ≤ (eR E).frames ∧ 8 + (maxL + 11) + lo2 ≤ (eR E).locals := by rw [hc.2.2.2.2.2.1, hc.2.2.2.2.2.2.1]; exact hR
  have hsz1 : lsr.size = nL := hL.1
  have hrun := va_runSN (H := H) (locs := locs) (cells := zsz G - esz E) (slots := ztt G - ett E) (below := eb E) (meth := eh E) (e := ee E) (As := ((st.take n).reverse.map (zv ad))) (rest := (st.drop n).map (zv ad)) (g := F0 (em E) pc lsr (st.map (zv ad))) hcs hM (⟨va_cnB (host := host) n hc.2.2.2.2.1 hgood rfl rfl rfl (hx.2.2.2.2.1 (own, index, y, host) hl) (hc.2.2.2.2.1 _ hini) hd0 hRR, hc.2.2.2.2.1 _ hst, trivial⟩) ⟨zPc_blind, zPc_call hc hx hH⟩ rfl (by rw [List.length_map]; exact hlen) hsz1 z_split (lv_room (z_rsum hck.2.1)) hd ⟨by omega, by omega⟩
  exact z_back hc hH hL (fun v hv => hS v (List.mem_of_mem_drop hv)) b1 b2 (by omega) (by omega) hrun (fun v G2 X2 hK _ _ => k _ _ _ _ hK.2)
theorem z_callSA {E : zE} {cc : ByteArray} {own : String} {nL fr lo pc : Nat} {LC LS : Nat} {y : MethodName} {bytes : ByteArray} {maxL n index fr2 lo2 : Nat} {ret : Option FieldType} {C : zCo} {K : zK} (hc : zCx E cc own nL fr lo) (hx : zXt (ead E) (eA E) (es E)) (hC : zSnd y bytes maxL ret fr2 lo2 C) (hl : Cond.methodLink own index y ∈ zTb) (hLC : LC - esz E ≤ (eR E).cells) (hLS : LS - ett E ≤ (eR E).slots) (hst : Cond.static y ∈ zTb) (hini : Cond.initialized y.cls ∈ zTb) (hcode : Cond.code y bytes maxL ret ∈ zTb) (hd0 : y.cls ≠ "java/lang/invoke/MethodHandle" ∧ y.cls ≠ "java/lang/invoke/VarHandle" ∧ (parseMethodDescriptor y.desc).map (fun d => d.parameters.length) = some n) (hnm : n ≤ maxL) (hR : fr2 + 1 ≤ fr ∧ 8 + (maxL + 11) + lo2 ≤ lo) (hd : decode cc pc = .ok (.invokestatic index, 3)) (k : ∀ (ls st : List zV) (G : zG) (X : zX), K ls st G X → zAt E nL (pc + 3) ls st G X) : ∀ (ls st : List zV) (G : zG) (X : zX), o_callA LC LS C n K ls st G X → zAt E nL pc ls st G X := by
  intro ls st G X h ad H locs lsr hH hL hS
  unfold o_callA at h
  obtain ⟨hck, LC1, LS1, b1, b2, b3, b4, h⟩ := h
  have g2 := hH.2.1
  have g3 := hH.2.2.1
  have hok := hH.2.2.2.2.2.2.2.2.1
  have hva : ∀ v ∈ (st.take n).reverse, zok (zsz G) v ∧ z1 v = true := fun v hv => ⟨hS v (List.mem_of_mem_take (List.mem_reverse.mp hv)), List.all_eq_true.mp hck.2.2 v (List.mem_reverse.mp hv)⟩
  have hlen : (st.take n).reverse.length = n := by rw [List.length_reverse, List.length_take]; exact Nat.min_eq_left hck.1
  have hM := hC (el E) (eV E) ad H.size LC1 LS1 _ G X (fun v G2 X2 => K ls (v ++ st.drop n) G2 X2) (by rw [hlen]; exact hnm) hva hok b1 b2 h
  have hcs : CallFix (ep E) (em E) (ec E) cc nL (es E) (ea E) zTb own := ⟨hc.1, hc.2.1, hc.2.2.1, hc.2.2.2.1, hc.2.2.2.2.1⟩
  have hgood : GoodIn zTb (Cond.code y bytes maxL ret :: zTb) := zTb_good (fun w hw => (List.mem_cons.mp hw).elim (fun e => by rw [e]; exact hcode) id)
  have hRR : fr2 + 1 ≤ (eR E).frames ∧ 8 + (maxL + 11) + lo2 ≤ (eR E).locals := by rw [hc.2.2.2.2.2.1, hc.2.2.2.2.2.2.1]; exact hR
  have hsz1 : lsr.size = nL := hL.1
  have hrun := va_runS (H := H) (locs := locs) (cells := zsz G - esz E) (slots := ztt G - ett E) (below := eb E) (meth := eh E) (e := ee E) (As := ((st.take n).reverse.map (zv ad))) (rest := (st.drop n).map (zv ad)) (g := F0 (em E) pc lsr (st.map (zv ad))) hcs hM (va_cwS n hc.2.2.2.2.1 (zTb_good (fun w hw => by
      rcases List.mem_append.mp hw with hw | hw
      · rcases List.mem_cons.mp hw with e | hw
        · rw [e]; exact hl
        · rcases List.mem_cons.mp hw with e | hw
          · rw [e]; exact hst
          · rcases List.mem_cons.mp hw with e | hw
            · rw [e]; exact hini
            · cases hw
      · exact (List.mem_cons.mp hw).elim (fun e => by rw [e]; exact hcode) id)) rfl rfl rfl hd0 hRR) ⟨zPc_blind, zPc_call hc hx hH⟩ rfl (by rw [List.length_map]; exact hlen) hsz1 z_split (lv_room (z_rsum hck.2.1)) hd ⟨by omega, by omega⟩
  exact z_back hc hH hL (fun v hv => hS v (List.mem_of_mem_drop hv)) b1 b2 (by omega) (by omega) hrun (fun v G2 X2 hK _ _ => k _ _ _ _ hK.2)
theorem z_callSAN {E : zE} {cc : ByteArray} {own : String} {nL fr lo pc : Nat} {LC LS : Nat} {host : String} {y : MethodName} {bytes : ByteArray} {maxL n index fr2 lo2 : Nat} {ret : Option FieldType} {C : zCo} {K : zK} (hc : zCx E cc own nL fr lo) (hx : zXt (ead E) (eA E) (es E)) (hC : zSnd y bytes maxL ret fr2 lo2 C) (hl : (own, index, y, host) ∈ zNs) (hLC : LC - esz E ≤ (eR E).cells) (hLS : LS - ett E ≤ (eR E).slots) (hst : Cond.static y ∈ zTb) (hini : Cond.initialized y.cls ∈ zTb) (hcode : Cond.code y bytes maxL ret ∈ zTb) (hd0 : y.cls ≠ "java/lang/invoke/MethodHandle" ∧ y.cls ≠ "java/lang/invoke/VarHandle" ∧ (parseMethodDescriptor y.desc).map (fun d => d.parameters.length) = some n) (hnm : n ≤ maxL) (hR : fr2 + 1 ≤ fr ∧ 8 + (maxL + 11) + lo2 ≤ lo) (hd : decode cc pc = .ok (.invokestatic index, 3)) (k : ∀ (ls st : List zV) (G : zG) (X : zX), K ls st G X → zAt E nL (pc + 3) ls st G X) : ∀ (ls st : List zV) (G : zG) (X : zX), o_callA LC LS C n K ls st G X → zAt E nL pc ls st G X := by
  intro ls st G X h ad H locs lsr hH hL hS
  unfold o_callA at h
  obtain ⟨hck, LC1, LS1, b1, b2, b3, b4, h⟩ := h
  have g2 := hH.2.1
  have g3 := hH.2.2.1
  have hok := hH.2.2.2.2.2.2.2.2.1
  have hva : ∀ v ∈ (st.take n).reverse, zok (zsz G) v ∧ z1 v = true := fun v hv => ⟨hS v (List.mem_of_mem_take (List.mem_reverse.mp hv)), List.all_eq_true.mp hck.2.2 v (List.mem_reverse.mp hv)⟩
  have hlen : (st.take n).reverse.length = n := by rw [List.length_reverse, List.length_take]; exact Nat.min_eq_left hck.1
  have hM := hC (el E) (eV E) ad H.size LC1 LS1 _ G X (fun v G2 X2 => K ls (v ++ st.drop n) G2 X2) (by rw [hlen]; exact hnm) hva hok b1 b2 h
  have hcs : CallFix (ep E) (em E) (ec E) cc nL (es E) (ea E) zTb own := ⟨hc.1, hc.2.1, hc.2.2.1, hc.2.2.2.1, hc.2.2.2.2.1⟩
  have hgood : GoodIn zTb (Cond.code y bytes maxL ret :: zTb) := zTb_good (fun w hw => (List.mem_cons.mp hw).elim (fun e => by rw [e]; exact hcode) id)
  have hRR : fr2 + 1 ≤ (eR E).frames ∧ 8 + (maxL + 11) + lo2 ≤ (eR E).locals := by rw [hc.2.2.2.2.2.1, hc.2.2.2.2.2.2.1]; exact hR
  have hsz1 : lsr.size = nL := hL.1
  have hrun := va_runSN (H := H) (locs := locs) (cells := zsz G - esz E) (slots := ztt G - ett E) (below := eb E) (meth := eh E) (e := ee E) (As := ((st.take n).reverse.map (zv ad))) (rest := (st.drop n).map (zv ad)) (g := F0 (em E) pc lsr (st.map (zv ad))) hcs hM (⟨va_cnB (host := host) n hc.2.2.2.2.1 hgood rfl rfl rfl (hx.2.2.2.2.1 (own, index, y, host) hl) (hc.2.2.2.2.1 _ hini) hd0 hRR, hc.2.2.2.2.1 _ hst, trivial⟩) ⟨zPc_blind, zPc_call hc hx hH⟩ rfl (by rw [List.length_map]; exact hlen) hsz1 z_split (lv_room (z_rsum hck.2.1)) hd ⟨by omega, by omega⟩
  exact z_back hc hH hL (fun v hv => hS v (List.mem_of_mem_drop hv)) b1 b2 (by omega) (by omega) hrun (fun v G2 X2 hK _ _ => k _ _ _ _ hK.2)
theorem z_callV {E : zE} {cc : ByteArray} {own : String} {nL fr lo pc : Nat} {c : Int} {c0 : Nat} {y : MethodName} {bytes : ByteArray} {maxL n index fr2 lo2 : Nat} {ret : Option FieldType} {C : zCp} {K : zK} (hc : zCx E cc own nL fr lo) (hx : zXt (ead E) (eA E) (es E)) (hmono : ∀ (vs : List zV) (G : zG) (X : zX) (Q Q2 : List zV → zX → Prop), (∀ v X2, Q v X2 → Q2 v X2) → C vs G X Q → C vs G X Q2) (hC : zSnd y bytes maxL ret fr2 lo2 (zUp C)) (hl : Cond.methodLink own index y ∈ zTb) (hin : Cond.instanceMethod y ∈ zTb) (hini : Cond.initialized y.cls ∈ zTb) (hsel : Cond.selects y.cls y y ∈ zTb) (hcl : ∃ T N, zcl[c0]? = some (y.cls, T, N)) (ekc : c = (c0 : Int)) (hc5 : c0 < 50) (hcode : Cond.code y bytes maxL ret ∈ zTb) (hd0 : y.cls ≠ "java/lang/invoke/MethodHandle" ∧ y.cls ≠ "java/lang/invoke/VarHandle" ∧ (parseMethodDescriptor y.desc).map (fun d => d.parameters.length) = some (n - 1)) (hn0 : n ≠ 0) (hnm : n ≤ maxL) (hR : fr2 + 1 ≤ fr ∧ 8 + (maxL + 11) + lo2 ≤ lo) (hd : decode cc pc = .ok (.invokevirtual index, 3)) (k : ∀ (ls st : List zV) (G : zG) (X : zX), K ls st G X → zAt E nL (pc + 3) ls st G X) : ∀ (ls st : List zV) (G : zG) (X : zX), o_callV c C n K ls st G X → zAt E nL pc ls st G X := by
  intro ls st G X h ad H locs lsr hH hL hS
  unfold o_callV at h
  obtain ⟨hck, hrc, h⟩ := h
  obtain ⟨LC1, e1⟩ : ∃ LC1, LC1 = zsz G := ⟨_, rfl⟩
  obtain ⟨LS1, e2⟩ : ∃ LS1, LS1 = ztt G := ⟨_, rfl⟩
  have b1 : zsz G ≤ LC1 := by omega
  have b2 : ztt G ≤ LS1 := by omega
  have g4 := hH.2.2.2.1
  have g5 := hH.2.2.2.2.1
  have g2 := hH.2.1
  have g3 := hH.2.2.1
  have hok := hH.2.2.2.2.2.2.2.2.1
  have hva : ∀ v ∈ (st.take n).reverse, zok (zsz G) v ∧ z1 v = true := fun v hv => ⟨hS v (List.mem_of_mem_take (List.mem_reverse.mp hv)), List.all_eq_true.mp hck.2.2 v (List.mem_reverse.mp hv)⟩
  have hlen : (st.take n).reverse.length = n := by rw [List.length_reverse, List.length_take]; exact Nat.min_eq_left hck.1
  have hM := hC (el E) (eV E) ad H.size LC1 LS1 _ G X (fun v G2 X2 => K ls (v ++ st.drop n) G2 X2) (by rw [hlen]; exact hnm) hva hok b1 b2 ⟨e1, e2, hmono _ _ _ _ _ (fun v X2 hK => ⟨e1.symm, e2.symm, hK⟩) h⟩
  have hcs : CallFix (ep E) (em E) (ec E) cc nL (es E) (ea E) zTb own := ⟨hc.1, hc.2.1, hc.2.2.1, hc.2.2.2.1, hc.2.2.2.2.1⟩
  have hgood : GoodIn zTb (Cond.code y bytes maxL ret :: zTb) := zTb_good (fun w hw => (List.mem_cons.mp hw).elim (fun e => by rw [e]; exact hcode) id)
  have hRR : fr2 + 1 ≤ (eR E).frames ∧ 8 + (maxL + 11) + lo2 ≤ (eR E).locals := by rw [hc.2.2.2.2.2.1, hc.2.2.2.2.2.2.1]; exact hR
  have hsz1 : lsr.size = nL := hL.1
  obtain ⟨b, as, hba⟩ : ∃ b as, (st.take n).reverse = zR b :: as ∧ zkd G b = c := by
    generalize (st.take n).reverse = aa at hrc
    rcases aa with _ | ⟨x | b | x | x, as⟩
    · exact hrc.elim
    · exact hrc.elim
    · exact ⟨b, as, rfl, hrc⟩
    · exact hrc.elim
    · exact hrc.elim
  obtain ⟨hba, hkb⟩ := hba
  rw [hba] at hlen
  have hb1 : b ≠ -1 := fun z => by
    subst z
    have := hok.2.2.2.2.1 (-1) (by omega)
    omega
  have e9 : zv ad (zR b) = .ref (ad b) := if_neg hb1
  have hlas : (as.map (zv ad)).length = n - 1 := by rw [List.length_map]; rw [List.length_cons] at hlen; omega
  have hstk : st.map (zv ad) = (as.map (zv ad)).reverse ++ .ref (ad b) :: (st.drop n).map (zv ad) := by
    rw [z_split (n := n), hba, List.map_cons, List.reverse_cons, e9, List.append_assoc]
    rfl
  have hpc : ∀ U : State, U.heap = H → (es E).WarmedH U.vm → zPc (eV E) ad H.size (st.take n).reverse G X (Value.ref (ad b) :: as.map (zv ad)).toArray U := fun U h1 h2 => by
    have := zPc_call (vs := (st.take n).reverse) hc hx hH U h1 h2
    rw [hba, List.map_cons, e9] at this
    rw [hba]
    exact this
  subst ekc
  obtain ⟨Tb, Nb, hcl⟩ := hcl
  have hrv := zRecv hc hH hkb hc5 hcl
  have hrun := va_runV (H := H) (locs := locs) (cells := zsz G - esz E) (slots := ztt G - ett E) (below := eb E) (meth := eh E) (e := ee E) (b := ad b) (As := as.map (zv ad)) (rest := (st.drop n).map (zv ad)) (g := F0 (em E) pc lsr (st.map (zv ad))) hcs hM (cwV (n - 1) hc.2.2.2.2.1 (zTb_good (fun w hw => by
      rcases List.mem_append.mp hw with hw | hw
      · rcases List.mem_cons.mp hw with e | hw
        · rw [e]; exact hl
        · rcases List.mem_cons.mp hw with e | hw
          · rw [e]; exact hin
          · rcases List.mem_cons.mp hw with e | hw
            · rw [e]; exact hsel
            · rcases List.mem_cons.mp hw with e | hw
              · rw [e]; exact hini
              · cases hw
      · exact (List.mem_cons.mp hw).elim (fun e => by rw [e]; exact hcode) id)) rfl rfl rfl ⟨rfl, hd0⟩ hRR) ⟨zPc_blind, hrv, hpc⟩ rfl hlas hsz1 hstk (lv_room (z_rsum hck.2.1)) hd ⟨by omega, by omega⟩
  exact z_back hc hH hL (fun v hv => hS v (List.mem_of_mem_drop hv)) b1 b2 (by omega) (by omega) hrun (fun v G2 X2 hK _ _ => k _ _ _ _ hK.2)
theorem z_callVN {E : zE} {cc : ByteArray} {own : String} {nL fr lo pc : Nat} {c : Int} {c0 : Nat} {host : String} {y : MethodName} {bytes : ByteArray} {maxL n index fr2 lo2 : Nat} {ret : Option FieldType} {C : zCp} {K : zK} (hc : zCx E cc own nL fr lo) (hx : zXt (ead E) (eA E) (es E)) (hmono : ∀ (vs : List zV) (G : zG) (X : zX) (Q Q2 : List zV → zX → Prop), (∀ v X2, Q v X2 → Q2 v X2) → C vs G X Q → C vs G X Q2) (hC : zSnd y bytes maxL ret fr2 lo2 (zUp C)) (hl : (own, index, y, host) ∈ zNs) (hin : Cond.instanceMethod y ∈ zTb) (hini : Cond.initialized y.cls ∈ zTb) (hsel : Cond.selects y.cls y y ∈ zTb) (hcl : ∃ T N, zcl[c0]? = some (y.cls, T, N)) (ekc : c = (c0 : Int)) (hc5 : c0 < 50) (hcode : Cond.code y bytes maxL ret ∈ zTb) (hd0 : y.cls ≠ "java/lang/invoke/MethodHandle" ∧ y.cls ≠ "java/lang/invoke/VarHandle" ∧ (parseMethodDescriptor y.desc).map (fun d => d.parameters.length) = some (n - 1)) (hn0 : n ≠ 0) (hnm : n ≤ maxL) (hR : fr2 + 1 ≤ fr ∧ 8 + (maxL + 11) + lo2 ≤ lo) (hd : decode cc pc = .ok (.invokevirtual index, 3)) (k : ∀ (ls st : List zV) (G : zG) (X : zX), K ls st G X → zAt E nL (pc + 3) ls st G X) : ∀ (ls st : List zV) (G : zG) (X : zX), o_callV c C n K ls st G X → zAt E nL pc ls st G X := by
  intro ls st G X h ad H locs lsr hH hL hS
  unfold o_callV at h
  obtain ⟨hck, hrc, h⟩ := h
  obtain ⟨LC1, e1⟩ : ∃ LC1, LC1 = zsz G := ⟨_, rfl⟩
  obtain ⟨LS1, e2⟩ : ∃ LS1, LS1 = ztt G := ⟨_, rfl⟩
  have b1 : zsz G ≤ LC1 := by omega
  have b2 : ztt G ≤ LS1 := by omega
  have g4 := hH.2.2.2.1
  have g5 := hH.2.2.2.2.1
  have g2 := hH.2.1
  have g3 := hH.2.2.1
  have hok := hH.2.2.2.2.2.2.2.2.1
  have hva : ∀ v ∈ (st.take n).reverse, zok (zsz G) v ∧ z1 v = true := fun v hv => ⟨hS v (List.mem_of_mem_take (List.mem_reverse.mp hv)), List.all_eq_true.mp hck.2.2 v (List.mem_reverse.mp hv)⟩
  have hlen : (st.take n).reverse.length = n := by rw [List.length_reverse, List.length_take]; exact Nat.min_eq_left hck.1
  have hM := hC (el E) (eV E) ad H.size LC1 LS1 _ G X (fun v G2 X2 => K ls (v ++ st.drop n) G2 X2) (by rw [hlen]; exact hnm) hva hok b1 b2 ⟨e1, e2, hmono _ _ _ _ _ (fun v X2 hK => ⟨e1.symm, e2.symm, hK⟩) h⟩
  have hcs : CallFix (ep E) (em E) (ec E) cc nL (es E) (ea E) zTb own := ⟨hc.1, hc.2.1, hc.2.2.1, hc.2.2.2.1, hc.2.2.2.2.1⟩
  have hgood : GoodIn zTb (Cond.code y bytes maxL ret :: zTb) := zTb_good (fun w hw => (List.mem_cons.mp hw).elim (fun e => by rw [e]; exact hcode) id)
  have hRR : fr2 + 1 ≤ (eR E).frames ∧ 8 + (maxL + 11) + lo2 ≤ (eR E).locals := by rw [hc.2.2.2.2.2.1, hc.2.2.2.2.2.2.1]; exact hR
  have hsz1 : lsr.size = nL := hL.1
  obtain ⟨b, as, hba⟩ : ∃ b as, (st.take n).reverse = zR b :: as ∧ zkd G b = c := by
    generalize (st.take n).reverse = aa at hrc
    rcases aa with _ | ⟨x | b | x | x, as⟩
    · exact hrc.elim
    · exact hrc.elim
    · exact ⟨b, as, rfl, hrc⟩
    · exact hrc.elim
    · exact hrc.elim
  obtain ⟨hba, hkb⟩ := hba
  rw [hba] at hlen
  have hb1 : b ≠ -1 := fun z => by
    subst z
    have := hok.2.2.2.2.1 (-1) (by omega)
    omega
  have e9 : zv ad (zR b) = .ref (ad b) := if_neg hb1
  have hlas : (as.map (zv ad)).length = n - 1 := by rw [List.length_map]; rw [List.length_cons] at hlen; omega
  have hstk : st.map (zv ad) = (as.map (zv ad)).reverse ++ .ref (ad b) :: (st.drop n).map (zv ad) := by
    rw [z_split (n := n), hba, List.map_cons, List.reverse_cons, e9, List.append_assoc]
    rfl
  have hpc : ∀ U : State, U.heap = H → (es E).WarmedH U.vm → zPc (eV E) ad H.size (st.take n).reverse G X (Value.ref (ad b) :: as.map (zv ad)).toArray U := fun U h1 h2 => by
    have := zPc_call (vs := (st.take n).reverse) hc hx hH U h1 h2
    rw [hba, List.map_cons, e9] at this
    rw [hba]
    exact this
  subst ekc
  obtain ⟨Tb, Nb, hcl⟩ := hcl
  have hrv := zRecv hc hH hkb hc5 hcl
  have hrun := va_runVN (H := H) (locs := locs) (cells := zsz G - esz E) (slots := ztt G - ett E) (below := eb E) (meth := eh E) (e := ee E) (b := ad b) (As := as.map (zv ad)) (rest := (st.drop n).map (zv ad)) (g := F0 (em E) pc lsr (st.map (zv ad))) hcs hM (⟨va_cnB (host := host) (n - 1) hc.2.2.2.2.1 hgood rfl rfl rfl (hx.2.2.2.2.1 (own, index, y, host) hl) (hc.2.2.2.2.1 _ hini) hd0 hRR, hc.2.2.2.2.1 _ hin, hc.2.2.2.2.1 _ hsel⟩) ⟨zPc_blind, hrv, hpc⟩ rfl hlas hsz1 hstk (lv_room (z_rsum hck.2.1)) hd ⟨by omega, by omega⟩
  exact z_back hc hH hL (fun v hv => hS v (List.mem_of_mem_drop hv)) b1 b2 (by omega) (by omega) hrun (fun v G2 X2 hK _ _ => k _ _ _ _ hK.2)
theorem z_callVA {E : zE} {cc : ByteArray} {own : String} {nL fr lo pc : Nat} {LC LS : Nat} {c : Int} {c0 : Nat} {y : MethodName} {bytes : ByteArray} {maxL n index fr2 lo2 : Nat} {ret : Option FieldType} {C : zCo} {K : zK} (hc : zCx E cc own nL fr lo) (hx : zXt (ead E) (eA E) (es E)) (hC : zSnd y bytes maxL ret fr2 lo2 C) (hl : Cond.methodLink own index y ∈ zTb) (hLC : LC - esz E ≤ (eR E).cells) (hLS : LS - ett E ≤ (eR E).slots) (hin : Cond.instanceMethod y ∈ zTb) (hini : Cond.initialized y.cls ∈ zTb) (hsel : Cond.selects y.cls y y ∈ zTb) (hcl : ∃ T N, zcl[c0]? = some (y.cls, T, N)) (ekc : c = (c0 : Int)) (hc5 : c0 < 50) (hcode : Cond.code y bytes maxL ret ∈ zTb) (hd0 : y.cls ≠ "java/lang/invoke/MethodHandle" ∧ y.cls ≠ "java/lang/invoke/VarHandle" ∧ (parseMethodDescriptor y.desc).map (fun d => d.parameters.length) = some (n - 1)) (hn0 : n ≠ 0) (hnm : n ≤ maxL) (hR : fr2 + 1 ≤ fr ∧ 8 + (maxL + 11) + lo2 ≤ lo) (hd : decode cc pc = .ok (.invokevirtual index, 3)) (k : ∀ (ls st : List zV) (G : zG) (X : zX), K ls st G X → zAt E nL (pc + 3) ls st G X) : ∀ (ls st : List zV) (G : zG) (X : zX), o_callAV LC LS c C n K ls st G X → zAt E nL pc ls st G X := by
  intro ls st G X h ad H locs lsr hH hL hS
  unfold o_callAV at h
  obtain ⟨hck, hrc, LC1, LS1, b1, b2, b3, b4, h⟩ := h
  have g2 := hH.2.1
  have g3 := hH.2.2.1
  have hok := hH.2.2.2.2.2.2.2.2.1
  have hva : ∀ v ∈ (st.take n).reverse, zok (zsz G) v ∧ z1 v = true := fun v hv => ⟨hS v (List.mem_of_mem_take (List.mem_reverse.mp hv)), List.all_eq_true.mp hck.2.2 v (List.mem_reverse.mp hv)⟩
  have hlen : (st.take n).reverse.length = n := by rw [List.length_reverse, List.length_take]; exact Nat.min_eq_left hck.1
  have hM := hC (el E) (eV E) ad H.size LC1 LS1 _ G X (fun v G2 X2 => K ls (v ++ st.drop n) G2 X2) (by rw [hlen]; exact hnm) hva hok b1 b2 h
  have hcs : CallFix (ep E) (em E) (ec E) cc nL (es E) (ea E) zTb own := ⟨hc.1, hc.2.1, hc.2.2.1, hc.2.2.2.1, hc.2.2.2.2.1⟩
  have hgood : GoodIn zTb (Cond.code y bytes maxL ret :: zTb) := zTb_good (fun w hw => (List.mem_cons.mp hw).elim (fun e => by rw [e]; exact hcode) id)
  have hRR : fr2 + 1 ≤ (eR E).frames ∧ 8 + (maxL + 11) + lo2 ≤ (eR E).locals := by rw [hc.2.2.2.2.2.1, hc.2.2.2.2.2.2.1]; exact hR
  have hsz1 : lsr.size = nL := hL.1
  obtain ⟨b, as, hba⟩ : ∃ b as, (st.take n).reverse = zR b :: as ∧ zkd G b = c := by
    generalize (st.take n).reverse = aa at hrc
    rcases aa with _ | ⟨x | b | x | x, as⟩
    · exact hrc.elim
    · exact hrc.elim
    · exact ⟨b, as, rfl, hrc⟩
    · exact hrc.elim
    · exact hrc.elim
  obtain ⟨hba, hkb⟩ := hba
  rw [hba] at hlen
  have hb1 : b ≠ -1 := fun z => by
    subst z
    have := hok.2.2.2.2.1 (-1) (by omega)
    omega
  have e9 : zv ad (zR b) = .ref (ad b) := if_neg hb1
  have hlas : (as.map (zv ad)).length = n - 1 := by rw [List.length_map]; rw [List.length_cons] at hlen; omega
  have hstk : st.map (zv ad) = (as.map (zv ad)).reverse ++ .ref (ad b) :: (st.drop n).map (zv ad) := by
    rw [z_split (n := n), hba, List.map_cons, List.reverse_cons, e9, List.append_assoc]
    rfl
  have hpc : ∀ U : State, U.heap = H → (es E).WarmedH U.vm → zPc (eV E) ad H.size (st.take n).reverse G X (Value.ref (ad b) :: as.map (zv ad)).toArray U := fun U h1 h2 => by
    have := zPc_call (vs := (st.take n).reverse) hc hx hH U h1 h2
    rw [hba, List.map_cons, e9] at this
    rw [hba]
    exact this
  subst ekc
  obtain ⟨Tb, Nb, hcl⟩ := hcl
  have hrv := zRecv hc hH hkb hc5 hcl
  have hrun := va_runV (H := H) (locs := locs) (cells := zsz G - esz E) (slots := ztt G - ett E) (below := eb E) (meth := eh E) (e := ee E) (b := ad b) (As := as.map (zv ad)) (rest := (st.drop n).map (zv ad)) (g := F0 (em E) pc lsr (st.map (zv ad))) hcs hM (cwV (n - 1) hc.2.2.2.2.1 (zTb_good (fun w hw => by
      rcases List.mem_append.mp hw with hw | hw
      · rcases List.mem_cons.mp hw with e | hw
        · rw [e]; exact hl
        · rcases List.mem_cons.mp hw with e | hw
          · rw [e]; exact hin
          · rcases List.mem_cons.mp hw with e | hw
            · rw [e]; exact hsel
            · rcases List.mem_cons.mp hw with e | hw
              · rw [e]; exact hini
              · cases hw
      · exact (List.mem_cons.mp hw).elim (fun e => by rw [e]; exact hcode) id)) rfl rfl rfl ⟨rfl, hd0⟩ hRR) ⟨zPc_blind, hrv, hpc⟩ rfl hlas hsz1 hstk (lv_room (z_rsum hck.2.1)) hd ⟨by omega, by omega⟩
  exact z_back hc hH hL (fun v hv => hS v (List.mem_of_mem_drop hv)) b1 b2 (by omega) (by omega) hrun (fun v G2 X2 hK _ _ => k _ _ _ _ hK.2)
theorem z_callVAN {E : zE} {cc : ByteArray} {own : String} {nL fr lo pc : Nat} {LC LS : Nat} {c : Int} {c0 : Nat} {host : String} {y : MethodName} {bytes : ByteArray} {maxL n index fr2 lo2 : Nat} {ret : Option FieldType} {C : zCo} {K : zK} (hc : zCx E cc own nL fr lo) (hx : zXt (ead E) (eA E) (es E)) (hC : zSnd y bytes maxL ret fr2 lo2 C) (hl : (own, index, y, host) ∈ zNs) (hLC : LC - esz E ≤ (eR E).cells) (hLS : LS - ett E ≤ (eR E).slots) (hin : Cond.instanceMethod y ∈ zTb) (hini : Cond.initialized y.cls ∈ zTb) (hsel : Cond.selects y.cls y y ∈ zTb) (hcl : ∃ T N, zcl[c0]? = some (y.cls, T, N)) (ekc : c = (c0 : Int)) (hc5 : c0 < 50) (hcode : Cond.code y bytes maxL ret ∈ zTb) (hd0 : y.cls ≠ "java/lang/invoke/MethodHandle" ∧ y.cls ≠ "java/lang/invoke/VarHandle" ∧ (parseMethodDescriptor y.desc).map (fun d => d.parameters.length) = some (n - 1)) (hn0 : n ≠ 0) (hnm : n ≤ maxL) (hR : fr2 + 1 ≤ fr ∧ 8 + (maxL + 11) + lo2 ≤ lo) (hd : decode cc pc = .ok (.invokevirtual index, 3)) (k : ∀ (ls st : List zV) (G : zG) (X : zX), K ls st G X → zAt E nL (pc + 3) ls st G X) : ∀ (ls st : List zV) (G : zG) (X : zX), o_callAV LC LS c C n K ls st G X → zAt E nL pc ls st G X := by
  intro ls st G X h ad H locs lsr hH hL hS
  unfold o_callAV at h
  obtain ⟨hck, hrc, LC1, LS1, b1, b2, b3, b4, h⟩ := h
  have g2 := hH.2.1
  have g3 := hH.2.2.1
  have hok := hH.2.2.2.2.2.2.2.2.1
  have hva : ∀ v ∈ (st.take n).reverse, zok (zsz G) v ∧ z1 v = true := fun v hv => ⟨hS v (List.mem_of_mem_take (List.mem_reverse.mp hv)), List.all_eq_true.mp hck.2.2 v (List.mem_reverse.mp hv)⟩
  have hlen : (st.take n).reverse.length = n := by rw [List.length_reverse, List.length_take]; exact Nat.min_eq_left hck.1
  have hM := hC (el E) (eV E) ad H.size LC1 LS1 _ G X (fun v G2 X2 => K ls (v ++ st.drop n) G2 X2) (by rw [hlen]; exact hnm) hva hok b1 b2 h
  have hcs : CallFix (ep E) (em E) (ec E) cc nL (es E) (ea E) zTb own := ⟨hc.1, hc.2.1, hc.2.2.1, hc.2.2.2.1, hc.2.2.2.2.1⟩
  have hgood : GoodIn zTb (Cond.code y bytes maxL ret :: zTb) := zTb_good (fun w hw => (List.mem_cons.mp hw).elim (fun e => by rw [e]; exact hcode) id)
  have hRR : fr2 + 1 ≤ (eR E).frames ∧ 8 + (maxL + 11) + lo2 ≤ (eR E).locals := by rw [hc.2.2.2.2.2.1, hc.2.2.2.2.2.2.1]; exact hR
  have hsz1 : lsr.size = nL := hL.1
  obtain ⟨b, as, hba⟩ : ∃ b as, (st.take n).reverse = zR b :: as ∧ zkd G b = c := by
    generalize (st.take n).reverse = aa at hrc
    rcases aa with _ | ⟨x | b | x | x, as⟩
    · exact hrc.elim
    · exact hrc.elim
    · exact ⟨b, as, rfl, hrc⟩
    · exact hrc.elim
    · exact hrc.elim
  obtain ⟨hba, hkb⟩ := hba
  rw [hba] at hlen
  have hb1 : b ≠ -1 := fun z => by
    subst z
    have := hok.2.2.2.2.1 (-1) (by omega)
    omega
  have e9 : zv ad (zR b) = .ref (ad b) := if_neg hb1
  have hlas : (as.map (zv ad)).length = n - 1 := by rw [List.length_map]; rw [List.length_cons] at hlen; omega
  have hstk : st.map (zv ad) = (as.map (zv ad)).reverse ++ .ref (ad b) :: (st.drop n).map (zv ad) := by
    rw [z_split (n := n), hba, List.map_cons, List.reverse_cons, e9, List.append_assoc]
    rfl
  have hpc : ∀ U : State, U.heap = H → (es E).WarmedH U.vm → zPc (eV E) ad H.size (st.take n).reverse G X (Value.ref (ad b) :: as.map (zv ad)).toArray U := fun U h1 h2 => by
    have := zPc_call (vs := (st.take n).reverse) hc hx hH U h1 h2
    rw [hba, List.map_cons, e9] at this
    rw [hba]
    exact this
  subst ekc
  obtain ⟨Tb, Nb, hcl⟩ := hcl
  have hrv := zRecv hc hH hkb hc5 hcl
  have hrun := va_runVN (H := H) (locs := locs) (cells := zsz G - esz E) (slots := ztt G - ett E) (below := eb E) (meth := eh E) (e := ee E) (b := ad b) (As := as.map (zv ad)) (rest := (st.drop n).map (zv ad)) (g := F0 (em E) pc lsr (st.map (zv ad))) hcs hM (⟨va_cnB (host := host) (n - 1) hc.2.2.2.2.1 hgood rfl rfl rfl (hx.2.2.2.2.1 (own, index, y, host) hl) (hc.2.2.2.2.1 _ hini) hd0 hRR, hc.2.2.2.2.1 _ hin, hc.2.2.2.2.1 _ hsel⟩) ⟨zPc_blind, hrv, hpc⟩ rfl hlas hsz1 hstk (lv_room (z_rsum hck.2.1)) hd ⟨by omega, by omega⟩
  exact z_back hc hH hL (fun v hv => hS v (List.mem_of_mem_drop hv)) b1 b2 (by omega) (by omega) hrun (fun v G2 X2 hK _ _ => k _ _ _ _ hK.2)
theorem z_callI {E : zE} {cc : ByteArray} {own : String} {nL fr lo pc : Nat} {c : Int} {c0 : Nat} {y : MethodName} {bytes : ByteArray} {maxL n index fr2 lo2 : Nat} {C : zCp} {K : zK} (hc : zCx E cc own nL fr lo) (hx : zXt (ead E) (eA E) (es E)) (hmono : ∀ (vs : List zV) (G : zG) (X : zX) (Q Q2 : List zV → zX → Prop), (∀ v X2, Q v X2 → Q2 v X2) → C vs G X Q → C vs G X Q2) (hC : zSnd y bytes maxL none fr2 lo2 (zUp C)) (hl : Cond.methodLink own index y ∈ zTb) (hin : Cond.instanceMethod y ∈ zTb) (hini : Cond.initialized y.cls ∈ zTb) (hname : y.name = "<init>") (ekc : c = (c0 : Int)) (hc5 : c0 < 50) (hcode : Cond.code y bytes maxL none ∈ zTb) (hd0 : y.cls ≠ "java/lang/invoke/MethodHandle" ∧ y.cls ≠ "java/lang/invoke/VarHandle" ∧ (parseMethodDescriptor y.desc).map (fun d => d.parameters.length) = some (n - 1)) (hn0 : n ≠ 0) (hnm : n ≤ maxL) (hR : fr2 + 1 ≤ fr ∧ 8 + (maxL + 11) + lo2 ≤ lo) (hd : decode cc pc = .ok (.invokespecial index, 3)) (k : ∀ (ls st : List zV) (G : zG) (X : zX), K ls st G X → zAt E nL (pc + 3) ls st G X) : ∀ (ls st : List zV) (G : zG) (X : zX), o_callV c C n K ls st G X → zAt E nL pc ls st G X := by
  intro ls st G X h ad H locs lsr hH hL hS
  unfold o_callV at h
  obtain ⟨hck, hrc, h⟩ := h
  obtain ⟨LC1, e1⟩ : ∃ LC1, LC1 = zsz G := ⟨_, rfl⟩
  obtain ⟨LS1, e2⟩ : ∃ LS1, LS1 = ztt G := ⟨_, rfl⟩
  have b1 : zsz G ≤ LC1 := by omega
  have b2 : ztt G ≤ LS1 := by omega
  have g4 := hH.2.2.2.1
  have g5 := hH.2.2.2.2.1
  have g2 := hH.2.1
  have g3 := hH.2.2.1
  have hok := hH.2.2.2.2.2.2.2.2.1
  have hva : ∀ v ∈ (st.take n).reverse, zok (zsz G) v ∧ z1 v = true := fun v hv => ⟨hS v (List.mem_of_mem_take (List.mem_reverse.mp hv)), List.all_eq_true.mp hck.2.2 v (List.mem_reverse.mp hv)⟩
  have hlen : (st.take n).reverse.length = n := by rw [List.length_reverse, List.length_take]; exact Nat.min_eq_left hck.1
  have hM := hC (el E) (eV E) ad H.size LC1 LS1 _ G X (fun v G2 X2 => K ls (v ++ st.drop n) G2 X2) (by rw [hlen]; exact hnm) hva hok b1 b2 ⟨e1, e2, hmono _ _ _ _ _ (fun v X2 hK => ⟨e1.symm, e2.symm, hK⟩) h⟩
  have hcs : CallFix (ep E) (em E) (ec E) cc nL (es E) (ea E) zTb own := ⟨hc.1, hc.2.1, hc.2.2.1, hc.2.2.2.1, hc.2.2.2.2.1⟩
  have hgood : GoodIn zTb (Cond.code y bytes maxL none :: zTb) := zTb_good (fun w hw => (List.mem_cons.mp hw).elim (fun e => by rw [e]; exact hcode) id)
  have hRR : fr2 + 1 ≤ (eR E).frames ∧ 8 + (maxL + 11) + lo2 ≤ (eR E).locals := by rw [hc.2.2.2.2.2.1, hc.2.2.2.2.2.2.1]; exact hR
  have hsz1 : lsr.size = nL := hL.1
  obtain ⟨b, as, hba⟩ : ∃ b as, (st.take n).reverse = zR b :: as ∧ zkd G b = c := by
    generalize (st.take n).reverse = aa at hrc
    rcases aa with _ | ⟨x | b | x | x, as⟩
    · exact hrc.elim
    · exact hrc.elim
    · exact ⟨b, as, rfl, hrc⟩
    · exact hrc.elim
    · exact hrc.elim
  obtain ⟨hba, hkb⟩ := hba
  rw [hba] at hlen
  have hb1 : b ≠ -1 := fun z => by
    subst z
    have := hok.2.2.2.2.1 (-1) (by omega)
    omega
  have e9 : zv ad (zR b) = .ref (ad b) := if_neg hb1
  have hlas : (as.map (zv ad)).length = n - 1 := by rw [List.length_map]; rw [List.length_cons] at hlen; omega
  have hstk : st.map (zv ad) = (as.map (zv ad)).reverse ++ .ref (ad b) :: (st.drop n).map (zv ad) := by
    rw [z_split (n := n), hba, List.map_cons, List.reverse_cons, e9, List.append_assoc]
    rfl
  have hpc : ∀ U : State, U.heap = H → (es E).WarmedH U.vm → zPc (eV E) ad H.size (st.take n).reverse G X (Value.ref (ad b) :: as.map (zv ad)).toArray U := fun U h1 h2 => by
    have := zPc_call (vs := (st.take n).reverse) hc hx hH U h1 h2
    rw [hba, List.map_cons, e9] at this
    rw [hba]
    exact this
  have hrun := va_runI (H := H) (locs := locs) (cells := zsz G - esz E) (slots := ztt G - ett E) (below := eb E) (meth := eh E) (e := ee E) (b := ad b) (As := as.map (zv ad)) (rest := (st.drop n).map (zv ad)) (g := F0 (em E) pc lsr (st.map (zv ad))) hcs hM (cwI (n - 1) hc.2.2.2.2.1 hgood rfl rfl rfl (hc.2.2.2.2.1 _ hini) (hc.2.2.2.2.1 _ hl) (hc.2.2.2.2.1 _ hin) hname hd0 hRR) ⟨zPc_blind, hpc⟩ rfl hlas hsz1 hstk (lv_room (z_rsum hck.2.1)) hd ⟨by omega, by omega⟩
  exact z_back hc hH hL (fun v hv => hS v (List.mem_of_mem_drop hv)) b1 b2 (by omega) (by omega) hrun (fun v G2 X2 hK _ _ => k _ _ _ _ hK.2)
theorem z_callIN {E : zE} {cc : ByteArray} {own : String} {nL fr lo pc : Nat} {c : Int} {c0 : Nat} {host : String} {y : MethodName} {bytes : ByteArray} {maxL n index fr2 lo2 : Nat} {C : zCp} {K : zK} (hc : zCx E cc own nL fr lo) (hx : zXt (ead E) (eA E) (es E)) (hmono : ∀ (vs : List zV) (G : zG) (X : zX) (Q Q2 : List zV → zX → Prop), (∀ v X2, Q v X2 → Q2 v X2) → C vs G X Q → C vs G X Q2) (hC : zSnd y bytes maxL none fr2 lo2 (zUp C)) (hl : (own, index, y, host) ∈ zNs) (hin : Cond.instanceMethod y ∈ zTb) (hini : Cond.initialized y.cls ∈ zTb) (hname : y.name = "<init>") (ekc : c = (c0 : Int)) (hc5 : c0 < 50) (hcode : Cond.code y bytes maxL none ∈ zTb) (hd0 : y.cls ≠ "java/lang/invoke/MethodHandle" ∧ y.cls ≠ "java/lang/invoke/VarHandle" ∧ (parseMethodDescriptor y.desc).map (fun d => d.parameters.length) = some (n - 1)) (hn0 : n ≠ 0) (hnm : n ≤ maxL) (hR : fr2 + 1 ≤ fr ∧ 8 + (maxL + 11) + lo2 ≤ lo) (hd : decode cc pc = .ok (.invokespecial index, 3)) (k : ∀ (ls st : List zV) (G : zG) (X : zX), K ls st G X → zAt E nL (pc + 3) ls st G X) : ∀ (ls st : List zV) (G : zG) (X : zX), o_callV c C n K ls st G X → zAt E nL pc ls st G X := by
  intro ls st G X h ad H locs lsr hH hL hS
  unfold o_callV at h
  obtain ⟨hck, hrc, h⟩ := h
  obtain ⟨LC1, e1⟩ : ∃ LC1, LC1 = zsz G := ⟨_, rfl⟩
  obtain ⟨LS1, e2⟩ : ∃ LS1, LS1 = ztt G := ⟨_, rfl⟩
  have b1 : zsz G ≤ LC1 := by omega
  have b2 : ztt G ≤ LS1 := by omega
  have g4 := hH.2.2.2.1
  have g5 := hH.2.2.2.2.1
  have g2 := hH.2.1
  have g3 := hH.2.2.1
  have hok := hH.2.2.2.2.2.2.2.2.1
  have hva : ∀ v ∈ (st.take n).reverse, zok (zsz G) v ∧ z1 v = true := fun v hv => ⟨hS v (List.mem_of_mem_take (List.mem_reverse.mp hv)), List.all_eq_true.mp hck.2.2 v (List.mem_reverse.mp hv)⟩
  have hlen : (st.take n).reverse.length = n := by rw [List.length_reverse, List.length_take]; exact Nat.min_eq_left hck.1
  have hM := hC (el E) (eV E) ad H.size LC1 LS1 _ G X (fun v G2 X2 => K ls (v ++ st.drop n) G2 X2) (by rw [hlen]; exact hnm) hva hok b1 b2 ⟨e1, e2, hmono _ _ _ _ _ (fun v X2 hK => ⟨e1.symm, e2.symm, hK⟩) h⟩
  have hcs : CallFix (ep E) (em E) (ec E) cc nL (es E) (ea E) zTb own := ⟨hc.1, hc.2.1, hc.2.2.1, hc.2.2.2.1, hc.2.2.2.2.1⟩
  have hgood : GoodIn zTb (Cond.code y bytes maxL none :: zTb) := zTb_good (fun w hw => (List.mem_cons.mp hw).elim (fun e => by rw [e]; exact hcode) id)
  have hRR : fr2 + 1 ≤ (eR E).frames ∧ 8 + (maxL + 11) + lo2 ≤ (eR E).locals := by rw [hc.2.2.2.2.2.1, hc.2.2.2.2.2.2.1]; exact hR
  have hsz1 : lsr.size = nL := hL.1
  obtain ⟨b, as, hba⟩ : ∃ b as, (st.take n).reverse = zR b :: as ∧ zkd G b = c := by
    generalize (st.take n).reverse = aa at hrc
    rcases aa with _ | ⟨x | b | x | x, as⟩
    · exact hrc.elim
    · exact hrc.elim
    · exact ⟨b, as, rfl, hrc⟩
    · exact hrc.elim
    · exact hrc.elim
  obtain ⟨hba, hkb⟩ := hba
  rw [hba] at hlen
  have hb1 : b ≠ -1 := fun z => by
    subst z
    have := hok.2.2.2.2.1 (-1) (by omega)
    omega
  have e9 : zv ad (zR b) = .ref (ad b) := if_neg hb1
  have hlas : (as.map (zv ad)).length = n - 1 := by rw [List.length_map]; rw [List.length_cons] at hlen; omega
  have hstk : st.map (zv ad) = (as.map (zv ad)).reverse ++ .ref (ad b) :: (st.drop n).map (zv ad) := by
    rw [z_split (n := n), hba, List.map_cons, List.reverse_cons, e9, List.append_assoc]
    rfl
  have hpc : ∀ U : State, U.heap = H → (es E).WarmedH U.vm → zPc (eV E) ad H.size (st.take n).reverse G X (Value.ref (ad b) :: as.map (zv ad)).toArray U := fun U h1 h2 => by
    have := zPc_call (vs := (st.take n).reverse) hc hx hH U h1 h2
    rw [hba, List.map_cons, e9] at this
    rw [hba]
    exact this
  have hrun := va_runIN (H := H) (locs := locs) (cells := zsz G - esz E) (slots := ztt G - ett E) (below := eb E) (meth := eh E) (e := ee E) (b := ad b) (As := as.map (zv ad)) (rest := (st.drop n).map (zv ad)) (g := F0 (em E) pc lsr (st.map (zv ad))) hcs hM (⟨va_cnB (host := host) (n - 1) hc.2.2.2.2.1 hgood rfl rfl rfl (hx.2.2.2.2.1 (own, index, y, host) hl) (hc.2.2.2.2.1 _ hini) hd0 hRR, hname, hc.2.2.2.2.1 _ hin⟩) ⟨zPc_blind, hpc⟩ rfl hlas hsz1 hstk (lv_room (z_rsum hck.2.1)) hd ⟨by omega, by omega⟩
  exact z_back hc hH hL (fun v hv => hS v (List.mem_of_mem_drop hv)) b1 b2 (by omega) (by omega) hrun (fun v G2 X2 hK _ _ => k _ _ _ _ hK.2)
theorem z_callIA {E : zE} {cc : ByteArray} {own : String} {nL fr lo pc : Nat} {LC LS : Nat} {c : Int} {c0 : Nat} {y : MethodName} {bytes : ByteArray} {maxL n index fr2 lo2 : Nat} {C : zCo} {K : zK} (hc : zCx E cc own nL fr lo) (hx : zXt (ead E) (eA E) (es E)) (hC : zSnd y bytes maxL none fr2 lo2 C) (hl : Cond.methodLink own index y ∈ zTb) (hLC : LC - esz E ≤ (eR E).cells) (hLS : LS - ett E ≤ (eR E).slots) (hin : Cond.instanceMethod y ∈ zTb) (hini : Cond.initialized y.cls ∈ zTb) (hname : y.name = "<init>") (ekc : c = (c0 : Int)) (hc5 : c0 < 50) (hcode : Cond.code y bytes maxL none ∈ zTb) (hd0 : y.cls ≠ "java/lang/invoke/MethodHandle" ∧ y.cls ≠ "java/lang/invoke/VarHandle" ∧ (parseMethodDescriptor y.desc).map (fun d => d.parameters.length) = some (n - 1)) (hn0 : n ≠ 0) (hnm : n ≤ maxL) (hR : fr2 + 1 ≤ fr ∧ 8 + (maxL + 11) + lo2 ≤ lo) (hd : decode cc pc = .ok (.invokespecial index, 3)) (k : ∀ (ls st : List zV) (G : zG) (X : zX), K ls st G X → zAt E nL (pc + 3) ls st G X) : ∀ (ls st : List zV) (G : zG) (X : zX), o_callAV LC LS c C n K ls st G X → zAt E nL pc ls st G X := by
  intro ls st G X h ad H locs lsr hH hL hS
  unfold o_callAV at h
  obtain ⟨hck, hrc, LC1, LS1, b1, b2, b3, b4, h⟩ := h
  have g2 := hH.2.1
  have g3 := hH.2.2.1
  have hok := hH.2.2.2.2.2.2.2.2.1
  have hva : ∀ v ∈ (st.take n).reverse, zok (zsz G) v ∧ z1 v = true := fun v hv => ⟨hS v (List.mem_of_mem_take (List.mem_reverse.mp hv)), List.all_eq_true.mp hck.2.2 v (List.mem_reverse.mp hv)⟩
  have hlen : (st.take n).reverse.length = n := by rw [List.length_reverse, List.length_take]; exact Nat.min_eq_left hck.1
  have hM := hC (el E) (eV E) ad H.size LC1 LS1 _ G X (fun v G2 X2 => K ls (v ++ st.drop n) G2 X2) (by rw [hlen]; exact hnm) hva hok b1 b2 h
  have hcs : CallFix (ep E) (em E) (ec E) cc nL (es E) (ea E) zTb own := ⟨hc.1, hc.2.1, hc.2.2.1, hc.2.2.2.1, hc.2.2.2.2.1⟩
  have hgood : GoodIn zTb (Cond.code y bytes maxL none :: zTb) := zTb_good (fun w hw => (List.mem_cons.mp hw).elim (fun e => by rw [e]; exact hcode) id)
  have hRR : fr2 + 1 ≤ (eR E).frames ∧ 8 + (maxL + 11) + lo2 ≤ (eR E).locals := by rw [hc.2.2.2.2.2.1, hc.2.2.2.2.2.2.1]; exact hR
  have hsz1 : lsr.size = nL := hL.1
  obtain ⟨b, as, hba⟩ : ∃ b as, (st.take n).reverse = zR b :: as ∧ zkd G b = c := by
    generalize (st.take n).reverse = aa at hrc
    rcases aa with _ | ⟨x | b | x | x, as⟩
    · exact hrc.elim
    · exact hrc.elim
    · exact ⟨b, as, rfl, hrc⟩
    · exact hrc.elim
    · exact hrc.elim
  obtain ⟨hba, hkb⟩ := hba
  rw [hba] at hlen
  have hb1 : b ≠ -1 := fun z => by
    subst z
    have := hok.2.2.2.2.1 (-1) (by omega)
    omega
  have e9 : zv ad (zR b) = .ref (ad b) := if_neg hb1
  have hlas : (as.map (zv ad)).length = n - 1 := by rw [List.length_map]; rw [List.length_cons] at hlen; omega
  have hstk : st.map (zv ad) = (as.map (zv ad)).reverse ++ .ref (ad b) :: (st.drop n).map (zv ad) := by
    rw [z_split (n := n), hba, List.map_cons, List.reverse_cons, e9, List.append_assoc]
    rfl
  have hpc : ∀ U : State, U.heap = H → (es E).WarmedH U.vm → zPc (eV E) ad H.size (st.take n).reverse G X (Value.ref (ad b) :: as.map (zv ad)).toArray U := fun U h1 h2 => by
    have := zPc_call (vs := (st.take n).reverse) hc hx hH U h1 h2
    rw [hba, List.map_cons, e9] at this
    rw [hba]
    exact this
  have hrun := va_runI (H := H) (locs := locs) (cells := zsz G - esz E) (slots := ztt G - ett E) (below := eb E) (meth := eh E) (e := ee E) (b := ad b) (As := as.map (zv ad)) (rest := (st.drop n).map (zv ad)) (g := F0 (em E) pc lsr (st.map (zv ad))) hcs hM (cwI (n - 1) hc.2.2.2.2.1 hgood rfl rfl rfl (hc.2.2.2.2.1 _ hini) (hc.2.2.2.2.1 _ hl) (hc.2.2.2.2.1 _ hin) hname hd0 hRR) ⟨zPc_blind, hpc⟩ rfl hlas hsz1 hstk (lv_room (z_rsum hck.2.1)) hd ⟨by omega, by omega⟩
  exact z_back hc hH hL (fun v hv => hS v (List.mem_of_mem_drop hv)) b1 b2 (by omega) (by omega) hrun (fun v G2 X2 hK _ _ => k _ _ _ _ hK.2)
theorem z_callIAN {E : zE} {cc : ByteArray} {own : String} {nL fr lo pc : Nat} {LC LS : Nat} {c : Int} {c0 : Nat} {host : String} {y : MethodName} {bytes : ByteArray} {maxL n index fr2 lo2 : Nat} {C : zCo} {K : zK} (hc : zCx E cc own nL fr lo) (hx : zXt (ead E) (eA E) (es E)) (hC : zSnd y bytes maxL none fr2 lo2 C) (hl : (own, index, y, host) ∈ zNs) (hLC : LC - esz E ≤ (eR E).cells) (hLS : LS - ett E ≤ (eR E).slots) (hin : Cond.instanceMethod y ∈ zTb) (hini : Cond.initialized y.cls ∈ zTb) (hname : y.name = "<init>") (ekc : c = (c0 : Int)) (hc5 : c0 < 50) (hcode : Cond.code y bytes maxL none ∈ zTb) (hd0 : y.cls ≠ "java/lang/invoke/MethodHandle" ∧ y.cls ≠ "java/lang/invoke/VarHandle" ∧ (parseMethodDescriptor y.desc).map (fun d => d.parameters.length) = some (n - 1)) (hn0 : n ≠ 0) (hnm : n ≤ maxL) (hR : fr2 + 1 ≤ fr ∧ 8 + (maxL + 11) + lo2 ≤ lo) (hd : decode cc pc = .ok (.invokespecial index, 3)) (k : ∀ (ls st : List zV) (G : zG) (X : zX), K ls st G X → zAt E nL (pc + 3) ls st G X) : ∀ (ls st : List zV) (G : zG) (X : zX), o_callAV LC LS c C n K ls st G X → zAt E nL pc ls st G X := by
  intro ls st G X h ad H locs lsr hH hL hS
  unfold o_callAV at h
  obtain ⟨hck, hrc, LC1, LS1, b1, b2, b3, b4, h⟩ := h
  have g2 := hH.2.1
  have g3 := hH.2.2.1
  have hok := hH.2.2.2.2.2.2.2.2.1
  have hva : ∀ v ∈ (st.take n).reverse, zok (zsz G) v ∧ z1 v = true := fun v hv => ⟨hS v (List.mem_of_mem_take (List.mem_reverse.mp hv)), List.all_eq_true.mp hck.2.2 v (List.mem_reverse.mp hv)⟩
  have hlen : (st.take n).reverse.length = n := by rw [List.length_reverse, List.length_take]; exact Nat.min_eq_left hck.1
  have hM := hC (el E) (eV E) ad H.size LC1 LS1 _ G X (fun v G2 X2 => K ls (v ++ st.drop n) G2 X2) (by rw [hlen]; exact hnm) hva hok b1 b2 h
  have hcs : CallFix (ep E) (em E) (ec E) cc nL (es E) (ea E) zTb own := ⟨hc.1, hc.2.1, hc.2.2.1, hc.2.2.2.1, hc.2.2.2.2.1⟩
  have hgood : GoodIn zTb (Cond.code y bytes maxL none :: zTb) := zTb_good (fun w hw => (List.mem_cons.mp hw).elim (fun e => by rw [e]; exact hcode) id)
  have hRR : fr2 + 1 ≤ (eR E).frames ∧ 8 + (maxL + 11) + lo2 ≤ (eR E).locals := by rw [hc.2.2.2.2.2.1, hc.2.2.2.2.2.2.1]; exact hR
  have hsz1 : lsr.size = nL := hL.1
  obtain ⟨b, as, hba⟩ : ∃ b as, (st.take n).reverse = zR b :: as ∧ zkd G b = c := by
    generalize (st.take n).reverse = aa at hrc
    rcases aa with _ | ⟨x | b | x | x, as⟩
    · exact hrc.elim
    · exact hrc.elim
    · exact ⟨b, as, rfl, hrc⟩
    · exact hrc.elim
    · exact hrc.elim
  obtain ⟨hba, hkb⟩ := hba
  rw [hba] at hlen
  have hb1 : b ≠ -1 := fun z => by
    subst z
    have := hok.2.2.2.2.1 (-1) (by omega)
    omega
  have e9 : zv ad (zR b) = .ref (ad b) := if_neg hb1
  have hlas : (as.map (zv ad)).length = n - 1 := by rw [List.length_map]; rw [List.length_cons] at hlen; omega
  have hstk : st.map (zv ad) = (as.map (zv ad)).reverse ++ .ref (ad b) :: (st.drop n).map (zv ad) := by
    rw [z_split (n := n), hba, List.map_cons, List.reverse_cons, e9, List.append_assoc]
    rfl
  have hpc : ∀ U : State, U.heap = H → (es E).WarmedH U.vm → zPc (eV E) ad H.size (st.take n).reverse G X (Value.ref (ad b) :: as.map (zv ad)).toArray U := fun U h1 h2 => by
    have := zPc_call (vs := (st.take n).reverse) hc hx hH U h1 h2
    rw [hba, List.map_cons, e9] at this
    rw [hba]
    exact this
  have hrun := va_runIN (H := H) (locs := locs) (cells := zsz G - esz E) (slots := ztt G - ett E) (below := eb E) (meth := eh E) (e := ee E) (b := ad b) (As := as.map (zv ad)) (rest := (st.drop n).map (zv ad)) (g := F0 (em E) pc lsr (st.map (zv ad))) hcs hM (⟨va_cnB (host := host) (n - 1) hc.2.2.2.2.1 hgood rfl rfl rfl (hx.2.2.2.2.1 (own, index, y, host) hl) (hc.2.2.2.2.1 _ hini) hd0 hRR, hname, hc.2.2.2.2.1 _ hin⟩) ⟨zPc_blind, hpc⟩ rfl hlas hsz1 hstk (lv_room (z_rsum hck.2.1)) hd ⟨by omega, by omega⟩
  exact z_back hc hH hL (fun v hv => hS v (List.mem_of_mem_drop hv)) b1 b2 (by omega) (by omega) hrun (fun v G2 X2 hK _ _ => k _ _ _ _ hK.2)
