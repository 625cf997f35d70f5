/-! ===== a method's end ===== -/
/-- what the walk is to show at the method's end -/
def zEd (E : zE) (Q : List zV → zG → zX → Prop) : Prop := ∃ (LC LS : Nat) (G0 : zG) (X0 : zX) (Q0 : List zV → zG → zX → Prop) (rtE : Option FieldType), (eh E).sig.returnType = rtE ∧
  Q = (fun v G X => zrk rtE v → zsz G = LC ∧ ztt G = LS ∧ Q0 v G X) ∧ esz E = zsz G0 ∧ ett E = ztt G0 ∧ eA E = va_A (zws zft (eV E) (ead E) G0 X0) (es E).heap.size ∧ (eh E).locks = false ∧
  eQ E = MQ (eb E) (zQc (eV E) (ead E) (es E).heap.size LC LS G0 X0 (fun v G X => zrk rtE v ∧ Q0 v G X)) (ea E) (es E) (LC - zsz G0) (LS - ztt G0) (va_A (zws zft (eV E) (ead E) G0 X0) (es E).heap.size)
/-- at the end, the post stands -/
def zPt (E : zE) (nL : Nat) (Q : List zV → zG → zX → Prop) (n : Nat) : zK := if n = 65535 then (fun _ st G X => Q st G X) else zAt E nL n
theorem zPt_at {E : zE} {nL n : Nat} {Q : List zV → zG → zX → Prop} (h : n ≠ 65535) : zPt E nL Q n = zAt E nL n := if_neg h
theorem z_endQ {E : zE} {ad : Int → Nat} {G G0 : zG} {X X0 : zX} {H : Heap} {locs : List Loc} {LC LS : Nat} {Q0 : List zV → zG → zX → Prop} {v : List zV} (hH : zHp E ad G X H locs) (e1 : esz E = zsz G0) (e3 : eA E = va_A (zws zft (eV E) (ead E) G0 X0) (es E).heap.size)
    (hv : ∀ u ∈ v, zok (zsz G) u) (hl : v.length ≤ 1) (hQ : zsz G = LC ∧ ztt G = LS ∧ Q0 v G X) (t : State) (ht : t.heap = H) : zQc (eV E) (ead E) (es E).heap.size LC LS G0 X0 Q0 (ea E) (es E) (.returned ((v.map (zv ad)).head?)) t := by
  obtain ⟨hadd, -, -, -, -, hP, hD, hS, hok, hPx⟩ := hH
  refine ⟨⟨v, G, X, ad, rfl, hl, hQ.2.2, hQ.1, hQ.2.1, fun k hk => hadd k (by omega), by rw [ht]; exact hP, by rw [← e3]; exact hD, hok, hPx, hv⟩, ?_⟩
  rw [← e3]
  exact hS.F ht
def o_iret (K : zK) : zK := fun ls st G X => match st with
  | [.inl v] => K [] [zI v] G X
  | _ => False
/-- a boolean, a char or a byte is answered -/
def o_zret (K : zK) : zK := fun ls st G X => match st with
  | [.inl v] => (v = 0 ∨ v = 1) ∧ K [] [zI v] G X
  | _ => False
def o_cret (K : zK) : zK := fun ls st G X => match st with
  | [.inl v] => (0 ≤ v ∧ v ≤ 65535) ∧ K [] [zI v] G X
  | _ => False
def o_bret (K : zK) : zK := fun ls st G X => match st with
  | [.inl v] => (-128 ≤ v ∧ v ≤ 127) ∧ K [] [zI v] G X
  | _ => False
def o_lret (K : zK) : zK := fun ls st G X => match st with
  | [.inr (.inr (.inl v))] => K [] [zL v] G X
  | _ => False
def o_aret (K : zK) : zK := fun ls st G X => match st with
  | [.inr (.inl v)] => K [] [zR v] G X
  | _ => False
def o_vret (K : zK) : zK := fun ls st G X => match st with
  | [] => K [] [] G X
  | _ => False
theorem z_fitC {v : Int} (h : 0 ≤ v ∧ v ≤ 65535) : narrow .char (.int (Int32.ofInt v)) = .int (Int32.ofInt v) := by
  have hv : zin v := by unfold zin; omega
  have h1 := z_narC hv
  unfold vp_nar at h1
  show Value.int _ = _
  congr 1
  rw [show v % 65536 = v by omega] at h1
  exact h1
theorem z_iret {E : zE} {cc : ByteArray} {own : String} {nL fr lo pc : Nat} {Q : List zV → zG → zX → Prop} {K : zK} (hc : zCx E cc own nL fr lo) (hE : zEd E Q) (hrt : (eh E).sig.returnType = some .int) (hd : decode cc pc = .ok (.ireturn, 1)) (k : ∀ (ls st : List zV) (G : zG) (X : zX), K ls st G X → zPt E nL Q 65535 ls st G X) : ∀ (ls st : List zV) (G : zG) (X : zX), o_iret K ls st G X → zAt E nL pc ls st G X := by
  intro ls st G X h ad H locs lsr hH hL hS
  obtain ⟨LC, LS, G0, X0, Q0, rtE, er, e0, e1, e2, e3, e4, e5⟩ := hE
  subst e0
  unfold o_iret at h
  split at h
  · rename_i v
    have hz : zrk rtE [zI v] := fun _ => ⟨v, rfl⟩
    have hq0 : zrk rtE [zI v] → zsz G = LC ∧ ztt G = LS ∧ Q0 [zI v] G X := k _ _ _ _ h
    have hq := hq0 hz
    have g2 := hH.2.1
    unfold zW
    rw [e5, ← e1, ← e2, ← hq.1, ← hq.2.1]
    skip
    exact W.zret hc.1 hc.2.1 hrt (by rfl) (fun t ht _ => z_endQ (LC := zsz G) (LS := ztt G) (v := [zI v]) hH e1 e3 hS (by simp) ⟨rfl, rfl, hz, hq.2.2⟩ t ht) (fun q hq2 => by rw [← e3]; exact hH.2.2.2.2.2.2.2.1.2.2 q hq2) hd e4
  · exact h.elim
theorem z_zret {E : zE} {cc : ByteArray} {own : String} {nL fr lo pc : Nat} {Q : List zV → zG → zX → Prop} {K : zK} (hc : zCx E cc own nL fr lo) (hE : zEd E Q) (hrt : (eh E).sig.returnType = some .boolean) (hd : decode cc pc = .ok (.ireturn, 1)) (k : ∀ (ls st : List zV) (G : zG) (X : zX), K ls st G X → zPt E nL Q 65535 ls st G X) : ∀ (ls st : List zV) (G : zG) (X : zX), o_zret K ls st G X → zAt E nL pc ls st G X := by
  intro ls st G X h ad H locs lsr hH hL hS
  obtain ⟨LC, LS, G0, X0, Q0, rtE, er, e0, e1, e2, e3, e4, e5⟩ := hE
  subst e0
  unfold o_zret at h
  split at h
  · rename_i v
    have hz : zrk rtE [zI v] := fun _ => ⟨v, rfl⟩
    have hq0 : zrk rtE [zI v] → zsz G = LC ∧ ztt G = LS ∧ Q0 [zI v] G X := k _ _ _ _ h.2
    have hq := hq0 hz
    have g2 := hH.2.1
    unfold zW
    rw [e5, ← e1, ← e2, ← hq.1, ← hq.2.1]
    skip
    exact W.zret hc.1 hc.2.1 hrt (z_fitZ h.1).1 (fun t ht _ => z_endQ (LC := zsz G) (LS := ztt G) (v := [zI v]) hH e1 e3 hS (by simp) ⟨rfl, rfl, hz, hq.2.2⟩ t ht) (fun q hq2 => by rw [← e3]; exact hH.2.2.2.2.2.2.2.1.2.2 q hq2) hd e4
  · exact h.elim
theorem z_cret {E : zE} {cc : ByteArray} {own : String} {nL fr lo pc : Nat} {Q : List zV → zG → zX → Prop} {K : zK} (hc : zCx E cc own nL fr lo) (hE : zEd E Q) (hrt : (eh E).sig.returnType = some .char) (hd : decode cc pc = .ok (.ireturn, 1)) (k : ∀ (ls st : List zV) (G : zG) (X : zX), K ls st G X → zPt E nL Q 65535 ls st G X) : ∀ (ls st : List zV) (G : zG) (X : zX), o_cret K ls st G X → zAt E nL pc ls st G X := by
  intro ls st G X h ad H locs lsr hH hL hS
  obtain ⟨LC, LS, G0, X0, Q0, rtE, er, e0, e1, e2, e3, e4, e5⟩ := hE
  subst e0
  unfold o_cret at h
  split at h
  · rename_i v
    have hz : zrk rtE [zI v] := fun _ => ⟨v, rfl⟩
    have hq0 : zrk rtE [zI v] → zsz G = LC ∧ ztt G = LS ∧ Q0 [zI v] G X := k _ _ _ _ h.2
    have hq := hq0 hz
    have g2 := hH.2.1
    unfold zW
    rw [e5, ← e1, ← e2, ← hq.1, ← hq.2.1]
    skip
    exact W.zret hc.1 hc.2.1 hrt (z_fitC h.1) (fun t ht _ => z_endQ (LC := zsz G) (LS := ztt G) (v := [zI v]) hH e1 e3 hS (by simp) ⟨rfl, rfl, hz, hq.2.2⟩ t ht) (fun q hq2 => by rw [← e3]; exact hH.2.2.2.2.2.2.2.1.2.2 q hq2) hd e4
  · exact h.elim
theorem z_bret {E : zE} {cc : ByteArray} {own : String} {nL fr lo pc : Nat} {Q : List zV → zG → zX → Prop} {K : zK} (hc : zCx E cc own nL fr lo) (hE : zEd E Q) (hrt : (eh E).sig.returnType = some .byte) (hd : decode cc pc = .ok (.ireturn, 1)) (k : ∀ (ls st : List zV) (G : zG) (X : zX), K ls st G X → zPt E nL Q 65535 ls st G X) : ∀ (ls st : List zV) (G : zG) (X : zX), o_bret K ls st G X → zAt E nL pc ls st G X := by
  intro ls st G X h ad H locs lsr hH hL hS
  obtain ⟨LC, LS, G0, X0, Q0, rtE, er, e0, e1, e2, e3, e4, e5⟩ := hE
  subst e0
  unfold o_bret at h
  split at h
  · rename_i v
    have hz : zrk rtE [zI v] := fun _ => ⟨v, rfl⟩
    have hq0 : zrk rtE [zI v] → zsz G = LC ∧ ztt G = LS ∧ Q0 [zI v] G X := k _ _ _ _ h.2
    have hq := hq0 hz
    have g2 := hH.2.1
    unfold zW
    rw [e5, ← e1, ← e2, ← hq.1, ← hq.2.1]
    skip
    exact W.zret hc.1 hc.2.1 hrt (z_fitB h.1).1 (fun t ht _ => z_endQ (LC := zsz G) (LS := ztt G) (v := [zI v]) hH e1 e3 hS (by simp) ⟨rfl, rfl, hz, hq.2.2⟩ t ht) (fun q hq2 => by rw [← e3]; exact hH.2.2.2.2.2.2.2.1.2.2 q hq2) hd e4
  · exact h.elim
theorem z_lret {E : zE} {cc : ByteArray} {own : String} {nL fr lo pc : Nat} {Q : List zV → zG → zX → Prop} {K : zK} (hc : zCx E cc own nL fr lo) (hE : zEd E Q) (hrt : (eh E).sig.returnType = some .long) (hd : decode cc pc = .ok (.lreturn, 1)) (k : ∀ (ls st : List zV) (G : zG) (X : zX), K ls st G X → zPt E nL Q 65535 ls st G X) : ∀ (ls st : List zV) (G : zG) (X : zX), o_lret K ls st G X → zAt E nL pc ls st G X := by
  intro ls st G X h ad H locs lsr hH hL hS
  obtain ⟨LC, LS, G0, X0, Q0, rtE, er, e0, e1, e2, e3, e4, e5⟩ := hE
  subst e0
  unfold o_lret at h
  split at h
  · rename_i v
    have hz : zrk rtE [zL v] := fun z => by rw [← er, hrt] at z; rcases z with z | z <;> cases z
    have hq0 : zrk rtE [zL v] → zsz G = LC ∧ ztt G = LS ∧ Q0 [zL v] G X := k _ _ _ _ h
    have hq := hq0 hz
    have g2 := hH.2.1
    unfold zW
    rw [e5, ← e1, ← e2, ← hq.1, ← hq.2.1]
    skip
    exact W.lret hc.1 hc.2.1 hrt (fun t ht _ => z_endQ (LC := zsz G) (LS := ztt G) (v := [zL v]) hH e1 e3 hS (by simp) ⟨rfl, rfl, hz, hq.2.2⟩ t ht) (fun q hq2 => by rw [← e3]; exact hH.2.2.2.2.2.2.2.1.2.2 q hq2) hd e4
  · exact h.elim
theorem z_aret {E : zE} {cc : ByteArray} {own : String} {nL fr lo pc : Nat} {Q : List zV → zG → zX → Prop} {K : zK} (hc : zCx E cc own nL fr lo) (hE : zEd E Q) {rt : FieldType} (hrt : (eh E).sig.returnType = some rt) (hrf : (∃ n, rt = .object n) ∨ ∃ t, rt = .array t) (hd : decode cc pc = .ok (.areturn, 1)) (k : ∀ (ls st : List zV) (G : zG) (X : zX), K ls st G X → zPt E nL Q 65535 ls st G X) : ∀ (ls st : List zV) (G : zG) (X : zX), o_aret K ls st G X → zAt E nL pc ls st G X := by
  intro ls st G X h ad H locs lsr hH hL hS
  obtain ⟨LC, LS, G0, X0, Q0, rtE, er, e0, e1, e2, e3, e4, e5⟩ := hE
  subst e0
  unfold o_aret at h
  split at h
  · rename_i v
    have hz : zrk rtE [zR v] := fun z => by rw [← er, hrt] at z; rcases hrf with ⟨n, e⟩ | ⟨n, e⟩ <;> subst e <;> rcases z with z | z <;> cases z
    have hq0 : zrk rtE [zR v] → zsz G = LC ∧ ztt G = LS ∧ Q0 [zR v] G X := k _ _ _ _ h
    have hq := hq0 hz
    have g2 := hH.2.1
    unfold zW
    rw [e5, ← e1, ← e2, ← hq.1, ← hq.2.1]
    have hvv : zv ad (zR v) = .null ∨ ∃ a, zv ad (zR v) = .ref a := by
      show zrf ad v = _ ∨ ∃ a, zrf ad v = _
      unfold zrf
      split
      · exact Or.inl rfl
      · exact Or.inr ⟨_, rfl⟩
    exact W.aret hc.1 hc.2.1 hrt hrf hvv (fun t ht _ => z_endQ (LC := zsz G) (LS := ztt G) (v := [zR v]) hH e1 e3 hS (by simp) ⟨rfl, rfl, hz, hq.2.2⟩ t ht) (fun q hq2 => by rw [← e3]; exact hH.2.2.2.2.2.2.2.1.2.2 q hq2) hd e4
  · exact h.elim
theorem z_vret {E : zE} {cc : ByteArray} {own : String} {nL fr lo pc : Nat} {Q : List zV → zG → zX → Prop} {K : zK} (hc : zCx E cc own nL fr lo) (hE : zEd E Q) (hrt : (eh E).sig.returnType = none) (hd : decode cc pc = .ok (.return_, 1)) (k : ∀ (ls st : List zV) (G : zG) (X : zX), K ls st G X → zPt E nL Q 65535 ls st G X) : ∀ (ls st : List zV) (G : zG) (X : zX), o_vret K ls st G X → zAt E nL pc ls st G X := by
  intro ls st G X h ad H locs lsr hH hL hS
  obtain ⟨LC, LS, G0, X0, Q0, rtE, er, e0, e1, e2, e3, e4, e5⟩ := hE
  subst e0
  unfold o_vret at h
  split at h
  · have hz : zrk rtE [] := fun z => by rw [← er, hrt] at z; rcases z with z | z <;> cases z
    have hq0 : zrk rtE [] → zsz G = LC ∧ ztt G = LS ∧ Q0 [] G X := k _ _ _ _ h
    have hq := hq0 hz
    have g2 := hH.2.1
    unfold zW
    rw [e5, ← e1, ← e2, ← hq.1, ← hq.2.1]
    skip
    exact W.vret hc.1 hc.2.1 hrt (fun t ht _ => z_endQ (LC := zsz G) (LS := ztt G) (v := ([] : List zV)) hH e1 e3 hS (by simp) ⟨rfl, rfl, hz, hq.2.2⟩ t ht) (fun q hq2 => by rw [← e3]; exact hH.2.2.2.2.2.2.2.1.2.2 q hq2) hd e4
  · exact h.elim
/-! ===== a method out of its blocks ===== -/
theorem z_args (ad : Int → Nat) : ∀ (vs : List zV), (∀ v ∈ vs, z1 v = true) → (lg_sl (vs.map (zv ad))).length = vs.length ∧ ∀ (i0 i : Nat) (v : zV), vs[i]? = some v → (i0 + i, zv ad v) ∈ lv_args i0 (vs.map (zv ad))
  | [], _ => ⟨rfl, fun i0 i v h => by simp at h⟩
  | u :: vs, h => by
    obtain ⟨h1, h2⟩ := z_args ad vs (fun v hv => h v (List.mem_cons_of_mem _ hv))
    have hu := z1_cat (ad := ad) (h u List.mem_cons_self)
    refine ⟨?_, fun i0 i v hi => ?_⟩
    · unfold lg_sl at h1 ⊢
      rw [List.map_cons, List.flatMap_cons, List.length_append, h1]
      simp [hu, Nat.add_comm]
    · rw [List.map_cons]
      unfold lv_args
      rw [if_neg (by rw [hu]; omega)]
      rcases i with _ | i
      · cases hi
        exact List.mem_cons_self
      · refine List.mem_cons_of_mem _ ?_
        have := h2 (i0 + 1) i v hi
        rw [show i0 + (i + 1) = i0 + 1 + i by omega]
        exact this
/-- from what its blocks do, to its contract: 'blocks' gives it label by label -/
theorem zSnd_of {y : MethodName} {bytes : ByteArray} {nL fr lo : Nat} {ret : Option FieldType} {own : String} {B : Nat → Nat → (Nat → zK) → Nat → zK} (hy : plainName y.cls = true) (hown : y.cls = own)
    (blocks : ∀ (E : zE) (LC LS : Nat) (Q : List zV → zG → zX → Prop), zCx E bytes own nL fr lo → zXt (ead E) (eA E) (es E) → zEd E Q → (eh E).sig.returnType = ret → (eh E).name = y.name → LC - esz E ≤ (eR E).cells → LS - ett E ≤ (eR E).slots →
      ∀ Y : Nat → zK, (∀ (n : Nat) (ls st : List zV) (G : zG) (X : zX), Y n ls st G X → zPt E nL Q n ls st G X) → ∀ (n : Nat) (ls st : List zV) (G : zG) (X : zX), B LC LS Y n ls st G X → zPt E nL Q n ls st G X) :
    zSnd y bytes nL ret fr lo (fun LC LS vs G X Q => zC (B LC LS) nL vs G X Q) := by
  intro l V ad0 hsz LC LS vs G X Q hvl hvs hok hLC hLS hC
  refine Met.ofW (cc := bytes) (maxL := nL) (ret := ret) hy rfl ?_
  intro p e s m args below meth c s₁ Bd hml hv
  obtain ⟨rfl, hsz1, hK, hP, hD, hPx, hXt⟩ := hv
  subst hsz1
  have hts : ∀ w ∈ zTb, w.before (vs.map (zv ad0)).toArray s = true := fun w hw => atoms_spec (ws := Cond.code y bytes nL ret :: zTb) Bd.pre w (List.mem_cons_of_mem _ hw)
  have hwn : s.vm.findClass own = some m.cls := by rw [← hown]; exact findClass_of_methodNamed Bd.named
  let E : zE := (p, l, e, (headSpec (Cond.code y bytes nL ret :: zTb) ({ frames := fr, cells := LC - zsz G, slots := LS - ztt G, locals := lo } : Room)).room, s, m, (vs.map (zv ad0)).toArray, below, meth, c, MQ below (zQc V ad0 s.heap.size LC LS G X (fun v G' X' => zrk ret v ∧ Q v G' X')) (vs.map (zv ad0)).toArray s (LC - zsz G) (LS - ztt G) (va_A (zws zft V ad0 G X) s.heap.size), V, va_A (zws zft V ad0 G X) s.heap.size, ad0, zsz G, ztt G)
  have hc : zCx E bytes own nL fr lo := ⟨Bd.exec, Bd.bytes, hml, hwn, hts, rfl, rfl, hK, fun q hq => Or.inr hq, hXt.1⟩
  have hEd : zEd E (fun v G' X' => zrk ret v → zsz G' = LC ∧ ztt G' = LS ∧ Q v G' X') := ⟨LC, LS, G, X, Q, ret, Bd.returns, rfl, rfl, rfl, rfl, Bd.notSynchronized, rfl⟩
  have hb := blocks E LC LS (fun v G' X' => zrk ret v → zsz G' = LC ∧ ztt G' = LS ∧ Q v G' X') hc hXt hEd Bd.returns (name_of_methodNamed Bd.named Bd.method).1 (Nat.le_refl _) (Nat.le_refl _)
  have hw : zAt E nL 0 (vs ++ List.replicate (nL - vs.length) zT) [] G X := by
    rw [← zPt_at (E := E) (nL := nL) (n := 0) (Q := fun v G' X' => zrk ret v → zsz G' = LC ∧ ztt G' = LS ∧ Q v G' X') (by omega)]
    refine hC (zPt E nL (fun v G' X' => zrk ret v → zsz G' = LC ∧ ztt G' = LS ∧ Q v G' X')) hb (fun n ls ls' st G1 X1 hf h => ?_) (fun ls st G1 X1 h => ?_)
    · by_cases hn : n = 65535
      · subst hn; exact h
      · rw [zPt_at hn] at h ⊢
        intro ad H locs lsr hH hL hS
        exact h ad H locs lsr hH (zLc_fg hL hf) hS
    · show zrk ret st → zsz G1 = LC ∧ ztt G1 = LS ∧ Q st G1 X1
      exact fun _ => h
  have hHp : zHp E ad0 G X s.heap [] := ⟨fun _ _ => rfl, Nat.le_refl _, Nat.le_refl _, by show zsz G - zsz G ≤ _; omega, by show ztt G - ztt G ≤ _; omega, hP, hD.self, va_S.rf, hok, hPx⟩
  obtain ⟨hl1, hl2⟩ := z_args ad0 vs (fun v hv => (hvs v hv).2)
  have hent := lv_entry (vs.map (zv ad0)) (n := nL) (by rw [hl1]; exact hvl)
  rw [lg_entry_eq]
  have hLc : zLc ad0 (zsz G) nL (vs ++ List.replicate (nL - vs.length) zT) ((lg_sl (vs.map (zv ad0)) ++ List.replicate (nL - (lg_sl (vs.map (zv ad0))).length) Slot.unset).toArray) := by
    refine ⟨hent.1, hent.2.1, by rw [List.length_append, List.length_replicate]; omega, fun i v hi => ?_⟩
    by_cases h : i < vs.length
    · rw [List.getElem?_append_left h] at hi
      have hm := hl2 0 i v hi
      rw [Nat.zero_add] at hm
      exact Or.inr ⟨(hvs v (List.mem_of_getElem? hi)).1, hent.2.2 _ hm⟩
    · rw [List.getElem?_append_right (by omega)] at hi
      exact Or.inl (List.eq_of_mem_replicate (List.mem_of_getElem? hi))
  have hW := hw ad0 s.heap [] _ hHp hLc (fun v hv => by cases hv)
  unfold zW at hW
  rw [show zsz G - esz E = 0 by show zsz G - zsz G = 0; omega, show ztt G - ett E = 0 by show ztt G - ztt G = 0; omega] at hW
  exact hW
