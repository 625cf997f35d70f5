/-! ===== what the law's start gives (wip/whole/gen_start.py; the first words are the skeleton's) ===== -/
def R_law : String := "PretendDeskLaw"
def lw_P (b : Addr) (xs : List Int32) (args : Array Value) (s : State) : Prop := args = #[.ref b] ∧ s.IntsAt b xs ∧ xs.length ≤ 3072 ∧ (Jvm.Cond.and given_1 narrow_1).before args s = true
def lw_Q (_ : Array Value) (s : State) (o : Outcome) (t : State) : Prop := o = .returned (some (.int 1)) ∧ Framed s o t [] 969211 6194615
def lw_Z (below : List Frame) (a : Array Value) (s : State) : State → Prop := fun t => ∃ o, t.status = .running ∧ Ended t below o ∧ lw_Q a s o t
/-- the law's own end, with 1 on the stack, nothing written that was there before, its room as the claim has it -/
theorem lw_ret {p : Program} {l : Launch} {e : Env} {s : State} {m : MethodId} {below : List Frame} {meth : Method} {c : Code} {b : Nat} (hx : p.tables.exec = Jvm.exec) (hb : c.code = code) (hr : meth.sig.returnType = ret) (hlocks : meth.locks = false) {pc : Nat} {H : Heap} {ls : Array Slot} (hdg : decode code pc = .ok (.ireturn, 1)) : W p l e room_1 s m #[Value.ref b] below meth c H [] 969211 6194615 (lw_Z below #[Value.ref b] s) (F0 m pc ls [.int 1]) := by
  intro T hT X
  obtain ⟨fs, hret, hrun, hended, hW, hframe⟩ := X.leave (v := some (.int 1)) (hlocks := hlocks) (fun h => by rw [hr] at h; cases h)
  have hmeth' : T.vm.method? m = some meth := X.method'
  refine ⟨T.setFrames fs, ?_, .returned (some (.int 1)), hrun, hended, rfl, ⟨_, rfl⟩, hW, hframe⟩
  jvm_step X.here [X.here.top, hx, hb, hdg, hmeth', hr, ret, narrow_b1]
  (try refine ⟨rfl, ?_⟩); (try refine ⟨rfl, ?_⟩)
  first | (intro acts; rw [hret _ acts rfl rfl rfl]) | rw [hret _ _ rfl rfl rfl]
  exact Steps.refl _
/-- what holds at the law's entry: the machine, the code, the tables' words (any of lw_tbl by 'hts w (by decide +kernel)'), the script of L ints xs at the cell b, what the Statement gives of the start (any of its parts by flat_of_before) -/
def lw_At (p : Program) (s : State) (m : MethodId) (meth : Method) (c : Code) (b L : Nat) (xs : Nat → Int32) : Prop :=
  p.tables.exec = Jvm.exec ∧ c.code = code ∧ meth.sig.returnType = ret ∧ c.maxLocals = 4 ∧ s.vm.findClass R_law = some m.cls ∧ (∀ w ∈ lw_tbl, w.before #[Value.ref b] s = true) ∧ va_X b L xs s s.heap ∧ b < s.heap.size ∧ meth.locks = false ∧ (Jvm.Cond.and given_1 narrow_1).before #[Value.ref b] s = true
/-- the heap at the start: no cell of ours; the constant text and its bytes -/
def wsG : zG := (fun a => if a = -3 then 15 else if a = -4 then 53 else -1, fun a => if a = -4 then 79 else 0, fun a j => if a = -3 ∧ j = 0 then -4 else -1, 0, 0)
def wsX : zX := fun a j => if a = -4 then zWt j else 0
theorem zWt_b (i : Int) : 0 ≤ zWt i ∧ zWt i ≤ 127 := by
  have key : ∀ n : Fin 79, 0 ≤ zWt (n.val : Int) ∧ zWt (n.val : Int) ≤ 127 := by decide +kernel
  by_cases h : i.toNat < 79
  · have z := key ⟨i.toNat, h⟩
    have e : zWt ((i.toNat : Nat) : Int) = zWt i := by
      unfold zWt
      rw [Int.toNat_natCast]
    rw [← e]
    exact z
  · unfold zWt
    rw [List.getD_eq_getElem?_getD, List.getElem?_eq_none (by show 79 ≤ i.toNat; omega)]
    exact ⟨Int.le_refl _, by decide⟩
theorem ws_ok : zokH wsG wsX := by
  have hx : ∀ a j, 0 ≤ wsX a j ∧ wsX a j ≤ 127 := fun a j => by
    unfold wsX
    split
    · exact zWt_b j
    · omega
  have k : ∀ a : Int, zkd wsG a = if a = -3 then 15 else if a = -4 then 53 else -1 := fun _ => rfl
  refine ⟨fun a j => ?_, fun a j h => ?_, fun a j h => ?_, fun a j h => ?_, fun a h => ?_, fun a => ?_, fun a j => ?_⟩
  · have := hx a j
    unfold zin
    omega
  · have := hx a j
    omega
  · rw [k] at h
    split at h
    · omega
    · split at h <;> omega
  · have := hx a j
    omega
  · rw [k] at h ⊢
    split at h
    · rename_i e
      exact Or.inr (Or.inl ⟨e, by rw [if_pos e]⟩)
    · rename_i e
      split at h
      · rename_i e2
        exact Or.inr (Or.inr ⟨e2, by rw [if_neg e, if_pos e2]⟩)
      · omega
  · show 0 ≤ (if a = -4 then (79 : Int) else 0) ∧ (if a = -4 then (79 : Int) else 0) ≤ 100000
    split <;> omega
  · show (if a = -3 ∧ j = 0 then (-4 : Int) else -1) < ((0 : Nat) : Int)
    split <;> omega
theorem ws_x0 (V : zVM) (ad : Int → Nat) : zxs zft V ad wsG wsX = zx0 V ad := by
  have h3 : zce zft V ad wsG wsX (-3) = .inr (15, [.ref (ad (-4)), .int 0]) := rfl
  have h4 : zce zft V ad wsG wsX (-4) = .inl (V.2 3, 79, .inl (fun i : Nat => Int32.ofInt (zWt (i : Int)))) := rfl
  unfold zxs zx0
  rw [h3, h4]
theorem ws_sel {A : Array Value} {s : State} (hts : ∀ w ∈ lw_tbl, w.before A s = true) : zXw.before A s = true := by
  have hp : (Cond.privateMethod (⟨"java/lang/AbstractStringBuilder", "ensureCapacityInternal", "(I)V"⟩ : MethodName)).before A s = true := hts _ (zT3 (List.mem_of_getElem? (i := 99) (by decide +kernel)))
  have hi : (Cond.instanceMethod (⟨"java/lang/AbstractStringBuilder", "ensureCapacityInternal", "(I)V"⟩ : MethodName)).before A s = true := hts _ (zT3 (List.mem_of_getElem? (i := 100) (by decide +kernel)))
  have hs : (Cond.selects "java/lang/StringBuilder" (⟨"java/lang/AbstractStringBuilder", "isLatin1", "()Z"⟩ : MethodName) (⟨"java/lang/AbstractStringBuilder", "isLatin1", "()Z"⟩ : MethodName)).before A s = true := hts _ (zT3 (List.mem_of_getElem? (i := 136) (by decide +kernel)))
  obtain ⟨mk, methM, hnamed, hmethM, -, -⟩ := Cond.instanceMethod_spec hi
  have hfound := State.methodFound?_of_named hnamed ⟨by decide, by decide⟩
  have hsel0 : ∀ (vm : Vm) (c : ClassId), vm.method? mk = some methM → selectMethod {} vm c mk = .method mk := fun vm c h => selectMethod_private h (Cond.privateMethod_at hp mk methM hnamed hmethM)
  simp only [Cond.before, Cond.holds, Cond.value] at hs
  cases hc : s.vm.findClass "java/lang/StringBuilder" with
  | none => simp [hc] at hs
  | some c =>
    cases hr : s.methodFound? "java/lang/AbstractStringBuilder" "isLatin1" "()Z" with
    | none => simp [hc, hr] at hs
    | some r =>
      cases hm : s.methodNamed? (⟨"java/lang/AbstractStringBuilder", "isLatin1", "()Z"⟩ : MethodName) with
      | none => simp [hc, hr, hm] at hs
      | some m1 =>
        have hni : (s.vm.classes[m1.cls]?).any (fun k => !k.isInterface) = true := by
          simp only [hc, hr, hm] at hs
          cases hx : selectMethod {} s.vm c r with
          | method m' => simp [hx] at hs; simp [hs]
          | _ => simp [hx] at hs
        have hc1 : s.vm.findClass "java/lang/AbstractStringBuilder" = some mk.cls := findClass_of_methodNamed hnamed
        have hc2 : s.vm.findClass "java/lang/AbstractStringBuilder" = some m1.cls := findClass_of_methodNamed hm
        have hcls : mk.cls = m1.cls := Option.some.inj (hc1.symm.trans hc2)
        unfold zXw
        simp only [Cond.before, Cond.holds, Cond.value, hc, hfound, hnamed, hsel0 s.vm c hmethM]
        rw [hcls]
        simp [hni]
theorem ws_k0 {A : Array Value} {s : State} (hts : ∀ w ∈ lw_tbl, w.before A s = true) (hz : ∀ w ∈ zTb, w.before A s = true) : ∃ (cC : ClassId) (iS : Nat → Nat), u_Kn s zn0 zt0 10 cC iS := u_known (n := 10) hz zcf0.2.1 (hts (Cond.instantiable "PretendDesk" 10) (zT1 (List.mem_of_getElem? (i := 26) (by decide +kernel))))
theorem ws_k1 {A : Array Value} {s : State} (hts : ∀ w ∈ lw_tbl, w.before A s = true) (hz : ∀ w ∈ zTb, w.before A s = true) : ∃ (cC : ClassId) (iS : Nat → Nat), u_Kn s zn1 zt1 17 cC iS := u_known (n := 17) hz zcf1.2.1 (hts (Cond.instantiable "PretendDesk$Told" 17) (zT1 (List.mem_of_getElem? (i := 34) (by decide +kernel))))
theorem ws_k2 {A : Array Value} {s : State} (hts : ∀ w ∈ lw_tbl, w.before A s = true) (hz : ∀ w ∈ zTb, w.before A s = true) : ∃ (cC : ClassId) (iS : Nat → Nat), u_Kn s zn2 zt2 11 cC iS := u_known (n := 11) hz zcf2.2.1 (hts (Cond.instantiable "PretendDesk$Tape" 11) (zT1 (List.mem_of_getElem? (i := 40) (by decide +kernel))))
theorem ws_k3 {A : Array Value} {s : State} (hts : ∀ w ∈ lw_tbl, w.before A s = true) (hz : ∀ w ∈ zTb, w.before A s = true) : ∃ (cC : ClassId) (iS : Nat → Nat), u_Kn s zn3 zt3 4 cC iS := u_known (n := 4) hz zcf3.2.1 (hts (Cond.instantiable "PretendDesk$House" 4) (zT1 (List.mem_of_getElem? (i := 161) (by decide +kernel))))
theorem ws_k4 {A : Array Value} {s : State} (hts : ∀ w ∈ lw_tbl, w.before A s = true) (hz : ∀ w ∈ zTb, w.before A s = true) : ∃ (cC : ClassId) (iS : Nat → Nat), u_Kn s zn4 zt4 9 cC iS := u_known (n := 9) hz zcf4.2.1 (hts (Cond.instantiable "PretendDesk$Came" 9) (zT1 (List.mem_of_getElem? (i := 204) (by decide +kernel))))
theorem ws_k5 {A : Array Value} {s : State} (hts : ∀ w ∈ lw_tbl, w.before A s = true) (hz : ∀ w ∈ zTb, w.before A s = true) : ∃ (cC : ClassId) (iS : Nat → Nat), u_Kn s zn5 zt5 2 cC iS := u_known (n := 2) hz zcf5.2.1 (hts (Cond.instantiable "PretendDesk$Page" 2) (zT1 (List.mem_of_getElem? (i := 168) (by decide +kernel))))
theorem ws_k6 {A : Array Value} {s : State} (hts : ∀ w ∈ lw_tbl, w.before A s = true) (hz : ∀ w ∈ zTb, w.before A s = true) : ∃ (cC : ClassId) (iS : Nat → Nat), u_Kn s zn6 zt6 9 cC iS := u_known (n := 9) hz zcf6.2.1 (hts (Cond.instantiable "PretendDesk$Speech" 9) (zT1 (List.mem_of_getElem? (i := 124) (by decide +kernel))))
theorem ws_k7 {A : Array Value} {s : State} (hts : ∀ w ∈ lw_tbl, w.before A s = true) (hz : ∀ w ∈ zTb, w.before A s = true) : ∃ (cC : ClassId) (iS : Nat → Nat), u_Kn s zn7 zt7 6 cC iS := u_known (n := 6) hz zcf7.2.1 (hts (Cond.instantiable "PretendDesk$Opened" 6) (zT2 (List.mem_of_getElem? (i := 95) (by decide +kernel))))
theorem ws_k8 {A : Array Value} {s : State} (hts : ∀ w ∈ lw_tbl, w.before A s = true) (hz : ∀ w ∈ zTb, w.before A s = true) : ∃ (cC : ClassId) (iS : Nat → Nat), u_Kn s zn8 zt8 7 cC iS := u_known (n := 7) hz zcf8.2.1 (hts (Cond.instantiable "PretendDesk$Room" 7) (zT2 (List.mem_of_getElem? (i := 89) (by decide +kernel))))
theorem ws_k9 {A : Array Value} {s : State} (hts : ∀ w ∈ lw_tbl, w.before A s = true) (hz : ∀ w ∈ zTb, w.before A s = true) : ∃ (cC : ClassId) (iS : Nat → Nat), u_Kn s zn9 zt9 7 cC iS := u_known (n := 7) hz zcf9.2.1 (hts (Cond.instantiable "PretendDesk$Forger" 7) (zT2 (List.mem_of_getElem? (i := 153) (by decide +kernel))))
theorem ws_k10 {A : Array Value} {s : State} (hts : ∀ w ∈ lw_tbl, w.before A s = true) (hz : ∀ w ∈ zTb, w.before A s = true) : ∃ (cC : ClassId) (iS : Nat → Nat), u_Kn s zn10 zt10 14 cC iS := u_known (n := 14) hz zcf10.2.1 (hts (Cond.instantiable "PretendDesk$Best" 14) (zT2 (List.mem_of_getElem? (i := 186) (by decide +kernel))))
theorem ws_k11 {A : Array Value} {s : State} (hts : ∀ w ∈ lw_tbl, w.before A s = true) (hz : ∀ w ∈ zTb, w.before A s = true) : ∃ (cC : ClassId) (iS : Nat → Nat), u_Kn s zn11 zt11 4 cC iS := u_known (n := 4) hz zcf11.2.1 (hts (Cond.instantiable "PretendDesk$Runner" 4) (zT2 (List.mem_of_getElem? (i := 235) (by decide +kernel))))
theorem ws_k12 {A : Array Value} {s : State} (hts : ∀ w ∈ lw_tbl, w.before A s = true) (hz : ∀ w ∈ zTb, w.before A s = true) : ∃ (cC : ClassId) (iS : Nat → Nat), u_Kn s zn12 zt12 49 cC iS := u_known (n := 49) hz zcf12.2.1 (hts (Cond.instantiable "PretendDeskModel" 49) (zT6 (List.mem_of_getElem? (i := 180) (by decide +kernel))))
theorem ws_k13 {A : Array Value} {s : State} (hts : ∀ w ∈ lw_tbl, w.before A s = true) (hz : ∀ w ∈ zTb, w.before A s = true) : ∃ (cC : ClassId) (iS : Nat → Nat), u_Kn s zn13 zt13 4 cC iS := u_known (n := 4) hz zcf13.2.1 (hts (Cond.instantiable "java/lang/String" 4) (zT3 (List.mem_of_getElem? (i := 211) (by decide +kernel))))
theorem ws_k14 {A : Array Value} {s : State} (hts : ∀ w ∈ lw_tbl, w.before A s = true) (hz : ∀ w ∈ zTb, w.before A s = true) : ∃ (cC : ClassId) (iS : Nat → Nat), u_Kn s zn14 zt14 4 cC iS := u_known (n := 4) hz zcf14.2.1 (hts (Cond.instantiable "java/lang/StringBuilder" 4) (zT1 (List.mem_of_getElem? (i := 46) (by decide +kernel))))
theorem ws_k15 {A : Array Value} {s : State} (hts : ∀ w ∈ lw_tbl, w.before A s = true) (hz : ∀ w ∈ zTb, w.before A s = true) : ∃ (cC : ClassId) (iS : Nat → Nat), u_Kn s zn15 zt15 2 cC iS := u_known (n := 4) hz zcf15.2.1 (hts (Cond.instantiable "java/lang/String" 4) (zT3 (List.mem_of_getElem? (i := 211) (by decide +kernel))))
theorem ws_a {A : Array Value} {s : State} {ty : FieldType} (h : (Cond.arrayClass ty).before A s = true) (hp : ∀ cA, s.vm.findClass ("[" ++ ty.toString) = some cA → va_RA s cA ty) : ∃ cA : ClassId, ArrOfT s cA ty ∧ va_RA s cA ty := by
  obtain ⟨c, k, comp, h1, h2, h3⟩ := Cond.arrayClass_spec h
  exact ⟨c, fun n z => ⟨fun k h => (by cases h), k, h2, comp, h3⟩, hp c h1⟩
theorem ws_r {A : Array Value} {s : State} {C : String} (h : (Cond.arrayOver (.object C)).before A s = true) : ∃ cA : ClassId, ArrOfT s cA (.object C) ∧ va_RA s cA (.object C) := by
  obtain ⟨comp, c, k, h1, -, h3, h4, h5⟩ := Cond.arrayOver_spec h
  exact ⟨c, fun n z => ⟨fun k h => (by cases h), k, h3, comp, h4⟩, k, comp, h3, h4, h1, h5⟩
theorem ws_K {A : Array Value} {s : State} (hts : ∀ w ∈ lw_tbl, w.before A s = true) (hz : ∀ w ∈ zTb, w.before A s = true) : ∃ V : zVM, va_K V.1 zcl (zty V.2) s := by
  obtain ⟨c0, i0, h0⟩ := ws_k0 hts hz
  obtain ⟨c1, i1, h1⟩ := ws_k1 hts hz
  obtain ⟨c2, i2, h2⟩ := ws_k2 hts hz
  obtain ⟨c3, i3, h3⟩ := ws_k3 hts hz
  obtain ⟨c4, i4, h4⟩ := ws_k4 hts hz
  obtain ⟨c5, i5, h5⟩ := ws_k5 hts hz
  obtain ⟨c6, i6, h6⟩ := ws_k6 hts hz
  obtain ⟨c7, i7, h7⟩ := ws_k7 hts hz
  obtain ⟨c8, i8, h8⟩ := ws_k8 hts hz
  obtain ⟨c9, i9, h9⟩ := ws_k9 hts hz
  obtain ⟨c10, i10, h10⟩ := ws_k10 hts hz
  obtain ⟨c11, i11, h11⟩ := ws_k11 hts hz
  obtain ⟨c12, i12, h12⟩ := ws_k12 hts hz
  obtain ⟨c13, i13, h13⟩ := ws_k13 hts hz
  obtain ⟨c14, i14, h14⟩ := ws_k14 hts hz
  obtain ⟨c15, i15, h15⟩ := ws_k15 hts hz
  obtain ⟨a0, g0, r0⟩ := ws_a (ty := .int) (hts _ (zT1 (List.mem_of_getElem? (i := 78) (by decide +kernel)))) (fun _ h => h)
  obtain ⟨a1, g1, r1⟩ := ws_a (ty := .char) (hts _ (zT1 (List.mem_of_getElem? (i := 77) (by decide +kernel)))) (fun _ h => h)
  obtain ⟨a2, g2, r2⟩ := ws_a (ty := .boolean) (hts _ (zT1 (List.mem_of_getElem? (i := 183) (by decide +kernel)))) (fun _ h => h)
  obtain ⟨a3, g3, r3⟩ := ws_a (ty := .byte) (hts _ (zT1 (List.mem_of_getElem? (i := 79) (by decide +kernel)))) (fun _ h => h)
  obtain ⟨a4, g4, r4⟩ := ws_r (C := "PretendDesk$Told") (hts _ (zT2 (List.mem_of_getElem? (i := 87) (by decide +kernel))))
  obtain ⟨a5, g5, r5⟩ := ws_r (C := "PretendDesk$House") (hts _ (zT1 (List.mem_of_getElem? (i := 120) (by decide +kernel))))
  obtain ⟨a6, g6, r6⟩ := ws_r (C := "PretendDesk$Came") (hts _ (zT1 (List.mem_of_getElem? (i := 122) (by decide +kernel))))
  obtain ⟨a7, g7, r7⟩ := ws_r (C := "PretendDesk$Page") (hts _ (zT1 (List.mem_of_getElem? (i := 167) (by decide +kernel))))
  refine ⟨((fun k => [c0, c1, c2, c3, c4, c5, c6, c7, c8, c9, c10, c11, c12, c13, c14, c15].getD k c0, fun k => [i0, i1, i2, i3, i4, i5, i6, i7, i8, i9, i10, i11, i12, i13, i14, i15].getD k i0), fun k => [a0, a1, a2, a3, a4, a5, a6, a7].getD k a0), fun k q hq => ?_, fun k q hq => ?_⟩
  · match k, hq with
    | 0, hq => cases hq; exact h0
    | 1, hq => cases hq; exact h1
    | 2, hq => cases hq; exact h2
    | 3, hq => cases hq; exact h3
    | 4, hq => cases hq; exact h4
    | 5, hq => cases hq; exact h5
    | 6, hq => cases hq; exact h6
    | 7, hq => cases hq; exact h7
    | 8, hq => cases hq; exact h8
    | 9, hq => cases hq; exact h9
    | 10, hq => cases hq; exact h10
    | 11, hq => cases hq; exact h11
    | 12, hq => cases hq; exact h12
    | 13, hq => cases hq; exact h13
    | 14, hq => cases hq; exact h14
    | 15, hq => cases hq; exact h15
    | k + 16, hq => cases hq
  · match k, hq with
    | 0, hq => cases hq; exact ⟨g0, r0⟩
    | 1, hq => cases hq; exact ⟨g1, r1⟩
    | 2, hq => cases hq; exact ⟨g2, r2⟩
    | 3, hq => cases hq; exact ⟨g3, r3⟩
    | 4, hq => cases hq; exact ⟨g4, r4⟩
    | 5, hq => cases hq; exact ⟨g5, r5⟩
    | 6, hq => cases hq; exact ⟨g6, r6⟩
    | 7, hq => cases hq; exact ⟨g7, r7⟩
    | k + 8, hq => cases hq
theorem ws_el : ∀ j : Fin 79, (flatC (Jvm.Cond.and given_1 narrow_1))[92 + j.val]? = some (Cond.eq (.elem (Term.field (Term.string "PretendDesk$Tape" 141) "java/lang/String" "value" "[B") (.int (Int32.ofNat j.val))) (.int (Int32.ofInt (zWt (j.val : Int))))) := by decide +kernel
/-- all that the walk wants of the start -/
theorem ws_all {s : State} {b : Nat} (hts : ∀ w ∈ lw_tbl, w.before #[Value.ref b] s = true) (hgv : (Jvm.Cond.and given_1 narrow_1).before #[Value.ref b] s = true) : ∃ (V : zVM) (ad : Int → Nat), va_K V.1 zcl (zty V.2) s ∧ (∀ w ∈ zTb, w.before #[Value.ref b] s = true) ∧ zXt ad (fun q => s.heap.size ≤ q) s ∧ ad (-5) = b := by
  have hz : ∀ w ∈ zTb, w.before #[Value.ref b] s = true := zTb_ok (ws_sel hts) hts
  obtain ⟨V, hK⟩ := ws_K hts hz
  have hq := flat_of_before _ hgv
  have hA : ∀ a : Nat, a < s.heap.size → ¬ (fun q => s.heap.size ≤ q) a := fun a h z => absurd h (Nat.not_lt.mpr z)
  obtain ⟨a, c, cA, kA, q1, q2, q3, q4, q5, q6, -⟩ := Cond.exactly_spec (args := #[Value.ref b]) (first := s) (o := none) (s := s) (idx := []) (t := (Term.string "PretendDesk$Tape" 141)) (cls := "java/lang/String") (hq (Cond.exactly (Term.string "PretendDesk$Tape" 141) "java/lang/String") (List.mem_of_getElem? (i := 88) (by decide +kernel)))
  obtain ⟨t, ht, hT⟩ := va_Tof (N := 79) (f := fun j : Nat => .int (Int32.ofInt (zWt (j : Int)))) (A := fun q => s.heap.size ≤ q) (by decide) (hq (Cond.arrayOf (Term.field (Term.string "PretendDesk$Tape" 141) "java/lang/String" "value" "[B") .byte) (List.mem_of_getElem? (i := 90) (by decide +kernel))) (va_eqt (hq (Cond.eq (.length (Term.field (Term.string "PretendDesk$Tape" 141) "java/lang/String" "value" "[B")) (.int (Int32.ofNat 79))) (List.mem_of_getElem? (i := 91) (by decide +kernel)))) (fun j hj => va_eqt (hq _ (List.mem_of_getElem? (ws_el ⟨j, hj⟩)))) hA
  have hO : va_O "java/lang/String" a (fun q => s.heap.size ≤ q) s s.heap := ⟨cA, q3, q5, by rw [q6]; exact q2, hA a (Array.getElem?_eq_some_iff.mp q3).1⟩
  have hC : va_OF "java/lang/String" "coder" "B" (.int 0) a (fun q => s.heap.size ≤ q) s s.heap := vk_OFof q1 (va_eqt (hq (Cond.eq (.field (Term.string "PretendDesk$Tape" 141) "java/lang/String" "coder" "B") (.int 0)) (List.mem_of_getElem? (i := 89) (by decide +kernel)))) hA
  have hV : va_OF "java/lang/String" "value" "[B" (.ref t) a (fun q => s.heap.size ≤ q) s s.heap := vk_OFof q1 ht hA
  have t1 : t < s.heap.size := by
    obtain ⟨cell, g1, -⟩ := hT
    exact (Array.getElem?_eq_some_iff.mp g1).1
  have a1 : a < s.heap.size := (Array.getElem?_eq_some_iff.mp q3).1
  have hF := va_Zqof (A := fun q => s.heap.size ≤ q) (hts _ (zT3 (List.mem_of_getElem? (i := 181) (by decide +kernel)))) (hts _ (zT1 (List.mem_of_getElem? (i := 23) (by decide +kernel)))) (hq (Cond.isRef (.static "jdk/internal/util/Preconditions" "SIOOBE_FORMATTER" "Ljava/util/function/BiFunction;")) (List.mem_of_getElem? (i := 5) (by decide +kernel))) hA
  obtain ⟨f, hF⟩ : ∃ f : Nat, va_Z "jdk/internal/util/Preconditions" "SIOOBE_FORMATTER" "Ljava/util/function/BiFunction;" .null (fun q => s.heap.size ≤ q) s s.heap ∨ va_Z "jdk/internal/util/Preconditions" "SIOOBE_FORMATTER" "Ljava/util/function/BiFunction;" (.ref f) (fun q => s.heap.size ≤ q) s s.heap := by
    rcases hF with h | ⟨f, h⟩
    · exact ⟨0, Or.inl h⟩
    · exact ⟨f, Or.inr h⟩
  refine ⟨V, fun k => if k = -2 then f else if k = -3 then a else if k = -4 then t else b, hK, hz, ⟨⟨fun k hk => ?_, hO, hC, hV, hT⟩, ?_, hF, ?_, fun q hq => ?_, fun C hC => ?_⟩, rfl⟩
  · rcases hk with rfl | rfl
    · exact ⟨a1, hA a a1⟩
    · exact ⟨t1, hA t t1⟩
  · exact va_Zof (hts _ (zT1 (List.mem_of_getElem? (i := 55) (by decide +kernel)))) (hts _ (zT1 (List.mem_of_getElem? (i := 6) (by decide +kernel)))) (va_eqi (hq (Cond.eq (.static "java/lang/String" "COMPACT_STRINGS" "Z") (.int 1)) (List.mem_of_getElem? (i := 4) (by decide +kernel)))) hA
  · exact vk_R.of (A := #[Value.ref b]) (hts (Cond.stringRef "PretendDesk$Tape" zTi zTx) (zT4 (List.mem_of_getElem? (i := 62) (by decide +kernel)))) q1
  · rcases List.mem_iff_getElem?.mp hq with ⟨k, hk⟩
    match k, hk with
    | 0, hk => cases hk; exact va_Nw.of rfl (hts (Cond.methodLinkNest "PretendDesk$Told" 11 (⟨"PretendDesk$Tape", "<init>", "()V"⟩ : MethodName) "PretendDesk") (zT1 (List.mem_of_getElem? (i := 41) (by decide +kernel))))
    | 1, hk => cases hk; exact va_Nw.of rfl (hts (Cond.methodLinkNest "PretendDesk$Told" 32 (⟨"PretendDesk$Speech", "<init>", "()V"⟩ : MethodName) "PretendDesk") (zT1 (List.mem_of_getElem? (i := 125) (by decide +kernel))))
    | 2, hk => cases hk; exact va_Nw.of rfl (hts (Cond.methodLinkNest "PretendDesk$House" 17 (⟨"PretendDesk$Page", "<init>", "()V"⟩ : MethodName) "PretendDesk") (zT1 (List.mem_of_getElem? (i := 169) (by decide +kernel))))
    | 3, hk => cases hk; exact va_Nw.of rfl (hts (Cond.methodLinkNest "PretendDesk$Told" 71 (⟨"PretendDesk$Came", "<init>", "()V"⟩ : MethodName) "PretendDesk") (zT1 (List.mem_of_getElem? (i := 205) (by decide +kernel))))
    | 4, hk => cases hk; exact va_Nw.of rfl (hts (Cond.methodLinkNest "PretendDesk$Came" 11 (⟨"PretendDesk$Page", "<init>", "()V"⟩ : MethodName) "PretendDesk") (zT1 (List.mem_of_getElem? (i := 210) (by decide +kernel))))
    | 5, hk => cases hk; exact va_Nw.of rfl (hts (Cond.methodLinkNest "PretendDesk$Room" 11 (⟨"PretendDesk$Opened", "<init>", "()V"⟩ : MethodName) "PretendDesk") (zT2 (List.mem_of_getElem? (i := 96) (by decide +kernel))))
    | 6, hk => cases hk; exact va_Nw.of rfl (hts (Cond.methodLinkNest "PretendDesk$Forger" 11 (⟨"PretendDesk$Page", "<init>", "()V"⟩ : MethodName) "PretendDesk") (zT2 (List.mem_of_getElem? (i := 159) (by decide +kernel))))
    | 7, hk => cases hk; exact va_Nw.of rfl (hts (Cond.methodLinkNest "PretendDesk" 40 (⟨"PretendDesk$Best", "<init>", "()V"⟩ : MethodName) "PretendDesk") (zT2 (List.mem_of_getElem? (i := 187) (by decide +kernel))))
    | 8, hk => cases hk; exact va_Nw.of rfl (hts (Cond.methodLinkNest "PretendDesk" 47 (⟨"PretendDesk$Runner", "<init>", "()V"⟩ : MethodName) "PretendDesk") (zT2 (List.mem_of_getElem? (i := 236) (by decide +kernel))))
    | 9, hk => cases hk; exact va_Nw.of rfl (hts (Cond.methodLinkNest "PretendDesk" 54 (⟨"PretendDesk$Page", "<init>", "()V"⟩ : MethodName) "PretendDesk") (zT3 (List.mem_of_getElem? (i := 16) (by decide +kernel))))
    | 10, hk => cases hk; exact va_Nw.of rfl (hts (Cond.methodLinkNest "PretendDesk$Tape" 48 (⟨"PretendDesk", "isLetter", "(C)Z"⟩ : MethodName) "PretendDesk") (zT3 (List.mem_of_getElem? (i := 73) (by decide +kernel))))
    | 11, hk => cases hk; exact va_Nw.of rfl (hts (Cond.methodLinkNest "PretendDesk$Tape" 52 (⟨"PretendDesk", "isDigit", "(C)Z"⟩ : MethodName) "PretendDesk") (zT3 (List.mem_of_getElem? (i := 76) (by decide +kernel))))
    | 12, hk => cases hk; exact va_Nw.of rfl (hts (Cond.methodLinkNest "PretendDesk$Tape" 74 (⟨"PretendDesk", "isBlank", "(C)Z"⟩ : MethodName) "PretendDesk") (zT4 (List.mem_of_getElem? (i := 51) (by decide +kernel))))
    | 13, hk => cases hk; exact va_Nw.of rfl (hts (Cond.methodLinkNest "PretendDesk$Forger" 68 (⟨"PretendDesk", "said", "(I)I"⟩ : MethodName) "PretendDesk") (zT5 (List.mem_of_getElem? (i := 173) (by decide +kernel))))
    | 14, hk => cases hk; exact va_Nw.of rfl (hts (Cond.methodLinkNest "PretendDesk$Speech" 60 (⟨"PretendDesk", "isLetter", "(C)Z"⟩ : MethodName) "PretendDesk") (zT6 (List.mem_of_getElem? (i := 94) (by decide +kernel))))
    | k + 15, hk => cases hk
  · rcases List.mem_iff_getElem?.mp hC with ⟨k, hk⟩
    match k, hk with
    | 0, hk => cases hk; exact va_AO.of (hts _ (zT2 (List.mem_of_getElem? (i := 87) (by decide +kernel))))
    | 1, hk => cases hk; exact va_AO.of (hts _ (zT1 (List.mem_of_getElem? (i := 120) (by decide +kernel))))
    | 2, hk => cases hk; exact va_AO.of (hts _ (zT1 (List.mem_of_getElem? (i := 122) (by decide +kernel))))
    | 3, hk => cases hk; exact va_AO.of (hts _ (zT1 (List.mem_of_getElem? (i := 167) (by decide +kernel))))
    | k + 4, hk => cases hk
