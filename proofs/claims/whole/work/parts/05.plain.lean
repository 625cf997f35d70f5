/-! ===== a walk's surroundings, and what it is to stand at a place of a method ===== -/
abbrev zE : Type := Program × Launch × Env × Room × State × MethodId × Array Value × List Frame × Method × Code × (State → Prop) × zVM × (Nat → Prop) × (Int → Nat) × Nat × Nat
abbrev ep (E : zE) : Program := E.1
abbrev el (E : zE) : Launch := E.2.1
abbrev ee (E : zE) : Env := E.2.2.1
abbrev eR (E : zE) : Room := E.2.2.2.1
abbrev es (E : zE) : State := E.2.2.2.2.1
abbrev em (E : zE) : MethodId := E.2.2.2.2.2.1
abbrev ea (E : zE) : Array Value := E.2.2.2.2.2.2.1
abbrev eb (E : zE) : List Frame := E.2.2.2.2.2.2.2.1
abbrev eh (E : zE) : Method := E.2.2.2.2.2.2.2.2.1
abbrev ec (E : zE) : Code := E.2.2.2.2.2.2.2.2.2.1
abbrev eQ (E : zE) : State → Prop := E.2.2.2.2.2.2.2.2.2.2.1
abbrev eV (E : zE) : zVM := E.2.2.2.2.2.2.2.2.2.2.2.1
abbrev eA (E : zE) : Nat → Prop := E.2.2.2.2.2.2.2.2.2.2.2.2.1
abbrev ead (E : zE) : Int → Nat := E.2.2.2.2.2.2.2.2.2.2.2.2.2.1
abbrev esz (E : zE) : Nat := E.2.2.2.2.2.2.2.2.2.2.2.2.2.2.1
abbrev ett (E : zE) : Nat := E.2.2.2.2.2.2.2.2.2.2.2.2.2.2.2
abbrev zWs (E : zE) (ad : Int → Nat) (G : zG) (X : zX) : va_W := zws zft (eV E) ad G X
def zWt (i : Int) : Int := ([98, 111, 120, 32, 102, 111, 114, 109, 32, 112, 97, 115, 115, 32, 99, 97, 114, 100, 32, 112, 105, 110, 32, 108, 111, 103, 111, 32, 116, 101, 120, 116, 32, 108, 105, 110, 107, 32, 108, 97, 110, 100, 32, 100, 97, 121, 32, 116, 111, 32, 114, 101, 97, 100, 32, 109, 105, 120, 32, 112, 117, 116, 32, 115, 101, 110, 100, 32, 105, 102, 32, 103, 111, 32, 115, 116, 111, 112, 32] : List Int).getD i.toNat 0
/-- the constant text (-3) and its bytes (-4), as the world has them -/
def zx0 (V : zVM) (ad : Int → Nat) : va_W := [(ad (-3), .inr (15, [.ref (ad (-4)), .int 0])), (ad (-4), .inl (V.2 3, 79, .inl (fun i : Nat => Int32.ofInt (zWt (i : Int)))))]
/-- where they stood at the start -/
def zK4 (ad : Int → Nat) (A : Nat → Prop) (U : State) : Prop := (∀ k : Int, k = -3 ∨ k = -4 → ad k < U.heap.size ∧ ¬ A (ad k)) ∧ va_O "java/lang/String" (ad (-3)) A U U.heap ∧ va_OF "java/lang/String" "coder" "B" (.int 0) (ad (-3)) A U U.heap ∧
  va_OF "java/lang/String" "value" "[B" (.ref (ad (-4))) (ad (-3)) A U U.heap ∧ va_T .byte (ad (-4)) 79 (fun j : Nat => .int (Int32.ofInt (zWt (j : Int)))) A U U.heap
/-- the heap holds the abstract one -/
def zHp (E : zE) (ad : Int → Nat) (G : zG) (X : zX) (H : Heap) (locs : List Loc) : Prop :=
  (∀ k : Int, k < esz E → ad k = ead E k) ∧ esz E ≤ zsz G ∧ ett E ≤ ztt G ∧ zsz G - esz E ≤ (eR E).cells ∧ ztt G - ett E ≤ (eR E).slots ∧
  va_P (eV E).1 zcl (zWs E ad G X) H ∧ va_D (eA E) (zWs E ad G X) ∧ va_S (eA E) (es E).heap H locs ∧ zokH G X ∧ zxs zft (eV E) ad G X = zx0 (eV E) ad
/-- the locals are as listed, where they are known -/
def zLc (ad : Int → Nat) (n nL : Nat) (ls : List zV) (lsr : Array Slot) : Prop := lsr.size = nL ∧ lv_wf lsr ∧ ls.length = nL ∧ ∀ (i : Nat) (v : zV), ls[i]? = some v → v = zT ∨ (zok n v ∧ lsr[i]? = some (.val (zv ad v)))
abbrev zW (E : zE) (H : Heap) (locs : List Loc) (G : zG) (g : JFrame) : Prop := W (ep E) (el E) (ee E) (eR E) (es E) (em E) (ea E) (eb E) (eh E) (ec E) H locs (zsz G - esz E) (ztt G - ett E) (eQ E) g
def zAt (E : zE) (nL pc : Nat) : zK := fun ls st G X => ∀ (ad : Int → Nat) (H : Heap) (locs : List Loc) (lsr : Array Slot),
  zHp E ad G X H locs → zLc ad (zsz G) nL ls lsr → (∀ v ∈ st, zok (zsz G) v) → zW E H locs G (F0 (em E) pc lsr (st.map (zv ad)))
/-- what is known all the way through a method: its code, its class, the words, the room for calls, the class tables, what stood before -/
def zCx (E : zE) (cc : ByteArray) (own : String) (nL fr lo : Nat) : Prop :=
  (ep E).tables.exec = Jvm.exec ∧ (ec E).code = cc ∧ (ec E).maxLocals = nL ∧ (es E).vm.findClass own = some (em E).cls ∧ (∀ w ∈ zTb, w.before (ea E) (es E) = true) ∧ (eR E).frames = fr ∧ (eR E).locals = lo ∧
  va_K (eV E).1 zcl (zty (eV E).2) (es E) ∧ (∀ q : Nat, (es E).heap.size ≤ q → eA E q) ∧ zK4 (ead E) (eA E) (es E)
theorem zLc_at {ad : Int → Nat} {n nL i : Nat} {ls : List zV} {lsr : Array Slot} {v : zV} (h : zLc ad n nL ls lsr) (hi : ls[i]? = some v) (hv : v ≠ zT) : zok n v ∧ lsr[i]? = some (.val (zv ad v)) := (h.2.2.2 i v hi).resolve_left hv
/-- the list of what is known of the locals -/
def zLl1 (ad : Int → Nat) (i : Nat) : Option zV → Option (Nat × Value)
  | none => none
  | some (.inl x) => some (i, zv ad (.inl x))
  | some (.inr (.inl x)) => some (i, zv ad (.inr (.inl x)))
  | some (.inr (.inr (.inl x))) => some (i, zv ad (.inr (.inr (.inl x))))
  | some (.inr (.inr (.inr _))) => none
def zLl (ad : Int → Nat) (ls : List zV) : List (Nat × Value) := (List.range ls.length).filterMap fun i => zLl1 ad i ls[i]?
theorem zLl_mem {ad : Int → Nat} {ls : List zV} {q : Nat × Value} (h : q ∈ zLl ad ls) : ∃ v, ls[q.1]? = some v ∧ v ≠ zT ∧ q.2 = zv ad v := by
  obtain ⟨i, -, hi⟩ := List.mem_filterMap.mp h
  generalize hv : ls[i]? = o at hi
  rcases o with _ | x | x | x | x
  · cases hi
  · cases hi; exact ⟨_, hv, (fun z => by cases z), rfl⟩
  · cases hi; exact ⟨_, hv, (fun z => by cases z), rfl⟩
  · cases hi; exact ⟨_, hv, (fun z => by cases z), rfl⟩
  · cases hi
theorem zLl_in {ad : Int → Nat} {ls : List zV} {i : Nat} {v : zV} (h : ls[i]? = some v) (hv : v ≠ zT) : (i, zv ad v) ∈ zLl ad ls := by
  refine List.mem_filterMap.mpr ⟨i, List.mem_range.mpr (List.getElem?_eq_some_iff.mp h).1, ?_⟩
  rw [h]
  rcases v with x | a | x | x
  · rfl
  · rfl
  · rfl
  · exact absurd rfl hv
theorem zLc_has {ad : Int → Nat} {n nL : Nat} {ls : List zV} {lsr : Array Slot} (h : zLc ad n nL ls lsr) : lv_has lsr nL (zLl ad ls) := by
  refine ⟨h.1, h.2.1, fun q hq => ?_⟩
  obtain ⟨v, h1, h2, h3⟩ := zLl_mem hq
  rw [h3]
  exact (zLc_at h h1 h2).2
/-- a local anew: the one below it, if it was a long, is no more known -/
def zls (ls : List zV) (i : Nat) (v : zV) : List zV := (match i with
  | 0 => ls
  | k + 1 => match ls[k]? with
    | some (.inr (.inr (.inl _))) => ls.set k zT
    | _ => ls).set i v
theorem zls_len (ls : List zV) (i : Nat) (v : zV) : (zls ls i v).length = ls.length := by
  unfold zls
  rw [List.length_set]
  split
  · rfl
  · split
    · rw [List.length_set]
    · rfl
theorem zls_at {ls : List zV} {i j : Nat} {v w : zV} (h : (zls ls i v)[j]? = some w) : (j = i ∧ w = v) ∨ w = zT ∨ (j ≠ i ∧ ls[j]? = some w ∧ ¬ (j + 1 = i ∧ (∃ x, w = zL x))) := by
  unfold zls at h
  by_cases hj : j = i
  · subst hj
    have hlt := (List.getElem?_eq_some_iff.mp h).1
    rw [List.getElem?_set_self (by rw [List.length_set] at hlt; exact hlt)] at h
    exact Or.inl ⟨rfl, (Option.some.inj h).symm⟩
  · rw [List.getElem?_set_ne (Ne.symm hj)] at h
    refine Or.inr ?_
    split at h
    · refine Or.inr ⟨hj, h, fun z => ?_⟩
      omega
    · rename_i k
      split at h
      · rename_i x hx
        by_cases hk : j = k
        · subst hk
          have hlt := (List.getElem?_eq_some_iff.mp h).1
          rw [List.getElem?_set_self (by rw [List.length_set] at hlt; exact hlt)] at h
          exact Or.inl (Option.some.inj h).symm
        · rw [List.getElem?_set_ne (Ne.symm hk)] at h
          exact Or.inr ⟨hj, h, fun z => hk (by omega)⟩
      · rename_i hx
        refine Or.inr ⟨hj, h, fun z => ?_⟩
        obtain ⟨z1, x, rfl⟩ := z
        have : j = k := by omega
        subst this
        exact hx x h
/-- after a store of a value of category 1 -/
theorem zLc_put {ad : Int → Nat} {n nL i : Nat} {ls : List zV} {lsr lsr' : Array Slot} {v : zV} {lv' : List (Nat × Value)} (h : zLc ad n nL ls lsr) (hv : zok n v)
    (he : (i, zv ad v) :: (zLl ad ls).filter (fun q => !(q.1 == i) && !(q.1 + 1 == i && q.2.category == 2)) = lv') (hh : lv_has lsr' nL lv') : zLc ad n nL (zls ls i v) lsr' := by
  subst he
  refine ⟨hh.1, hh.2.1, by rw [zls_len]; exact h.2.2.1, fun j w hw => ?_⟩
  rcases zls_at hw with ⟨rfl, rfl⟩ | rfl | ⟨h1, h2, h3⟩
  · exact Or.inr ⟨hv, hh.2.2 _ List.mem_cons_self⟩
  · exact Or.inl rfl
  · rcases h.2.2.2 j w h2 with rfl | ⟨h4, h5⟩
    · exact Or.inl rfl
    · refine Or.inr ⟨h4, ?_⟩
      by_cases ht : w = zT
      · subst ht; exact h4.elim
      refine hh.2.2 (j, zv ad w) (List.mem_cons_of_mem _ (List.mem_filter.mpr ⟨zLl_in h2 ht, ?_⟩))
      simp only [Bool.and_eq_true, Bool.not_eq_true', beq_eq_false_iff_ne, ne_eq, Bool.and_eq_false_iff]
      refine ⟨h1, ?_⟩
      by_cases hji : j + 1 = i
      · refine Or.inr ?_
        rw [zcat_v]
        rcases w with x | a | x | x
        · simp [zcat]
        · simp [zcat]
        · exact absurd ⟨hji, x, rfl⟩ h3
        · simp [zcat]
      · exact Or.inl hji
/-- a long takes two places -/
def zlsL (ls : List zV) (i : Nat) (x : Int) : List zV := (zls ls i (zL x)).set (i + 1) zT
theorem zLc_putL {ad : Int → Nat} {n nL i : Nat} {ls : List zV} {lsr lsr' : Array Slot} {x : Int} {lv' : List (Nat × Value)} (h : zLc ad n nL ls lsr) (hv : zinl x)
    (he : (i, Value.long (Int64.ofInt x)) :: (zLl ad ls).filter (fun q => !(q.1 == i) && (!(q.1 == i + 1) && !(q.1 + 1 == i && q.2.category == 2))) = lv') (hh : lv_has lsr' nL lv') : zLc ad n nL (zlsL ls i x) lsr' := by
  subst he
  refine ⟨hh.1, hh.2.1, by unfold zlsL; rw [List.length_set, zls_len]; exact h.2.2.1, fun j w hw => ?_⟩
  unfold zlsL at hw
  by_cases hj1 : j = i + 1
  · subst hj1
    have hlt := (List.getElem?_eq_some_iff.mp hw).1
    rw [List.getElem?_set_self (by rw [List.length_set] at hlt; exact hlt)] at hw
    exact Or.inl (Option.some.inj hw).symm
  rw [List.getElem?_set_ne (Ne.symm hj1)] at hw
  rcases zls_at hw with ⟨rfl, rfl⟩ | rfl | ⟨h1, h2, h3⟩
  · exact Or.inr ⟨hv, hh.2.2 _ List.mem_cons_self⟩
  · exact Or.inl rfl
  · rcases h.2.2.2 j w h2 with rfl | ⟨h4, h5⟩
    · exact Or.inl rfl
    · refine Or.inr ⟨h4, ?_⟩
      by_cases ht : w = zT
      · subst ht; exact h4.elim
      refine hh.2.2 (j, zv ad w) (List.mem_cons_of_mem _ (List.mem_filter.mpr ⟨zLl_in h2 ht, ?_⟩))
      simp only [Bool.and_eq_true, Bool.not_eq_true', beq_eq_false_iff_ne, ne_eq, Bool.and_eq_false_iff]
      refine ⟨h1, hj1, ?_⟩
      by_cases hji : j + 1 = i
      · refine Or.inr ?_
        rw [zcat_v]
        rcases w with x | a | x | x
        · simp [zcat]
        · simp [zcat]
        · exact absurd ⟨hji, x, rfl⟩ h3
        · simp [zcat]
      · exact Or.inl hji
theorem zLc_fg {ad : Int → Nat} {n nL : Nat} {ls ls' : List zV} {lsr : Array Slot} (h : zLc ad n nL ls lsr) (hf : zfg ls ls') : zLc ad n nL ls' lsr :=
  ⟨h.1, h.2.1, hf.1.trans h.2.2.1, fun i v hv => (hf.2 i v hv).elim Or.inl (fun z => h.2.2.2 i v z)⟩
def o_iadd (K : zK) : zK := fun ls st G X => match st with
  | .inl y :: .inl x :: st => K ls (zI (zw (x + y)) :: st) G X
  | _ => False
theorem z_iadd {E : zE} {cc : ByteArray} {own : String} {nL fr lo pc : Nat} {K : zK} (hc : zCx E cc own nL fr lo) (hd : decode cc pc = .ok (.iadd, 1)) (k : ∀ (ls st : List zV) (G : zG) (X : zX), K ls st G X → zAt E nL (pc + 1) ls st G X) : ∀ (ls st : List zV) (G : zG) (X : zX), o_iadd K ls st G X → zAt E nL pc ls st G X := by
  intro ls st G X h ad H locs lsr hH hL hS
  unfold o_iadd at h
  split at h
  · rename_i y x st
    obtain ⟨hy, hS⟩ := List.forall_mem_cons.mp hS
    obtain ⟨hx, hS⟩ := List.forall_mem_cons.mp hS
    refine lv_iadd hc.1 hc.2.1 hd ?_
    rw [z_add hx hy]
    exact k _ _ _ _ h ad H locs lsr hH hL (List.forall_mem_cons.mpr ⟨zw_in _, hS⟩)
  · exact h.elim
def o_isub (K : zK) : zK := fun ls st G X => match st with
  | .inl y :: .inl x :: st => K ls (zI (zw (x - y)) :: st) G X
  | _ => False
theorem z_isub {E : zE} {cc : ByteArray} {own : String} {nL fr lo pc : Nat} {K : zK} (hc : zCx E cc own nL fr lo) (hd : decode cc pc = .ok (.isub, 1)) (k : ∀ (ls st : List zV) (G : zG) (X : zX), K ls st G X → zAt E nL (pc + 1) ls st G X) : ∀ (ls st : List zV) (G : zG) (X : zX), o_isub K ls st G X → zAt E nL pc ls st G X := by
  intro ls st G X h ad H locs lsr hH hL hS
  unfold o_isub at h
  split at h
  · rename_i y x st
    obtain ⟨hy, hS⟩ := List.forall_mem_cons.mp hS
    obtain ⟨hx, hS⟩ := List.forall_mem_cons.mp hS
    refine lv_isub hc.1 hc.2.1 hd ?_
    rw [z_sub hx hy]
    exact k _ _ _ _ h ad H locs lsr hH hL (List.forall_mem_cons.mpr ⟨zw_in _, hS⟩)
  · exact h.elim
def o_imul (K : zK) : zK := fun ls st G X => match st with
  | .inl y :: .inl x :: st => K ls (zI (zw (x * y)) :: st) G X
  | _ => False
theorem z_imul {E : zE} {cc : ByteArray} {own : String} {nL fr lo pc : Nat} {K : zK} (hc : zCx E cc own nL fr lo) (hd : decode cc pc = .ok (.imul, 1)) (k : ∀ (ls st : List zV) (G : zG) (X : zX), K ls st G X → zAt E nL (pc + 1) ls st G X) : ∀ (ls st : List zV) (G : zG) (X : zX), o_imul K ls st G X → zAt E nL pc ls st G X := by
  intro ls st G X h ad H locs lsr hH hL hS
  unfold o_imul at h
  split at h
  · rename_i y x st
    obtain ⟨hy, hS⟩ := List.forall_mem_cons.mp hS
    obtain ⟨hx, hS⟩ := List.forall_mem_cons.mp hS
    refine lv_imul hc.1 hc.2.1 hd ?_
    rw [z_mul hx hy]
    exact k _ _ _ _ h ad H locs lsr hH hL (List.forall_mem_cons.mpr ⟨zw_in _, hS⟩)
  · exact h.elim
theorem zin_n0 {y : Int} (hy : zin y) (h : y ≠ 0) : ¬ Int32.ofInt y = 0 := fun z => h ((z_eq hy zin_0).mp z)
theorem zinl_0 : zinl 0 := by unfold zinl; omega
theorem zinl_n0 {y : Int} (hy : zinl y) (h : y ≠ 0) : ¬ Int64.ofInt y = 0 := fun z => h (by
  have := congrArg Int64.toInt z
  rw [z64 hy] at this
  exact this)
def o_idiv (K : zK) : zK := fun ls st G X => match st with
  | .inl y :: .inl x :: st => y ≠ 0 ∧ K ls (zI (zw (x.tdiv y)) :: st) G X
  | _ => False
theorem z_idiv {E : zE} {cc : ByteArray} {own : String} {nL fr lo pc : Nat} {K : zK} (hc : zCx E cc own nL fr lo) (hd : decode cc pc = .ok (.idiv, 1)) (k : ∀ (ls st : List zV) (G : zG) (X : zX), K ls st G X → zAt E nL (pc + 1) ls st G X) : ∀ (ls st : List zV) (G : zG) (X : zX), o_idiv K ls st G X → zAt E nL pc ls st G X := by
  intro ls st G X h ad H locs lsr hH hL hS
  unfold o_idiv at h
  split at h
  · rename_i y x st
    obtain ⟨hy, hS⟩ := List.forall_mem_cons.mp hS
    obtain ⟨hx, hS⟩ := List.forall_mem_cons.mp hS
    refine lv_idiv hc.1 hc.2.1 hd (zin_n0 hy h.1) ?_
    rw [z_div hx hy]
    exact k _ _ _ _ h.2 ad H locs lsr hH hL (List.forall_mem_cons.mpr ⟨zw_in _, hS⟩)
  · exact h.elim
theorem zw_twice_mul (a y : Int) : zw (zw a * y) = zw (a * y) := by
  rw [zw_bmod, zw_bmod, zw_bmod, Int.bmod_mul_bmod]
theorem zw_sub_zw (x a : Int) : zw (x - zw a) = zw (x - a) := by
  rw [zw_bmod, zw_bmod, zw_bmod, Int.sub_bmod_bmod]
theorem z_rem {x y : Int} (hx : zin x) (hy : zin y) : Int32.ofInt x - Int32.ofInt x / Int32.ofInt y * Int32.ofInt y = Int32.ofInt (zw (x.tmod y)) := by
  rw [z_div hx hy, z_mul (zw_in _) hy, z_sub hx (zw_in _)]
  congr 1
  have h2 := zw_sub_zw x (zw (x.tdiv y) * y)
  have h3 := zw_sub_zw x (x.tdiv y * y)
  have h4 := Int.mul_tdiv_add_tmod x y
  rw [Int.mul_comm y] at h4
  rw [h2, ← zw_sub_zw, zw_twice_mul, h3]
  congr 1
  omega
def o_irem (K : zK) : zK := fun ls st G X => match st with
  | .inl y :: .inl x :: st => y ≠ 0 ∧ K ls (zI (zw (x.tmod y)) :: st) G X
  | _ => False
theorem z_irem {E : zE} {cc : ByteArray} {own : String} {nL fr lo pc : Nat} {K : zK} (hc : zCx E cc own nL fr lo) (hd : decode cc pc = .ok (.irem, 1)) (k : ∀ (ls st : List zV) (G : zG) (X : zX), K ls st G X → zAt E nL (pc + 1) ls st G X) : ∀ (ls st : List zV) (G : zG) (X : zX), o_irem K ls st G X → zAt E nL pc ls st G X := by
  intro ls st G X h ad H locs lsr hH hL hS
  unfold o_irem at h
  split at h
  · rename_i y x st
    obtain ⟨hy, hS⟩ := List.forall_mem_cons.mp hS
    obtain ⟨hx, hS⟩ := List.forall_mem_cons.mp hS
    refine lv_irem hc.1 hc.2.1 hd (zin_n0 hy h.1) ?_
    rw [z_rem hx hy]
    exact k _ _ _ _ h.2 ad H locs lsr hH hL (List.forall_mem_cons.mpr ⟨zw_in _, hS⟩)
  · exact h.elim
def zand (x y : Int) : Int := (Int32.ofInt x &&& Int32.ofInt y).toInt
def zor (x y : Int) : Int := (Int32.ofInt x ||| Int32.ofInt y).toInt
def zxor (x y : Int) : Int := (Int32.ofInt x ^^^ Int32.ofInt y).toInt
def zshl (x y : Int) : Int := (Int32.ofInt x <<< (Int32.ofInt y &&& 31)).toInt
def zshr (x y : Int) : Int := (Int32.ofInt x >>> (Int32.ofInt y &&& 31)).toInt
def zushr (x y : Int) : Int := (((Int32.ofInt x).toUInt32 >>> ((Int32.ofInt y).toUInt32 &&& Int32.toUInt32 31)).toInt32).toInt
def o_iand (K : zK) : zK := fun ls st G X => match st with
  | .inl y :: .inl x :: st => K ls (zI (zand x y) :: st) G X
  | _ => False
theorem z_iand {E : zE} {cc : ByteArray} {own : String} {nL fr lo pc : Nat} {K : zK} (hc : zCx E cc own nL fr lo) (hd : decode cc pc = .ok (.iand, 1)) (k : ∀ (ls st : List zV) (G : zG) (X : zX), K ls st G X → zAt E nL (pc + 1) ls st G X) : ∀ (ls st : List zV) (G : zG) (X : zX), o_iand K ls st G X → zAt E nL pc ls st G X := by
  intro ls st G X h ad H locs lsr hH hL hS
  unfold o_iand at h
  split at h
  · rename_i y x st
    obtain ⟨hy, hS⟩ := List.forall_mem_cons.mp hS
    obtain ⟨hx, hS⟩ := List.forall_mem_cons.mp hS
    refine lv_iand hc.1 hc.2.1 hd ?_
    rw [z32i (x := zand x y) rfl]
    exact k _ _ _ _ h ad H locs lsr hH hL (List.forall_mem_cons.mpr ⟨z32_in _, hS⟩)
  · exact h.elim
def o_ior (K : zK) : zK := fun ls st G X => match st with
  | .inl y :: .inl x :: st => K ls (zI (zor x y) :: st) G X
  | _ => False
theorem z_ior {E : zE} {cc : ByteArray} {own : String} {nL fr lo pc : Nat} {K : zK} (hc : zCx E cc own nL fr lo) (hd : decode cc pc = .ok (.ior, 1)) (k : ∀ (ls st : List zV) (G : zG) (X : zX), K ls st G X → zAt E nL (pc + 1) ls st G X) : ∀ (ls st : List zV) (G : zG) (X : zX), o_ior K ls st G X → zAt E nL pc ls st G X := by
  intro ls st G X h ad H locs lsr hH hL hS
  unfold o_ior at h
  split at h
  · rename_i y x st
    obtain ⟨hy, hS⟩ := List.forall_mem_cons.mp hS
    obtain ⟨hx, hS⟩ := List.forall_mem_cons.mp hS
    refine lv_ior hc.1 hc.2.1 hd ?_
    rw [z32i (x := zor x y) rfl]
    exact k _ _ _ _ h ad H locs lsr hH hL (List.forall_mem_cons.mpr ⟨z32_in _, hS⟩)
  · exact h.elim
def o_ixor (K : zK) : zK := fun ls st G X => match st with
  | .inl y :: .inl x :: st => K ls (zI (zxor x y) :: st) G X
  | _ => False
theorem z_ixor {E : zE} {cc : ByteArray} {own : String} {nL fr lo pc : Nat} {K : zK} (hc : zCx E cc own nL fr lo) (hd : decode cc pc = .ok (.ixor, 1)) (k : ∀ (ls st : List zV) (G : zG) (X : zX), K ls st G X → zAt E nL (pc + 1) ls st G X) : ∀ (ls st : List zV) (G : zG) (X : zX), o_ixor K ls st G X → zAt E nL pc ls st G X := by
  intro ls st G X h ad H locs lsr hH hL hS
  unfold o_ixor at h
  split at h
  · rename_i y x st
    obtain ⟨hy, hS⟩ := List.forall_mem_cons.mp hS
    obtain ⟨hx, hS⟩ := List.forall_mem_cons.mp hS
    refine lv_ixor hc.1 hc.2.1 hd ?_
    rw [z32i (x := zxor x y) rfl]
    exact k _ _ _ _ h ad H locs lsr hH hL (List.forall_mem_cons.mpr ⟨z32_in _, hS⟩)
  · exact h.elim
def o_ishl (K : zK) : zK := fun ls st G X => match st with
  | .inl y :: .inl x :: st => K ls (zI (zshl x y) :: st) G X
  | _ => False
theorem z_ishl {E : zE} {cc : ByteArray} {own : String} {nL fr lo pc : Nat} {K : zK} (hc : zCx E cc own nL fr lo) (hd : decode cc pc = .ok (.ishl, 1)) (k : ∀ (ls st : List zV) (G : zG) (X : zX), K ls st G X → zAt E nL (pc + 1) ls st G X) : ∀ (ls st : List zV) (G : zG) (X : zX), o_ishl K ls st G X → zAt E nL pc ls st G X := by
  intro ls st G X h ad H locs lsr hH hL hS
  unfold o_ishl at h
  split at h
  · rename_i y x st
    obtain ⟨hy, hS⟩ := List.forall_mem_cons.mp hS
    obtain ⟨hx, hS⟩ := List.forall_mem_cons.mp hS
    refine lv_ishl hc.1 hc.2.1 hd ?_
    rw [z32i (x := zshl x y) rfl]
    exact k _ _ _ _ h ad H locs lsr hH hL (List.forall_mem_cons.mpr ⟨z32_in _, hS⟩)
  · exact h.elim
def o_ishr (K : zK) : zK := fun ls st G X => match st with
  | .inl y :: .inl x :: st => K ls (zI (zshr x y) :: st) G X
  | _ => False
theorem z_ishr {E : zE} {cc : ByteArray} {own : String} {nL fr lo pc : Nat} {K : zK} (hc : zCx E cc own nL fr lo) (hd : decode cc pc = .ok (.ishr, 1)) (k : ∀ (ls st : List zV) (G : zG) (X : zX), K ls st G X → zAt E nL (pc + 1) ls st G X) : ∀ (ls st : List zV) (G : zG) (X : zX), o_ishr K ls st G X → zAt E nL pc ls st G X := by
  intro ls st G X h ad H locs lsr hH hL hS
  unfold o_ishr at h
  split at h
  · rename_i y x st
    obtain ⟨hy, hS⟩ := List.forall_mem_cons.mp hS
    obtain ⟨hx, hS⟩ := List.forall_mem_cons.mp hS
    refine lv_ishr hc.1 hc.2.1 hd ?_
    rw [z32i (x := zshr x y) rfl]
    exact k _ _ _ _ h ad H locs lsr hH hL (List.forall_mem_cons.mpr ⟨z32_in _, hS⟩)
  · exact h.elim
def o_iushr (K : zK) : zK := fun ls st G X => match st with
  | .inl y :: .inl x :: st => K ls (zI (zushr x y) :: st) G X
  | _ => False
theorem z_iushr {E : zE} {cc : ByteArray} {own : String} {nL fr lo pc : Nat} {K : zK} (hc : zCx E cc own nL fr lo) (hd : decode cc pc = .ok (.iushr, 1)) (k : ∀ (ls st : List zV) (G : zG) (X : zX), K ls st G X → zAt E nL (pc + 1) ls st G X) : ∀ (ls st : List zV) (G : zG) (X : zX), o_iushr K ls st G X → zAt E nL pc ls st G X := by
  intro ls st G X h ad H locs lsr hH hL hS
  unfold o_iushr at h
  split at h
  · rename_i y x st
    obtain ⟨hy, hS⟩ := List.forall_mem_cons.mp hS
    obtain ⟨hx, hS⟩ := List.forall_mem_cons.mp hS
    refine lv_iushr hc.1 hc.2.1 hd rfl ?_
    rw [z32i (x := zushr x y) rfl]
    exact k _ _ _ _ h ad H locs lsr hH hL (List.forall_mem_cons.mpr ⟨z32_in _, hS⟩)
  · exact h.elim
def o_ineg (K : zK) : zK := fun ls st G X => match st with
  | .inl x :: st => K ls (zI (zw (-x)) :: st) G X
  | _ => False
theorem z_ineg {E : zE} {cc : ByteArray} {own : String} {nL fr lo pc : Nat} {K : zK} (hc : zCx E cc own nL fr lo) (hd : decode cc pc = .ok (.ineg, 1)) (k : ∀ (ls st : List zV) (G : zG) (X : zX), K ls st G X → zAt E nL (pc + 1) ls st G X) : ∀ (ls st : List zV) (G : zG) (X : zX), o_ineg K ls st G X → zAt E nL pc ls st G X := by
  intro ls st G X h ad H locs lsr hH hL hS
  unfold o_ineg at h
  split at h
  · rename_i x st
    obtain ⟨hx, hS⟩ := List.forall_mem_cons.mp hS
    refine lv_ineg hc.1 hc.2.1 hd ?_
    rw [z_neg hx]
    exact k _ _ _ _ h ad H locs lsr hH hL (List.forall_mem_cons.mpr ⟨zw_in _, hS⟩)
  · exact h.elim
theorem zq_i2c {x : Int} (hx : zin x) : ((Int32.ofInt x).toUInt32 % 65536).toInt32 = Int32.ofInt (x % 65536) := by
  rw [pk_char]
  apply z32i
  rw [nI_toInt (by omega)]
  have e : (Int32.ofInt x).toBitVec.toNat = (x % 4294967296).toNat := by
    show (BitVec.ofInt 32 x).toNat = _
    rw [BitVec.toNat_ofInt]
    rfl
  rw [e]
  omega
theorem zq_i2b {x : Int} (hx : zin x) : (Int32.ofInt x).toInt8.toInt32 = Int32.ofInt ((x + 128) % 256 - 128) := by
  apply z32i
  rw [Int8.toInt_toInt32, Int32.toInt_toInt8, z32 hx, Int.bmod_def]
  split <;> omega
def o_i2c (K : zK) : zK := fun ls st G X => match st with
  | .inl x :: st => K ls (zI (x % 65536) :: st) G X
  | _ => False
theorem z_i2c {E : zE} {cc : ByteArray} {own : String} {nL fr lo pc : Nat} {K : zK} (hc : zCx E cc own nL fr lo) (hd : decode cc pc = .ok (.i2c, 1)) (k : ∀ (ls st : List zV) (G : zG) (X : zX), K ls st G X → zAt E nL (pc + 1) ls st G X) : ∀ (ls st : List zV) (G : zG) (X : zX), o_i2c K ls st G X → zAt E nL pc ls st G X := by
  intro ls st G X h ad H locs lsr hH hL hS
  unfold o_i2c at h
  split at h
  · rename_i x st
    obtain ⟨hx, hS⟩ := List.forall_mem_cons.mp hS
    refine lv_i2c hc.1 hc.2.1 hd rfl ?_
    rw [zq_i2c hx]
    exact k _ _ _ _ h ad H locs lsr hH hL (List.forall_mem_cons.mpr ⟨by show zin _; unfold zin; omega, hS⟩)
  · exact h.elim
def o_i2b (K : zK) : zK := fun ls st G X => match st with
  | .inl x :: st => K ls (zI ((x + 128) % 256 - 128) :: st) G X
  | _ => False
theorem z_i2b {E : zE} {cc : ByteArray} {own : String} {nL fr lo pc : Nat} {K : zK} (hc : zCx E cc own nL fr lo) (hd : decode cc pc = .ok (.i2b, 1)) (k : ∀ (ls st : List zV) (G : zG) (X : zX), K ls st G X → zAt E nL (pc + 1) ls st G X) : ∀ (ls st : List zV) (G : zG) (X : zX), o_i2b K ls st G X → zAt E nL pc ls st G X := by
  intro ls st G X h ad H locs lsr hH hL hS
  unfold o_i2b at h
  split at h
  · rename_i x st
    obtain ⟨hx, hS⟩ := List.forall_mem_cons.mp hS
    refine lv_i2b hc.1 hc.2.1 hd rfl ?_
    rw [zq_i2b hx]
    exact k _ _ _ _ h ad H locs lsr hH hL (List.forall_mem_cons.mpr ⟨by show zin _; unfold zin; omega, hS⟩)
  · exact h.elim
theorem z_addL {x y : Int} (hx : zinl x) (hy : zinl y) : Int64.ofInt x + Int64.ofInt y = Int64.ofInt (zwl (x + y)) := by
  apply z64i
  rw [Int64.toInt_add, z64 hx, z64 hy, zwl_bmod]
theorem z_mulL {x y : Int} (hx : zinl x) (hy : zinl y) : Int64.ofInt x * Int64.ofInt y = Int64.ofInt (zwl (x * y)) := by
  apply z64i
  rw [Int64.toInt_mul, z64 hx, z64 hy, zwl_bmod]
theorem z_divL {x y : Int} (hx : zinl x) (hy : zinl y) : Int64.ofInt x / Int64.ofInt y = Int64.ofInt (zwl (x.tdiv y)) := by
  apply z64i
  rw [Int64.toInt_div, z64 hx, z64 hy, zwl_bmod]
def o_ladd (K : zK) : zK := fun ls st G X => match st with
  | .inr (.inr (.inl y)) :: .inr (.inr (.inl x)) :: st => K ls (zL (zwl (x + y)) :: st) G X
  | _ => False
theorem z_ladd {E : zE} {cc : ByteArray} {own : String} {nL fr lo pc : Nat} {K : zK} (hc : zCx E cc own nL fr lo) (hd : decode cc pc = .ok (.ladd, 1)) (k : ∀ (ls st : List zV) (G : zG) (X : zX), K ls st G X → zAt E nL (pc + 1) ls st G X) : ∀ (ls st : List zV) (G : zG) (X : zX), o_ladd K ls st G X → zAt E nL pc ls st G X := by
  intro ls st G X h ad H locs lsr hH hL hS
  unfold o_ladd at h
  split at h
  · rename_i y x st
    obtain ⟨hy, hS⟩ := List.forall_mem_cons.mp hS
    obtain ⟨hx, hS⟩ := List.forall_mem_cons.mp hS
    refine lv_ladd hc.1 hc.2.1 hd ?_
    rw [z_addL hx hy]
    exact k _ _ _ _ h ad H locs lsr hH hL (List.forall_mem_cons.mpr ⟨zwl_in _, hS⟩)
  · exact h.elim
def o_lmul (K : zK) : zK := fun ls st G X => match st with
  | .inr (.inr (.inl y)) :: .inr (.inr (.inl x)) :: st => K ls (zL (zwl (x * y)) :: st) G X
  | _ => False
theorem z_lmul {E : zE} {cc : ByteArray} {own : String} {nL fr lo pc : Nat} {K : zK} (hc : zCx E cc own nL fr lo) (hd : decode cc pc = .ok (.lmul, 1)) (k : ∀ (ls st : List zV) (G : zG) (X : zX), K ls st G X → zAt E nL (pc + 1) ls st G X) : ∀ (ls st : List zV) (G : zG) (X : zX), o_lmul K ls st G X → zAt E nL pc ls st G X := by
  intro ls st G X h ad H locs lsr hH hL hS
  unfold o_lmul at h
  split at h
  · rename_i y x st
    obtain ⟨hy, hS⟩ := List.forall_mem_cons.mp hS
    obtain ⟨hx, hS⟩ := List.forall_mem_cons.mp hS
    refine lv_lmul hc.1 hc.2.1 hd ?_
    rw [z_mulL hx hy]
    exact k _ _ _ _ h ad H locs lsr hH hL (List.forall_mem_cons.mpr ⟨zwl_in _, hS⟩)
  · exact h.elim
def o_ldiv (K : zK) : zK := fun ls st G X => match st with
  | .inr (.inr (.inl y)) :: .inr (.inr (.inl x)) :: st => y ≠ 0 ∧ K ls (zL (zwl (x.tdiv y)) :: st) G X
  | _ => False
theorem z_ldiv {E : zE} {cc : ByteArray} {own : String} {nL fr lo pc : Nat} {K : zK} (hc : zCx E cc own nL fr lo) (hd : decode cc pc = .ok (.ldiv, 1)) (k : ∀ (ls st : List zV) (G : zG) (X : zX), K ls st G X → zAt E nL (pc + 1) ls st G X) : ∀ (ls st : List zV) (G : zG) (X : zX), o_ldiv K ls st G X → zAt E nL pc ls st G X := by
  intro ls st G X h ad H locs lsr hH hL hS
  unfold o_ldiv at h
  split at h
  · rename_i y x st
    obtain ⟨hy, hS⟩ := List.forall_mem_cons.mp hS
    obtain ⟨hx, hS⟩ := List.forall_mem_cons.mp hS
    refine lv_ldiv hc.1 hc.2.1 hd (zinl_n0 hy h.1) ?_
    rw [z_divL hx hy]
    exact k _ _ _ _ h.2 ad H locs lsr hH hL (List.forall_mem_cons.mpr ⟨zwl_in _, hS⟩)
  · exact h.elim
def o_i2l (K : zK) : zK := fun ls st G X => match st with
  | .inl x :: st => K ls (zL x :: st) G X
  | _ => False
theorem z_i2l {E : zE} {cc : ByteArray} {own : String} {nL fr lo pc : Nat} {K : zK} (hc : zCx E cc own nL fr lo) (hd : decode cc pc = .ok (.i2l, 1)) (k : ∀ (ls st : List zV) (G : zG) (X : zX), K ls st G X → zAt E nL (pc + 1) ls st G X) : ∀ (ls st : List zV) (G : zG) (X : zX), o_i2l K ls st G X → zAt E nL pc ls st G X := by
  intro ls st G X h ad H locs lsr hH hL hS
  unfold o_i2l at h
  split at h
  · rename_i x st
    obtain ⟨hx, hS⟩ := List.forall_mem_cons.mp hS
    refine lv_i2l hc.1 hc.2.1 hd rfl ?_
    rw [z64i (v := (Int32.ofInt x).toInt64) (x := x) (by rw [Int32.toInt_toInt64, z32 hx])]
    exact k _ _ _ _ h ad H locs lsr hH hL (List.forall_mem_cons.mpr ⟨by have := hx; unfold zok zin at *; unfold zinl; omega, hS⟩)
  · exact h.elim
def o_l2i (K : zK) : zK := fun ls st G X => match st with
  | .inr (.inr (.inl x)) :: st => K ls (zI (zw x) :: st) G X
  | _ => False
theorem z_l2i {E : zE} {cc : ByteArray} {own : String} {nL fr lo pc : Nat} {K : zK} (hc : zCx E cc own nL fr lo) (hd : decode cc pc = .ok (.l2i, 1)) (k : ∀ (ls st : List zV) (G : zG) (X : zX), K ls st G X → zAt E nL (pc + 1) ls st G X) : ∀ (ls st : List zV) (G : zG) (X : zX), o_l2i K ls st G X → zAt E nL pc ls st G X := by
  intro ls st G X h ad H locs lsr hH hL hS
  unfold o_l2i at h
  split at h
  · rename_i x st
    obtain ⟨hx, hS⟩ := List.forall_mem_cons.mp hS
    refine lv_l2i hc.1 hc.2.1 hd rfl ?_
    rw [z32i (v := (Int64.ofInt x).toInt32) (x := zw x) (by rw [Int64.toInt_toInt32, z64 hx, zw_bmod])]
    exact k _ _ _ _ h ad H locs lsr hH hL (List.forall_mem_cons.mpr ⟨zw_in _, hS⟩)
  · exact h.elim
def o_ipush (n : Int) (K : zK) : zK := fun ls st G X => K ls (zI n :: st) G X
theorem z_iconst {E : zE} {cc : ByteArray} {own : String} {nL fr lo pc : Nat} {n : Int} {K : zK} (hc : zCx E cc own nL fr lo) (hn : -1 ≤ n ∧ n ≤ 5) (hd : decode cc pc = .ok (.iconst n, 1)) (k : ∀ (ls st : List zV) (G : zG) (X : zX), K ls st G X → zAt E nL (pc + 1) ls st G X) : ∀ (ls st : List zV) (G : zG) (X : zX), o_ipush n K ls st G X → zAt E nL pc ls st G X := by
  intro ls st G X h ad H locs lsr hH hL hS
  unfold o_ipush at h
  have hi : zin n := by unfold zin; omega
  refine lv_iconst (v := Int32.ofInt n) hc.1 hc.2.1 hd (rfl) ?_
  exact k _ _ _ _ h ad H locs lsr hH hL (List.forall_mem_cons.mpr ⟨hi, hS⟩)
theorem z_bipush {E : zE} {cc : ByteArray} {own : String} {nL fr lo pc : Nat} {n : Int} {K : zK} (hc : zCx E cc own nL fr lo) (hn : -128 ≤ n ∧ n ≤ 127) (hd : decode cc pc = .ok (.bipush n, 2)) (k : ∀ (ls st : List zV) (G : zG) (X : zX), K ls st G X → zAt E nL (pc + 2) ls st G X) : ∀ (ls st : List zV) (G : zG) (X : zX), o_ipush n K ls st G X → zAt E nL pc ls st G X := by
  intro ls st G X h ad H locs lsr hH hL hS
  unfold o_ipush at h
  have hi : zin n := by unfold zin; omega
  refine lv_bipush (v := Int32.ofInt n) hc.1 hc.2.1 hd (by
    apply z32i
    rw [Int8.toInt_toInt32, Int8.toInt_ofInt]
    show n.bmod 256 = n
    rw [Int.bmod_def]
    split <;> omega) ?_
  exact k _ _ _ _ h ad H locs lsr hH hL (List.forall_mem_cons.mpr ⟨hi, hS⟩)
theorem z_sipush {E : zE} {cc : ByteArray} {own : String} {nL fr lo pc : Nat} {n : Int} {K : zK} (hc : zCx E cc own nL fr lo) (hn : -32768 ≤ n ∧ n ≤ 32767) (hd : decode cc pc = .ok (.sipush n, 3)) (k : ∀ (ls st : List zV) (G : zG) (X : zX), K ls st G X → zAt E nL (pc + 3) ls st G X) : ∀ (ls st : List zV) (G : zG) (X : zX), o_ipush n K ls st G X → zAt E nL pc ls st G X := by
  intro ls st G X h ad H locs lsr hH hL hS
  unfold o_ipush at h
  have hi : zin n := by unfold zin; omega
  refine lv_sipush (v := Int32.ofInt n) hc.1 hc.2.1 hd (by
    apply z32i
    rw [Int16.toInt_toInt32, Int16.toInt_ofInt]
    show n.bmod 65536 = n
    rw [Int.bmod_def]
    split <;> omega) ?_
  exact k _ _ _ _ h ad H locs lsr hH hL (List.forall_mem_cons.mpr ⟨hi, hS⟩)
theorem z_ldc {E : zE} {cc : ByteArray} {own : String} {nL fr lo pc : Nat} {n : Int} {v : Int32} {index : Nat} {K : zK} (hc : zCx E cc own nL fr lo) (hn : v.toInt = n) (hw : Cond.constant own index v ∈ zTb) (hd : decode cc pc = .ok (.ldc index, 2)) (k : ∀ (ls st : List zV) (G : zG) (X : zX), K ls st G X → zAt E nL (pc + 2) ls st G X) : ∀ (ls st : List zV) (G : zG) (X : zX), o_ipush n K ls st G X → zAt E nL pc ls st G X := by
  intro ls st G X h ad H locs lsr hH hL hS
  unfold o_ipush at h
  have hi : zin n := by rw [← hn]; exact z32_in v
  refine lv_ldc (v := v) hc.1 hc.2.1 hc.2.2.2.1 (hc.2.2.2.2.1 _ hw) hd ?_
  rw [z32i hn]
  exact k _ _ _ _ h ad H locs lsr hH hL (List.forall_mem_cons.mpr ⟨hi, hS⟩)
theorem z_ldcw {E : zE} {cc : ByteArray} {own : String} {nL fr lo pc : Nat} {n : Int} {v : Int32} {index : Nat} {K : zK} (hc : zCx E cc own nL fr lo) (hn : v.toInt = n) (hw : Cond.constant own index v ∈ zTb) (hd : decode cc pc = .ok (.ldc_w index, 3)) (k : ∀ (ls st : List zV) (G : zG) (X : zX), K ls st G X → zAt E nL (pc + 3) ls st G X) : ∀ (ls st : List zV) (G : zG) (X : zX), o_ipush n K ls st G X → zAt E nL pc ls st G X := by
  intro ls st G X h ad H locs lsr hH hL hS
  unfold o_ipush at h
  have hi : zin n := by rw [← hn]; exact z32_in v
  refine lv_ldcw (v := v) hc.1 hc.2.1 hc.2.2.2.1 (hc.2.2.2.2.1 _ hw) hd ?_
  rw [z32i hn]
  exact k _ _ _ _ h ad H locs lsr hH hL (List.forall_mem_cons.mpr ⟨hi, hS⟩)
def o_lconst (n : Int) (K : zK) : zK := fun ls st G X => K ls (zL n :: st) G X
theorem z_lconst {E : zE} {cc : ByteArray} {own : String} {nL fr lo pc : Nat} {n : Int} {K : zK} (hc : zCx E cc own nL fr lo) {j : Fin 2} (hn : n = (j : Nat)) (hd : decode cc pc = .ok (.lconst j, 1)) (k : ∀ (ls st : List zV) (G : zG) (X : zX), K ls st G X → zAt E nL (pc + 1) ls st G X) : ∀ (ls st : List zV) (G : zG) (X : zX), o_lconst n K ls st G X → zAt E nL pc ls st G X := by
  intro ls st G X h ad H locs lsr hH hL hS
  unfold o_lconst at h
  have hi : zinl n := by subst hn; unfold zinl; have := j.isLt; omega
  refine lv_lconst (v := Int64.ofInt n) hc.1 hc.2.1 hd (by subst hn; rfl) ?_
  exact k _ _ _ _ h ad H locs lsr hH hL (List.forall_mem_cons.mpr ⟨hi, hS⟩)
def o_null (K : zK) : zK := fun ls st G X => K ls (zR (-1) :: st) G X
theorem z_null {E : zE} {cc : ByteArray} {own : String} {nL fr lo pc : Nat} {K : zK} (hc : zCx E cc own nL fr lo) (hd : decode cc pc = .ok (.aconst_null, 1)) (k : ∀ (ls st : List zV) (G : zG) (X : zX), K ls st G X → zAt E nL (pc + 1) ls st G X) : ∀ (ls st : List zV) (G : zG) (X : zX), o_null K ls st G X → zAt E nL pc ls st G X := by
  intro ls st G X h ad H locs lsr hH hL hS
  unfold o_null at h
  have hi : zok (zsz G) (zR (-1)) := by show (-1 : Int) < _; omega
  refine lv_null hc.1 hc.2.1 hd ?_
  exact k _ _ _ _ h ad H locs lsr hH hL (List.forall_mem_cons.mpr ⟨hi, hS⟩)
def o_iload (i : Nat) (K : zK) : zK := fun ls st G X => match ls[i]? with
  | some (.inl x) => K ls (zI x :: st) G X
  | _ => False
theorem z_iload {E : zE} {cc : ByteArray} {own : String} {nL fr lo pc : Nat} {i : Nat} {K : zK} (hc : zCx E cc own nL fr lo) (hd : decode cc pc = .ok (.iload i, 2)) (k : ∀ (ls st : List zV) (G : zG) (X : zX), K ls st G X → zAt E nL (pc + 2) ls st G X) : ∀ (ls st : List zV) (G : zG) (X : zX), o_iload i K ls st G X → zAt E nL pc ls st G X := by
  intro ls st G X h ad H locs lsr hH hL hS
  unfold o_iload at h
  split at h
  · rename_i x hx
    obtain ⟨hi, hx⟩ := zLc_at hL hx (by intro z; cases z)
    refine lv_iload hc.1 hc.2.1 hd hx ?_
    exact k _ _ _ _ h ad H locs lsr hH hL (List.forall_mem_cons.mpr ⟨hi, hS⟩)
  · exact h.elim
theorem z_iload_n {E : zE} {cc : ByteArray} {own : String} {nL fr lo pc : Nat} {i : Nat} {K : zK} (hc : zCx E cc own nL fr lo) {j : Fin 4} (hj : (j : Nat) = i) (hd : decode cc pc = .ok (.iload_n j, 1)) (k : ∀ (ls st : List zV) (G : zG) (X : zX), K ls st G X → zAt E nL (pc + 1) ls st G X) : ∀ (ls st : List zV) (G : zG) (X : zX), o_iload i K ls st G X → zAt E nL pc ls st G X := by
  intro ls st G X h ad H locs lsr hH hL hS
  unfold o_iload at h
  split at h
  · rename_i x hx
    obtain ⟨hi, hx⟩ := zLc_at hL hx (by intro z; cases z)
    refine lv_iload_n hc.1 hc.2.1 hd hj hx ?_
    exact k _ _ _ _ h ad H locs lsr hH hL (List.forall_mem_cons.mpr ⟨hi, hS⟩)
  · exact h.elim
def o_lload (i : Nat) (K : zK) : zK := fun ls st G X => match ls[i]? with
  | some (.inr (.inr (.inl x))) => K ls (zL x :: st) G X
  | _ => False
theorem z_lload {E : zE} {cc : ByteArray} {own : String} {nL fr lo pc : Nat} {i : Nat} {K : zK} (hc : zCx E cc own nL fr lo) (hd : decode cc pc = .ok (.lload i, 2)) (k : ∀ (ls st : List zV) (G : zG) (X : zX), K ls st G X → zAt E nL (pc + 2) ls st G X) : ∀ (ls st : List zV) (G : zG) (X : zX), o_lload i K ls st G X → zAt E nL pc ls st G X := by
  intro ls st G X h ad H locs lsr hH hL hS
  unfold o_lload at h
  split at h
  · rename_i x hx
    obtain ⟨hi, hx⟩ := zLc_at hL hx (by intro z; cases z)
    refine lv_lload hc.1 hc.2.1 hd hx ?_
    exact k _ _ _ _ h ad H locs lsr hH hL (List.forall_mem_cons.mpr ⟨hi, hS⟩)
  · exact h.elim
theorem z_lload_n {E : zE} {cc : ByteArray} {own : String} {nL fr lo pc : Nat} {i : Nat} {K : zK} (hc : zCx E cc own nL fr lo) {j : Fin 4} (hj : (j : Nat) = i) (hd : decode cc pc = .ok (.lload_n j, 1)) (k : ∀ (ls st : List zV) (G : zG) (X : zX), K ls st G X → zAt E nL (pc + 1) ls st G X) : ∀ (ls st : List zV) (G : zG) (X : zX), o_lload i K ls st G X → zAt E nL pc ls st G X := by
  intro ls st G X h ad H locs lsr hH hL hS
  unfold o_lload at h
  split at h
  · rename_i x hx
    obtain ⟨hi, hx⟩ := zLc_at hL hx (by intro z; cases z)
    refine lv_lload_n hc.1 hc.2.1 hd hj hx ?_
    exact k _ _ _ _ h ad H locs lsr hH hL (List.forall_mem_cons.mpr ⟨hi, hS⟩)
  · exact h.elim
def o_aload (i : Nat) (K : zK) : zK := fun ls st G X => match ls[i]? with
  | some (.inr (.inl x)) => K ls (zR x :: st) G X
  | _ => False
theorem z_aload {E : zE} {cc : ByteArray} {own : String} {nL fr lo pc : Nat} {i : Nat} {K : zK} (hc : zCx E cc own nL fr lo) (hd : decode cc pc = .ok (.aload i, 2)) (k : ∀ (ls st : List zV) (G : zG) (X : zX), K ls st G X → zAt E nL (pc + 2) ls st G X) : ∀ (ls st : List zV) (G : zG) (X : zX), o_aload i K ls st G X → zAt E nL pc ls st G X := by
  intro ls st G X h ad H locs lsr hH hL hS
  unfold o_aload at h
  split at h
  · rename_i x hx
    obtain ⟨hi, hx⟩ := zLc_at hL hx (by intro z; cases z)
    by_cases hn : x = -1
    · subst hn
      refine lv_aloadN hc.1 hc.2.1 hd hx ?_
      exact k _ _ _ _ h ad H locs lsr hH hL (List.forall_mem_cons.mpr ⟨hi, hS⟩)
    · have e : zv ad (Sum.inr (Sum.inl x)) = .ref (ad x) := if_neg hn
      rw [e] at hx
      refine lv_aload hc.1 hc.2.1 hd hx ?_
      have := k _ _ _ _ h ad H locs lsr hH hL (List.forall_mem_cons.mpr ⟨hi, hS⟩)
      rw [List.map_cons, e] at this
      exact this
  · exact h.elim
theorem z_aload_n {E : zE} {cc : ByteArray} {own : String} {nL fr lo pc : Nat} {i : Nat} {K : zK} (hc : zCx E cc own nL fr lo) {j : Fin 4} (hj : (j : Nat) = i) (hd : decode cc pc = .ok (.aload_n j, 1)) (k : ∀ (ls st : List zV) (G : zG) (X : zX), K ls st G X → zAt E nL (pc + 1) ls st G X) : ∀ (ls st : List zV) (G : zG) (X : zX), o_aload i K ls st G X → zAt E nL pc ls st G X := by
  intro ls st G X h ad H locs lsr hH hL hS
  unfold o_aload at h
  split at h
  · rename_i x hx
    obtain ⟨hi, hx⟩ := zLc_at hL hx (by intro z; cases z)
    by_cases hn : x = -1
    · subst hn
      refine lv_aload_nN hc.1 hc.2.1 hd hj hx ?_
      exact k _ _ _ _ h ad H locs lsr hH hL (List.forall_mem_cons.mpr ⟨hi, hS⟩)
    · have e : zv ad (Sum.inr (Sum.inl x)) = .ref (ad x) := if_neg hn
      rw [e] at hx
      refine lv_aload_n hc.1 hc.2.1 hd hj hx ?_
      have := k _ _ _ _ h ad H locs lsr hH hL (List.forall_mem_cons.mpr ⟨hi, hS⟩)
      rw [List.map_cons, e] at this
      exact this
  · exact h.elim
def o_istore (i : Nat) (K : zK) : zK := fun ls st G X => match st with
  | .inl x :: st => K (zls ls i (zI x)) st G X
  | _ => False
theorem z_istore {E : zE} {cc : ByteArray} {own : String} {nL fr lo pc : Nat} {i : Nat} {K : zK} (hc : zCx E cc own nL fr lo) (hi : i < nL) (hd : decode cc pc = .ok (.istore i, 2)) (k : ∀ (ls st : List zV) (G : zG) (X : zX), K ls st G X → zAt E nL (pc + 2) ls st G X) : ∀ (ls st : List zV) (G : zG) (X : zX), o_istore i K ls st G X → zAt E nL pc ls st G X := by
  intro ls st G X h ad H locs lsr hH hL hS
  unfold o_istore at h
  split at h
  · rename_i x st
    obtain ⟨hx, hS1⟩ := List.forall_mem_cons.mp hS
    refine lv_istore hc.1 hc.2.1 hd (zLc_has hL) hi rfl (fun lsr1 h1 => ?_)
    exact k _ _ _ _ h ad H locs lsr1 hH (zLc_put (v := zI x) hL hx rfl h1) hS1
  · exact h.elim
theorem z_istore_n {E : zE} {cc : ByteArray} {own : String} {nL fr lo pc : Nat} {i : Nat} {K : zK} (hc : zCx E cc own nL fr lo) (hi : i < nL) {j : Fin 4} (hj : (j : Nat) = i) (hd : decode cc pc = .ok (.istore_n j, 1)) (k : ∀ (ls st : List zV) (G : zG) (X : zX), K ls st G X → zAt E nL (pc + 1) ls st G X) : ∀ (ls st : List zV) (G : zG) (X : zX), o_istore i K ls st G X → zAt E nL pc ls st G X := by
  intro ls st G X h ad H locs lsr hH hL hS
  unfold o_istore at h
  split at h
  · rename_i x st
    obtain ⟨hx, hS1⟩ := List.forall_mem_cons.mp hS
    refine lv_istore_n hc.1 hc.2.1 hd hj (zLc_has hL) hi rfl (fun lsr1 h1 => ?_)
    exact k _ _ _ _ h ad H locs lsr1 hH (zLc_put (v := zI x) hL hx rfl h1) hS1
  · exact h.elim
def o_lstore (i : Nat) (K : zK) : zK := fun ls st G X => match st with
  | .inr (.inr (.inl x)) :: st => K (zlsL ls i x) st G X
  | _ => False
theorem z_lstore {E : zE} {cc : ByteArray} {own : String} {nL fr lo pc : Nat} {i : Nat} {K : zK} (hc : zCx E cc own nL fr lo) (hi : i + 1 < nL) (hd : decode cc pc = .ok (.lstore i, 2)) (k : ∀ (ls st : List zV) (G : zG) (X : zX), K ls st G X → zAt E nL (pc + 2) ls st G X) : ∀ (ls st : List zV) (G : zG) (X : zX), o_lstore i K ls st G X → zAt E nL pc ls st G X := by
  intro ls st G X h ad H locs lsr hH hL hS
  unfold o_lstore at h
  split at h
  · rename_i x st
    obtain ⟨hx, hS1⟩ := List.forall_mem_cons.mp hS
    refine lv_lstore hc.1 hc.2.1 hd (zLc_has hL) hi rfl (fun lsr1 h1 => ?_)
    exact k _ _ _ _ h ad H locs lsr1 hH (zLc_putL hL hx rfl h1) hS1
  · exact h.elim
theorem z_lstore_n {E : zE} {cc : ByteArray} {own : String} {nL fr lo pc : Nat} {i : Nat} {K : zK} (hc : zCx E cc own nL fr lo) (hi : i + 1 < nL) {j : Fin 4} (hj : (j : Nat) = i) (hd : decode cc pc = .ok (.lstore_n j, 1)) (k : ∀ (ls st : List zV) (G : zG) (X : zX), K ls st G X → zAt E nL (pc + 1) ls st G X) : ∀ (ls st : List zV) (G : zG) (X : zX), o_lstore i K ls st G X → zAt E nL pc ls st G X := by
  intro ls st G X h ad H locs lsr hH hL hS
  unfold o_lstore at h
  split at h
  · rename_i x st
    obtain ⟨hx, hS1⟩ := List.forall_mem_cons.mp hS
    refine lv_lstore_n hc.1 hc.2.1 hd hj (zLc_has hL) hi rfl (fun lsr1 h1 => ?_)
    exact k _ _ _ _ h ad H locs lsr1 hH (zLc_putL hL hx rfl h1) hS1
  · exact h.elim
def o_astore (i : Nat) (K : zK) : zK := fun ls st G X => match st with
  | .inr (.inl x) :: st => K (zls ls i (zR x)) st G X
  | _ => False
theorem z_astore {E : zE} {cc : ByteArray} {own : String} {nL fr lo pc : Nat} {i : Nat} {K : zK} (hc : zCx E cc own nL fr lo) (hi : i < nL) (hd : decode cc pc = .ok (.astore i, 2)) (k : ∀ (ls st : List zV) (G : zG) (X : zX), K ls st G X → zAt E nL (pc + 2) ls st G X) : ∀ (ls st : List zV) (G : zG) (X : zX), o_astore i K ls st G X → zAt E nL pc ls st G X := by
  intro ls st G X h ad H locs lsr hH hL hS
  unfold o_astore at h
  split at h
  · rename_i x st
    obtain ⟨hx, hS1⟩ := List.forall_mem_cons.mp hS
    by_cases hn : x = -1
    · subst hn
      refine lv_astoreN hc.1 hc.2.1 hd (zLc_has hL) hi rfl (fun lsr1 h1 => ?_)
      exact k _ _ _ _ h ad H locs lsr1 hH (zLc_put (v := zR (-1)) hL hx rfl h1) hS1
    · have e : zv ad (Sum.inr (Sum.inl x)) = .ref (ad x) := if_neg hn
      rw [List.map_cons, e]
      refine lv_astore hc.1 hc.2.1 hd (zLc_has hL) hi rfl (fun lsr1 h1 => ?_)
      exact k _ _ _ _ h ad H locs lsr1 hH (zLc_put (v := zR x) hL hx (by rw [show zv ad (zR x) = .ref (ad x) from e]) h1) hS1
  · exact h.elim
theorem z_astore_n {E : zE} {cc : ByteArray} {own : String} {nL fr lo pc : Nat} {i : Nat} {K : zK} (hc : zCx E cc own nL fr lo) (hi : i < nL) {j : Fin 4} (hj : (j : Nat) = i) (hd : decode cc pc = .ok (.astore_n j, 1)) (k : ∀ (ls st : List zV) (G : zG) (X : zX), K ls st G X → zAt E nL (pc + 1) ls st G X) : ∀ (ls st : List zV) (G : zG) (X : zX), o_astore i K ls st G X → zAt E nL pc ls st G X := by
  intro ls st G X h ad H locs lsr hH hL hS
  unfold o_astore at h
  split at h
  · rename_i x st
    obtain ⟨hx, hS1⟩ := List.forall_mem_cons.mp hS
    by_cases hn : x = -1
    · subst hn
      refine lv_astore_nN hc.1 hc.2.1 hd hj (zLc_has hL) hi rfl (fun lsr1 h1 => ?_)
      exact k _ _ _ _ h ad H locs lsr1 hH (zLc_put (v := zR (-1)) hL hx rfl h1) hS1
    · have e : zv ad (Sum.inr (Sum.inl x)) = .ref (ad x) := if_neg hn
      rw [List.map_cons, e]
      refine lv_astore_n hc.1 hc.2.1 hd hj (zLc_has hL) hi rfl (fun lsr1 h1 => ?_)
      exact k _ _ _ _ h ad H locs lsr1 hH (zLc_put (v := zR x) hL hx (by rw [show zv ad (zR x) = .ref (ad x) from e]) h1) hS1
  · exact h.elim
def o_iinc (i : Nat) (n : Int) (K : zK) : zK := fun ls st G X => match ls[i]? with
  | some (.inl x) => K (zls ls i (zI (zw (x + n)))) st G X
  | _ => False
theorem z_iinc {E : zE} {cc : ByteArray} {own : String} {nL fr lo pc : Nat} {i : Nat} {n : Int} {K : zK} (hc : zCx E cc own nL fr lo) (hi : i < nL) (hn : -32768 ≤ n ∧ n ≤ 32767) (hd : decode cc pc = .ok (.iinc i n, 3)) (k : ∀ (ls st : List zV) (G : zG) (X : zX), K ls st G X → zAt E nL (pc + 3) ls st G X) : ∀ (ls st : List zV) (G : zG) (X : zX), o_iinc i n K ls st G X → zAt E nL pc ls st G X := by
  intro ls st G X h ad H locs lsr hH hL hS
  unfold o_iinc at h
  split at h
  · rename_i x hx
    have hx0 := (zLc_at hL hx (by intro z; cases z)).1
    obtain ⟨q, hq⟩ := List.getElem?_of_mem (zLl_in (ad := ad) hx (by intro z; cases z))
    have hn' : zin n := by unfold zin; omega
    refine lv_iinc (v := Int32.ofInt (zw (x + n))) (k := q) hc.1 hc.2.1 hd (zLc_has hL) hq (z_add hx0 hn') hi rfl (fun lsr1 h1 => ?_)
    exact k _ _ _ _ h ad H locs lsr1 hH (zLc_put (v := zI (zw (x + n))) hL (zw_in _) rfl h1) hS
  · exact h.elim
def z1 : zV → Bool
  | .inr (.inr (.inl _)) => false
  | _ => true
theorem z1_cat {ad : Int → Nat} {v : zV} (h : z1 v = true) : (zv ad v).category = 1 := by
  rw [zcat_v]
  rcases v with x | a | x | x
  · rfl
  · rfl
  · cases h
  · rfl
def o_dup (K : zK) : zK := fun ls st G X => match st with
  | v :: st => z1 v = true ∧ K ls (v :: v :: st) G X
  | _ => False
theorem z_dup {E : zE} {cc : ByteArray} {own : String} {nL fr lo pc : Nat} {K : zK} (hc : zCx E cc own nL fr lo) (hd : decode cc pc = .ok (.dup, 1)) (k : ∀ (ls st : List zV) (G : zG) (X : zX), K ls st G X → zAt E nL (pc + 1) ls st G X) : ∀ (ls st : List zV) (G : zG) (X : zX), o_dup K ls st G X → zAt E nL pc ls st G X := by
  intro ls st G X h ad H locs lsr hH hL hS
  unfold o_dup at h
  split at h
  · rename_i v st
    obtain ⟨hv, hS⟩ := List.forall_mem_cons.mp hS
    refine lv_dup hc.1 hc.2.1 hd (z1_cat h.1) ?_
    exact k _ _ _ _ h.2 ad H locs lsr hH hL (List.forall_mem_cons.mpr ⟨hv, List.forall_mem_cons.mpr ⟨hv, hS⟩⟩)
  · exact h.elim
def o_pop (K : zK) : zK := fun ls st G X => match st with
  | v :: st => z1 v = true ∧ K ls st G X
  | _ => False
theorem z_pop {E : zE} {cc : ByteArray} {own : String} {nL fr lo pc : Nat} {K : zK} (hc : zCx E cc own nL fr lo) (hd : decode cc pc = .ok (.pop, 1)) (k : ∀ (ls st : List zV) (G : zG) (X : zX), K ls st G X → zAt E nL (pc + 1) ls st G X) : ∀ (ls st : List zV) (G : zG) (X : zX), o_pop K ls st G X → zAt E nL pc ls st G X := by
  intro ls st G X h ad H locs lsr hH hL hS
  unfold o_pop at h
  split at h
  · rename_i v st
    obtain ⟨hv, hS⟩ := List.forall_mem_cons.mp hS
    refine lv_pop hc.1 hc.2.1 hd (z1_cat h.1) ?_
    exact k _ _ _ _ h.2 ad H locs lsr hH hL hS
  · exact h.elim
def o_dup2 (K : zK) : zK := fun ls st G X => match st with
  | v :: u :: st => z1 v = true ∧ z1 u = true ∧ K ls (v :: u :: v :: u :: st) G X
  | _ => False
theorem z_dup2 {E : zE} {cc : ByteArray} {own : String} {nL fr lo pc : Nat} {K : zK} (hc : zCx E cc own nL fr lo) (hd : decode cc pc = .ok (.dup2, 1)) (k : ∀ (ls st : List zV) (G : zG) (X : zX), K ls st G X → zAt E nL (pc + 1) ls st G X) : ∀ (ls st : List zV) (G : zG) (X : zX), o_dup2 K ls st G X → zAt E nL pc ls st G X := by
  intro ls st G X h ad H locs lsr hH hL hS
  unfold o_dup2 at h
  split at h
  · rename_i v u st
    obtain ⟨hv, hS⟩ := List.forall_mem_cons.mp hS
    obtain ⟨hu, hS⟩ := List.forall_mem_cons.mp hS
    refine lv_dup2_11 hc.1 hc.2.1 hd (z1_cat h.1) (z1_cat h.2.1) ?_
    exact k _ _ _ _ h.2.2 ad H locs lsr hH hL (List.forall_mem_cons.mpr ⟨hv, List.forall_mem_cons.mpr ⟨hu, List.forall_mem_cons.mpr ⟨hv, List.forall_mem_cons.mpr ⟨hu, hS⟩⟩⟩⟩)
  · exact h.elim
def o_dup_x1 (K : zK) : zK := fun ls st G X => match st with
  | v :: u :: st => z1 v = true ∧ z1 u = true ∧ K ls (v :: u :: v :: st) G X
  | _ => False
theorem z_dup_x1 {E : zE} {cc : ByteArray} {own : String} {nL fr lo pc : Nat} {K : zK} (hc : zCx E cc own nL fr lo) (hd : decode cc pc = .ok (.dup_x1, 1)) (k : ∀ (ls st : List zV) (G : zG) (X : zX), K ls st G X → zAt E nL (pc + 1) ls st G X) : ∀ (ls st : List zV) (G : zG) (X : zX), o_dup_x1 K ls st G X → zAt E nL pc ls st G X := by
  intro ls st G X h ad H locs lsr hH hL hS
  unfold o_dup_x1 at h
  split at h
  · rename_i v u st
    obtain ⟨hv, hS⟩ := List.forall_mem_cons.mp hS
    obtain ⟨hu, hS⟩ := List.forall_mem_cons.mp hS
    refine lv_dup_x1 hc.1 hc.2.1 hd (z1_cat h.1) (z1_cat h.2.1) ?_
    exact k _ _ _ _ h.2.2 ad H locs lsr hH hL (List.forall_mem_cons.mpr ⟨hv, List.forall_mem_cons.mpr ⟨hu, List.forall_mem_cons.mpr ⟨hv, hS⟩⟩⟩)
  · exact h.elim
def o_goto (K : zK) : zK := K
theorem z_goto {E : zE} {cc : ByteArray} {own : String} {nL fr lo pc : Nat} {tgt : Nat} {off : Int} {K : zK} (hc : zCx E cc own nL fr lo) (ht : (pc : Int) + off = (tgt : Int)) (hd : decode cc pc = .ok (.goto off, 3)) (k : ∀ (ls st : List zV) (G : zG) (X : zX), K ls st G X → zAt E nL tgt ls st G X) : ∀ (ls st : List zV) (G : zG) (X : zX), o_goto K ls st G X → zAt E nL pc ls st G X := by
  intro ls st G X h ad H locs lsr hH hL hS
  exact lv_goto hc.1 hc.2.1 hd ht (k _ _ _ _ h ad H locs lsr hH hL hS)
def o_lt (A B : zK) : zK := fun ls st G X => match st with
  | .inl y :: .inl x :: st => (x < y → A ls st G X) ∧ (y ≤ x → B ls st G X)
  | _ => False
def o_gt (A B : zK) : zK := fun ls st G X => match st with
  | .inl y :: .inl x :: st => (y < x → A ls st G X) ∧ (x ≤ y → B ls st G X)
  | _ => False
def o_eq (A B : zK) : zK := fun ls st G X => match st with
  | .inl y :: .inl x :: st => (x = y → A ls st G X) ∧ (x ≠ y → B ls st G X)
  | _ => False
def o_ltz (A B : zK) : zK := fun ls st G X => match st with
  | .inl x :: st => (x < 0 → A ls st G X) ∧ (0 ≤ x → B ls st G X)
  | _ => False
def o_gtz (A B : zK) : zK := fun ls st G X => match st with
  | .inl x :: st => (0 < x → A ls st G X) ∧ (x ≤ 0 → B ls st G X)
  | _ => False
def o_eqz (A B : zK) : zK := fun ls st G X => match st with
  | .inl x :: st => (x = 0 → A ls st G X) ∧ (x ≠ 0 → B ls st G X)
  | _ => False
theorem z_icmp_lt {E : zE} {cc : ByteArray} {own : String} {nL fr lo pc : Nat} {tgt : Nat} {off : Int} {KT KF : zK} (hc : zCx E cc own nL fr lo) (ht : (pc : Int) + off = (tgt : Int)) (hd : decode cc pc = .ok (.if_icmp .lt off, 3)) (kT : ∀ (ls st : List zV) (G : zG) (X : zX), KT ls st G X → zAt E nL tgt ls st G X) (kF : ∀ (ls st : List zV) (G : zG) (X : zX), KF ls st G X → zAt E nL (pc + 3) ls st G X) : ∀ (ls st : List zV) (G : zG) (X : zX), o_lt KT KF ls st G X → zAt E nL pc ls st G X := by
  intro ls st G X h ad H locs lsr hH hL hS
  unfold o_lt at h
  split at h
  · rename_i y x st
    obtain ⟨hy, hS⟩ := List.forall_mem_cons.mp hS
    obtain ⟨hx, hS⟩ := List.forall_mem_cons.mp hS
    refine lv_icmp_lt hc.1 hc.2.1 hd ht (fun c => ?_) (fun c => ?_)
    · exact kT _ _ _ _ (h.1 ((z_lt hx hy).mp c)) ad H locs lsr hH hL hS
    · exact kF _ _ _ _ (h.2 (by have := mt (z_lt hx hy).mpr c; omega)) ad H locs lsr hH hL hS
  · exact h.elim
theorem z_if_lt {E : zE} {cc : ByteArray} {own : String} {nL fr lo pc : Nat} {tgt : Nat} {off : Int} {KT KF : zK} (hc : zCx E cc own nL fr lo) (ht : (pc : Int) + off = (tgt : Int)) (hd : decode cc pc = .ok (.ifCond .lt off, 3)) (kT : ∀ (ls st : List zV) (G : zG) (X : zX), KT ls st G X → zAt E nL tgt ls st G X) (kF : ∀ (ls st : List zV) (G : zG) (X : zX), KF ls st G X → zAt E nL (pc + 3) ls st G X) : ∀ (ls st : List zV) (G : zG) (X : zX), o_ltz KT KF ls st G X → zAt E nL pc ls st G X := by
  intro ls st G X h ad H locs lsr hH hL hS
  unfold o_ltz at h
  split at h
  · rename_i x st
    obtain ⟨hx, hS⟩ := List.forall_mem_cons.mp hS
    refine lv_if_lt hc.1 hc.2.1 hd ht (fun c => ?_) (fun c => ?_)
    · exact kT _ _ _ _ (h.1 ((z_lt hx zin_0).mp c)) ad H locs lsr hH hL hS
    · exact kF _ _ _ _ (h.2 (by have := mt (z_lt hx zin_0).mpr c; omega)) ad H locs lsr hH hL hS
  · exact h.elim
theorem z_icmp_ge {E : zE} {cc : ByteArray} {own : String} {nL fr lo pc : Nat} {tgt : Nat} {off : Int} {KT KF : zK} (hc : zCx E cc own nL fr lo) (ht : (pc : Int) + off = (tgt : Int)) (hd : decode cc pc = .ok (.if_icmp .ge off, 3)) (kT : ∀ (ls st : List zV) (G : zG) (X : zX), KT ls st G X → zAt E nL tgt ls st G X) (kF : ∀ (ls st : List zV) (G : zG) (X : zX), KF ls st G X → zAt E nL (pc + 3) ls st G X) : ∀ (ls st : List zV) (G : zG) (X : zX), o_lt KF KT ls st G X → zAt E nL pc ls st G X := by
  intro ls st G X h ad H locs lsr hH hL hS
  unfold o_lt at h
  split at h
  · rename_i y x st
    obtain ⟨hy, hS⟩ := List.forall_mem_cons.mp hS
    obtain ⟨hx, hS⟩ := List.forall_mem_cons.mp hS
    refine lv_icmp_ge hc.1 hc.2.1 hd ht (fun c => ?_) (fun c => ?_)
    · exact kT _ _ _ _ (h.2 ((z_le hy hx).mp c)) ad H locs lsr hH hL hS
    · exact kF _ _ _ _ (h.1 (by have := mt (z_le hy hx).mpr c; omega)) ad H locs lsr hH hL hS
  · exact h.elim
theorem z_if_ge {E : zE} {cc : ByteArray} {own : String} {nL fr lo pc : Nat} {tgt : Nat} {off : Int} {KT KF : zK} (hc : zCx E cc own nL fr lo) (ht : (pc : Int) + off = (tgt : Int)) (hd : decode cc pc = .ok (.ifCond .ge off, 3)) (kT : ∀ (ls st : List zV) (G : zG) (X : zX), KT ls st G X → zAt E nL tgt ls st G X) (kF : ∀ (ls st : List zV) (G : zG) (X : zX), KF ls st G X → zAt E nL (pc + 3) ls st G X) : ∀ (ls st : List zV) (G : zG) (X : zX), o_ltz KF KT ls st G X → zAt E nL pc ls st G X := by
  intro ls st G X h ad H locs lsr hH hL hS
  unfold o_ltz at h
  split at h
  · rename_i x st
    obtain ⟨hx, hS⟩ := List.forall_mem_cons.mp hS
    refine lv_if_ge hc.1 hc.2.1 hd ht (fun c => ?_) (fun c => ?_)
    · exact kT _ _ _ _ (h.2 ((z_le zin_0 hx).mp c)) ad H locs lsr hH hL hS
    · exact kF _ _ _ _ (h.1 (by have := mt (z_le zin_0 hx).mpr c; omega)) ad H locs lsr hH hL hS
  · exact h.elim
theorem z_icmp_gt {E : zE} {cc : ByteArray} {own : String} {nL fr lo pc : Nat} {tgt : Nat} {off : Int} {KT KF : zK} (hc : zCx E cc own nL fr lo) (ht : (pc : Int) + off = (tgt : Int)) (hd : decode cc pc = .ok (.if_icmp .gt off, 3)) (kT : ∀ (ls st : List zV) (G : zG) (X : zX), KT ls st G X → zAt E nL tgt ls st G X) (kF : ∀ (ls st : List zV) (G : zG) (X : zX), KF ls st G X → zAt E nL (pc + 3) ls st G X) : ∀ (ls st : List zV) (G : zG) (X : zX), o_gt KT KF ls st G X → zAt E nL pc ls st G X := by
  intro ls st G X h ad H locs lsr hH hL hS
  unfold o_gt at h
  split at h
  · rename_i y x st
    obtain ⟨hy, hS⟩ := List.forall_mem_cons.mp hS
    obtain ⟨hx, hS⟩ := List.forall_mem_cons.mp hS
    refine lv_icmp_gt hc.1 hc.2.1 hd ht (fun c => ?_) (fun c => ?_)
    · exact kT _ _ _ _ (h.1 ((z_lt hy hx).mp c)) ad H locs lsr hH hL hS
    · exact kF _ _ _ _ (h.2 (by have := mt (z_lt hy hx).mpr c; omega)) ad H locs lsr hH hL hS
  · exact h.elim
theorem z_if_gt {E : zE} {cc : ByteArray} {own : String} {nL fr lo pc : Nat} {tgt : Nat} {off : Int} {KT KF : zK} (hc : zCx E cc own nL fr lo) (ht : (pc : Int) + off = (tgt : Int)) (hd : decode cc pc = .ok (.ifCond .gt off, 3)) (kT : ∀ (ls st : List zV) (G : zG) (X : zX), KT ls st G X → zAt E nL tgt ls st G X) (kF : ∀ (ls st : List zV) (G : zG) (X : zX), KF ls st G X → zAt E nL (pc + 3) ls st G X) : ∀ (ls st : List zV) (G : zG) (X : zX), o_gtz KT KF ls st G X → zAt E nL pc ls st G X := by
  intro ls st G X h ad H locs lsr hH hL hS
  unfold o_gtz at h
  split at h
  · rename_i x st
    obtain ⟨hx, hS⟩ := List.forall_mem_cons.mp hS
    refine lv_if_gt hc.1 hc.2.1 hd ht (fun c => ?_) (fun c => ?_)
    · exact kT _ _ _ _ (h.1 ((z_lt zin_0 hx).mp c)) ad H locs lsr hH hL hS
    · exact kF _ _ _ _ (h.2 (by have := mt (z_lt zin_0 hx).mpr c; omega)) ad H locs lsr hH hL hS
  · exact h.elim
theorem z_icmp_le {E : zE} {cc : ByteArray} {own : String} {nL fr lo pc : Nat} {tgt : Nat} {off : Int} {KT KF : zK} (hc : zCx E cc own nL fr lo) (ht : (pc : Int) + off = (tgt : Int)) (hd : decode cc pc = .ok (.if_icmp .le off, 3)) (kT : ∀ (ls st : List zV) (G : zG) (X : zX), KT ls st G X → zAt E nL tgt ls st G X) (kF : ∀ (ls st : List zV) (G : zG) (X : zX), KF ls st G X → zAt E nL (pc + 3) ls st G X) : ∀ (ls st : List zV) (G : zG) (X : zX), o_gt KF KT ls st G X → zAt E nL pc ls st G X := by
  intro ls st G X h ad H locs lsr hH hL hS
  unfold o_gt at h
  split at h
  · rename_i y x st
    obtain ⟨hy, hS⟩ := List.forall_mem_cons.mp hS
    obtain ⟨hx, hS⟩ := List.forall_mem_cons.mp hS
    refine lv_icmp_le hc.1 hc.2.1 hd ht (fun c => ?_) (fun c => ?_)
    · exact kT _ _ _ _ (h.2 ((z_le hx hy).mp c)) ad H locs lsr hH hL hS
    · exact kF _ _ _ _ (h.1 (by have := mt (z_le hx hy).mpr c; omega)) ad H locs lsr hH hL hS
  · exact h.elim
theorem z_if_le {E : zE} {cc : ByteArray} {own : String} {nL fr lo pc : Nat} {tgt : Nat} {off : Int} {KT KF : zK} (hc : zCx E cc own nL fr lo) (ht : (pc : Int) + off = (tgt : Int)) (hd : decode cc pc = .ok (.ifCond .le off, 3)) (kT : ∀ (ls st : List zV) (G : zG) (X : zX), KT ls st G X → zAt E nL tgt ls st G X) (kF : ∀ (ls st : List zV) (G : zG) (X : zX), KF ls st G X → zAt E nL (pc + 3) ls st G X) : ∀ (ls st : List zV) (G : zG) (X : zX), o_gtz KF KT ls st G X → zAt E nL pc ls st G X := by
  intro ls st G X h ad H locs lsr hH hL hS
  unfold o_gtz at h
  split at h
  · rename_i x st
    obtain ⟨hx, hS⟩ := List.forall_mem_cons.mp hS
    refine lv_if_le hc.1 hc.2.1 hd ht (fun c => ?_) (fun c => ?_)
    · exact kT _ _ _ _ (h.2 ((z_le hx zin_0).mp c)) ad H locs lsr hH hL hS
    · exact kF _ _ _ _ (h.1 (by have := mt (z_le hx zin_0).mpr c; omega)) ad H locs lsr hH hL hS
  · exact h.elim
theorem z_icmp_eq {E : zE} {cc : ByteArray} {own : String} {nL fr lo pc : Nat} {tgt : Nat} {off : Int} {KT KF : zK} (hc : zCx E cc own nL fr lo) (ht : (pc : Int) + off = (tgt : Int)) (hd : decode cc pc = .ok (.if_icmp .eq off, 3)) (kT : ∀ (ls st : List zV) (G : zG) (X : zX), KT ls st G X → zAt E nL tgt ls st G X) (kF : ∀ (ls st : List zV) (G : zG) (X : zX), KF ls st G X → zAt E nL (pc + 3) ls st G X) : ∀ (ls st : List zV) (G : zG) (X : zX), o_eq KT KF ls st G X → zAt E nL pc ls st G X := by
  intro ls st G X h ad H locs lsr hH hL hS
  unfold o_eq at h
  split at h
  · rename_i y x st
    obtain ⟨hy, hS⟩ := List.forall_mem_cons.mp hS
    obtain ⟨hx, hS⟩ := List.forall_mem_cons.mp hS
    refine lv_icmp_eq hc.1 hc.2.1 hd ht (fun c => ?_) (fun c => ?_)
    · exact kT _ _ _ _ (h.1 ((z_eq hx hy).mp c)) ad H locs lsr hH hL hS
    · exact kF _ _ _ _ (h.2 (fun z => c ((z_eq hx hy).mpr z))) ad H locs lsr hH hL hS
  · exact h.elim
theorem z_if_eq {E : zE} {cc : ByteArray} {own : String} {nL fr lo pc : Nat} {tgt : Nat} {off : Int} {KT KF : zK} (hc : zCx E cc own nL fr lo) (ht : (pc : Int) + off = (tgt : Int)) (hd : decode cc pc = .ok (.ifCond .eq off, 3)) (kT : ∀ (ls st : List zV) (G : zG) (X : zX), KT ls st G X → zAt E nL tgt ls st G X) (kF : ∀ (ls st : List zV) (G : zG) (X : zX), KF ls st G X → zAt E nL (pc + 3) ls st G X) : ∀ (ls st : List zV) (G : zG) (X : zX), o_eqz KT KF ls st G X → zAt E nL pc ls st G X := by
  intro ls st G X h ad H locs lsr hH hL hS
  unfold o_eqz at h
  split at h
  · rename_i x st
    obtain ⟨hx, hS⟩ := List.forall_mem_cons.mp hS
    refine lv_if_eq hc.1 hc.2.1 hd ht (fun c => ?_) (fun c => ?_)
    · exact kT _ _ _ _ (h.1 ((z_eq hx zin_0).mp c)) ad H locs lsr hH hL hS
    · exact kF _ _ _ _ (h.2 (fun z => c ((z_eq hx zin_0).mpr z))) ad H locs lsr hH hL hS
  · exact h.elim
theorem z_icmp_ne {E : zE} {cc : ByteArray} {own : String} {nL fr lo pc : Nat} {tgt : Nat} {off : Int} {KT KF : zK} (hc : zCx E cc own nL fr lo) (ht : (pc : Int) + off = (tgt : Int)) (hd : decode cc pc = .ok (.if_icmp .ne off, 3)) (kT : ∀ (ls st : List zV) (G : zG) (X : zX), KT ls st G X → zAt E nL tgt ls st G X) (kF : ∀ (ls st : List zV) (G : zG) (X : zX), KF ls st G X → zAt E nL (pc + 3) ls st G X) : ∀ (ls st : List zV) (G : zG) (X : zX), o_eq KF KT ls st G X → zAt E nL pc ls st G X := by
  intro ls st G X h ad H locs lsr hH hL hS
  unfold o_eq at h
  split at h
  · rename_i y x st
    obtain ⟨hy, hS⟩ := List.forall_mem_cons.mp hS
    obtain ⟨hx, hS⟩ := List.forall_mem_cons.mp hS
    refine lv_icmp_ne hc.1 hc.2.1 hd ht (fun c => ?_) (fun c => ?_)
    · exact kT _ _ _ _ (h.2 (fun z => c ((z_eq hx hy).mpr z))) ad H locs lsr hH hL hS
    · exact kF _ _ _ _ (h.1 ((z_eq hx hy).mp c)) ad H locs lsr hH hL hS
  · exact h.elim
theorem z_if_ne {E : zE} {cc : ByteArray} {own : String} {nL fr lo pc : Nat} {tgt : Nat} {off : Int} {KT KF : zK} (hc : zCx E cc own nL fr lo) (ht : (pc : Int) + off = (tgt : Int)) (hd : decode cc pc = .ok (.ifCond .ne off, 3)) (kT : ∀ (ls st : List zV) (G : zG) (X : zX), KT ls st G X → zAt E nL tgt ls st G X) (kF : ∀ (ls st : List zV) (G : zG) (X : zX), KF ls st G X → zAt E nL (pc + 3) ls st G X) : ∀ (ls st : List zV) (G : zG) (X : zX), o_eqz KF KT ls st G X → zAt E nL pc ls st G X := by
  intro ls st G X h ad H locs lsr hH hL hS
  unfold o_eqz at h
  split at h
  · rename_i x st
    obtain ⟨hx, hS⟩ := List.forall_mem_cons.mp hS
    refine lv_if_ne hc.1 hc.2.1 hd ht (fun c => ?_) (fun c => ?_)
    · exact kT _ _ _ _ (h.2 (fun z => c ((z_eq hx zin_0).mpr z))) ad H locs lsr hH hL hS
    · exact kF _ _ _ _ (h.1 ((z_eq hx zin_0).mp c)) ad H locs lsr hH hL hS
  · exact h.elim
def o_isnull (A B : zK) : zK := fun ls st G X => match st with
  | .inr (.inl a) :: st => (a = -1 → A ls st G X) ∧ (a ≠ -1 → B ls st G X)
  | _ => False
theorem z_ifnull {E : zE} {cc : ByteArray} {own : String} {nL fr lo pc : Nat} {tgt : Nat} {off : Int} {KT KF : zK} (hc : zCx E cc own nL fr lo) (ht : (pc : Int) + off = (tgt : Int)) (hd : decode cc pc = .ok (.ifnull off, 3)) (kT : ∀ (ls st : List zV) (G : zG) (X : zX), KT ls st G X → zAt E nL tgt ls st G X) (kF : ∀ (ls st : List zV) (G : zG) (X : zX), KF ls st G X → zAt E nL (pc + 3) ls st G X) : ∀ (ls st : List zV) (G : zG) (X : zX), o_isnull KT KF ls st G X → zAt E nL pc ls st G X := by
  intro ls st G X h ad H locs lsr hH hL hS
  unfold o_isnull at h
  split at h
  · rename_i a st
    obtain ⟨ha, hS1⟩ := List.forall_mem_cons.mp hS
    by_cases hn : a = -1
    · subst hn
      exact lv_ifnullN hc.1 hc.2.1 hd ht (kT _ _ _ _ (h.1 rfl) ad H locs lsr hH hL hS1)
    · rw [List.map_cons, show zv ad (Sum.inr (Sum.inl a)) = .ref (ad a) from if_neg hn]
      exact lv_ifnull hc.1 hc.2.1 hd (kF _ _ _ _ (h.2 hn) ad H locs lsr hH hL hS1)
  · exact h.elim
theorem z_ifnonnull {E : zE} {cc : ByteArray} {own : String} {nL fr lo pc : Nat} {tgt : Nat} {off : Int} {KT KF : zK} (hc : zCx E cc own nL fr lo) (ht : (pc : Int) + off = (tgt : Int)) (hd : decode cc pc = .ok (.ifnonnull off, 3)) (kT : ∀ (ls st : List zV) (G : zG) (X : zX), KT ls st G X → zAt E nL tgt ls st G X) (kF : ∀ (ls st : List zV) (G : zG) (X : zX), KF ls st G X → zAt E nL (pc + 3) ls st G X) : ∀ (ls st : List zV) (G : zG) (X : zX), o_isnull KF KT ls st G X → zAt E nL pc ls st G X := by
  intro ls st G X h ad H locs lsr hH hL hS
  unfold o_isnull at h
  split at h
  · rename_i a st
    obtain ⟨ha, hS1⟩ := List.forall_mem_cons.mp hS
    by_cases hn : a = -1
    · subst hn
      exact lv_ifnonnullN hc.1 hc.2.1 hd (kF _ _ _ _ (h.1 rfl) ad H locs lsr hH hL hS1)
    · rw [List.map_cons, show zv ad (Sum.inr (Sum.inl a)) = .ref (ad a) from if_neg hn]
      exact lv_ifnonnull hc.1 hc.2.1 hd ht (kT _ _ _ _ (h.2 hn) ad H locs lsr hH hL hS1)
  · exact h.elim
