/-! ===== the law: its script, its calls (wip/whole/gen_law.py) ===== -/
def zEq (D : zCo) (M : zCp) (l : List zV) : Prop := ∀ (G : zG) (X : zX), zRela G X → ∃ LC LS : Nat, zsz G ≤ LC ∧ LC ≤ zsz G + 102 ∧ ztt G ≤ LS ∧ LS ≤ ztt G + 5266 ∧ D LC LS (zR 0 :: l) G X (fun v G1 X1 => zsz G1 = LC ∧ ztt G1 = LS ∧ zkd G1 139 = 12 ∧ M (zR 139 :: l) G1 X1 (fun w X2 => w = v ∧ zRela G1 X2))
def zMo (D : zCo) : Prop := ∀ (LC LS : Nat) (vs : List zV) (G : zG) (X : zX) (Q Q2 : List zV → zG → zX → Prop), (∀ v G2 X2, Q v G2 X2 → Q2 v G2 X2) → D LC LS vs G X Q → D LC LS vs G X Q2
theorem zMo_u {b : Nat → Nat → (Nat → zK) → Nat → zK} {n : Nat} : zMo (zUp (zPu b n)) := fun _ _ _ _ _ _ _ hq h => ⟨h.1, h.2.1, zPu_mono _ _ _ _ _ _ _ (fun v X2 z => hq v _ X2 z) h.2.2⟩
theorem zMo_c {B : Nat → Nat → (Nat → zK) → Nat → zK} {n : Nat} : zMo (fun LC LS vs G X Q => zC (B LC LS) n vs G X Q) := fun _ _ _ _ _ _ _ hq h => zWP_mono (fun v G2 X2 z => hq v G2 X2 z) h
/-- a method that touches its object first is called on such an object -/
theorem zC_recv {B : (Nat → zK) → Nat → zK} {nL : Nat} {b : Int} {vs : List zV} {G : zG} {X : zX} {Q : List zV → zG → zX → Prop} (hB : ∀ (Y : Nat → zK) (ls st : List zV) (G : zG) (X : zX), B Y 0 ls st G X → ∃ b : Int, ls[0]? = some (zR b) ∧ zkd G b = 12) (h : zC B nL (zR b :: vs) G X Q) : zkd G b = 12 := by
  have z := h (fun n ls st G X => n = 0 → ∃ b : Int, ls[0]? = some (zR b) ∧ zkd G b = 12) (fun Y _ n ls st G X hb e => by subst e; exact hB Y ls st G X hb) (fun n ls ls' st G X hf hp e => by
    obtain ⟨b, e1, e2⟩ := hp e
    rcases hf.2 0 _ e1 with c | c
    · cases c
    · exact ⟨b, c, e2⟩) (fun ls st G X _ e => by cases e) rfl
  obtain ⟨c, e1, e2⟩ := z
  have e3 : some (zR b) = some (zR c) := e1
  cases e3
  exact e2
theorem o_recv {C : zCp} {K : zK} {ls st : List zV} {G : zG} {X : zX} (h : o_aload 0 (o_callV 12 C 1 K) ls st G X) : ∃ b : Int, ls[0]? = some (zR b) ∧ zkd G b = 12 := by
  unfold o_aload at h
  split at h
  · rename_i b e
    exact ⟨b, e, h.2.1⟩
  · exact h.elim
/-- a call whose answer is a whole number -/
def o_callR (LC LS : Nat) (c : Int) (ret : Option FieldType) (C : zCo) (n : Nat) (K : zK) : zK := fun ls st G X => zck n st ∧ zrc c G (st.take n).reverse ∧ ∃ LC' LS' : Nat, zsz G ≤ LC' ∧ ztt G ≤ LS' ∧ LC' ≤ LC ∧ LS' ≤ LS ∧ C LC' LS' (st.take n).reverse G X (fun v G' X' => zsz G' = LC' ∧ ztt G' = LS' ∧ (zrk ret v → K ls (v ++ st.drop n) G' X'))
theorem z_callR {E : zE} {cc : ByteArray} {own : String} {nL fr lo pc : Nat} {LC LS : Nat} {c : Int} {c0 : Nat} {y : MethodName} {bytes : ByteArray} {maxL n index fr2 lo2 : Nat} {ret : Option FieldType} {C : zCo} {K : zK} (hc : zCx E cc own nL fr lo) (hx : zXt (ead E) (eA E) (es E)) (hC : zSnd y bytes maxL ret fr2 lo2 C) (hl : Cond.methodLink own index y ∈ zTb) (hLC : LC - esz E ≤ (eR E).cells) (hLS : LS - ett E ≤ (eR E).slots) (hin : Cond.instanceMethod y ∈ zTb) (hini : Cond.initialized y.cls ∈ zTb) (hsel : Cond.selects y.cls y y ∈ zTb) (hcl : ∃ T N, zcl[c0]? = some (y.cls, T, N)) (ekc : c = (c0 : Int)) (hc5 : c0 < 50) (hcode : Cond.code y bytes maxL ret ∈ zTb) (hd0 : y.cls ≠ "java/lang/invoke/MethodHandle" ∧ y.cls ≠ "java/lang/invoke/VarHandle" ∧ (parseMethodDescriptor y.desc).map (fun d => d.parameters.length) = some (n - 1)) (hn0 : n ≠ 0) (hnm : n ≤ maxL) (hR : fr2 + 1 ≤ fr ∧ 8 + (maxL + 11) + lo2 ≤ lo) (hd : decode cc pc = .ok (.invokevirtual index, 3)) (k : ∀ (ls st : List zV) (G : zG) (X : zX), K ls st G X → zAt E nL (pc + 3) ls st G X) : ∀ (ls st : List zV) (G : zG) (X : zX), o_callR LC LS c ret C n K ls st G X → zAt E nL pc ls st G X := by
  intro ls st G X h ad H locs lsr hH hL hS
  unfold o_callR at h
  obtain ⟨hck, hrc, LC1, LS1, b1, b2, b3, b4, h⟩ := h
  have g2 := hH.2.1
  have g3 := hH.2.2.1
  have hok := hH.2.2.2.2.2.2.2.2.1
  have hva : ∀ v ∈ (st.take n).reverse, zok (zsz G) v ∧ z1 v = true := fun v hv => ⟨hS v (List.mem_of_mem_take (List.mem_reverse.mp hv)), List.all_eq_true.mp hck.2.2 v (List.mem_reverse.mp hv)⟩
  have hlen : (st.take n).reverse.length = n := by rw [List.length_reverse, List.length_take]; exact Nat.min_eq_left hck.1
  have hM := hC (el E) (eV E) ad H.size LC1 LS1 _ G X (fun v G2 X2 => zrk ret v → K ls (v ++ st.drop n) G2 X2) (by rw [hlen]; exact hnm) hva hok b1 b2 h
  have hcs : CallFix (ep E) (em E) (ec E) cc nL (es E) (ea E) zTb own := ⟨hc.1, hc.2.1, hc.2.2.1, hc.2.2.2.1, hc.2.2.2.2.1⟩
  have hgood : GoodIn zTb (Cond.code y bytes maxL ret :: zTb) := zTb_good (fun w hw => (List.mem_cons.mp hw).elim (fun e => by rw [e]; exact hcode) id)
  have hRR : fr2 + 1 ≤ (eR E).frames ∧ 8 + (maxL + 11) + lo2 ≤ (eR E).locals := by rw [hc.2.2.2.2.2.1, hc.2.2.2.2.2.2.1]; exact hR
  have hsz1 : lsr.size = nL := hL.1
  obtain ⟨b, as, hba⟩ : ∃ b as, (st.take n).reverse = zR b :: as ∧ zkd G b = c := by
    generalize (st.take n).reverse = aa at hrc
    rcases aa with _ | ⟨x | b | x | x, as⟩
    · exact hrc.elim
    · exact hrc.elim
    · exact ⟨b, as, rfl, hrc⟩
    · exact hrc.elim
    · exact hrc.elim
  obtain ⟨hba, hkb⟩ := hba
  rw [hba] at hlen
  have hb1 : b ≠ -1 := fun z => by
    subst z
    have := hok.2.2.2.2.1 (-1) (by omega)
    omega
  have e9 : zv ad (zR b) = .ref (ad b) := if_neg hb1
  have hlas : (as.map (zv ad)).length = n - 1 := by rw [List.length_map]; rw [List.length_cons] at hlen; omega
  have hstk : st.map (zv ad) = (as.map (zv ad)).reverse ++ .ref (ad b) :: (st.drop n).map (zv ad) := by
    rw [z_split (n := n), hba, List.map_cons, List.reverse_cons, e9, List.append_assoc]
    rfl
  have hpc : ∀ U : State, U.heap = H → (es E).WarmedH U.vm → zPc (eV E) ad H.size (st.take n).reverse G X (Value.ref (ad b) :: as.map (zv ad)).toArray U := fun U h1 h2 => by
    have := zPc_call (vs := (st.take n).reverse) hc hx hH U h1 h2
    rw [hba, List.map_cons, e9] at this
    rw [hba]
    exact this
  subst ekc
  obtain ⟨Tb, Nb, hcl⟩ := hcl
  have hrv := zRecv hc hH hkb hc5 hcl
  have hrun := va_runV (H := H) (locs := locs) (cells := zsz G - esz E) (slots := ztt G - ett E) (below := eb E) (meth := eh E) (e := ee E) (b := ad b) (As := as.map (zv ad)) (rest := (st.drop n).map (zv ad)) (g := F0 (em E) pc lsr (st.map (zv ad))) hcs hM (cwV (n - 1) hc.2.2.2.2.1 (zTb_good (fun w hw => by
      rcases List.mem_append.mp hw with hw | hw
      · rcases List.mem_cons.mp hw with e | hw
        · rw [e]; exact hl
        · rcases List.mem_cons.mp hw with e | hw
          · rw [e]; exact hin
          · rcases List.mem_cons.mp hw with e | hw
            · rw [e]; exact hsel
            · rcases List.mem_cons.mp hw with e | hw
              · rw [e]; exact hini
              · cases hw
      · exact (List.mem_cons.mp hw).elim (fun e => by rw [e]; exact hcode) id)) rfl rfl rfl ⟨rfl, hd0⟩ hRR) ⟨zPc_blind, hrv, hpc⟩ rfl hlas hsz1 hstk (lv_room (z_rsum hck.2.1)) hd ⟨by omega, by omega⟩
  exact z_back hc hH hL (fun v hv => hS v (List.mem_of_mem_drop hv)) b1 b2 (by omega) (by omega) hrun (fun v G2 X2 hK _ _ => k _ _ _ _ (hK.2 hK.1))
abbrev lwL (i : Int) : List zV := [zR (-5), zR 0, zR 139, zI i]
def lwv (xs : Nat → Int32) (j : Int) : Int := (xs j.toNat).toInt
def lwb (x : Int) : Int := if x = 0 then 0 else 1
theorem lwv_in (xs : Nat → Int32) (j : Int) : zin (lwv xs j) := z32_in _
theorem lwb_or (x : Int) : lwb x = 0 ∨ lwb x = 1 := by
  unfold lwb
  split
  · exact Or.inl rfl
  · exact Or.inr rfl
/-- the script: L ints at the cell b, which nobody writes -/
def lwS (E : zE) (b L : Nat) (xs : Nat → Int32) : Prop := va_X b L xs (es E) (es E).heap ∧ b < (es E).heap.size ∧ ¬ eA E b ∧ ead E (-5) = b ∧ L ≤ 3072
abbrev lwC (E : zE) : Prop := zCx E code "PretendDeskLaw" 4 14 538
theorem lwk {E : zE} {n : Nat} : ∀ (ls st : List zV) (G : zG) (X : zX), zAt E 4 n ls st G X → zAt E 4 n ls st G X := fun _ _ _ _ h => h
theorem lwLd {E : zE} {b L pc : Nat} {xs : Nat → Int32} (hc : lwC E) (hs : lwS E b L xs) {j : Int} {ls st : List zV} {G : zG} {X : zX} (j0 : 0 ≤ j) (jL : j < L) (d : decode code pc = .ok (.iaload, 1)) (kk : zAt E 4 (pc + 1) ls (zI (lwv xs j) :: st) G X) : zAt E 4 pc ls (zI j :: zR (-5) :: st) G X := by
  intro ad H locs lsr hH hL hS
  obtain ⟨hj, hS⟩ := List.forall_mem_cons.mp hS
  obtain ⟨-, hS⟩ := List.forall_mem_cons.mp hS
  obtain ⟨hX, hb, hA, he, hl⟩ := hs
  have e5 : ad (-5) = b := (hH.1 (-5) (by omega)).trans he
  have hz : zin j := hj
  rw [List.map_cons, List.map_cons, show zv ad (zR (-5)) = .ref (ad (-5)) from rfl, e5]
  have hin : vp_in (Int32.ofInt j) L := by
    have := z_in hz j0 (n := (L : Int)) jL
    rwa [Int.toNat_natCast] at this
  refine va_sld hc.1 hc.2.1 hX hb hA hH.2.2.2.2.2.2.2.1 hin d ?_
  have := kk ad H locs lsr hH hL (List.forall_mem_cons.mpr ⟨lwv_in _ _, hS⟩)
  rw [List.map_cons, show zv ad (zI (lwv xs j)) = .int (Int32.ofInt (xs j.toNat).toInt) from rfl, z32e] at this
  rw [z_nc j0 hz]
  exact this
theorem lwA {E : zE} {b L pc : Nat} {xs : Nat → Int32} (hc : lwC E) (hs : lwS E b L xs) {i k : Int} {st : List zV} {G : zG} {X : zX} (i0 : 0 ≤ i) (iL : i + 5 < L) (k0 : 0 ≤ k) (k5 : k ≤ 5) (d0 : decode code pc = .ok (.aload_n 0, 1)) (d1 : decode code (pc + 1) = .ok (.iload_n 3, 1)) (d2 : decode code (pc + 2) = .ok (.iconst k, 1)) (d3 : decode code (pc + 3) = .ok (.iadd, 1)) (d4 : decode code (pc + 4) = .ok (.iaload, 1)) (kk : zAt E 4 (pc + 5) (lwL i) (zI (lwv xs (i + k)) :: st) G X) : zAt E 4 pc (lwL i) st G X := by
  have hl := hs.2.2.2.2
  refine z_aload_n (i := 0) hc rfl d0 lwk _ _ _ _ (s_aload (x := -5) rfl ?_)
  refine z_iload_n (i := 3) hc rfl d1 lwk _ _ _ _ (s_iload (x := i) rfl ?_)
  refine z_iconst hc (by omega) d2 lwk _ _ _ _ (s_ipush ?_)
  refine z_iadd hc d3 lwk _ _ _ _ (s_iadd ?_)
  rw [zw_id (by omega) (by omega)]
  exact lwLd hc hs (by omega) (by omega) d4 kk
theorem lwX {E : zE} {pc : Nat} (hc : lwC E) {i : Int} {st : List zV} {G : zG} {X : zX} (d0 : decode code pc = .ok (.aload_n 1, 1)) (kk : zAt E 4 (pc + 1) (lwL i) (zR 0 :: st) G X) : zAt E 4 pc (lwL i) st G X :=
  z_aload_n (i := 1) hc rfl d0 lwk _ _ _ _ (s_aload (x := 0) rfl kk)
theorem lwY {E : zE} {pc : Nat} (hc : lwC E) {i : Int} {st : List zV} {G : zG} {X : zX} (d0 : decode code pc = .ok (.aload_n 2, 1)) (kk : zAt E 4 (pc + 1) (lwL i) (zR 139 :: st) G X) : zAt E 4 pc (lwL i) st G X :=
  z_aload_n (i := 2) hc rfl d0 lwk _ _ _ _ (s_aload (x := 139) rfl kk)
theorem lwB {E : zE} {pc : Nat} (hc : lwC E) {x : Int} {ls st : List zV} {G : zG} {X : zX} (d0 : decode code pc = .ok (.ifCond .eq 7, 3)) (d1 : decode code (pc + 3) = .ok (.iconst 1, 1)) (d2 : decode code (pc + 4) = .ok (.goto 4, 3)) (d3 : decode code (pc + 7) = .ok (.iconst 0, 1)) (kk : zAt E 4 (pc + 8) ls (zI (lwb x) :: st) G X) : zAt E 4 pc ls (zI x :: st) G X := by
  refine z_if_eq (tgt := pc + 7) hc (by omega) d0 lwk lwk _ _ _ _ (s_eqz (fun e => ?_) (fun e => ?_))
  · refine z_iconst hc (by omega) d3 lwk _ _ _ _ (s_ipush ?_)
    rw [lwb, if_pos e] at kk
    exact kk
  · refine z_iconst hc (by omega) d1 lwk _ _ _ _ (s_ipush ?_)
    rw [lwb, if_neg e] at kk
    exact z_goto (tgt := pc + 8) hc (by omega) d2 lwk _ _ _ _ (s_goto kk)
theorem lwE {E : zE} {pc : Nat} (hc : lwC E) {off r : Int} {ls st : List zV} {G : zG} {X : zX} (ht : (pc : Int) + off = 2157) (d : decode code pc = .ok (.if_icmp .eq off, 3)) (kk : zAt E 4 2157 ls st G X) : zAt E 4 pc ls (zI r :: zI r :: st) G X :=
  z_icmp_eq (tgt := 2157) hc (by omega) d lwk lwk _ _ _ _ (s_eq (fun _ => kk) (fun ne => absurd rfl ne))
/-- the same call of both, its answers alike -/
theorem lwD {E : zE} (hc : lwC E) (hx : zXt (ead E) (eA E) (es E)) {pc1 pc2 n ix1 ix2 m1 m2 f1 f2 o1 o2 : Nat} {D : zCo} {M : zCp} {l : List zV} {i : Int} {y1 y2 : MethodName} {b1 b2 : ByteArray} {ret1 ret2 : Option FieldType} {G : zG} {X : zX}
    (heq : zEq D M l) (mono : zMo D) (monoM : ∀ (vs : List zV) (G : zG) (X : zX) (Q Q2 : List zV → zX → Prop), (∀ v X2, Q v X2 → Q2 v X2) → M vs G X Q → M vs G X Q2) (hn : l.length + 1 = n) (hl : l.all z1 = true) (hr1 : ret1 = some .int ∨ ret1 = some .boolean)
    (hD : zSnd y1 b1 m1 ret1 f1 o1 D) (hl1 : Cond.methodLink "PretendDeskLaw" ix1 y1 ∈ zTb) (hin1 : Cond.instanceMethod y1 ∈ zTb) (hini1 : Cond.initialized y1.cls ∈ zTb) (hsel1 : Cond.selects y1.cls y1 y1 ∈ zTb) (hcl1 : ∃ T N, zcl[0]? = some (y1.cls, T, N)) (hcode1 : Cond.code y1 b1 m1 ret1 ∈ zTb) (hd1 : y1.cls ≠ "java/lang/invoke/MethodHandle" ∧ y1.cls ≠ "java/lang/invoke/VarHandle" ∧ (parseMethodDescriptor y1.desc).map (fun d => d.parameters.length) = some (n - 1)) (hnm1 : n ≤ m1) (hR1 : f1 + 1 ≤ 14 ∧ 8 + (m1 + 11) + o1 ≤ 538) (d1 : decode code pc1 = .ok (.invokevirtual ix1, 3))
    (hM : zSnd y2 b2 m2 ret2 f2 o2 (zUp M)) (hl2 : Cond.methodLink "PretendDeskLaw" ix2 y2 ∈ zTb) (hin2 : Cond.instanceMethod y2 ∈ zTb) (hini2 : Cond.initialized y2.cls ∈ zTb) (hsel2 : Cond.selects y2.cls y2 y2 ∈ zTb) (hcl2 : ∃ T N, zcl[12]? = some (y2.cls, T, N)) (hcode2 : Cond.code y2 b2 m2 ret2 ∈ zTb) (hd2 : y2.cls ≠ "java/lang/invoke/MethodHandle" ∧ y2.cls ≠ "java/lang/invoke/VarHandle" ∧ (parseMethodDescriptor y2.desc).map (fun d => d.parameters.length) = some (n - 1)) (hnm2 : n ≤ m2) (hR2 : f2 + 1 ≤ 14 ∧ 8 + (m2 + 11) + o2 ≤ 538) (d2 : decode code pc2 = .ok (.invokevirtual ix2, 3))
    (hg : zRela G X) (c1 : zsz G + 102 - esz E ≤ (eR E).cells) (c2 : ztt G + 5266 - ett E ≤ (eR E).slots)
    (mid : ∀ (r : Int) (G1 : zG) (X1 : zX), zAt E 4 pc2 (lwL i) (l.reverse ++ [zR 139, zI r]) G1 X1 → zAt E 4 (pc1 + 3) (lwL i) [zI r] G1 X1)
    (fin : ∀ (r : Int) (G2 : zG) (X2 : zX), zRela G2 X2 → zsz G2 ≤ zsz G + 102 → ztt G2 ≤ ztt G + 5266 → zAt E 4 (pc2 + 3) (lwL i) [zI r, zI r] G2 X2) : zAt E 4 pc1 (lwL i) (l.reverse ++ [zR 0]) G X := by
  subst hn
  obtain ⟨LC, LS, a1, a2, a3, a4, h⟩ := heq G X hg
  have t1 : (l.reverse ++ [zR 0]).take (l.length + 1) = l.reverse ++ [zR 0] := List.take_of_length_le (by rw [List.length_append, List.length_reverse]; exact Nat.le_refl _)
  have r1 : (l.reverse ++ [zR 0]).drop (l.length + 1) = [] := List.drop_of_length_le (by rw [List.length_append, List.length_reverse]; exact Nat.le_refl _)
  have v1 : (l.reverse ++ [zR 0]).reverse = zR 0 :: l := by rw [List.reverse_append, List.reverse_reverse]; rfl
  refine z_callR (LC := LC) (LS := LS) (n := l.length + 1) (c := 0) (c0 := 0) hc hx hD hl1 (by omega) (by omega) hin1 hini1 hsel1 hcl1 rfl (by omega) hcode1 hd1 (by omega) hnm1 hR1 d1 lwk _ _ _ _ ?_
  refine ⟨⟨by rw [List.length_append, List.length_reverse]; exact Nat.le_refl _, by rw [r1]; exact Nat.zero_le _, ?_⟩, ?_, LC, LS, a1, a3, Nat.le_refl _, Nat.le_refl _, ?_⟩
  · rw [t1, List.all_append, List.all_reverse, hl]
    rfl
  · rw [t1, v1]
    show zkd G 0 = 0
    exact zSk hg.1 0 0 (by decide +kernel)
  · rw [t1, v1]
    refine mono _ _ _ _ _ _ _ (fun v G1 X1 hv => ⟨hv.1, hv.2.1, fun hz => ?_⟩) h
    obtain ⟨r, rfl⟩ := hz hr1
    rw [r1]
    refine mid r G1 X1 ?_
    have t2 : (l.reverse ++ [zR 139, zI r]).take (l.length + 1) = l.reverse ++ [zR 139] := by
      rw [show l.reverse ++ [zR 139, zI r] = (l.reverse ++ [zR 139]) ++ [zI r] by rw [List.append_assoc]; rfl]
      exact List.take_left' (by rw [List.length_append, List.length_reverse]; rfl)
    have r2 : (l.reverse ++ [zR 139, zI r]).drop (l.length + 1) = [zI r] := by
      rw [show l.reverse ++ [zR 139, zI r] = (l.reverse ++ [zR 139]) ++ [zI r] by rw [List.append_assoc]; rfl]
      exact List.drop_left' (by rw [List.length_append, List.length_reverse]; rfl)
    have v2 : (l.reverse ++ [zR 139]).reverse = zR 139 :: l := by rw [List.reverse_append, List.reverse_reverse]; rfl
    refine z_callV (n := l.length + 1) (c := 12) (c0 := 12) hc hx monoM hM hl2 hin2 hini2 hsel2 hcl2 rfl (by omega) hcode2 hd2 (by omega) hnm2 hR2 d2 lwk _ _ _ _ ?_
    refine ⟨⟨by rw [List.length_append, List.length_reverse]; exact Nat.add_le_add_left (show 1 ≤ 2 by omega) _, by rw [r2]; show 1 + 0 ≤ 8; omega, ?_⟩, ?_, ?_⟩
    · rw [t2, List.all_append, List.all_reverse, hl]
      rfl
    · rw [t2, v2]
      exact hv.2.2.1
    · rw [t2, v2]
      refine monoM _ _ _ _ _ (fun w X2 hw => ?_) hv.2.2.2
      obtain ⟨rfl, hq⟩ := hw
      rw [r2]
      exact fin r G1 X2 hq (by omega) (by omega)
/-- what a call of the law stands on -/
def lwH (E : zE) (b L : Nat) (xs : Nat → Int32) (i : Int) (G : zG) (X : zX) : Prop := lwC E ∧ zXt (ead E) (eA E) (es E) ∧ lwS E b L xs ∧ 0 ≤ i ∧ i + 5 < (L : Int) ∧ zRela G X ∧ zsz G + 102 - esz E ≤ (eR E).cells ∧ ztt G + 5266 - ett E ≤ (eR E).slots ∧ (∀ (G2 : zG) (X2 : zX), zRela G2 X2 → zsz G2 ≤ zsz G + 102 → ztt G2 ≤ ztt G + 5266 → zAt E 4 2157 (lwL i) [] G2 X2)
