/-! ===== whose name a page has; signs, say, warn ===== -/
/-- two names of the row are the same -/
def zEqn (X : zX) (b c : Int) : Prop := X 140 b = X 140 c ∧ ∀ i : Int, 0 ≤ i → i < X 140 c → X 140 (b + 1 + i) = X 140 (c + 1 + i)
theorem equals_D {Q : List zV → zX → Prop} {G : zG} {X : zX} {r s b c : Int} (hr : zNv G X r b) (hs : zNv G X s c) (q1 : zEqn X b c → Q [zI 1] X) (q0 : ¬zEqn X b c → Q [zI 0] X) : S_equals [zR r, zR s] G X Q := by
  have hr' := hr
  have hs' := hs
  obtain ⟨r1, r2, r3, r4, r5, r6, r7, r8, r9, r10, r11⟩ := hr'
  obtain ⟨s1, s2, s3, s4, s5, s6, s7, s8, s9, s10, s11⟩ := hs'
  refine S_equals_e0 ⟨r5, s5, by omega, by omega, fun e => q1 ?_, fun ne => ⟨s5, r5, fun _ => S_equals_e36 ⟨r5, s5, ?_⟩, fun z => absurd (r6.trans s6.symm) z⟩⟩
  · rw [e] at r8 r11
    refine ⟨by omega, fun i i0 i1 => ?_⟩
    rw [(r11 i i0 (by omega)).1, (s11 i i0 i1).1]
  · refine SL_equals_e0 ?_
    rw [r7, s7, r8, s8]
    refine ⟨by omega, by omega, by omega, by omega, fun el => ?_, fun nl => ⟨0, rfl, fun _ => q0 (fun z => nl z.1), fun z => absurd rfl z⟩⟩
    have lp : ∀ (d : Nat) (i : Int), i + d = X 140 c → 0 ≤ i → (∀ j : Int, 0 ≤ j → j < i → X 140 (b + 1 + j) = X 140 (c + 1 + j)) → SL_equals_W (fun v1 X2 => ∃ r4, v1 = [zI r4] ∧ ((r4 = 0 → Q [zI 0] X2) ∧ (r4 ≠ 0 → Q [zI 1] X2))) 9 [zR (zrx G r 0), zR (zrx G s 0), zI i] [] G X := by
      intro d
      induction d with
      | zero =>
        intro i e i0 hj
        refine SL_equals_e9 ?_
        rw [r7, r8]
        exact ⟨by omega, by omega, fun z => absurd z (by omega), fun _ => ⟨1, rfl, fun z => absurd z (by omega), fun _ => q1 ⟨el, fun j j0 j1 => hj j j0 (by omega)⟩⟩⟩
      | succ d ih =>
        intro i e i0 hj
        have g1 := r11 i i0 (by omega)
        have g2 := s11 i i0 (by omega)
        refine SL_equals_e9 ?_
        rw [r7, s7, r8, s8]
        refine ⟨by omega, by omega, fun _ => ⟨rfl, i0, by omega, rfl, by omega, fun ee => ?_, fun ne => ⟨0, rfl, fun _ => q0 (fun z => ne ?_), fun z => absurd rfl z⟩⟩, fun z => absurd z (by omega)⟩
        · rw [zw_id (x := i + 1) (by omega) (by omega)]
          refine ih (i + 1) (by omega) (by omega) (fun j j0 j1 => ?_)
          by_cases cj : j = i
          · rw [cj, g1.1, g2.1, ee]
          · exact hj j j0 (by omega)
        · have y := z.2 i i0 (by omega)
          rw [g1.1, g2.1] at y
          exact zsg_inj g1.2 y
    exact lp (X 140 c).toNat 0 (by omega) (by omega) (fun j j0 j1 => absurd j1 (by omega))
theorem isNameOf_M {Q : List zV → zX → Prop} {G : zG} {X : zX} {p h : Int} (hG : SH G) (p0 : 0 ≤ p) (p1 : p < 10) (h0 : 0 ≤ h) (h1 : h < 5) (m0 : 0 ≤ X 140 (1870 + 160 * h)) (m1 : X 140 (1870 + 160 * h) ≤ 12) (q1 : zEqn X (2670 + 210 * p) (1870 + 160 * h) → Q [zI 1] X) (q0 : ¬zEqn X (2670 + 210 * p) (1870 + 160 * h) → Q [zI 0] X) : M_isNameOf [zR 139, zI p, zI h] G X Q := by
  have lp : ∀ (d : Nat) (k x3 : Int), k + d = X 140 (1870 + 160 * h) + 1 → 1 ≤ k → ((x3 = 1 ∧ X 140 (2670 + 210 * p) = X 140 (1870 + 160 * h) ∧ ∀ i : Int, 0 ≤ i → i < k - 1 → X 140 (2670 + 210 * p + 1 + i) = X 140 (1870 + 160 * h + 1 + i)) ∨ (x3 = 0 ∧ ¬zEqn X (2670 + 210 * p) (1870 + 160 * h))) → M_isNameOf_W Q 30 [zR 139, zI p, zI h, zI x3, zI k] [] G X := by
    intro d
    induction d with
    | zero =>
      intro k x3 e k0 c
      refine M_isNameOf_f30 hG (q_houseAt hG h0 h1 ⟨_, rfl, by omega, by omega, fun _ => ⟨by omega, ?_⟩, fun z => absurd z (by omega)⟩)
      rcases c with ⟨c1, c2, c3⟩ | ⟨c1, c2⟩
      · rw [c1]
        exact q1 ⟨c2, fun i i0 i1 => c3 i i0 (by omega)⟩
      · rw [c1]
        exact q0 c2
    | succ d ih =>
      intro k x3 e k0 c
      refine M_isNameOf_f30 hG (q_houseAt hG h0 h1 ⟨_, rfl, by omega, by omega, fun z => absurd z (by omega), fun _ => ⟨fun z => ?_, fun z => ?_⟩⟩)
      · have n : ¬zEqn X (2670 + 210 * p) (1870 + 160 * h) := by
          rcases c with c | c
          · omega
          · exact c.2
        exact ⟨zw_id (by omega) (by omega), ih (k + 1) 0 (by omega) (by omega) (Or.inr ⟨rfl, n⟩)⟩
      · have c' : X 140 (2670 + 210 * p) = X 140 (1870 + 160 * h) ∧ ∀ i : Int, 0 ≤ i → i < k - 1 → X 140 (2670 + 210 * p + 1 + i) = X 140 (1870 + 160 * h + 1 + i) := by
          rcases c with c | c
          · exact c.2
          · exact absurd c.1 z
        refine q_pageAt hG p0 p1 ⟨_, rfl, zw_id (by omega) (by omega), by omega, by omega, q_houseAt hG h0 h1 ⟨_, rfl, zw_id (by omega) (by omega), by omega, by omega, fun ee => ⟨zw_id (by omega) (by omega), ih (k + 1) 1 (by omega) (by omega) (Or.inl ⟨rfl, c'.1, fun i i0 i1 => ?_⟩)⟩, fun ne => ⟨zw_id (by omega) (by omega), ih (k + 1) 0 (by omega) (by omega) (Or.inr ⟨rfl, fun y => ne ?_⟩)⟩⟩⟩
        · by_cases ci : i = k - 1
          · rw [ci, show 2670 + 210 * p + 1 + (k - 1) = 2670 + 210 * p + k by omega, show 1870 + 160 * h + 1 + (k - 1) = 1870 + 160 * h + k by omega]
            exact ee
          · exact c'.2 i i0 (by omega)
        · have w := y.2 (k - 1) (by omega) (by omega)
          rw [show 2670 + 210 * p + 1 + (k - 1) = 2670 + 210 * p + k by omega, show 1870 + 160 * h + 1 + (k - 1) = 1870 + 160 * h + k by omega] at w
          exact w
  refine M_isNameOf_f0 hG (q_pageAt hG p0 p1 ⟨_, rfl, by omega, by omega, q_houseAt hG h0 h1 ⟨_, rfl, by omega, by omega, fun e => M_isNameOf_f26 hG ?_, fun ne => M_isNameOf_f26 hG ?_⟩⟩)
  · exact lp (X 140 (1870 + 160 * h)).toNat 1 1 (by omega) (by omega) (Or.inl ⟨rfl, e, fun i i0 i1 => absurd i1 (by omega)⟩)
  · exact lp (X 140 (1870 + 160 * h)).toNat 1 0 (by omega) (by omega) (Or.inr ⟨rfl, fun z => ne z.1⟩)
/-- ELSEWHERE, 1 or 0: like some house, and not by its name -/
noncomputable def zEw (X : zX) (like b : Int) : Int := @ite _ (like ≠ -1 ∧ ¬zEqn X b (1870 + 160 * like)) (Classical.propDecidable _) 1 0
theorem zEw_1 {X : zX} {like b : Int} (h : like ≠ -1 ∧ ¬zEqn X b (1870 + 160 * like)) : zEw X like b = 1 := @if_pos _ (Classical.propDecidable _) h _ _ _
theorem zEw_0 {X : zX} {like b : Int} (h : ¬(like ≠ -1 ∧ ¬zEqn X b (1870 + 160 * like))) : zEw X like b = 0 := @if_neg _ (Classical.propDecidable _) h _ _ _
theorem zEw_in (X : zX) (like b : Int) : zEw X like b = 0 ∨ zEw X like b = 1 := by
  by_cases c : like ≠ -1 ∧ ¬zEqn X b (1870 + 160 * like)
  · exact Or.inr (zEw_1 c)
  · exact Or.inl (zEw_0 c)
theorem zEw_w {X Y : zX} (w : zWk X Y) (like b : Int) : zEw Y like b = zEw X like b := by
  unfold zEw zEqn
  rw [w 140 (by omega)]
theorem zNas_w {G : zG} {X Y : zX} {r b : Int} (w : zWk X Y) (h : zNas G X r b) : zNas G Y r b := by
  rcases h with h | h
  · exact Or.inl ⟨h.1, by rw [w 140 (by omega)]; exact h.2⟩
  · exact Or.inr (zNv_w w h)
theorem zNm2_w {G : zG} {X Y : zX} (w : zWk X Y) (h : zNm2 G X 1 0) : zNm2 G Y 1 0 := by
  refine ⟨fun p p0 p1 => ?_, fun p p0 p1 => ?_⟩
  · exact zNas_w w (h.1 p p0 p1)
  · rw [w 1 (by omega)] at p1
    exact zNv_w w (h.2 p p0 p1)
theorem else_D {Q : List zV → zX → Prop} {G : zG} {X : zX} {nm b like : Int} (hG : SH G) (h : zRT X 1 0) (hn : zNm2 G X 1 0) (na : zNas G X nm b) (el : X 104 5 = like) (l0 : -1 ≤ like) (l1 : like < X 1 11) (q : Q [zI (zEw X like b)] X) : Rm_isElsewhere [zR 104, zR nm] G X Q := by
  have hh := q_houses h
  refine Rm_isElsewhere_f0 hG ?_
  rw [el]
  refine ⟨fun z => ?_, fun z => ?_⟩
  · rw [zEw_0 (fun y => y.1 z)] at q
    exact q
  · have nh := nm_house hn (p := like) (by omega) l1
    have h9 : 1 ≤ X 140 (1870 + 160 * like) := nh.2.2.2.2.2.2.2.2.1
    refine ⟨fun nl => ?_, fun nn => ?_⟩
    · rw [zEw_1 ⟨z, fun y => ?_⟩] at q
      · exact q
      · rcases na with na | na
        · have y1 := y.1
          rw [na.2] at y1
          omega
        · have := na.1
          omega
    · have nv : zNv G X nm b := by
        rcases na with na | na
        · exact absurd na.1 nn
        · exact na
      refine ⟨by omega, by omega, nv.2.2.2.2.1, equals_D nv nh (fun e => ⟨1, rfl, fun y => absurd y (by omega), fun _ => ?_⟩) (fun e => ⟨0, rfl, fun _ => ?_, fun y => absurd rfl y⟩)⟩
      · rw [zEw_0 (fun y => y.2 e)] at q
        exact q
      · rw [zEw_1 ⟨z, e⟩] at q
        exact q
/-- SIGNS: what it looks like, what it asks, elsewhere and young -/
def zS1 (X : zX) (like look : Int) : Int := if like ≠ -1 ∧ look ≤ X 1 14 then 1 else 0
def zS2 (X : zX) (s ask : Int) : Int := if X 1 15 ≤ ask then zor s 2 else s
def zS4 (X : zX) (s el age : Int) : Int := if el ≠ 0 ∧ age ≤ X 1 16 then zor s 4 else s
def zSi (X : zX) (like look ask el age : Int) : Int := zS4 X (zS2 X (zS1 X like look) ask) el age
theorem zSi_in (X : zX) (like look ask el age : Int) : 0 ≤ zSi X like look ask el age ∧ zSi X like look ask el age ≤ 7 := by
  have h1 : zS1 X like look = 0 ∨ zS1 X like look = 1 := by
    unfold zS1
    by_cases c : like ≠ -1 ∧ look ≤ X 1 14
    · exact Or.inr (if_pos c)
    · exact Or.inl (if_neg c)
  have o02 : zor 0 2 = 2 := by decide +kernel
  have o12 : zor 1 2 = 3 := by decide +kernel
  have h2 : 0 ≤ zS2 X (zS1 X like look) ask ∧ zS2 X (zS1 X like look) ask ≤ 3 := by
    unfold zS2
    by_cases c : X 1 15 ≤ ask
    · rw [if_pos c]
      rcases h1 with h1 | h1
      · rw [h1, o02]; omega
      · rw [h1, o12]; omega
    · rw [if_neg c]
      omega
  have o4 : ∀ n : Fin 4, 0 ≤ zor (n.val : Int) 4 ∧ zor (n.val : Int) 4 ≤ 7 := by decide +kernel
  unfold zSi
  generalize zS2 X (zS1 X like look) ask = s at h2
  unfold zS4
  by_cases c : el ≠ 0 ∧ age ≤ X 1 16
  · rw [if_pos c]
    have z := o4 ⟨s.toNat, by omega⟩
    rw [show ((s.toNat : Nat) : Int) = s by omega] at z
    exact z
  · rw [if_neg c]
    omega
theorem zSi_w {X Y : zX} (w : zWk X Y) : zSi Y = zSi X := by
  funext a b c d e
  unfold zSi zS4 zS2 zS1
  rw [w 1 (by omega)]
theorem signsAt_D {Q : List zV → zX → Prop} {G : zG} {X : zX} {F : zFo} {like look nm b age : Int} (hG : SH G) (h : zRT X 1 0) (hn : zNm2 G X 1 0) (na : zNas G X nm b) (od : zOpd X 105 F) (hk : ∀ x, x ∈ F → 0 ≤ x.2.1 ∧ x.2.1 ≤ 7) (el : X 104 5 = like) (ek : X 104 6 = look) (l0 : -1 ≤ like) (l1 : like < X 1 11) (q : Q [zI (zSi X like look (zAq (X 19) F) (zEw X like b) age)] X) : Rm_signsAt [zR 104, zR nm, zI age] G X Q := by
  unfold zSi at q
  have f56 : ∀ s : Int, Q [zI (zS4 X s (zEw X like b) age)] X → Rm_signsAt_W Q 56 [zR 104, zR nm, zI age, zI s] [] G X := fun s k => by
    unfold zS4 at k
    refine Rm_signsAt_f56 hG (else_D hG h hn na el l0 l1 ⟨_, rfl, fun z => ?_, fun z => ⟨fun lt => ?_, fun ge => ?_⟩⟩)
    · rw [if_neg (fun y => y.1 z)] at k
      exact k
    · rw [if_neg (by omega)] at k
      exact k
    · rw [if_pos ⟨z, ge⟩] at k
      exact k
  have f28 : ∀ s : Int, s = zS1 X like look → Rm_signsAt_W Q 28 [zR 104, zR nm, zI age, zI s] [] G X := fun s es => by
    rw [← es] at q
    unfold zS2 at q
    refine Rm_signsAt_f28 hG (asked_C hG od hk (fun j a b => (q_wor h j a b).2) ⟨_, rfl, fun lt => f56 s ?_, fun ge => f56 _ ?_⟩)
    · rw [if_neg (by omega)] at q
      exact q
    · rw [if_pos ge] at q
      exact q
  unfold zS1 at f28
  refine Rm_signsAt_f0 hG ?_
  rw [el, ek]
  refine ⟨fun z => f28 0 (by rw [if_neg (fun y => y.1 z)]), fun z => ⟨fun lt => f28 0 (by rw [if_neg (by omega)]), fun ge => ?_⟩⟩
  rw [show zor 0 1 = 1 by decide +kernel]
  exact f28 1 (by rw [if_pos ⟨z, ge⟩])
def zAge (X : zX) (p day : Int) : Int := max 0 (day - X (53 + 5 * p) 4)
noncomputable def zLik (X : zX) (p land day : Int) : Int × Int := zLi X (zSee X p land day) land day (X 1 11).toNat
noncomputable def zSgs (X : zX) (p land day : Int) : Int := zSi X (zLik X p land day).1 (zLik X p land day).2 (zAq (X 19) (zSee X p land day)) (zEw X (zLik X p land day).1 (2670 + 210 * p)) (zAge X p day)
theorem zLik_in {X : zX} {p land day : Int} (h : zRT X 1 0) : -1 ≤ (zLik X p land day).1 ∧ (zLik X p land day).1 < X 1 11 := by
  have z := zLi_in (X := X) (F := zSee X p land day) (land := land) (day := day) (X 1 11).toNat
  have hh := q_houses h
  unfold zLik
  omega
theorem zLik_w {X Y : zX} {p land day : Int} (h : zRT X 1 0) (w : zWk X Y) (p0 : 0 ≤ p) (p1 : p < 10) : zLik Y p land day = zLik X p land day := by
  have hh := q_houses h
  unfold zLik
  rw [zSee_w w p0 (by omega), w 1 (by omega), zLi_w h w _ (by omega)]
theorem zSgs_w {X Y : zX} {p land day : Int} (h : zRT X 1 0) (w : zWk X Y) (p0 : 0 ≤ p) (p1 : p < 10) : zSgs Y p land day = zSgs X p land day := by
  unfold zSgs zAge
  rw [zLik_w h w p0 p1, zSee_w w p0 (by omega), zSi_w w, zEw_w w, w 19 (by omega), w (53 + 5 * p) (by omega)]
theorem signsOf_D {Q : List zV → zX → Prop} {G : zG} {X : zX} {p land day : Int} (hG : SH G) (h : zRT X 1 0) (hn : zNm2 G X 1 0) (p0 : 0 ≤ p) (p1 : p < 10) (d0 : 0 ≤ day) (d1 : day ≤ 99) (q : ∀ X2 : zX, zWk X X2 → X2 104 5 = (zLik X p land day).1 → Q [zI (zSgs X p land day)] X2) : D_signsOf [zR 0, zI p, zI land, zI day] G X Q := by
  have hh := q_houses h
  have hp := q_pages h
  have lk := zLik_in (p := p) (land := land) (day := day) h
  have si := zR_sin h p p0 (by omega)
  rw [show (1 : Int) + 52 + 5 * p = 53 + 5 * p by omega] at si
  refine D_signsOf_f0 hG ⟨p0, by omega, see_P1 hG h p0 (by omega) (fun X2 w2 _ od => ⟨rfl, liken_C hG (zWk_RT w2 h) od (see_k h p0 (by omega)).2 (fun X3 w3 od3 e5 e6 => ⟨rfl, ?_⟩)⟩)⟩
  have w : zWk X X3 := zWk_t w2 w3
  rw [w2 1 (by omega), zLi_w h w2 _ (by omega)] at e5 e6
  refine Ca_age_f0 hG (zCa_at p0 (by omega)).2 ?_
  rw [w (53 + 5 * p) (by omega)]
  refine ⟨zw_id (by omega) (by omega), _, rfl, signsAt_D hG (zWk_RT w h) (zNm2_w w hn) (zNas_w w (nm_page hn p0 (by omega))) od3 (see_k h p0 (by omega)).1 e5 e6 lk.1 (by rw [w 1 (by omega)]; exact lk.2) ⟨_, rfl, ?_⟩⟩
  rw [zSi_w w, zEw_w w, w 19 (by omega)]
  exact q X3 w e5
theorem signsBy_R {Q : List zV → zX → Prop} {G : zG} {X : zX} {like look ask el age : Int} (hG : SH G) (h : zRT X 1 0) (e31 : X 139 31 = like) (e32 : like ≠ -1 → X 139 32 = look) (e33 : X 139 33 = ask) (e34 : X 139 34 = el) (l0 : -1 ≤ like) (q : Q [zI (zSi X like look ask el age)] X) : M_signsBy [zR 139, zI age] G X Q := by
  have m0 := (zR_mrk h 0 (by omega) (by omega)).1
  have m1 := (zR_mrk h 1 (by omega) (by omega)).1
  have m2 := (zR_mrk h 2 (by omega) (by omega)).1
  have n0 : X 140 3 = X 1 14 := m0
  have n1 : X 140 4 = X 1 15 := m1
  have n2 : X 140 5 = X 1 16 := m2
  unfold zSi at q
  have f43 : ∀ s : Int, Q [zI (zS4 X s el age)] X → M_signsBy_W Q 43 [zR 139, zI age, zI s] [] G X := fun s k => by
    unfold zS4 at k
    refine M_signsBy_f43 hG ?_
    rw [e34, n2]
    refine ⟨fun z => ?_, fun z => ⟨fun lt => ?_, fun ge => ?_⟩⟩
    · rw [if_neg (fun y => y.1 z)] at k
      exact k
    · rw [if_neg (by omega)] at k
      exact k
    · rw [if_pos ⟨z, ge⟩] at k
      exact k
  have f25 : ∀ s : Int, s = zS1 X like look → M_signsBy_W Q 25 [zR 139, zI age, zT] [zI s] G X := fun s es => by
    rw [← es] at q
    unfold zS2 at q
    refine M_signsBy_f25 hG ?_
    rw [e33, n1]
    refine ⟨fun lt => f43 s ?_, fun ge => f43 _ ?_⟩
    · rw [if_neg (by omega)] at q
      exact q
    · rw [if_pos ge] at q
      exact q
  unfold zS1 at f25
  refine M_signsBy_f0 hG ?_
  rw [e31, n0]
  refine ⟨fun z => M_signsBy_f24 hG (f25 0 (by rw [if_neg (by omega)])), fun z => ?_⟩
  rw [e32 (by omega)]
  exact ⟨fun lt => M_signsBy_f24 hG (f25 0 (by rw [if_neg (by omega)])), fun ge => f25 1 (by rw [if_pos ⟨by omega, ge⟩])⟩
/-- the reference judges what is opened as its tree 0 -/
theorem judges_R {Q : List zV → zX → Prop} {G : zG} {Y : zX} {F : zFo} {p land day ask : Int} {m : Nat} (hG : SH G) (h : zRT Y 1 0) (hn : zNm2 G Y 1 0) (p0 : 0 ≤ p) (p1 : p < 10) (rf : zRf Y 0 m F) (e27 : Y 139 27 = ask)
    (q : ∀ Y2 : zX, zWk Y Y2 → Y2 139 31 = (zLi Y F land day (Y 1 11).toNat).1 → ((zLi Y F land day (Y 1 11).toNat).1 ≠ -1 → Y2 139 32 = (zLi Y F land day (Y 1 11).toNat).2) → Y2 139 33 = ask → Y2 139 34 = zEw Y (zLi Y F land day (Y 1 11).toNat).1 (2670 + 210 * p) → (∀ c : Int, c ≠ 15 → c ≠ 26 → c ≠ 27 → c < 30 ∨ 34 < c → Y2 139 c = Y 139 c) → Q [] Y2) : M_judges [zR 139, zI p, zI land, zI day] G Y Q := by
  have hh := q_houses h
  have li := zLi_in (X := Y) (F := F) (land := land) (day := day) (Y 1 11).toNat
  refine M_judges_f0 hG ?_
  rw [e27]
  have w0 : zWk Y (zst Y 139 33 ask) := zWk_w (zWk_r Y) (by omega)
  refine likeNow_R hG (zWk_RT w0 h) (zRf_c rf (fun c p c0 c1 _ _ => by rw [zrd_r (by omega)]) (by rw [zrd_r (by omega)])) (fun Y2 w2 e30 f9 => ⟨_, rfl, ?_⟩)
  rw [w0 1 (by omega), zLi_w h w0 _ (by omega)] at e30 ⊢
  generalize hL : zLi Y F land day (Y 1 11).toNat = L at li e30 q ⊢
  rw [show (zst (zst Y2 139 31 L.1) 139 32 (zst Y2 139 31 L.1 139 30)) 139 31 = L.1 by rw [zrd_n (by omega), zrd_s], show zst Y2 139 31 L.1 139 30 = Y2 139 30 by rw [zrd_n (by omega)]]
  have wY : zWk Y (zst (zst Y2 139 31 L.1) 139 32 (Y2 139 30)) := zWk_w (zWk_w (zWk_t w0 w2) (by omega)) (by omega)
  have e33 : Y2 139 33 = ask := by rw [f9 33 (by omega) (by omega) (by omega) (by omega), zrd_s]
  have k12 : zkd G 139 = 12 := zSk hG 139 12 (by decide +kernel)
  have fin : ∀ v : Int, v = zEw Y L.1 (2670 + 210 * p) → M_judges_W Q 51 [zT, zT, zT, zT] [zI v, zR 139] G (zst (zst Y2 139 31 L.1) 139 32 (Y2 139 30)) := fun v ev => by
    refine M_judges_f51 hG ⟨k12, by rw [ev]; exact zEw_in _ _ _, q _ (zWk_w wY (by omega)) ?_ (fun n => ?_) ?_ ?_ (fun c c0 c1 c2 c3 => ?_)⟩
    · rw [zrd_n (by omega), zrd_n (by omega), zrd_s]
    · rw [zrd_n (by omega), zrd_s]
      exact e30 n
    · rw [zrd_n (by omega), zrd_n (by omega), zrd_n (by omega)]
      exact e33
    · rw [zrd_s, ev]
    · rw [zrd_n (by omega), zrd_n (by omega), zrd_n (by omega), f9 c c0 c1 c2 (by omega), zrd_n (by omega)]
  refine ⟨fun z => M_judges_f50 hG (fin 0 (zEw_0 (fun y => by omega)).symm), fun z => ?_⟩
  have nh := nm_house (zNm2_w wY hn) (p := L.1) (by omega) (by rw [wY 1 (by omega)]; omega)
  have ew : ∀ b c : Int, zEqn (zst (zst Y2 139 31 L.1) 139 32 (Y2 139 30)) b c → zEqn Y b c := fun b c e => by
    unfold zEqn at e ⊢
    rw [wY 140 (by omega)] at e
    exact e
  have ew2 : ∀ b c : Int, zEqn Y b c → zEqn (zst (zst Y2 139 31 L.1) 139 32 (Y2 139 30)) b c := fun b c e => by
    unfold zEqn at e ⊢
    rw [wY 140 (by omega)]
    exact e
  refine isNameOf_M hG p0 p1 z (by omega) (by have := nh.2.2.2.2.2.2.2.2.1; omega) nh.2.2.2.2.2.2.2.2.2.1 (fun e => ⟨1, rfl, fun y => absurd y (by omega), fun _ => M_judges_f50 hG (fin 0 (zEw_0 (fun y => y.2 (ew _ _ e))).symm)⟩) (fun e => ⟨0, rfl, fun _ => fin 1 (zEw_1 ⟨by omega, fun y => e (ew2 _ _ y)⟩).symm, fun y => absurd rfl y⟩)
theorem age_R {Q : List zV → zX → Prop} {G : zG} {X : zX} {p day : Int} (hG : SH G) (h : zRT X 1 0) (p0 : 0 ≤ p) (p1 : p < 10) (d0 : 0 ≤ day) (d1 : day ≤ 1000) (q : Q [zI (zAge X p day)] X) : M_ageOf [zR 139, zI p, zI day] G X Q := by
  have si := zR_sin h p p0 p1
  rw [show (1 : Int) + 52 + 5 * p = 53 + 5 * p by omega, show (0 : Int) + 2683 + 210 * p = 2670 + 210 * p + 13 by omega] at si
  unfold zAge at q
  refine M_ageOf_f0 hG (q_pageAt hG p0 p1 ⟨_, rfl, zw_id (by omega) (by omega), by omega, by omega, fun lt => ?_, fun ge => q_pageAt hG p0 p1 ⟨_, rfl, zw_id (by omega) (by omega), by omega, by omega, zw_id (by omega) (by omega), ?_⟩⟩)
  · rw [show max 0 (day - X (53 + 5 * p) 4) = 0 by omega] at q
    exact q
  · rw [show max 0 (day - X (53 + 5 * p) 4) = day - X 140 (2670 + 210 * p + 13) by omega] at q
    exact q
theorem signsOf_R {Q : List zV → zX → Prop} {G : zG} {X Y : zX} {p land day : Int} (hG : SH G) (h : zRT X 1 0) (hn : zNm2 G X 1 0) (w0 : zWk X Y) (p0 : 0 ≤ p) (p1 : p < 10) (d0 : 0 ≤ day) (d1 : day ≤ 99) (q : ∀ Y2 : zX, zWk X Y2 → Y2 139 31 = (zLik X p land day).1 → Q [zI (zSgs X p land day)] Y2) : M_signsOf [zR 139, zI p, zI land, zI day] G Y Q := by
  have hh := q_houses h
  have hp := q_pages h
  have lk := zLik_in (p := p) (land := land) (day := day) h
  have hY := zWk_RT w0 h
  refine M_signsOf_f0 hG (shows_R hG hY p0 (by omega) (fun Y2 m w2 rf _ h27 => ⟨rfl, ?_⟩))
  have w := zWk_t w0 w2
  have eF : zFot (Y (55 + 5 * p)) (Y (54 + 5 * p) 1).toNat land day = zSee X p land day := zSee_w w0 p0 (by omega)
  rw [eF] at rf h27
  refine judges_R hG (zWk_RT w h) (zNm2_w w hn) p0 (by omega) rf h27 (fun Y3 w3 e31 e32 e33 e34 _ => ⟨rfl, ?_⟩)
  have w4 := zWk_t w w3
  rw [w 1 (by omega), zLi_w h w _ (by omega)] at e31 e32 e34
  rw [zEw_w w] at e34
  refine age_R hG (zWk_RT w4 h) p0 (by omega) d0 (by omega) ⟨_, rfl, signsBy_R hG (zWk_RT w4 h) e31 e32 e33 e34 lk.1 ⟨_, rfl, ?_⟩⟩
  rw [zSi_w w4]
  unfold zAge
  rw [w4 (53 + 5 * p) (by omega), w0 19 (by omega)]
  exact q Y3 w4 e31
def zSay (s : Int) : Int := max 0 ((zpp s.toNat : Int) - 1)
theorem said_D {Q : List zV → zX → Prop} {G : zG} {X : zX} {s : Int} (hG : SH G) (s0 : 0 ≤ s) (s1 : s ≤ 7) (q : Q [zI (zSay s)] X) : D_said [zI s] G X Q := by
  have z := zpp_le s.toNat
  exact D_said_f0 hG (pop_D s0 (by omega) ⟨_, rfl, zw_id (by omega) (by omega), q⟩)
theorem said_M {Q : List zV → zX → Prop} {G : zG} {X : zX} {s : Int} (hG : SH G) (s0 : 0 ≤ s) (s1 : s ≤ 7) (q : Q [zI (zSay s)] X) : M_sayOf [zI s] G X Q := by
  have key : ∀ n : Fin 8, (n.val = 7 → zSay (n.val : Int) = 2) ∧ (n.val ≠ 7 → (zpp n.val = 2 → zSay (n.val : Int) = 1) ∧ (zpp n.val ≠ 2 → zSay (n.val : Int) = 0)) := by decide +kernel
  have z : (s.toNat = 7 → zSay ((s.toNat : Nat) : Int) = 2) ∧ (s.toNat ≠ 7 → (zpp s.toNat = 2 → zSay ((s.toNat : Nat) : Int) = 1) ∧ (zpp s.toNat ≠ 2 → zSay ((s.toNat : Nat) : Int) = 0)) := key ⟨s.toNat, by omega⟩
  rw [show ((s.toNat : Nat) : Int) = s by omega] at z
  refine M_sayOf_f0 hG ⟨fun e => ?_, fun ne => pop_M hG s0 (by omega) ⟨_, rfl, fun e => ?_, fun n2 => ?_⟩⟩
  · rw [z.1 (by omega)] at q
    exact q
  · rw [(z.2 (by omega)).1 (by omega)] at q
    exact q
  · rw [(z.2 (by omega)).2 (by omega)] at q
    exact q
theorem op_signs {G : zG} {X : zX} {a b c : Int} (hG : SH G) (h : zRT X 1 0) (hn : zNm2 G X 1 0) : zOp D_signs M_signs [zI a, zI b, zI c] [zI a, zI b, zI c] G X := by
  have hp := q_pages h
  have no : ¬(0 ≤ a ∧ a < X 1 12 ∧ 0 ≤ b ∧ b ≤ 3 ∧ 0 ≤ c ∧ c ≤ 99) → M_signs [zR 139, zI a, zI b, zI c] G X (fun w X2 => w = [zI (-1)] ∧ zRT X2 1 0 ∧ zKp X X2) := fun n => by
    refine M_signs_f0 hG ?_
    (repeat' (first | (exact ⟨rfl, h, zKp_r X⟩) | (with_reducible exact rfl) | (with_reducible apply And.intro) | (with_reducible refine ⟨_, rfl, ?_⟩) | (with_reducible refine q_isIn hG (fun _ _ => ?_) (fun _ => ?_)) | (with_reducible refine q_isAddress hG (fun _ _ => ?_) (fun _ => ?_)) | (with_reducible refine q_isMade hG (fun _ _ => ?_) (fun _ => ?_)) | (with_reducible refine q_isPage hG (by assumption) (fun _ _ => ?_) (fun _ => ?_)) | (with_reducible refine q_isHouse hG (by assumption) (fun _ _ => ?_) (fun _ => ?_)) | (with_reducible refine q_dPage hG (fun _ _ => ?_) (fun _ => ?_)) | (with_reducible refine q_dHouse hG (fun _ _ => ?_) (fun _ => ?_)) | (with_reducible refine q_dDay hG (fun _ _ => ?_) (fun _ => ?_)) | (with_reducible refine q_dLand hG (fun _ _ => ?_) (fun _ => ?_)) | (with_reducible refine q_dPerson hG (fun _ => ?_) (fun _ => ?_)) | (with_reducible refine q_mPerson hG (fun _ => ?_) (fun _ => ?_)) | (with_reducible refine q_pageAt hG (by omega) (by omega) ?_) | (with_reducible refine q_houseAt hG (by omega) (by omega) ?_) | (with_reducible refine q_treeOf hG (by omega) (by omega) ?_) | (with_reducible intro hz; exfalso; omega) | (with_reducible intro _) | (with_reducible refine zw_id ?_ ?_) | omega | (simp only [zw]; omega)))
  refine D_signs_f0 hG ?_
  (repeat' (first | (with_reducible exact no (by omega)) | (with_reducible exact rfl) | (with_reducible apply And.intro) | (with_reducible refine ⟨_, rfl, ?_⟩) | (with_reducible refine q_isIn hG (fun _ _ => ?_) (fun _ => ?_)) | (with_reducible refine q_isAddress hG (fun _ _ => ?_) (fun _ => ?_)) | (with_reducible refine q_isMade hG (fun _ _ => ?_) (fun _ => ?_)) | (with_reducible refine q_isPage hG (by assumption) (fun _ _ => ?_) (fun _ => ?_)) | (with_reducible refine q_isHouse hG (by assumption) (fun _ _ => ?_) (fun _ => ?_)) | (with_reducible refine q_dPage hG (fun _ _ => ?_) (fun _ => ?_)) | (with_reducible refine q_dHouse hG (fun _ _ => ?_) (fun _ => ?_)) | (with_reducible refine q_dDay hG (fun _ _ => ?_) (fun _ => ?_)) | (with_reducible refine q_dLand hG (fun _ _ => ?_) (fun _ => ?_)) | (with_reducible refine q_dPerson hG (fun _ => ?_) (fun _ => ?_)) | (with_reducible refine q_mPerson hG (fun _ => ?_) (fun _ => ?_)) | (with_reducible refine q_pageAt hG (by omega) (by omega) ?_) | (with_reducible refine q_houseAt hG (by omega) (by omega) ?_) | (with_reducible refine q_treeOf hG (by omega) (by omega) ?_) | (with_reducible intro hz; exfalso; omega) | (with_reducible intro _) | (with_reducible refine zw_id ?_ ?_) | omega | (simp only [zw]; omega)))
  refine signsOf_D hG h hn (by omega) (by omega) (by omega) (by omega) (fun X2 w2 _ => ⟨_, rfl, ?_⟩)
  have h2 := zWk_RT w2 h
  have hp2 := q_pages h2
  have e12 : X2 1 12 = X 1 12 := by rw [w2 1 (by omega)]
  refine M_signs_f0 hG ?_
  (repeat' (first | (exact ⟨rfl, h, zKp_r X⟩) | (with_reducible exact rfl) | (with_reducible apply And.intro) | (with_reducible refine ⟨_, rfl, ?_⟩) | (with_reducible refine q_isIn hG (fun _ _ => ?_) (fun _ => ?_)) | (with_reducible refine q_isAddress hG (fun _ _ => ?_) (fun _ => ?_)) | (with_reducible refine q_isMade hG (fun _ _ => ?_) (fun _ => ?_)) | (with_reducible refine q_isPage hG (by assumption) (fun _ _ => ?_) (fun _ => ?_)) | (with_reducible refine q_isHouse hG (by assumption) (fun _ _ => ?_) (fun _ => ?_)) | (with_reducible refine q_dPage hG (fun _ _ => ?_) (fun _ => ?_)) | (with_reducible refine q_dHouse hG (fun _ _ => ?_) (fun _ => ?_)) | (with_reducible refine q_dDay hG (fun _ _ => ?_) (fun _ => ?_)) | (with_reducible refine q_dLand hG (fun _ _ => ?_) (fun _ => ?_)) | (with_reducible refine q_dPerson hG (fun _ => ?_) (fun _ => ?_)) | (with_reducible refine q_mPerson hG (fun _ => ?_) (fun _ => ?_)) | (with_reducible refine q_pageAt hG (by omega) (by omega) ?_) | (with_reducible refine q_houseAt hG (by omega) (by omega) ?_) | (with_reducible refine q_treeOf hG (by omega) (by omega) ?_) | (with_reducible intro hz; exfalso; omega) | (with_reducible intro _) | (with_reducible refine zw_id ?_ ?_) | omega | (simp only [zw]; omega)))
  exact signsOf_R hG h hn w2 (by omega) (by omega) (by omega) (by omega) (fun Y2 w3 _ => ⟨_, rfl, rfl, zWk_RT w3 h, zWk_Kp w3⟩)
theorem op_say {G : zG} {X : zX} {a b c : Int} (hG : SH G) (h : zRT X 1 0) (hn : zNm2 G X 1 0) : zOp D_say M_say [zI a, zI b, zI c] [zI a, zI b, zI c] G X := by
  have hp := q_pages h
  have no : ¬(0 ≤ a ∧ a < X 1 12 ∧ 0 ≤ b ∧ b ≤ 3 ∧ 0 ≤ c ∧ c ≤ 99) → M_say [zR 139, zI a, zI b, zI c] G X (fun w X2 => w = [zI (-1)] ∧ zRT X2 1 0 ∧ zKp X X2) := fun n => by
    refine M_say_f0 hG ?_
    (repeat' (first | (exact ⟨rfl, h, zKp_r X⟩) | (with_reducible exact rfl) | (with_reducible apply And.intro) | (with_reducible refine ⟨_, rfl, ?_⟩) | (with_reducible refine q_isIn hG (fun _ _ => ?_) (fun _ => ?_)) | (with_reducible refine q_isAddress hG (fun _ _ => ?_) (fun _ => ?_)) | (with_reducible refine q_isMade hG (fun _ _ => ?_) (fun _ => ?_)) | (with_reducible refine q_isPage hG (by assumption) (fun _ _ => ?_) (fun _ => ?_)) | (with_reducible refine q_isHouse hG (by assumption) (fun _ _ => ?_) (fun _ => ?_)) | (with_reducible refine q_dPage hG (fun _ _ => ?_) (fun _ => ?_)) | (with_reducible refine q_dHouse hG (fun _ _ => ?_) (fun _ => ?_)) | (with_reducible refine q_dDay hG (fun _ _ => ?_) (fun _ => ?_)) | (with_reducible refine q_dLand hG (fun _ _ => ?_) (fun _ => ?_)) | (with_reducible refine q_dPerson hG (fun _ => ?_) (fun _ => ?_)) | (with_reducible refine q_mPerson hG (fun _ => ?_) (fun _ => ?_)) | (with_reducible refine q_pageAt hG (by omega) (by omega) ?_) | (with_reducible refine q_houseAt hG (by omega) (by omega) ?_) | (with_reducible refine q_treeOf hG (by omega) (by omega) ?_) | (with_reducible intro hz; exfalso; omega) | (with_reducible intro _) | (with_reducible refine zw_id ?_ ?_) | omega | (simp only [zw]; omega)))
  refine D_say_f0 hG ?_
  (repeat' (first | (with_reducible exact no (by omega)) | (with_reducible exact rfl) | (with_reducible apply And.intro) | (with_reducible refine ⟨_, rfl, ?_⟩) | (with_reducible refine q_isIn hG (fun _ _ => ?_) (fun _ => ?_)) | (with_reducible refine q_isAddress hG (fun _ _ => ?_) (fun _ => ?_)) | (with_reducible refine q_isMade hG (fun _ _ => ?_) (fun _ => ?_)) | (with_reducible refine q_isPage hG (by assumption) (fun _ _ => ?_) (fun _ => ?_)) | (with_reducible refine q_isHouse hG (by assumption) (fun _ _ => ?_) (fun _ => ?_)) | (with_reducible refine q_dPage hG (fun _ _ => ?_) (fun _ => ?_)) | (with_reducible refine q_dHouse hG (fun _ _ => ?_) (fun _ => ?_)) | (with_reducible refine q_dDay hG (fun _ _ => ?_) (fun _ => ?_)) | (with_reducible refine q_dLand hG (fun _ _ => ?_) (fun _ => ?_)) | (with_reducible refine q_dPerson hG (fun _ => ?_) (fun _ => ?_)) | (with_reducible refine q_mPerson hG (fun _ => ?_) (fun _ => ?_)) | (with_reducible refine q_pageAt hG (by omega) (by omega) ?_) | (with_reducible refine q_houseAt hG (by omega) (by omega) ?_) | (with_reducible refine q_treeOf hG (by omega) (by omega) ?_) | (with_reducible intro hz; exfalso; omega) | (with_reducible intro _) | (with_reducible refine zw_id ?_ ?_) | omega | (simp only [zw]; omega)))
  have si : 0 ≤ zSgs X a b c ∧ zSgs X a b c ≤ 7 := zSi_in _ _ _ _ _ _
  refine signsOf_D hG h hn (by omega) (by omega) (by omega) (by omega) (fun X2 w2 _ => ⟨_, rfl, said_D hG si.1 si.2 ⟨_, rfl, ?_⟩⟩)
  have h2 := zWk_RT w2 h
  have hp2 := q_pages h2
  have e12 : X2 1 12 = X 1 12 := by rw [w2 1 (by omega)]
  refine M_say_f0 hG ?_
  (repeat' (first | (exact ⟨rfl, h, zKp_r X⟩) | (with_reducible exact rfl) | (with_reducible apply And.intro) | (with_reducible refine ⟨_, rfl, ?_⟩) | (with_reducible refine q_isIn hG (fun _ _ => ?_) (fun _ => ?_)) | (with_reducible refine q_isAddress hG (fun _ _ => ?_) (fun _ => ?_)) | (with_reducible refine q_isMade hG (fun _ _ => ?_) (fun _ => ?_)) | (with_reducible refine q_isPage hG (by assumption) (fun _ _ => ?_) (fun _ => ?_)) | (with_reducible refine q_isHouse hG (by assumption) (fun _ _ => ?_) (fun _ => ?_)) | (with_reducible refine q_dPage hG (fun _ _ => ?_) (fun _ => ?_)) | (with_reducible refine q_dHouse hG (fun _ _ => ?_) (fun _ => ?_)) | (with_reducible refine q_dDay hG (fun _ _ => ?_) (fun _ => ?_)) | (with_reducible refine q_dLand hG (fun _ _ => ?_) (fun _ => ?_)) | (with_reducible refine q_dPerson hG (fun _ => ?_) (fun _ => ?_)) | (with_reducible refine q_mPerson hG (fun _ => ?_) (fun _ => ?_)) | (with_reducible refine q_pageAt hG (by omega) (by omega) ?_) | (with_reducible refine q_houseAt hG (by omega) (by omega) ?_) | (with_reducible refine q_treeOf hG (by omega) (by omega) ?_) | (with_reducible intro hz; exfalso; omega) | (with_reducible intro _) | (with_reducible refine zw_id ?_ ?_) | omega | (simp only [zw]; omega)))
  exact signsOf_R hG h hn w2 (by omega) (by omega) (by omega) (by omega) (fun Y2 w3 _ => ⟨_, rfl, said_M hG si.1 si.2 ⟨_, rfl, rfl, zWk_RT w3 h, zWk_Kp w3⟩⟩)
noncomputable def zWr (X : zX) (h land day : Int) : Nat → Int
  | 0 => 0
  | p + 1 => if zSay (zSgs X p land day) = 2 ∧ (zLik X p land day).1 = h then zor (zWr X h land day p) (zshl 1 p) else zWr X h land day p
theorem op_warn {G : zG} {X : zX} {a b c : Int} (hG : SH G) (h : zRT X 1 0) (hn : zNm2 G X 1 0) : zOp D_warn M_warn [zI a, zI b, zI c] [zI a, zI b, zI c] G X := by
  have hp := q_pages h
  have hh := q_houses h
  have no : ¬(0 ≤ a ∧ a < X 1 11 ∧ 0 ≤ b ∧ b ≤ 3 ∧ 0 ≤ c ∧ c ≤ 99) → M_warn [zR 139, zI a, zI b, zI c] G X (fun w X2 => w = [zI (-1)] ∧ zRT X2 1 0 ∧ zKp X X2) := fun n => by
    refine M_warn_f0 hG ?_
    (repeat' (first | (exact ⟨rfl, h, zKp_r X⟩) | (with_reducible exact rfl) | (with_reducible apply And.intro) | (with_reducible refine ⟨_, rfl, ?_⟩) | (with_reducible refine q_isIn hG (fun _ _ => ?_) (fun _ => ?_)) | (with_reducible refine q_isAddress hG (fun _ _ => ?_) (fun _ => ?_)) | (with_reducible refine q_isMade hG (fun _ _ => ?_) (fun _ => ?_)) | (with_reducible refine q_isPage hG (by assumption) (fun _ _ => ?_) (fun _ => ?_)) | (with_reducible refine q_isHouse hG (by assumption) (fun _ _ => ?_) (fun _ => ?_)) | (with_reducible refine q_dPage hG (fun _ _ => ?_) (fun _ => ?_)) | (with_reducible refine q_dHouse hG (fun _ _ => ?_) (fun _ => ?_)) | (with_reducible refine q_dDay hG (fun _ _ => ?_) (fun _ => ?_)) | (with_reducible refine q_dLand hG (fun _ _ => ?_) (fun _ => ?_)) | (with_reducible refine q_dPerson hG (fun _ => ?_) (fun _ => ?_)) | (with_reducible refine q_mPerson hG (fun _ => ?_) (fun _ => ?_)) | (with_reducible refine q_pageAt hG (by omega) (by omega) ?_) | (with_reducible refine q_houseAt hG (by omega) (by omega) ?_) | (with_reducible refine q_treeOf hG (by omega) (by omega) ?_) | (with_reducible intro hz; exfalso; omega) | (with_reducible intro _) | (with_reducible refine zw_id ?_ ?_) | omega | (simp only [zw]; omega)))
  have sin : ∀ p : Int, 0 ≤ zSgs X p b c ∧ zSgs X p b c ≤ 7 := fun p => zSi_in _ _ _ _ _ _
  have dl : ∀ {Q : List zV → zX → Prop}, 0 ≤ c → c ≤ 99 → (∀ X2 : zX, zWk X X2 → Q [zI (zWr X a b c (X 1 12).toNat)] X2) → ∀ (d p : Nat) (Y : zX), (p : Int) + d = X 1 12 → zWk X Y → D_warn_W Q 24 [zR 0, zI a, zI b, zI c, zI (zWr X a b c p), zI (p : Int)] [] G Y := by
    intro Q c0 c1 q d
    induction d with
    | zero =>
      intro p Y e w
      refine D_warn_f24 hG ?_
      rw [w 1 (by omega)]
      refine ⟨fun z => absurd z (by omega), fun _ => ?_⟩
      have z := q Y w
      rw [show (X 1 12).toNat = p by omega] at z
      exact z
    | succ d ih =>
      intro p Y e w
      have hY := zWk_RT w h
      refine D_warn_f24 hG ?_
      rw [w 1 (by omega)]
      refine ⟨fun _ => signsOf_D hG hY (zNm2_w w hn) (by omega) (by omega) c0 c1 (fun Y2 w2 el => ⟨_, rfl, ?_⟩), fun z => absurd z (by omega)⟩
      rw [zSgs_w h w (by omega) (by omega)]
      rw [zLik_w h w (by omega) (by omega)] at el
      refine said_D hG (sin p).1 (sin p).2 ⟨_, rfl, ?_⟩
      rw [el]
      have nx := ih (p + 1) Y2 (by omega) (zWk_t w w2)
      rw [show ((p + 1 : Nat) : Int) = (p : Int) + 1 by omega] at nx
      unfold zWr at nx
      refine ⟨fun e2 => ⟨fun eh => ⟨zw_id (by omega) (by omega), ?_⟩, fun nh => ⟨zw_id (by omega) (by omega), ?_⟩⟩, fun n2 => ⟨zw_id (by omega) (by omega), ?_⟩⟩
      · rw [if_pos ⟨e2, eh⟩] at nx
        exact nx
      · rw [if_neg (fun z => nh z.2)] at nx
        exact nx
      · rw [if_neg (fun z => n2 z.1)] at nx
        exact nx
  have ml : ∀ {Q : List zV → zX → Prop}, 0 ≤ c → c ≤ 99 → (∀ X2 : zX, zWk X X2 → Q [zI (zWr X a b c (X 1 12).toNat)] X2) → ∀ (d p : Nat) (Y : zX), (p : Int) + d = X 1 12 → zWk X Y → M_warn_W Q 24 [zR 139, zI a, zI b, zI c, zI (zWr X a b c p), zI (p : Int), zT] [] G Y := by
    intro Q c0 c1 q d
    induction d with
    | zero =>
      intro p Y e w
      refine M_warn_f24 hG ?_
      rw [w 140 (by omega), hp.1]
      refine ⟨fun z => absurd z (by omega), fun _ => ?_⟩
      have z := q Y w
      rw [show (X 1 12).toNat = p by omega] at z
      exact z
    | succ d ih =>
      intro p Y e w
      refine M_warn_f24 hG ?_
      rw [w 140 (by omega), hp.1]
      refine ⟨fun _ => signsOf_R hG h hn w (by omega) (by omega) c0 c1 (fun Y2 w2 el => ⟨_, rfl, said_M hG (sin p).1 (sin p).2 ⟨_, rfl, ?_⟩⟩), fun z => absurd z (by omega)⟩
      have nx := ih (p + 1) Y2 (by omega) w2
      rw [show ((p + 1 : Nat) : Int) = (p : Int) + 1 by omega] at nx
      unfold zWr at nx
      refine ⟨fun e2 => M_warn_f55 hG ⟨fun z => absurd z (by omega), fun _ => ?_⟩, fun n2 => M_warn_f55 hG ⟨fun _ => ⟨zw_id (by omega) (by omega), ?_⟩, fun z => absurd rfl z⟩⟩
      · rw [el]
        refine ⟨fun eh => ⟨zw_id (by omega) (by omega), ?_⟩, fun nh => ⟨zw_id (by omega) (by omega), ?_⟩⟩
        · rw [if_pos ⟨e2, eh⟩] at nx
          exact nx
        · rw [if_neg (fun z => nh z.2)] at nx
          exact nx
      · rw [if_neg (fun z => n2 z.1)] at nx
        exact nx
  refine D_warn_f0 hG ?_
  (repeat' (first | (with_reducible exact no (by omega)) | (with_reducible exact rfl) | (with_reducible apply And.intro) | (with_reducible refine ⟨_, rfl, ?_⟩) | (with_reducible refine q_isIn hG (fun _ _ => ?_) (fun _ => ?_)) | (with_reducible refine q_isAddress hG (fun _ _ => ?_) (fun _ => ?_)) | (with_reducible refine q_isMade hG (fun _ _ => ?_) (fun _ => ?_)) | (with_reducible refine q_isPage hG (by assumption) (fun _ _ => ?_) (fun _ => ?_)) | (with_reducible refine q_isHouse hG (by assumption) (fun _ _ => ?_) (fun _ => ?_)) | (with_reducible refine q_dPage hG (fun _ _ => ?_) (fun _ => ?_)) | (with_reducible refine q_dHouse hG (fun _ _ => ?_) (fun _ => ?_)) | (with_reducible refine q_dDay hG (fun _ _ => ?_) (fun _ => ?_)) | (with_reducible refine q_dLand hG (fun _ _ => ?_) (fun _ => ?_)) | (with_reducible refine q_dPerson hG (fun _ => ?_) (fun _ => ?_)) | (with_reducible refine q_mPerson hG (fun _ => ?_) (fun _ => ?_)) | (with_reducible refine q_pageAt hG (by omega) (by omega) ?_) | (with_reducible refine q_houseAt hG (by omega) (by omega) ?_) | (with_reducible refine q_treeOf hG (by omega) (by omega) ?_) | (with_reducible intro hz; exfalso; omega) | (with_reducible intro _) | (with_reducible refine zw_id ?_ ?_) | omega | (simp only [zw]; omega)))
  refine dl (by omega) (by omega) (fun X2 w2 => ?_) (X 1 12).toNat 0 X (by omega) (zWk_r X)
  have h2 := zWk_RT w2 h
  have hh2 := q_houses h2
  have e11 : X2 1 11 = X 1 11 := by rw [w2 1 (by omega)]
  refine M_warn_f0 hG ?_
  (repeat' (first | (exact ⟨rfl, h, zKp_r X⟩) | (with_reducible exact rfl) | (with_reducible apply And.intro) | (with_reducible refine ⟨_, rfl, ?_⟩) | (with_reducible refine q_isIn hG (fun _ _ => ?_) (fun _ => ?_)) | (with_reducible refine q_isAddress hG (fun _ _ => ?_) (fun _ => ?_)) | (with_reducible refine q_isMade hG (fun _ _ => ?_) (fun _ => ?_)) | (with_reducible refine q_isPage hG (by assumption) (fun _ _ => ?_) (fun _ => ?_)) | (with_reducible refine q_isHouse hG (by assumption) (fun _ _ => ?_) (fun _ => ?_)) | (with_reducible refine q_dPage hG (fun _ _ => ?_) (fun _ => ?_)) | (with_reducible refine q_dHouse hG (fun _ _ => ?_) (fun _ => ?_)) | (with_reducible refine q_dDay hG (fun _ _ => ?_) (fun _ => ?_)) | (with_reducible refine q_dLand hG (fun _ _ => ?_) (fun _ => ?_)) | (with_reducible refine q_dPerson hG (fun _ => ?_) (fun _ => ?_)) | (with_reducible refine q_mPerson hG (fun _ => ?_) (fun _ => ?_)) | (with_reducible refine q_pageAt hG (by omega) (by omega) ?_) | (with_reducible refine q_houseAt hG (by omega) (by omega) ?_) | (with_reducible refine q_treeOf hG (by omega) (by omega) ?_) | (with_reducible intro hz; exfalso; omega) | (with_reducible intro _) | (with_reducible refine zw_id ?_ ?_) | omega | (simp only [zw]; omega)))
  exact ml (by omega) (by omega) (fun Y2 w3 => ⟨rfl, zWk_RT w3 h, zWk_Kp w3⟩) (X 1 12).toNat 0 X2 (by omega) w2
