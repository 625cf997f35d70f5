/-! ===== spell; whether a page's name is a house's ===== -/
theorem zNv_w {G : zG} {X Y : zX} {r b : Int} (w : zWk X Y) (h : zNv G X r b) : zNv G Y r b := by
  have h3 := h.1
  have h4 := h.2.2.1
  unfold zNv at h ⊢
  rw [w r (by omega), w (zrx G r 0) (by omega), w 140 (by omega)]
  exact h
theorem charAt_D {Q : List zV → zX → Prop} {G : zG} {X : zX} {r b i : Int} (h : zNv G X r b) (i0 : 0 ≤ i) (i1 : i < X 140 b) (q : Q [zI (X (zrx G r 0) i)] X) : S_charAt [zR r, zI i] G X Q := by
  obtain ⟨h1, h2, h3, h4, h5, h6, h7, h8, h9, h10, h11⟩ := h
  have z := zsg_v (h11 i i0 i1).2
  have key : ∀ n : Fin 128, zand (n.val : Int) 255 = (n.val : Int) := by decide +kernel
  have e : zand (X (zrx G r 0) i) 255 = X (zrx G r 0) i := by
    have y := key ⟨(X (zrx G r 0) i).toNat, by omega⟩
    rw [show (((X (zrx G r 0) i).toNat : Nat) : Int) = X (zrx G r 0) i by omega] at y
    exact y
  refine S_charAt_e0 ⟨h5, S_isLatin1_e0 ⟨h5, fun _ => ⟨1, rfl, fun y => absurd y (by omega), fun _ => SL_charAt_e0 ?_⟩, fun y => absurd h6 y⟩⟩
  rw [h7, h8]
  refine ⟨by omega, by omega, S_checkIndex_e0 (fun _ => PR_checkIndex_e0 ⟨fun y => absurd i0 (by omega), fun _ => ⟨fun _ => ⟨_, rfl, rfl, rfl, i0, i1, ?_⟩, fun y => absurd y (by omega)⟩⟩)⟩
  rw [e, show X (zrx G r 0) i % 65536 = X (zrx G r 0) i by omega]
  exact ⟨by omega, _, rfl, by omega, q⟩
theorem slen_D {Q : List zV → zX → Prop} {G : zG} {X : zX} {r b : Int} (h : zNv G X r b) (q : Q [zI (X 140 b)] X) : S_length [zR r] G X Q := by
  obtain ⟨h1, h2, h3, h4, h5, h6, h7, h8, h9, h10, h11⟩ := h
  have key : ∀ n : Fin 13, zshr (n.val : Int) 0 = (n.val : Int) := by decide +kernel
  have e : zshr (X 140 b) 0 = X 140 b := by
    have y := key ⟨(X 140 b).toNat, by omega⟩
    rw [show (((X 140 b).toNat : Nat) : Int) = X 140 b by omega] at y
    exact y
  refine S_length_e0 ?_
  rw [h7, h8]
  refine ⟨h5, by omega, by omega, S_coder_e0 ⟨h5, by omega, 0, by rw [h6], ?_⟩⟩
  rw [e]
  exact q
/-- one place of the table of two names, from those before it -/
def zStp (t A B : Int → Int) (P : Int → Int → Int) (i j : Int) : Int := if i = 0 ∨ j = 0 then (i + j) * 4 else
  if 1 < i ∧ 1 < j ∧ A (i - 1) = B (j - 2) ∧ B (j - 1) = A (i - 2) then min (min (min (t (13 * i + j - 13)) (t (13 * i + j - 1)) + 4) (t (13 * i + j - 14) + P (A (i - 1)) (B (j - 1)))) (t (13 * i + j - 28) + 3)
  else min (min (t (13 * i + j - 13)) (t (13 * i + j - 1)) + 4) (t (13 * i + j - 14) + P (A (i - 1)) (B (j - 1)))
theorem zStp_c {t t2 A B : Int → Int} {P : Int → Int → Int} {i j : Int} (e : ∀ k : Int, k < 13 * i + j → t2 k = t k) : zStp t2 A B P i j = zStp t A B P i j := by
  unfold zStp
  rw [e (13 * i + j - 13) (by omega), e (13 * i + j - 1) (by omega), e (13 * i + j - 14) (by omega), e (13 * i + j - 28) (by omega)]
/-- the table is right before place K -/
def zSpt (t A B : Int → Int) (P : Int → Int → Int) (m K : Int) : Prop := ∀ a b : Int, 0 ≤ a → 0 ≤ b → b ≤ m → 13 * a + b < K → t (13 * a + b) = zStp t A B P a b ∧ 0 ≤ t (13 * a + b) ∧ t (13 * a + b) ≤ 4 * (a + b)
theorem zSpt_in {t A B : Int → Int} {P : Int → Int → Int} {m i j : Int} (h : zSpt t A B P m (13 * i + j)) (hP : ∀ x y : Int, 0 ≤ P x y ∧ P x y ≤ 6) (i0 : 0 ≤ i) (j0 : 0 ≤ j) (j1 : j ≤ m) (m1 : m ≤ 12) : 0 ≤ zStp t A B P i j ∧ zStp t A B P i j ≤ 4 * (i + j) := by
  unfold zStp
  by_cases c : i = 0 ∨ j = 0
  · rw [if_pos c]
    omega
  · rw [if_neg c]
    have p := hP (A (i - 1)) (B (j - 1))
    have u := h (i - 1) j (by omega) j0 j1 (by omega)
    have l := h i (j - 1) i0 (by omega) (by omega) (by omega)
    have d := h (i - 1) (j - 1) (by omega) (by omega) (by omega) (by omega)
    rw [show 13 * (i - 1) + j = 13 * i + j - 13 by omega] at u
    rw [show 13 * i + (j - 1) = 13 * i + j - 1 by omega] at l
    rw [show 13 * (i - 1) + (j - 1) = 13 * i + j - 14 by omega] at d
    by_cases c2 : 1 < i ∧ 1 < j ∧ A (i - 1) = B (j - 2) ∧ B (j - 1) = A (i - 2)
    · rw [if_pos c2]
      have w := h (i - 2) (j - 2) (by omega) (by omega) (by omega) (by omega)
      rw [show 13 * (i - 2) + (j - 2) = 13 * i + j - 28 by omega] at w
      omega
    · rw [if_neg c2]
      omega
theorem zSpt_s {t A B : Int → Int} {P : Int → Int → Int} {m i j v : Int} (h : zSpt t A B P m (13 * i + j)) (hP : ∀ x y : Int, 0 ≤ P x y ∧ P x y ≤ 6) (i0 : 0 ≤ i) (j0 : 0 ≤ j) (j1 : j ≤ m) (m1 : m ≤ 12) (ev : v = zStp t A B P i j) : zSpt (zup t (13 * i + j) v) A B P m (13 * i + (j + 1)) := by
  have b := zSpt_in h hP i0 j0 j1 m1
  have c : ∀ k : Int, k < 13 * i + j → zup t (13 * i + j) v k = t k := fun k hk => zup_n (by omega)
  intro x y x0 y0 y1 lt
  by_cases e : 13 * x + y = 13 * i + j
  · have ex : x = i := by omega
    have ey : y = j := by omega
    rw [e, zup_s, ex, ey, zStp_c c, ev]
    exact ⟨rfl, b⟩
  · have z := h x y x0 y0 y1 (by omega)
    rw [c (13 * x + y) (by omega), zStp_c (fun k hk => c k (by omega))]
    exact z
/-- what it costs to take one sign's number for another -/
def zPq (X : zX) (x y : Int) : Int := if x = y then 0 else if 0 ≤ x ∧ x < 36 ∧ 0 ≤ y ∧ y < 36 then X 20 (36 * x + y) else 6
theorem zPq_in {X : zX} (h : zRT X 1 0) (x y : Int) : 0 ≤ zPq X x y ∧ zPq X x y ≤ 6 := by
  unfold zPq
  by_cases c : x = y
  · rw [if_pos c]
    omega
  · rw [if_neg c]
    by_cases c2 : 0 ≤ x ∧ x < 36 ∧ 0 ≤ y ∧ y < 36
    · rw [if_pos c2]
      have z := zR_alk h (36 * x + y) (by omega) (by omega)
      rw [show (1 : Int) + 19 = 20 by omega] at z
      omega
    · rw [if_neg c2]
      omega
theorem zPq_w {X Y : zX} (w : zWk X Y) : zPq Y = zPq X := by
  unfold zPq
  rw [w 20 (by omega)]
theorem price_D {Q : List zV → zX → Prop} {G : zG} {X : zX} {x y : Int} (hG : SH G) (hx : 0 ≤ zsg x) (hy : 0 ≤ zsg y) (q : Q [zI (zPq X (zsg x) (zsg y))] X) : D_signPrice [zR 0, zI x, zI y] G X Q := by
  have bx := zsg_in x
  have by' := zsg_in y
  refine D_signPrice_f0 hG (q_dSign hG ⟨_, rfl, q_dSign hG ⟨_, rfl, fun e => ?_, fun ne => ⟨fun z => absurd z (by omega), fun _ => ⟨fun z => absurd z (by omega), fun _ => ⟨zw_id (by omega) (by omega), zw_id (by omega) (by omega), by omega, by omega, ?_⟩⟩⟩⟩⟩)
  · unfold zPq at q
    rw [e, if_pos rfl] at q
    exact q
  · unfold zPq at q
    rw [if_neg (fun z => ne (zsg_inj hx z)), if_pos (by omega), show 36 * zsg x + zsg y = zsg x * 36 + zsg y by omega] at q
    exact q
theorem price_M {Q : List zV → zX → Prop} {G : zG} {X : zX} {x y : Int} (hG : SH G) (h : zRT X 1 0) (x0 : 0 ≤ x) (x1 : x < 36) (y0 : 0 ≤ y) (y1 : y < 36) (q : Q [zI (zPq X x y)] X) : M_priceOf [zR 139, zI x, zI y] G X Q := by
  have z := zR_alk h (36 * x + y) (by omega) (by omega)
  rw [show (1 : Int) + 19 = 20 by omega, show (0 : Int) + 570 + (36 * x + y) = 570 + 36 * x + y by omega] at z
  unfold zPq at q
  refine M_priceOf_f0 hG ⟨by rw [zw_id (x := 36 * x) (by omega) (by omega)]; exact zw_id (by omega) (by omega), zw_id (by omega) (by omega), by omega, by omega, fun e => ?_, fun ne => ⟨fun e0 => ?_, fun n0 => ?_⟩⟩
  · rw [if_pos e] at q
    exact q
  · rw [if_neg ne, if_pos (by omega), show X 20 (36 * x + y) = 6 by omega] at q
    exact q
  · rw [if_neg ne, if_pos (by omega), show X 20 (36 * x + y) = X 140 (570 + 36 * x + y) by omega] at q
    exact q
theorem spelled_D {Q : List zV → zX → Prop} {G : zG} {X : zX} {r s b c : Int} (hG : SH G) (h : zRT X 1 0) (hr : zNv G X r b) (hs : zNv G X s c)
    (q : ∀ X2 : zX, zWk X X2 → zSpt (X2 137) (fun i => zsg (X (zrx G r 0) i)) (fun i => zsg (X (zrx G s 0) i)) (zPq X) (X 140 c) (13 * (X 140 b + 1)) → Q [zI (X2 137 (13 * X 140 b + X 140 c))] X2) : D_spelled [zR 0, zR r, zR s] G X Q := by
  obtain ⟨n, en⟩ : ∃ n : Int, X 140 b = n := ⟨_, rfl⟩
  obtain ⟨m, em⟩ : ∃ m : Int, X 140 c = m := ⟨_, rfl⟩
  have hr' := hr
  have hs' := hs
  obtain ⟨_, _, _, _, r5, _, _, _, r9, r10, r11⟩ := hr'
  obtain ⟨_, _, _, _, s5, _, _, _, s9, s10, s11⟩ := hs'
  rw [en, em] at q
  rw [en] at r9 r10 r11
  rw [em] at s9 s10 s11
  obtain ⟨A, eA⟩ : ∃ A : Int → Int, A = fun i => zsg (X (zrx G r 0) i) := ⟨_, rfl⟩
  obtain ⟨B, eB⟩ : ∃ B : Int → Int, B = fun i => zsg (X (zrx G s 0) i) := ⟨_, rfl⟩
  rw [← eA, ← eB] at q
  have least : ∀ (i j : Int) (Y : zX) (R : List zV → zX → Prop), zWk X Y → 0 ≤ i → i ≤ n → 0 ≤ j → j ≤ m → zSpt (Y 137) A B (zPq X) m (13 * i + j) → R [zI (zStp (Y 137) A B (zPq X) i j)] Y → D_leastSpelled [zR 0, zR r, zI i, zR s, zI j] G Y R := fun i j Y R w i0 i1 j0 j1 t k => by
    unfold zStp at k
    refine D_leastSpelled_f0 hG ⟨fun z => ⟨zw_id (by omega) (by omega), zw_id (by omega) (by omega), by rw [if_pos (Or.inl z)] at k; exact k⟩, fun zi => ⟨fun z => ⟨zw_id (by omega) (by omega), zw_id (by omega) (by omega), by rw [if_pos (Or.inr z)] at k; exact k⟩, fun zj => ⟨zw_id (by omega) (by omega), r5, ?_⟩⟩⟩
    rw [if_neg (by omega)] at k
    have yr := zNv_w w hr
    have ys := zNv_w w hs
    have e1 : Y 140 = X 140 := w 140 (by omega)
    have er : Y (zrx G r 0) = X (zrx G r 0) := w _ (by have := hr.2.2.1; omega)
    have es : Y (zrx G s 0) = X (zrx G s 0) := w _ (by have := hs.2.2.1; omega)
    have u := t (i - 1) j (by omega) j0 j1 (by omega)
    have l := t i (j - 1) i0 (by omega) (by omega) (by omega)
    have d := t (i - 1) (j - 1) (by omega) (by omega) (by omega) (by omega)
    rw [show 13 * (i - 1) + j = 13 * i + j - 13 by omega] at u
    rw [show 13 * i + (j - 1) = 13 * i + j - 1 by omega] at l
    rw [show 13 * (i - 1) + (j - 1) = 13 * i + j - 14 by omega] at d
    have g1 := r11 (i - 1) (by omega) (by omega)
    have g2 := s11 (j - 1) (by omega) (by omega)
    refine charAt_D yr (by omega) (by rw [e1, en]; omega) ⟨_, rfl, zw_id (by omega) (by omega), s5, charAt_D ys (by omega) (by rw [e1, em]; omega) ⟨_, rfl, zw_id (by omega) (by omega), zw_id (by omega) (by omega), zw_id (by omega) (by omega), by omega, by omega, zw_id (by omega) (by omega), by omega, by omega, ?_⟩⟩
    rw [show i * 13 + j - 13 = 13 * i + j - 13 by omega, show i * 13 + j - 1 = 13 * i + j - 1 by omega, show 13 * i + j - 13 - 1 = 13 * i + j - 14 by omega, show i * 13 + j - 26 - 2 = 13 * i + j - 28 by omega, er, es]
    refine ⟨zw_id (by omega) (by omega), zw_id (by omega) (by omega), by omega, by omega, price_D hG g1.2 g2.2 ⟨_, rfl, ?_⟩⟩
    have p := zPq_in (zWk_RT w h) (zsg (X (zrx G r 0) (i - 1))) (zsg (X (zrx G s 0) (j - 1)))
    refine ⟨zw_id (by omega) (by omega), fun r13 e13 => ?_⟩
    rw [zPq_w w] at e13
    have eAB : A (i - 1) = zsg (X (zrx G r 0) (i - 1)) ∧ B (j - 1) = zsg (X (zrx G s 0) (j - 1)) := ⟨by rw [eA], by rw [eB]⟩
    rw [← eAB.1, ← eAB.2] at e13
    have no : ¬(1 < i ∧ 1 < j ∧ A (i - 1) = B (j - 2) ∧ B (j - 1) = A (i - 2)) → R [zI r13] Y := fun c => by
      rw [if_neg c, ← e13] at k
      exact k
    refine ⟨fun i2 => ⟨fun j2 => ⟨zw_id (by omega) (by omega), charAt_D ys (by omega) (by rw [e1, em]; omega) ⟨_, rfl, ?_, ?_⟩⟩, fun z => no (by omega)⟩, fun z => no (by omega)⟩
    · rw [es]
      intro ee
      have g3 := s11 (j - 2) (by omega) (by omega)
      refine ⟨zw_id (by omega) (by omega), charAt_D yr (by omega) (by rw [e1, en]; omega) ⟨_, rfl, ?_, ?_⟩⟩
      · rw [er]
        intro e2
        have w2 := t (i - 2) (j - 2) (by omega) (by omega) (by omega) (by omega)
        rw [show 13 * (i - 2) + (j - 2) = 13 * i + j - 28 by omega] at w2
        refine ⟨zw_id (by omega) (by omega), zw_id (by omega) (by omega), by omega, by omega, zw_id (by omega) (by omega), ?_⟩
        rw [if_pos ⟨i2, j2, by rw [eA, eB]; exact congrArg zsg ee, by rw [eA, eB]; exact congrArg zsg e2⟩, ← e13] at k
        exact k
      · rw [er]
        intro e2
        refine no (fun z => e2 ?_)
        have z4 := z.2.2.2
        rw [eA, eB] at z4
        exact zsg_inj g2.2 z4
    · rw [es]
      intro ee
      refine no (fun z => ee ?_)
      have z3 := z.2.2.1
      rw [eA, eB] at z3
      exact zsg_inj g1.2 z3
  have l33 : ∀ (d : Nat) (i j : Int) (Y : zX), j + d = m + 1 → 0 ≤ i → i ≤ n → 0 ≤ j → zWk X Y → zSpt (Y 137) A B (zPq X) m (13 * i + j) → (∀ Z : zX, zWk X Z → zSpt (Z 137) A B (zPq X) m (13 * (i + 1)) → D_spelled_W Q 24 [zR 0, zR r, zR s, zI n, zI m, zI (i + 1), zT] [] G Z) → D_spelled_W Q 33 [zR 0, zR r, zR s, zI n, zI m, zI i, zI j] [] G Y := by
    intro d
    induction d with
    | zero =>
      intro i j Y e i0 i1 j0 w t nx
      refine D_spelled_f33 hG ⟨fun _ => ⟨zw_id (by omega) (by omega), nx Y w (fun a b a0 b0 b1 lt => t a b a0 b0 b1 (by omega))⟩, fun z => absurd z (by omega)⟩
    | succ d ih =>
      intro i j Y e i0 i1 j0 w t nx
      refine D_spelled_f33 hG ⟨fun z => absurd z (by omega), fun _ => ⟨zw_id (by omega) (by omega), zw_id (by omega) (by omega), least i j Y _ w i0 i1 j0 (by omega) t ⟨_, rfl, by omega, by omega, zw_id (by omega) (by omega), ?_⟩⟩⟩
      rw [show i * 13 + j = 13 * i + j by omega]
      refine ih i (j + 1) _ (by omega) i0 i1 (by omega) (zWk_w w (by omega)) ?_ nx
      have z := zSpt_s t (zPq_in h) i0 j0 (by omega) s10 rfl
      rw [zst_a]
      exact z
  have l24 : ∀ (d : Nat) (i : Int) (Y : zX), i + d = n + 1 → 0 ≤ i → zWk X Y → zSpt (Y 137) A B (zPq X) m (13 * i) → D_spelled_W Q 24 [zR 0, zR r, zR s, zI n, zI m, zI i, zT] [] G Y := by
    intro d
    induction d with
    | zero =>
      intro i Y e i0 w t
      have ei : i = n + 1 := by omega
      rw [ei] at t
      refine D_spelled_f24 hG ⟨fun _ => ⟨zw_id (by omega) (by omega), zw_id (by omega) (by omega), by omega, by omega, ?_⟩, fun z => absurd z (by omega)⟩
      rw [show n * 13 + m = 13 * n + m by omega]
      exact q Y w t
    | succ d ih =>
      intro i Y e i0 w t
      refine D_spelled_f24 hG ⟨fun z => absurd z (by omega), fun _ => l33 (m + 1).toNat i 0 Y (by omega) i0 (by omega) (by omega) w (by rw [show 13 * i + 0 = 13 * i by omega]; exact t) (fun Z wz tz => ih (i + 1) Z (by omega) (by omega) wz tz)⟩
  refine D_spelled_f0 hG ⟨r5, slen_D hr ⟨_, rfl, s5, slen_D hs ⟨_, rfl, ?_⟩⟩⟩
  rw [en, em, show min n 12 = n by omega, show min m 12 = m by omega]
  exact l24 (n + 1).toNat 0 X (by omega) (by omega) (zWk_r X) (fun a b a0 b0 b1 lt => absurd lt (by omega))
theorem q_lesser {Q : List zV → zX → Prop} {G : zG} {X : zX} {x y : Int} (hG : SH G) (q : Q [zI (min x y)] X) : M_lesser [zI x, zI y] G X Q :=
  M_lesser_f0 hG ⟨fun z => by rw [show min x y = x by omega] at q; exact q, fun z => by rw [show min x y = y by omega] at q; exact q⟩
/-- the reference fills its table: it is T -/
theorem spells_M {Q : List zV → zX → Prop} {G : zG} {X : zX} {x y n m : Int} {T A B : Int → Int} (hG : SH G) (h : zRT X 1 0) (x0 : 0 ≤ x) (x1 : x ≤ 22000) (y0 : 0 ≤ y) (y1 : y ≤ 22000) (en : X 140 x = n) (em : X 140 y = m) (n0 : 0 ≤ n) (n1 : n ≤ 12) (m0 : 0 ≤ m) (m1 : m ≤ 12) (hA : ∀ i : Int, 0 ≤ i → i < n → X 140 (x + 1 + i) = A i ∧ 0 ≤ A i ∧ A i < 36) (hB : ∀ i : Int, 0 ≤ i → i < m → X 140 (y + 1 + i) = B i ∧ 0 ≤ B i ∧ B i < 36) (hT : zSpt T A B (zPq X) m (13 * (n + 1))) (q : ∀ X2 : zX, zWk X X2 → Q [zI (T (13 * n + m))] X2) : M_spells [zR 139, zI x, zI y] G X Q := by
  have f233 : ∀ (i j v : Int) (Y : zX), 0 ≤ i → i ≤ n → 0 ≤ j → j ≤ m → v = T (13 * i + j) → M_spells_W Q 15 [zR 139, zI x, zI y, zI i, zI (j + 1), zT] [] G (zst Y 144 (13 * i + j) v) → M_spells_W Q 233 [zR 139, zI x, zI y, zI i, zI j, zI v] [] G Y := fun i j v Y i0 i1 j0 j1 ev k =>
    M_spells_f233 hG ⟨zw_id (by omega) (by omega), zw_id (by omega) (by omega), by omega, by omega, zw_id (by omega) (by omega), k⟩
  have cell : ∀ (i j : Int) (Y : zX), 0 ≤ i → i ≤ n → 0 ≤ j → j ≤ m → zWk X Y → (∀ a b : Int, 0 ≤ a → 0 ≤ b → b ≤ m → 13 * a + b < 13 * i + j → Y 144 (13 * a + b) = T (13 * a + b)) → M_spells_W Q 15 [zR 139, zI x, zI y, zI i, zI (j + 1), zT] [] G (zst Y 144 (13 * i + j) (T (13 * i + j))) → M_spells_W Q 15 [zR 139, zI x, zI y, zI i, zI j, zT] [] G Y := fun i j Y i0 i1 j0 j1 w tb k => by
    have e1 : Y 140 = X 140 := w 140 (by omega)
    have tv := hT i j i0 j0 j1 (by omega)
    have fin : ∀ v : Int, v = T (13 * i + j) → M_spells_W Q 233 [zR 139, zI x, zI y, zI i, zI j, zI v] [] G Y := fun v ev => f233 i j v Y i0 i1 j0 j1 ev (by rw [ev]; exact k)
    have tz := tv.1
    unfold zStp at tz
    have f153 : ∀ v : Int, (0 < i → 0 < j → v = min (min (T (13 * i + j - 13)) (T (13 * i + j - 1)) + 4) (T (13 * i + j - 14) + zPq X (A (i - 1)) (B (j - 1)))) → ((i = 0 ∨ j = 0) → v = (i + j) * 4) → M_spells_W Q 153 [zR 139, zI x, zI y, zI i, zI j, zI v] [] G Y := fun v v1 v2 => by
      have no : ¬(1 < i ∧ 1 < j ∧ A (i - 1) = B (j - 2) ∧ B (j - 1) = A (i - 2)) → M_spells_W Q 233 [zR 139, zI x, zI y, zI i, zI j, zI v] [] G Y := fun c => by
        refine fin v ?_
        by_cases z : i = 0 ∨ j = 0
        · rw [if_pos z] at tz
          rw [v2 z, tz]
        · rw [if_neg z, if_neg c] at tz
          rw [v1 (by omega) (by omega), tz]
      refine M_spells_f153 hG ⟨fun i2 => ⟨fun j2 => ?_, fun z => no (by omega)⟩, fun z => no (by omega)⟩
      have a1 := hA (i - 1) (by omega) (by omega)
      have a2 := hA (i - 2) (by omega) (by omega)
      have b1 := hB (j - 1) (by omega) (by omega)
      have b2 := hB (j - 2) (by omega) (by omega)
      rw [show x + 1 + (i - 1) = x + i by omega] at a1
      rw [show x + 1 + (i - 2) = x + i - 1 by omega] at a2
      rw [show y + 1 + (j - 1) = y + j by omega] at b1
      rw [show y + 1 + (j - 2) = y + j - 1 by omega] at b2
      rw [e1, a1.1, a2.1, b1.1, b2.1]
      refine ⟨zw_id (by omega) (by omega), by omega, by omega, zw_id (by omega) (by omega), zw_id (by omega) (by omega), by omega, by omega, fun c1 => ⟨zw_id (by omega) (by omega), by omega, by omega, by omega, by omega, fun c2 => ?_, fun c2 => no (fun z => c2 z.2.2.2.symm)⟩, fun c1 => no (fun z => c1 z.2.2.1)⟩
      have w2 := tb (i - 2) (j - 2) (by omega) (by omega) (by omega) (by omega)
      have t2 := hT (i - 2) (j - 2) (by omega) (by omega) (by omega) (by omega)
      rw [show 13 * (i - 2) + (j - 2) = 13 * i + j - 28 by omega] at w2 t2
      rw [show 13 * (i - 2) + j - 2 = 13 * i + j - 28 by omega, w2]
      refine ⟨by rw [zw_id (x := i - 2) (by omega) (by omega)]; exact zw_id (by omega) (by omega), zw_id (by omega) (by omega), zw_id (by omega) (by omega), by omega, by omega, zw_id (by omega) (by omega), q_lesser hG ⟨_, rfl, fin _ ?_⟩⟩
      rw [if_neg (by omega), if_pos ⟨i2, j2, c1, c2.symm⟩] at tz
      rw [v1 (by omega) (by omega), tz]
    have f99 : ∀ v : Int, (0 < i → 0 < j → v = min (T (13 * i + j - 13)) (T (13 * i + j - 1)) + 4) → ((i = 0 ∨ j = 0) → v = (i + j) * 4) → M_spells_W Q 99 [zR 139, zI x, zI y, zI i, zI j, zI v] [] G Y := fun v v1 v2 => by
      refine M_spells_f99 hG ⟨fun ip => ⟨fun jp => ?_, fun z => f153 v (fun _ p => absurd p (by omega)) v2⟩, fun z => f153 v (fun p _ => absurd p (by omega)) v2⟩
      have a1 := hA (i - 1) (by omega) (by omega)
      have b1 := hB (j - 1) (by omega) (by omega)
      rw [show x + 1 + (i - 1) = x + i by omega] at a1
      rw [show y + 1 + (j - 1) = y + j by omega] at b1
      have w2 := tb (i - 1) (j - 1) (by omega) (by omega) (by omega) (by omega)
      have t2 := hT (i - 1) (j - 1) (by omega) (by omega) (by omega) (by omega)
      rw [show 13 * (i - 1) + (j - 1) = 13 * i + j - 14 by omega] at w2 t2
      rw [e1, a1.1, b1.1, show 13 * (i - 1) + j - 1 = 13 * i + j - 14 by omega, w2]
      have p := zPq_in h (A (i - 1)) (B (j - 1))
      refine ⟨by rw [zw_id (x := i - 1) (by omega) (by omega)]; exact zw_id (by omega) (by omega), zw_id (by omega) (by omega), zw_id (by omega) (by omega), by omega, by omega, zw_id (by omega) (by omega), by omega, by omega, zw_id (by omega) (by omega), by omega, by omega, price_M hG (zWk_RT w h) (by omega) (by omega) (by omega) (by omega) ⟨_, rfl, ?_⟩⟩
      rw [zPq_w w]
      exact ⟨zw_id (by omega) (by omega), q_lesser hG ⟨_, rfl, f153 _ (fun _ _ => by rw [v1 ip jp]) (fun z => absurd z (by omega))⟩⟩
    have f71 : ∀ v : Int, (0 < i → v = T (13 * i + j - 13) + 4) → (i = 0 → 0 < j → v = 10000) → (i = 0 → j = 0 → v = 0) → M_spells_W Q 71 [zR 139, zI x, zI y, zI i, zI j, zI v] [] G Y := fun v v1 v2 v3 => by
      have tu : 0 < i → 0 ≤ T (13 * i + j - 13) ∧ T (13 * i + j - 13) ≤ 4 * (i - 1 + j) ∧ (j = 0 → T (13 * i + j - 13) = (i - 1) * 4) := fun ip => by
        have z := hT (i - 1) j (by omega) j0 j1 (by omega)
        have s := z.1
        unfold zStp at s
        rw [show 13 * (i - 1) + j = 13 * i + j - 13 by omega] at z s
        refine ⟨z.2.1, z.2.2, fun jz => ?_⟩
        rw [if_pos (Or.inr jz)] at s
        omega
      refine M_spells_f71 hG ⟨fun jp => ?_, fun z => f99 v (fun _ p => absurd p (by omega)) (fun _ => ?_)⟩
      · have w2 := tb i (j - 1) i0 (by omega) (by omega) (by omega)
        have t2 := hT i (j - 1) i0 (by omega) (by omega) (by omega)
        have s2 := t2.1
        unfold zStp at s2
        rw [show 13 * i + (j - 1) = 13 * i + j - 1 by omega] at w2 t2 s2
        rw [w2]
        refine ⟨zw_id (by omega) (by omega), zw_id (by omega) (by omega), zw_id (by omega) (by omega), by omega, by omega, zw_id (by omega) (by omega), q_lesser hG ⟨_, rfl, f99 _ (fun ip _ => ?_) (fun z => ?_)⟩⟩
        · rw [v1 ip]
          omega
        · have iz : i = 0 := by omega
          rw [if_pos (Or.inl iz)] at s2
          rw [v2 iz jp]
          omega
      · have jz : j = 0 := by omega
        by_cases ip : 0 < i
        · have u := (tu ip).2.2 jz
          rw [v1 ip]
          omega
        · rw [v3 (by omega) jz]
          omega
    have f42 : ∀ s0 : Int, (i = 0 ∧ j = 0 → s0 = 0) → (¬(i = 0 ∧ j = 0) → s0 = 10000) → M_spells_W Q 42 [zR 139, zI x, zI y, zI i, zI j, zT] [zI s0] G Y := fun s0 c0 c1 => by
      refine M_spells_f42 hG ⟨fun ip => ?_, fun z => f71 s0 (fun p => absurd p (by omega)) (fun iz jp => c1 (by omega)) (fun iz jz => c0 ⟨iz, jz⟩)⟩
      have w2 := tb (i - 1) j (by omega) j0 j1 (by omega)
      have t2 := hT (i - 1) j (by omega) j0 j1 (by omega)
      rw [show 13 * (i - 1) + j = 13 * i + j - 13 by omega] at w2 t2
      rw [show 13 * (i - 1) + j = 13 * i + j - 13 by omega, w2]
      exact ⟨by rw [zw_id (x := i - 1) (by omega) (by omega)]; exact zw_id (by omega) (by omega), zw_id (by omega) (by omega), by omega, by omega, zw_id (by omega) (by omega), q_lesser hG ⟨_, rfl, f71 _ (fun _ => by rw [c1 (by omega)]; omega) (fun iz _ => absurd iz (by omega)) (fun iz _ => absurd iz (by omega))⟩⟩
    have f39 : ¬(i = 0 ∧ j = 0) → M_spells_W Q 39 [zR 139, zI x, zI y, zI i, zI j, zT] [] G Y := fun c => M_spells_f39 hG (f42 10000 (fun z => absurd z c) (fun _ => rfl))
    refine M_spells_f15 hG ?_
    rw [e1, em]
    exact ⟨by omega, by omega, fun z => absurd z (by omega), fun _ => ⟨fun iz => ⟨fun jz => f42 0 (fun _ => rfl) (fun z => absurd ⟨iz, jz⟩ z), fun jn => f39 (fun z => jn z.2)⟩, fun inz => f39 (fun z => inz z.1)⟩⟩
  have l15 : ∀ (d : Nat) (i j : Int) (Y : zX), j + d = m + 1 → 0 ≤ i → i ≤ n → 0 ≤ j → zWk X Y → (∀ a b : Int, 0 ≤ a → 0 ≤ b → b ≤ m → 13 * a + b < 13 * i + j → Y 144 (13 * a + b) = T (13 * a + b)) → (∀ Z : zX, zWk X Z → (∀ a b : Int, 0 ≤ a → 0 ≤ b → b ≤ m → 13 * a + b < 13 * (i + 1) → Z 144 (13 * a + b) = T (13 * a + b)) → M_spells_W Q 2 [zR 139, zI x, zI y, zI (i + 1), zT, zT] [] G Z) → M_spells_W Q 15 [zR 139, zI x, zI y, zI i, zI j, zT] [] G Y := by
    intro d
    induction d with
    | zero =>
      intro i j Y e i0 i1 j0 w tb nx
      refine M_spells_f15 hG ?_
      rw [w 140 (by omega), em]
      exact ⟨by omega, by omega, fun _ => ⟨zw_id (by omega) (by omega), nx Y w (fun a b a0 b0 b1 lt => tb a b a0 b0 b1 (by omega))⟩, fun z => absurd z (by omega)⟩
    | succ d ih =>
      intro i j Y e i0 i1 j0 w tb nx
      refine cell i j Y i0 i1 j0 (by omega) w tb (ih i (j + 1) _ (by omega) i0 i1 (by omega) (zWk_w w (by omega)) (fun a b a0 b0 b1 lt => ?_) nx)
      by_cases c : 13 * a + b = 13 * i + j
      · rw [c, zrd_s]
      · rw [zrd_n (by omega)]
        exact tb a b a0 b0 b1 (by omega)
  have l2 : ∀ (d : Nat) (i : Int) (Y : zX), i + d = n + 1 → 0 ≤ i → zWk X Y → (∀ a b : Int, 0 ≤ a → 0 ≤ b → b ≤ m → 13 * a + b < 13 * i → Y 144 (13 * a + b) = T (13 * a + b)) → M_spells_W Q 2 [zR 139, zI x, zI y, zI i, zT, zT] [] G Y := by
    intro d
    induction d with
    | zero =>
      intro i Y e i0 w tb
      refine M_spells_f2 hG ?_
      rw [w 140 (by omega), en, em]
      refine ⟨by omega, by omega, fun _ => ⟨zw_id (by omega) (by omega), by omega, by omega, zw_id (by omega) (by omega), by omega, by omega, ?_⟩, fun z => absurd z (by omega)⟩
      rw [tb n m n0 m0 (by omega) (by omega)]
      exact q Y w
    | succ d ih =>
      intro i Y e i0 w tb
      refine M_spells_f2 hG ?_
      rw [w 140 (by omega), en, em]
      exact ⟨by omega, by omega, fun z => absurd z (by omega), fun _ => l15 (m + 1).toNat i 0 Y (by omega) i0 (by omega) (by omega) w (fun a b a0 b0 b1 lt => tb a b a0 b0 b1 (by omega)) (fun Z wz tz => ih (i + 1) Z (by omega) (by omega) wz tz)⟩
  exact M_spells_f0 hG (l2 (n + 1).toNat 0 X (by omega) (by omega) (zWk_r X) (fun a b a0 b0 b1 lt => absurd lt (by omega)))
theorem nm_page {G : zG} {X : zX} {p : Int} (h : zNm2 G X 1 0) (p0 : 0 ≤ p) (p1 : p < 10) : zNas G X (zrx G (53 + 5 * p) 3) (2670 + 210 * p) := by
  have z := h.1 p p0 p1
  rw [show (1 : Int) + 52 + 5 * p = 53 + 5 * p by omega, show (0 : Int) + 2670 + 210 * p = 2670 + 210 * p by omega] at z
  exact z
theorem nm_house {G : zG} {X : zX} {p : Int} (h : zNm2 G X 1 0) (p0 : 0 ≤ p) (p1 : p < X 1 11) : zNv G X (zrx G (23 + 6 * p) 1) (1870 + 160 * p) := by
  have z := h.2 p p0 p1
  rw [show (1 : Int) + 22 + 6 * p = 23 + 6 * p by omega, show (0 : Int) + 1870 + 160 * p = 1870 + 160 * p by omega] at z
  exact z
theorem op_spell {G : zG} {X : zX} {a b : Int} (hG : SH G) (h : zRT X 1 0) (hn : zNm2 G X 1 0) : zOp D_spell M_spell [zI a, zI b] [zI a, zI b] G X := by
  have hp := q_pages h
  have hh := q_houses h
  by_cases ok : 0 ≤ a ∧ a < X 1 12 ∧ 0 ≤ b ∧ b < X 1 11
  · have na := nm_page hn ok.1 (by omega : a < 10)
    have nb := nm_house hn ok.2.2.1 ok.2.2.2
    refine D_spell_f0 hG (q_dPage hG (fun _ _ => ⟨1, rfl, fun z => absurd z (by omega), fun _ => q_dHouse hG (fun _ _ => ⟨1, rfl, fun z => absurd z (by omega), fun _ => ⟨by omega, by omega, by omega, by omega, fun nl => ?_, fun nn => ⟨fun z => absurd nb.1 (by omega), fun _ => ?_⟩⟩⟩) (fun z => absurd z (by omega))⟩) (fun z => absurd z (by omega)))
    · have e : X 140 (2670 + 210 * a) = 0 := by
        rcases na with na | na
        · exact na.2
        · exact absurd na.1 (by omega)
      refine M_spell_f0 hG (q_isPage hG hp (fun _ _ => ⟨1, rfl, fun z => absurd z (by omega), fun _ => q_isHouse hG hh (fun _ _ => ⟨1, rfl, fun z => absurd z (by omega), fun _ => q_pageAt hG (by omega) (by omega) ⟨_, rfl, by omega, by omega, fun _ => ⟨rfl, h, zKp_r X⟩, fun z => absurd e z⟩⟩) (fun z => absurd z (by omega))⟩) (fun z => absurd z (by omega)))
    · have nv : zNv G X (zrx G (53 + 5 * a) 3) (2670 + 210 * a) := by
        rcases na with na | na
        · exact absurd na.1 nn
        · exact na
      have h' := nv
      have g' := nb
      obtain ⟨_, _, _, _, _, _, _, _, n9, n10, n11⟩ := h'
      obtain ⟨_, _, _, _, _, _, _, _, m9, m10, m11⟩ := g'
      refine spelled_D hG h nv nb (fun X2 w t => ⟨_, rfl, ?_⟩)
      have e1 : X2 140 = X 140 := w 140 (by omega)
      have w1 : X2 1 = X 1 := w 1 (by omega)
      refine M_spell_f0 hG (q_isPage hG (by rw [e1, w1]; exact hp) (fun _ _ => ⟨1, rfl, fun z => absurd z (by omega), fun _ => q_isHouse hG (by rw [e1, w1]; exact hh) (fun _ _ => ⟨1, rfl, fun z => absurd z (by omega), fun _ => q_pageAt hG (by omega) (by omega) ⟨_, rfl, by omega, by omega, fun z => absurd z (by rw [e1]; omega), fun _ => q_pageAt hG (by omega) (by omega) ⟨_, rfl, q_houseAt hG (by omega) (by omega) ⟨_, rfl, ?_⟩⟩⟩⟩) (fun z => absurd z (by rw [w1]; omega))⟩) (fun z => absurd z (by rw [w1]; omega)))
      refine spells_M (n := X 140 (2670 + 210 * a)) (m := X 140 (1870 + 160 * b)) (T := X2 137) hG (zWk_RT w h) (by omega) (by omega) (by omega) (by omega) (by rw [e1]) (by rw [e1]) (by omega) n10 (by omega) m10 (fun i i0 i1 => ?_) (fun i i0 i1 => ?_) (by rw [zPq_w w]; exact t) (fun X3 w3 => ⟨_, rfl, rfl, zWk_RT (zWk_t w w3) h, zWk_Kp (zWk_t w w3)⟩)
      · rw [e1]
        exact ⟨(n11 i i0 i1).1, (n11 i i0 i1).2, by have := zsg_in (X (zrx G (zrx G (53 + 5 * a) 3) 0) i); show zsg _ < 36; omega⟩
      · rw [e1]
        exact ⟨(m11 i i0 i1).1, (m11 i i0 i1).2, by have := zsg_in (X (zrx G (zrx G (23 + 6 * b) 1) 0) i); show zsg _ < 36; omega⟩
  · have no : M_spell [zR 139, zI a, zI b] G X (fun w X2 => w = [zI (-1)] ∧ zRT X2 1 0 ∧ zKp X X2) :=
      M_spell_f0 hG (q_isPage hG hp (fun _ _ => ⟨1, rfl, fun z => absurd z (by omega), fun _ => q_isHouse hG hh (fun _ _ => absurd ⟨by omega, by omega, by omega, by omega⟩ ok) (fun _ => ⟨0, rfl, fun _ => ⟨rfl, h, zKp_r X⟩, fun z => absurd rfl z⟩)⟩) (fun _ => ⟨0, rfl, fun _ => ⟨rfl, h, zKp_r X⟩, fun z => absurd rfl z⟩))
    exact D_spell_f0 hG (q_dPage hG (fun _ _ => ⟨1, rfl, fun z => absurd z (by omega), fun _ => q_dHouse hG (fun _ _ => absurd ⟨by omega, by omega, by omega, by omega⟩ ok) (fun _ => ⟨0, rfl, fun _ => no, fun z => absurd rfl z⟩)⟩) (fun _ => ⟨0, rfl, fun _ => no, fun z => absurd rfl z⟩))
