/-! ===== a token read: class and reference ===== -/
def zKtx (G : zG) (X : zX) : Prop := zkd G (-3) = 15 ∧ zrx G (-3) 0 = -4 ∧ zkd G (-4) = 53 ∧ zln G (-4) = 79 ∧ X (-3) 1 = 0 ∧ (∀ i : Int, 0 ≤ i → i < 79 → X (-4) i = zWt i)
theorem zKtx_c {G : zG} {X Y : zX} (h : zKtx G X) (e3 : Y (-3) = X (-3)) (e4 : Y (-4) = X (-4)) : zKtx G Y := by
  unfold zKtx at h ⊢
  rw [e3, e4]
  exact h
theorem lenT_D {Q : List zV → zX → Prop} {G : zG} {X : zX} (h : zKtx G X) (q : Q [zI 79] X) : SX_length [zR (-3)] G X Q := by
  obtain ⟨h1, h2, h3, h4, h5, h6⟩ := h
  refine SX_length_e0 ?_
  rw [h2, h3, h4]
  refine ⟨h1, by omega, by omega, SX_coder_e0 ⟨h1, by omega, 0, by rw [h5], ?_⟩⟩
  rw [show zshr 79 0 = 79 by decide +kernel]
  exact q
theorem charT_D {Q : List zV → zX → Prop} {G : zG} {X : zX} {i : Int} (h : zKtx G X) (i0 : 0 ≤ i) (i1 : i < 79) (q : Q [zI (zWt i)] X) : SX_charAt [zR (-3), zI i] G X Q := by
  obtain ⟨h1, h2, h3, h4, h5, h6⟩ := h
  have key : ∀ n : Fin 79, zand (zWt (n.val : Int)) 255 % 65536 = zWt (n.val : Int) ∧ 0 ≤ zWt (n.val : Int) ∧ zWt (n.val : Int) ≤ 65535 := by decide +kernel
  have e := key ⟨i.toNat, by omega⟩
  simp only at e
  rw [show ((i.toNat : Nat) : Int) = i by omega] at e
  refine SX_charAt_e0 ⟨h1, SX_isLatin1_e0 ⟨h1, fun _ => ⟨1, rfl, fun y => absurd y (by omega), fun _ => SL_charAt_e0 ?_⟩, fun y => absurd h5 y⟩⟩
  rw [h2, h3, h4]
  refine ⟨by omega, by omega, S_checkIndex_e0 (fun _ => PR_checkIndex_e0 ⟨fun y => absurd i0 (by omega), fun _ => ⟨fun _ => ⟨_, rfl, rfl, rfl, i0, i1, ?_⟩, fun y => absurd y (by omega)⟩⟩)⟩
  rw [h6 i i0 i1, e.1]
  exact ⟨e.2, _, rfl, e.2, q⟩
/-- the class's tape: at what it was, but for its place and its token -/
def zAt2 (X Y : zX) : Prop := (∀ b : Int, b ≠ 2 → Y b = X b) ∧ (∀ k : Int, k ≠ 7 → k ≠ 8 → k ≠ 9 → k ≠ 10 → Y 2 k = X 2 k)
theorem zAt2_r (X : zX) : zAt2 X X := ⟨fun _ _ => rfl, fun _ _ _ _ _ => rfl⟩
theorem zAt2_t {X Y Z : zX} (h : zAt2 X Y) (g : zAt2 Y Z) : zAt2 X Z := ⟨fun b hb => (g.1 b hb).trans (h.1 b hb), fun k a b c d => (g.2 k a b c d).trans (h.2 k a b c d)⟩
theorem zAt2_w {X Y : zX} {j v : Int} (h : zAt2 X Y) (hj : j = 7 ∨ j = 8 ∨ j = 9 ∨ j = 10) : zAt2 X (zst Y 2 j v) := ⟨fun b hb => by rw [zrd_r hb]; exact h.1 b hb, fun k a b c d => by rw [zrd_n (by omega)]; exact h.2 k a b c d⟩
theorem letters_D {Q : List zV → zX → Prop} {G : zG} {X : zX} {n p : Int} (hG : SH G) (kt : zKtx G X) (e4 : X 2 4 = n) (n5 : n ≤ 500) (e9 : X 2 9 = p) (e7 : X 2 7 = p) (p0 : 0 ≤ p) (p1 : p < n) (hl : zLet (X 3 p) = true)
    (q : ∀ Y : zX, zAt2 X Y → Y 2 9 = p → Y 2 7 = zRun zLet (X 3) (n - p).toNat p → Y 2 8 = zWtk (X 3) p (zRun zLet (X 3) (n - p).toNat p) 18 → Q [] Y) : Ta_stepLetters [zR 2] G X Q := by
  have ei := zRun_in (C := zLet) (L := X 3) (n - p).toNat p
  have ep : p < zRun zLet (X 3) (n - p).toNat p := by
    rw [show (n - p).toNat = (n - p - 1).toNat + 1 by omega, zRun_p hl]
    have z := zRun_in (C := zLet) (L := X 3) (n - p - 1).toNat (p + 1)
    omega
  obtain ⟨e, ee⟩ : ∃ e : Int, zRun zLet (X 3) (n - p).toNat p = e := ⟨_, rfl⟩
  rw [ee] at ei ep q
  have inner : ∀ (d : Nat) (w : Nat) (j x2 : Int) (Z : zX), w < 18 → j + d = zWln w → 0 ≤ j → zAt2 X Z → Z 2 9 = p → Z 2 7 = e → Z 2 8 = zWtk (X 3) p e w → ((x2 = j ∧ ∀ m : Int, 0 ≤ m → m < j → p + m < e ∧ X 3 (p + m) = zWt (zWst w + m)) ∨ (x2 = -1 ∧ ¬zWmt (X 3) p e w)) → (∀ Z2 : zX, zAt2 X Z2 → Z2 2 9 = p → Z2 2 7 = e → Z2 2 8 = zWtk (X 3) p e (w + 1) → Ta_stepLetters_W Q 50 [zR 2, zI ((w : Int) + 1), zI 0, zI (zWst w + zWln w + 1), zT] [] G Z2) → Ta_stepLetters_W Q 50 [zR 2, zI (w : Int), zI x2, zI (zWst w + j), zT] [] G Z := by
    intro d
    induction d with
    | zero =>
      intro w j x2 Z hw ej j0 f z9 z7 z8 c nx
      have t := zW_tab ⟨w, hw⟩
      simp only at t
      have kz : zKtx G Z := zKtx_c kt (f.1 (-3) (by omega)) (f.1 (-4) (by omega))
      have jl : j = zWln w := by omega
      rw [jl]
      refine Ta_stepLetters_f50 hG ⟨kt.1, lenT_D kz ⟨_, rfl, fun _ => charT_D kz (by omega) (by omega) ⟨_, rfl, fun _ => ?_, fun z => absurd t.2.2.2.2.1 z⟩, fun z => absurd z (by omega)⟩⟩
      rw [z7, z9]
      refine ⟨zw_id (by omega) (by omega), fun m => ⟨zw_id (by omega) (by omega), zw_id (by omega) (by omega), zw_id (by omega) (by omega), ?_⟩, fun m => ⟨zw_id (by omega) (by omega), zw_id (by omega) (by omega), ?_⟩⟩
      · have mt : zWmt (X 3) p e w := by
          rcases c with ⟨c1, c2⟩ | ⟨c1, c2⟩
          · exact ⟨by omega, fun i i0 i1 => (c2 i i0 (by omega)).2⟩
          · omega
        refine nx _ (zAt2_w f (by omega)) (by rw [zrd_n (by omega)]; exact z9) (by rw [zrd_n (by omega)]; exact z7) ?_
        rw [zrd_s, zWtk_p mt]
      · have mt : ¬zWmt (X 3) p e w := by
          rcases c with ⟨c1, c2⟩ | ⟨c1, c2⟩
          · exact fun y => m (by have := y.1; omega)
          · exact c2
        exact nx Z f z9 z7 (by rw [zWtk_n mt]; exact z8)
    | succ d ih =>
      intro w j x2 Z hw ej j0 f z9 z7 z8 c nx
      have t := zW_tab ⟨w, hw⟩
      simp only at t
      have tl := zW_let ⟨w, hw⟩ ⟨j.toNat, by omega⟩
      simp only at tl
      rw [show ((j.toNat : Nat) : Int) = j by omega] at tl
      have tj := tl (by omega)
      have kz : zKtx G Z := zKtx_c kt (f.1 (-3) (by omega)) (f.1 (-4) (by omega))
      have z3 : Z 3 = X 3 := f.1 3 (by omega)
      have bad : ¬zWmt (X 3) p e w → zw (zWst w + j + 1) = zWst w + j + 1 ∧ Ta_stepLetters_W Q 50 [zR 2, zI (w : Int), zI (-1), zI (zWst w + j + 1), zT] [] G Z := fun nm => by
        have z := ih w (j + 1) (-1) Z hw (by omega) (by omega) f z9 z7 z8 (Or.inr ⟨rfl, nm⟩) nx
        rw [show zWst w + (j + 1) = zWst w + j + 1 by omega] at z
        exact ⟨zw_id (by omega) (by omega), z⟩
      refine Ta_stepLetters_f50 hG ⟨kt.1, lenT_D kz ⟨_, rfl, fun _ => charT_D kz (by omega) (by omega) ⟨_, rfl, fun z => absurd z (by omega), fun _ => ⟨fun m => ?_, fun m => ?_⟩⟩, fun z => absurd z (by omega)⟩⟩
      · rcases c with ⟨c1, c2⟩ | ⟨c1, c2⟩
        · omega
        · exact bad c2
      · rcases c with ⟨c1, c2⟩ | ⟨c1, c2⟩
        · rw [z9, z7, z3, c1]
          refine ⟨zw_id (by omega) (by omega), fun lt => ⟨by omega, by omega, fun eq => ⟨zw_id (by omega) (by omega), zw_id (by omega) (by omega), ?_⟩, fun ne => bad (fun y => ne (y.2 j j0 (by omega)))⟩, fun ge => bad (fun y => by have := y.1; omega)⟩
          have z := ih w (j + 1) (j + 1) Z hw (by omega) (by omega) f z9 z7 z8 (Or.inl ⟨rfl, fun m m0 m1 => ?_⟩) nx
          · rw [show zWst w + (j + 1) = zWst w + j + 1 by omega] at z
            exact z
          · by_cases cm : m = j
            · rw [cm]
              exact ⟨lt, eq⟩
            · exact c2 m m0 (by omega)
        · exact absurd c1 m
  have outer : ∀ (d w : Nat) (i : Int) (Z : zX), w + d = 18 → (w < 18 → i = zWst w) → (w = 18 → i = 79) → zAt2 X Z → Z 2 9 = p → Z 2 7 = e → Z 2 8 = zWtk (X 3) p e w → Ta_stepLetters_W Q 50 [zR 2, zI (w : Int), zI 0, zI i, zT] [] G Z := by
    intro d
    induction d with
    | zero =>
      intro w i Z ew i1 i2 f z9 z7 z8
      have w18 : w = 18 := by omega
      rw [w18] at z8
      have kz : zKtx G Z := zKtx_c kt (f.1 (-3) (by omega)) (f.1 (-4) (by omega))
      rw [i2 w18]
      exact Ta_stepLetters_f50 hG ⟨kt.1, lenT_D kz ⟨_, rfl, fun z => absurd z (by omega), fun _ => q Z f z9 z7 z8⟩⟩
    | succ d ih =>
      intro w i Z ew i1 i2 f z9 z7 z8
      have hw : w < 18 := by omega
      have t := zW_tab ⟨w, hw⟩
      simp only at t
      rw [i1 hw, show zWst w = zWst w + 0 by omega]
      refine inner (zWln w).toNat w 0 0 Z hw (by omega) (by omega) f z9 z7 z8 (Or.inl ⟨rfl, fun m m0 m1 => absurd m1 (by omega)⟩) (fun Z2 f2 y9 y7 y8 => ?_)
      have z := ih (w + 1) (zWst w + zWln w + 1) Z2 (by omega) (fun h => ?_) (fun h => ?_) f2 y9 y7 y8
      · rw [show ((w + 1 : Nat) : Int) = (w : Int) + 1 by omega] at z
        exact z
      · rw [show ((w + 1 : Nat) : Int) = (w : Int) + 1 by omega]
        exact (t.2.2.2.2.2.1 (by omega)).symm
      · exact t.2.2.2.2.2.2.1 (by omega)
  have f39 : ∀ Z : zX, zAt2 X Z → Z 2 9 = p → Z 2 7 = e → Ta_stepLetters_W Q 39 [zR 2, zT, zT, zT, zT] [] G Z := fun Z f z9 z7 =>
    Ta_stepLetters_f39 hG (outer 18 0 0 _ (by omega) (fun _ => by decide +kernel) (fun h => absurd h (by omega)) (zAt2_w f (by omega)) (by rw [zrd_n (by omega)]; exact z9) (by rw [zrd_n (by omega)]; exact z7) (zrd_s _ _ _ _))
  have lp : ∀ (d : Nat) (i : Int) (Z : zX), i + d = n → p ≤ i → zAt2 X Z → Z 2 9 = p → Z 2 7 = i → zRun zLet (X 3) d i = e → Ta_stepLetters [zR 2] G Z Q := by
    intro d
    induction d with
    | zero =>
      intro i Z ei' i0 f z9 z7 re
      have re2 : i = e := re
      refine Ta_stepLetters_f0 hG ?_
      rw [z7, f.2 4 (by omega) (by omega) (by omega) (by omega), e4]
      exact ⟨fun z => absurd z (by omega), fun _ => f39 Z f z9 (by rw [z7]; exact re2)⟩
    | succ d ih =>
      intro i Z ei' i0 f z9 z7 re
      refine Ta_stepLetters_f0 hG ?_
      rw [z7, f.2 4 (by omega) (by omega) (by omega) (by omega), e4, f.1 3 (by omega)]
      refine ⟨fun _ => ⟨by omega, by omega, q_dLetter hG (fun c => ⟨1, rfl, fun z => absurd z (by omega), fun _ => ?_⟩) (fun c => ⟨0, rfl, fun _ => ?_, fun z => absurd rfl z⟩)⟩, fun z => absurd z (by omega)⟩
      · rw [z7]
        rw [zRun_p (zLet_e.2 c)] at re
        exact ⟨zw_id (by omega) (by omega), ih (i + 1) _ (by omega) (by omega) (zAt2_w f (by omega)) (by rw [zrd_n (by omega)]; exact z9) (zrd_s _ _ _ _) re⟩
      · rw [zRun_n (fun z => c (zLet_e.1 z))] at re
        exact f39 Z f z9 (by rw [z7]; exact re)
  exact lp (n - p).toNat p X (by omega) (Int.le_refl _) (zAt2_r X) e9 e7 ee
theorem digits_D {Q : List zV → zX → Prop} {G : zG} {X : zX} {n p : Int} (hG : SH G) (e4 : X 2 4 = n) (n5 : n ≤ 500) (e9 : X 2 9 = p) (e7 : X 2 7 = p) (p0 : 0 ≤ p) (p1 : p < n) (hl : zDgt (X 3 p) = true)
    (q : ∀ Y : zX, zAt2 X Y → Y 2 9 = p → Y 2 7 = zRun zDgt (X 3) (n - p).toNat p → Y 2 8 = (if zRun zDgt (X 3) (n - p).toNat p - p ≤ 4 then 1 else 2) → (zRun zDgt (X 3) (n - p).toNat p - p ≤ 4 → Y 2 10 = zNmb (X 3) p (zRun zDgt (X 3) (n - p).toNat p - p).toNat) → Q [] Y) : Ta_stepDigits [zR 2] G X Q := by
  have ei := zRun_in (C := zDgt) (L := X 3) (n - p).toNat p
  obtain ⟨e, ee⟩ : ∃ e : Int, zRun zDgt (X 3) (n - p).toNat p = e := ⟨_, rfl⟩
  rw [ee] at ei q
  have k2 : zkd G 2 = 2 := zSk hG 2 2 (by decide +kernel)
  have f68 : ∀ Z : zX, zAt2 X Z → Z 2 9 = p → Z 2 7 = e → (e - p ≤ 4 → Z 2 10 = zNmb (X 3) p (e - p).toNat) → Ta_stepDigits_W Q 68 [zR 2] [] G Z := fun Z f z9 z7 z10 => by
    refine Ta_stepDigits_f68 hG ?_
    rw [z7, z9, zw_id (x := e - p) (by omega) (by omega)]
    refine ⟨fun gt => Ta_stepDigits_f87 hG ⟨k2, q _ (zAt2_w f (by omega)) (by rw [zrd_n (by omega)]; exact z9) (by rw [zrd_n (by omega)]; exact z7) (by rw [zrd_s, if_neg (by omega)]) (fun z => absurd z (by omega))⟩, fun le => Ta_stepDigits_f87 hG ⟨k2, q _ (zAt2_w f (by omega)) (by rw [zrd_n (by omega)]; exact z9) (by rw [zrd_n (by omega)]; exact z7) (by rw [zrd_s, if_pos le]) (fun z => by rw [zrd_n (by omega)]; exact z10 z)⟩⟩
  have lp : ∀ (d : Nat) (i : Int) (Z : zX), i + d = n → p ≤ i → (∀ j : Int, p ≤ j → j < i → zDgt (X 3 j) = true) → zAt2 X Z → Z 2 9 = p → Z 2 7 = i → (i - p ≤ 4 → Z 2 10 = zNmb (X 3) p (i - p).toNat) → zRun zDgt (X 3) d i = e → Ta_stepDigits_W Q 5 [zR 2] [] G Z := by
    intro d
    induction d with
    | zero =>
      intro i Z ei' i0 hd f z9 z7 z10 re
      have re2 : i = e := re
      rw [re2] at z7 z10
      refine Ta_stepDigits_f5 hG ?_
      rw [z7, f.2 4 (by omega) (by omega) (by omega) (by omega), e4]
      exact ⟨fun z => absurd z (by omega), fun _ => f68 Z f z9 z7 z10⟩
    | succ d ih =>
      intro i Z ei' i0 hd f z9 z7 z10 re
      refine Ta_stepDigits_f5 hG ?_
      rw [z7, f.2 4 (by omega) (by omega) (by omega) (by omega), e4, f.1 3 (by omega)]
      refine ⟨fun _ => ⟨by omega, by omega, q_dDigit hG (fun c => ⟨1, rfl, fun z => absurd z (by omega), fun _ => ?_⟩) (fun c => ⟨0, rfl, fun _ => ?_, fun z => absurd rfl z⟩)⟩, fun z => absurd z (by omega)⟩
      · rw [z7, f.1 3 (by omega)]
        rw [zRun_p (zDgt_e.2 c)] at re
        refine ⟨by omega, by omega, fun X5 e5 => ?_⟩
        rw [show zst Z 2 10 (zw (zw (zw (Z 2 10 * 10) + X 3 i) - 48)) 2 7 = i by rw [zrd_n (by omega)]; exact z7, zw_id (x := i + 1) (by omega) (by omega)] at e5
        refine ih (i + 1) X5 (by omega) (by omega) (fun j j0 j1 => ?_) (by rw [e5]; exact zAt2_w (zAt2_w f (by omega)) (by omega)) (by rw [e5, zrd_n (by omega), zrd_n (by omega)]; exact z9) (by rw [e5, zrd_s]) (fun i4 => ?_) re
        · by_cases cj : j = i
          · rw [cj]
            exact zDgt_e.2 c
          · exact hd j j0 (by omega)
        · have nb := zNmb_in (L := X 3) (p := p) (i - p).toNat (fun j j0 j1 => zDgt_e.1 (hd (p + j) (by omega) (by omega))) (by omega)
          rw [e5, zrd_n (by omega), zrd_s, z10 (by omega), show (i + 1 - p).toNat = (i - p).toNat + 1 by omega]
          show _ = 10 * zNmb (X 3) p (i - p).toNat + X 3 (p + ((i - p).toNat : Int)) - 48
          rw [show p + ((i - p).toNat : Int) = i by omega, zw_id (x := zNmb (X 3) p (i - p).toNat * 10) (by omega) (by omega), zw_id (x := zNmb (X 3) p (i - p).toNat * 10 + X 3 i) (by omega) (by omega), zw_id (by omega) (by omega)]
          omega
      · rw [zRun_n (fun z => c (zDgt_e.1 z))] at re
        rw [re] at z7 z10
        exact f68 Z f z9 z7 z10
  refine Ta_stepDigits_f0 hG (lp (n - p).toNat p _ (by omega) (Int.le_refl _) (fun j j0 j1 => absurd j1 (by omega)) (zAt2_w (zAt2_r X) (by omega)) (by rw [zrd_n (by omega)]; exact e9) (by rw [zrd_n (by omega)]; exact e7) (fun _ => ?_) ee)
  rw [zrd_s, show (p - p).toNat = 0 by omega]
  rfl
/-- the class goes over a token -/
theorem step_D {Q : List zV → zX → Prop} {G : zG} {X : zX} {n a : Int} (hG : SH G) (kt : zKtx G X) (e4 : X 2 4 = n) (n5 : n ≤ 500) (e7 : X 2 7 = a) (a0 : 0 ≤ a) (a1 : a ≤ n)
    (q : ∀ Y : zX, zAt2 X Y → Y 2 7 = (zTkn (X 3) n a).2.2.2 → Y 2 8 = (zTkn (X 3) n a).1 → Y 2 9 = (zTkn (X 3) n a).2.2.1 → ((zTkn (X 3) n a).1 = 1 → Y 2 10 = (zTkn (X 3) n a).2.1) → Q [] Y) : Ta_step [zR 2] G X Q := by
  have k2 : zkd G 2 = 2 := zSk hG 2 2 (by decide +kernel)
  unfold zTkn at q
  obtain ⟨p, ep⟩ : ∃ p : Int, zRun zBlk (X 3) (n - a).toNat a = p := ⟨_, rfl⟩
  have pin := zRun_in (C := zBlk) (L := X 3) (n - a).toNat a
  rw [ep] at q pin
  have f39 : ∀ Z : zX, zAt2 X Z → Z 2 7 = p → Ta_step_W Q 39 [zR 2, zT, zT] [] G Z := fun Z f z7 => by
    have fV : zAt2 X (zst Z 2 9 p) := zAt2_w f (by omega)
    have v7 : zst Z 2 9 p 2 7 = p := by rw [zrd_n (by omega)]; exact z7
    have v9 : zst Z 2 9 p 2 9 = p := zrd_s _ _ _ _
    have v4 : zst Z 2 9 p 2 4 = n := (fV.2 4 (by omega) (by omega) (by omega) (by omega)).trans e4
    have v3 : zst Z 2 9 p 3 = X 3 := fV.1 3 (by omega)
    refine Ta_step_f39 hG ?_
    rw [z7, v7, v4, v3]
    generalize zst Z 2 9 p = V at fV v7 v9 v4 v3 ⊢
    have kz : zKtx G V := zKtx_c kt (fV.1 (-3) (by omega)) (fV.1 (-4) (by omega))
    unfold zTkn0 at q
    refine ⟨fun lt => ⟨by omega, by omega, q_dDigit hG (fun c => ⟨1, rfl, fun z => absurd z (by omega), fun _ => ?_⟩) (fun c => ⟨0, rfl, fun _ => q_dLetter hG (fun c2 => ⟨1, rfl, fun z => absurd z (by omega), fun _ => ?_⟩) (fun c2 => ⟨0, rfl, fun _ => ?_, fun z => absurd rfl z⟩), fun z => absurd rfl z⟩)⟩, fun ge => ?_⟩
    · rw [if_neg (by omega), if_pos (zDgt_e.2 c)] at q
      refine digits_D hG v4 n5 v9 v7 (by omega) lt (by rw [v3]; exact zDgt_e.2 c) (fun Y fy y9 y7 y8 y10 => ⟨rfl, ?_⟩)
      rw [v3] at y7 y8 y10
      refine q Y (zAt2_t fV fy) y7 y8 y9 (fun z => y10 ?_)
      by_cases c4 : zRun zDgt (X 3) (n - p).toNat p - p ≤ 4
      · exact c4
      · rw [if_neg c4] at z
        exact absurd z (by show (2 : Int) ≠ 1; omega)
    · rw [if_neg (by omega), if_neg (fun z => c (zDgt_e.1 z)), if_pos (zLet_e.2 c2)] at q
      refine letters_D hG kz v4 n5 v9 v7 (by omega) lt (by rw [v3]; exact zLet_e.2 c2) (fun Y fy y9 y7 y8 => ⟨rfl, ?_⟩)
      rw [v3] at y7 y8
      have t := zWtk_in (L := X 3) (p := p) (e := zRun zLet (X 3) (n - p).toNat p) 18
      exact q Y (zAt2_t fV fy) y7 y8 y9 (fun z => by
        have z2 : zWtk (X 3) p (zRun zLet (X 3) (n - p).toNat p) 18 = 1 := z
        omega)
    · rw [if_neg (by omega), if_neg (fun z => c (zDgt_e.1 z)), if_neg (fun z => c2 (zLet_e.1 z))] at q
      rw [v7]
      have fin : ∀ t : Int, (t = if X 3 p = 40 ∨ X 3 p = 41 ∨ X 3 p = 59 ∨ X 3 p = 60 then X 3 p else 2) → Q [] (zst (zst V 2 7 (p + 1)) 2 8 t) := fun t et => by
        refine q _ (zAt2_w (zAt2_w fV (by omega)) (by omega)) (by rw [zrd_n (by omega), zrd_s]) (by rw [zrd_s]; exact et) (by rw [zrd_n (by omega), zrd_n (by omega)]; exact v9) (fun z => ?_)
        by_cases c4 : X 3 p = 40 ∨ X 3 p = 41 ∨ X 3 p = 59 ∨ X 3 p = 60
        · rw [if_pos c4] at z
          have z2 : X 3 p = 1 := z
          omega
        · rw [if_neg c4] at z
          exact absurd z (by show (2 : Int) ≠ 1; omega)
      have yes : (X 3 p = 40 ∨ X 3 p = 41 ∨ X 3 p = 59 ∨ X 3 p = 60) → Ta_step_W Q 141 [zR 2, zI (X 3 p), zT] [zI 1] G (zst V 2 7 (p + 1)) := fun k => Ta_step_f141 hG ⟨fun z => absurd z (by omega), fun _ => Ta_step_f152 hG ⟨k2, fin _ (by rw [if_pos k])⟩⟩
      exact ⟨zw_id (by omega) (by omega), fun k => yes (by omega), fun k1 => ⟨fun k => yes (by omega), fun k2' => ⟨fun k => yes (by omega), fun k3 => ⟨fun k => yes (by omega), fun k4 => Ta_step_f141 hG ⟨fun _ => Ta_step_f152 hG ⟨k2, fin _ (by rw [if_neg (by omega)])⟩, fun z => absurd rfl z⟩⟩⟩⟩⟩
    · rw [if_pos (by omega)] at q
      exact q _ (zAt2_w fV (by omega)) (by rw [zrd_n (by omega)]; exact v7) (zrd_s _ _ _ _) (by rw [zrd_n (by omega)]; exact v9) (fun z => absurd z (by show (0 : Int) ≠ 1; omega))
  have lp : ∀ (d : Nat) (i : Int) (Z : zX), i + d = n → a ≤ i → zAt2 X Z → Z 2 7 = i → zRun zBlk (X 3) d i = p → Ta_step [zR 2] G Z Q := by
    intro d
    induction d with
    | zero =>
      intro i Z ei i0 f z7 re
      have re2 : i = p := re
      refine Ta_step_f0 hG ?_
      rw [z7, f.2 4 (by omega) (by omega) (by omega) (by omega), e4]
      exact ⟨fun z => absurd z (by omega), fun _ => f39 Z f (by rw [z7]; exact re2)⟩
    | succ d ih =>
      intro i Z ei i0 f z7 re
      refine Ta_step_f0 hG ?_
      rw [z7, f.2 4 (by omega) (by omega) (by omega) (by omega), e4, f.1 3 (by omega)]
      refine ⟨fun _ => ⟨by omega, by omega, q_dBlank hG (fun c => ⟨1, rfl, fun z => absurd z (by omega), fun _ => ?_⟩) (fun c c2 => ⟨0, rfl, fun _ => ?_, fun z => absurd rfl z⟩)⟩, fun z => absurd z (by omega)⟩
      · rw [z7]
        rw [zRun_p (zBlk_e.2 c)] at re
        exact ⟨zw_id (by omega) (by omega), ih (i + 1) _ (by omega) (by omega) (zAt2_w f (by omega)) (zrd_s _ _ _ _) re⟩
      · rw [zRun_n (fun z => by have y := zBlk_e.1 z; omega)] at re
        exact f39 Z f (by rw [z7]; exact re)
  exact lp (n - a).toNat a X (by omega) (Int.le_refl _) (zAt2_r X) e7 ep
