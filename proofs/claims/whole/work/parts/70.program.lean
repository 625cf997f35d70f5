/-! ===== program ===== -/
/-- line k as both keep it -/
def zLr (P R : Int → Int) (k : Int) : Prop := (P (4 * k) = 267 ∧ R (4 * k) = 10 ∨ 268 ≤ P (4 * k) ∧ P (4 * k) ≤ 273 ∧ R (4 * k) = P (4 * k) - 256) ∧ (P (4 * k) ≠ 272 ∧ P (4 * k) ≠ 273 → R (4 * k + 1) = P (4 * k + 1) ∧ 0 ≤ P (4 * k + 1) ∧ P (4 * k + 1) ≤ 99 ∧ (P (4 * k) = 267 → P (4 * k + 1) ≤ 7) ∧ (P (4 * k) = 268 ∨ P (4 * k) = 270 ∨ P (4 * k) = 271 → P (4 * k + 1) ≤ 5)) ∧ (P (4 * k) ≠ 272 ∧ P (4 * k) ≠ 273 → R (4 * k + 2) = P (4 * k + 2) ∧ 0 ≤ P (4 * k + 2) ∧ P (4 * k + 2) ≤ 99 ∧ (P (4 * k) = 267 ∨ P (4 * k) = 268 ∨ P (4 * k) = 269 → P (4 * k + 2) ≤ 5) ∧ (P (4 * k) = 270 → P (4 * k + 2) ≤ 9)) ∧ (P (4 * k) = 271 ∨ P (4 * k) = 272 → R (4 * k + 3) = P (4 * k + 3) ∧ 0 ≤ P (4 * k + 3) ∧ P (4 * k + 3) ≤ 20)
theorem zLr_c {P R P2 R2 : Int → Int} {k : Int} (h : zLr P R k) (e : ∀ i : Int, 0 ≤ i → i < 4 → P2 (4 * k + i) = P (4 * k + i) ∧ R2 (4 * k + i) = R (4 * k + i)) : zLr P2 R2 k := by
  have e0 := e 0 (by omega) (by omega)
  rw [show 4 * k + 0 = 4 * k by omega] at e0
  have e1 := e 1 (by omega) (by omega)
  have e2 := e 2 (by omega) (by omega)
  have e3 := e 3 (by omega) (by omega)
  unfold zLr at h ⊢
  rw [e0.1, e0.2, e1.1, e1.2, e2.1, e2.2, e3.1, e3.2]
  exact h
theorem zLr_n {P R : Int → Int} {o a b d c : Int} (od : 267 ≤ o ∧ o ≤ 273) (bd : zLok o a b d) (e0 : R (4 * c) = zWo (o - 256)) (e1 : o ≠ 272 → o ≠ 273 → R (4 * c + 1) = a ∧ R (4 * c + 2) = b) (e3 : o = 271 ∨ o = 272 → R (4 * c + 3) = d) : zLr (zup (zup (zup (zup P (c * 4) o) (c * 4 + 1) a) (c * 4 + 2) b) (c * 4 + 3) d) R c := by
  obtain ⟨T, eT⟩ : ∃ T : Int → Int, T = zup (zup (zup (zup P (c * 4) o) (c * 4 + 1) a) (c * 4 + 2) b) (c * 4 + 3) d := ⟨_, rfl⟩
  rw [← eT]
  have t0 : T (4 * c) = o := by rw [eT, zup_n (by omega), zup_n (by omega), zup_n (by omega), show 4 * c = c * 4 by omega, zup_s]
  have t1 : T (4 * c + 1) = a := by rw [eT, zup_n (by omega), zup_n (by omega), show 4 * c + 1 = c * 4 + 1 by omega, zup_s]
  have t2 : T (4 * c + 2) = b := by rw [eT, zup_n (by omega), show 4 * c + 2 = c * 4 + 2 by omega, zup_s]
  have t3 : T (4 * c + 3) = d := by rw [eT, show 4 * c + 3 = c * 4 + 3 by omega, zup_s]
  have hx : (o = 267 → zWo (o - 256) = 10) ∧ (o ≠ 267 → zWo (o - 256) = o - 256) := by
    unfold zWo
    by_cases k1 : o - 256 = 10
    · omega
    · rw [if_neg k1]
      by_cases k2 : o - 256 = 11
      · rw [if_pos k2]
        omega
      · rw [if_neg k2]
        omega
  unfold zLok at bd
  unfold zLr
  rw [t0, t1, t2, t3]
  refine ⟨?_, fun z => ⟨(e1 z.1 z.2).1, bd.1.1, bd.1.2, bd.2.2.2.1, bd.2.2.2.2.1⟩, fun z => ⟨(e1 z.1 z.2).2, bd.2.1.1, bd.2.1.2, bd.2.2.2.2.2.1, bd.2.2.2.2.2.2⟩, fun z => ⟨e3 z, bd.2.2.1.1, bd.2.2.1.2⟩⟩
  by_cases o7 : o = 267
  · exact Or.inl ⟨o7, e0.trans (hx.1 o7)⟩
  · exact Or.inr ⟨by omega, od.2, e0.trans (hx.2 o7)⟩
theorem zLn_0 {L : Int → Int} {n c : Int} {P : Int → Int} {s : zPst} (ok : zOk n s) (h : zqf (zLn L n (s, c, P)).1 = 0) : zqf s = 0 ∧ c < 20 ∧ (267 ≤ zqt s ∧ zqt s ≤ 273) ∧ (zLn L n (s, c, P)).2.2 = zLp L n c P s ∧ zLok (zqt s) (zLf L n (zqt s) (zNx L n (zLw c s))).1 (zLf L n (zqt s) (zNx L n (zLw c s))).2.1 (zLf L n (zqt s) (zNx L n (zLw c s))).2.2.1 := by
  by_cases od : 267 ≤ zqt s ∧ zqt s ≤ 273
  · have e : zLn L n (s, c, P) = (zLe L n c s, c + 1, if zqf (zLe L n c s) = 0 ∧ c < 20 then zLp L n c P s else P) := if_pos od
    rw [e] at h ⊢
    have h' : zqf (zLe L n c s) = 0 := h
    have x := zXp_0 h'
    have ok1 := zLw_k (c := c) ok
    have y := zLf_0 (zNx_k (L := L) ok1).1 x.1
    have w0 : zqf (zLw c s) = 0 := y.1
    have c20 : c < 20 := by
      by_cases k : 20 ≤ c
      · unfold zLw at w0
        rw [if_pos k] at w0
        exact absurd (zWg_0 (by omega) w0) (fun z => z)
      · omega
    have s0 : zqf s = 0 := by
      unfold zLw at w0
      rw [if_neg (by omega)] at w0
      exact w0
    refine ⟨s0, c20, od, ?_, y.2⟩
    show (if zqf (zLe L n c s) = 0 ∧ c < 20 then zLp L n c P s else P) = _
    rw [if_pos ⟨h', c20⟩]
  · have e : zLn L n (s, c, P) = (zSu (zLw c s), c + 1, P) := if_neg od
    rw [e] at h
    have h' : zqf (zSu (zLw c s)) = 0 := h
    rw [zSu_f] at h'
    omega
theorem zLn_c {L : Int → Int} {n : Int} {A : zLss} : (zLn L n A).2.1 = A.2.1 + 1 := by
  unfold zLn
  by_cases c : 267 ≤ zqt A.1 ∧ zqt A.1 ≤ 273
  · rw [if_pos c]
  · rw [if_neg c]
/-- beside the tape and the lines' row all stays -/
def zLfr (X Z : zX) : Prop := (∀ b : Int, b ≠ 139 → b ≠ 140 → b ≠ 162 → Z b = X b) ∧ (∀ k : Int, k ≠ 7 → k ≠ 8 → Z 140 k = X 140 k)
theorem lines_M {Q : List zV → zX → Prop} {G : zG} {X : zX} {L : Int → Int} {n p : Int} {E : zLss} (hG : SH G) (n5 : n ≤ 500) (q : ∀ Z : zX, zMa L n Z E.1 → zLfr X Z → (zqf E.1 = 0 → Z 139 42 = E.2.1 ∧ 0 ≤ E.2.1 ∧ E.2.1 ≤ 20 ∧ ∀ k : Int, 0 ≤ k → k < E.2.1 → zLr E.2.2 (Z 162) k) → M_program_W Q 45 [zR 139, zI p, zT] [] G Z) : ∀ (k : Nat) (A : zLss) (Y : zX), zMa L n Y A.1 → zOk n A.1 → (zqf A.1 ≠ 1 → Y 139 42 = A.2.1 ∧ A.2.1 ≤ zqp A.1 ∧ n ≤ k + zqp A.1) → 0 ≤ A.2.1 → (20 < A.2.1 → zqf A.1 ≠ 0) → (zqf A.1 = 0 → ∀ i : Int, 0 ≤ i → i < A.2.1 → zLr A.2.2 (Y 162) i) → zLfr X Y → zLgl L n k A = E → M_program_W Q 24 [zR 139, zI p, zT] [] G Y := by
  have fin : ∀ (A : zLss) (Y : zX), zMa L n Y A.1 → (zqf A.1 ≠ 1 → Y 139 42 = A.2.1) → 0 ≤ A.2.1 → (20 < A.2.1 → zqf A.1 ≠ 0) → (zqf A.1 = 0 → ∀ i : Int, 0 ≤ i → i < A.2.1 → zLr A.2.2 (Y 162) i) → zLfr X Y → (zqf A.1 ≠ 1 → zqt A.1 = 0) → A = E → M_program_W Q 24 [zR 139, zI p, zT] [] G Y := fun A Y ma h42 c0 c20 rows fr t0 e => by
    subst e
    have g := q Y ma fr (fun f0 => ⟨h42 (by omega), c0, by by_cases k : 20 < A.2.1; exact absurd f0 (c20 k); omega, rows f0⟩)
    rcases ma with ⟨f1, ms, er⟩ | ⟨f1, md⟩
    · exact M_program_f24 hG ⟨fun _ => ⟨fun _ => g, fun t5 => absurd (ms.2.2.1.1 (t0 f1)) t5⟩, fun z => absurd ms.2.2.2.2.2.1 z⟩
    · exact M_program_f24 hG ⟨fun z => absurd z md.1, fun _ => g⟩
  intro k
  induction k with
  | zero =>
    intro A Y ma ok lv c0 c20 rows fr eE
    refine fin A Y ma (fun f1 => (lv f1).1) c0 c20 rows fr (fun f1 => ?_) eE
    have z := (lv f1).2.2
    have := ok.2.2.2.1
    have := ok.2.2.1
    by_cases t0 : zqt A.1 = 0
    · exact t0
    · have := ok.2.2.2.1 t0
      omega
  | succ k ih =>
    intro A Y ma ok lv c0 c20 rows fr eE
    by_cases go : zqt A.1 ≠ 0 ∧ zqf A.1 ≠ 1
    · have e2 : zLgl L n (k + 1) A = zLgl L n k (zLn L n A) := if_pos go
      rw [e2] at eE
      rcases ma with ⟨f1, ms, er⟩ | ⟨f1, md⟩
      · obtain ⟨h42, cp, nk⟩ := lv f1
        have tk := ms.2.2.1
        have tok := ok.2.2.2.2.2.1
        have t5 : Y 139 5 ≠ 0 := by
          unfold zTok at tok
          rcases tok with t | t | t | t | t | t | t | t
          · exact absurd t go.1
          · have := (tk.2.1 t).1; omega
          · have := tk.2.2.1 t; omega
          · have := (tk.2.2.2.1 (Or.inl t)).1; omega
          · have := (tk.2.2.2.1 (Or.inr (Or.inl t))).1; omega
          · have := (tk.2.2.2.1 (Or.inr (Or.inr (Or.inl t)))).1; omega
          · have := (tk.2.2.2.1 (Or.inr (Or.inr (Or.inr t)))).1; omega
          · have := (tk.2.2.2.2 t.1).1; omega
        obtain ⟨s, c, P⟩ := A
        have ok' : zOk n s := ok
        have c0' : 0 ≤ c := c0
        have cp' : c ≤ zqp s := cp
        have c5 : c ≤ 500 := by have := ok'.2.1; have := ok'.2.2.1; omega
        refine M_program_f24 hG ⟨fun _ => ⟨fun z => absurd z t5, fun _ => aLine_M (P := P) (s := s) (c := c) hG f1 ms er ok' h42 c0' c5 c20 (fun Z ma2 h2 g3 g4 _ g6 => ⟨rfl, ?_⟩)⟩, fun z => absurd ms.2.2.2.2.2.1 z⟩
        have cc : (zLn L n (s, c, P)).2.1 = c + 1 := zLn_c
        refine ih (zLn L n (s, c, P)) Z ma2 (zLn_k ok) (fun g1 => ?_) (by rw [cc]; omega) (fun gt f0 => ?_) (fun f0 i i0 i1 => ?_) ⟨fun b b1 b2 b3 => (g3 b b1 b2 b3).trans (fr.1 b b1 b2 b3), fun j j1 j2 => (g4 j j1 j2).trans (fr.2 j j1 j2)⟩ eE
        · have pp := zLn_p (L := L) ok go.1 g1
          have pp' : zqp s < zqp (zLn L n (s, c, P)).1 := pp
          have nk' : n ≤ ((k + 1 : Nat) : Int) + zqp s := nk
          refine ⟨by rw [cc]; exact (h2 g1).1, by rw [cc]; omega, by omega⟩
        · have z := (zLn_0 ok' f0).2.1
          rw [cc] at gt
          omega
        · have z := zLn_0 ok' f0
          rw [cc] at i1
          have hf := (h2 (by rw [f0]; omega)).2 z.2.1
          rw [z.2.2.2.1]
          by_cases ic : i = c
          · rw [ic]
            unfold zLfd at hf
            rw [show 4 * c + 0 = 4 * c by omega] at hf
            exact zLr_n z.2.2.1 z.2.2.2.2 hf.1 hf.2.1 hf.2.2
          · have old : zLr P (Y 162) i := rows z.1 i i0 (by show i < c; omega)
            refine zLr_c old (fun j j0 j1 => ⟨?_, g6 _ (by omega)⟩)
            unfold zLp
            rw [zup_n (by omega), zup_n (by omega), zup_n (by omega), zup_n (by omega)]
      · exact absurd f1 go.2
    · have e2 : zLgl L n (k + 1) A = A := if_neg go
      rw [e2] at eE
      exact fin A Y ma (fun f1 => (lv f1).1) c0 c20 rows fr (fun f1 => by by_cases t0 : zqt A.1 = 0; exact t0; exact absurd ⟨t0, f1⟩ go) eE
theorem copies_M {Q : List zV → zX → Prop} {G : zG} {Z : zX} {a : Int} (hG : SH G) (a0 : 0 ≤ a) (a1 : a < 10) (q : ∀ Y : zX, (∀ b : Int, b ≠ 140 → Y b = Z b) → (∀ i : Int, ¬(2791 + 210 * a ≤ i ∧ i < 2871 + 210 * a) → Y 140 i = Z 140 i) → (∀ i : Int, 0 ≤ i → i < 80 → Y 140 (2791 + 210 * a + i) = Z 162 i) → Q [zI (Z 139 42)] Y) : M_program_W Q 75 [zR 139, zI a, zI 0] [] G Z := by
  have lp : ∀ (d : Nat) (k : Int) (Y : zX), k + d = 80 → 0 ≤ k → (∀ b : Int, b ≠ 140 → Y b = Z b) → (∀ i : Int, ¬(2791 + 210 * a ≤ i ∧ i < 2791 + 210 * a + k) → Y 140 i = Z 140 i) → (∀ i : Int, 0 ≤ i → i < k → Y 140 (2791 + 210 * a + i) = Z 162 i) → M_program_W Q 75 [zR 139, zI a, zI k] [] G Y := by
    intro d
    induction d with
    | zero =>
      intro k Y e k0 f g yi
      refine M_program_f75 hG ⟨fun z => absurd z (by omega), fun _ => ?_⟩
      rw [f 139 (by omega)]
      exact q Y f (fun i hi => g i (by omega)) (fun i i0 i1 => yi i i0 (by omega))
    | succ d ih =>
      intro k Y e k0 f g yi
      refine M_program_f75 hG ⟨fun _ => q_pageAt hG a0 a1 ⟨_, rfl, zw_id (by omega) (by omega), zw_id (by omega) (by omega), k0, by omega, by omega, by omega, zw_id (by omega) (by omega), ?_⟩, fun z => absurd z (by omega)⟩
      rw [f 162 (by omega), show 2670 + 210 * a + 121 + k = 2791 + 210 * a + k by omega]
      refine ih (k + 1) _ (by omega) (by omega) (fun b hb => by rw [zrd_r hb]; exact f b hb) (fun i hi => by rw [zrd_n (by omega)]; exact g i (by omega)) (fun i i0 i1 => ?_)
      by_cases ck : i = k
      · rw [ck, zrd_s]
      · rw [zrd_n (by omega)]
        exact yi i i0 (by omega)
  exact lp 80 0 Z (by omega) (Int.le_refl _) (fun _ _ => rfl) (fun _ _ => rfl) (fun i i0 i1 => absurd i1 (by omega))
theorem program_M {Q : List zV → zX → Prop} {G : zG} {X V : zX} {a : Int} {E : zLss} (hG : SH G) (h : zRT X 1 0) (a0 : 0 ≤ a) (a1 : a < X 1 12) (v140 : V 140 = X 140) (v1 : V 1 = X 1) (eE : zLg0 (X 3) (X 2 1) (X 136) = E)
    (q : ∀ Z : zX, (∀ b : Int, b ≠ 139 → b ≠ 140 → b ≠ 162 → Z b = V b) → (∀ k : Int, k ≠ 6 → k ≠ 7 → k ≠ 8 → ¬(2790 + 210 * a ≤ k ∧ k < 2871 + 210 * a) → Z 140 k = X 140 k) → Z 140 6 = 0 → Z 140 7 = zqf E.1 → Z 140 8 = zqq E.1 → zqf E.1 = 0 → 0 ≤ E.2.1 → E.2.1 ≤ 20 → Z 140 (2790 + 210 * a) = E.2.1 → (∀ k : Int, 0 ≤ k → k < E.2.1 → zLr E.2.2 (fun j => Z 140 (2791 + 210 * a + j)) k) → Q [zI E.2.1] Z)
    (qf : ∀ Z : zX, (∀ b : Int, b ≠ 139 → b ≠ 140 → b ≠ 162 → Z b = V b) → (∀ k : Int, k ≠ 6 → k ≠ 7 → k ≠ 8 → Z 140 k = X 140 k) → Z 140 6 = 0 → Z 140 7 = zqf E.1 → Z 140 8 = zqq E.1 → zqf E.1 ≠ 0 → Q [zI (-1)] Z) : M_program [zR 139, zI a] G V Q := by
  have hp := q_pages h
  have hl : X 140 6 = X 2 1 ∧ 0 ≤ X 2 1 ∧ X 2 1 ≤ 500 := zR_len h
  refine M_program_f0 hG (begins_M hG (fun U m m3 m9 m10 m11 => ⟨rfl, ?_⟩))
  have u1 : U 1 = X 1 := (m.1 1 (by omega) (by omega)).trans v1
  have uA : ∀ i : Int, i ≠ 6 → i ≠ 7 → i ≠ 8 → U 140 i = X 140 i := fun i i6 i7 i8 => by rw [m.2.1 i i6 i7 i8, v140]
  refine q_isPage hG (by rw [uA 1 (by omega) (by omega) (by omega), u1]; exact hp) (fun _ _ => ⟨1, rfl, fun z => absurd z (by omega), fun _ => ?_⟩) (fun z => absurd z (by rw [u1]; omega))
  obtain ⟨W, eW⟩ : ∃ W : zX, W = zst U 139 42 0 := ⟨_, rfl⟩
  rw [← eW]
  have w139 : ∀ k : Int, k ≠ 42 → W 139 k = U 139 k := fun k hk => by rw [eW, zrd_n (by omega)]
  have wb : ∀ b : Int, b ≠ 139 → W b = U b := fun b hb => by rw [eW, zrd_r hb]
  have tp : zTpm W (X 3) (X 2 1) := by
    have z := zTpm_b h (by rw [v140]) (fun j _ _ => by rw [v140]) m
    obtain ⟨t1, t2, t3, t4⟩ := z
    exact ⟨(w139 2 (by omega)).trans t1, t2, t3, fun j j0 j1 => by rw [wb 140 (by omega)]; exact t4 j j0 j1⟩
  refine advance_M hG tp ((w139 3 (by omega)).trans m3) (Int.le_refl _) hl.2.1 (fun Y f y3 y4 yt => ⟨rfl, ?_⟩)
  have s0 : zMs (X 3) (X 2 1) Y (zNx (X 3) (X 2 1) (0, 0, 0, 0, 0, -1)) := ⟨y3, y4, yt, by rw [f.1 140 (by omega), wb 140 (by omega)]; exact m.2.2.2.1, by rw [f.1 140 (by omega), wb 140 (by omega)]; exact m.2.2.2.2.1, ((f.2 9 (by omega)).trans (w139 9 (by omega))).trans m9, zTpm_c tp f⟩
  have ok : zOk (X 2 1) (zNx (X 3) (X 2 1) (0, 0, 0, 0, 0, -1)) := (zNx_ok (Int.le_refl _) hl.2.1 (by show (0 : Int) ≤ 0; omega) (by show (0 : Int) ≤ 4; omega) (by show (-1 : Int) ≤ -1; omega) (by show (-1 : Int) ≤ X 2 1; omega)).1
  have y42 : Y 139 42 = 0 := by rw [f.2 42 (by omega), eW, zrd_s]
  have okp := ok.1
  refine lines_M (X := U) (E := E) hG hl.2.2 (fun Z ma fr hz => ?_) (X 2 1).toNat (zNx (X 3) (X 2 1) (0, 0, 0, 0, 0, -1), 0, X 136) Y (Or.inl ⟨by show (0 : Int) ≠ 1; omega, s0, fun z => absurd rfl z⟩) ok (fun _ => ⟨y42, okp, by show X 2 1 ≤ ((X 2 1).toNat : Int) + zqp (zNx (X 3) (X 2 1) (0, 0, 0, 0, 0, -1)); omega⟩) (Int.le_refl _) (fun z => absurd z (by show ¬((20 : Int) < 0); omega)) (fun _ i i0 i1 => absurd i1 (by show ¬(i < 0); omega)) ⟨fun b b1 b2 b3 => (f.1 b b1).trans (wb b b1), fun k _ _ => by rw [f.1 140 (by omega), wb 140 (by omega)]⟩ eE
  have z7 : Z 140 7 = zqf E.1 ∧ Z 140 8 = zqq E.1 := by
    rcases ma with ⟨g1, mz, _⟩ | ⟨g1, md⟩
    · exact ⟨mz.2.2.2.1, mz.2.2.2.2.1⟩
    · exact ⟨md.2.1.trans g1.symm, md.2.2⟩
  have zV : ∀ b : Int, b ≠ 139 → b ≠ 140 → b ≠ 162 → Z b = V b := fun b b1 b2 b3 => (fr.1 b b1 b2 b3).trans (m.1 b b1 b2)
  have z140 : ∀ k : Int, k ≠ 6 → k ≠ 7 → k ≠ 8 → Z 140 k = X 140 k := fun k k6 k7 k8 => (fr.2 k k7 k8).trans (uA k k6 k7 k8)
  have z6 : Z 140 6 = 0 := (fr.2 6 (by omega) (by omega)).trans m.2.2.1
  refine M_program_f45 hG ?_
  rw [z7.1]
  refine ⟨fun f0 => q_pageAt hG a0 (by omega) ⟨_, rfl, zw_id (by omega) (by omega), by omega, by omega, ?_⟩, fun fn => qf Z zV z140 z6 z7.1 z7.2 fn⟩
  obtain ⟨h42, e0, e20, rows⟩ := hz f0
  rw [h42, show 2670 + 210 * a + 120 = 2790 + 210 * a by omega]
  refine copies_M hG a0 (by omega) (fun C cf cg ci => ?_)
  rw [zrd_r (by omega), h42]
  refine q C (fun b b1 b2 b3 => by rw [cf b b2, zrd_r b2]; exact zV b b1 b2 b3) (fun k k6 k7 k8 k9 => by rw [cg k (by omega), zrd_n (by omega)]; exact z140 k k6 k7 k8) (by rw [cg 6 (by omega), zrd_n (by omega)]; exact z6) (by rw [cg 7 (by omega), zrd_n (by omega)]; exact z7.1) (by rw [cg 8 (by omega), zrd_n (by omega)]; exact z7.2) f0 e0 e20 (by rw [cg _ (by omega), zrd_s]) (fun k k0 k1 => zLr_c (rows k k0 k1) (fun i i0 i1 => ⟨rfl, ?_⟩))
  show C 140 (2791 + 210 * a + (4 * k + i)) = Z 162 (4 * k + i)
  rw [ci _ (by omega) (by omega), zrd_r (by omega)]
theorem op_program {G : zG} {X : zX} {a : Int} (hG : SH G) (h : zRT X 1 0) (hc : zKct G X) : zOp D_program M_program [zI a] [zI a] G X := by
  have hp := q_pages h
  have hh := q_houses h
  have hl : X 140 6 = X 2 1 ∧ 0 ≤ X 2 1 ∧ X 2 1 ≤ 500 := zR_len h
  refine D_program_f0 hG (q_dPage hG (fun c1 c2 => ⟨1, rfl, fun z => absurd z (by omega), fun _ => takeProgram_D hG (zKct_t hc) hl.2.1 hl.2.2 (fun Y r cr c136 cfr st => ⟨_, rfl, ?_⟩)⟩) (fun c => ⟨0, rfl, fun _ => take_D hG (fun Y t => ⟨rfl, M_program_f0 hG (begins_M hG (fun U m _ _ _ _ => ⟨rfl, ?_⟩))⟩), fun z => absurd rfl z⟩))
  · obtain ⟨E, eE⟩ : ∃ E : zLss, zLg0 (X 3) (X 2 1) (X 136) = E := ⟨_, rfl⟩
    rw [eE] at cr c136 st
    have okE : zOk (X 2 1) E.1 := by
      rw [← eE]
      exact zLgl_k _ _ (zNx_ok (Int.le_refl _) hl.2.1 (by show (0 : Int) ≤ 0; omega) (by show (0 : Int) ≤ 4; omega) (by show (-1 : Int) ≤ -1; omega) (by show (-1 : Int) ≤ X 2 1; omega)).1
    have bf := okE.2.2.2.2.2.2.2
    have a10 : a < 10 := by omega
    have ho := zCa_at c1 a10
    have k136 : zk0 136 = 50 := by decide +kernel
    have l136 : zl0 136 = 80 := by decide +kernel
    rcases st with ⟨f0, rfl⟩ | ⟨fn, rfl⟩
    · have cnt : ∀ (k : Nat) (A : zLss), 0 ≤ A.2.1 → 0 ≤ (zLgl (X 3) (X 2 1) k A).2.1 := by
        intro k
        induction k with
        | zero => exact fun A hA => hA
        | succ k ih =>
          intro A hA
          by_cases go : zqt A.1 ≠ 0 ∧ zqf A.1 ≠ 1
          · have e : zLgl (X 3) (X 2 1) (k + 1) A = zLgl (X 3) (X 2 1) k (zLn (X 3) (X 2 1) A) := if_pos go
            rw [e]
            exact ih _ (by rw [zLn_c]; omega)
          · have e : zLgl (X 3) (X 2 1) (k + 1) A = A := if_neg go
            rw [e]
            exact hA
      have e0 : 0 ≤ E.2.1 := by
        rw [← eE]
        exact cnt _ _ (Int.le_refl _)
      refine ⟨fun z => absurd z (by omega), fun _ => ⟨c1, a10, Ca_tellLines_f0 hG ho.2 k136 ⟨by omega, by omega, by rw [l136]; omega, rfl, ?_⟩⟩⟩
      rw [show (4 : Int) + (53 + 5 * a) = 57 + 5 * a by omega]
      obtain ⟨V, eV⟩ : ∃ V : zX, V = zst (zsa Y (57 + 5 * a) (zcpy (Y 136) (Y (57 + 5 * a)) 0 0 80)) (53 + 5 * a) 8 E.2.1 := ⟨_, rfl⟩
      rw [← eV]
      have vA : ∀ b : Int, b ≠ 2 → b ≠ 136 → b ≠ 53 + 5 * a → b ≠ 57 + 5 * a → V b = X b := fun b b2 b3 b4 b5 => by
        rw [eV, zrd_r b4, zsa_n b5]
        exact cfr b b2 b3
      have v53n : ∀ i : Int, i ≠ 8 → V (53 + 5 * a) i = X (53 + 5 * a) i := fun i hi => by
        rw [eV, zrd_n (by omega), zsa_n (by omega), cfr _ (by omega) (by omega)]
      have v53s : V (53 + 5 * a) 8 = E.2.1 := by rw [eV, zrd_s]
      have v57 : ∀ j : Int, 0 ≤ j → j < 80 → V (57 + 5 * a) j = E.2.2 j := fun j j0 j1 => by
        rw [eV, zrd_r (by omega), zsa_s]
        unfold zcpy
        rw [if_pos (by omega), show (0 : Int) + (j - 0) = j by omega, c136]
      have v2 : V 2 = Y 2 := by rw [eV, zrd_r (by omega), zsa_n (by omega)]
      refine program_M hG h c1 c2 (vA 140 (by omega) (by omega) (by omega) (by omega)) (vA 1 (by omega) (by omega) (by omega) (by omega)) eE (fun W wV wB w6 w7 w8 _ _ e20 wcn wrw => ⟨rfl, ?_⟩) (fun Z _ _ _ _ _ fn => absurd f0 fn)
      have wA : ∀ b : Int, b ≠ 2 → b < 103 ∨ b = 141 ∨ 166 ≤ b → b ≠ 53 + 5 * a → b ≠ 57 + 5 * a → W b = X b := fun b b2 hb b4 b5 => (wV b (by omega) (by omega) (by omega)).trans (vA b b2 (by omega) b4 b5)
      have w53n : ∀ i : Int, i ≠ 8 → W (53 + 5 * a) i = X (53 + 5 * a) i := fun i hi => by rw [wV _ (by omega) (by omega) (by omega)]; exact v53n i hi
      have w53s : W (53 + 5 * a) 8 = E.2.1 := by rw [wV _ (by omega) (by omega) (by omega)]; exact v53s
      have w57 : ∀ j : Int, 0 ≤ j → j < 80 → W (57 + 5 * a) j = E.2.2 j := fun j j0 j1 => by rw [wV _ (by omega) (by omega) (by omega)]; exact v57 j j0 j1
      have w2 : W 2 = Y 2 := (wV 2 (by omega) (by omega) (by omega)).trans v2
      refine ⟨?_, ⟨fun b hb => wA b (by omega) (by omega) (by omega) (by omega), fun i hi => wB i (by omega) (by omega) (by omega) (by omega), wA 141 (by omega) (by omega) (by omega) (by omega), fun p i _ _ _ _ => wB _ (by omega) (by omega) (by omega) (by omega), fun p i p0 p1 i0 i1 => wB _ (by omega) (by omega) (by omega) (by rcases Int.lt_trichotomy p a with x | x | x <;> omega), by rw [wA 1 (by omega) (by omega) (by omega) (by omega)], by rw [wA 1 (by omega) (by omega) (by omega) (by omega)], fun p p0 p1 => wA _ (by omega) (by omega) (by omega) (by omega), fun p p0 p1 => wA _ (by omega) (by omega) (by omega) (by omega)⟩⟩
      generalize hT : (fun b i : Int => if (b = 53 + 5 * a ∧ i = 8) ∨ b = 57 + 5 * a ∨ (b = 140 ∧ 2790 + 210 * a ≤ i ∧ i < 2871 + 210 * a) then X b i else W b i) = T
      have tp : ∀ b i : Int, ((b = 53 + 5 * a ∧ i = 8) ∨ b = 57 + 5 * a ∨ (b = 140 ∧ 2790 + 210 * a ≤ i ∧ i < 2871 + 210 * a)) → T b i = X b i := fun b i q => by rw [← hT]; exact if_pos q
      have tn : ∀ b i : Int, ¬((b = 53 + 5 * a ∧ i = 8) ∨ b = 57 + 5 * a ∨ (b = 140 ∧ 2790 + 210 * a ≤ i ∧ i < 2871 + 210 * a)) → T b i = W b i := fun b i q => by rw [← hT]; exact if_neg q
      have tR : zRT T 1 0 := by
        refine zTd_RT (f := zqf E.1) (p := zqq E.1) h (fun b i r ne => ?_) ?_ ?_ ?_ ?_ ?_ ?_ ⟨bf.1, bf.2.1⟩ ⟨bf.2.2.1, by have := bf.2.2.2; omega⟩
        · by_cases q : (b = 53 + 5 * a ∧ i = 8) ∨ b = 57 + 5 * a ∨ (b = 140 ∧ 2790 + 210 * a ≤ i ∧ i < 2871 + 210 * a)
          · exact tp b i q
          · rw [tn b i q]
            by_cases q1 : b = 53 + 5 * a
            · rw [q1]
              exact w53n i (by omega)
            · by_cases q3 : b = 140
              · rw [q3]
                exact wB i (by omega) (by omega) (by omega) (by omega)
              · rw [wA b (by omega) (by omega) q1 (by omega)]
        · rw [tn 2 1 (by omega), w2]
          exact cr.2.2.2.2.2.2.2.1
        · rw [tn 140 6 (by omega)]
          exact w6
        · rw [tn 2 2 (by omega), w2]
          exact cr.2.2.2.2.1
        · rw [tn 140 7 (by omega)]
          exact w7
        · rw [tn 2 3 (by omega), w2]
          exact cr.2.2.2.2.2.1
        · rw [tn 140 8 (by omega)]
          exact w8
      have e53 : (1 : Int) + 52 + 5 * a = 53 + 5 * a := by omega
      have e57 : (1 : Int) + 56 + 5 * a = 57 + 5 * a := by omega
      refine zV_lin tR c1 a10 (fun b i _ ne => (tn b i (by omega)).symm) ?_ (fun j j0 j20 j2 => ?_)
      · rw [e53, w53s, show (0 : Int) + 2790 + 210 * a = 2790 + 210 * a by omega, wcn]
        omega
      · rw [e53, w53s] at j2
        have g := wrw j j0 j2
        have g2 : zLr (W (57 + 5 * a)) (fun i => W 140 (2791 + 210 * a + i)) j := zLr_c g (fun i i0 i1 => ⟨w57 _ (by omega) (by omega), rfl⟩)
        unfold zLr at g2
        rw [e57, show (0 : Int) + 2791 + 210 * a + 4 * j = 2791 + 210 * a + 4 * j by omega, show (0 : Int) + 2792 + 210 * a + 4 * j = 2791 + 210 * a + (4 * j + 1) by omega, show (0 : Int) + 2793 + 210 * a + 4 * j = 2791 + 210 * a + (4 * j + 2) by omega, show (0 : Int) + 2794 + 210 * a + 4 * j = 2791 + 210 * a + (4 * j + 3) by omega]
        exact g2
    · refine ⟨fun _ => program_M hG h c1 c2 (cfr 140 (by omega) (by omega)) (cfr 1 (by omega) (by omega)) eE (fun Z _ _ _ _ _ f0 _ _ _ _ => absurd f0 fn) (fun Z zV z140 z6 z7 z8 _ => ⟨rfl, ?_⟩), fun z => absurd rfl z⟩
      have z2 : Z 2 = Y 2 := zV 2 (by omega) (by omega) (by omega)
      exact zFlt h (fun b b2 b4 hb => (zV b (by omega) (by omega) (by omega)).trans (cfr b b2 (by omega))) z140 (by rw [z2]; exact cr.2.2.2.2.2.2.2.1) z6 (by rw [z2]; exact cr.2.2.2.2.1) z7 (by rw [z2]; exact cr.2.2.2.2.2.1) z8 ⟨bf.1, bf.2.1⟩ ⟨bf.2.2.1, by have := bf.2.2.2; omega⟩
  · have u1 : U 1 = X 1 := (m.1 1 (by omega) (by omega)).trans (t.1 1 (by omega))
    refine q_isPage hG (by rw [m.2.1 1 (by omega) (by omega) (by omega), t.1 140 (by omega), u1]; exact hp) (fun c3 c4 => absurd c (by rw [u1] at c4; omega)) (fun _ => ⟨0, rfl, fun _ => ⟨rfl, zTt h t m (by omega) (by omega)⟩, fun z => absurd rfl z⟩)
