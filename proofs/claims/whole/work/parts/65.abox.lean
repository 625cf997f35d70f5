/-! ===== without a FAULT ===== -/
theorem zWg_0 {w : Int} {s : zPst} (w0 : w ≠ 0) (h : zqf (zWg w s) = 0) : False := by
  have t := zWg_t (w := w) (s := s)
  by_cases c : zqf s = 0
  · have := (t.2.2.2.2.1 c).1
    omega
  · rw [t.2.2.2.2.2 c] at h
    exact c h
theorem zRdn_0 {L : Int → Int} {n most : Int} {s : zPst} (h : zqf (zRdn L n most s).2 = 0) : zqf s = 0 ∧ zqt s = 1 ∧ zqv s ≤ most ∧ (zRdn L n most s).1 = zqv s := by
  unfold zRdn at h ⊢
  by_cases c : zqt s = 1
  · rw [if_pos c] at h ⊢
    by_cases d : most < zqv s
    · rw [if_pos d] at h
      exact absurd (zWg_0 (by omega) h) (fun z => z)
    · rw [if_neg d] at h
      exact ⟨h, c, by omega, rfl⟩
  · rw [if_neg c] at h
    have z : zqf (zSu s) = 0 := h
    rw [zSu_f] at z
    omega
theorem zH1_0 {L : Int → Int} {n : Int} {s : zPst} (ok : zOk n s) (h : zqf (zH1 L n s).2 = 0) : zqf s = 0 ∧ 0 ≤ (zH1 L n s).1 ∧ (zH1 L n s).1 ≤ 9 := by
  unfold zH1 at h ⊢
  by_cases c : zqt s = 1
  · rw [if_pos c] at h ⊢
    have z := zRdn_0 h
    rw [z.2.2.2]
    exact ⟨z.1, (ok.2.2.2.2.2.2.1 c).1, z.2.2.1⟩
  · rw [if_neg c] at h ⊢
    exact ⟨h, by show (0 : Int) ≤ 0; omega, by show (0 : Int) ≤ 9; omega⟩
theorem zH2_0 {L : Int → Int} {n : Int} {s : zPst} (ok : zOk n s) (h : zqf (zH2 L n s).2 = 0) : zqf s = 0 ∧ -1 ≤ (zH2 L n s).1 ∧ (zH2 L n s).1 ≤ 3 := by
  unfold zH2 at h ⊢
  by_cases c : zqt s = 264
  · rw [if_pos c] at h ⊢
    have z := zRdn_0 h
    rw [z.2.2.2]
    have y := ((zNx_k (L := L) ok).1.2.2.2.2.2.2.1 z.2.1).1
    exact ⟨z.1, by omega, z.2.2.1⟩
  · rw [if_neg c] at h ⊢
    exact ⟨h, by show (-1 : Int) ≤ -1; omega, by show (-1 : Int) ≤ 3; omega⟩
theorem zH3_0 {L : Int → Int} {n : Int} {s : zPst} (ok : zOk n s) (h : zqf (zH3 L n s).2 = 0) : zqf s = 0 ∧ 0 ≤ (zH3 L n s).1 ∧ (zH3 L n s).1 ≤ 99 := by
  unfold zH3 at h ⊢
  by_cases c : zqt s = 265
  · rw [if_pos c] at h ⊢
    have z := zRdn_0 h
    rw [z.2.2.2]
    have y := ((zNx_k (L := L) ok).1.2.2.2.2.2.2.1 z.2.1).1
    exact ⟨z.1, y, z.2.2.1⟩
  · rw [if_neg c] at h ⊢
    exact ⟨h, by show (0 : Int) ≤ 0; omega, by show (0 : Int) ≤ 99; omega⟩
theorem zB1_0 {c d : Int} {s : zPst} (h : zqf (zB1 c d s) = 0) : zNew c d s := by
  unfold zB1 at h
  by_cases e : 14 ≤ c
  · rw [if_pos e] at h
    exact absurd (zWg_0 (by omega) h) (fun z => z)
  · rw [if_neg e] at h
    by_cases g : 6 ≤ d
    · rw [if_pos g] at h
      exact absurd (zWg_0 (by omega) h) (fun z => z)
    · rw [if_neg g] at h
      exact ⟨by omega, by omega, h⟩
theorem zSx5_0 {L : Int → Int} {n c d : Int} {s : zPst} (ok : zOk n s) (h : zqf (zSx5 L n c d s) = 0) : zNew c d s ∧ (0 ≤ (zH1 L n (zSx2 L n c d s)).1 ∧ (zH1 L n (zSx2 L n c d s)).1 ≤ 9) ∧ (-1 ≤ (zH2 L n (zSx3 L n c d s)).1 ∧ (zH2 L n (zSx3 L n c d s)).1 ≤ 3) ∧ (0 ≤ (zH3 L n (zSx4 L n c d s)).1 ∧ (zH3 L n (zSx4 L n c d s)).1 ≤ 99) := by
  have ok1 : zOk n (zB1 c d s) := zB1_k ok
  have ok2 : zOk n (zSx2 L n c d s) := (zNx_k ok1).1
  have ok3 : zOk n (zSx3 L n c d s) := zH1_k ok2
  have ok4 : zOk n (zSx4 L n c d s) := zH2_k ok3
  have h5 := zH3_0 ok4 h
  have h4 := zH2_0 ok3 h5.1
  have h3 := zH1_0 ok2 h4.1
  exact ⟨zB1_0 h3.1, h3.2, h4.2, h5.2⟩
/-- a BOX read without a FAULT -/
theorem zBx_0 {L I R : Int → Int} {n d c : Int} {s : zPst} (ok : zOk n s) (h : zqf (zBx L n (s, d, c, I, R)).1 = 0) : (256 ≤ zqt s ∧ zqt s < 264) ∧ zqf (zSx5 L n c d s) = 0 ∧ (zBx L n (s, d, c, I, R)).2.2.1 = c + 1 ∧ (zBx L n (s, d, c, I, R)).2.2.2.2 = zBrw L n c d I R s ∧ ((zqt (zSx5 L n c d s) = 40 ∧ (zBx L n (s, d, c, I, R)).2.1 = d + 1 ∧ (zBx L n (s, d, c, I, R)).2.2.2.1 = zup I d c) ∨ (zqt (zSx5 L n c d s) = 59 ∧ (zBx L n (s, d, c, I, R)).2.1 = d ∧ (zBx L n (s, d, c, I, R)).2.2.2.1 = I)) := by
  unfold zBx at h ⊢
  by_cases wd : 256 ≤ zqt s ∧ zqt s < 264
  · rw [if_pos wd] at h ⊢
    by_cases t40 : zqt (zSx5 L n c d s) = 40
    · rw [if_pos t40] at h ⊢
      have f5 : zqf (zSx5 L n c d s) = 0 := h
      have nw := (zSx5_0 ok f5).1
      refine ⟨wd, f5, ?_, rfl, Or.inl ⟨t40, rfl, ?_⟩⟩
      · show (if zNew c d s then c + 1 else c) = c + 1
        rw [if_pos nw]
      · show (if d < 6 then zup I d (if zNew c d s then c else -1) else I) = zup I d c
        rw [if_pos nw.2.1, if_pos nw]
    · rw [if_neg t40] at h ⊢
      have h2 : zqf (zXp L n 59 (zSx5 L n c d s)) = 0 := h
      unfold zXp at h2
      by_cases t59 : zqt (zSx5 L n c d s) = 59
      · rw [if_pos t59] at h2
        have f5 : zqf (zSx5 L n c d s) = 0 := h2
        have nw := (zSx5_0 ok f5).1
        refine ⟨wd, f5, ?_, rfl, Or.inr ⟨t59, rfl, rfl⟩⟩
        show (if zNew c d s then c + 1 else c) = c + 1
        rw [if_pos nw]
      · rw [if_neg t59, zSu_f] at h2
        omega
  · rw [if_neg wd] at h
    have h2 : zqf (zSu s) = 0 := h
    rw [zSu_f] at h2
    omega
/-! ===== a BOX read by the reference ===== -/
def zFm (X Z : zX) : Prop := (∀ b : Int, b ≠ 139 → b ≠ 140 → b ≠ 142 → b ≠ 143 → Z b = X b) ∧ (∀ k : Int, k ≠ 7 → k ≠ 8 → Z 140 k = X 140 k) ∧ (∀ k : Int, k < 3 ∨ 11 < k → Z 139 k = X 139 k)
theorem zFm_r (X : zX) : zFm X X := ⟨fun _ _ _ _ _ => rfl, fun _ _ _ => rfl, fun _ _ => rfl⟩
theorem zFm_t {X Y Z : zX} (h : zFm X Y) (g : zFm Y Z) : zFm X Z := ⟨fun b a c d e => (g.1 b a c d e).trans (h.1 b a c d e), fun k a c => (g.2.1 k a c).trans (h.2.1 k a c), fun k a => (g.2.2 k a).trans (h.2.2 k a)⟩
theorem zFm_f {X Y : zX} (h : zTf X Y) : zFm X Y := ⟨fun b a c _ _ => h.1 b a c, h.2.1, fun k a => h.2.2 k (by omega)⟩
theorem zFm_w {X Y : zX} {a j v : Int} (h : zFm X Y) (ok : a = 142 ∨ a = 143 ∨ (a = 139 ∧ 3 ≤ j ∧ j ≤ 11)) : zFm X (zst Y a j v) := ⟨fun b b1 b2 b3 b4 => by rw [zrd_r (by omega)]; exact h.1 b b1 b2 b3 b4, fun k a c => by rw [zrd_n (by omega)]; exact h.2.1 k a c, fun k a => by rw [zrd_n (by omega)]; exact h.2.2 k a⟩
def zMb (L : Int → Int) (n : Int) (Z : zX) (B : zB) : Prop := zqf B.1 ≠ 1 ∧ zMs L n Z B.1 ∧ zEar B.1 ∧ zOk n B.1 ∧ (0 ≤ B.2.2.1 ∧ B.2.2.1 ≤ 14) ∧ 0 ≤ B.2.1 ∧ Z 139 11 = B.2.1 ∧ B.2.1 ≤ zqp B.1 ∧ 0 ≤ Z 139 10 ∧ Z 139 10 ≤ zqp B.1 ∧ (zqf B.1 = 0 → Z 139 10 = B.2.2.1 ∧ B.2.1 ≤ 6 ∧ (∀ j : Int, 0 ≤ j → j < B.2.1 → Z 142 j = B.2.2.2.1 j) ∧ (∀ k j : Int, 0 ≤ k → k < B.2.2.1 → 0 ≤ j → j < 5 → Z 143 (1 + 5 * k + j) = B.2.2.2.2 (5 * k + j)))
theorem zMa_c {L : Int → Int} {n : Int} {Z Y : zX} {s : zPst} (h : zMa L n Z s) (e : ∀ k : Int, 2 ≤ k → k ≤ 9 → Y 139 k = Z 139 k) (e0 : Y 140 = Z 140) : zMa L n Y s := by
  rcases h with ⟨f1, h, er⟩ | ⟨f1, h⟩
  · exact Or.inl ⟨f1, zMs_c h e e0, er⟩
  · exact Or.inr ⟨f1, zMd_c h (e 9 (by omega) (by omega)) e0⟩
theorem aBox_M {Q : List zV → zX → Prop} {G : zG} {Z : zX} {L I R : Int → Int} {n d c : Int} {s : zPst} (hG : SH G) (n5 : n ≤ 500) (h : zMb L n Z (s, d, c, I, R))
    (qa : ∀ Y : zX, zFm Z Y → zMb L n Y (zBx L n (s, d, c, I, R)) → M_aBox_W Q 320 [zR 139, zT, zT] [] G Y)
    (qd : ∀ Y : zX, zFm Z Y → zqf (zBx L n (s, d, c, I, R)).1 = 1 → zMd Y (zBx L n (s, d, c, I, R)).1 → Q [] Y) : M_aBox [zR 139] G Z Q := by
  obtain ⟨f1, ms, er, ok, cb, d0, h11, d1, b0, b1, rows⟩ := h
  have f1' : zqf s ≠ 1 := f1
  have ms' : zMs L n Z s := ms
  have er' : zEar s := er
  have ok' : zOk n s := ok
  have cb' : 0 ≤ c ∧ c ≤ 14 := cb
  have d0' : 0 ≤ d := d0
  have h11' : Z 139 11 = d := h11
  have d1' : d ≤ zqp s := d1
  have b1' : Z 139 10 ≤ zqp s := b1
  have rows' : zqf s = 0 → Z 139 10 = c ∧ d ≤ 6 ∧ (∀ j : Int, 0 ≤ j → j < d → Z 142 j = I j) ∧ (∀ k j : Int, 0 ≤ k → k < c → 0 ≤ j → j < 5 → Z 143 (1 + 5 * k + j) = R (5 * k + j)) := rows
  have tk := ms'.2.2.1
  have tok := ok'.2.2.2.2.2.1
  have h9 : Z 139 9 = 0 := ms'.2.2.2.2.2.1
  have pn : zqp s ≤ 500 := by have := ok'.2.1; have := ok'.2.2.1; omega
  have wo7 : ∀ w : Int, zWo w ≤ 7 → 0 ≤ w → w < 8 := fun w hw w0 => by
    unfold zWo at hw
    by_cases c1 : w = 10
    · rw [if_pos c1] at hw
      omega
    · rw [if_neg c1] at hw
      by_cases c2 : w = 11
      · rw [if_pos c2] at hw
        omega
      · rw [if_neg c2] at hw
        omega
  have wo8 : ∀ w : Int, w < 8 → zWo w = w := fun w hw => by
    unfold zWo
    rw [if_neg (by omega), if_neg (by omega)]
  have t3 : Z 139 5 = 3 → 256 ≤ zqt s := fun t5 => by
    unfold zTok at tok
    rcases tok with t | t | t | t | t | t | t | t
    · have := tk.1 t; omega
    · have := (tk.2.1 t).1; omega
    · have := tk.2.2.1 t; omega
    · have := (tk.2.2.2.1 (Or.inl t)).1; omega
    · have := (tk.2.2.2.1 (Or.inr (Or.inl t))).1; omega
    · have := (tk.2.2.2.1 (Or.inr (Or.inr (Or.inl t)))).1; omega
    · have := (tk.2.2.2.1 (Or.inr (Or.inr (Or.inr t)))).1; omega
    · exact t.1
  by_cases wd : 256 ≤ zqt s ∧ zqt s < 264
  · have w8 := (tk.2.2.2.2 wd.1)
    have ok1 : zOk n (zB1 c d s) := zB1_k ok'
    have ok2 : zOk n (zSx2 L n c d s) := (zNx_k ok1).1
    have ok3 : zOk n (zSx3 L n c d s) := zH1_k ok2
    have ok4 : zOk n (zSx4 L n c d s) := zH2_k ok3
    have ok5 : zOk n (zSx5 L n c d s) := zH3_k ok4
    have b1t : zqt (zB1 c d s) = zqt s ∧ zqp (zB1 c d s) = zqp s ∧ zqa (zB1 c d s) = zqa s := by
      unfold zB1
      by_cases e : 14 ≤ c
      · rw [if_pos e]
        exact ⟨zWg_t.1, zWg_t.2.1, zWg_t.2.2.1⟩
      · rw [if_neg e]
        by_cases g : 6 ≤ d
        · rw [if_pos g]
          exact ⟨zWg_t.1, zWg_t.2.1, zWg_t.2.2.1⟩
        · rw [if_neg g]
          exact ⟨rfl, rfl, rfl⟩
    have b1f : zqf (zB1 c d s) ≠ 1 ∧ (zqf (zB1 c d s) ≠ 0 → zqq (zB1 c d s) ≤ zqp (zB1 c d s)) := by
      have wg : ∀ w : Int, w ≠ 1 → zqf (zWg w s) ≠ 1 ∧ (zqf (zWg w s) ≠ 0 → zqq (zWg w s) ≤ zqp (zWg w s)) := fun w w1 => by
        have t := zWg_t (w := w) (s := s)
        by_cases f0 : zqf s = 0
        · have y := t.2.2.2.2.1 f0
          rw [y.1, y.2, t.2.1]
          exact ⟨w1, fun _ => Int.le_refl _⟩
        · rw [t.2.2.2.2.2 f0]
          exact ⟨f1', fun g => Int.le_of_lt (er' g)⟩
      unfold zB1
      by_cases e : 14 ≤ c
      · rw [if_pos e]
        exact wg 3 (by omega)
      · rw [if_neg e]
        by_cases g : 6 ≤ d
        · rw [if_pos g]
          exact wg 4 (by omega)
        · rw [if_neg g]
          exact ⟨f1', fun g => Int.le_of_lt (er' g)⟩
    obtain ⟨b, eb⟩ : ∃ b : Int, b = (if Z 139 10 < 14 then Z 139 10 else 13) := ⟨_, rfl⟩
    have bb : 0 ≤ b ∧ b ≤ 13 := by
      by_cases e : Z 139 10 < 14
      · rw [if_pos e] at eb
        omega
      · rw [if_neg e] at eb
        omega
    have nb : zNew c d s → b = c := fun nw => by
      have y := (rows' nw.2.2).1
      rw [if_pos (by have := nw.1; omega)] at eb
      omega
    have a1 := zNx_k (L := L) ok1
    have pa : zqp s < zqp (zSx2 L n c d s) := by
      have x := a1.2
      rw [b1t.2.2] at x
      have y := ok'.2.2.2.1 (by omega)
      show zqp s < zqp (zNx L n (zB1 c d s))
      omega
    -- places do not go back
    have rd : ∀ (most : Int) (u : zPst), zOk n u → zqp u ≤ zqp (zRdn L n most u).2 := fun most u hu => by
      unfold zRdn
      by_cases c1 : zqt u = 1
      · rw [if_pos c1]
        by_cases c2 : most < zqv u
        · rw [if_pos c2]
          have z := zNx_k (L := L) (zWg_k hu (by omega : (0 : Int) ≤ 2) (by omega))
          have y := zWg_t (w := 2) (s := u)
          have x := z.2
          rw [y.2.2.1] at x
          exact Int.le_trans hu.2.1 x
        · rw [if_neg c2]
          exact Int.le_trans hu.2.1 (zNx_k (L := L) hu).2
      · rw [if_neg c1]
        unfold zSu
        by_cases c3 : zqf u = 1
        · rw [if_pos c3]
          exact Int.le_refl _
        · rw [if_neg c3]
          exact Int.le_refl _
    have p3 : zqp (zSx2 L n c d s) ≤ zqp (zSx3 L n c d s) := by
      unfold zSx3 zH1
      by_cases e : zqt (zSx2 L n c d s) = 1
      · rw [if_pos e]
        exact rd 9 _ ok2
      · rw [if_neg e]
        exact Int.le_refl _
    have p4 : zqp (zSx3 L n c d s) ≤ zqp (zSx4 L n c d s) := by
      unfold zSx4 zH2
      by_cases e : zqt (zSx3 L n c d s) = 264
      · rw [if_pos e]
        exact Int.le_trans (Int.le_trans ok3.2.1 (zNx_k (L := L) ok3).2) (rd 3 _ (zNx_k ok3).1)
      · rw [if_neg e]
        exact Int.le_refl _
    have p5 : zqp (zSx4 L n c d s) ≤ zqp (zSx5 L n c d s) := by
      unfold zSx5 zH3
      by_cases e : zqt (zSx4 L n c d s) = 265
      · rw [if_pos e]
        exact Int.le_trans (Int.le_trans ok4.2.1 (zNx_k (L := L) ok4).2) (rd 99 _ (zNx_k ok4).1)
      · rw [if_neg e]
        exact Int.le_refl _
    -- what stays beside the rows
    have keep : ∀ Y : zX, zTf Z Y → zFm Z Y := fun Y f => zFm_f f
    -- the end
    have f310 : ∀ (Y : zX) (B' : zB), zBx L n (s, d, c, I, R) = B' → zFm Z Y → zqf B'.1 ≠ 1 → zMs L n Y B'.1 → zEar B'.1 → zOk n B'.1 → zqp (zSx5 L n c d s) < zqp B'.1 → Y 139 11 = B'.2.1 → B'.2.1 ≤ d + 1 → Y 139 10 = Z 139 10 → (zqf B'.1 = 0 → (∀ j : Int, 0 ≤ j → j < B'.2.1 → Y 142 j = B'.2.2.2.1 j) ∧ (∀ j : Int, j < 1 + 5 * c → Y 143 j = Z 143 j) ∧ (∀ j : Int, 0 ≤ j → j < 5 → Y 143 (1 + 5 * c + j) = zBrw L n c d I R s (5 * c + j))) → M_aBox_W Q 310 [zR 139, zT, zT] [] G Y := fun Y B' eB f g1 gs ge gk gp g11 gd g10 gr => by
      refine M_aBox_f310 hG ?_
      rw [g10]
      have bk := zBx_k (L := L) (I := I) (R := R) (d := d) (c := c) ok' cb'.1 cb'.2 d0'
      rw [eB] at bk
      refine ⟨zw_id (by omega) (by omega), qa _ (zFm_w f (by omega)) ?_⟩
      rw [eB]
      refine ⟨g1, zMs_c gs (fun k k0 k1 => by rw [zrd_n (by omega)]) (zrd_r (by omega)), ge, gk, ⟨bk.2.1, bk.2.2.1⟩, by have := bk.2.2.2.1.1; omega, by rw [zrd_n (by omega)]; exact g11, by omega, by rw [zrd_s]; omega, by rw [zrd_s]; omega, fun f0 => ?_⟩
      have z0 : zqf (zBx L n (s, d, c, I, R)).1 = 0 := by rw [eB]; exact f0
      have y := zBx_0 ok' z0
      have nw := (zSx5_0 ok' y.2.1).1
      have r0 := rows' nw.2.2
      rw [eB] at y
      have g := gr f0
      refine ⟨by rw [zrd_s, y.2.2.1]; omega, by have := nw.2.1; omega, fun j j0 j1 => by rw [zrd_r (by omega)]; exact g.1 j j0 j1, fun k j k0 k1 j0 j1 => ?_⟩
      rw [zrd_r (by omega), y.2.2.2.1]
      rw [y.2.2.1] at k1
      by_cases ck : k = c
      · rw [ck]
        exact g.2.2 j j0 j1
      · rw [g.2.1 (1 + 5 * k + j) (by omega), r0.2.2.2 k j k0 (by omega) j0 j1]
        unfold zBrw
        rw [if_pos nw, zup_n (by omega), zup_n (by omega), zup_n (by omega), zup_n (by omega), zup_n (by omega)]
    -- what the rows hold behind the head
    have f245 : ∀ Y : zX, zFm Z Y → zMa L n Y (zSx5 L n c d s) → Y 139 11 = d → Y 139 10 = Z 139 10 → Y 142 = Z 142 → (zqf (zSx5 L n c d s) = 0 → (∀ j : Int, j < 1 + 5 * c → Y 143 j = Z 143 j) ∧ (∀ j : Int, 0 ≤ j → j < 5 → Y 143 (1 + 5 * c + j) = zBrw L n c d I R s (5 * c + j))) → M_aBox_W Q 245 [zR 139, zT, zT] [] G Y := fun Y f ma g11 g10 g2 gr => by
      have f270 : ∀ (V : zX) (x : Int), zFm Z V → zMs L n V (zSx5 L n c d s) → zEar (zSx5 L n c d s) → zqf (zSx5 L n c d s) ≠ 1 → V = Y → ((x = 1 ∧ zqt (zSx5 L n c d s) = 40) ∨ (x = 0 ∧ zqt (zSx5 L n c d s) = 59)) → M_aBox_W Q 270 [zR 139, zT, zI x] [] G V := fun V x fv mv ev v1 eV hx => by
        rw [eV] at fv mv ⊢
        have n5' := zNx_k (L := L) ok5
        refine M_aBox_f270 hG (adv_M hG mv (by have := ok5.1; have := ok5.2.1; omega) ok5.2.2.1 (fun U fu mu => ⟨rfl, ?_⟩))
        have u11 : U 139 11 = d := (fu.2.2 11 (by omega)).trans g11
        have u10 : U 139 10 = Z 139 10 := (fu.2.2 10 (by omega)).trans g10
        have u2 : U 142 = Z 142 := (fu.1 142 (by omega) (by omega)).trans g2
        have u3 : U 143 = Y 143 := fu.1 143 (by omega) (by omega)
        have t0 : zqt (zSx5 L n c d s) ≠ 0 := by omega
        have eu : zEar (zNx L n (zSx5 L n c d s)) := zEar_n ok5 t0 (fun g => Int.le_of_lt (ev g))
        have pu : zqp (zSx5 L n c d s) < zqp (zNx L n (zSx5 L n c d s)) := by
          have y := ok5.2.2.2.1 t0
          have x := n5'.2
          omega
        rcases hx with ⟨hx, tx⟩ | ⟨hx, tx⟩
        · have e : zBx L n (s, d, c, I, R) = (zNx L n (zSx5 L n c d s), d + 1, (if zNew c d s then c + 1 else c), (if d < 6 then zup I d (if zNew c d s then c else -1) else I), zBrw L n c d I R s) := (if_pos wd).trans (if_pos tx)
          refine ⟨fun z => absurd z (by omega), fun _ => ?_⟩
          rw [u11, u10]
          refine ⟨fun lt => ⟨d0', by omega, M_aBox_f300 hG ?_⟩, fun ge => M_aBox_f300 hG ?_⟩
          · rw [show zst U 142 d (Z 139 10) 139 11 = d by rw [zrd_r (by omega)]; exact u11]
            refine ⟨zw_id (by omega) (by omega), f310 _ _ e (zFm_w (zFm_w (zFm_t fv (zFm_f fu)) (by omega)) (by omega)) v1 (zMs_c mu (fun k k0 k1 => by rw [zrd_n (by omega), zrd_r (by omega)]) (by rw [zrd_r (by omega), zrd_r (by omega)])) eu n5'.1 pu (zrd_s _ _ _ _) (Int.le_refl _) (by rw [zrd_n (by omega), zrd_r (by omega)]; exact u10) (fun f0 => ?_)⟩
            have nw := (zSx5_0 ok' f0).1
            have r0 := rows' nw.2.2
            have g := gr f0
            refine ⟨fun j j0 j1 => ?_, fun j j1 => ?_, fun j j0 j1 => ?_⟩
            · show zst (zst U 142 d (Z 139 10)) 139 11 (d + 1) 142 j = (if d < 6 then zup I d (if zNew c d s then c else -1) else I) j
              rw [zrd_r (by omega), if_pos nw.2.1, if_pos nw]
              by_cases jd : j = d
              · rw [jd, zrd_s, zup_s, r0.1]
              · rw [zrd_n (Or.inr jd), zup_n jd, u2]
                have j1' : j < d + 1 := j1
                exact r0.2.2.1 j j0 (by omega)
            · rw [zrd_r (by omega), zrd_r (by omega), u3]
              exact g.1 j j1
            · rw [zrd_r (by omega), zrd_r (by omega), u3]
              exact g.2 j j0 j1
          · rw [u11]
            refine ⟨zw_id (by omega) (by omega), f310 _ _ e (zFm_w (zFm_t fv (zFm_f fu)) (by omega)) v1 (zMs_c mu (fun k k0 k1 => by rw [zrd_n (by omega)]) (zrd_r (by omega))) eu n5'.1 pu (zrd_s _ _ _ _) (Int.le_refl _) (by rw [zrd_n (by omega)]; exact u10) (fun f0 => ?_)⟩
            have nw := (zSx5_0 ok' f0).1
            have := nw.2.1
            omega
        · have e : zBx L n (s, d, c, I, R) = (zXp L n 59 (zSx5 L n c d s), d, (if zNew c d s then c + 1 else c), I, zBrw L n c d I R s) := (if_pos wd).trans (if_neg (fun z => by have z2 : zqt (zSx5 L n c d s) = 40 := z; omega))
          have e2 : zXp L n 59 (zSx5 L n c d s) = zNx L n (zSx5 L n c d s) := if_pos tx
          rw [e2] at e
          refine ⟨fun _ => f310 U _ e (zFm_t fv (zFm_f fu)) v1 mu eu n5'.1 pu u11 (by show d ≤ d + 1; omega) u10 (fun f0 => ?_), fun z => absurd hx z⟩
          have nw := (zSx5_0 ok' f0).1
          have r0 := rows' nw.2.2
          have g := gr f0
          refine ⟨fun j j0 j1 => by rw [u2]; exact r0.2.2.1 j j0 j1, fun j j1 => by rw [u3]; exact g.1 j j1, fun j j0 j1 => by rw [u3]; exact g.2 j j0 j1⟩
      refine M_aBox_f245 hG (isSign_Ma hG ma ok5 (by omega) (fun v1 mv ev t40 => ⟨1, rfl, fun z => absurd z (by omega), fun _ => f270 Y 1 f mv ev v1 rfl (Or.inl ⟨rfl, t40⟩)⟩) (fun n40 => ⟨0, rfl, fun _ => isSign_Ma hG ma ok5 (by omega) (fun v1 mv ev t59 => ⟨1, rfl, fun z => absurd z (by omega), fun _ => f270 Y 0 f mv ev v1 rfl (Or.inr ⟨rfl, t59⟩)⟩) (fun n59 => ⟨0, rfl, fun _ => ?_, fun z => absurd rfl z⟩), fun z => absurd rfl z⟩))
      rcases ma with ⟨v1, mv, ev⟩ | ⟨v1, mv⟩
      · have e : zBx L n (s, d, c, I, R) = (zXp L n 59 (zSx5 L n c d s), d, (if zNew c d s then c + 1 else c), I, zBrw L n c d I R s) := (if_pos wd).trans (if_neg (n40 v1))
        have e2 : zXp L n 59 (zSx5 L n c d s) = zSu (zSx5 L n c d s) := if_neg (n59 v1)
        rw [e2] at e
        rw [e] at qd
        exact ends_M hG mv v1 (fun U fu md => ⟨rfl, qd U (zFm_t f (zFm_f fu)) zSu_f md⟩)
      · have fd : zqf (zBx L n (s, d, c, I, R)).1 = 1 ∧ zqq (zBx L n (s, d, c, I, R)).1 = zqq (zSx5 L n c d s) := by
          unfold zBx
          rw [if_pos wd]
          by_cases t40 : zqt (zSx5 L n c d s) = 40
          · rw [if_pos t40]
            exact ⟨v1, rfl⟩
          · rw [if_neg t40]
            exact zXp_d v1
        refine ends_Md hG mv ⟨rfl, qd Y f fd.1 ?_⟩
        unfold zMd at mv ⊢
        rw [fd.2]
        exact mv
    -- the day
    have f218 : ∀ Y : zX, zFm Z Y → zMa L n Y (zSx4 L n c d s) → Y 139 11 = d → Y 139 10 = Z 139 10 → Y 142 = Z 142 → (zqf (zSx4 L n c d s) = 0 → (∀ j : Int, j < 1 + 5 * c → Y 143 j = Z 143 j) ∧ Y 143 (1 + 5 * c + 4) = 0 ∧ (∀ j : Int, 0 ≤ j → j < 4 → Y 143 (1 + 5 * c + j) = zBrw L n c d I R s (5 * c + j))) → M_aBox_W Q 218 [zR 139, zI (1 + 5 * b), zT] [] G Y := fun Y f ma g11 g10 g2 gr => by
      refine M_aBox_f218 hG (isWord_Ma hG ma ok4 (by omega) (by omega) (fun v1 mv ev t => ⟨1, rfl, fun z => absurd z (by omega), fun _ => ?_⟩) (fun nt => ⟨0, rfl, fun _ => ?_, fun z => absurd rfl z⟩))
      · have e5 : zH3 L n (zSx4 L n c d s) = zRdn L n 99 (zNx L n (zSx4 L n c d s)) := if_pos (by omega)
        refine adv_M hG mv (by have := ok4.1; have := ok4.2.1; omega) ok4.2.2.1 (fun U fu mu => ⟨rfl, zw_id (by omega) (by omega), numbered_M hG mu (zNx_k ok4).1 v1 (zEar_n ok4 (by omega) (fun g => Int.le_of_lt (ev g))) (fun V fv mv2 => ⟨_, rfl, by omega, by omega, ?_⟩)⟩)
        rw [← e5] at mv2 ⊢
        have fUV := zTf_t fu fv
        refine f245 _ (zFm_w (zFm_t f (zFm_f fUV)) (by omega)) (zMa_c mv2 (fun k k0 k1 => by rw [zrd_r (by omega)]) (zrd_r (by omega))) (by rw [zrd_r (by omega)]; exact (fUV.2.2 11 (by omega)).trans g11) (by rw [zrd_r (by omega)]; exact (fUV.2.2 10 (by omega)).trans g10) (by rw [zrd_r (by omega)]; exact (fUV.1 142 (by omega) (by omega)).trans g2) (fun f5 => ?_)
        have nw := (zSx5_0 ok' f5).1
        have g := gr (zH3_0 ok4 f5).1
        have bc := nb nw
        rw [bc]
        refine ⟨fun j j1 => ?_, fun j j0 j1 => ?_⟩
        · rw [zrd_n (by omega), fUV.1 143 (by omega) (by omega)]
          exact g.1 j j1
        · by_cases j4 : j = 4
          · rw [j4, zrd_s]
            unfold zBrw
            rw [if_pos nw, zup_s]
          · rw [zrd_n (by omega), fUV.1 143 (by omega) (by omega)]
            exact g.2.2 j j0 (by omega)
      · have ma5 : zMa L n Y (zSx5 L n c d s) := by
          rcases ma with ⟨v1, mv, ev⟩ | ⟨v1, mv⟩
          · have e5 : zSx5 L n c d s = zSx4 L n c d s := by
              show (zH3 L n (zSx4 L n c d s)).2 = _
              unfold zH3
              rw [if_neg (by have := nt v1; omega)]
            rw [e5]
            exact Or.inl ⟨v1, mv, ev⟩
          · have z := zH3_d (L := L) (n := n) v1
            refine Or.inr ⟨z.1, ?_⟩
            unfold zMd at mv ⊢
            rw [show zqq (zSx5 L n c d s) = zqq (zSx4 L n c d s) from z.2]
            exact mv
        refine f245 Y f ma5 g11 g10 g2 (fun f5 => ?_)
        have nw := (zSx5_0 ok' f5).1
        have f4 := (zH3_0 ok4 f5).1
        have g := gr f4
        refine ⟨g.1, fun j j0 j1 => ?_⟩
        by_cases j4 : j = 4
        · rw [j4, g.2.1]
          unfold zBrw
          rw [if_pos nw, zup_s]
          unfold zH3
          rw [if_neg (by have := nt (by omega); omega)]
        · exact g.2.2 j j0 (by omega)
    -- the land
    have f173 : ∀ (Y : zX) (w : Int), zFm Z Y → zMa L n Y (zSx3 L n c d s) → Y 139 11 = d → Y 139 10 = Z 139 10 → Y 142 = Z 142 → (zqf (zSx3 L n c d s) = 0 → zNew c d s → w = (if d = 0 then -1 else I (d - 1)) ∧ (∀ j : Int, j < 1 + 5 * c → Y 143 j = Z 143 j) ∧ (∀ j : Int, 0 ≤ j → j < 2 → Y 143 (1 + 5 * c + j) = zBrw L n c d I R s (5 * c + j))) → M_aBox_W Q 173 [zR 139, zI (1 + 5 * b), zT] [zI w, zI (1 + 5 * b + 2), zR 143] G Y := fun Y w f ma g11 g10 g2 gr => by
      have l143 : zl0 143 = 72 := by decide +kernel
      refine M_aBox_f173 hG (by decide +kernel) ?_
      rw [l143]
      refine ⟨by omega, by omega, zw_id (by omega) (by omega), by omega, by omega, zw_id (by omega) (by omega), by omega, by omega, ?_⟩
      have fV : zFm Z (zst (zst (zst Y 143 (1 + 5 * b + 2) w) 143 (1 + 5 * b + 3) (-1)) 143 (1 + 5 * b + 4) 0) := zFm_w (zFm_w (zFm_w f (by omega)) (by omega)) (by omega)
      have mV : zMa L n (zst (zst (zst Y 143 (1 + 5 * b + 2) w) 143 (1 + 5 * b + 3) (-1)) 143 (1 + 5 * b + 4) 0) (zSx3 L n c d s) := zMa_c ma (fun k k0 k1 => by rw [zrd_r (by omega), zrd_r (by omega), zrd_r (by omega)]) (by rw [zrd_r (by omega), zrd_r (by omega), zrd_r (by omega)])
      have v11 : zst (zst (zst Y 143 (1 + 5 * b + 2) w) 143 (1 + 5 * b + 3) (-1)) 143 (1 + 5 * b + 4) 0 139 11 = d := by rw [zrd_r (by omega), zrd_r (by omega), zrd_r (by omega)]; exact g11
      have v10 : zst (zst (zst Y 143 (1 + 5 * b + 2) w) 143 (1 + 5 * b + 3) (-1)) 143 (1 + 5 * b + 4) 0 139 10 = Z 139 10 := by rw [zrd_r (by omega), zrd_r (by omega), zrd_r (by omega)]; exact g10
      have v2 : zst (zst (zst Y 143 (1 + 5 * b + 2) w) 143 (1 + 5 * b + 3) (-1)) 143 (1 + 5 * b + 4) 0 142 = Z 142 := by rw [zrd_r (by omega), zrd_r (by omega), zrd_r (by omega)]; exact g2
      have vr : zqf (zSx3 L n c d s) = 0 → zNew c d s → (∀ j : Int, j < 1 + 5 * c → zst (zst (zst Y 143 (1 + 5 * b + 2) w) 143 (1 + 5 * b + 3) (-1)) 143 (1 + 5 * b + 4) 0 143 j = Z 143 j) ∧ zst (zst (zst Y 143 (1 + 5 * b + 2) w) 143 (1 + 5 * b + 3) (-1)) 143 (1 + 5 * b + 4) 0 143 (1 + 5 * c + 4) = 0 ∧ zst (zst (zst Y 143 (1 + 5 * b + 2) w) 143 (1 + 5 * b + 3) (-1)) 143 (1 + 5 * b + 4) 0 143 (1 + 5 * c + 3) = -1 ∧ (∀ j : Int, 0 ≤ j → j < 3 → zst (zst (zst Y 143 (1 + 5 * b + 2) w) 143 (1 + 5 * b + 3) (-1)) 143 (1 + 5 * b + 4) 0 143 (1 + 5 * c + j) = zBrw L n c d I R s (5 * c + j)) := fun f3 nw => by
        have g := gr f3 nw
        have bc := nb nw
        rw [bc]
        refine ⟨fun j j1 => ?_, zrd_s _ _ _ _, ?_, fun j j0 j1 => ?_⟩
        · rw [zrd_n (by omega), zrd_n (by omega), zrd_n (by omega)]
          exact g.2.1 j j1
        · rw [zrd_n (by omega), zrd_s]
        · rw [zrd_n (by omega), zrd_n (by omega)]
          by_cases j2 : j = 2
          · rw [j2, zrd_s, g.1]
            unfold zBrw
            rw [if_pos nw, zup_n (by omega), zup_n (by omega), zup_n (by omega), zup_s]
          · rw [zrd_n (by omega)]
            exact g.2.2 j j0 (by omega)
      generalize zst (zst (zst Y 143 (1 + 5 * b + 2) w) 143 (1 + 5 * b + 3) (-1)) 143 (1 + 5 * b + 4) 0 = V at fV mV v11 v10 v2 vr ⊢
      refine isWord_Ma hG mV ok3 (by omega) (by omega) (fun v1 mv ev t => ⟨1, rfl, fun z => absurd z (by omega), fun _ => ?_⟩) (fun nt => ⟨0, rfl, fun _ => ?_, fun z => absurd rfl z⟩)
      · have e4 : zH2 L n (zSx3 L n c d s) = zRdn L n 3 (zNx L n (zSx3 L n c d s)) := if_pos (by omega)
        refine adv_M hG mv (by have := ok3.1; have := ok3.2.1; omega) ok3.2.2.1 (fun U fu mu => ⟨rfl, numbered_M hG mu (zNx_k ok3).1 v1 (zEar_n ok3 (by omega) (fun g => Int.le_of_lt (ev g))) (fun W fw mw => ⟨_, rfl, ?_⟩)⟩)
        rw [← e4] at mw ⊢
        have fUV := zTf_t fu fw
        refine f218 _ (zFm_w (zFm_t fV (zFm_f fUV)) (by omega)) (zMa_c mw (fun k k0 k1 => by rw [zrd_r (by omega)]) (zrd_r (by omega))) (by rw [zrd_r (by omega)]; exact (fUV.2.2 11 (by omega)).trans v11) (by rw [zrd_r (by omega)]; exact (fUV.2.2 10 (by omega)).trans v10) (by rw [zrd_r (by omega)]; exact (fUV.1 142 (by omega) (by omega)).trans v2) (fun f4 => ?_)
        have f3 := (zH2_0 ok3 f4).1
        have nw : zNew c d s := zB1_0 (zH1_0 ok2 f3).1
        have g := vr f3 nw
        have bc := nb nw
        rw [bc]
        refine ⟨fun j j1 => ?_, ?_, fun j j0 j1 => ?_⟩
        · rw [zrd_n (by omega), fUV.1 143 (by omega) (by omega)]
          exact g.1 j j1
        · rw [zrd_n (by omega), fUV.1 143 (by omega) (by omega)]
          exact g.2.1
        · by_cases j3 : j = 3
          · rw [j3, zrd_s]
            unfold zBrw
            rw [if_pos nw, zup_n (by omega), zup_s]
          · rw [zrd_n (by omega), fUV.1 143 (by omega) (by omega)]
            exact g.2.2.2 j j0 (by omega)
      · have ma4 : zMa L n V (zSx4 L n c d s) := by
          rcases mV with ⟨v1, mv, ev⟩ | ⟨v1, mv⟩
          · have e4 : zSx4 L n c d s = zSx3 L n c d s := by
              show (zH2 L n (zSx3 L n c d s)).2 = _
              unfold zH2
              rw [if_neg (by have := nt v1; omega)]
            rw [e4]
            exact Or.inl ⟨v1, mv, ev⟩
          · have z := zH2_d (L := L) (n := n) v1
            refine Or.inr ⟨z.1, ?_⟩
            unfold zMd at mv ⊢
            rw [show zqq (zSx4 L n c d s) = zqq (zSx3 L n c d s) from z.2]
            exact mv
        refine f218 V fV ma4 v11 v10 v2 (fun f4 => ?_)
        have f3 := (zH2_0 ok3 f4).1
        have nw : zNew c d s := zB1_0 (zH1_0 ok2 f3).1
        have g := vr f3 nw
        refine ⟨g.1, g.2.1, fun j j0 j1 => ?_⟩
        by_cases j3 : j = 3
        · rw [j3, g.2.2.1]
          unfold zBrw
          rw [if_pos nw, zup_n (by omega), zup_s]
          unfold zH2
          rw [if_neg (by have := nt (by omega); omega)]
        · exact g.2.2.2 j j0 (by omega)
    -- the colour
    have f134 : ∀ (Y : zX), zFm Z Y → zMa L n Y (zSx3 L n c d s) → Y 139 11 = d → Y 139 10 = Z 139 10 → Y 142 = Z 142 → (zNew c d s → (∀ j : Int, j < 1 + 5 * c → Y 143 j = Z 143 j) ∧ Y 143 (1 + 5 * c) = zqt s - 256) → M_aBox_W Q 134 [zR 139, zI (1 + 5 * b), zT] [zI (zH1 L n (zSx2 L n c d s)).1, zI (1 + 5 * b + 1), zR 143] G Y := fun Y f ma g11 g10 g2 gr => by
      have l143 : zl0 143 = 72 := by decide +kernel
      have go : ∀ w : Int, (zNew c d s → w = (if d = 0 then -1 else I (d - 1))) → M_aBox_W Q 173 [zR 139, zI (1 + 5 * b), zT] [zI w, zI (1 + 5 * b + 2), zR 143] G (zst Y 143 (1 + 5 * b + 1) (zH1 L n (zSx2 L n c d s)).1) := fun w ew => by
        refine f173 _ w (zFm_w f (by omega)) (zMa_c ma (fun k k0 k1 => by rw [zrd_r (by omega)]) (zrd_r (by omega))) (by rw [zrd_r (by omega)]; exact g11) (by rw [zrd_r (by omega)]; exact g10) (by rw [zrd_r (by omega)]; exact g2) (fun f3 nw => ?_)
        have g := gr nw
        have bc := nb nw
        rw [bc]
        refine ⟨ew nw, fun j j1 => ?_, fun j j0 j1 => ?_⟩
        · rw [zrd_n (by omega)]
          exact g.1 j j1
        · by_cases jj : j = 1
          · rw [jj, zrd_s]
            unfold zBrw
            rw [if_pos nw, zup_n (by omega), zup_n (by omega), zup_s]
          · have jz : j = 0 := by omega
            rw [jz, zrd_n (by omega), show 1 + 5 * c + 0 = 1 + 5 * c by omega, g.2, show 5 * c + 0 = 5 * c by omega]
            unfold zBrw
            rw [if_pos nw, zup_n (by omega), zup_n (by omega), zup_n (by omega), zup_n (by omega), zup_s]
      have e11 : zst Y 143 (1 + 5 * b + 1) (zH1 L n (zSx2 L n c d s)).1 139 11 = d := by rw [zrd_r (by omega)]; exact g11
      refine M_aBox_f134 hG (by decide +kernel) ?_
      rw [l143, e11]
      refine ⟨by omega, by omega, zw_id (by omega) (by omega), fun dz => go (-1) (fun _ => by rw [if_pos dz]), fun dn => ⟨fun d6 => go (-1) (fun nw => absurd nw.2.1 (by omega)), fun d6 => ⟨zw_id (by omega) (by omega), by omega, by omega, ?_⟩⟩⟩
      rw [show zst Y 143 (1 + 5 * b + 1) (zH1 L n (zSx2 L n c d s)).1 142 (d - 1) = Z 142 (d - 1) by rw [zrd_r (by omega), g2]]
      refine go _ (fun nw => ?_)
      rw [if_neg dn]
      exact (rows' nw.2.2).2.2.1 (d - 1) (by omega) (by omega)
    -- the kind
    have f85 : ∀ Y : zX, zTf Z Y → zMs L n Y (zB1 c d s) → M_aBox_W Q 85 [zR 139, zT, zT] [zI b, zI 5, zI 1] G Y := fun Y f mv => by
      have tk1 := mv.2.2.1
      rw [b1t.1] at tk1
      have y8 : Y 139 8 = zqt s - 256 := by
        rw [(tk1.2.2.2.2 wd.1).2]
        exact wo8 _ (by omega)
      refine M_aBox_f85 hG ?_
      rw [y8]
      refine ⟨by rw [zw_id (x := 5 * b) (by omega) (by omega)]; exact zw_id (by omega) (by omega), by omega, by omega, adv_M hG (zMs_c mv (fun k k0 k1 => by rw [zrd_r (by omega)]) (zrd_r (by omega))) (by have := ok1.1; have := ok1.2.1; omega) ok1.2.2.1 (fun U fu mu => ⟨rfl, zw_id (by omega) (by omega), ?_⟩)⟩
      have fZU : zFm Z U := zFm_t (zFm_w (zFm_f f) (by omega)) (zFm_f fu)
      have eu : zEar (zSx2 L n c d s) := zEar_n ok1 (by rw [b1t.1]; omega) b1f.2
      have mu2 : zMs L n U (zSx2 L n c d s) := mu
      have v1 : zqf (zSx2 L n c d s) ≠ 1 := b1f.1
      have u11 : U 139 11 = d := by rw [fu.2.2 11 (by omega), zrd_r (by omega), f.2.2 11 (by omega)]; exact h11'
      have u10 : U 139 10 = Z 139 10 := by rw [fu.2.2 10 (by omega), zrd_r (by omega), f.2.2 10 (by omega)]
      have u2 : U 142 = Z 142 := by rw [fu.1 142 (by omega) (by omega), zrd_r (by omega), f.1 142 (by omega) (by omega)]
      have ur : zNew c d s → (∀ j : Int, j < 1 + 5 * c → U 143 j = Z 143 j) ∧ U 143 (1 + 5 * c) = zqt s - 256 := fun nw => by
        have bc := nb nw
        rw [fu.1 143 (by omega) (by omega), bc]
        refine ⟨fun j j1 => ?_, zrd_s _ _ _ _⟩
        rw [zrd_n (by omega), f.1 143 (by omega) (by omega)]
      have tk2 := mu2.2.2.1
      have tok2 := ok2.2.2.2.2.2.1
      refine ⟨fun _ => ⟨fun t5 => ?_, fun t5 => M_aBox_f133 hG (by decide +kernel) ?_⟩, fun z => absurd mu2.2.2.2.2.2.1 z⟩
      · have t1 : zqt (zSx2 L n c d s) = 1 := by
          unfold zTok at tok2
          rcases tok2 with t | t | t | t | t | t | t | t
          · have := tk2.1 t; omega
          · exact t
          · have := tk2.2.2.1 t; omega
          · have := (tk2.2.2.2.1 (Or.inl t)).1; omega
          · have := (tk2.2.2.2.1 (Or.inr (Or.inl t))).1; omega
          · have := (tk2.2.2.2.1 (Or.inr (Or.inr (Or.inl t)))).1; omega
          · have := (tk2.2.2.2.1 (Or.inr (Or.inr (Or.inr t)))).1; omega
          · have := (tk2.2.2.2.2 t.1).1; omega
        have e3 : zH1 L n (zSx2 L n c d s) = zRdn L n 9 (zSx2 L n c d s) := if_pos t1
        refine numbered_M hG mu2 ok2 v1 eu (fun V fv ma => ⟨_, rfl, ?_⟩)
        rw [← e3] at ma ⊢
        exact f134 V (zFm_t fZU (zFm_f fv)) ma ((fv.2.2 11 (by omega)).trans u11) ((fv.2.2 10 (by omega)).trans u10) ((fv.1 142 (by omega) (by omega)).trans u2) (fun nw => by rw [fv.1 143 (by omega) (by omega)]; exact ur nw)
      · have t1 : zqt (zSx2 L n c d s) ≠ 1 := fun t => t5 (tk2.2.1 t).1
        have e3 : zH1 L n (zSx2 L n c d s) = (0, zSx2 L n c d s) := if_neg t1
        have z := f134 U fZU
        unfold zSx3 at z
        rw [e3] at z
        exact z (Or.inl ⟨v1, mu2, eu⟩) u11 u10 u2 ur
    have f65 : ∀ Y : zX, zTf Z Y → zMs L n Y (zB1 c d s) → M_aBox_W Q 65 [zR 139, zT, zT] [] G Y := fun Y f mv => by
      have z := f85 Y f mv
      refine M_aBox_f65 hG ?_
      rw [f.2.2 10 (by omega)]
      refine ⟨fun lt => ?_, fun ge => ?_⟩
      · rw [if_pos lt] at eb
        rw [eb] at z
        exact z
      · rw [if_neg (by omega)] at eb
        rw [eb] at z
        exact z
    have f47 : ∀ Y : zX, zTf Z Y → zMs L n Y (if 14 ≤ c then zWg 3 s else s) → M_aBox_W Q 47 [zR 139, zT, zT] [] G Y := fun Y f mv => by
      have y11 : Y 139 11 = d := (f.2.2 11 (by omega)).trans h11'
      refine M_aBox_f47 hG ?_
      rw [y11]
      refine ⟨fun d6 => ?_, fun d6 => f65 Y f ?_⟩
      · by_cases c14 : 14 ≤ c
        · rw [if_pos c14] at mv
          have t := zWg_t (w := 3) (s := s)
          refine also_M (w := 4) hG mv (fun g => ?_) (fun U fu mu => ⟨rfl, f65 U (zTf_t f fu) ?_⟩)
          · by_cases f0 : zqf s = 0
            · have y := t.2.2.2.2.1 f0
              exact Or.inr ⟨by rw [y.2, t.2.1], by rw [y.1]; omega⟩
            · rw [t.2.2.2.2.2 f0]
              exact Or.inl (er' f0)
          · have e4 : zWg 4 (zWg 3 s) = zWg 3 s := if_neg (fun z => zWg_0 (by omega) z)
            rw [e4] at mu
            unfold zB1
            rw [if_pos c14]
            exact mu
        · rw [if_neg c14] at mv
          refine also_M (w := 4) hG mv (fun g => Or.inl (er' g)) (fun U fu mu => ⟨rfl, f65 U (zTf_t f fu) ?_⟩)
          unfold zB1
          rw [if_neg c14, if_pos (by omega)]
          exact mu
      · unfold zB1
        by_cases c14 : 14 ≤ c
        · rw [if_pos c14] at mv ⊢
          exact mv
        · rw [if_neg c14] at mv ⊢
          by_cases g : 6 ≤ d
          · have f0 : zqf s ≠ 0 := fun z => by have := (rows' z).2.1; omega
            rw [if_pos g, zWg_t.2.2.2.2.2 f0]
            exact mv
          · rw [if_neg g]
            exact mv
    refine M_aBox_f0 hG ⟨fun _ => ⟨fun t5 => ⟨fun gt => ?_, fun le => ⟨fun e14 => also_M (w := 3) hG ms' (fun g => Or.inl (er' g)) (fun U fu mu => ⟨rfl, f47 U fu ?_⟩), fun n14 => f47 Z (zTf_r Z) ?_⟩⟩, fun t5 => absurd w8.1 t5⟩, fun z => absurd h9 z⟩
    · rw [w8.2, wo8 _ (by omega)] at gt
      omega
    · by_cases f0 : zqf s = 0
      · rw [if_pos (by have := (rows' f0).1; omega)]
        exact mu
      · rw [zWg_t.2.2.2.2.2 f0] at mu ⊢
        by_cases c14 : 14 ≤ c
        · rw [if_pos c14]
          exact mu
        · rw [if_neg c14]
          exact mu
    · by_cases f0 : zqf s = 0
      · rw [if_neg (by have := (rows' f0).1; omega)]
        exact ms'
      · rw [zWg_t.2.2.2.2.2 f0]
        by_cases c14 : 14 ≤ c
        · rw [if_pos c14]
          exact ms'
        · rw [if_neg c14]
          exact ms'
  · have e : zBx L n (s, d, c, I, R) = (zSu s, d, c, I, R) := if_neg wd
    rw [e] at qd
    have f24 : M_aBox_W Q 24 [zR 139, zT, zT] [] G Z := M_aBox_f24 hG (ends_M hG ms' f1' (fun Y f md => ⟨rfl, qd Y (zFm_f f) zSu_f md⟩))
    refine M_aBox_f0 hG ⟨fun _ => ⟨fun t5 => ⟨fun _ => f24, fun le => ?_⟩, fun _ => f24⟩, fun z => absurd h9 z⟩
    have t := t3 t5
    rw [(tk.2.2.2.2 t).2] at le
    exact absurd ⟨t, by have := wo7 _ le (by omega); omega⟩ wd
