/-! ===== BOXES read by the reference ===== -/
/-- a FAULT found before is at an earlier place -/
def zEar (s : zPst) : Prop := zqf s ≠ 0 → zqq s < zqp s
/-- only the reader's own places are touched -/
def zTf (X Z : zX) : Prop := (∀ b : Int, b ≠ 139 → b ≠ 140 → Z b = X b) ∧ (∀ k : Int, k ≠ 7 → k ≠ 8 → Z 140 k = X 140 k) ∧ (∀ k : Int, k < 3 ∨ 9 < k → Z 139 k = X 139 k)
theorem zTf_r (X : zX) : zTf X X := ⟨fun _ _ _ => rfl, fun _ _ _ => rfl, fun _ _ => rfl⟩
theorem zTf_t {X Y Z : zX} (h : zTf X Y) (g : zTf Y Z) : zTf X Z := ⟨fun b a c => (g.1 b a c).trans (h.1 b a c), fun k a c => (g.2.1 k a c).trans (h.2.1 k a c), fun k a => (g.2.2 k a).trans (h.2.2 k a)⟩
theorem zTf_a {X Y : zX} (h : zAm X Y) : zTf X Y := ⟨fun b a _ => h.1 b a, fun k _ _ => by rw [h.1 140 (by omega)], fun k a => h.2 k (by omega)⟩
/-- the reference is at s, and goes on -/
def zMs (L : Int → Int) (n : Int) (Z : zX) (s : zPst) : Prop := Z 139 3 = zqa s ∧ Z 139 4 = zqp s ∧ zTkr Z (zqt s) (zqv s) ∧ Z 140 7 = zqf s ∧ Z 140 8 = zqq s ∧ Z 139 9 = 0 ∧ zTpm Z L n
/-- it is stuck -/
def zMd (Z : zX) (s : zPst) : Prop := Z 139 9 ≠ 0 ∧ Z 140 7 = 1 ∧ Z 140 8 = zqq s
def zMa (L : Int → Int) (n : Int) (Z : zX) (s : zPst) : Prop := (zqf s ≠ 1 ∧ zMs L n Z s ∧ zEar s) ∨ (zqf s = 1 ∧ zMd Z s)
theorem zMs_c {L : Int → Int} {n : Int} {Z Y : zX} {s : zPst} (h : zMs L n Z s) (e : ∀ k : Int, 2 ≤ k → k ≤ 9 → Y 139 k = Z 139 k) (e0 : Y 140 = Z 140) : zMs L n Y s := by
  obtain ⟨h1, h2, h3, h4, h5, h6, h7, h8, h9, h10⟩ := h
  unfold zMs zTkr zTpm
  rw [e 2 (by omega) (by omega), e 3 (by omega) (by omega), e 4 (by omega) (by omega), e 5 (by omega) (by omega), e 6 (by omega) (by omega), e 7 (by omega) (by omega), e 8 (by omega) (by omega), e 9 (by omega) (by omega), e0]
  exact ⟨h1, h2, h3, h4, h5, h6, h7, h8, h9, h10⟩
theorem zMd_c {Z Y : zX} {s : zPst} (h : zMd Z s) (e : Y 139 9 = Z 139 9) (e0 : Y 140 = Z 140) : zMd Y s := by
  unfold zMd at h ⊢
  rw [e, e0]
  exact h
theorem adv_M {Q : List zV → zX → Prop} {G : zG} {Z : zX} {L : Int → Int} {n : Int} {s : zPst} (hG : SH G) (h : zMs L n Z s) (a0 : 0 ≤ zqa s) (a1 : zqa s ≤ n) (q : ∀ Y : zX, zTf Z Y → zMs L n Y (zNx L n s) → Q [] Y) : M_advance [zR 139] G Z Q := by
  obtain ⟨h1, h2, h3, h4, h5, h6, h7⟩ := h
  exact advance_M hG h7 h1 a0 a1 (fun Y f y3 y4 yt => q Y (zTf_a f) ⟨y3, y4, yt, by rw [f.1 140 (by omega)]; exact h4, by rw [f.1 140 (by omega)]; exact h5, (f.2 9 (by omega)).trans h6, zTpm_c h7 f⟩)
theorem ends_M {Q : List zV → zX → Prop} {G : zG} {Z : zX} {L : Int → Int} {n : Int} {s : zPst} (hG : SH G) (h : zMs L n Z s) (f1 : zqf s ≠ 1) (q : ∀ Y : zX, zTf Z Y → zMd Y (zSu s) → Q [] Y) : M_ends [zR 139] G Z Q := by
  obtain ⟨h1, h2, h3, h4, h5, h6, h7⟩ := h
  refine M_ends_f0 hG ⟨fun _ => ?_, fun z => absurd h6 z⟩
  rw [show zst (zst Z 139 9 1) 140 7 1 139 4 = zqp s by rw [zrd_n (by omega), zrd_n (by omega)]; exact h2]
  have eq : zSu s = (zqa s, zqt s, zqv s, zqp s, 1, zqp s) := if_neg f1
  refine q _ ⟨fun b a c => by rw [zrd_r c, zrd_r c, zrd_r a], fun k a c => by rw [zrd_n (by omega), zrd_n (by omega), zrd_n (by omega)], fun k a => by rw [zrd_n (by omega), zrd_n (by omega), zrd_n (by omega)]⟩ ?_
  rw [eq]
  refine ⟨?_, ?_, zrd_s _ _ _ _⟩
  · rw [zrd_n (by omega), zrd_n (by omega), zrd_s]
    omega
  · rw [zrd_n (by omega), zrd_s]
theorem ends_Md {Q : List zV → zX → Prop} {G : zG} {Z : zX} {s : zPst} (hG : SH G) (h : zMd Z s) (q : Q [] Z) : M_ends [zR 139] G Z Q :=
  M_ends_f0 hG ⟨fun z => absurd z h.1, fun _ => q⟩
theorem also_M {Q : List zV → zX → Prop} {G : zG} {Z : zX} {L : Int → Int} {n w : Int} {s : zPst} (hG : SH G) (h : zMs L n Z s) (er : zqf s ≠ 0 → zqq s < zqp s ∨ (zqq s = zqp s ∧ zqf s ≤ w)) (q : ∀ Y : zX, zTf Z Y → zMs L n Y (zWg w s) → Q [] Y) : M_also [zR 139, zI w, zI (Z 139 4)] G Z Q := by
  have h' := h
  obtain ⟨h1, h2, h3, h4, h5, h6, h7⟩ := h
  have t := zWg_t (w := w) (s := s)
  have put : zqf s = 0 → Q [] (zst (zst Z 140 7 w) 140 8 (zqp s)) := fun f0 => by
    have e : zWg w s = (zqa s, zqt s, zqv s, zqp s, w, zqp s) := if_pos f0
    rw [e] at q
    refine q _ ⟨fun b a c => by rw [zrd_r c, zrd_r c], fun k a c => by rw [zrd_n (by omega), zrd_n (by omega)], fun k a => by rw [zrd_n (by omega), zrd_n (by omega)]⟩ ⟨?_, ?_, ?_, ?_, zrd_s _ _ _ _, ?_, ?_⟩
    · rw [zrd_n (by omega), zrd_n (by omega)]; exact h1
    · rw [zrd_n (by omega), zrd_n (by omega)]; exact h2
    · unfold zTkr at h3 ⊢
      rw [zrd_r (by omega), zrd_r (by omega)]
      exact h3
    · rw [zrd_n (by omega), zrd_s]
    · rw [zrd_n (by omega), zrd_n (by omega)]; exact h6
    · obtain ⟨g1, g2, g3, g4⟩ := h7
      refine ⟨by rw [zrd_n (by omega), zrd_n (by omega)]; exact g1, g2, g3, fun j j0 j1 => ?_⟩
      rw [zrd_n (by omega), zrd_n (by omega)]
      exact g4 j j0 j1
  have same : zqf s ≠ 0 → Q [] Z := fun f0 => by
    rw [t.2.2.2.2.2 f0] at q
    exact q Z (zTf_r Z) h'
  refine M_also_f0 hG ?_
  rw [h2, h4, h5]
  refine ⟨fun _ => ⟨fun f0 => M_also_f51 hG (put f0), fun f0 => ⟨fun _ => same f0, fun ge => ⟨fun eq => ⟨fun lt => ?_, fun _ => same f0⟩, fun ne => ?_⟩⟩⟩, fun z => absurd h6 z⟩
  · have := er f0
    omega
  · have := er f0
    omega
/-! what is dead stays so -/
theorem zNx_f {L : Int → Int} {n : Int} {s : zPst} : zqf (zNx L n s) = zqf s ∧ zqq (zNx L n s) = zqq s := ⟨rfl, rfl⟩
theorem zSu_d {s : zPst} (h : zqf s = 1) : zqf (zSu s) = 1 ∧ zqq (zSu s) = zqq s := by
  unfold zSu
  rw [if_pos h]
  exact ⟨h, rfl⟩
theorem zWg_d {w : Int} {s : zPst} (h : zqf s = 1) : zWg w s = s := if_neg (by omega)
theorem zRdn_d {L : Int → Int} {n most : Int} {s : zPst} (h : zqf s = 1) : zqf (zRdn L n most s).2 = 1 ∧ zqq (zRdn L n most s).2 = zqq s := by
  unfold zRdn
  by_cases c : zqt s = 1
  · rw [if_pos c]
    by_cases d : most < zqv s
    · rw [if_pos d, zWg_d h]
      exact ⟨h, rfl⟩
    · rw [if_neg d]
      exact ⟨h, rfl⟩
  · rw [if_neg c]
    exact zSu_d h
theorem zXp_d {L : Int → Int} {n w : Int} {s : zPst} (h : zqf s = 1) : zqf (zXp L n w s) = 1 ∧ zqq (zXp L n w s) = zqq s := by
  unfold zXp
  by_cases c : zqt s = w
  · rw [if_pos c]
    exact ⟨h, rfl⟩
  · rw [if_neg c]
    exact zSu_d h
theorem zH2_d {L : Int → Int} {n : Int} {s : zPst} (h : zqf s = 1) : zqf (zH2 L n s).2 = 1 ∧ zqq (zH2 L n s).2 = zqq s := by
  unfold zH2
  by_cases c : zqt s = 264
  · rw [if_pos c]
    exact zRdn_d (L := L) (n := n) (s := zNx L n s) h
  · rw [if_neg c]
    exact ⟨h, rfl⟩
theorem zH3_d {L : Int → Int} {n : Int} {s : zPst} (h : zqf s = 1) : zqf (zH3 L n s).2 = 1 ∧ zqq (zH3 L n s).2 = zqq s := by
  unfold zH3
  by_cases c : zqt s = 265
  · rw [if_pos c]
    exact zRdn_d (L := L) (n := n) (s := zNx L n s) h
  · rw [if_neg c]
    exact ⟨h, rfl⟩
/-- earlier: behind a token -/
theorem zEar_n {L : Int → Int} {n : Int} {s : zPst} (ok : zOk n s) (t0 : zqt s ≠ 0) (h : zqf s ≠ 0 → zqq s ≤ zqp s) : zEar (zNx L n s) := fun f => by
  have z := (zNx_k (L := L) ok).2
  have y := ok.2.2.2.1 t0
  have w := h f
  show zqq s < zqp (zNx L n s)
  omega
theorem numbered_M {Q : List zV → zX → Prop} {G : zG} {Z : zX} {L : Int → Int} {n most : Int} {s : zPst} (hG : SH G) (h : zMs L n Z s) (ok : zOk n s) (f1 : zqf s ≠ 1) (er : zEar s) (q : ∀ Y : zX, zTf Z Y → zMa L n Y (zRdn L n most s).2 → Q [zI (zRdn L n most s).1] Y) : M_numbered [zR 139, zI most] G Z Q := by
  have tk := h.2.2.1
  have h9 : Z 139 9 = 0 := h.2.2.2.2.2.1
  have tok := ok.2.2.2.2.2.1
  unfold zRdn at q
  refine M_numbered_f0 hG ⟨fun _ => ⟨fun t5 => ?_, fun t5 => M_numbered_f15 hG ?_⟩, fun z => absurd h9 z⟩
  · have t1 : zqt s = 1 := by
      unfold zTok at tok
      rcases tok with t | t | t | t | t | t | t | t
      · have := tk.1 t; omega
      · exact t
      · have := tk.2.2.1 t; omega
      · have := (tk.2.2.2.1 (Or.inl t)).1; omega
      · have := (tk.2.2.2.1 (Or.inr (Or.inl t))).1; omega
      · have := (tk.2.2.2.1 (Or.inr (Or.inr (Or.inl t)))).1; omega
      · have := (tk.2.2.2.1 (Or.inr (Or.inr (Or.inr t)))).1; omega
      · have := (tk.2.2.2.2 t.1).1; omega
    rw [if_pos t1] at q
    have v6 := (tk.2.1 t1).2
    rw [v6]
    refine ⟨fun lt => also_M hG h (fun f => Or.inl (er f)) (fun Y f r => ⟨rfl, M_numbered_f40 hG ?_⟩), fun ge => M_numbered_f40 hG ?_⟩
    · rw [if_pos lt] at q
      have ok2 := zWg_k ok (by omega : (0 : Int) ≤ 2) (by omega)
      have wt := zWg_t (w := 2) (s := s)
      refine adv_M hG r (by have := ok2.1; have := ok2.2.1; omega) ok2.2.2.1 (fun U f2 r2 => ⟨rfl, q U (zTf_t f f2) (Or.inl ⟨?_, r2, zEar_n ok2 (by rw [wt.1]; omega) (fun g => ?_)⟩)⟩)
      · show zqf (zWg 2 s) ≠ 1
        by_cases f0 : zqf s = 0
        · rw [(wt.2.2.2.2.1 f0).1]
          omega
        · rw [wt.2.2.2.2.2 f0]
          exact f1
      · by_cases f0 : zqf s = 0
        · rw [(wt.2.2.2.2.1 f0).2, wt.2.1]
          exact Int.le_refl _
        · rw [wt.2.2.2.2.2 f0]
          exact Int.le_of_lt (er f0)
    · rw [if_neg (by omega)] at q
      exact adv_M hG h (by have := ok.1; have := ok.2.1; omega) ok.2.2.1 (fun U f2 r2 => ⟨rfl, q U f2 (Or.inl ⟨f1, r2, zEar_n ok (by omega) (fun g => Int.le_of_lt (er g))⟩)⟩)
  · have t1 : zqt s ≠ 1 := fun t => t5 (tk.2.1 t).1
    rw [if_neg t1] at q
    exact ends_M hG h f1 (fun Y f r => ⟨rfl, q Y f (Or.inr ⟨zSu_f, r⟩)⟩)
theorem isWord_Ma {Q : List zV → zX → Prop} {G : zG} {Z : zX} {L : Int → Int} {n w : Int} {s : zPst} (hG : SH G) (h : zMa L n Z s) (ok : zOk n s) (w0 : 0 ≤ w) (w1 : w ≤ 9) (q1 : zqf s ≠ 1 → zMs L n Z s → zEar s → zqt s = 256 + w → Q [zI 1] Z) (q0 : (zqf s ≠ 1 → zqt s ≠ 256 + w) → Q [zI 0] Z) : M_isWord [zR 139, zI w] G Z Q := by
  rcases h with ⟨f1, h, er⟩ | ⟨f1, h⟩
  · have tk := h.2.2.1
    have tok := ok.2.2.2.2.2.1
    refine M_isWord_f0 hG ⟨fun _ => ⟨fun t5 => ?_, fun t5 => q0 (fun _ t => t5 (tk.2.2.2.2 (by omega)).1)⟩, fun z => absurd h.2.2.2.2.2.1 z⟩
    have t : 256 ≤ zqt s := by
      unfold zTok at tok
      rcases tok with t | t | t | t | t | t | t | t
      · have := tk.1 t; omega
      · have := (tk.2.1 t).1; omega
      · have := tk.2.2.1 t; omega
      · have := (tk.2.2.2.1 (Or.inl t)).1; omega
      · have := (tk.2.2.2.1 (Or.inr (Or.inl t))).1; omega
      · have := (tk.2.2.2.1 (Or.inr (Or.inr (Or.inl t)))).1; omega
      · have := (tk.2.2.2.1 (Or.inr (Or.inr (Or.inr t)))).1; omega
      · exact t.1
    rw [(tk.2.2.2.2 t).2]
    have wo : zWo (zqt s - 256) = w ↔ zqt s = 256 + w := by
      unfold zWo
      by_cases c1 : zqt s - 256 = 10
      · rw [if_pos c1]
        omega
      · rw [if_neg c1]
        by_cases c2 : zqt s - 256 = 11
        · rw [if_pos c2]
          omega
        · rw [if_neg c2]
          omega
    exact ⟨fun e => q1 f1 h er (wo.1 e), fun e => q0 (fun _ z => e (wo.2 z))⟩
  · exact M_isWord_f0 hG ⟨fun z => absurd z h.1, fun _ => q0 (fun z => absurd f1 z)⟩
theorem isSign_Ma {Q : List zV → zX → Prop} {G : zG} {Z : zX} {L : Int → Int} {n w : Int} {s : zPst} (hG : SH G) (h : zMa L n Z s) (ok : zOk n s) (hw : w = 40 ∨ w = 41 ∨ w = 59 ∨ w = 60) (q1 : zqf s ≠ 1 → zMs L n Z s → zEar s → zqt s = w → Q [zI 1] Z) (q0 : (zqf s ≠ 1 → zqt s ≠ w) → Q [zI 0] Z) : M_isSign [zR 139, zI w] G Z Q := by
  rcases h with ⟨f1, h, er⟩ | ⟨f1, h⟩
  · have tk := h.2.2.1
    have tok := ok.2.2.2.2.2.1
    have no : zqt s ≠ w → Z 139 5 = 2 → Z 139 7 ≠ w := fun nw t5 e => by
      unfold zTok at tok
      rcases tok with t | t | t | t | t | t | t | t
      · have := tk.1 t; omega
      · have := (tk.2.1 t).1; omega
      · have := tk.2.2.1 t; omega
      · have := (tk.2.2.2.1 (Or.inl t)).2; omega
      · have := (tk.2.2.2.1 (Or.inr (Or.inl t))).2; omega
      · have := (tk.2.2.2.1 (Or.inr (Or.inr (Or.inl t)))).2; omega
      · have := (tk.2.2.2.1 (Or.inr (Or.inr (Or.inr t)))).2; omega
      · have := (tk.2.2.2.2 t.1).1; omega
    refine M_isSign_f0 hG ⟨fun _ => ⟨fun t5 => ⟨fun e => ?_, fun e => q0 (fun _ z => e ?_)⟩, fun t5 => q0 (fun _ z => t5 (tk.2.2.2.1 (by omega)).1)⟩, fun z => absurd h.2.2.2.2.2.1 z⟩
    · by_cases c : zqt s = w
      · exact q1 f1 h er c
      · exact absurd e (no c t5)
    · rw [(tk.2.2.2.1 (by omega)).2]
      exact z
  · exact M_isSign_f0 hG ⟨fun z => absurd z h.1, fun _ => q0 (fun z => absurd f1 z)⟩
