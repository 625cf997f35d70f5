/-! ===== forests as lists: (size, kind, colour), first roots first; the price of changes ===== -/
abbrev zFo := List (Nat × Int × Int)
def zch (u w : Int × Int) : Nat := (if u.1 = w.1 then 0 else 3) + (if u.2 = w.2 then 0 else 1)
theorem zch_s (u w : Int × Int) : zch u w = zch w u := by
  unfold zch
  rw [show (if u.1 = w.1 then (0 : Nat) else 3) = (if w.1 = u.1 then 0 else 3) by split <;> split <;> simp_all, show (if u.2 = w.2 then (0 : Nat) else 1) = (if w.2 = u.2 then 0 else 1) by split <;> split <;> simp_all]
def zDl : Nat → zFo → zFo → Nat
  | 0, _, _ => 0
  | _ + 1, [], [] => 0
  | f + 1, [], _ :: G => 2 + zDl f [] G
  | f + 1, _ :: F, [] => 2 + zDl f F []
  | f + 1, (s, u) :: F, (t, w) :: G => min (min (2 + zDl f F ((t, w) :: G)) (2 + zDl f ((s, u) :: F) G)) (zDl f (F.take (s - 1)) (G.take (t - 1)) + zch u w + zDl f (F.drop (s - 1)) (G.drop (t - 1)))
theorem zDl_st : ∀ (f g : Nat) (F G : zFo), F.length + G.length ≤ f → F.length + G.length ≤ g → zDl f F G = zDl g F G := by
  intro f
  induction f with
  | zero =>
    intro g F G h1 h2
    have e1 : F = [] := List.length_eq_zero_iff.1 (by omega)
    have e2 : G = [] := List.length_eq_zero_iff.1 (by omega)
    subst e1 e2
    cases g <;> rfl
  | succ f ih =>
    intro g F G h1 h2
    cases g with
    | zero =>
      have e1 : F = [] := List.length_eq_zero_iff.1 (by omega)
      have e2 : G = [] := List.length_eq_zero_iff.1 (by omega)
      subst e1 e2
      rfl
    | succ g =>
      cases F with
      | nil =>
        cases G with
        | nil => rfl
        | cons b G =>
          simp only [List.length_cons, List.length_nil] at h1 h2
          show 2 + zDl f [] G = 2 + zDl g [] G
          rw [ih g [] G (by simp only [List.length_nil]; omega) (by simp only [List.length_nil]; omega)]
      | cons a F =>
        cases G with
        | nil =>
          simp only [List.length_cons, List.length_nil] at h1 h2
          show 2 + zDl f F [] = 2 + zDl g F []
          rw [ih g F [] (by simp only [List.length_nil]; omega) (by simp only [List.length_nil]; omega)]
        | cons b G =>
          simp only [List.length_cons] at h1 h2
          show min (min (2 + zDl f F (b :: G)) (2 + zDl f (a :: F) G)) (zDl f (F.take (a.1 - 1)) (G.take (b.1 - 1)) + zch a.2 b.2 + zDl f (F.drop (a.1 - 1)) (G.drop (b.1 - 1))) = min (min (2 + zDl g F (b :: G)) (2 + zDl g (a :: F) G)) (zDl g (F.take (a.1 - 1)) (G.take (b.1 - 1)) + zch a.2 b.2 + zDl g (F.drop (a.1 - 1)) (G.drop (b.1 - 1)))
          rw [ih g F (b :: G) (by simp only [List.length_cons]; omega) (by simp only [List.length_cons]; omega), ih g (a :: F) G (by simp only [List.length_cons]; omega) (by simp only [List.length_cons]; omega), ih g (F.take (a.1 - 1)) (G.take (b.1 - 1)) (by simp only [List.length_take]; omega) (by simp only [List.length_take]; omega), ih g (F.drop (a.1 - 1)) (G.drop (b.1 - 1)) (by simp only [List.length_drop]; omega) (by simp only [List.length_drop]; omega)]
def zd (F G : zFo) : Nat := zDl (F.length + G.length) F G
theorem zd_00 : zd [] [] = 0 := rfl
theorem zd_0c (b : Nat × Int × Int) (G : zFo) : zd [] (b :: G) = 2 + zd [] G := by
  unfold zd
  rw [show ([] : zFo).length + (b :: G).length = ([] : zFo).length + G.length + 1 by simp only [List.length_cons]; omega]
  rfl
theorem zd_c0 (a : Nat × Int × Int) (F : zFo) : zd (a :: F) [] = 2 + zd F [] := by
  unfold zd
  rw [show (a :: F).length + ([] : zFo).length = F.length + ([] : zFo).length + 1 by simp only [List.length_cons]; omega]
  rfl
theorem zd_cc (a b : Nat × Int × Int) (F G : zFo) : zd (a :: F) (b :: G) = min (min (2 + zd F (b :: G)) (2 + zd (a :: F) G)) (zd (F.take (a.1 - 1)) (G.take (b.1 - 1)) + zch a.2 b.2 + zd (F.drop (a.1 - 1)) (G.drop (b.1 - 1))) := by
  have e : zd (a :: F) (b :: G) = zDl (F.length + G.length + 1 + 1) (a :: F) (b :: G) := by
    unfold zd
    rw [show (a :: F).length + (b :: G).length = F.length + G.length + 1 + 1 by simp only [List.length_cons]; omega]
  rw [e]
  show min (min (2 + zDl (F.length + G.length + 1) F (b :: G)) (2 + zDl (F.length + G.length + 1) (a :: F) G)) (zDl (F.length + G.length + 1) (F.take (a.1 - 1)) (G.take (b.1 - 1)) + zch a.2 b.2 + zDl (F.length + G.length + 1) (F.drop (a.1 - 1)) (G.drop (b.1 - 1))) = _
  unfold zd
  rw [zDl_st _ _ F (b :: G) (by simp only [List.length_cons]; omega) (Nat.le_refl _), zDl_st _ _ (a :: F) G (by simp only [List.length_cons]; omega) (Nat.le_refl _), zDl_st _ _ (F.take (a.1 - 1)) (G.take (b.1 - 1)) (by simp only [List.length_take]; omega) (Nat.le_refl _), zDl_st _ _ (F.drop (a.1 - 1)) (G.drop (b.1 - 1)) (by simp only [List.length_drop]; omega) (Nat.le_refl _)]
theorem zd_del (a : Nat × Int × Int) (F G : zFo) : zd (a :: F) G ≤ 2 + zd F G := by
  cases G with
  | nil => rw [zd_c0]; exact Nat.le_refl _
  | cons b G => rw [zd_cc]; omega
theorem zd_ins (b : Nat × Int × Int) (F G : zFo) : zd F (b :: G) ≤ 2 + zd F G := by
  cases F with
  | nil => rw [zd_0c]; exact Nat.le_refl _
  | cons a F => rw [zd_cc]; omega
theorem zd_mat (a b : Nat × Int × Int) (F G : zFo) : zd (a :: F) (b :: G) ≤ zd (F.take (a.1 - 1)) (G.take (b.1 - 1)) + zch a.2 b.2 + zd (F.drop (a.1 - 1)) (G.drop (b.1 - 1)) := by
  rw [zd_cc]
  omega
theorem zd_or (a b : Nat × Int × Int) (F G : zFo) : zd (a :: F) (b :: G) = 2 + zd F (b :: G) ∨ zd (a :: F) (b :: G) = 2 + zd (a :: F) G ∨ zd (a :: F) (b :: G) = zd (F.take (a.1 - 1)) (G.take (b.1 - 1)) + zch a.2 b.2 + zd (F.drop (a.1 - 1)) (G.drop (b.1 - 1)) := by
  rw [zd_cc]
  omega
theorem zd_le : ∀ (n : Nat) (F G : zFo), F.length + G.length ≤ n → zd F G ≤ 2 * (F.length + G.length) := by
  intro n
  induction n with
  | zero =>
    intro F G h
    have e1 : F = [] := List.length_eq_zero_iff.1 (by omega)
    have e2 : G = [] := List.length_eq_zero_iff.1 (by omega)
    subst e1 e2
    exact Nat.le_refl _
  | succ n ih =>
    intro F G h
    cases F with
    | nil =>
      cases G with
      | nil => exact Nat.le_refl _
      | cons b G =>
        have z := ih [] G (by simp only [List.length_cons, List.length_nil] at h ⊢; omega)
        rw [zd_0c]
        simp only [List.length_cons, List.length_nil] at z ⊢
        omega
    | cons a F =>
      have z := ih F G (by simp only [List.length_cons] at h; omega)
      have y := ih F G (by simp only [List.length_cons] at h; omega)
      have d := zd_del a F G
      simp only [List.length_cons]
      omega
theorem zd_sy : ∀ (n : Nat) (F G : zFo), F.length + G.length ≤ n → zd F G = zd G F := by
  intro n
  induction n with
  | zero =>
    intro F G h
    have e1 : F = [] := List.length_eq_zero_iff.1 (by omega)
    have e2 : G = [] := List.length_eq_zero_iff.1 (by omega)
    subst e1 e2
    rfl
  | succ n ih =>
    intro F G h
    cases F with
    | nil =>
      cases G with
      | nil => rfl
      | cons b G =>
        rw [zd_0c, zd_c0, ih [] G (by simp only [List.length_cons, List.length_nil] at h ⊢; omega)]
    | cons a F =>
      cases G with
      | nil => rw [zd_0c, zd_c0, ih F [] (by simp only [List.length_cons, List.length_nil] at h ⊢; omega)]
      | cons b G =>
        simp only [List.length_cons] at h
        rw [zd_cc, zd_cc, ih F (b :: G) (by simp only [List.length_cons]; omega), ih (a :: F) G (by simp only [List.length_cons]; omega), ih (F.take (a.1 - 1)) (G.take (b.1 - 1)) (by simp only [List.length_take]; omega), ih (F.drop (a.1 - 1)) (G.drop (b.1 - 1)) (by simp only [List.length_drop]; omega), zch_s]
        omega
theorem zd_symm (F G : zFo) : zd F G = zd G F := zd_sy _ F G (Nat.le_refl _)
/-! well made lists -/
def zWf : Nat → zFo → Prop
  | _, [] => True
  | 0, _ :: _ => False
  | f + 1, (s, _) :: F => 1 ≤ s ∧ s - 1 ≤ F.length ∧ zWf f (F.take (s - 1)) ∧ zWf f (F.drop (s - 1))
theorem zWf_st : ∀ (f g : Nat) (F : zFo), F.length ≤ f → F.length ≤ g → zWf f F → zWf g F := by
  intro f
  induction f with
  | zero =>
    intro g F h1 h2 w
    have e1 : F = [] := List.length_eq_zero_iff.1 (by omega)
    subst e1
    cases g <;> exact trivial
  | succ f ih =>
    intro g F h1 h2 w
    cases F with
    | nil => cases g <;> exact trivial
    | cons a F =>
      simp only [List.length_cons] at h1 h2
      cases g with
      | zero => omega
      | succ g => exact ⟨w.1, w.2.1, ih g _ (by simp only [List.length_take]; omega) (by simp only [List.length_take]; omega) w.2.2.1, ih g _ (by simp only [List.length_drop]; omega) (by simp only [List.length_drop]; omega) w.2.2.2⟩
def zwf (F : zFo) : Prop := zWf F.length F
theorem zwf_0 : zwf [] := trivial
theorem zwf_c {a : Nat × Int × Int} {F : zFo} : zwf (a :: F) ↔ 1 ≤ a.1 ∧ a.1 - 1 ≤ F.length ∧ zwf (F.take (a.1 - 1)) ∧ zwf (F.drop (a.1 - 1)) := by
  constructor
  · intro w
    exact ⟨w.1, w.2.1, zWf_st _ _ _ (by simp only [List.length_take]; omega) (Nat.le_refl _) w.2.2.1, zWf_st _ _ _ (by simp only [List.length_drop]; omega) (Nat.le_refl _) w.2.2.2⟩
  · intro w
    exact ⟨w.1, w.2.1, zWf_st _ _ _ (Nat.le_refl _) (by simp only [List.length_take]; omega) w.2.2.1, zWf_st _ _ _ (Nat.le_refl _) (by simp only [List.length_drop]; omega) w.2.2.2⟩
theorem zwf_app : ∀ (n : Nat) (A B : zFo), A.length ≤ n → zwf A → zwf B → zwf (A ++ B) := by
  intro n
  induction n with
  | zero =>
    intro A B h wa wb
    have e1 : A = [] := List.length_eq_zero_iff.1 (by omega)
    subst e1
    exact wb
  | succ n ih =>
    intro A B h wa wb
    cases A with
    | nil => exact wb
    | cons a A =>
      simp only [List.length_cons] at h
      have w := zwf_c.1 wa
      rw [List.cons_append]
      refine zwf_c.2 ⟨w.1, by simp only [List.length_append]; omega, ?_, ?_⟩
      · rw [List.take_append_of_le_length w.2.1]
        exact w.2.2.1
      · rw [List.drop_append_of_le_length w.2.1]
        exact ih _ B (by simp only [List.length_drop]; omega) w.2.2.2 wb
theorem zwf_t {a : Nat × Int × Int} {F : zFo} (w : zwf (a :: F)) : zwf F := by
  have z := zwf_c.1 w
  have y := zwf_app _ _ _ (Nat.le_refl _) z.2.2.1 z.2.2.2
  rw [List.take_append_drop] at y
  exact y
/-- beside each other -/
theorem zd_S : ∀ (n : Nat) (A B C D : zFo), A.length + C.length ≤ n → zwf A → zwf C → zd (A ++ B) (C ++ D) ≤ zd A C + zd B D := by
  intro n
  induction n with
  | zero =>
    intro A B C D h wa wc
    have e1 : A = [] := List.length_eq_zero_iff.1 (by omega)
    have e2 : C = [] := List.length_eq_zero_iff.1 (by omega)
    subst e1 e2
    rw [zd_00, List.nil_append, List.nil_append]
    omega
  | succ n ih =>
    intro A B C D h wa wc
    cases A with
    | nil =>
      cases C with
      | nil =>
        rw [zd_00, List.nil_append, List.nil_append]
        omega
      | cons c C =>
        have z := ih [] B C D (by simp only [List.length_cons, List.length_nil] at h ⊢; omega) zwf_0 (zwf_t wc)
        have y := zd_ins c ([] ++ B) (C ++ D)
        rw [zd_0c, List.cons_append]
        omega
    | cons a A =>
      cases C with
      | nil =>
        have z := ih A B [] D (by simp only [List.length_cons, List.length_nil] at h ⊢; omega) (zwf_t wa) zwf_0
        have y := zd_del a (A ++ B) ([] ++ D)
        rw [zd_c0, List.cons_append]
        omega
      | cons c C =>
        simp only [List.length_cons] at h
        rcases zd_or a c A C with e | e | e
        · have z := ih A B (c :: C) D (by simp only [List.length_cons]; omega) (zwf_t wa) wc
          have y := zd_del a (A ++ B) (c :: C ++ D)
          rw [e, List.cons_append]
          omega
        · have z := ih (a :: A) B C D (by simp only [List.length_cons]; omega) wa (zwf_t wc)
          have y := zd_ins c (a :: A ++ B) (C ++ D)
          rw [e, List.cons_append (as := C)]
          omega
        · have w1 := zwf_c.1 wa
          have w2 := zwf_c.1 wc
          have y := zd_mat a c (A ++ B) (C ++ D)
          rw [List.take_append_of_le_length w1.2.1, List.take_append_of_le_length w2.2.1, List.drop_append_of_le_length w1.2.1, List.drop_append_of_le_length w2.2.1] at y
          have z := ih (A.drop (a.1 - 1)) B (C.drop (c.1 - 1)) D (by simp only [List.length_drop]; omega) w1.2.2.2 w2.2.2.2
          rw [e, List.cons_append, List.cons_append]
          omega
/-- a root taken out at the right end -/
theorem zd_R : ∀ (n : Nat) (A F1 G : zFo) (u : Int × Int), A.length + G.length ≤ n → zwf A → zd (A ++ (F1.length + 1, u) :: F1) G ≤ 2 + zd (A ++ F1) G := by
  intro n
  induction n with
  | zero =>
    intro A F1 G u h wa
    have e1 : A = [] := List.length_eq_zero_iff.1 (by omega)
    subst e1
    exact zd_del _ _ _
  | succ n ih =>
    intro A F1 G u h wa
    cases A with
    | nil => exact zd_del _ _ _
    | cons a A =>
      simp only [List.length_cons] at h
      have w1 := zwf_c.1 wa
      cases G with
      | nil =>
        have z := ih A F1 [] u (by simp only [List.length_nil] at h ⊢; omega) (zwf_t wa)
        rw [List.cons_append, List.cons_append, zd_c0, zd_c0]
        omega
      | cons g G =>
        simp only [List.length_cons] at h
        rw [List.cons_append, List.cons_append]
        rcases zd_or a g (A ++ F1) G with e | e | e
        · have z := ih A F1 (g :: G) u (by simp only [List.length_cons]; omega) (zwf_t wa)
          have y := zd_del a (A ++ (F1.length + 1, u) :: F1) (g :: G)
          omega
        · have z := ih (a :: A) F1 G u (by simp only [List.length_cons]; omega) wa
          have y := zd_ins g (a :: (A ++ (F1.length + 1, u) :: F1)) G
          rw [List.cons_append, List.cons_append] at z
          omega
        · have y := zd_mat a g (A ++ (F1.length + 1, u) :: F1) G
          rw [List.take_append_of_le_length w1.2.1, List.drop_append_of_le_length w1.2.1] at y e
          have z := ih (A.drop (a.1 - 1)) F1 (G.drop (g.1 - 1)) u (by simp only [List.length_drop]; omega) w1.2.2.2
          omega
/-! the mirror -/
def zMr : Nat → zFo → zFo
  | 0, _ => []
  | _ + 1, [] => []
  | f + 1, (s, u) :: F => zMr f (F.drop (s - 1)) ++ ((s, u) :: zMr f (F.take (s - 1)))
theorem zMr_st : ∀ (f g : Nat) (F : zFo), F.length ≤ f → F.length ≤ g → zMr f F = zMr g F := by
  intro f
  induction f with
  | zero =>
    intro g F h1 h2
    have e1 : F = [] := List.length_eq_zero_iff.1 (by omega)
    subst e1
    cases g <;> rfl
  | succ f ih =>
    intro g F h1 h2
    cases F with
    | nil => cases g <;> rfl
    | cons a F =>
      simp only [List.length_cons] at h1 h2
      cases g with
      | zero => omega
      | succ g =>
        show zMr f (F.drop (a.1 - 1)) ++ (a :: zMr f (F.take (a.1 - 1))) = zMr g (F.drop (a.1 - 1)) ++ (a :: zMr g (F.take (a.1 - 1)))
        rw [ih g (F.drop (a.1 - 1)) (by simp only [List.length_drop]; omega) (by simp only [List.length_drop]; omega), ih g (F.take (a.1 - 1)) (by simp only [List.length_take]; omega) (by simp only [List.length_take]; omega)]
def zmr (F : zFo) : zFo := zMr F.length F
theorem zmr_c (a : Nat × Int × Int) (F : zFo) : zmr (a :: F) = zmr (F.drop (a.1 - 1)) ++ (a :: zmr (F.take (a.1 - 1))) := by
  show zMr F.length (F.drop (a.1 - 1)) ++ (a :: zMr F.length (F.take (a.1 - 1))) = _
  unfold zmr
  rw [zMr_st _ _ (F.drop (a.1 - 1)) (by simp only [List.length_drop]; omega) (Nat.le_refl _), zMr_st _ _ (F.take (a.1 - 1)) (by simp only [List.length_take]; omega) (Nat.le_refl _)]
theorem zmr_l : ∀ (n : Nat) (F : zFo), F.length ≤ n → (zmr F).length = F.length := by
  intro n
  induction n with
  | zero =>
    intro F h
    have e1 : F = [] := List.length_eq_zero_iff.1 (by omega)
    subst e1
    rfl
  | succ n ih =>
    intro F h
    cases F with
    | nil => rfl
    | cons a F =>
      simp only [List.length_cons] at h
      have z1 := ih (F.drop (a.1 - 1)) (by simp only [List.length_drop]; omega)
      have z2 := ih (F.take (a.1 - 1)) (by simp only [List.length_take]; omega)
      rw [zmr_c, List.length_append, List.length_cons, z1, z2, List.length_drop, List.length_take, List.length_cons]
      omega
theorem zmr_len (F : zFo) : (zmr F).length = F.length := zmr_l _ F (Nat.le_refl _)
theorem zmr_app : ∀ (n : Nat) (A B : zFo), A.length ≤ n → zwf A → zmr (A ++ B) = zmr B ++ zmr A := by
  intro n
  induction n with
  | zero =>
    intro A B h wa
    have e1 : A = [] := List.length_eq_zero_iff.1 (by omega)
    subst e1
    show zmr B = zmr B ++ []
    rw [List.append_nil]
  | succ n ih =>
    intro A B h wa
    cases A with
    | nil =>
      show zmr B = zmr B ++ []
      rw [List.append_nil]
    | cons a A =>
      simp only [List.length_cons] at h
      have w := zwf_c.1 wa
      rw [List.cons_append, zmr_c, zmr_c, List.take_append_of_le_length w.2.1, List.drop_append_of_le_length w.2.1, ih (A.drop (a.1 - 1)) B (by simp only [List.length_drop]; omega) w.2.2.2, List.append_assoc]
theorem zmr_w : ∀ (n : Nat) (F : zFo), F.length ≤ n → zwf F → zwf (zmr F) := by
  intro n
  induction n with
  | zero =>
    intro F h w
    have e1 : F = [] := List.length_eq_zero_iff.1 (by omega)
    subst e1
    exact zwf_0
  | succ n ih =>
    intro F h w
    cases F with
    | nil => exact zwf_0
    | cons a F =>
      simp only [List.length_cons] at h
      have z := zwf_c.1 w
      rw [zmr_c]
      have e : (zmr (F.take (a.1 - 1))).length = a.1 - 1 := by rw [zmr_len, List.length_take]; omega
      refine zwf_app _ _ _ (Nat.le_refl _) (ih _ (by simp only [List.length_drop]; omega) z.2.2.2) (zwf_c.2 ⟨z.1, by omega, ?_, ?_⟩)
      · rw [List.take_of_length_le (by omega)]
        exact ih _ (by simp only [List.length_take]; omega) z.2.2.1
      · rw [List.drop_of_length_le (by omega)]
        exact zwf_0
theorem zmr_mr : ∀ (n : Nat) (F : zFo), F.length ≤ n → zwf F → zmr (zmr F) = F := by
  intro n
  induction n with
  | zero =>
    intro F h w
    have e1 : F = [] := List.length_eq_zero_iff.1 (by omega)
    subst e1
    rfl
  | succ n ih =>
    intro F h w
    cases F with
    | nil => rfl
    | cons a F =>
      simp only [List.length_cons] at h
      have z := zwf_c.1 w
      have e : (zmr (F.take (a.1 - 1))).length = a.1 - 1 := by rw [zmr_len, List.length_take]; omega
      rw [zmr_c, zmr_app _ _ _ (Nat.le_refl _) (zmr_w _ _ (Nat.le_refl _) z.2.2.2), zmr_c, List.drop_of_length_le (by omega), List.take_of_length_le (by omega), ih _ (by simp only [List.length_take]; omega) z.2.2.1, ih _ (by simp only [List.length_drop]; omega) z.2.2.2]
      show a :: F.take (a.1 - 1) ++ F.drop (a.1 - 1) = a :: F
      rw [List.cons_append, List.take_append_drop]
theorem zd_ml : ∀ (n : Nat) (F G : zFo), F.length + G.length ≤ n → zwf F → zwf G → zd (zmr F) (zmr G) ≤ zd F G := by
  intro n
  induction n with
  | zero =>
    intro F G h wf wg
    have e1 : F = [] := List.length_eq_zero_iff.1 (by omega)
    have e2 : G = [] := List.length_eq_zero_iff.1 (by omega)
    subst e1 e2
    exact Nat.le_refl _
  | succ n ih =>
    -- the first root of one side taken out
    have del : ∀ (a : Nat × Int × Int) (F Y : zFo), zwf (a :: F) → zd (zmr (a :: F)) Y ≤ 2 + zd (zmr F) Y := fun a F Y w => by
      have z := zwf_c.1 w
      have l : (zmr (F.take (a.1 - 1))).length + 1 = a.1 := by rw [zmr_len, List.length_take]; omega
      have r := zd_R _ (zmr (F.drop (a.1 - 1))) (zmr (F.take (a.1 - 1))) Y a.2 (Nat.le_refl _) (zmr_w _ _ (Nat.le_refl _) z.2.2.2)
      rw [l] at r
      rw [zmr_c]
      have e := zmr_app _ (F.take (a.1 - 1)) (F.drop (a.1 - 1)) (Nat.le_refl _) z.2.2.1
      rw [List.take_append_drop] at e
      rw [e]
      exact r
    intro F G h wf wg
    cases F with
    | nil =>
      cases G with
      | nil => exact Nat.le_refl _
      | cons b G =>
        have z := ih [] G (by simp only [List.length_cons, List.length_nil] at h ⊢; omega) zwf_0 (zwf_t wg)
        have y := del b G (zmr []) wg
        rw [zd_symm (zmr (b :: G)), zd_symm (zmr G)] at y
        rw [zd_0c]
        omega
    | cons a F =>
      cases G with
      | nil =>
        have z := ih F [] (by simp only [List.length_cons, List.length_nil] at h ⊢; omega) (zwf_t wf) zwf_0
        have y := del a F (zmr []) wf
        rw [zd_c0]
        omega
      | cons b G =>
        simp only [List.length_cons] at h
        rcases zd_or a b F G with e | e | e
        · have z := ih F (b :: G) (by simp only [List.length_cons]; omega) (zwf_t wf) wg
          have y := del a F (zmr (b :: G)) wf
          omega
        · have z := ih (a :: F) G (by simp only [List.length_cons]; omega) wf (zwf_t wg)
          have y := del b G (zmr (a :: F)) wg
          rw [zd_symm (zmr (b :: G)), zd_symm (zmr G)] at y
          omega
        · have w1 := zwf_c.1 wf
          have w2 := zwf_c.1 wg
          have l1 : (zmr (F.take (a.1 - 1))).length = a.1 - 1 := by rw [zmr_len, List.length_take]; omega
          have l2 : (zmr (G.take (b.1 - 1))).length = b.1 - 1 := by rw [zmr_len, List.length_take]; omega
          have s := zd_S _ (zmr (F.drop (a.1 - 1))) (a :: zmr (F.take (a.1 - 1))) (zmr (G.drop (b.1 - 1))) (b :: zmr (G.take (b.1 - 1))) (Nat.le_refl _) (zmr_w _ _ (Nat.le_refl _) w1.2.2.2) (zmr_w _ _ (Nat.le_refl _) w2.2.2.2)
          have m := zd_mat a b (zmr (F.take (a.1 - 1))) (zmr (G.take (b.1 - 1)))
          have t1 : (zmr (F.take (a.1 - 1))).take (a.1 - 1) = zmr (F.take (a.1 - 1)) := List.take_of_length_le (by omega)
          have t2 : (zmr (G.take (b.1 - 1))).take (b.1 - 1) = zmr (G.take (b.1 - 1)) := List.take_of_length_le (by omega)
          have t3 : (zmr (F.take (a.1 - 1))).drop (a.1 - 1) = [] := List.drop_of_length_le (by omega)
          have t4 : (zmr (G.take (b.1 - 1))).drop (b.1 - 1) = [] := List.drop_of_length_le (by omega)
          rw [t1, t2, t3, t4, zd_00] at m
          have z1 := ih (F.take (a.1 - 1)) (G.take (b.1 - 1)) (by simp only [List.length_take]; omega) w1.2.2.1 w2.2.2.1
          have z2 := ih (F.drop (a.1 - 1)) (G.drop (b.1 - 1)) (by simp only [List.length_drop]; omega) w1.2.2.2 w2.2.2.2
          rw [e, zmr_c, zmr_c]
          omega
/-- from the left or from the right: the same price -/
theorem zd_m {F G : zFo} (wf : zwf F) (wg : zwf G) : zd (zmr F) (zmr G) = zd F G := by
  have a := zd_ml _ F G (Nat.le_refl _) wf wg
  have b := zd_ml _ (zmr F) (zmr G) (Nat.le_refl _) (zmr_w _ _ (Nat.le_refl _) wf) (zmr_w _ _ (Nat.le_refl _) wg)
  rw [zmr_mr _ _ (Nat.le_refl _) wf, zmr_mr _ _ (Nat.le_refl _) wg] at b
  omega
/-! a root around all -/
theorem zd_lip : ∀ (n : Nat) (F G : zFo) (u : Int × Int), F.length ≤ n → zwf F → zwf G → zd F G ≤ 2 + zd F ((G.length + 1, u) :: G) := by
  intro n
  induction n with
  | zero =>
    intro F G u h wf wg
    have e1 : F = [] := List.length_eq_zero_iff.1 (by omega)
    subst e1
    rw [zd_0c]
    omega
  | succ n ih =>
    intro F G u h wf wg
    cases F with
    | nil =>
      rw [zd_0c]
      omega
    | cons a F =>
      simp only [List.length_cons] at h
      have w := zwf_c.1 wf
      rcases zd_or a (G.length + 1, u) F G with e | e | e
      · have z := ih F G u (by omega) (zwf_t wf) wg
        have y := zd_del a F G
        omega
      · omega
      · have y := zd_del a F G
        have s := zd_S _ (F.take (a.1 - 1)) (F.drop (a.1 - 1)) G [] (Nat.le_refl _) w.2.2.1 wg
        rw [List.take_append_drop, List.append_nil] at s
        simp only [Nat.add_sub_cancel] at e
        rw [List.take_of_length_le (Nat.le_refl _), List.drop_of_length_le (Nat.le_refl _)] at e
        omega
theorem zd_root {F G : zFo} (wf : zwf F) (wg : zwf G) (u : Int × Int) : zd ((F.length + 1, u) :: F) ((G.length + 1, u) :: G) = zd F G := by
  have l1 := zd_lip _ F G u (Nat.le_refl _) wf wg
  have l2 := zd_lip _ G F u (Nat.le_refl _) wg wf
  rw [zd_symm G F, zd_symm G] at l2
  have m := zd_cc (F.length + 1, u) (G.length + 1, u) F G
  simp only [Nat.add_sub_cancel] at m
  rw [List.take_of_length_le (Nat.le_refl _), List.take_of_length_le (Nat.le_refl _), List.drop_of_length_le (Nat.le_refl _), List.drop_of_length_le (Nat.le_refl _), zd_00] at m
  have c : zch u u = 0 := by unfold zch; simp
  rw [c] at m
  omega
