/-! ===== the price of changes where a page itself is dear ===== -/
def zpr (a : Nat × Int × Int) : Nat := if a.2.1 < 0 then 1000 else 2
theorem zpr_le (a : Nat × Int × Int) : zpr a ≤ 1000 := by
  unfold zpr
  split <;> omega
def zchq (u w : Int × Int) : Nat := if u.1 < 0 ∨ w.1 < 0 then (if u.1 = w.1 then 0 else 1000) else zch u w
theorem zchq_le (u w : Int × Int) : zchq u w ≤ 1000 := by
  unfold zchq zch
  split
  · split <;> omega
  · split <;> split <;> omega
def zQl : Nat → zFo → zFo → Nat
  | 0, _, _ => 0
  | _ + 1, [], [] => 0
  | f + 1, [], b :: G => zpr b + zQl f [] G
  | f + 1, a :: F, [] => zpr a + zQl f F []
  | f + 1, (s, u) :: F, (t, w) :: G => min (min (zpr (s, u) + zQl f F ((t, w) :: G)) (zpr (t, w) + zQl f ((s, u) :: F) G)) (zQl f (F.take (s - 1)) (G.take (t - 1)) + zchq u w + zQl f (F.drop (s - 1)) (G.drop (t - 1)))
theorem zQl_st : ∀ (f g : Nat) (F G : zFo), F.length + G.length ≤ f → F.length + G.length ≤ g → zQl f F G = zQl g F G := by
  intro f
  induction f with
  | zero =>
    intro g F G h1 h2
    have e1 : F = [] := List.length_eq_zero_iff.1 (by omega)
    have e2 : G = [] := List.length_eq_zero_iff.1 (by omega)
    subst e1 e2
    cases g <;> rfl
  | succ f ih =>
    intro g F G h1 h2
    cases g with
    | zero =>
      have e1 : F = [] := List.length_eq_zero_iff.1 (by omega)
      have e2 : G = [] := List.length_eq_zero_iff.1 (by omega)
      subst e1 e2
      rfl
    | succ g =>
      cases F with
      | nil =>
        cases G with
        | nil => rfl
        | cons b G =>
          simp only [List.length_cons, List.length_nil] at h1 h2
          show zpr b + zQl f [] G = zpr b + zQl g [] G
          rw [ih g [] G (by simp only [List.length_nil]; omega) (by simp only [List.length_nil]; omega)]
      | cons a F =>
        cases G with
        | nil =>
          simp only [List.length_cons, List.length_nil] at h1 h2
          show zpr a + zQl f F [] = zpr a + zQl g F []
          rw [ih g F [] (by simp only [List.length_nil]; omega) (by simp only [List.length_nil]; omega)]
        | cons b G =>
          simp only [List.length_cons] at h1 h2
          show min (min (zpr a + zQl f F (b :: G)) (zpr b + zQl f (a :: F) G)) (zQl f (F.take (a.1 - 1)) (G.take (b.1 - 1)) + zchq a.2 b.2 + zQl f (F.drop (a.1 - 1)) (G.drop (b.1 - 1))) = min (min (zpr a + zQl g F (b :: G)) (zpr b + zQl g (a :: F) G)) (zQl g (F.take (a.1 - 1)) (G.take (b.1 - 1)) + zchq a.2 b.2 + zQl g (F.drop (a.1 - 1)) (G.drop (b.1 - 1)))
          rw [ih g F (b :: G) (by simp only [List.length_cons]; omega) (by simp only [List.length_cons]; omega), ih g (a :: F) G (by simp only [List.length_cons]; omega) (by simp only [List.length_cons]; omega), ih g (F.take (a.1 - 1)) (G.take (b.1 - 1)) (by simp only [List.length_take]; omega) (by simp only [List.length_take]; omega), ih g (F.drop (a.1 - 1)) (G.drop (b.1 - 1)) (by simp only [List.length_drop]; omega) (by simp only [List.length_drop]; omega)]
def zq (F G : zFo) : Nat := zQl (F.length + G.length) F G
theorem zq_00 : zq [] [] = 0 := rfl
theorem zq_0c (b : Nat × Int × Int) (G : zFo) : zq [] (b :: G) = zpr b + zq [] G := by
  unfold zq
  rw [show ([] : zFo).length + (b :: G).length = ([] : zFo).length + G.length + 1 by simp only [List.length_cons]; omega]
  rfl
theorem zq_c0 (a : Nat × Int × Int) (F : zFo) : zq (a :: F) [] = zpr a + zq F [] := by
  unfold zq
  rw [show (a :: F).length + ([] : zFo).length = F.length + ([] : zFo).length + 1 by simp only [List.length_cons]; omega]
  rfl
theorem zq_cc (a b : Nat × Int × Int) (F G : zFo) : zq (a :: F) (b :: G) = min (min (zpr a + zq F (b :: G)) (zpr b + zq (a :: F) G)) (zq (F.take (a.1 - 1)) (G.take (b.1 - 1)) + zchq a.2 b.2 + zq (F.drop (a.1 - 1)) (G.drop (b.1 - 1))) := by
  have e : zq (a :: F) (b :: G) = zQl (F.length + G.length + 1 + 1) (a :: F) (b :: G) := by
    unfold zq
    rw [show (a :: F).length + (b :: G).length = F.length + G.length + 1 + 1 by simp only [List.length_cons]; omega]
  rw [e]
  show min (min (zpr a + zQl (F.length + G.length + 1) F (b :: G)) (zpr b + zQl (F.length + G.length + 1) (a :: F) G)) (zQl (F.length + G.length + 1) (F.take (a.1 - 1)) (G.take (b.1 - 1)) + zchq a.2 b.2 + zQl (F.length + G.length + 1) (F.drop (a.1 - 1)) (G.drop (b.1 - 1))) = _
  unfold zq
  rw [zQl_st _ _ F (b :: G) (by simp only [List.length_cons]; omega) (Nat.le_refl _), zQl_st _ _ (a :: F) G (by simp only [List.length_cons]; omega) (Nat.le_refl _), zQl_st _ _ (F.take (a.1 - 1)) (G.take (b.1 - 1)) (by simp only [List.length_take]; omega) (Nat.le_refl _), zQl_st _ _ (F.drop (a.1 - 1)) (G.drop (b.1 - 1)) (by simp only [List.length_drop]; omega) (Nat.le_refl _)]
theorem zq_del (a : Nat × Int × Int) (F G : zFo) : zq (a :: F) G ≤ zpr a + zq F G := by
  cases G with
  | nil => rw [zq_c0]; exact Nat.le_refl _
  | cons b G => rw [zq_cc]; omega
theorem zq_ins (b : Nat × Int × Int) (F G : zFo) : zq F (b :: G) ≤ zpr b + zq F G := by
  cases F with
  | nil => rw [zq_0c]; exact Nat.le_refl _
  | cons a F => rw [zq_cc]; omega
theorem zq_mat (a b : Nat × Int × Int) (F G : zFo) : zq (a :: F) (b :: G) ≤ zq (F.take (a.1 - 1)) (G.take (b.1 - 1)) + zchq a.2 b.2 + zq (F.drop (a.1 - 1)) (G.drop (b.1 - 1)) := by
  rw [zq_cc]
  omega
theorem zq_or (a b : Nat × Int × Int) (F G : zFo) : zq (a :: F) (b :: G) = zpr a + zq F (b :: G) ∨ zq (a :: F) (b :: G) = zpr b + zq (a :: F) G ∨ zq (a :: F) (b :: G) = zq (F.take (a.1 - 1)) (G.take (b.1 - 1)) + zchq a.2 b.2 + zq (F.drop (a.1 - 1)) (G.drop (b.1 - 1)) := by
  rw [zq_cc]
  omega
theorem zq_le : ∀ (n : Nat) (F G : zFo), F.length + G.length ≤ n → zq F G ≤ 1000 * (F.length + G.length) := by
  intro n
  induction n with
  | zero =>
    intro F G h
    have e1 : F = [] := List.length_eq_zero_iff.1 (by omega)
    have e2 : G = [] := List.length_eq_zero_iff.1 (by omega)
    subst e1 e2
    exact Nat.le_refl _
  | succ n ih =>
    intro F G h
    cases F with
    | nil =>
      cases G with
      | nil => exact Nat.le_refl _
      | cons b G =>
        have z := ih [] G (by simp only [List.length_cons, List.length_nil] at h ⊢; omega)
        have pb := zpr_le b
        rw [zq_0c]
        simp only [List.length_cons, List.length_nil] at z ⊢
        omega
    | cons a F =>
      have z := ih F G (by simp only [List.length_cons] at h; omega)
      have y := ih F G (by simp only [List.length_cons] at h; omega)
      have d := zq_del a F G
      have pa := zpr_le a
      simp only [List.length_cons]
      omega
/-- beside each other -/
theorem zq_S : ∀ (n : Nat) (A B C D : zFo), A.length + C.length ≤ n → zwf A → zwf C → zq (A ++ B) (C ++ D) ≤ zq A C + zq B D := by
  intro n
  induction n with
  | zero =>
    intro A B C D h wa wc
    have e1 : A = [] := List.length_eq_zero_iff.1 (by omega)
    have e2 : C = [] := List.length_eq_zero_iff.1 (by omega)
    subst e1 e2
    rw [zq_00, List.nil_append, List.nil_append]
    omega
  | succ n ih =>
    intro A B C D h wa wc
    cases A with
    | nil =>
      cases C with
      | nil =>
        rw [zq_00, List.nil_append, List.nil_append]
        omega
      | cons c C =>
        have z := ih [] B C D (by simp only [List.length_cons, List.length_nil] at h ⊢; omega) zwf_0 (zwf_t wc)
        have y := zq_ins c ([] ++ B) (C ++ D)
        rw [zq_0c, List.cons_append]
        omega
    | cons a A =>
      cases C with
      | nil =>
        have z := ih A B [] D (by simp only [List.length_cons, List.length_nil] at h ⊢; omega) (zwf_t wa) zwf_0
        have y := zq_del a (A ++ B) ([] ++ D)
        rw [zq_c0, List.cons_append]
        omega
      | cons c C =>
        simp only [List.length_cons] at h
        rcases zq_or a c A C with e | e | e
        · have z := ih A B (c :: C) D (by simp only [List.length_cons]; omega) (zwf_t wa) wc
          have y := zq_del a (A ++ B) (c :: C ++ D)
          rw [e, List.cons_append]
          omega
        · have z := ih (a :: A) B C D (by simp only [List.length_cons]; omega) wa (zwf_t wc)
          have y := zq_ins c (a :: A ++ B) (C ++ D)
          rw [e, List.cons_append (as := C)]
          omega
        · have w1 := zwf_c.1 wa
          have w2 := zwf_c.1 wc
          have y := zq_mat a c (A ++ B) (C ++ D)
          rw [List.take_append_of_le_length w1.2.1, List.take_append_of_le_length w2.2.1, List.drop_append_of_le_length w1.2.1, List.drop_append_of_le_length w2.2.1] at y
          have z := ih (A.drop (a.1 - 1)) B (C.drop (c.1 - 1)) D (by simp only [List.length_drop]; omega) w1.2.2.2 w2.2.2.2
          rw [e, List.cons_append, List.cons_append]
          omega
/-- without a page itself it is the same price -/
theorem zq_d : ∀ (n : Nat) (F G : zFo), F.length + G.length ≤ n → (∀ x, x ∈ F → 0 ≤ x.2.1) → (∀ x, x ∈ G → 0 ≤ x.2.1) → zq F G = zd F G := by
  have pr : ∀ a : Nat × Int × Int, 0 ≤ a.2.1 → zpr a = 2 := fun a h => by unfold zpr; rw [if_neg (by omega)]
  have ch : ∀ u w : Int × Int, 0 ≤ u.1 → 0 ≤ w.1 → zchq u w = zch u w := fun u w h1 h2 => by unfold zchq; rw [if_neg (by omega)]
  intro n
  induction n with
  | zero =>
    intro F G h _ _
    have e1 : F = [] := List.length_eq_zero_iff.1 (by omega)
    have e2 : G = [] := List.length_eq_zero_iff.1 (by omega)
    subst e1 e2
    rfl
  | succ n ih =>
    intro F G h hf hg
    cases F with
    | nil =>
      cases G with
      | nil => rfl
      | cons b G =>
        rw [zq_0c, zd_0c, pr b (hg b (List.mem_cons_self ..)), ih [] G (by simp only [List.length_cons, List.length_nil] at h ⊢; omega) hf (fun x hx => hg x (List.mem_cons_of_mem _ hx))]
    | cons a F =>
      cases G with
      | nil =>
        rw [zq_c0, zd_c0, pr a (hf a (List.mem_cons_self ..)), ih F [] (by simp only [List.length_cons, List.length_nil] at h ⊢; omega) (fun x hx => hf x (List.mem_cons_of_mem _ hx)) hg]
      | cons b G =>
        simp only [List.length_cons] at h
        have hf2 : ∀ x, x ∈ F → 0 ≤ x.2.1 := fun x hx => hf x (List.mem_cons_of_mem _ hx)
        have hg2 : ∀ x, x ∈ G → 0 ≤ x.2.1 := fun x hx => hg x (List.mem_cons_of_mem _ hx)
        rw [zq_cc, zd_cc, pr a (hf a (List.mem_cons_self ..)), pr b (hg b (List.mem_cons_self ..)), ch a.2 b.2 (hf a (List.mem_cons_self ..)) (hg b (List.mem_cons_self ..)), ih F (b :: G) (by simp only [List.length_cons]; omega) hf2 hg, ih (a :: F) G (by simp only [List.length_cons]; omega) hf hg2, ih (F.take (a.1 - 1)) (G.take (b.1 - 1)) (by simp only [List.length_take]; omega) (fun x hx => hf2 x (List.mem_of_mem_take hx)) (fun x hx => hg2 x (List.mem_of_mem_take hx)), ih (F.drop (a.1 - 1)) (G.drop (b.1 - 1)) (by simp only [List.length_drop]; omega) (fun x hx => hf2 x (List.mem_of_mem_drop hx)) (fun x hx => hg2 x (List.mem_of_mem_drop hx))]
theorem zq_root {F G : zFo} (hf : ∀ x, x ∈ F → 0 ≤ x.2.1) (hg : ∀ x, x ∈ G → 0 ≤ x.2.1) (hl : F.length + G.length ≤ 100) : zq ((F.length + 1, -1, 0) :: F) ((G.length + 1, -1, 0) :: G) = zd F G := by
  have e := zq_d _ F G (Nat.le_refl _) hf hg
  have l := zd_le _ F G (Nat.le_refl _)
  have c := zq_cc (F.length + 1, -1, 0) (G.length + 1, -1, 0) F G
  simp only [Nat.add_sub_cancel] at c
  rw [List.take_of_length_le (Nat.le_refl _), List.take_of_length_le (Nat.le_refl _), List.drop_of_length_le (Nat.le_refl _), List.drop_of_length_le (Nat.le_refl _), zq_00, e] at c
  have p1 : zpr (F.length + 1, -1, 0) = 1000 := rfl
  have p2 : zpr (G.length + 1, -1, 0) = 1000 := rfl
  have p3 : zchq ((-1 : Int), (0 : Int)) ((-1 : Int), (0 : Int)) = 0 := rfl
  rw [p1, p2, p3] at c
  omega
/-! lists of what is closed, the last first -/
def zRl (e : Nat → Nat × Int × Int) (l : Nat) : Nat → zFo
  | 0 => []
  | n + 1 => e (l + n) :: zRl e l n
theorem zRl_len (e : Nat → Nat × Int × Int) (l : Nat) : ∀ n, (zRl e l n).length = n
  | 0 => rfl
  | n + 1 => by
    show (zRl e l n).length + 1 = n + 1
    rw [zRl_len e l n]
theorem zRl_app (e : Nat → Nat × Int × Int) (l c : Nat) : ∀ a, zRl e l (c + a) = zRl e (l + c) a ++ zRl e l c
  | 0 => rfl
  | a + 1 => by
    show e (l + (c + a)) :: zRl e l (c + a) = (e (l + c + a) :: zRl e (l + c) a) ++ zRl e l c
    rw [zRl_app e l c a, List.cons_append, Nat.add_assoc]
theorem zRl_take {e : Nat → Nat × Int × Int} {l n k : Nat} (h : k ≤ n) : (zRl e l n).take k = zRl e (l + (n - k)) k := by
  conv => lhs; rw [show n = (n - k) + k by omega]
  rw [zRl_app, List.take_append_of_le_length (by rw [zRl_len]; omega), List.take_of_length_le (by rw [zRl_len]; omega)]
theorem zRl_drop {e : Nat → Nat × Int × Int} {l n k : Nat} (h : k ≤ n) : (zRl e l n).drop k = zRl e l (n - k) := by
  conv => lhs; rw [show n = (n - k) + k by omega]
  rw [zRl_app, List.drop_append_of_le_length (by rw [zRl_len]; omega), List.drop_of_length_le (by rw [zRl_len]; omega), List.nil_append]
def zPo (m : Nat) (f : Nat → Nat) : Prop := (∀ p, p < m → f p ≤ p) ∧ (∀ p q, p < m → q < p → f p ≤ q → f p ≤ f q)
theorem zRl_wf {m : Nat} {f : Nat → Nat} {e : Nat → Nat × Int × Int} (t : zPo m f) (he : ∀ p, p < m → (e p).1 = p - f p + 1) : ∀ (n l : Nat), l + n ≤ m → (∀ p, l ≤ p → p < l + n → l ≤ f p) → zwf (zRl e l n) := by
  intro n
  induction n using Nat.strongRecOn with
  | _ n ih =>
    intro l hm hb
    cases n with
    | zero => exact zwf_0
    | succ n =>
      have h1 := hb (l + n) (by omega) (by omega)
      have h2 := t.1 (l + n) (by omega)
      refine zwf_c.2 ⟨by rw [he _ (by omega)]; omega, by rw [he _ (by omega), zRl_len]; omega, ?_, ?_⟩
      · rw [he _ (by omega), zRl_take (by omega), show l + n - f (l + n) + 1 - 1 = l + n - f (l + n) by omega, show l + (n - (l + n - f (l + n))) = f (l + n) by omega]
        exact ih _ (by omega) _ (by omega) (fun p p0 p1 => t.2 (l + n) p (by omega) (by omega) p0)
      · rw [he _ (by omega), zRl_drop (by omega)]
        exact ih _ (by omega) _ (by omega) (fun p p0 p1 => hb p p0 (by omega))
theorem zwf_po {f : Nat → Nat} {e : Nat → Nat × Int × Int} : ∀ (n l : Nat), (∀ p, l ≤ p → p < l + n → (e p).1 = p - f p + 1 ∧ f p ≤ p) → zwf (zRl e l n) → (∀ p, l ≤ p → p < l + n → l ≤ f p) ∧ (∀ p q, l ≤ p → p < l + n → q < p → f p ≤ q → f p ≤ f q) := by
  intro n
  induction n using Nat.strongRecOn with
  | _ n ih =>
    intro l he w
    cases n with
    | zero => exact ⟨fun p p0 p1 => absurd p1 (by omega), fun p q p0 p1 => absurd p1 (by omega)⟩
    | succ n =>
      have z := zwf_c.1 w
      have h0 := he (l + n) (by omega) (by omega)
      rw [h0.1, zRl_len] at z
      have fl : l ≤ f (l + n) := by omega
      rw [zRl_take (by omega), zRl_drop (by omega), show l + n - f (l + n) + 1 - 1 = l + n - f (l + n) by omega, show l + (n - (l + n - f (l + n))) = f (l + n) by omega, show n - (l + n - f (l + n)) = f (l + n) - l by omega] at z
      have i1 := ih (l + n - f (l + n)) (by omega) (f (l + n)) (fun p p0 p1 => he p (by omega) (by omega)) z.2.2.1
      have i2 := ih (f (l + n) - l) (by omega) l (fun p p0 p1 => he p (by omega) (by omega)) z.2.2.2
      constructor
      · intro p p0 p1
        by_cases c : p = l + n
        · rw [c]; exact fl
        · by_cases d : f (l + n) ≤ p
          · have := i1.1 p d (by omega)
            omega
          · exact i2.1 p p0 (by omega)
      · intro p q p0 p1 qp fq
        by_cases c : p = l + n
        · rw [c] at fq qp ⊢
          exact i1.1 q fq (by omega)
        · by_cases d : f (l + n) ≤ p
          · exact i1.2 p q d (by omega) qp fq
          · exact i2.2 p q p0 (by omega) qp fq
/-- the step of the reference's table -/
theorem zq_step {m n : Nat} {f f2 : Nat → Nat} {e e2 : Nat → Nat × Int × Int} (t : zPo m f) (t2 : zPo n f2) (he : ∀ p, p < m → (e p).1 = p - f p + 1) (he2 : ∀ p, p < n → (e2 p).1 = p - f2 p + 1) {i j la lb : Nat} (i1 : i < m) (j1 : j < n) (hi : la ≤ f i) (hj : lb ≤ f2 j) :
    (f i = la ∧ f2 j = lb → zq (zRl e la (i + 1 - la)) (zRl e2 lb (j + 1 - lb)) = min (min (zq (zRl e la (i - la)) (zRl e2 lb (j + 1 - lb)) + zpr (e i)) (zq (zRl e la (i + 1 - la)) (zRl e2 lb (j - lb)) + zpr (e2 j))) (zq (zRl e la (i - la)) (zRl e2 lb (j - lb)) + zchq (e i).2 (e2 j).2)) ∧
    (zq (zRl e la (i + 1 - la)) (zRl e2 lb (j + 1 - lb)) = min (min (zq (zRl e la (i - la)) (zRl e2 lb (j + 1 - lb)) + zpr (e i)) (zq (zRl e la (i + 1 - la)) (zRl e2 lb (j - lb)) + zpr (e2 j))) (zq (zRl e la (f i - la)) (zRl e2 lb (f2 j - lb)) + zq (zRl e (f i) (i + 1 - f i)) (zRl e2 (f2 j) (j + 1 - f2 j)))) := by
  have fi := t.1 i i1
  have fj := t2.1 j j1
  have e1 : zRl e la (i + 1 - la) = e i :: zRl e la (i - la) := by
    rw [show i + 1 - la = (i - la) + 1 by omega]
    show e (la + (i - la)) :: _ = _
    rw [show la + (i - la) = i by omega]
  have e3 : zRl e2 lb (j + 1 - lb) = e2 j :: zRl e2 lb (j - lb) := by
    rw [show j + 1 - lb = (j - lb) + 1 by omega]
    show e2 (lb + (j - lb)) :: _ = _
    rw [show lb + (j - lb) = j by omega]
  have cc := zq_cc (e i) (e2 j) (zRl e la (i - la)) (zRl e2 lb (j - lb))
  rw [← e1, ← e3, he i i1, he2 j j1, zRl_take (by omega), zRl_take (by omega), zRl_drop (by omega), zRl_drop (by omega), show i - f i + 1 - 1 = i - f i by omega, show j - f2 j + 1 - 1 = j - f2 j by omega, show la + (i - la - (i - f i)) = f i by omega, show lb + (j - lb - (j - f2 j)) = f2 j by omega, show i - la - (i - f i) = f i - la by omega, show j - lb - (j - f2 j) = f2 j - lb by omega] at cc
  constructor
  · intro c
    rw [c.1, c.2, Nat.sub_self, Nat.sub_self, show zq (zRl e la 0) (zRl e2 lb 0) = 0 from rfl] at cc
    omega
  · have g1 : zRl e (f i) (i + 1 - f i) = e i :: zRl e (f i) (i - f i) := by
      rw [show i + 1 - f i = (i - f i) + 1 by omega]
      show e (f i + (i - f i)) :: _ = _
      rw [show f i + (i - f i) = i by omega]
    have g2 : zRl e2 (f2 j) (j + 1 - f2 j) = e2 j :: zRl e2 (f2 j) (j - f2 j) := by
      rw [show j + 1 - f2 j = (j - f2 j) + 1 by omega]
      show e2 (f2 j + (j - f2 j)) :: _ = _
      rw [show f2 j + (j - f2 j) = j by omega]
    have mt := zq_mat (e i) (e2 j) (zRl e (f i) (i - f i)) (zRl e2 (f2 j) (j - f2 j))
    rw [← g1, ← g2, he i i1, he2 j j1, zRl_take (by omega), zRl_take (by omega), zRl_drop (by omega), zRl_drop (by omega), show i - f i + 1 - 1 = i - f i by omega, show j - f2 j + 1 - 1 = j - f2 j by omega, Nat.sub_self, Nat.sub_self] at mt
    simp only [Nat.add_zero] at mt
    rw [show zq (zRl e (f i) 0) (zRl e2 (f2 j) 0) = 0 from rfl] at mt
    have w1 := zRl_wf t he (i + 1 - f i) (f i) (by omega) (fun p p0 p1 => by
      by_cases c : p = i
      · rw [c]; exact Nat.le_refl _
      · exact t.2 i p i1 (by omega) p0)
    have w2 := zRl_wf t2 he2 (j + 1 - f2 j) (f2 j) (by omega) (fun p p0 p1 => by
      by_cases c : p = j
      · rw [c]; exact Nat.le_refl _
      · exact t2.2 j p j1 (by omega) p0)
    have s := zq_S _ (zRl e (f i) (i + 1 - f i)) (zRl e la (f i - la)) (zRl e2 (f2 j) (j + 1 - f2 j)) (zRl e2 lb (f2 j - lb)) (Nat.le_refl _) w1 w2
    have a1 := zRl_app e la (f i - la) (i + 1 - f i)
    have a2 := zRl_app e2 lb (f2 j - lb) (j + 1 - f2 j)
    rw [show f i - la + (i + 1 - f i) = i + 1 - la by omega, show la + (f i - la) = f i by omega] at a1
    rw [show f2 j - lb + (j + 1 - f2 j) = j + 1 - lb by omega, show lb + (f2 j - lb) = f2 j by omega] at a2
    rw [← a1, ← a2] at s
    omega
