/-! ===== an opened page as a function of its text ===== -/
theorem zCt_surj {r N : Int → Int} : ∀ k : Nat, ∀ j : Nat, 1 ≤ j → j < zCt r N k → ∃ i : Nat, i < k ∧ N i ≠ -1 ∧ r (5 * i) ≠ 8 ∧ zCt r N i = j := by
  intro k
  induction k with
  | zero =>
    intro j j1 j2
    have : zCt r N 0 = 1 := rfl
    omega
  | succ k ih =>
    intro j j1 j2
    by_cases c : N k ≠ -1 ∧ r (5 * k) ≠ 8
    · rw [zCt_p c] at j2
      by_cases e : j = zCt r N k
      · exact ⟨k, by omega, c.1, c.2, e.symm⟩
      · obtain ⟨i, h1, h2⟩ := ih j j1 (by omega)
        exact ⟨i, by omega, h2⟩
    · rw [zCt_n c] at j2
      obtain ⟨i, h1, h2⟩ := ih j j1 j2
      exact ⟨i, by omega, h2⟩
theorem zOt_ex {r : Int → Int} {land day : Int} {cnt : Nat} (hw : ∀ k : Nat, k < cnt → -1 ≤ r (5 * k + 2) ∧ r (5 * k + 2) < k) : ∀ k : Nat, k ≤ cnt → ∃ X : zX, zOtx X 105 r k land day := by
  intro k
  induction k with
  | zero =>
    intro _
    refine ⟨zst (zst (zst (zst (fun _ _ => 0) 106 0 8) 107 0 0) 108 0 0) 105 5 1, zrd_s _ _ _ _, ?_, ?_, ?_, fun j hj => absurd hj (by omega)⟩
    · show zst (zst (zst (zst (fun _ _ => 0) 106 0 8) 107 0 0) 108 0 0) 105 5 1 106 0 = 8
      rw [zrd_n (by omega), zrd_n (by omega), zrd_n (by omega), zrd_s]
    · show zst (zst (zst (zst (fun _ _ => 0) 106 0 8) 107 0 0) 108 0 0) 105 5 1 107 0 = 0
      rw [zrd_n (by omega), zrd_n (by omega), zrd_s]
    · show zst (zst (zst (zst (fun _ _ => 0) 106 0 8) 107 0 0) 108 0 0) 105 5 1 108 0 = 0
      rw [zrd_n (by omega), zrd_s]
  | succ k ih =>
    intro hk
    obtain ⟨X, h⟩ := ih (by omega)
    have w := hw k (by omega)
    by_cases c : zPr r (X (105 + 5)) k = -1
    · exact ⟨_, zOtx_none h rfl (Or.inl c) w⟩
    · by_cases g : r (5 * k) = 8
      · exact ⟨_, zOtx_gone h g rfl w⟩
      · by_cases sw : zSw r land day k
        · exact ⟨_, zOtx_add h c g sw rfl w⟩
        · exact ⟨_, zOtx_none h rfl (Or.inr ⟨g, sw⟩) w⟩
theorem zBb_ex {m : Nat} {a : Nat → Nat} (m1 : 1 ≤ m) (pl : ∀ j, 0 < j → j < m → a j < j) : ∃ b, zBb m a b := by
  have key : ∀ (d x : Nat), x + d = m - 1 → ∃ b : Nat → Nat, (∀ i, i < m → i < b i ∧ b i ≤ m) ∧ (∀ j, x < j → j < m → b j ≤ b (a j)) ∧ (∀ i, i < m → b i = i + 1 ∨ ∃ j, i < j ∧ x < j ∧ j < m ∧ a j = i ∧ b j = b i) := by
    intro d
    induction d with
    | zero => exact fun x e => ⟨fun i => i + 1, fun i hi => ⟨Nat.lt_succ_self i, hi⟩, fun j j0 j1 => by omega, fun i _ => Or.inl rfl⟩
    | succ d ih =>
      intro x e
      obtain ⟨b, i1, i2, i3⟩ := ih (x + 1) (by omega)
      have ax := pl (x + 1) (by omega) (by omega)
      have k1 := i1 (x + 1) (by omega)
      have k2 := i1 (a (x + 1)) (by omega)
      have rs : (fun i => if i = a (x + 1) then max (b (a (x + 1))) (b (x + 1)) else b i) (a (x + 1)) = max (b (a (x + 1))) (b (x + 1)) := if_pos rfl
      have rn : ∀ i, i ≠ a (x + 1) → (fun i => if i = a (x + 1) then max (b (a (x + 1))) (b (x + 1)) else b i) i = b i := fun i hi => if_neg hi
      refine ⟨fun i => if i = a (x + 1) then max (b (a (x + 1))) (b (x + 1)) else b i, fun i hi => ?_, fun j j0 j1 => ?_, fun i hi => ?_⟩
      · by_cases c : i = a (x + 1)
        · rw [c, rs]
          omega
        · rw [rn i c]
          exact i1 i hi
      · have pj := pl j (by omega) j1
        rw [rn j (by omega)]
        by_cases c : a j = a (x + 1)
        · rw [c, rs]
          by_cases d2 : j = x + 1
          · rw [d2]; omega
          · have z := i2 j (by omega) j1
            rw [c] at z
            omega
        · rw [rn _ c]
          by_cases d2 : j = x + 1
          · exact absurd (by rw [d2]) c
          · exact i2 j (by omega) j1
      · by_cases c : i = a (x + 1)
        · subst c
          rw [rs]
          by_cases d2 : b (a (x + 1)) ≤ b (x + 1)
          · exact Or.inr ⟨x + 1, by omega, by omega, by omega, rfl, by rw [rn _ (by omega)]; omega⟩
          · rcases i3 _ hi with e2 | ⟨j, c1, c2, c3, c4, c5⟩
            · exact Or.inl (by omega)
            · exact Or.inr ⟨j, c1, by omega, c3, c4, by rw [rn _ (by omega)]; omega⟩
        · rw [rn i c]
          rcases i3 i hi with e2 | ⟨j, c1, c2, c3, c4, c5⟩
          · exact Or.inl e2
          · exact Or.inr ⟨j, c1, by omega, c3, c4, by rw [rn j (by omega)]; exact c5⟩
  obtain ⟨b, i1, i2, i3⟩ := key (m - 1) 0 (by omega)
  exact ⟨b, i1, i2, fun i hi => by
    rcases i3 i hi with c | ⟨j, c1, _, c3, c4, c5⟩
    · exact Or.inl c
    · exact Or.inr ⟨j, c1, c3, c4, c5⟩⟩
theorem zOp_ex {r : Int → Int} {land day : Int} {cnt : Nat} (c14 : cnt ≤ 14) (hw : ∀ k : Nat, k < cnt → -1 ≤ r (5 * k + 2) ∧ r (5 * k + 2) < k) (hpre : zPre r cnt) : ∃ (X : zX) (b a : Nat → Nat), zOtx X 105 r cnt land day ∧ zOpn X 105 (zCt r (X (105 + 5)) cnt) b a := by
  obtain ⟨X, tx⟩ := zOt_ex (r := r) (land := land) (day := day) hw cnt (Nat.le_refl _)
  have tm := zOtx_made tx hpre
  have cl := zCt_le r (X (105 + 5)) cnt
  obtain ⟨b, B⟩ := zBb_ex (a := fun j => (X (105 + 3) j).toNat) cl.1 (fun j j0 j1 => by have z := tm.1 j j0 j1; show (X (105 + 3) j).toNat < j; omega)
  have t3 := zBb_tr B (fun j j0 j1 => by have z := tm.1 j j0 j1; show (X (105 + 3) j).toNat < j; omega) (fun i j i0 ij jm c => by
    have z1 := tm.1 i i0 (by omega)
    have z2 := tm.1 j (by omega) jm
    have z3 := tm.2 i j i0 ij jm (by have c2 : (X (105 + 3) j).toNat < i := c; omega)
    show (X (105 + 3) j).toNat ≤ (X (105 + 3) i).toNat
    omega)
  have e : ∀ c : Int, c ≠ 109 → zsa X 109 (fun i => (b i.toNat : Int)) c = X c := fun c hc => zsa_n hc
  have e5 : zsa X 109 (fun i => (b i.toNat : Int)) (105 + 5) = X (105 + 5) := e _ (by omega)
  refine ⟨zsa X 109 (fun i => (b i.toNat : Int)), b, fun j => (X (105 + 3) j).toNat, zOtx_c tx (fun c c1 c2 c3 => e c (by omega)), ?_⟩
  rw [e5]
  refine ⟨by rw [e 105 (by omega)]; exact tx.1, cl.1, by omega, fun i hi => ?_, fun i hi => ?_, t3.1, t3.2.1 cl.1, t3.2.2⟩
  · show zsa X 109 (fun i => (b i.toNat : Int)) 109 i = b i
    rw [zsa_s]
    rfl
  · rw [e (105 + 3) (by omega)]
    by_cases i0 : i = 0
    · rw [i0]
      have z : X (105 + 3) 0 = 0 := tx.2.2.2.1
      show X (105 + 3) 0 = ((X (105 + 3) 0).toNat : Int)
      rw [z]
      rfl
    · have z := tm.1 i (by omega) hi
      show X (105 + 3) i = ((X (105 + 3) i).toNat : Int)
      omega
theorem zOt_un {X Y : zX} {o o2 : Int} {r : Int → Int} {cnt : Nat} {land day : Int} (h1 : zOtx X o r cnt land day) (h2 : zOtx Y o2 r cnt land day) : zCt r (X (o + 5)) cnt = zCt r (Y (o2 + 5)) cnt ∧ ∀ j : Nat, j < zCt r (X (o + 5)) cnt → X (o + 1) j = Y (o2 + 1) j ∧ X (o + 2) j = Y (o2 + 2) j ∧ X (o + 3) j = Y (o2 + 3) j := by
  have n : ∀ k : Nat, k < cnt → X (o + 5) k = Y (o2 + 5) k := by
    intro k
    induction k using Nat.strongRecOn with
    | _ k ih =>
      intro hk
      have a := h1.2.2.2.2 k hk
      have b := (h2.2.2.2.2 k hk).2
      have p := zPr_c (r := r) (N := X (o + 5)) (N2 := Y (o2 + 5)) a.1 (fun j hj => (ih j hj (by omega)).symm)
      have c := zCt_c (r := r) (N := X (o + 5)) (N2 := Y (o2 + 5)) k (fun j hj => (ih j hj (by omega)).symm)
      have a2 := a.2
      unfold zOtb at a2 b
      rw [p, c] at b
      by_cases c1 : zPr r (X (o + 5)) k = -1
      · rw [a2.1 c1, b.1 c1]
      · by_cases g : r (5 * k) = 8
        · rw [a2.2.1 c1 g, b.2.1 c1 g]
        · by_cases sw : zSw r land day k
          · rw [(a2.2.2.1 c1 g sw).1, (b.2.2.1 c1 g sw).1]
          · rw [a2.2.2.2 c1 g sw, b.2.2.2 c1 g sw]
  have ct : ∀ k : Nat, k ≤ cnt → zCt r (Y (o2 + 5)) k = zCt r (X (o + 5)) k := fun k hk => zCt_c k (fun j hj => (n j (by omega)).symm)
  refine ⟨(ct cnt (Nat.le_refl _)).symm, fun j hj => ?_⟩
  by_cases j0 : j = 0
  · subst j0
    exact ⟨h1.2.1.trans h2.2.1.symm, h1.2.2.1.trans h2.2.2.1.symm, h1.2.2.2.1.trans h2.2.2.2.1.symm⟩
  · obtain ⟨k, k1, k2, k3, k4⟩ := zCt_surj cnt j (by omega) hj
    have a := (h1.2.2.2.2 k k1).2
    have b := (h2.2.2.2.2 k k1).2
    unfold zOtb at a b
    rw [ct k (by omega), k4] at b
    rw [k4] at a
    have pa : zPr r (X (o + 5)) k ≠ -1 := fun c => k2 (a.1 c)
    have pe := zPr_c (r := r) (N := X (o + 5)) (N2 := Y (o2 + 5)) (h1.2.2.2.2 k k1).1 (fun i hi => (n i (by omega)).symm)
    rw [pe] at b
    by_cases sw : zSw r land day k
    · have y1 := a.2.2.1 pa k3 sw
      have y2 := b.2.2.1 pa k3 sw
      exact ⟨y1.2.2.1.trans y2.2.2.1.symm, y1.2.2.2.trans y2.2.2.2.symm, y1.2.1.trans y2.2.1.symm⟩
    · exact absurd (a.2.2.2 pa k3 sw) k2
theorem zOpn_un {X Y : zX} {o o2 : Int} {m : Nat} {b a b2 a2 : Nat → Nat} (h1 : zOpn X o m b a) (h2 : zOpn Y o2 m b2 a2) (e : ∀ j : Nat, j < m → X (o + 3) j = Y (o2 + 3) j) : ∀ i, i < m → b i = b2 i := by
  obtain ⟨_, m0, m15, _, ha, tr, b0, pa⟩ := h1
  obtain ⟨_, _, _, _, ha2, tr2, b20, pa2⟩ := h2
  have ea : ∀ j : Nat, j < m → a j = a2 j := fun j hj => by
    have x := ha j hj
    have y := ha2 j hj
    have z := e j hj
    omega
  have half : ∀ (b c a : Nat → Nat), zTr m b → zTr m c → (∀ j, 0 < j → j < m → a j < j ∧ j < b (a j) ∧ ∀ i, i < j → j < b i → i ≤ a j) → (∀ j, 0 < j → j < m → a j < j ∧ j < c (a j) ∧ ∀ i, i < j → j < c i → i ≤ a j) → ∀ i, i < m → b i ≤ c i := fun b c a t1 t2 p1 p2 i hi => by
    by_cases h : b i ≤ c i
    · exact h
    · have bi := t1.1 i hi
      have ci := t2.1 i hi
      have q1 := p1 (c i) (by omega) (by omega)
      have q2 := p2 (c i) (by omega) (by omega)
      have near := q1.2.2 i (by omega) (by omega)
      by_cases e2 : a (c i) = i
      · rw [e2] at q2
        omega
      · have z := t2.2 i (a (c i)) (by omega) (by omega) hi
        omega
  intro i hi
  have pa2' : ∀ j, 0 < j → j < m → a j < j ∧ j < b2 (a j) ∧ ∀ i, i < j → j < b2 i → i ≤ a j := fun j j0 j1 => by
    rw [ea j j1]
    exact pa2 j j0 j1
  have l1 := half b b2 a tr tr2 pa pa2' i hi
  have l2 := half b2 b a tr2 tr pa2' pa i hi
  omega
theorem zLs_c {g h : Nat → Nat × Int × Int} : ∀ (n i : Nat), (∀ k, i ≤ k → k < i + n → g k = h k) → zLs g i n = zLs h i n
  | 0, _, _ => rfl
  | n + 1, i, e => by
    show g i :: zLs g (i + 1) n = h i :: zLs h (i + 1) n
    rw [e i (Nat.le_refl _) (by omega), zLs_c n (i + 1) (fun k k0 k1 => e k (by omega) (by omega))]
theorem zFo_ex (r : Int → Int) (cnt : Nat) (land day : Int) : ∃ F : zFo, ∀ (X : zX) (o : Int) (b a : Nat → Nat), zOtx X o r cnt land day → zOpn X o (zCt r (X (o + 5)) cnt) b a → zLs (zGl2 X o b) 1 (zCt r (X (o + 5)) cnt - 1) = F := by
  by_cases h : ∃ (X : zX) (o : Int) (b a : Nat → Nat), zOtx X o r cnt land day ∧ zOpn X o (zCt r (X (o + 5)) cnt) b a
  · obtain ⟨X, o, b, a, h1, h2⟩ := h
    refine ⟨zLs (zGl2 X o b) 1 (zCt r (X (o + 5)) cnt - 1), fun Y o2 b2 a2 h3 h4 => ?_⟩
    have u := zOt_un h3 h1
    rw [u.1] at h4
    have ub := zOpn_un h4 h2 (fun j hj => (u.2 j (by omega)).2.2)
    rw [u.1]
    refine zLs_c _ _ (fun k k0 k1 => ?_)
    have v := u.2 k (by rw [u.1]; omega)
    show (b2 k - k, Y (o2 + 1) k, Y (o2 + 2) k) = (b k - k, X (o + 1) k, X (o + 2) k)
    rw [ub k (by omega), v.1, v.2.1]
  · exact ⟨[], fun X o b a h1 h2 => absurd ⟨X, o, b, a, h1, h2⟩ h⟩
/-- the forest of a text that a person sees -/
noncomputable def zFot (r : Int → Int) (cnt : Nat) (land day : Int) : zFo := Classical.choose (zFo_ex r cnt land day)
theorem zFot_e {r : Int → Int} {cnt : Nat} {land day : Int} {X : zX} {o : Int} {b a : Nat → Nat} (h1 : zOtx X o r cnt land day) (h2 : zOpn X o (zCt r (X (o + 5)) cnt) b a) : zLs (zGl2 X o b) 1 (zCt r (X (o + 5)) cnt - 1) = zFot r cnt land day := Classical.choose_spec (zFo_ex r cnt land day) X o b a h1 h2
def zAq (w : Int → Int) : zFo → Int
  | [] => 0
  | a :: F => w a.2.1 + zAq w F
theorem zAq_app (w : Int → Int) (B : zFo) : ∀ A : zFo, zAq w (A ++ B) = zAq w A + zAq w B
  | [] => by rw [List.nil_append]; show _ = 0 + _; omega
  | a :: A => by
    show w a.2.1 + zAq w (A ++ B) = w a.2.1 + zAq w A + zAq w B
    rw [zAq_app w B A]
    omega
theorem zoAs_q {X : zX} {o : Int} {b : Nat → Nat} (w : Int → Int) : ∀ n : Nat, zoAs (X (o + 1)) w n = zAq w (zLs (zGl2 X o b) 1 n)
  | 0 => rfl
  | n + 1 => by
    rw [zLs_app _ n 1 1, zAq_app, ← zoAs_q w n]
    show zoAs (X (o + 1)) w n + w (X (o + 1) ((n + 1 : Nat) : Int)) = zoAs (X (o + 1)) w n + (w (X (o + 1) ((1 + n : Nat) : Int)) + 0)
    rw [Nat.add_comm 1 n, Int.add_zero]
/-! texts: class and reference -/
def zTxt (X : zX) (pg T0 : Int) (cnt : Nat) : Prop := zk0 pg = 5 ∧ X pg 1 = cnt ∧ cnt ≤ 14 ∧ 0 ≤ T0 ∧ T0 + 71 < 22080 ∧ X 140 T0 = cnt ∧ (∀ k : Nat, k < cnt → (X 140 (T0 + 1 + 5 * k + 0) = X (1 + pg) (5 * k) ∧ 0 ≤ X (1 + pg) (5 * k) ∧ X (1 + pg) (5 * k) ≤ 7) ∧ (X 140 (T0 + 1 + 5 * k + 1) = X (1 + pg) (5 * k + 1) ∧ 0 ≤ X (1 + pg) (5 * k + 1) ∧ X (1 + pg) (5 * k + 1) ≤ 9) ∧ (X 140 (T0 + 1 + 5 * k + 2) = X (1 + pg) (5 * k + 2) ∧ -1 ≤ X (1 + pg) (5 * k + 2) ∧ X (1 + pg) (5 * k + 2) < k) ∧ (X 140 (T0 + 1 + 5 * k + 3) = X (1 + pg) (5 * k + 3) ∧ -1 ≤ X (1 + pg) (5 * k + 3) ∧ X (1 + pg) (5 * k + 3) ≤ 3) ∧ (X 140 (T0 + 1 + 5 * k + 4) = X (1 + pg) (5 * k + 4) ∧ 0 ≤ X (1 + pg) (5 * k + 4) ∧ X (1 + pg) (5 * k + 4) ≤ 99)) ∧ zPre (X (1 + pg)) cnt
theorem txt_page {X : zX} (h : zRT X 1 0) {p : Int} (p0 : 0 ≤ p) (p1 : p < 10) : zTxt X (54 + 5 * p) (2712 + 210 * p) (X (54 + 5 * p) 1).toNat := by
  have c := q_ccnt h p0 p1
  refine ⟨q_came p0 p1, by omega, by omega, by omega, by omega, by omega, fun k hk => ?_, fun i j ij jc lt => ?_⟩
  · have z := zR_crow h p k p0 p1 (by omega) (by omega) (by rw [show (1 : Int) + 53 + 5 * p = 54 + 5 * p by omega]; omega)
    rw [show (1 : Int) + 54 + 5 * p = 1 + (54 + 5 * p) by omega, show (0 : Int) + 2713 + 210 * p + 5 * (k : Int) = 2712 + 210 * p + 1 + 5 * k + 0 by omega, show (0 : Int) + 2714 + 210 * p + 5 * (k : Int) = 2712 + 210 * p + 1 + 5 * k + 1 by omega, show (0 : Int) + 2715 + 210 * p + 5 * (k : Int) = 2712 + 210 * p + 1 + 5 * k + 2 by omega, show (0 : Int) + 2716 + 210 * p + 5 * (k : Int) = 2712 + 210 * p + 1 + 5 * k + 3 by omega, show (0 : Int) + 2717 + 210 * p + 5 * (k : Int) = 2712 + 210 * p + 1 + 5 * k + 4 by omega] at z
    exact z
  · have z := zR_cpre h p i j p0 p1 (by omega) (by omega) (by rw [show (1 : Int) + 53 + 5 * p = 54 + 5 * p by omega]; omega)
    rw [show (1 : Int) + 54 + 5 * p = 1 + (54 + 5 * p) by omega] at z
    exact z lt
theorem txt_w {X X2 : zX} {pg T0 : Int} {cnt : Nat} (w : zWk X X2) (hp : pg < 102) (h : zTxt X pg T0 cnt) : zTxt X2 pg T0 cnt := by
  unfold zTxt at h ⊢
  rw [w pg (by omega), w (1 + pg) (by omega), w 140 (by omega)]
  exact h
theorem takes_M {Q : List zV → zX → Prop} {G : zG} {X : zX} {pg T0 : Int} {cnt : Nat} (hG : SH G) (t : zTxt X pg T0 cnt) (q : ∀ Y : zX, (∀ c : Int, c ≠ 139 → c ≠ 145 → c ≠ 146 → Y c = X c) → (∀ p : Int, p ≠ 15 → Y 139 p = X 139 p) → zMt Y T0 (X (1 + pg)) cnt → Q [] Y) : M_takes [zR 139, zI T0] G X Q := by
  obtain ⟨k5, c1, c14, t0, t1, tc, tk, pre⟩ := t
  have lp : ∀ (d k : Nat) (Y : zX), k + d = cnt → (∀ c : Int, c ≠ 139 → c ≠ 145 → c ≠ 146 → Y c = X c) → (∀ p : Int, p ≠ 15 → Y 139 p = X 139 p) → Y 139 15 = T0 → (∀ j : Nat, j < k → Y 145 j = 0 ∧ Y 146 j = X (1 + pg) (5 * j + 1)) → M_takes_W Q 7 [zR 139, zI T0, zI (k : Int)] [] G Y := by
    intro d
    induction d with
    | zero =>
      intro k Y e fr f2 f3 i1
      refine M_takes_f7 hG ⟨by omega, by omega, ?_⟩
      rw [fr 140 (by omega) (by omega) (by omega), tc]
      refine ⟨fun z => absurd z (by omega), fun _ => q Y fr f2 ⟨f3, t0, t1, by rw [fr 140 (by omega) (by omega) (by omega)]; exact tc, fun j hj => ?_⟩⟩
      have z := tk j hj
      have i := i1 j (by omega)
      rw [fr 140 (by omega) (by omega) (by omega)]
      refine ⟨⟨fun c => absurd i.1 c, fun c => by omega⟩, fun _ => ⟨z.1.1, z.1.2.1, z.1.2.2, i.2⟩, z.2.2.1.1, z.2.2.2.1.1, z.2.2.2.2.1⟩
    | succ d ih =>
      intro k Y e fr f2 f3 i1
      refine M_takes_f7 hG ⟨by omega, by omega, ?_⟩
      rw [fr 140 (by omega) (by omega) (by omega), tc]
      refine ⟨fun _ => ⟨by omega, by omega, boxOf_M hG (by rw [zrd_r (by omega)]; exact f3) t0 t1 (by omega) (by omega) (by omega) (by omega) ⟨_, rfl, zw_id (by omega) (by omega), ?_⟩⟩, fun z => absurd z (by omega)⟩
      rw [zrd_r (b := 140) (by omega), fr 140 (by omega) (by omega) (by omega), (tk k (by omega)).2.1.1]
      refine ih (k + 1) _ (by omega) (fun c h1 h2 h3 => by rw [zrd_r h3, zrd_r h2]; exact fr c h1 h2 h3) (fun p hp => by rw [zrd_n (by omega), zrd_n (by omega)]; exact f2 p hp) (by rw [zrd_n (by omega), zrd_n (by omega)]; exact f3) (fun j hj => ?_)
      by_cases c : j = k
      · rw [c, zrd_n (by omega), zrd_s, zrd_s]
        exact ⟨rfl, rfl⟩
      · rw [zrd_n (by omega), zrd_n (by omega), zrd_n (by omega), zrd_n (by omega)]
        exact i1 j (by omega)
  exact M_takes_f0 hG (lp cnt 0 _ (by omega) (fun c h1 _ _ => zrd_r h1) (fun p hp => zrd_n (by omega)) (zrd_s _ _ _ _) (fun j hj => absurd hj (by omega)))
/-- as the class has it opened -/
def zOpd (X : zX) (o : Int) (F : zFo) : Prop := ∃ (m : Nat) (b a : Nat → Nat), zOpn X o m b a ∧ X (o + 1) 0 = 8 ∧ X (o + 2) 0 = 0 ∧ zLs (zGl2 X o b) 1 (m - 1) = F ∧ F.length = m - 1
theorem zOpd_c {X X2 : zX} {o : Int} {F : zFo} (h : zOpd X o F) (e : ∀ c : Int, o ≤ c → c < o + 6 → X2 c = X c) : zOpd X2 o F := by
  obtain ⟨m, b, a, h1, h2, h3, h4, h5⟩ := h
  refine ⟨m, b, a, zOpn_c h1 e, by rw [e (o + 1) (by omega) (by omega)]; exact h2, by rw [e (o + 2) (by omega) (by omega)]; exact h3, ?_, h5⟩
  rw [← h4]
  refine zLs_c _ _ (fun k _ _ => ?_)
  unfold zGl2
  rw [e (o + 1) (by omega) (by omega), e (o + 2) (by omega) (by omega)]
theorem far_C {Q : List zV → zX → Prop} {G : zG} {X : zX} {F H : zFo} (hG : SH G) (h1 : zOpd X 105 F) (h2 : zOpd X 111 H) (q : ∀ X2 : zX, (∀ c : Int, c ≠ 117 → c ≠ 118 → X2 c = X c) → Q [zI (zd F H : Nat)] X2) : Rm_apart [zR 104] G X Q := by
  obtain ⟨m, b, a, o1, k1, k2, e1, l1⟩ := h1
  obtain ⟨n, b2, a2, o2, k3, k4, e2, l2⟩ := h2
  refine apart_D hG o1 o2 (fun X2 fr => ?_)
  obtain ⟨_, m0, m15, _, _, tr, b0, _⟩ := o1
  obtain ⟨_, n0, n15, _, _, tr2, b20, _⟩ := o2
  have w1 : zwf (zLs (zGl2 X 105 b) 1 (m - 1)) := zLs_wf tr (fun _ => rfl) _ _ (by omega) (fun k k0 k1 => by have := tr.1 k (by omega); omega)
  have w2 : zwf (zLs (zGl2 X 111 b2) 1 (n - 1)) := zLs_wf tr2 (fun _ => rfl) _ _ (by omega) (fun k k0 k1 => by have := tr2.1 k (by omega); omega)
  have f1 : zLs (zGl2 X 105 b) 0 (b 0 - 0) = ((zLs (zGl2 X 105 b) 1 (m - 1)).length + 1, 8, 0) :: zLs (zGl2 X 105 b) 1 (m - 1) := by
    rw [b0, show m - 0 = (m - 1) + 1 by omega, zLs_len]
    show (b 0 - 0, X (105 + 1) 0, X (105 + 2) 0) :: zLs (zGl2 X 105 b) 1 (m - 1) = _
    rw [b0, k1, k2, show m - 0 = m - 1 + 1 by omega]
  have f2 : zLs (zGl2 X 111 b2) 0 (b2 0 - 0) = ((zLs (zGl2 X 111 b2) 1 (n - 1)).length + 1, 8, 0) :: zLs (zGl2 X 111 b2) 1 (n - 1) := by
    rw [b20, show n - 0 = (n - 1) + 1 by omega, zLs_len]
    show (b2 0 - 0, X (111 + 1) 0, X (111 + 2) 0) :: zLs (zGl2 X 111 b2) 1 (n - 1) = _
    rw [b20, k3, k4, show n - 0 = n - 1 + 1 by omega]
  have e : zTd X b b2 0 0 = zd F H := by
    unfold zTd
    rw [f1, f2, zd_root w1 w2 (8, 0), e1, e2]
  rw [e]
  exact q X2 fr
theorem far_R {Q : List zV → zX → Prop} {G : zG} {Y : zX} {F H : zFo} {m n : Nat} (hG : SH G) (r1 : zRf Y 0 m F) (r2 : zRf Y 1 n H) (q : ∀ Y2 : zX, (∀ c : Int, c ≠ 155 → c ≠ 156 → Y2 c = Y c) → Q [zI (zd F H : Nat)] Y2) : M_farNow [zR 139] G Y Q := by
  refine farNow_M hG (zRf_v r1) r1.2.2.1 (zRf_v r2) r2.2.2.1 (fun Y2 fr => ?_)
  have half : ∀ (s : Int) (l : Nat) (F : zFo), zRf Y s l F → zRl (zEr Y s) ((Y 154 (16 * s + ((l - 1 : Nat) : Int))).toNat) (l - 1 + 1 - (Y 154 (16 * s + ((l - 1 : Nat) : Int))).toNat) = ((zmr F).length + 1, -1, 0) :: zmr F ∧ (∀ x, x ∈ zmr F → 0 ≤ x.2.1) := fun s l F h => by
    obtain ⟨l0, l15, _, en, fs, h1, h2, h3, h4, wf, hl⟩ := h
    refine ⟨?_, fun x hx => ?_⟩
    · rw [h3, show l - 1 + 1 - (0 : Int).toNat = (l - 1) + 1 by rfl]
      show zEr Y s (0 + (l - 1)) :: zRl (zEr Y s) 0 (l - 1) = _
      rw [zEn_Rl, en, Nat.zero_add, zmr_len, hl]
      show ((((l - 1 : Nat) : Int) - Y 154 (16 * s + ((l - 1 : Nat) : Int)) + 1).toNat, Y 152 (16 * s + ((l - 1 : Nat) : Int)), Y 153 (16 * s + ((l - 1 : Nat) : Int))) :: zmr F = _
      rw [h1, h2, h3, show (((l - 1 : Nat) : Int) - 0 + 1).toNat = l - 1 + 1 by omega]
    · rw [← en] at hx
      exact zEn_pos _ h4 x hx
  have h1 := half 0 m _ r1
  have h2 := half 1 n _ r2
  have lf := r1.2.2.2.2.2.2.2.2.2.2
  have lh := r2.2.2.2.2.2.2.2.2.2.2
  have m15 := r1.2.1
  have n15 := r2.2.1
  have e : zQt Y (fun p => (Y 154 (16 * 0 + p)).toNat) (fun p => (Y 154 (16 * 1 + p)).toNat) (m - 1) (n - 1) = zd F H := by
    unfold zQt
    show zq (zRl (zEr Y 0) ((Y 154 (16 * 0 + ((m - 1 : Nat) : Int))).toNat) (m - 1 + 1 - (Y 154 (16 * 0 + ((m - 1 : Nat) : Int))).toNat)) (zRl (zEr Y 1) ((Y 154 (16 * 1 + ((n - 1 : Nat) : Int))).toNat) (n - 1 + 1 - (Y 154 (16 * 1 + ((n - 1 : Nat) : Int))).toNat)) = _
    rw [h1.1, h2.1, zq_root h1.2 h2.2 (by rw [zmr_len, zmr_len, lf, lh]; omega), zd_m r1.2.2.2.2.2.2.2.2.2.1 r2.2.2.2.2.2.2.2.2.2.1]
  rw [e]
  exact q Y2 fr
/-- opened, class -/
theorem see_C1 {Q : List zV → zX → Prop} {G : zG} {X : zX} {pg T0 land day : Int} {cnt : Nat} (hG : SH G) (t : zTxt X pg T0 cnt) (q : ∀ X2 : zX, (∀ c : Int, c < 105 ∨ 110 < c → X2 c = X c) → zOpd X2 105 (zFot (X (1 + pg)) cnt land day) → Q [] X2) : Op_open [zR 105, zR pg, zI land, zI day] G X Q := by
  obtain ⟨k5, c1, c14, t0, t1, tc, tk, pre⟩ := t
  refine open_D105 hG k5 c1 c14 (fun k hk => (tk k hk).2.2.1.2) pre (fun X2 b a fr tx op => q X2 fr ⟨_, b, a, op, tx.2.1, tx.2.2.1, zFot_e tx op, ?_⟩)
  rw [← zFot_e tx op, zLs_len]
  rfl
theorem see_C2 {Q : List zV → zX → Prop} {G : zG} {X : zX} {pg T0 land day : Int} {cnt : Nat} (hG : SH G) (t : zTxt X pg T0 cnt) (q : ∀ X2 : zX, (∀ c : Int, c < 111 ∨ 116 < c → X2 c = X c) → zOpd X2 111 (zFot (X (1 + pg)) cnt land day) → Q [] X2) : Op_open [zR 111, zR pg, zI land, zI day] G X Q := by
  obtain ⟨k5, c1, c14, t0, t1, tc, tk, pre⟩ := t
  refine open_D111 hG k5 c1 c14 (fun k hk => (tk k hk).2.2.1.2) pre (fun X2 b a fr tx op => q X2 fr ⟨_, b, a, op, tx.2.1, tx.2.2.1, zFot_e tx op, ?_⟩)
  rw [← zFot_e tx op, zLs_len]
  rfl
/-- opened, reference: what it took is in its place -/
theorem see_R {Q : List zV → zX → Prop} {G : zG} {Y : zX} {s land day T0 : Int} {r w : Int → Int} {cnt : Nat} (hG : SH G) (s0 : 0 ≤ s) (s1 : s < 2) (c14 : cnt ≤ 14) (mt : zMt Y T0 r cnt) (hw : ∀ k : Nat, k < cnt → -1 ≤ r (5 * k + 2) ∧ r (5 * k + 2) < k) (pre : zPre r cnt) (x9 : ∀ k : Nat, k < cnt → -1 ≤ r (5 * k + 3)) (hww : ∀ j : Int, 0 ≤ j → j < 8 → Y 140 (10 + j) = w j ∧ 0 ≤ w j ∧ w j ≤ 99)
    (q : ∀ (Y2 : zX) (m : Nat), zFr Y Y2 s → zRf Y2 s m (zFot r cnt land day) → Y2 139 26 = ((zFot r cnt land day).length : Int) → Y2 139 27 = zAq w (zFot r cnt land day) → Q [] Y2) : M_opens [zR 139, zI s, zI land, zI day] G Y Q := by
  obtain ⟨X1, b, a, tx, op⟩ := zOp_ex (r := r) (land := land) (day := day) c14 hw pre
  have e := zFot_e tx op
  have op2 := op
  obtain ⟨_, m0, m15, _, _, tr, b0, _⟩ := op2
  have wf : zwf (zLs (zGl2 X1 105 b) 1 (zCt r (X1 (105 + 5)) cnt - 1)) := zLs_wf tr (fun _ => rfl) _ _ (by omega) (fun k k0 k1 => by have := tr.1 k (by omega); omega)
  have ln : (zFot r cnt land day).length = zCt r (X1 (105 + 5)) cnt - 1 := by rw [← e, zLs_len]
  refine opens_M hG s0 s1 c14 tx rfl op mt x9 hww (fun Y2 f h26 h27 h151 en fs h1 h2 h3 h4 => ?_)
  rw [e] at en wf
  refine q Y2 (zCt r (X1 (105 + 5)) cnt) f ⟨m0, m15, h151, en, fs, h1, h2, h3, h4, wf, ln⟩ (by omega) ?_
  rw [h27, zoAs_q (b := b), e]
