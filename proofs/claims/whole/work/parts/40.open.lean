/-! ===== a page opened, class ===== -/
theorem zPg_far {p : Int} (h : zk0 p = 5) : (0 < p ∧ p < 103) ∨ (116 < p ∧ p < 136 ∧ p ≠ 117 ∧ p ≠ 118) := by
  rcases zPg_or h with rfl | rfl | rfl | rfl | rfl | rfl | rfl | rfl | rfl | rfl | rfl | rfl | rfl | rfl | rfl | rfl | rfl | rfl | rfl | rfl | rfl | rfl <;> omega
def zPre (r : Int → Int) (cnt : Nat) : Prop := ∀ i j : Nat, i < j → j < cnt → r (5 * j + 2) < i → r (5 * j + 2) ≤ r (5 * i + 2)
def zPr (r N : Int → Int) (k : Nat) : Int := if r (5 * k + 2) = -1 then 0 else N (r (5 * k + 2))
def zSw (r : Int → Int) (land day : Int) (k : Nat) : Prop := (r (5 * k + 3) = -1 ∨ r (5 * k + 3) = land) ∧ r (5 * k + 4) ≤ day
def zCt (r N : Int → Int) : Nat → Nat
  | 0 => 1
  | k + 1 => zCt r N k + (if N k ≠ -1 ∧ r (5 * k) ≠ 8 then 1 else 0)
theorem zCt_le (r N : Int → Int) : ∀ k, 1 ≤ zCt r N k ∧ zCt r N k ≤ k + 1
  | 0 => ⟨Nat.le_refl _, Nat.le_refl _⟩
  | k + 1 => by
    have z := zCt_le r N k
    unfold zCt
    split <;> omega
theorem zCt_p {r N : Int → Int} {k : Nat} (h : N k ≠ -1 ∧ r (5 * k) ≠ 8) : zCt r N (k + 1) = zCt r N k + 1 := by
  show zCt r N k + (if N k ≠ -1 ∧ r (5 * k) ≠ 8 then 1 else 0) = _
  rw [if_pos h]
theorem zCt_n {r N : Int → Int} {k : Nat} (h : ¬(N k ≠ -1 ∧ r (5 * k) ≠ 8)) : zCt r N (k + 1) = zCt r N k := by
  show zCt r N k + (if N k ≠ -1 ∧ r (5 * k) ≠ 8 then 1 else 0) = _
  rw [if_neg h]
  rfl
theorem zCt_mo {r N : Int → Int} {k : Nat} : ∀ d, zCt r N k ≤ zCt r N (k + d)
  | 0 => Nat.le_refl _
  | d + 1 => Nat.le_trans (zCt_mo d) (Nat.le_add_right _ _)
theorem zCt_m {r N : Int → Int} {k l : Nat} (h : k ≤ l) : zCt r N k ≤ zCt r N l := by
  have z := zCt_mo (r := r) (N := N) (k := k) (l - k)
  rw [show k + (l - k) = l by omega] at z
  exact z
theorem zCt_c {r N N2 : Int → Int} : ∀ k : Nat, (∀ j : Nat, j < k → N2 j = N j) → zCt r N2 k = zCt r N k
  | 0, _ => rfl
  | k + 1, h => by
    have z := zCt_c (r := r) k (fun j hj => h j (by omega))
    unfold zCt
    rw [z, h k (by omega)]
theorem zPr_c {r N N2 : Int → Int} {k : Nat} (hw : -1 ≤ r (5 * k + 2) ∧ r (5 * k + 2) < k) (h : ∀ j : Nat, j < k → N2 j = N j) : zPr r N2 k = zPr r N k := by
  unfold zPr
  split
  · rfl
  · have z := h (r (5 * k + 2)).toNat (by omega)
    rw [Int.toNat_of_nonneg (by omega)] at z
    exact z
/-- the first boxes of a text, numbered -/
def zOtb (X : zX) (o : Int) (r : Int → Int) (land day : Int) (k : Nat) : Prop := (zPr r (X (o + 5)) k = -1 → X (o + 5) k = -1) ∧ (zPr r (X (o + 5)) k ≠ -1 → r (5 * k) = 8 → X (o + 5) k = zPr r (X (o + 5)) k) ∧ (zPr r (X (o + 5)) k ≠ -1 → r (5 * k) ≠ 8 → zSw r land day k → X (o + 5) k = zCt r (X (o + 5)) k ∧ X (o + 3) (zCt r (X (o + 5)) k : Nat) = zPr r (X (o + 5)) k ∧ X (o + 1) (zCt r (X (o + 5)) k : Nat) = r (5 * k) ∧ X (o + 2) (zCt r (X (o + 5)) k : Nat) = r (5 * k + 1)) ∧ (zPr r (X (o + 5)) k ≠ -1 → r (5 * k) ≠ 8 → ¬zSw r land day k → X (o + 5) k = -1)
def zOtx (X : zX) (o : Int) (r : Int → Int) (cnt : Nat) (land day : Int) : Prop := X o 5 = zCt r (X (o + 5)) cnt ∧ X (o + 1) 0 = 8 ∧ X (o + 2) 0 = 0 ∧ X (o + 3) 0 = 0 ∧ ∀ k : Nat, k < cnt → (-1 ≤ r (5 * k + 2) ∧ r (5 * k + 2) < k) ∧ zOtb X o r land day k
theorem zOtx_c {X X2 : zX} {o : Int} {r : Int → Int} {cnt : Nat} {land day : Int} (h : zOtx X o r cnt land day) (e : ∀ c : Int, o ≤ c → c ≤ o + 5 → c ≠ o + 4 → X2 c = X c) : zOtx X2 o r cnt land day := by
  unfold zOtx zOtb at h ⊢
  rw [e o (by omega) (by omega) (by omega), e (o + 1) (by omega) (by omega) (by omega), e (o + 2) (by omega) (by omega) (by omega), e (o + 3) (by omega) (by omega) (by omega), e (o + 5) (by omega) (by omega) (by omega)]
  exact h
theorem zOtb_put {X X2 : zX} {o : Int} {r : Int → Int} {land day : Int} {k n : Nat} (hw : -1 ≤ r (5 * k + 2) ∧ r (5 * k + 2) < k) (h : zOtb X o r land day k) (e5 : ∀ j : Nat, j ≤ k → X2 (o + 5) j = X (o + 5) j) (hn : X (o + 5) k ≠ -1 → r (5 * k) ≠ 8 → zCt r (X (o + 5)) k < n) (e3 : ∀ j : Nat, j < n → X2 (o + 3) j = X (o + 3) j) (e1 : ∀ j : Nat, j < n → X2 (o + 1) j = X (o + 1) j) (e2 : ∀ j : Nat, j < n → X2 (o + 2) j = X (o + 2) j) : zOtb X2 o r land day k := by
  have p := zPr_c (r := r) (N := X (o + 5)) (N2 := X2 (o + 5)) hw (fun j hj => e5 j (by omega))
  have c := zCt_c (r := r) (N := X (o + 5)) (N2 := X2 (o + 5)) k (fun j hj => e5 j (by omega))
  have nk := e5 k (Nat.le_refl _)
  obtain ⟨h1, h2, h3, h4⟩ := h
  unfold zOtb
  rw [p, c, nk]
  refine ⟨h1, h2, fun a1 a2 a3 => ?_, h4⟩
  have z := h3 a1 a2 a3
  have lt := hn (by rw [z.1]; omega) a2
  rw [e3 _ lt, e1 _ lt, e2 _ lt]
  exact z
/-- one more that is not shown, or is in none that is -/
theorem zOtx_none {X : zX} {o : Int} {r : Int → Int} {k : Nat} {land day v : Int} (h : zOtx X o r k land day) (ev : v = -1) (c : (zPr r (X (o + 5)) k = -1) ∨ (r (5 * k) ≠ 8 ∧ ¬zSw r land day k)) (hw : -1 ≤ r (5 * k + 2) ∧ r (5 * k + 2) < k) : zOtx (zst X (o + 5) k v) o r (k + 1) land day := by
  subst ev
  obtain ⟨t1, t2, t3, t4, t5⟩ := h
  have e5 : ∀ j : Nat, j < k → zst X (o + 5) k (-1) (o + 5) j = X (o + 5) j := fun j hj => zrd_n (by omega)
  have ec := zCt_c (r := r) (N := X (o + 5)) (N2 := zst X (o + 5) k (-1) (o + 5)) k e5
  have ep := zPr_c (r := r) (N := X (o + 5)) (N2 := zst X (o + 5) k (-1) (o + 5)) hw e5
  have ek : zst X (o + 5) k (-1) (o + 5) k = -1 := zrd_s _ _ _ _
  refine ⟨?_, by rw [zrd_n (by omega)]; exact t2, by rw [zrd_n (by omega)]; exact t3, by rw [zrd_n (by omega)]; exact t4, fun j hj => ?_⟩
  · rw [zCt_n (fun z => z.1 ek), ec, zrd_n (by omega)]
    exact t1
  · by_cases jk : j = k
    · subst jk
      refine ⟨hw, ?_⟩
      unfold zOtb
      rw [ep, ek]
      refine ⟨fun _ => rfl, fun a1 a2 => ?_, fun a1 a2 a3 => ?_, fun _ _ _ => rfl⟩
      · rcases c with c | c
        · exact absurd c a1
        · exact absurd a2 c.1
      · rcases c with c | c
        · exact absurd c a1
        · exact absurd a3 c.2
    · have z := t5 j (by omega)
      exact ⟨z.1, zOtb_put (n := k + 2) z.1 z.2 (fun i hi => e5 i (by omega)) (fun _ _ => by have := zCt_le r (X (o + 5)) j; omega) (fun i _ => zrd_n (by omega)) (fun i _ => zrd_n (by omega)) (fun i _ => zrd_n (by omega))⟩
theorem zOtx_gone {X : zX} {o : Int} {r : Int → Int} {k : Nat} {land day v : Int} (h : zOtx X o r k land day) (g : r (5 * k) = 8) (es : v = zPr r (X (o + 5)) k) (hw : -1 ≤ r (5 * k + 2) ∧ r (5 * k + 2) < k) : zOtx (zst X (o + 5) k v) o r (k + 1) land day := by
  subst es
  obtain ⟨t1, t2, t3, t4, t5⟩ := h
  have e5 : ∀ j : Nat, j < k → zst X (o + 5) k (zPr r (X (o + 5)) k) (o + 5) j = X (o + 5) j := fun j hj => zrd_n (by omega)
  have ec := zCt_c (r := r) (N := X (o + 5)) (N2 := zst X (o + 5) k (zPr r (X (o + 5)) k) (o + 5)) k e5
  have ep := zPr_c (r := r) (N := X (o + 5)) (N2 := zst X (o + 5) k (zPr r (X (o + 5)) k) (o + 5)) hw e5
  have ek : zst X (o + 5) k (zPr r (X (o + 5)) k) (o + 5) k = zPr r (X (o + 5)) k := zrd_s _ _ _ _
  refine ⟨?_, by rw [zrd_n (by omega)]; exact t2, by rw [zrd_n (by omega)]; exact t3, by rw [zrd_n (by omega)]; exact t4, fun j hj => ?_⟩
  · rw [zCt_n (fun z => z.2 g), ec, zrd_n (by omega)]
    exact t1
  · by_cases jk : j = k
    · subst jk
      refine ⟨hw, ?_⟩
      unfold zOtb
      rw [ep, ek]
      exact ⟨fun z => z, fun _ _ => rfl, fun _ a2 => absurd g a2, fun _ a2 => absurd g a2⟩
    · have z := t5 j (by omega)
      exact ⟨z.1, zOtb_put (n := k + 2) z.1 z.2 (fun i hi => e5 i (by omega)) (fun _ _ => by have := zCt_le r (X (o + 5)) j; omega) (fun i _ => zrd_n (by omega)) (fun i _ => zrd_n (by omega)) (fun i _ => zrd_n (by omega))⟩
theorem zOtx_add {X : zX} {o : Int} {r : Int → Int} {k : Nat} {land day t : Int} (h : zOtx X o r k land day) (tn : t ≠ -1) (g : r (5 * k) ≠ 8) (sw : zSw r land day k) (es : t = zPr r (X (o + 5)) k) (hw : -1 ≤ r (5 * k + 2) ∧ r (5 * k + 2) < k) :
    zOtx (zst (zst (zst (zst (zst X (o + 1) (zCt r (X (o + 5)) k : Nat) (r (5 * k))) (o + 2) (zCt r (X (o + 5)) k : Nat) (r (5 * k + 1))) (o + 3) (zCt r (X (o + 5)) k : Nat) t) o 5 ((zCt r (X (o + 5)) k : Nat) + 1)) (o + 5) k (zCt r (X (o + 5)) k : Nat)) o r (k + 1) land day := by
  obtain ⟨t1, t2, t3, t4, t5⟩ := h
  have cl := zCt_le r (X (o + 5)) k
  generalize hn : zCt r (X (o + 5)) k = n at *
  generalize hZ : zst (zst (zst (zst (zst X (o + 1) (n : Nat) (r (5 * k))) (o + 2) (n : Nat) (r (5 * k + 1))) (o + 3) (n : Nat) t) o 5 ((n : Nat) + 1)) (o + 5) k (n : Nat) = Z
  have e5 : ∀ j : Nat, j < k → Z (o + 5) j = X (o + 5) j := fun j hj => by
    rw [← hZ, zrd_n (by omega), zrd_n (by omega), zrd_n (by omega), zrd_n (by omega), zrd_n (by omega)]
  have ec := zCt_c (r := r) (N := X (o + 5)) (N2 := Z (o + 5)) k e5
  have ep := zPr_c (r := r) (N := X (o + 5)) (N2 := Z (o + 5)) hw e5
  have ek : Z (o + 5) k = n := by rw [← hZ]; exact zrd_s _ _ _ _
  have e1 : Z (o + 1) (n : Nat) = r (5 * k) := by rw [← hZ, zrd_n (by omega), zrd_n (by omega), zrd_n (by omega), zrd_n (by omega), zrd_s]
  have e2 : Z (o + 2) (n : Nat) = r (5 * k + 1) := by rw [← hZ, zrd_n (by omega), zrd_n (by omega), zrd_n (by omega), zrd_s]
  have e3 : Z (o + 3) (n : Nat) = t := by rw [← hZ, zrd_n (by omega), zrd_n (by omega), zrd_s]
  have f1 : ∀ j : Nat, j < n → Z (o + 1) j = X (o + 1) j := fun j hj => by rw [← hZ, zrd_n (by omega), zrd_n (by omega), zrd_n (by omega), zrd_n (by omega), zrd_n (by omega)]
  have f2 : ∀ j : Nat, j < n → Z (o + 2) j = X (o + 2) j := fun j hj => by rw [← hZ, zrd_n (by omega), zrd_n (by omega), zrd_n (by omega), zrd_n (by omega), zrd_n (by omega)]
  have f3 : ∀ j : Nat, j < n → Z (o + 3) j = X (o + 3) j := fun j hj => by rw [← hZ, zrd_n (by omega), zrd_n (by omega), zrd_n (by omega), zrd_n (by omega), zrd_n (by omega)]
  refine ⟨?_, (f1 0 (by omega)).trans t2, (f2 0 (by omega)).trans t3, (f3 0 (by omega)).trans t4, fun j hj => ?_⟩
  · rw [zCt_p ⟨by rw [ek]; omega, g⟩, ec, hn, ← hZ, zrd_n (by omega), zrd_s]
    omega
  · by_cases jk : j = k
    · subst jk
      refine ⟨hw, ?_⟩
      unfold zOtb
      rw [ep, ek, ec, hn, e1, e2, e3]
      exact ⟨fun z => absurd (es.trans z) tn, fun _ a2 => absurd a2 g, fun _ _ _ => ⟨rfl, es, rfl, rfl⟩, fun _ _ a3 => absurd sw a3⟩
    · have z := t5 j (by omega)
      refine ⟨z.1, zOtb_put (n := n) z.1 z.2 (fun i hi => e5 i (by omega)) (fun c1 c2 => ?_) f3 f1 f2⟩
      have m := zCt_m (r := r) (N := X (o + 5)) (show j + 1 ≤ k by omega)
      rw [zCt_p ⟨c1, c2⟩] at m
      omega
theorem q_shows {Q : List zV → zX → Prop} {G : zG} {X : zX} {p land day : Int} {k : Nat} (hG : SH G) (hp : zk0 p = 5) (k1 : k < 14) (q1 : zSw (X (1 + p)) land day k → Q [zI 1] X) (q0 : ¬zSw (X (1 + p)) land day k → Q [zI 0] X) : Pg_shows [zR p, zI (k : Int), zI land, zI day] G X Q := by
  unfold zSw at q1 q0
  have f20 : (X (1 + p) (5 * k + 3) = -1 ∨ X (1 + p) (5 * k + 3) = land) → Pg_shows_W Q 20 [zR p, zI (k : Int), zT, zI day, zT] [] G X := fun c =>
    Pg_shows_f20 hG hp (q_told hG hp (by omega) (by omega) (by omega) (by omega) ⟨_, rfl, fun lt => q0 (fun z => by omega), fun ge => q1 ⟨c, ge⟩⟩)
  refine Pg_shows_f0 hG hp (q_told hG hp (by omega) (by omega) (by omega) (by omega) ⟨_, rfl, fun c => f20 (Or.inl c), fun c => ⟨fun d => f20 (Or.inr d), fun d => q0 (fun z => by rcases z.1 with y | y; exact c y; exact d y)⟩⟩)
/-- the numbers make a forest in its order -/
theorem zOtx_made {X : zX} {o : Int} {r : Int → Int} {cnt : Nat} {land day : Int} (h : zOtx X o r cnt land day) (hpre : zPre r cnt) : (∀ j : Nat, 0 < j → j < zCt r (X (o + 5)) cnt → 0 ≤ X (o + 3) j ∧ X (o + 3) j < j) ∧ (∀ i j : Nat, 0 < i → i < j → j < zCt r (X (o + 5)) cnt → X (o + 3) j < i → X (o + 3) j ≤ X (o + 3) i) := by
  obtain ⟨_, _, _, _, t5⟩ := h
  generalize hN : X (o + 5) = N at *
  have tb : ∀ k : Nat, k < cnt → (-1 ≤ r (5 * k + 2) ∧ r (5 * k + 2) < k) ∧ (zPr r N k = -1 → N k = -1) ∧ (zPr r N k ≠ -1 → r (5 * k) = 8 → N k = zPr r N k) ∧ (N k ≠ -1 → r (5 * k) ≠ 8 → zPr r N k ≠ -1 ∧ N k = zCt r N k ∧ X (o + 3) (zCt r N k : Nat) = zPr r N k) := fun k hk => by
    have z := t5 k hk
    unfold zOtb at z
    rw [hN] at z
    refine ⟨z.1, z.2.1, z.2.2.1, fun a1 a2 => ?_⟩
    have pn : zPr r N k ≠ -1 := fun c => a1 (z.2.1 c)
    by_cases sw : zSw r land day k
    · have y := z.2.2.2.1 pn a2 sw
      exact ⟨pn, y.1, y.2.1⟩
    · exact absurd (z.2.2.2.2 pn a2 sw) a1
  have nb : ∀ k : Nat, k < cnt → N k = -1 ∨ (0 ≤ N k ∧ N k < zCt r N (k + 1)) := by
    intro k
    induction k using Nat.strongRecOn with
    | _ k ih =>
      intro hk
      have z := tb k hk
      by_cases c : N k = -1
      · exact Or.inl c
      · refine Or.inr ?_
        by_cases g : r (5 * k) = 8
        · have pn : zPr r N k ≠ -1 := fun y => c (z.2.1 y)
          have e := z.2.2.1 pn g
          have cl := zCt_le r N (k + 1)
          unfold zPr at e pn
          by_cases w : r (5 * k + 2) = -1
          · rw [if_pos w] at e
            omega
          · rw [if_neg w] at e pn
            obtain ⟨u, hu⟩ : ∃ u : Nat, r (5 * k + 2) = u := ⟨(r (5 * k + 2)).toNat, by omega⟩
            rw [hu] at e pn
            have y := ih u (by omega) (by omega)
            have m := zCt_m (r := r) (N := N) (show u + 1 ≤ k + 1 by omega)
            omega
        · have y := z.2.2.2 c g
          have p := zCt_p (r := r) (N := N) (k := k) ⟨c, g⟩
          omega
  have pb : ∀ k : Nat, k < cnt → zPr r N k = -1 ∨ (0 ≤ zPr r N k ∧ zPr r N k < zCt r N k) := fun k hk => by
    have z := (tb k hk).1
    have cl := zCt_le r N k
    unfold zPr
    by_cases w : r (5 * k + 2) = -1
    · rw [if_pos w]
      omega
    · rw [if_neg w]
      obtain ⟨u, hu⟩ : ∃ u : Nat, r (5 * k + 2) = u := ⟨(r (5 * k + 2)).toNat, by omega⟩
      rw [hu]
      have y := nb u (by omega)
      have m := zCt_m (r := r) (N := N) (show u + 1 ≤ k by omega)
      omega
  have surj : ∀ k : Nat, k ≤ cnt → ∀ j : Nat, 1 ≤ j → j < zCt r N k → ∃ i : Nat, i < k ∧ N i ≠ -1 ∧ r (5 * i) ≠ 8 ∧ zCt r N i = j := by
    intro k
    induction k with
    | zero =>
      intro _ j j1 j2
      have : zCt r N 0 = 1 := rfl
      omega
    | succ k ih =>
      intro hk j j1 j2
      by_cases c : N k ≠ -1 ∧ r (5 * k) ≠ 8
      · rw [zCt_p c] at j2
        by_cases e : j = zCt r N k
        · exact ⟨k, by omega, c.1, c.2, e.symm⟩
        · obtain ⟨i, h1, h2⟩ := ih (by omega) j j1 (by omega)
          exact ⟨i, by omega, h2⟩
      · rw [zCt_n c] at j2
        obtain ⟨i, h1, h2⟩ := ih (by omega) j j1 j2
        exact ⟨i, by omega, h2⟩
  have lemA : ∀ u q : Nat, u < q → q ≤ cnt → N u ≠ -1 → (∀ z : Nat, u < z → z < q → (u : Int) ≤ r (5 * z + 2)) → ∀ z : Nat, u ≤ z → z < q → N z = -1 ∨ N u ≤ N z := by
    intro u q uq hq nu hz z
    induction z using Nat.strongRecOn with
    | _ z ih =>
      intro uz zq
      by_cases c : z = u
      · rw [c]
        exact Or.inr (Int.le_refl _)
      · by_cases nz : N z = -1
        · exact Or.inl nz
        · refine Or.inr ?_
          have t := tb z (by omega)
          have lo := hz z (by omega) zq
          have nbu := nb u (by omega)
          by_cases g : r (5 * z) = 8
          · have pn : zPr r N z ≠ -1 := fun y => nz (t.2.1 y)
            have e := t.2.2.1 pn g
            unfold zPr at e pn
            rw [if_neg (by omega)] at e pn
            obtain ⟨w, hw⟩ : ∃ w : Nat, r (5 * z + 2) = w := ⟨(r (5 * z + 2)).toNat, by omega⟩
            rw [hw] at e pn
            have y := ih w (by omega) (by omega) (by omega)
            omega
          · have y := t.2.2.2 nz g
            have m := zCt_m (r := r) (N := N) (show u + 1 ≤ z by omega)
            omega
  have claim : ∀ q p : Nat, q < cnt → p < q → zPr r N q ≠ -1 → N p ≠ -1 → r (5 * p) ≠ 8 → zPr r N q < zCt r N p → zPr r N q ≤ zPr r N p := by
    intro q
    induction q using Nat.strongRecOn with
    | _ q ih =>
      intro p hq pq pn np gp lt
      have tp := (tb p (by omega)).2.2.2 np gp
      have pbp := pb p (by omega)
      have tq := tb q hq
      by_cases w : r (5 * q + 2) = -1
      · have e : zPr r N q = 0 := by unfold zPr; rw [if_pos w]
        omega
      · obtain ⟨u, hu⟩ : ∃ u : Nat, r (5 * q + 2) = u := ⟨(r (5 * q + 2)).toNat, by omega⟩
        have e : zPr r N q = N u := by unfold zPr; rw [if_neg w, hu]
        have cp := zCt_p (r := r) (N := N) (k := p) ⟨np, gp⟩
        by_cases c1 : u < p
        · have wp := hpre p q pq hq (by omega)
          have tp1 := (tb p (by omega)).1
          have e2 : zPr r N p = N (r (5 * p + 2)) := by unfold zPr; rw [if_neg (by omega)]
          obtain ⟨v, hv⟩ : ∃ v : Nat, r (5 * p + 2) = v := ⟨(r (5 * p + 2)).toNat, by omega⟩
          rw [hv] at e2
          have a := lemA u q (by omega) (by omega) (by rw [← e]; exact pn) (fun z z1 z2 => by
            have y := hpre z q z2 hq (by omega)
            omega) v (by omega) (by omega)
          omega
        · by_cases c2 : u = p
          · rw [c2] at e
            omega
          · have nu : N u ≠ -1 := by rw [← e]; exact pn
            have m := zCt_m (r := r) (N := N) (show p + 1 ≤ u by omega)
            have tu := tb u (by omega)
            by_cases g : r (5 * u) = 8
            · have pu : zPr r N u ≠ -1 := fun y => nu (tu.2.1 y)
              have eu := tu.2.2.1 pu g
              have z := ih u (by omega) p (by omega) (by omega) pu np gp (by omega)
              omega
            · have y := tu.2.2.2 nu g
              omega
  constructor
  · intro j j0 j1
    obtain ⟨i, h1, h2, h3, h4⟩ := surj cnt (Nat.le_refl _) j (by omega) j1
    have t := (tb i h1).2.2.2 h2 h3
    have p := pb i h1
    rw [h4] at t p
    omega
  · intro i j i0 ij j1 lt
    obtain ⟨p, h1, h2, h3, h4⟩ := surj cnt (Nat.le_refl _) i (by omega) (by omega)
    obtain ⟨q, g1, g2, g3, g4⟩ := surj cnt (Nat.le_refl _) j (by omega) j1
    have t := (tb p h1).2.2.2 h2 h3
    have t2 := (tb q g1).2.2.2 g2 g3
    rw [h4] at t
    rw [g4] at t2
    have pq : p < q := by
      by_cases c : p < q
      · exact c
      · have m := zCt_m (r := r) (N := N) (show q ≤ p by omega)
        omega
    have z := claim q p g1 pq t2.1 h2 h3 (by omega)
    omega
theorem span_D105 {Q : List zV → zX → Prop} {G : zG} {X : zX} {m : Nat} {a : Nat → Nat} (hG : SH G) (hm : X 105 5 = m) (m1 : 1 ≤ m) (m15 : m ≤ 15) (ha : ∀ j : Nat, 0 < j → j < m → X 108 j = a j ∧ a j < j) (q : ∀ (X2 : zX) (b : Nat → Nat), (∀ c : Int, c ≠ 109 → X2 c = X c) → (∀ i : Nat, i < m → X2 109 i = b i) → zBb m a b → Q [] X2) : Op_span [zR 105] G X Q := by
  have l2 : ∀ (x : Nat) (Y : zX), x < m → (∀ c : Int, c ≠ 109 → Y c = X c) → (∀ i : Nat, i < m → (i : Int) + 1 ≤ Y 109 i ∧ Y 109 i ≤ m) → (∀ j : Nat, x < j → j < m → Y 109 j ≤ Y 109 (a j)) → (∀ i : Nat, i < m → Y 109 i = (i : Int) + 1 ∨ ∃ j : Nat, i < j ∧ x < j ∧ j < m ∧ a j = i ∧ Y 109 j = Y 109 i) → Op_span_W Q 32 [zR 105, zI (x : Int), zT] [] G Y := by
    intro x
    induction x with
    | zero =>
      intro Y xm fr i1 i2 i3
      refine Op_span_105_f32 hG ⟨fun z => absurd z (by omega), fun _ => q Y (fun i => (Y 109 i).toNat) fr (fun i hi => by have := i1 i hi; show Y 109 i = ((Y 109 i).toNat : Int); omega) ⟨fun i hi => ?_, fun j j0 j1 => ?_, fun i hi => ?_⟩⟩
      · have := i1 i hi
        show i < (Y 109 i).toNat ∧ (Y 109 i).toNat ≤ m
        omega
      · have := i2 j j0 j1
        show (Y 109 j).toNat ≤ (Y 109 (a j : Nat)).toNat
        omega
      · have k := i1 i hi
        rcases i3 i hi with c | ⟨j, c1, c2, c3, c4, c5⟩
        · exact Or.inl (by show (Y 109 i).toNat = i + 1; omega)
        · exact Or.inr ⟨j, c1, c3, c4, by show (Y 109 j).toNat = (Y 109 i).toNat; rw [c5]⟩
    | succ x ih =>
      intro Y xm fr i1 i2 i3
      have ax := ha (x + 1) (by omega) xm
      have e1 : Y 108 ((x + 1 : Nat) : Int) = a (x + 1) := by rw [fr 108 (by omega)]; exact ax.1
      refine Op_span_105_f32 hG ⟨fun _ => ?_, fun z => absurd z (by omega)⟩
      rw [e1]
      refine ⟨by omega, by omega, by omega, by omega, by rw [zw_id (by omega) (by omega)]; omega, ?_⟩
      rw [show ((x + 1 : Nat) : Int) - 1 = x by omega]
      have k1 := i1 (x + 1) xm
      have k2 := i1 (a (x + 1)) (by omega)
      have rd : ∀ i : Nat, i ≠ a (x + 1) → zst Y 109 (a (x + 1) : Nat) (max (Y 109 (a (x + 1) : Nat)) (Y 109 ((x + 1 : Nat) : Int))) 109 i = Y 109 i := fun i hi => zrd_n (by omega)
      refine ih _ (by omega) (fun c hc => by rw [zrd_r hc]; exact fr c hc) (fun i hi => ?_) (fun j j0 j1 => ?_) (fun i hi => ?_)
      · by_cases c : i = a (x + 1)
        · rw [c, zrd_s]
          omega
        · rw [rd i c]
          exact i1 i hi
      · rw [rd j (by omega)]
        by_cases c : a j = a (x + 1)
        · rw [c, zrd_s]
          by_cases d : j = x + 1
          · rw [d]
            omega
          · have z := i2 j (by omega) j1
            rw [c] at z
            omega
        · rw [rd _ c]
          by_cases d : j = x + 1
          · exact absurd (by rw [d]) c
          · exact i2 j (by omega) j1
      · by_cases c : i = a (x + 1)
        · subst c
          rw [zrd_s]
          by_cases d : Y 109 (a (x + 1) : Nat) ≤ Y 109 ((x + 1 : Nat) : Int)
          · exact Or.inr ⟨x + 1, by omega, by omega, xm, rfl, by rw [rd _ (by omega)]; omega⟩
          · rcases i3 _ hi with e | ⟨j, c1, c2, c3, c4, c5⟩
            · exact Or.inl (by omega)
            · exact Or.inr ⟨j, c1, by omega, c3, c4, by rw [rd _ (by omega)]; omega⟩
        · rw [rd i c]
          rcases i3 i hi with e | ⟨j, c1, c2, c3, c4, c5⟩
          · exact Or.inl e
          · exact Or.inr ⟨j, c1, by omega, c3, c4, by rw [rd j (by omega)]; exact c5⟩
  have l1 : ∀ (d x : Nat) (Y : zX), x + d = m → (∀ c : Int, c ≠ 109 → Y c = X c) → (∀ i : Nat, i < x → Y 109 i = (i : Int) + 1) → Op_span_W Q 2 [zR 105, zI (x : Int), zT] [] G Y := by
    intro d
    induction d with
    | zero =>
      intro x Y e fr i1
      refine Op_span_105_f2 hG ?_
      rw [fr 105 (by omega), hm]
      refine ⟨fun z => absurd z (by omega), fun _ => ⟨zw_id (by omega) (by omega), ?_⟩⟩
      rw [show (m : Int) - 1 = ((m - 1 : Nat) : Int) by omega]
      refine l2 (m - 1) Y (by omega) fr (fun i hi => by have := i1 i (by omega); omega) (fun j j0 j1 => by omega) (fun i hi => Or.inl (i1 i (by omega)))
    | succ d ih =>
      intro x Y e fr i1
      refine Op_span_105_f2 hG ?_
      rw [fr 105 (by omega), hm]
      refine ⟨fun _ => ⟨zw_id (by omega) (by omega), by omega, by omega, zw_id (by omega) (by omega), ?_⟩, fun z => absurd z (by omega)⟩
      refine ih (x + 1) _ (by omega) (fun c hc => by rw [zrd_r hc]; exact fr c hc) (fun i hi => ?_)
      by_cases c : i = x
      · rw [c, zrd_s]
      · rw [zrd_n (by omega)]
        exact i1 i (by omega)
  exact Op_span_105_f0 hG (l1 m 0 X (by omega) (fun _ _ => rfl) (fun i hi => absurd hi (by omega)))
theorem add_D105 {Q : List zV → zX → Prop} {G : zG} {X : zX} {p k t n : Int} (hG : SH G) (hp : zk0 p = 5) (k0 : 0 ≤ k) (k1 : k < 14) (hn : X 105 5 = n) (n0 : 0 ≤ n) (n1 : n < 15) (q : Q [zI n] (zst (zst (zst (zst X 106 n (X (1 + p) (5 * k))) 107 n (X (1 + p) (5 * k + 1))) 108 n t) 105 5 (n + 1))) : Op_add [zR 105, zR p, zI k, zI t] G X Q := by
  have pf := zPg_far hp
  refine Op_add_105_f0 hG hp (q_told hG hp k0 k1 (by omega) (by omega) ⟨_, rfl, ?_⟩)
  rw [hn, show 5 * k + 0 = 5 * k by omega]
  refine ⟨n0, n1, q_told hG hp k0 k1 (by omega) (by omega) ⟨_, rfl, ?_⟩⟩
  have r1 : ∀ v : Int, zst X 106 n v 105 5 = n := fun v => (zrd_n (by omega)).trans hn
  have r2 : zst X 106 n (X (1 + p) (5 * k)) (1 + p) (5 * k + 1) = X (1 + p) (5 * k + 1) := zrd_n (by omega)
  rw [r1, r2]
  have r3 : ∀ v w : Int, zst (zst X 106 n v) 107 n w 105 5 = n := fun v w => (zrd_n (by omega)).trans (r1 v)
  rw [r3]
  refine ⟨n0, n1, n0, n1, fun X9 e9 => ?_⟩
  have r4 : X9 105 5 = n := by rw [e9]; exact (zrd_n (by omega)).trans (r3 _ _)
  rw [r4, zrd_s]
  refine ⟨zw_id (by omega) (by omega), zw_id (by omega) (by omega), ?_⟩
  rw [show n + 1 - 1 = n by omega, e9]
  exact q
theorem open_D105 {Q : List zV → zX → Prop} {G : zG} {X : zX} {p land day : Int} {cnt : Nat} (hG : SH G) (hp : zk0 p = 5) (hc : X p 1 = cnt) (c14 : cnt ≤ 14) (hw : ∀ k : Nat, k < cnt → -1 ≤ X (1 + p) (5 * k + 2) ∧ X (1 + p) (5 * k + 2) < k) (hpre : zPre (X (1 + p)) cnt)
    (q : ∀ (X2 : zX) (b a : Nat → Nat), (∀ c : Int, c < 105 ∨ 110 < c → X2 c = X c) → zOtx X2 105 (X (1 + p)) cnt land day → zOpn X2 105 (zCt (X (1 + p)) (X2 110) cnt) b a → Q [] X2) : Op_open [zR 105, zR p, zI land, zI day] G X Q := by
  have pf := zPg_far hp
  have lp : ∀ (d k : Nat) (Y : zX), k + d = cnt → (∀ c : Int, c < 105 ∨ 110 < c → Y c = X c) → zOtx Y 105 (X (1 + p)) k land day → Op_open_W Q 30 [zR 105, zR p, zI land, zI day, zI (k : Int), zT, zT, zT] [] G Y := by
    intro d
    induction d with
    | zero =>
      intro k Y e fr tx
      rw [show cnt = k by omega] at hc hw hpre q
      refine Op_open_105_f30 hG hp ?_
      rw [fr p (by omega), hc]
      refine ⟨fun z => absurd z (by omega), fun _ => ?_⟩
      have tm := zOtx_made tx hpre
      rw [show (105 : Int) + 3 = 108 by omega, show (105 : Int) + 5 = 110 by omega] at tm
      have cl := zCt_le (X (1 + p)) (Y 110) k
      refine span_D105 hG (m := zCt (X (1 + p)) (Y 110) k) (a := fun j => (Y 108 j).toNat) tx.1 (by omega) (by omega) (fun j j0 j1 => ?_) (fun X2 b f2 hb B => ⟨rfl, ?_⟩)
      · have z := tm.1 j j0 j1
        show Y 108 j = ((Y 108 j).toNat : Int) ∧ (Y 108 j).toNat < j
        omega
      · have fN : X2 110 = Y 110 := f2 110 (by omega)
        have fA : X2 108 = Y 108 := f2 108 (by omega)
        have t3 := zBb_tr B (fun j j0 j1 => by have z := tm.1 j j0 j1; show (Y 108 j).toNat < j; omega) (fun i j i0 ij jm c => by
          have z1 := tm.1 i i0 (by omega)
          have z2 := tm.1 j (by omega) jm
          have z3 := tm.2 i j i0 ij jm (by have c2 : (Y 108 j).toNat < i := c; omega)
          show (Y 108 j).toNat ≤ (Y 108 i).toNat
          omega)
        refine q X2 b (fun j => (Y 108 j).toNat) (fun c hc2 => by rw [f2 c (by omega)]; exact fr c hc2) (zOtx_c tx (fun c c1 c2 c3 => f2 c (by omega))) ?_
        rw [fN]
        refine ⟨by rw [f2 105 (by omega)]; exact tx.1, by omega, by omega, hb, fun i hi => ?_, t3.1, t3.2.1 (by omega), t3.2.2⟩
        show X2 108 i = ((Y 108 i).toNat : Int)
        rw [fA]
        by_cases i0 : i = 0
        · rw [i0]
          have z : Y 108 0 = 0 := tx.2.2.2.1
          show Y 108 0 = ((Y 108 0).toNat : Int)
          rw [z]
          rfl
        · have z := tm.1 i (by omega) hi
          omega
    | succ d ih =>
      intro k Y e fr tx
      have wk := hw k (by omega)
      have rw0 : Y (1 + p) = X (1 + p) := fr (1 + p) (by omega)
      have cl := zCt_le (X (1 + p)) (Y 110) k
      have tx' := tx
      obtain ⟨t1, t2, t3, t4, t5⟩ := tx
      rw [show (105 : Int) + 5 = 110 by omega] at t1
      -- the number of the box is kept, and on
      have nx : ∀ (Z : zX) (v : Int), (∀ c : Int, c < 105 ∨ 110 < c → Z c = X c) → zOtx (zst Z 110 k v) 105 (X (1 + p)) (k + 1) land day → Op_open_W Q 123 [zR 105, zR p, zI land, zI day, zI (k : Int), zT, zI v, zT] [] G Z := fun Z v fz tz =>
        Op_open_105_f123 hG hp ⟨by omega, by omega, zw_id (by omega) (by omega), ih (k + 1) _ (by omega) (fun c hc2 => by rw [zrd_r (by omega)]; exact fz c hc2) tz⟩
      have par : ∀ s0 : Int, s0 = zPr (X (1 + p)) (Y 110) k → Op_open_W Q 65 [zR 105, zR p, zI land, zI day, zI (k : Int), zT, zT, zT] [zI s0] G Y := fun s0 es => by
        have gone1 : X (1 + p) (5 * k) = 8 → Op_open_W Q 84 [zR 105, zR p, zI land, zI day, zI (k : Int), zT, zI s0, zT] [zI 1] G Y := fun g =>
          Op_open_105_f84 hG hp ⟨fun c => nx Y s0 fr (zOtx_none tx' c (Or.inl (es.symm.trans c)) wk), fun c => ⟨fun z => absurd z (by omega), fun _ => nx Y s0 fr (zOtx_gone tx' g es wk)⟩⟩
        have gone0 : X (1 + p) (5 * k) ≠ 8 → Op_open_W Q 84 [zR 105, zR p, zI land, zI day, zI (k : Int), zT, zI s0, zT] [zI 0] G Y := fun g => by
          refine Op_open_105_f84 hG hp ⟨fun c => nx Y s0 fr (zOtx_none tx' c (Or.inl (es.symm.trans c)) wk), fun c => ⟨fun _ => q_shows hG hp (by omega) (fun sw => ⟨1, rfl, fun z => absurd z (by omega), fun _ => ?_⟩) (fun sw => ⟨0, rfl, fun _ => Op_open_105_f121 hG hp (nx Y (-1) fr (zOtx_none tx' rfl (Or.inr ⟨g, by rw [rw0] at sw; exact sw⟩) wk)), fun z => absurd rfl z⟩), fun z => absurd rfl z⟩⟩
          refine add_D105 hG hp (by omega) (by omega) t1 (by omega) (by omega) ⟨_, rfl, Op_open_105_f121 hG hp (nx _ _ (fun c hc2 => ?_) ?_)⟩
          · rw [zrd_r (by omega), zrd_r (by omega), zrd_r (by omega), zrd_r (by omega)]
            exact fr c hc2
          · rw [rw0] at sw ⊢
            exact zOtx_add tx' c g sw es wk
        refine Op_open_105_f65 hG hp (q_told hG hp (by omega) (by omega) (by omega) (by omega) ⟨_, rfl, fun c => gone1 ?_, fun c => gone0 ?_⟩)
        · rw [rw0, show 5 * (k : Int) + 0 = 5 * k by omega] at c
          exact c
        · rw [rw0, show 5 * (k : Int) + 0 = 5 * k by omega] at c
          exact c
      refine Op_open_105_f30 hG hp ?_
      rw [fr p (by omega), hc]
      refine ⟨fun _ => q_told hG hp (by omega) (by omega) (by omega) (by omega) ⟨_, rfl, ?_⟩, fun z => absurd z (by omega)⟩
      rw [rw0]
      refine ⟨fun c => par 0 (by unfold zPr; rw [if_pos c]), fun c => ⟨by omega, by omega, par _ (by unfold zPr; rw [if_neg c])⟩⟩
  refine Op_open_105_f0 hG hp (lp cnt 0 _ (by omega) (fun c hc2 => by rw [zrd_r (by omega), zrd_r (by omega), zrd_r (by omega), zrd_r (by omega)]) ?_)
  refine ⟨zrd_s _ _ _ _, ?_, ?_, ?_, fun k hk => absurd hk (by omega)⟩
  · rw [zrd_n (by omega), zrd_n (by omega), zrd_n (by omega)]
    exact zrd_s _ _ _ _
  · rw [zrd_n (by omega), zrd_n (by omega)]
    exact zrd_s _ _ _ _
  · rw [zrd_n (by omega)]
    exact zrd_s _ _ _ _
theorem span_D111 {Q : List zV → zX → Prop} {G : zG} {X : zX} {m : Nat} {a : Nat → Nat} (hG : SH G) (hm : X 111 5 = m) (m1 : 1 ≤ m) (m15 : m ≤ 15) (ha : ∀ j : Nat, 0 < j → j < m → X 114 j = a j ∧ a j < j) (q : ∀ (X2 : zX) (b : Nat → Nat), (∀ c : Int, c ≠ 115 → X2 c = X c) → (∀ i : Nat, i < m → X2 115 i = b i) → zBb m a b → Q [] X2) : Op_span [zR 111] G X Q := by
  have l2 : ∀ (x : Nat) (Y : zX), x < m → (∀ c : Int, c ≠ 115 → Y c = X c) → (∀ i : Nat, i < m → (i : Int) + 1 ≤ Y 115 i ∧ Y 115 i ≤ m) → (∀ j : Nat, x < j → j < m → Y 115 j ≤ Y 115 (a j)) → (∀ i : Nat, i < m → Y 115 i = (i : Int) + 1 ∨ ∃ j : Nat, i < j ∧ x < j ∧ j < m ∧ a j = i ∧ Y 115 j = Y 115 i) → Op_span_W Q 32 [zR 111, zI (x : Int), zT] [] G Y := by
    intro x
    induction x with
    | zero =>
      intro Y xm fr i1 i2 i3
      refine Op_span_111_f32 hG ⟨fun z => absurd z (by omega), fun _ => q Y (fun i => (Y 115 i).toNat) fr (fun i hi => by have := i1 i hi; show Y 115 i = ((Y 115 i).toNat : Int); omega) ⟨fun i hi => ?_, fun j j0 j1 => ?_, fun i hi => ?_⟩⟩
      · have := i1 i hi
        show i < (Y 115 i).toNat ∧ (Y 115 i).toNat ≤ m
        omega
      · have := i2 j j0 j1
        show (Y 115 j).toNat ≤ (Y 115 (a j : Nat)).toNat
        omega
      · have k := i1 i hi
        rcases i3 i hi with c | ⟨j, c1, c2, c3, c4, c5⟩
        · exact Or.inl (by show (Y 115 i).toNat = i + 1; omega)
        · exact Or.inr ⟨j, c1, c3, c4, by show (Y 115 j).toNat = (Y 115 i).toNat; rw [c5]⟩
    | succ x ih =>
      intro Y xm fr i1 i2 i3
      have ax := ha (x + 1) (by omega) xm
      have e1 : Y 114 ((x + 1 : Nat) : Int) = a (x + 1) := by rw [fr 114 (by omega)]; exact ax.1
      refine Op_span_111_f32 hG ⟨fun _ => ?_, fun z => absurd z (by omega)⟩
      rw [e1]
      refine ⟨by omega, by omega, by omega, by omega, by rw [zw_id (by omega) (by omega)]; omega, ?_⟩
      rw [show ((x + 1 : Nat) : Int) - 1 = x by omega]
      have k1 := i1 (x + 1) xm
      have k2 := i1 (a (x + 1)) (by omega)
      have rd : ∀ i : Nat, i ≠ a (x + 1) → zst Y 115 (a (x + 1) : Nat) (max (Y 115 (a (x + 1) : Nat)) (Y 115 ((x + 1 : Nat) : Int))) 115 i = Y 115 i := fun i hi => zrd_n (by omega)
      refine ih _ (by omega) (fun c hc => by rw [zrd_r hc]; exact fr c hc) (fun i hi => ?_) (fun j j0 j1 => ?_) (fun i hi => ?_)
      · by_cases c : i = a (x + 1)
        · rw [c, zrd_s]
          omega
        · rw [rd i c]
          exact i1 i hi
      · rw [rd j (by omega)]
        by_cases c : a j = a (x + 1)
        · rw [c, zrd_s]
          by_cases d : j = x + 1
          · rw [d]
            omega
          · have z := i2 j (by omega) j1
            rw [c] at z
            omega
        · rw [rd _ c]
          by_cases d : j = x + 1
          · exact absurd (by rw [d]) c
          · exact i2 j (by omega) j1
      · by_cases c : i = a (x + 1)
        · subst c
          rw [zrd_s]
          by_cases d : Y 115 (a (x + 1) : Nat) ≤ Y 115 ((x + 1 : Nat) : Int)
          · exact Or.inr ⟨x + 1, by omega, by omega, xm, rfl, by rw [rd _ (by omega)]; omega⟩
          · rcases i3 _ hi with e | ⟨j, c1, c2, c3, c4, c5⟩
            · exact Or.inl (by omega)
            · exact Or.inr ⟨j, c1, by omega, c3, c4, by rw [rd _ (by omega)]; omega⟩
        · rw [rd i c]
          rcases i3 i hi with e | ⟨j, c1, c2, c3, c4, c5⟩
          · exact Or.inl e
          · exact Or.inr ⟨j, c1, by omega, c3, c4, by rw [rd j (by omega)]; exact c5⟩
  have l1 : ∀ (d x : Nat) (Y : zX), x + d = m → (∀ c : Int, c ≠ 115 → Y c = X c) → (∀ i : Nat, i < x → Y 115 i = (i : Int) + 1) → Op_span_W Q 2 [zR 111, zI (x : Int), zT] [] G Y := by
    intro d
    induction d with
    | zero =>
      intro x Y e fr i1
      refine Op_span_111_f2 hG ?_
      rw [fr 111 (by omega), hm]
      refine ⟨fun z => absurd z (by omega), fun _ => ⟨zw_id (by omega) (by omega), ?_⟩⟩
      rw [show (m : Int) - 1 = ((m - 1 : Nat) : Int) by omega]
      refine l2 (m - 1) Y (by omega) fr (fun i hi => by have := i1 i (by omega); omega) (fun j j0 j1 => by omega) (fun i hi => Or.inl (i1 i (by omega)))
    | succ d ih =>
      intro x Y e fr i1
      refine Op_span_111_f2 hG ?_
      rw [fr 111 (by omega), hm]
      refine ⟨fun _ => ⟨zw_id (by omega) (by omega), by omega, by omega, zw_id (by omega) (by omega), ?_⟩, fun z => absurd z (by omega)⟩
      refine ih (x + 1) _ (by omega) (fun c hc => by rw [zrd_r hc]; exact fr c hc) (fun i hi => ?_)
      by_cases c : i = x
      · rw [c, zrd_s]
      · rw [zrd_n (by omega)]
        exact i1 i (by omega)
  exact Op_span_111_f0 hG (l1 m 0 X (by omega) (fun _ _ => rfl) (fun i hi => absurd hi (by omega)))
theorem add_D111 {Q : List zV → zX → Prop} {G : zG} {X : zX} {p k t n : Int} (hG : SH G) (hp : zk0 p = 5) (k0 : 0 ≤ k) (k1 : k < 14) (hn : X 111 5 = n) (n0 : 0 ≤ n) (n1 : n < 15) (q : Q [zI n] (zst (zst (zst (zst X 112 n (X (1 + p) (5 * k))) 113 n (X (1 + p) (5 * k + 1))) 114 n t) 111 5 (n + 1))) : Op_add [zR 111, zR p, zI k, zI t] G X Q := by
  have pf := zPg_far hp
  refine Op_add_111_f0 hG hp (q_told hG hp k0 k1 (by omega) (by omega) ⟨_, rfl, ?_⟩)
  rw [hn, show 5 * k + 0 = 5 * k by omega]
  refine ⟨n0, n1, q_told hG hp k0 k1 (by omega) (by omega) ⟨_, rfl, ?_⟩⟩
  have r1 : ∀ v : Int, zst X 112 n v 111 5 = n := fun v => (zrd_n (by omega)).trans hn
  have r2 : zst X 112 n (X (1 + p) (5 * k)) (1 + p) (5 * k + 1) = X (1 + p) (5 * k + 1) := zrd_n (by omega)
  rw [r1, r2]
  have r3 : ∀ v w : Int, zst (zst X 112 n v) 113 n w 111 5 = n := fun v w => (zrd_n (by omega)).trans (r1 v)
  rw [r3]
  refine ⟨n0, n1, n0, n1, fun X9 e9 => ?_⟩
  have r4 : X9 111 5 = n := by rw [e9]; exact (zrd_n (by omega)).trans (r3 _ _)
  rw [r4, zrd_s]
  refine ⟨zw_id (by omega) (by omega), zw_id (by omega) (by omega), ?_⟩
  rw [show n + 1 - 1 = n by omega, e9]
  exact q
theorem open_D111 {Q : List zV → zX → Prop} {G : zG} {X : zX} {p land day : Int} {cnt : Nat} (hG : SH G) (hp : zk0 p = 5) (hc : X p 1 = cnt) (c14 : cnt ≤ 14) (hw : ∀ k : Nat, k < cnt → -1 ≤ X (1 + p) (5 * k + 2) ∧ X (1 + p) (5 * k + 2) < k) (hpre : zPre (X (1 + p)) cnt)
    (q : ∀ (X2 : zX) (b a : Nat → Nat), (∀ c : Int, c < 111 ∨ 116 < c → X2 c = X c) → zOtx X2 111 (X (1 + p)) cnt land day → zOpn X2 111 (zCt (X (1 + p)) (X2 116) cnt) b a → Q [] X2) : Op_open [zR 111, zR p, zI land, zI day] G X Q := by
  have pf := zPg_far hp
  have lp : ∀ (d k : Nat) (Y : zX), k + d = cnt → (∀ c : Int, c < 111 ∨ 116 < c → Y c = X c) → zOtx Y 111 (X (1 + p)) k land day → Op_open_W Q 30 [zR 111, zR p, zI land, zI day, zI (k : Int), zT, zT, zT] [] G Y := by
    intro d
    induction d with
    | zero =>
      intro k Y e fr tx
      rw [show cnt = k by omega] at hc hw hpre q
      refine Op_open_111_f30 hG hp ?_
      rw [fr p (by omega), hc]
      refine ⟨fun z => absurd z (by omega), fun _ => ?_⟩
      have tm := zOtx_made tx hpre
      rw [show (111 : Int) + 3 = 114 by omega, show (111 : Int) + 5 = 116 by omega] at tm
      have cl := zCt_le (X (1 + p)) (Y 116) k
      refine span_D111 hG (m := zCt (X (1 + p)) (Y 116) k) (a := fun j => (Y 114 j).toNat) tx.1 (by omega) (by omega) (fun j j0 j1 => ?_) (fun X2 b f2 hb B => ⟨rfl, ?_⟩)
      · have z := tm.1 j j0 j1
        show Y 114 j = ((Y 114 j).toNat : Int) ∧ (Y 114 j).toNat < j
        omega
      · have fN : X2 116 = Y 116 := f2 116 (by omega)
        have fA : X2 114 = Y 114 := f2 114 (by omega)
        have t3 := zBb_tr B (fun j j0 j1 => by have z := tm.1 j j0 j1; show (Y 114 j).toNat < j; omega) (fun i j i0 ij jm c => by
          have z1 := tm.1 i i0 (by omega)
          have z2 := tm.1 j (by omega) jm
          have z3 := tm.2 i j i0 ij jm (by have c2 : (Y 114 j).toNat < i := c; omega)
          show (Y 114 j).toNat ≤ (Y 114 i).toNat
          omega)
        refine q X2 b (fun j => (Y 114 j).toNat) (fun c hc2 => by rw [f2 c (by omega)]; exact fr c hc2) (zOtx_c tx (fun c c1 c2 c3 => f2 c (by omega))) ?_
        rw [fN]
        refine ⟨by rw [f2 111 (by omega)]; exact tx.1, by omega, by omega, hb, fun i hi => ?_, t3.1, t3.2.1 (by omega), t3.2.2⟩
        show X2 114 i = ((Y 114 i).toNat : Int)
        rw [fA]
        by_cases i0 : i = 0
        · rw [i0]
          have z : Y 114 0 = 0 := tx.2.2.2.1
          show Y 114 0 = ((Y 114 0).toNat : Int)
          rw [z]
          rfl
        · have z := tm.1 i (by omega) hi
          omega
    | succ d ih =>
      intro k Y e fr tx
      have wk := hw k (by omega)
      have rw0 : Y (1 + p) = X (1 + p) := fr (1 + p) (by omega)
      have cl := zCt_le (X (1 + p)) (Y 116) k
      have tx' := tx
      obtain ⟨t1, t2, t3, t4, t5⟩ := tx
      rw [show (111 : Int) + 5 = 116 by omega] at t1
      -- the number of the box is kept, and on
      have nx : ∀ (Z : zX) (v : Int), (∀ c : Int, c < 111 ∨ 116 < c → Z c = X c) → zOtx (zst Z 116 k v) 111 (X (1 + p)) (k + 1) land day → Op_open_W Q 123 [zR 111, zR p, zI land, zI day, zI (k : Int), zT, zI v, zT] [] G Z := fun Z v fz tz =>
        Op_open_111_f123 hG hp ⟨by omega, by omega, zw_id (by omega) (by omega), ih (k + 1) _ (by omega) (fun c hc2 => by rw [zrd_r (by omega)]; exact fz c hc2) tz⟩
      have par : ∀ s0 : Int, s0 = zPr (X (1 + p)) (Y 116) k → Op_open_W Q 65 [zR 111, zR p, zI land, zI day, zI (k : Int), zT, zT, zT] [zI s0] G Y := fun s0 es => by
        have gone1 : X (1 + p) (5 * k) = 8 → Op_open_W Q 84 [zR 111, zR p, zI land, zI day, zI (k : Int), zT, zI s0, zT] [zI 1] G Y := fun g =>
          Op_open_111_f84 hG hp ⟨fun c => nx Y s0 fr (zOtx_none tx' c (Or.inl (es.symm.trans c)) wk), fun c => ⟨fun z => absurd z (by omega), fun _ => nx Y s0 fr (zOtx_gone tx' g es wk)⟩⟩
        have gone0 : X (1 + p) (5 * k) ≠ 8 → Op_open_W Q 84 [zR 111, zR p, zI land, zI day, zI (k : Int), zT, zI s0, zT] [zI 0] G Y := fun g => by
          refine Op_open_111_f84 hG hp ⟨fun c => nx Y s0 fr (zOtx_none tx' c (Or.inl (es.symm.trans c)) wk), fun c => ⟨fun _ => q_shows hG hp (by omega) (fun sw => ⟨1, rfl, fun z => absurd z (by omega), fun _ => ?_⟩) (fun sw => ⟨0, rfl, fun _ => Op_open_111_f121 hG hp (nx Y (-1) fr (zOtx_none tx' rfl (Or.inr ⟨g, by rw [rw0] at sw; exact sw⟩) wk)), fun z => absurd rfl z⟩), fun z => absurd rfl z⟩⟩
          refine add_D111 hG hp (by omega) (by omega) t1 (by omega) (by omega) ⟨_, rfl, Op_open_111_f121 hG hp (nx _ _ (fun c hc2 => ?_) ?_)⟩
          · rw [zrd_r (by omega), zrd_r (by omega), zrd_r (by omega), zrd_r (by omega)]
            exact fr c hc2
          · rw [rw0] at sw ⊢
            exact zOtx_add tx' c g sw es wk
        refine Op_open_111_f65 hG hp (q_told hG hp (by omega) (by omega) (by omega) (by omega) ⟨_, rfl, fun c => gone1 ?_, fun c => gone0 ?_⟩)
        · rw [rw0, show 5 * (k : Int) + 0 = 5 * k by omega] at c
          exact c
        · rw [rw0, show 5 * (k : Int) + 0 = 5 * k by omega] at c
          exact c
      refine Op_open_111_f30 hG hp ?_
      rw [fr p (by omega), hc]
      refine ⟨fun _ => q_told hG hp (by omega) (by omega) (by omega) (by omega) ⟨_, rfl, ?_⟩, fun z => absurd z (by omega)⟩
      rw [rw0]
      refine ⟨fun c => par 0 (by unfold zPr; rw [if_pos c]), fun c => ⟨by omega, by omega, par _ (by unfold zPr; rw [if_neg c])⟩⟩
  refine Op_open_111_f0 hG hp (lp cnt 0 _ (by omega) (fun c hc2 => by rw [zrd_r (by omega), zrd_r (by omega), zrd_r (by omega), zrd_r (by omega)]) ?_)
  refine ⟨zrd_s _ _ _ _, ?_, ?_, ?_, fun k hk => absurd hk (by omega)⟩
  · rw [zrd_n (by omega), zrd_n (by omega), zrd_n (by omega)]
    exact zrd_s _ _ _ _
  · rw [zrd_n (by omega), zrd_n (by omega)]
    exact zrd_s _ _ _ _
  · rw [zrd_n (by omega)]
    exact zrd_s _ _ _ _
