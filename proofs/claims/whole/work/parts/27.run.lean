/-! ===== programs, step by step ===== -/
theorem z_mulb {x y A B : Int} (h0 : 0 ≤ x) (h1 : x ≤ A) (h2 : 0 ≤ y) (h3 : y ≤ B) : 0 ≤ x * y ∧ x * y ≤ A * B :=
  ⟨Int.mul_nonneg h0 h2, Int.mul_le_mul h1 h3 h2 (by omega)⟩
theorem zst_a (X : zX) (a j v : Int) : zst X a j v a = zup (X a) j v := zsa_s _ _ _
def zR1 (r : Int × (Int → Int)) : Int × (Int → Int) := (r.1 + 1, r.2)
def zRn (L : Int → Int) (cnt x : Int) : Nat → (Int → Int) → (Int → Int) → (Int → Int) → Int → Int × (Int → Int)
  | 0, _, _, C, _ => (0, C)
  | f + 1, N, T, C, l =>
    if cnt ≤ l then (0, C)
    else if L (4 * l) = 267 then zR1 (zRn L cnt x f (zup N (L (4 * l + 2)) ((x * (L (4 * l + 1) + 1) + 7) % 100)) (zup T (L (4 * l + 2)) (zshl 1 (L (4 * l + 1)))) C (l + 1))
    else if L (4 * l) = 268 then zR1 (zRn L cnt x f (zup N (L (4 * l + 2)) ((N (L (4 * l + 2)) + N (L (4 * l + 1))) % 100)) (zup T (L (4 * l + 2)) (zor (T (L (4 * l + 2))) (T (L (4 * l + 1))))) C (l + 1))
    else if L (4 * l) = 269 then zR1 (zRn L cnt x f (zup N (L (4 * l + 2)) (L (4 * l + 1))) (zup T (L (4 * l + 2)) 0) C (l + 1))
    else if L (4 * l) = 270 then zR1 (zRn L cnt x f N T (zup C (L (4 * l + 2)) (zor (C (L (4 * l + 2))) (T (L (4 * l + 1))))) (l + 1))
    else if L (4 * l) = 271 then zR1 (zRn L cnt x f N T C (if N (L (4 * l + 1)) < L (4 * l + 2) then L (4 * l + 3) else l + 1))
    else if L (4 * l) = 272 then zR1 (zRn L cnt x f N T C (L (4 * l + 3)))
    else (1, C)
theorem zup_in {N : Int → Int} {b v : Int} (h : ∀ j : Int, 0 ≤ j → j < 6 → 0 ≤ N j ∧ N j ≤ 99) (hv : 0 ≤ v ∧ v ≤ 99) : ∀ j : Int, 0 ≤ j → j < 6 → 0 ≤ zup N b v j ∧ zup N b v j ≤ 99 := fun j j0 j1 => by
  unfold zup
  split
  · exact hv
  · exact h j j0 j1
theorem q_line {X : zX} (h : zRT X 1 0) {p l : Int} (p0 : 0 ≤ p) (p1 : p < 10) (l0 : 0 ≤ l) (l1 : l < X (53 + 5 * p) 8) : X (53 + 5 * p) 8 ≤ 20 ∧ X 140 (2790 + 210 * p) = X (53 + 5 * p) 8 ∧
    (X (57 + 5 * p) (4 * l) = 267 ∧ X 140 (2791 + 210 * p + 4 * l) = 10 ∨ 268 ≤ X (57 + 5 * p) (4 * l) ∧ X (57 + 5 * p) (4 * l) ≤ 273 ∧ X 140 (2791 + 210 * p + 4 * l) = X (57 + 5 * p) (4 * l) - 256) ∧
    (X (57 + 5 * p) (4 * l) ≠ 272 ∧ X (57 + 5 * p) (4 * l) ≠ 273 → X 140 (2792 + 210 * p + 4 * l) = X (57 + 5 * p) (4 * l + 1) ∧ 0 ≤ X (57 + 5 * p) (4 * l + 1) ∧ X (57 + 5 * p) (4 * l + 1) ≤ 99 ∧ (X (57 + 5 * p) (4 * l) = 267 → X (57 + 5 * p) (4 * l + 1) ≤ 7) ∧ (X (57 + 5 * p) (4 * l) = 268 ∨ X (57 + 5 * p) (4 * l) = 270 ∨ X (57 + 5 * p) (4 * l) = 271 → X (57 + 5 * p) (4 * l + 1) ≤ 5)) ∧
    (X (57 + 5 * p) (4 * l) ≠ 272 ∧ X (57 + 5 * p) (4 * l) ≠ 273 → X 140 (2793 + 210 * p + 4 * l) = X (57 + 5 * p) (4 * l + 2) ∧ 0 ≤ X (57 + 5 * p) (4 * l + 2) ∧ X (57 + 5 * p) (4 * l + 2) ≤ 99 ∧ (X (57 + 5 * p) (4 * l) = 267 ∨ X (57 + 5 * p) (4 * l) = 268 ∨ X (57 + 5 * p) (4 * l) = 269 → X (57 + 5 * p) (4 * l + 2) ≤ 5) ∧ (X (57 + 5 * p) (4 * l) = 270 → X (57 + 5 * p) (4 * l + 2) ≤ 9)) ∧
    (X (57 + 5 * p) (4 * l) = 271 ∨ X (57 + 5 * p) (4 * l) = 272 → X 140 (2794 + 210 * p + 4 * l) = X (57 + 5 * p) (4 * l + 3) ∧ 0 ≤ X (57 + 5 * p) (4 * l + 3) ∧ X (57 + 5 * p) (4 * l + 3) ≤ 20) := by
  have c := zR_lin h p p0 p1
  rw [show (0 : Int) + 2790 + 210 * p = 2790 + 210 * p by omega, show (1 : Int) + 52 + 5 * p = 53 + 5 * p by omega] at c
  have z := zR_lrow h p l p0 p1 l0 (by omega) (by rw [show (1 : Int) + 52 + 5 * p = 53 + 5 * p by omega]; exact l1)
  rw [show (1 : Int) + 56 + 5 * p = 57 + 5 * p by omega, show (0 : Int) + 2791 + 210 * p = 2791 + 210 * p by omega, show (0 : Int) + 2792 + 210 * p = 2792 + 210 * p by omega, show (0 : Int) + 2793 + 210 * p = 2793 + 210 * p by omega, show (0 : Int) + 2794 + 210 * p = 2794 + 210 * p by omega] at z
  exact ⟨c.2.2, c.1, z⟩
theorem run_D {Q : List zV → zX → Prop} {G : zG} {X0 : zX} {x p : Int} (hG : SH G) (h : zRT X0 1 0) (p0 : 0 ≤ p) (p1 : p < 10) (x0 : 0 ≤ x) (x1 : x ≤ 999) : ∀ (f : Nat) (s l : Int) (X : zX), s + f = 200 → 0 ≤ s → 0 ≤ l → X 130 3 = s → zWk X0 X → (∀ j : Int, 0 ≤ j → j < 6 → 0 ≤ X 131 j ∧ X 131 j ≤ 99) →
    (∀ X2 : zX, zWk X0 X2 → X2 130 3 = s + (zRn (X0 (57 + 5 * p)) (X0 (53 + 5 * p) 8) x f (X 131) (X 132) (X 133) l).1 → X2 133 = (zRn (X0 (57 + 5 * p)) (X0 (53 + 5 * p) 8) x f (X 131) (X 132) (X 133) l).2 → Q [] X2) → Ru_run_W Q 56 [zR 130, zR (53 + 5 * p), zI x, zI l] [] G X := by
  intro f
  have hk := (zCa_at p0 p1).2
  have hk2 := (zCa_a hk).2.2.2
  rw [show 53 + 5 * p + 4 = 4 + (53 + 5 * p) by omega] at hk2
  induction f with
  | zero =>
    intro s l X e s0 l0 hs wk _ q
    refine Ru_run_f56 hG hk ?_
    rw [hs]
    exact ⟨fun z => absurd z (by omega), fun _ => q X wk (by rw [hs]; show s = s + 0; omega) rfl⟩
  | succ f ih =>
    intro s l X e s0 l0 hs wk hN q
    have w1 : X (53 + 5 * p) = X0 (53 + 5 * p) := wk _ (by omega)
    have w2 : X (4 + (53 + 5 * p)) = X0 (57 + 5 * p) := by rw [show 4 + (53 + 5 * p) = 57 + 5 * p by omega]; exact wk _ (by omega)
    refine Ru_run_f56 hG hk ?_
    rw [hs, w1]
    by_cases hl : (X0 (53 + 5 * p) 8) ≤ l
    · exact ⟨fun _ => ⟨fun z => absurd z (by omega), fun _ => ⟨fun z => absurd z (by omega), fun _ => q X wk (by rw [hs]; unfold zRn; rw [if_pos hl]; show s = s + 0; omega) (by unfold zRn; rw [if_pos hl])⟩⟩, fun z => absurd z (by omega)⟩
    · have hq := q_line h p0 p1 l0 (by omega : l < X0 (53 + 5 * p) 8)
      refine ⟨fun _ => ⟨fun z => absurd z (by omega), fun _ => ⟨fun _ => ⟨zw_id (by omega) (by omega), ?_⟩, fun z => absurd z (by omega)⟩⟩, fun z => absurd z (by omega)⟩
      refine Ru_done_f0 hG hk2.1 ?_
      have w3 : zst X 130 3 (s + 1) (4 + (53 + 5 * p)) = X0 (57 + 5 * p) := (zrd_r (by omega)).trans w2
      rw [w3, show l * 4 = 4 * l by omega, hk2.2]
      refine ⟨zw_id (by omega) (by omega), zw_id (by omega) (by omega), by omega, by omega, zw_id (by omega) (by omega), by omega, by omega, by omega, by omega, ?_⟩
      obtain ⟨c20, _, ho, h1, h2, h3⟩ := hq
      have wk1 : zWk X0 (zst X 130 3 (s + 1)) := zWk_w wk (by omega)
      unfold zRn at q
      rw [if_neg hl] at q
      by_cases o267 : X0 (57 + 5 * p) (4 * l) = 267
      · rw [if_pos o267] at q
        refine ⟨fun _ => ?_, fun z => absurd o267 z⟩
        have mb := z_mulb x0 x1 (y := X0 (57 + 5 * p) (4 * l + 1) + 1) (B := 8) (by omega) (by omega)
        have em : (x * (X0 (57 + 5 * p) (4 * l + 1) + 1) + 7).tmod 100 = (x * (X0 (57 + 5 * p) (4 * l + 1) + 1) + 7) % 100 := Int.tmod_eq_emod_of_nonneg (by omega)
        refine Ru_done_f64 hG ⟨by rw [zw_id (x := X0 (57 + 5 * p) (4 * l + 1) + 1) (by omega) (by omega)]; exact zw_id (by omega) (by omega), zw_id (by omega) (by omega), by rw [em]; exact zw_id (by omega) (by omega), by omega, by omega, zw_id (by omega) (by omega), ⟨_, rfl, ?_⟩⟩
        refine ih (s + 1) _ (zst (zst (zst X 130 3 (s + 1)) 131 (X0 (57 + 5 * p) (4 * l + 2)) ((x * (X0 (57 + 5 * p) (4 * l + 1) + 1) + 7) % 100)) 132 (X0 (57 + 5 * p) (4 * l + 2)) (zshl 1 (X0 (57 + 5 * p) (4 * l + 1)))) (by omega) (by omega) (by omega) ?_ ?_ ?_ ?_
        · (simp (disch := omega) only [zrd_q, zrd_n])
        · exact (by repeat' (first | (with_reducible exact zWk_r _) | assumption | (with_reducible refine zWk_w ?_ (by omega))))
        · rw [show (zst (zst (zst X 130 3 (s + 1)) 131 (X0 (57 + 5 * p) (4 * l + 2)) ((x * (X0 (57 + 5 * p) (4 * l + 1) + 1) + 7) % 100)) 132 (X0 (57 + 5 * p) (4 * l + 2)) (zshl 1 (X0 (57 + 5 * p) (4 * l + 1)))) 131 = zup (X 131) (X0 (57 + 5 * p) (4 * l + 2)) ((x * (X0 (57 + 5 * p) (4 * l + 1) + 1) + 7) % 100) from by rw [zrd_r (by omega), zst_a, zrd_r (by omega)]]
          exact zup_in hN (by omega)
        · rw [show (zst (zst (zst X 130 3 (s + 1)) 131 (X0 (57 + 5 * p) (4 * l + 2)) ((x * (X0 (57 + 5 * p) (4 * l + 1) + 1) + 7) % 100)) 132 (X0 (57 + 5 * p) (4 * l + 2)) (zshl 1 (X0 (57 + 5 * p) (4 * l + 1)))) 131 = zup (X 131) (X0 (57 + 5 * p) (4 * l + 2)) ((x * (X0 (57 + 5 * p) (4 * l + 1) + 1) + 7) % 100) from by (repeat (first | rw [zst_a] | rw [zrd_r (by omega)])), show (zst (zst (zst X 130 3 (s + 1)) 131 (X0 (57 + 5 * p) (4 * l + 2)) ((x * (X0 (57 + 5 * p) (4 * l + 1) + 1) + 7) % 100)) 132 (X0 (57 + 5 * p) (4 * l + 2)) (zshl 1 (X0 (57 + 5 * p) (4 * l + 1)))) 132 = zup (X 132) (X0 (57 + 5 * p) (4 * l + 2)) (zshl 1 (X0 (57 + 5 * p) (4 * l + 1))) from by (repeat (first | rw [zst_a] | rw [zrd_r (by omega)])), show (zst (zst (zst X 130 3 (s + 1)) 131 (X0 (57 + 5 * p) (4 * l + 2)) ((x * (X0 (57 + 5 * p) (4 * l + 1) + 1) + 7) % 100)) 132 (X0 (57 + 5 * p) (4 * l + 2)) (zshl 1 (X0 (57 + 5 * p) (4 * l + 1)))) 133 = X 133 from by (repeat (first | rw [zst_a] | rw [zrd_r (by omega)]))]
          exact fun X2 w2 e2 c2 => q X2 w2 (by rw [e2]; unfold zR1; omega) c2
      rw [if_neg o267] at q
      by_cases o268 : X0 (57 + 5 * p) (4 * l) = 268
      · rw [if_pos o268] at q
        refine ⟨fun z => absurd z (by omega), fun _ => ⟨fun _ => ?_, fun z => absurd o268 z⟩⟩
        have n1 := hN (X0 (57 + 5 * p) (4 * l + 1)) (by omega) (by omega)
        have n2 := hN (X0 (57 + 5 * p) (4 * l + 2)) (by omega) (by omega)
        have e131 : zst X 130 3 (s + 1) 131 = X 131 := zrd_r (by omega)
        have e132 : zst X 130 3 (s + 1) 132 = X 132 := zrd_r (by omega)
        refine Ru_done_f97 hG ?_
        rw [e131, zrd_r (b := 132) (by omega), e132, Int.tmod_eq_emod_of_nonneg (by omega)]
        refine ⟨by omega, by omega, by omega, by omega, zw_id (by omega) (by omega), zw_id (by omega) (by omega), fun r1 e1 => ⟨zw_id (by omega) (by omega), ⟨_, rfl, ?_⟩⟩⟩
        subst e1
        refine ih (s + 1) _ (zst (zst (zst X 130 3 (s + 1)) 131 (X0 (57 + 5 * p) (4 * l + 2)) ((X 131 (X0 (57 + 5 * p) (4 * l + 2)) + X 131 (X0 (57 + 5 * p) (4 * l + 1))) % 100)) 132 (X0 (57 + 5 * p) (4 * l + 2)) (zor (X 132 (X0 (57 + 5 * p) (4 * l + 2))) (X 132 (X0 (57 + 5 * p) (4 * l + 1))))) (by omega) (by omega) (by omega) ?_ ?_ ?_ ?_
        · (simp (disch := omega) only [zrd_q, zrd_n])
        · exact (by repeat' (first | (with_reducible exact zWk_r _) | assumption | (with_reducible refine zWk_w ?_ (by omega))))
        · rw [show (zst (zst (zst X 130 3 (s + 1)) 131 (X0 (57 + 5 * p) (4 * l + 2)) ((X 131 (X0 (57 + 5 * p) (4 * l + 2)) + X 131 (X0 (57 + 5 * p) (4 * l + 1))) % 100)) 132 (X0 (57 + 5 * p) (4 * l + 2)) (zor (X 132 (X0 (57 + 5 * p) (4 * l + 2))) (X 132 (X0 (57 + 5 * p) (4 * l + 1))))) 131 = zup (X 131) (X0 (57 + 5 * p) (4 * l + 2)) ((X 131 (X0 (57 + 5 * p) (4 * l + 2)) + X 131 (X0 (57 + 5 * p) (4 * l + 1))) % 100) from by rw [zrd_r (by omega), zst_a, zrd_r (by omega)]]
          exact zup_in hN (by omega)
        · rw [show (zst (zst (zst X 130 3 (s + 1)) 131 (X0 (57 + 5 * p) (4 * l + 2)) ((X 131 (X0 (57 + 5 * p) (4 * l + 2)) + X 131 (X0 (57 + 5 * p) (4 * l + 1))) % 100)) 132 (X0 (57 + 5 * p) (4 * l + 2)) (zor (X 132 (X0 (57 + 5 * p) (4 * l + 2))) (X 132 (X0 (57 + 5 * p) (4 * l + 1))))) 131 = zup (X 131) (X0 (57 + 5 * p) (4 * l + 2)) ((X 131 (X0 (57 + 5 * p) (4 * l + 2)) + X 131 (X0 (57 + 5 * p) (4 * l + 1))) % 100) from by (repeat (first | rw [zst_a] | rw [zrd_r (by omega)])), show (zst (zst (zst X 130 3 (s + 1)) 131 (X0 (57 + 5 * p) (4 * l + 2)) ((X 131 (X0 (57 + 5 * p) (4 * l + 2)) + X 131 (X0 (57 + 5 * p) (4 * l + 1))) % 100)) 132 (X0 (57 + 5 * p) (4 * l + 2)) (zor (X 132 (X0 (57 + 5 * p) (4 * l + 2))) (X 132 (X0 (57 + 5 * p) (4 * l + 1))))) 132 = zup (X 132) (X0 (57 + 5 * p) (4 * l + 2)) (zor (X 132 (X0 (57 + 5 * p) (4 * l + 2))) (X 132 (X0 (57 + 5 * p) (4 * l + 1)))) from by (repeat (first | rw [zst_a] | rw [zrd_r (by omega)])), show (zst (zst (zst X 130 3 (s + 1)) 131 (X0 (57 + 5 * p) (4 * l + 2)) ((X 131 (X0 (57 + 5 * p) (4 * l + 2)) + X 131 (X0 (57 + 5 * p) (4 * l + 1))) % 100)) 132 (X0 (57 + 5 * p) (4 * l + 2)) (zor (X 132 (X0 (57 + 5 * p) (4 * l + 2))) (X 132 (X0 (57 + 5 * p) (4 * l + 1))))) 133 = X 133 from by (repeat (first | rw [zst_a] | rw [zrd_r (by omega)]))]
          exact fun X2 w2 e2 c2 => q X2 w2 (by rw [e2]; unfold zR1; omega) c2
      rw [if_neg o268] at q
      by_cases o269 : X0 (57 + 5 * p) (4 * l) = 269
      · rw [if_pos o269] at q
        refine ⟨fun z => absurd z (by omega), fun _ => ⟨fun z => absurd z (by omega), fun _ => ⟨fun _ => ?_, fun z => absurd o269 z⟩⟩⟩
        refine Ru_done_f142 hG ⟨by omega, by omega, zw_id (by omega) (by omega), ⟨_, rfl, ?_⟩⟩
        refine ih (s + 1) _ (zst (zst (zst X 130 3 (s + 1)) 131 (X0 (57 + 5 * p) (4 * l + 2)) (X0 (57 + 5 * p) (4 * l + 1))) 132 (X0 (57 + 5 * p) (4 * l + 2)) 0) (by omega) (by omega) (by omega) ?_ ?_ ?_ ?_
        · (simp (disch := omega) only [zrd_q, zrd_n])
        · exact (by repeat' (first | (with_reducible exact zWk_r _) | assumption | (with_reducible refine zWk_w ?_ (by omega))))
        · rw [show (zst (zst (zst X 130 3 (s + 1)) 131 (X0 (57 + 5 * p) (4 * l + 2)) (X0 (57 + 5 * p) (4 * l + 1))) 132 (X0 (57 + 5 * p) (4 * l + 2)) 0) 131 = zup (X 131) (X0 (57 + 5 * p) (4 * l + 2)) (X0 (57 + 5 * p) (4 * l + 1)) from by rw [zrd_r (by omega), zst_a, zrd_r (by omega)]]
          exact zup_in hN (by omega)
        · rw [show (zst (zst (zst X 130 3 (s + 1)) 131 (X0 (57 + 5 * p) (4 * l + 2)) (X0 (57 + 5 * p) (4 * l + 1))) 132 (X0 (57 + 5 * p) (4 * l + 2)) 0) 131 = zup (X 131) (X0 (57 + 5 * p) (4 * l + 2)) (X0 (57 + 5 * p) (4 * l + 1)) from by (repeat (first | rw [zst_a] | rw [zrd_r (by omega)])), show (zst (zst (zst X 130 3 (s + 1)) 131 (X0 (57 + 5 * p) (4 * l + 2)) (X0 (57 + 5 * p) (4 * l + 1))) 132 (X0 (57 + 5 * p) (4 * l + 2)) 0) 132 = zup (X 132) (X0 (57 + 5 * p) (4 * l + 2)) 0 from by (repeat (first | rw [zst_a] | rw [zrd_r (by omega)])), show (zst (zst (zst X 130 3 (s + 1)) 131 (X0 (57 + 5 * p) (4 * l + 2)) (X0 (57 + 5 * p) (4 * l + 1))) 132 (X0 (57 + 5 * p) (4 * l + 2)) 0) 133 = X 133 from by (repeat (first | rw [zst_a] | rw [zrd_r (by omega)]))]
          exact fun X2 w2 e2 c2 => q X2 w2 (by rw [e2]; unfold zR1; omega) c2
      rw [if_neg o269] at q
      by_cases o270 : X0 (57 + 5 * p) (4 * l) = 270
      · rw [if_pos o270] at q
        refine ⟨fun z => absurd z (by omega), fun _ => ⟨fun z => absurd z (by omega), fun _ => ⟨fun z => absurd z (by omega), fun _ => ⟨fun _ => ?_, fun z => absurd o270 z⟩⟩⟩⟩
        refine Ru_done_f162 hG ?_
        rw [zrd_r (b := 133) (by omega), zrd_r (b := 132) (by omega)]
        refine ⟨by omega, by omega, by omega, by omega, zw_id (by omega) (by omega), ⟨_, rfl, ?_⟩⟩
        refine ih (s + 1) _ (zst (zst X 130 3 (s + 1)) 133 (X0 (57 + 5 * p) (4 * l + 2)) (zor (X 133 (X0 (57 + 5 * p) (4 * l + 2))) (X 132 (X0 (57 + 5 * p) (4 * l + 1))))) (by omega) (by omega) (by omega) ?_ ?_ ?_ ?_
        · (simp (disch := omega) only [zrd_q, zrd_n])
        · exact (by repeat' (first | (with_reducible exact zWk_r _) | assumption | (with_reducible refine zWk_w ?_ (by omega))))
        · rw [show (zst (zst X 130 3 (s + 1)) 133 (X0 (57 + 5 * p) (4 * l + 2)) (zor (X 133 (X0 (57 + 5 * p) (4 * l + 2))) (X 132 (X0 (57 + 5 * p) (4 * l + 1))))) 131 = X 131 from by repeat rw [zrd_r (by omega)]]
          exact hN
        · rw [show (zst (zst X 130 3 (s + 1)) 133 (X0 (57 + 5 * p) (4 * l + 2)) (zor (X 133 (X0 (57 + 5 * p) (4 * l + 2))) (X 132 (X0 (57 + 5 * p) (4 * l + 1))))) 131 = X 131 from by (repeat (first | rw [zst_a] | rw [zrd_r (by omega)])), show (zst (zst X 130 3 (s + 1)) 133 (X0 (57 + 5 * p) (4 * l + 2)) (zor (X 133 (X0 (57 + 5 * p) (4 * l + 2))) (X 132 (X0 (57 + 5 * p) (4 * l + 1))))) 132 = X 132 from by (repeat (first | rw [zst_a] | rw [zrd_r (by omega)])), show (zst (zst X 130 3 (s + 1)) 133 (X0 (57 + 5 * p) (4 * l + 2)) (zor (X 133 (X0 (57 + 5 * p) (4 * l + 2))) (X 132 (X0 (57 + 5 * p) (4 * l + 1))))) 133 = zup (X 133) (X0 (57 + 5 * p) (4 * l + 2)) (zor (X 133 (X0 (57 + 5 * p) (4 * l + 2))) (X 132 (X0 (57 + 5 * p) (4 * l + 1)))) from by (repeat (first | rw [zst_a] | rw [zrd_r (by omega)]))]
          exact fun X2 w2 e2 c2 => q X2 w2 (by rw [e2]; unfold zR1; omega) c2
      rw [if_neg o270] at q
      by_cases o271 : X0 (57 + 5 * p) (4 * l) = 271
      · rw [if_pos o271] at q
        refine ⟨fun z => absurd z (by omega), fun _ => ⟨fun z => absurd z (by omega), fun _ => ⟨fun z => absurd z (by omega), fun _ => ⟨fun z => absurd z (by omega), fun _ => ⟨fun _ => ?_, fun z => absurd o271 z⟩⟩⟩⟩⟩
        refine Ru_done_f182 hG hk2.1 ?_
        rw [w3, hk2.2, zrd_r (b := 131) (by omega)]
        refine ⟨by omega, by omega, fun hc => ⟨zw_id (by omega) (by omega), by omega, by omega, ⟨_, rfl, ?_⟩⟩, fun hc => ⟨zw_id (by omega) (by omega), ⟨_, rfl, ?_⟩⟩⟩
        · rw [if_pos hc] at q
          refine ih (s + 1) _ (zst X 130 3 (s + 1)) (by omega) (by omega) (by omega) ?_ ?_ ?_ ?_
          · (simp (disch := omega) only [zrd_q, zrd_n])
          · exact (by repeat' (first | (with_reducible exact zWk_r _) | assumption | (with_reducible refine zWk_w ?_ (by omega))))
          · rw [show (zst X 130 3 (s + 1)) 131 = X 131 from by repeat rw [zrd_r (by omega)]]
            exact hN
          · rw [show (zst X 130 3 (s + 1)) 131 = X 131 from by (repeat (first | rw [zst_a] | rw [zrd_r (by omega)])), show (zst X 130 3 (s + 1)) 132 = X 132 from by (repeat (first | rw [zst_a] | rw [zrd_r (by omega)])), show (zst X 130 3 (s + 1)) 133 = X 133 from by (repeat (first | rw [zst_a] | rw [zrd_r (by omega)]))]
            exact fun X2 w2 e2 c2 => q X2 w2 (by rw [e2]; unfold zR1; omega) c2
        · rw [if_neg (by omega)] at q
          refine ih (s + 1) _ (zst X 130 3 (s + 1)) (by omega) (by omega) (by omega) ?_ ?_ ?_ ?_
          · (simp (disch := omega) only [zrd_q, zrd_n])
          · exact (by repeat' (first | (with_reducible exact zWk_r _) | assumption | (with_reducible refine zWk_w ?_ (by omega))))
          · rw [show (zst X 130 3 (s + 1)) 131 = X 131 from by repeat rw [zrd_r (by omega)]]
            exact hN
          · rw [show (zst X 130 3 (s + 1)) 131 = X 131 from by (repeat (first | rw [zst_a] | rw [zrd_r (by omega)])), show (zst X 130 3 (s + 1)) 132 = X 132 from by (repeat (first | rw [zst_a] | rw [zrd_r (by omega)])), show (zst X 130 3 (s + 1)) 133 = X 133 from by (repeat (first | rw [zst_a] | rw [zrd_r (by omega)]))]
            exact fun X2 w2 e2 c2 => q X2 w2 (by rw [e2]; unfold zR1; omega) c2
      rw [if_neg o271] at q
      by_cases o272 : X0 (57 + 5 * p) (4 * l) = 272
      · rw [if_pos o272] at q
        refine ⟨fun z => absurd z (by omega), fun _ => ⟨fun z => absurd z (by omega), fun _ => ⟨fun z => absurd z (by omega), fun _ => ⟨fun z => absurd z (by omega), fun _ => ⟨fun z => absurd z (by omega), fun _ => ⟨fun _ => ?_, fun z => absurd o272 z⟩⟩⟩⟩⟩⟩
        refine ⟨zw_id (by omega) (by omega), by omega, by omega, ⟨_, rfl, ?_⟩⟩
        refine ih (s + 1) _ (zst X 130 3 (s + 1)) (by omega) (by omega) (by omega) ?_ ?_ ?_ ?_
        · (simp (disch := omega) only [zrd_q, zrd_n])
        · exact (by repeat' (first | (with_reducible exact zWk_r _) | assumption | (with_reducible refine zWk_w ?_ (by omega))))
        · rw [show (zst X 130 3 (s + 1)) 131 = X 131 from by repeat rw [zrd_r (by omega)]]
          exact hN
        · rw [show (zst X 130 3 (s + 1)) 131 = X 131 from by (repeat (first | rw [zst_a] | rw [zrd_r (by omega)])), show (zst X 130 3 (s + 1)) 132 = X 132 from by (repeat (first | rw [zst_a] | rw [zrd_r (by omega)])), show (zst X 130 3 (s + 1)) 133 = X 133 from by (repeat (first | rw [zst_a] | rw [zrd_r (by omega)]))]
          exact fun X2 w2 e2 c2 => q X2 w2 (by rw [e2]; unfold zR1; omega) c2
      rw [if_neg o272] at q
      refine ⟨fun z => absurd z (by omega), fun _ => ⟨fun z => absurd z (by omega), fun _ => ⟨fun z => absurd z (by omega), fun _ => ⟨fun z => absurd z (by omega), fun _ => ⟨fun z => absurd z (by omega), fun _ => ⟨fun z => absurd z (by omega), fun _ => ?_⟩⟩⟩⟩⟩⟩
      refine ⟨_, rfl, ?_⟩
      refine Ru_run_f56 hG hk ?_
      have fq : Q [] (zst X 130 3 (s + 1)) := q _ wk1 (zrd_s _ _ _ _) (zrd_r (by omega))
      exact ⟨fun _ => ⟨fun _ => fq, fun z => absurd z (by omega)⟩, fun _ => fq⟩
theorem run_M {Q : List zV → zX → Prop} {G : zG} {X0 : zX} {x p : Int} (hG : SH G) (h : zRT X0 1 0) (p0 : 0 ≤ p) (p1 : p < 10) (x0 : 0 ≤ x) (x1 : x ≤ 999) : ∀ (f : Nat) (s l : Int) (X : zX), s + f = 200 → 0 ≤ s → 0 ≤ l → zWk X0 X → (∀ j : Int, 0 ≤ j → j < 6 → 0 ≤ X 163 j ∧ X 163 j ≤ 99) →
    (∀ X2 : zX, zWk X0 X2 → X2 165 = (zRn (X0 (57 + 5 * p)) (X0 (53 + 5 * p) 8) x f (X 163) (X 164) (X 165) l).2 → Q [zI (s + (zRn (X0 (57 + 5 * p)) (X0 (53 + 5 * p) 8) x f (X 163) (X 164) (X 165) l).1)] X2) → M_does_W Q 54 [zR 139, zI p, zI x, zI l, zI s, zT, zT, zT] [] G X := by
  intro f
  have cn := zR_lin h p p0 p1
  rw [show (0 : Int) + 2790 + 210 * p = 2790 + 210 * p by omega, show (1 : Int) + 52 + 5 * p = 53 + 5 * p by omega] at cn
  induction f with
  | zero =>
    intro s l X e s0 l0 wk _ q
    have q2 := q X wk rfl
    rw [show s + (zRn (X0 (57 + 5 * p)) (X0 (53 + 5 * p) 8) x 0 (X 163) (X 164) (X 165) l).1 = s from by show s + 0 = s; omega] at q2
    have w0 : X 140 = X0 140 := wk _ (by omega)
    refine M_does_f54 hG (q_pageAt hG p0 p1 ⟨_, rfl, zw_id (by omega) (by omega), by omega, by omega, ?_⟩)
    exact ⟨fun _ => ⟨fun z => absurd z (by omega), fun _ => q2⟩, fun _ => q2⟩
  | succ f ih =>
    intro s l X e s0 l0 wk hN q
    have w0 : X 140 = X0 140 := wk _ (by omega)
    refine M_does_f54 hG (q_pageAt hG p0 p1 ⟨_, rfl, zw_id (by omega) (by omega), by omega, by omega, ?_⟩)
    rw [w0, show 2670 + 210 * p + 120 = 2790 + 210 * p by omega, cn.1]
    by_cases hl : (X0 (53 + 5 * p) 8) ≤ l
    · have q2 := q X wk
      unfold zRn at q2
      rw [if_pos hl] at q2
      have q3 := q2 rfl
      rw [show s + (0 : Int) = s by omega] at q3
      exact ⟨fun z => absurd z (by omega), fun _ => q3⟩
    · have hq := q_line h p0 p1 l0 (by omega : l < X0 (53 + 5 * p) 8)
      refine ⟨fun _ => ⟨fun _ => q_pageAt hG p0 p1 ⟨_, rfl, zw_id (by omega) (by omega), by rw [zw_id (x := 4 * l) (by omega) (by omega)]; exact zw_id (by omega) (by omega), zw_id (by omega) (by omega), by omega, by omega, zw_id (by omega) (by omega), by omega, by omega, zw_id (by omega) (by omega), zw_id (by omega) (by omega), by omega, by omega, ?_⟩, fun z => absurd z (by omega)⟩, fun z => absurd z (by omega)⟩
      rw [w0, show 2670 + 210 * p + 121 + 4 * l + 1 = 2792 + 210 * p + 4 * l by omega, show 2670 + 210 * p + 121 + 4 * l + 2 = 2793 + 210 * p + 4 * l by omega, show 2670 + 210 * p + 121 + 4 * l = 2791 + 210 * p + 4 * l by omega]
      obtain ⟨c20, _, ho, h1, h2, h3⟩ := hq
      unfold zRn at q
      rw [if_neg hl] at q
      by_cases o267 : X0 (57 + 5 * p) (4 * l) = 267
      · rw [if_pos o267] at q
        have g1 := (h1 (by omega)).1
        have g2 := (h2 (by omega)).1
        rw [g1, g2]
        refine ⟨fun _ => ?_, fun z => absurd (by omega) z⟩
        have mb := z_mulb x0 x1 (y := X0 (57 + 5 * p) (4 * l + 1) + 1) (B := 8) (by omega) (by omega)
        have em : (x * (X0 (57 + 5 * p) (4 * l + 1) + 1) + 7).tmod 100 = (x * (X0 (57 + 5 * p) (4 * l + 1) + 1) + 7) % 100 := Int.tmod_eq_emod_of_nonneg (by omega)
        refine M_does_f168 hG ⟨by rw [zw_id (x := X0 (57 + 5 * p) (4 * l + 1) + 1) (by omega) (by omega)]; exact zw_id (by omega) (by omega), zw_id (by omega) (by omega), by rw [em]; exact zw_id (by omega) (by omega), by omega, by omega, ?_⟩
        refine ih (s + 1) _ (zst (zst X 163 (X0 (57 + 5 * p) (4 * l + 2)) ((x * (X0 (57 + 5 * p) (4 * l + 1) + 1) + 7) % 100)) 164 (X0 (57 + 5 * p) (4 * l + 2)) (zshl 1 (X0 (57 + 5 * p) (4 * l + 1)))) (by omega) (by omega) (by omega) ?_ ?_ ?_
        · exact (by repeat' (first | (with_reducible exact zWk_r _) | assumption | (with_reducible refine zWk_w ?_ (by omega))))
        · rw [show (zst (zst X 163 (X0 (57 + 5 * p) (4 * l + 2)) ((x * (X0 (57 + 5 * p) (4 * l + 1) + 1) + 7) % 100)) 164 (X0 (57 + 5 * p) (4 * l + 2)) (zshl 1 (X0 (57 + 5 * p) (4 * l + 1)))) 163 = zup (X 163) (X0 (57 + 5 * p) (4 * l + 2)) ((x * (X0 (57 + 5 * p) (4 * l + 1) + 1) + 7) % 100) from by (repeat (first | rw [zst_a] | rw [zrd_r (by omega)]))]
          exact zup_in hN (by omega)
        · rw [show (zst (zst X 163 (X0 (57 + 5 * p) (4 * l + 2)) ((x * (X0 (57 + 5 * p) (4 * l + 1) + 1) + 7) % 100)) 164 (X0 (57 + 5 * p) (4 * l + 2)) (zshl 1 (X0 (57 + 5 * p) (4 * l + 1)))) 163 = zup (X 163) (X0 (57 + 5 * p) (4 * l + 2)) ((x * (X0 (57 + 5 * p) (4 * l + 1) + 1) + 7) % 100) from by (repeat (first | rw [zst_a] | rw [zrd_r (by omega)])), show (zst (zst X 163 (X0 (57 + 5 * p) (4 * l + 2)) ((x * (X0 (57 + 5 * p) (4 * l + 1) + 1) + 7) % 100)) 164 (X0 (57 + 5 * p) (4 * l + 2)) (zshl 1 (X0 (57 + 5 * p) (4 * l + 1)))) 164 = zup (X 164) (X0 (57 + 5 * p) (4 * l + 2)) (zshl 1 (X0 (57 + 5 * p) (4 * l + 1))) from by (repeat (first | rw [zst_a] | rw [zrd_r (by omega)])), show (zst (zst X 163 (X0 (57 + 5 * p) (4 * l + 2)) ((x * (X0 (57 + 5 * p) (4 * l + 1) + 1) + 7) % 100)) 164 (X0 (57 + 5 * p) (4 * l + 2)) (zshl 1 (X0 (57 + 5 * p) (4 * l + 1)))) 165 = X 165 from by (repeat (first | rw [zst_a] | rw [zrd_r (by omega)]))]
          intro X2 w2 c2
          have q2 := q X2 w2 c2
          unfold zR1 at q2
          rw [show ∀ y : Int, s + 1 + y = s + (y + 1) from fun y => by omega]
          exact q2
      rw [if_neg o267] at q
      by_cases o268 : X0 (57 + 5 * p) (4 * l) = 268
      · rw [if_pos o268] at q
        have g1 := (h1 (by omega)).1
        have g2 := (h2 (by omega)).1
        rw [g1, g2]
        refine ⟨fun z => absurd z (by omega), fun _ => ⟨fun z => absurd z (by omega), fun _ => ⟨fun _ => ?_, fun z => absurd (by omega) z⟩⟩⟩
        have n1 := hN (X0 (57 + 5 * p) (4 * l + 1)) (by omega) (by omega)
        have n2 := hN (X0 (57 + 5 * p) (4 * l + 2)) (by omega) (by omega)
        refine M_does_f201 hG ?_
        rw [zrd_r (b := 164) (by omega), Int.add_comm (X 163 (X0 (57 + 5 * p) (4 * l + 1))) (X 163 (X0 (57 + 5 * p) (4 * l + 2))), Int.tmod_eq_emod_of_nonneg (by omega)]
        refine ⟨by omega, by omega, by omega, by omega, zw_id (by omega) (by omega), zw_id (by omega) (by omega), fun r1 e1 => ?_⟩
        subst e1
        refine ih (s + 1) _ (zst (zst X 163 (X0 (57 + 5 * p) (4 * l + 2)) ((X 163 (X0 (57 + 5 * p) (4 * l + 2)) + X 163 (X0 (57 + 5 * p) (4 * l + 1))) % 100)) 164 (X0 (57 + 5 * p) (4 * l + 2)) (zor (X 164 (X0 (57 + 5 * p) (4 * l + 2))) (X 164 (X0 (57 + 5 * p) (4 * l + 1))))) (by omega) (by omega) (by omega) ?_ ?_ ?_
        · exact (by repeat' (first | (with_reducible exact zWk_r _) | assumption | (with_reducible refine zWk_w ?_ (by omega))))
        · rw [show (zst (zst X 163 (X0 (57 + 5 * p) (4 * l + 2)) ((X 163 (X0 (57 + 5 * p) (4 * l + 2)) + X 163 (X0 (57 + 5 * p) (4 * l + 1))) % 100)) 164 (X0 (57 + 5 * p) (4 * l + 2)) (zor (X 164 (X0 (57 + 5 * p) (4 * l + 2))) (X 164 (X0 (57 + 5 * p) (4 * l + 1))))) 163 = zup (X 163) (X0 (57 + 5 * p) (4 * l + 2)) ((X 163 (X0 (57 + 5 * p) (4 * l + 2)) + X 163 (X0 (57 + 5 * p) (4 * l + 1))) % 100) from by (repeat (first | rw [zst_a] | rw [zrd_r (by omega)]))]
          exact zup_in hN (by omega)
        · rw [show (zst (zst X 163 (X0 (57 + 5 * p) (4 * l + 2)) ((X 163 (X0 (57 + 5 * p) (4 * l + 2)) + X 163 (X0 (57 + 5 * p) (4 * l + 1))) % 100)) 164 (X0 (57 + 5 * p) (4 * l + 2)) (zor (X 164 (X0 (57 + 5 * p) (4 * l + 2))) (X 164 (X0 (57 + 5 * p) (4 * l + 1))))) 163 = zup (X 163) (X0 (57 + 5 * p) (4 * l + 2)) ((X 163 (X0 (57 + 5 * p) (4 * l + 2)) + X 163 (X0 (57 + 5 * p) (4 * l + 1))) % 100) from by (repeat (first | rw [zst_a] | rw [zrd_r (by omega)])), show (zst (zst X 163 (X0 (57 + 5 * p) (4 * l + 2)) ((X 163 (X0 (57 + 5 * p) (4 * l + 2)) + X 163 (X0 (57 + 5 * p) (4 * l + 1))) % 100)) 164 (X0 (57 + 5 * p) (4 * l + 2)) (zor (X 164 (X0 (57 + 5 * p) (4 * l + 2))) (X 164 (X0 (57 + 5 * p) (4 * l + 1))))) 164 = zup (X 164) (X0 (57 + 5 * p) (4 * l + 2)) (zor (X 164 (X0 (57 + 5 * p) (4 * l + 2))) (X 164 (X0 (57 + 5 * p) (4 * l + 1)))) from by (repeat (first | rw [zst_a] | rw [zrd_r (by omega)])), show (zst (zst X 163 (X0 (57 + 5 * p) (4 * l + 2)) ((X 163 (X0 (57 + 5 * p) (4 * l + 2)) + X 163 (X0 (57 + 5 * p) (4 * l + 1))) % 100)) 164 (X0 (57 + 5 * p) (4 * l + 2)) (zor (X 164 (X0 (57 + 5 * p) (4 * l + 2))) (X 164 (X0 (57 + 5 * p) (4 * l + 1))))) 165 = X 165 from by (repeat (first | rw [zst_a] | rw [zrd_r (by omega)]))]
          intro X2 w2 c2
          have q2 := q X2 w2 c2
          unfold zR1 at q2
          rw [show ∀ y : Int, s + 1 + y = s + (y + 1) from fun y => by omega]
          exact q2
      rw [if_neg o268] at q
      by_cases o269 : X0 (57 + 5 * p) (4 * l) = 269
      · rw [if_pos o269] at q
        have g1 := (h1 (by omega)).1
        have g2 := (h2 (by omega)).1
        rw [g1, g2]
        refine ⟨fun z => absurd z (by omega), fun _ => ⟨fun z => absurd z (by omega), fun _ => ⟨fun z => absurd z (by omega), fun _ => ⟨fun _ => ?_, fun z => absurd (by omega) z⟩⟩⟩⟩
        refine M_does_f246 hG ⟨by omega, by omega, ?_⟩
        refine ih (s + 1) _ (zst (zst X 163 (X0 (57 + 5 * p) (4 * l + 2)) (X0 (57 + 5 * p) (4 * l + 1))) 164 (X0 (57 + 5 * p) (4 * l + 2)) 0) (by omega) (by omega) (by omega) ?_ ?_ ?_
        · exact (by repeat' (first | (with_reducible exact zWk_r _) | assumption | (with_reducible refine zWk_w ?_ (by omega))))
        · rw [show (zst (zst X 163 (X0 (57 + 5 * p) (4 * l + 2)) (X0 (57 + 5 * p) (4 * l + 1))) 164 (X0 (57 + 5 * p) (4 * l + 2)) 0) 163 = zup (X 163) (X0 (57 + 5 * p) (4 * l + 2)) (X0 (57 + 5 * p) (4 * l + 1)) from by (repeat (first | rw [zst_a] | rw [zrd_r (by omega)]))]
          exact zup_in hN (by omega)
        · rw [show (zst (zst X 163 (X0 (57 + 5 * p) (4 * l + 2)) (X0 (57 + 5 * p) (4 * l + 1))) 164 (X0 (57 + 5 * p) (4 * l + 2)) 0) 163 = zup (X 163) (X0 (57 + 5 * p) (4 * l + 2)) (X0 (57 + 5 * p) (4 * l + 1)) from by (repeat (first | rw [zst_a] | rw [zrd_r (by omega)])), show (zst (zst X 163 (X0 (57 + 5 * p) (4 * l + 2)) (X0 (57 + 5 * p) (4 * l + 1))) 164 (X0 (57 + 5 * p) (4 * l + 2)) 0) 164 = zup (X 164) (X0 (57 + 5 * p) (4 * l + 2)) 0 from by (repeat (first | rw [zst_a] | rw [zrd_r (by omega)])), show (zst (zst X 163 (X0 (57 + 5 * p) (4 * l + 2)) (X0 (57 + 5 * p) (4 * l + 1))) 164 (X0 (57 + 5 * p) (4 * l + 2)) 0) 165 = X 165 from by (repeat (first | rw [zst_a] | rw [zrd_r (by omega)]))]
          intro X2 w2 c2
          have q2 := q X2 w2 c2
          unfold zR1 at q2
          rw [show ∀ y : Int, s + 1 + y = s + (y + 1) from fun y => by omega]
          exact q2
      rw [if_neg o269] at q
      by_cases o270 : X0 (57 + 5 * p) (4 * l) = 270
      · rw [if_pos o270] at q
        have g1 := (h1 (by omega)).1
        have g2 := (h2 (by omega)).1
        rw [g1, g2]
        refine ⟨fun z => absurd z (by omega), fun _ => ⟨fun z => absurd z (by omega), fun _ => ⟨fun z => absurd z (by omega), fun _ => ⟨fun z => absurd z (by omega), fun _ => ⟨fun _ => ?_, fun z => absurd (by omega) z⟩⟩⟩⟩⟩
        refine M_does_f266 hG ⟨by omega, by omega, by omega, by omega, ?_⟩
        refine ih (s + 1) _ (zst X 165 (X0 (57 + 5 * p) (4 * l + 2)) (zor (X 165 (X0 (57 + 5 * p) (4 * l + 2))) (X 164 (X0 (57 + 5 * p) (4 * l + 1))))) (by omega) (by omega) (by omega) ?_ ?_ ?_
        · exact (by repeat' (first | (with_reducible exact zWk_r _) | assumption | (with_reducible refine zWk_w ?_ (by omega))))
        · rw [show (zst X 165 (X0 (57 + 5 * p) (4 * l + 2)) (zor (X 165 (X0 (57 + 5 * p) (4 * l + 2))) (X 164 (X0 (57 + 5 * p) (4 * l + 1))))) 163 = X 163 from by (repeat (first | rw [zst_a] | rw [zrd_r (by omega)]))]
          exact hN
        · rw [show (zst X 165 (X0 (57 + 5 * p) (4 * l + 2)) (zor (X 165 (X0 (57 + 5 * p) (4 * l + 2))) (X 164 (X0 (57 + 5 * p) (4 * l + 1))))) 163 = X 163 from by (repeat (first | rw [zst_a] | rw [zrd_r (by omega)])), show (zst X 165 (X0 (57 + 5 * p) (4 * l + 2)) (zor (X 165 (X0 (57 + 5 * p) (4 * l + 2))) (X 164 (X0 (57 + 5 * p) (4 * l + 1))))) 164 = X 164 from by (repeat (first | rw [zst_a] | rw [zrd_r (by omega)])), show (zst X 165 (X0 (57 + 5 * p) (4 * l + 2)) (zor (X 165 (X0 (57 + 5 * p) (4 * l + 2))) (X 164 (X0 (57 + 5 * p) (4 * l + 1))))) 165 = zup (X 165) (X0 (57 + 5 * p) (4 * l + 2)) (zor (X 165 (X0 (57 + 5 * p) (4 * l + 2))) (X 164 (X0 (57 + 5 * p) (4 * l + 1)))) from by (repeat (first | rw [zst_a] | rw [zrd_r (by omega)]))]
          intro X2 w2 c2
          have q2 := q X2 w2 c2
          unfold zR1 at q2
          rw [show ∀ y : Int, s + 1 + y = s + (y + 1) from fun y => by omega]
          exact q2
      rw [if_neg o270] at q
      by_cases o271 : X0 (57 + 5 * p) (4 * l) = 271
      · rw [if_pos o271] at q
        have g1 := (h1 (by omega)).1
        have g2 := (h2 (by omega)).1
        rw [g1, g2]
        refine ⟨fun z => absurd z (by omega), fun _ => ⟨fun z => absurd z (by omega), fun _ => ⟨fun z => absurd z (by omega), fun _ => ⟨fun z => absurd z (by omega), fun _ => ⟨fun z => absurd z (by omega), fun _ => ⟨fun _ => ?_, fun z => absurd (by omega) z⟩⟩⟩⟩⟩⟩
        refine M_does_f286 hG ?_
        rw [w0, show 2791 + 210 * p + 4 * l + 3 = 2794 + 210 * p + 4 * l by omega, (h3 (by omega)).1]
        refine ⟨by omega, by omega, fun hc => ⟨zw_id (by omega) (by omega), by omega, by omega, ?_⟩, fun hc => ?_⟩
        · rw [if_pos hc] at q
          refine ih (s + 1) _ X (by omega) (by omega) (by omega) ?_ ?_ ?_
          · exact wk
          · skip
            exact hN
          · skip
            intro X2 w2 c2
            have q2 := q X2 w2 c2
            unfold zR1 at q2
            rw [show ∀ y : Int, s + 1 + y = s + (y + 1) from fun y => by omega]
            exact q2
        · rw [if_neg (by omega)] at q
          refine ih (s + 1) _ X (by omega) (by omega) (by omega) ?_ ?_ ?_
          · exact wk
          · skip
            exact hN
          · skip
            intro X2 w2 c2
            have q2 := q X2 w2 c2
            unfold zR1 at q2
            rw [show ∀ y : Int, s + 1 + y = s + (y + 1) from fun y => by omega]
            exact q2
      rw [if_neg o271] at q
      by_cases o272 : X0 (57 + 5 * p) (4 * l) = 272
      · rw [if_pos o272] at q
        refine ⟨fun z => absurd z (by omega), fun _ => ⟨fun z => absurd z (by omega), fun _ => ⟨fun z => absurd z (by omega), fun _ => ⟨fun z => absurd z (by omega), fun _ => ⟨fun z => absurd z (by omega), fun _ => ⟨fun z => absurd z (by omega), fun _ => ⟨fun _ => ?_, fun z => absurd (by omega) z⟩⟩⟩⟩⟩⟩⟩
        refine M_does_f311 hG ?_
        rw [w0, show 2791 + 210 * p + 4 * l + 3 = 2794 + 210 * p + 4 * l by omega, (h3 (by omega)).1]
        refine ⟨zw_id (by omega) (by omega), by omega, by omega, ?_⟩
        refine ih (s + 1) _ X (by omega) (by omega) (by omega) ?_ ?_ ?_
        · exact wk
        · skip
          exact hN
        · skip
          intro X2 w2 c2
          have q2 := q X2 w2 c2
          unfold zR1 at q2
          rw [show ∀ y : Int, s + 1 + y = s + (y + 1) from fun y => by omega]
          exact q2
      rw [if_neg o272] at q
      refine ⟨fun z => absurd z (by omega), fun _ => ⟨fun z => absurd z (by omega), fun _ => ⟨fun z => absurd z (by omega), fun _ => ⟨fun z => absurd z (by omega), fun _ => ⟨fun z => absurd z (by omega), fun _ => ⟨fun z => absurd z (by omega), fun _ => ⟨fun z => absurd z (by omega), fun _ => ?_⟩⟩⟩⟩⟩⟩⟩
      exact q X wk rfl
theorem zup_c {N N2 : Int → Int} {n b v : Int} (h : ∀ j : Int, 0 ≤ j → j < n → N j = N2 j) : ∀ j : Int, 0 ≤ j → j < n → zup N b v j = zup N2 b v j := fun j j0 j1 => by
  unfold zup
  split
  · rfl
  · exact h j j0 j1
theorem zRn_c {X0 : zX} {x p : Int} (h : zRT X0 1 0) (p0 : 0 ≤ p) (p1 : p < 10) : ∀ (f : Nat) (N T C N2 T2 C2 : Int → Int) (l : Int), 0 ≤ l → (∀ j : Int, 0 ≤ j → j < 6 → N j = N2 j) → (∀ j : Int, 0 ≤ j → j < 6 → T j = T2 j) → (∀ j : Int, 0 ≤ j → j < 10 → C j = C2 j) →
    (zRn (X0 (57 + 5 * p)) (X0 (53 + 5 * p) 8) x f N T C l).1 = (zRn (X0 (57 + 5 * p)) (X0 (53 + 5 * p) 8) x f N2 T2 C2 l).1 ∧ ∀ j : Int, 0 ≤ j → j < 10 → (zRn (X0 (57 + 5 * p)) (X0 (53 + 5 * p) 8) x f N T C l).2 j = (zRn (X0 (57 + 5 * p)) (X0 (53 + 5 * p) 8) x f N2 T2 C2 l).2 j := by
  intro f
  induction f with
  | zero => exact fun N T C N2 T2 C2 l l0 hn ht hc => ⟨rfl, hc⟩
  | succ f ih =>
    intro N T C N2 T2 C2 l l0 hn ht hc
    unfold zRn
    by_cases hl : X0 (53 + 5 * p) 8 ≤ l
    · rw [if_pos hl, if_pos hl]
      exact ⟨rfl, hc⟩
    · obtain ⟨c20, _, ho, h1, h2, h3⟩ := q_line h p0 p1 l0 (by omega : l < X0 (53 + 5 * p) 8)
      have up : ∀ {r r2 : Int × (Int → Int)}, (r.1 = r2.1 ∧ ∀ j : Int, 0 ≤ j → j < 10 → r.2 j = r2.2 j) → (zR1 r).1 = (zR1 r2).1 ∧ ∀ j : Int, 0 ≤ j → j < 10 → (zR1 r).2 j = (zR1 r2).2 j := fun q => ⟨by unfold zR1; rw [q.1], q.2⟩
      rw [if_neg hl, if_neg hl]
      by_cases o1 : X0 (57 + 5 * p) (4 * l) = 267
      · rw [if_pos o1, if_pos o1]
        exact up (ih _ _ _ _ _ _ _ (by omega) (zup_c hn) (zup_c ht) hc)
      rw [if_neg o1, if_neg o1]
      by_cases o2 : X0 (57 + 5 * p) (4 * l) = 268
      · rw [if_pos o2, if_pos o2, hn _ (by omega) (by omega), hn _ (by omega) (by omega), ht _ (by omega) (by omega), ht _ (by omega) (by omega)]
        exact up (ih _ _ _ _ _ _ _ (by omega) (zup_c hn) (zup_c ht) hc)
      rw [if_neg o2, if_neg o2]
      by_cases o3 : X0 (57 + 5 * p) (4 * l) = 269
      · rw [if_pos o3, if_pos o3]
        exact up (ih _ _ _ _ _ _ _ (by omega) (zup_c hn) (zup_c ht) hc)
      rw [if_neg o3, if_neg o3]
      by_cases o4 : X0 (57 + 5 * p) (4 * l) = 270
      · rw [if_pos o4, if_pos o4, hc _ (by omega) (by omega), ht _ (by omega) (by omega)]
        exact up (ih _ _ _ _ _ _ _ (by omega) hn ht (zup_c hc))
      rw [if_neg o4, if_neg o4]
      by_cases o5 : X0 (57 + 5 * p) (4 * l) = 271
      · rw [if_pos o5, if_pos o5, hn _ (by omega) (by omega)]
        refine up (ih _ _ _ _ _ _ _ ?_ hn ht hc)
        split <;> omega
      rw [if_neg o5, if_neg o5]
      by_cases o6 : X0 (57 + 5 * p) (4 * l) = 272
      · rw [if_pos o6, if_pos o6]
        exact up (ih _ _ _ _ _ _ _ (by omega) hn ht hc)
      rw [if_neg o6, if_neg o6]
      exact ⟨rfl, hc⟩
/-- the runner from its start -/
theorem runner_D {Q : List zV → zX → Prop} {G : zG} {X : zX} {x p : Int} (hG : SH G) (h : zRT X 1 0) (p0 : 0 ≤ p) (p1 : p < 10) (x0 : 0 ≤ x) (x1 : x ≤ 999)
    (q : ∀ X2 : zX, zWk X X2 → ∀ N T C : Int → Int, (∀ j : Int, 0 ≤ j → j < 6 → N j = 0 ∧ T j = 0) → (∀ j : Int, 0 ≤ j → j < 10 → C j = 0) → X2 130 3 = (zRn (X (57 + 5 * p)) (X (53 + 5 * p) 8) x 200 N T C 0).1 → X2 133 = (zRn (X (57 + 5 * p)) (X (53 + 5 * p) 8) x 200 N T C 0).2 → Q [] X2) : Ru_run [zR 130, zR (53 + 5 * p), zI x] G X Q := by
  have hk := (zCa_at p0 p1).2
  refine Ru_run_f0 hG hk ?_
  have l2 : ∀ (d : Nat) (k : Int) (Y : zX), k + d = 10 → 0 ≤ k → zWk X Y → (∀ j : Int, 0 ≤ j → j < 6 → Y 131 j = 0 ∧ Y 132 j = 0) → (∀ j : Int, 0 ≤ j → j < k → Y 133 j = 0) → Ru_run_W Q 30 [zR 130, zR (53 + 5 * p), zI x, zI k] [] G Y := by
    intro d
    induction d with
    | zero =>
      intro k Y e k0 wk hn hc
      refine Ru_run_f30 hG hk ⟨fun z => absurd z (by omega), fun _ => ?_⟩
      have e1 : zst Y 130 3 0 131 = Y 131 := zrd_r (by omega)
      have e2 : zst Y 130 3 0 132 = Y 132 := zrd_r (by omega)
      have e3 : zst Y 130 3 0 133 = Y 133 := zrd_r (by omega)
      refine run_D hG h p0 p1 x0 x1 200 0 0 (zst Y 130 3 0) (by omega) (by omega) (by omega) (zrd_s _ _ _ _) (zWk_w wk (by omega)) (fun j j0 j1 => by rw [e1]; have := hn j j0 j1; omega) ?_
      rw [e1, e2, e3]
      exact fun X2 w2 s2 c2 => q X2 w2 _ _ _ hn (fun j j0 j1 => hc j j0 (by omega)) (by rw [s2]; omega) c2
    | succ d ih =>
      intro k Y e k0 wk hn hc
      refine Ru_run_f30 hG hk ⟨fun _ => ⟨k0, by omega, zw_id (by omega) (by omega), ?_⟩, fun z => absurd z (by omega)⟩
      refine ih (k + 1) _ (by omega) (by omega) (zWk_w wk (by omega)) (fun j j0 j1 => by rw [zrd_r (by omega), zrd_r (by omega)]; exact hn j j0 j1) (fun j j0 j1 => ?_)
      by_cases hj : j = k
      · rw [hj, zrd_s]
      · rw [zrd_n (by omega)]
        exact hc j j0 (by omega)
  have l1 : ∀ (d : Nat) (k : Int) (Y : zX), k + d = 6 → 0 ≤ k → zWk X Y → (∀ j : Int, 0 ≤ j → j < k → Y 131 j = 0 ∧ Y 132 j = 0) → Ru_run_W Q 2 [zR 130, zR (53 + 5 * p), zI x, zI k] [] G Y := by
    intro d
    induction d with
    | zero =>
      intro k Y e k0 wk hn
      exact Ru_run_f2 hG hk ⟨fun z => absurd z (by omega), fun _ => l2 10 0 Y (by omega) (by omega) wk (fun j j0 j1 => hn j j0 (by omega)) (fun j _ _ => by omega)⟩
    | succ d ih =>
      intro k Y e k0 wk hn
      refine Ru_run_f2 hG hk ⟨fun _ => ⟨k0, by omega, zw_id (by omega) (by omega), ?_⟩, fun z => absurd z (by omega)⟩
      refine ih (k + 1) _ (by omega) (by omega) (zWk_w (zWk_w wk (by omega)) (by omega)) (fun j j0 j1 => ?_)
      by_cases hj : j = k
      · rw [hj, zrd_s, zrd_n (by omega), zrd_s]
        omega
      · rw [zrd_n (b := 132) (by omega), zrd_n (by omega), zrd_n (by omega), zrd_n (by omega)]
        exact hn j j0 (by omega)
  exact l1 6 0 X (by omega) (by omega) (zWk_r X) (fun j _ _ => by omega)
theorem runner_M {Q : List zV → zX → Prop} {G : zG} {X : zX} {x p : Int} (hG : SH G) (h : zRT X 1 0) (p0 : 0 ≤ p) (p1 : p < 10) (x0 : 0 ≤ x) (x1 : x ≤ 999)
    (q : ∀ X2 : zX, zWk X X2 → ∀ N T C : Int → Int, (∀ j : Int, 0 ≤ j → j < 6 → N j = 0 ∧ T j = 0) → (∀ j : Int, 0 ≤ j → j < 10 → C j = 0) → X2 165 = (zRn (X (57 + 5 * p)) (X (53 + 5 * p) 8) x 200 N T C 0).2 → Q [zI (zRn (X (57 + 5 * p)) (X (53 + 5 * p) 8) x 200 N T C 0).1] X2) : M_does [zR 139, zI p, zI x] G X Q := by
  refine M_does_f0 hG ?_
  have l2 : ∀ (d : Nat) (k : Int) (Y : zX), k + d = 10 → 0 ≤ k → zWk X Y → (∀ j : Int, 0 ≤ j → j < 6 → Y 163 j = 0 ∧ Y 164 j = 0) → (∀ j : Int, 0 ≤ j → j < k → Y 165 j = 0) → M_does_W Q 30 [zR 139, zI p, zI x, zI k, zT, zT, zT, zT] [] G Y := by
    intro d
    induction d with
    | zero =>
      intro k Y e k0 wk hn hc
      refine M_does_f30 hG ⟨fun z => absurd z (by omega), fun _ => ?_⟩
      refine run_M hG h p0 p1 x0 x1 200 0 0 Y (by omega) (by omega) (by omega) wk (fun j j0 j1 => by have := hn j j0 j1; omega) ?_
      intro X2 w2 c2
      have r := q X2 w2 _ _ _ hn (fun j j0 j1 => hc j j0 (by omega)) c2
      rw [Int.zero_add]
      exact r
    | succ d ih =>
      intro k Y e k0 wk hn hc
      refine M_does_f30 hG ⟨fun _ => ⟨k0, by omega, zw_id (by omega) (by omega), ?_⟩, fun z => absurd z (by omega)⟩
      refine ih (k + 1) _ (by omega) (by omega) (zWk_w wk (by omega)) (fun j j0 j1 => by rw [zrd_r (by omega), zrd_r (by omega)]; exact hn j j0 j1) (fun j j0 j1 => ?_)
      by_cases hj : j = k
      · rw [hj, zrd_s]
      · rw [zrd_n (by omega)]
        exact hc j j0 (by omega)
  have l1 : ∀ (d : Nat) (k : Int) (Y : zX), k + d = 6 → 0 ≤ k → zWk X Y → (∀ j : Int, 0 ≤ j → j < k → Y 163 j = 0 ∧ Y 164 j = 0) → M_does_W Q 2 [zR 139, zI p, zI x, zI k, zT, zT, zT, zT] [] G Y := by
    intro d
    induction d with
    | zero =>
      intro k Y e k0 wk hn
      exact M_does_f2 hG ⟨fun z => absurd z (by omega), fun _ => l2 10 0 Y (by omega) (by omega) wk (fun j j0 j1 => hn j j0 (by omega)) (fun j _ _ => by omega)⟩
    | succ d ih =>
      intro k Y e k0 wk hn
      refine M_does_f2 hG ⟨fun _ => ⟨k0, by omega, zw_id (by omega) (by omega), ?_⟩, fun z => absurd z (by omega)⟩
      refine ih (k + 1) _ (by omega) (by omega) (zWk_w (zWk_w wk (by omega)) (by omega)) (fun j j0 j1 => ?_)
      by_cases hj : j = k
      · rw [hj, zrd_s, zrd_n (by omega), zrd_s]
        omega
      · rw [zrd_n (b := 164) (by omega), zrd_n (by omega), zrd_n (by omega), zrd_n (by omega)]
        exact hn j j0 (by omega)
  exact l1 6 0 X (by omega) (by omega) (zWk_r X) (fun j _ _ => by omega)
