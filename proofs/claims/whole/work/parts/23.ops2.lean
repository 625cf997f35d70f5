/-! ===== persons ===== -/
theorem q_dLand {Q : List zV → zX → Prop} {G : zG} {X : zX} {x : Int} (hG : SH G) (h1 : 0 ≤ x → x ≤ 3 → Q [zI 1] X) (h0 : x < 0 ∨ 3 < x → Q [zI 0] X) : D_isLand [zI x] G X Q :=
  D_isLand_f0 hG ⟨fun a => h0 (Or.inl a), fun a => ⟨fun b => h1 a (by omega), fun b => h0 (by omega)⟩⟩
theorem q_dPerson {Q : List zV → zX → Prop} {G : zG} {X : zX} {x y : Int} (hG : SH G) (h1 : 0 ≤ x ∧ x ≤ 3 ∧ 0 ≤ y ∧ y ≤ 99 → Q [zI 1] X) (h0 : ¬(0 ≤ x ∧ x ≤ 3 ∧ 0 ≤ y ∧ y ≤ 99) → Q [zI 0] X) : D_isPerson [zI x, zI y] G X Q :=
  D_isPerson_f0 hG (q_dLand hG (fun a b => ⟨1, rfl, fun z => absurd z (by omega), fun _ => q_dDay hG (fun c d => ⟨1, rfl, fun z => absurd z (by omega), fun _ => h1 ⟨a, b, c, d⟩⟩) (fun c => ⟨0, rfl, fun _ => h0 (by omega), fun z => absurd rfl z⟩)⟩)
    (fun a => ⟨0, rfl, fun _ => h0 (by omega), fun z => absurd rfl z⟩))
theorem q_mPerson {Q : List zV → zX → Prop} {G : zG} {X : zX} {x y : Int} (hG : SH G) (h1 : 0 ≤ x ∧ x ≤ 3 ∧ 0 ≤ y ∧ y ≤ 99 → Q [zI 1] X) (h0 : ¬(0 ≤ x ∧ x ≤ 3 ∧ 0 ≤ y ∧ y ≤ 99) → Q [zI 0] X) : M_isPerson [zI x, zI y] G X Q :=
  M_isPerson_f0 hG (q_isIn hG (fun a b => ⟨1, rfl, fun z => absurd z (by omega), fun _ => q_isIn hG (fun c d => ⟨1, rfl, fun z => absurd z (by omega), fun _ => h1 ⟨a, b, c, d⟩⟩) (fun c => ⟨0, rfl, fun _ => h0 (by omega), fun z => absurd rfl z⟩)⟩)
    (fun a => ⟨0, rfl, fun _ => h0 (by omega), fun z => absurd rfl z⟩))
/-! ===== more pigeons than holes ===== -/
theorem z_php : ∀ (n : Nat) (f : Nat → Nat), (∀ i, i ≤ n → f i < n) → ∃ i j, i < j ∧ j ≤ n ∧ f i = f j
  | 0, f, h => absurd (h 0 (Nat.le_refl 0)) (by omega)
  | n + 1, f, h => by
    by_cases hx : ∃ i, i ≤ n ∧ f i = f (n + 1)
    · obtain ⟨i, hi, e⟩ := hx
      exact ⟨i, n + 1, by omega, by omega, e⟩
    · have hne : ∀ i, i ≤ n → f i ≠ f (n + 1) := fun i hi e => hx ⟨i, hi, e⟩
      obtain ⟨i, j, hij, hj, e⟩ := z_php n (fun i => if f i = n then f (n + 1) else f i) (fun i hi => by
        have a := h i (by omega)
        have b := h (n + 1) (by omega)
        have c := hne i hi
        show (if f i = n then f (n + 1) else f i) < n
        split <;> omega)
      have ci := hne i (by omega)
      have cj := hne j (by omega)
      have e2 : (if f i = n then f (n + 1) else f i) = (if f j = n then f (n + 1) else f j) := e
      refine ⟨i, j, hij, by omega, ?_⟩
      split at e2 <;> split at e2 <;> omega
