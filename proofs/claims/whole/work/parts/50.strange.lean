/-! ===== strange ===== -/
def zMnS (V : Int → Int → Int → Int → Int) (r : Int) (S : Int → Int → Int → Int → Prop) : Prop := (r = -1 ∧ ∀ h i g j : Int, ¬S h i g j) ∨ ((∃ h i g j : Int, S h i g j ∧ V h i g j = r) ∧ ∀ h i g j : Int, S h i g j → r ≤ V h i g j)
theorem zMnS_u {V : Int → Int → Int → Int → Int} {r r2 : Int} {S S2 : Int → Int → Int → Int → Prop} (h1 : zMnS V r S) (h2 : zMnS V r2 S2) (e : ∀ h i g j : Int, S h i g j ↔ S2 h i g j) : r = r2 := by
  rcases h1 with ⟨a, b⟩ | ⟨⟨h, i, g, j, s, v⟩, b⟩
  · rcases h2 with ⟨a2, b2⟩ | ⟨⟨h, i, g, j, s, v⟩, b2⟩
    · omega
    · exact absurd ((e h i g j).2 s) (b h i g j)
  · rcases h2 with ⟨a2, b2⟩ | ⟨⟨h2, i2, g2, j2, s2, v2⟩, b2⟩
    · exact absurd ((e h i g j).1 s) (b2 h i g j)
    · have x := b h2 i2 g2 j2 ((e h2 i2 g2 j2).2 s2)
      have y := b2 h i g j ((e h i g j).1 s)
      omega
theorem zMnS_c {V : Int → Int → Int → Int → Int} {r : Int} {S S2 : Int → Int → Int → Int → Prop} (h1 : zMnS V r S) (e : ∀ h i g j : Int, S h i g j ↔ S2 h i g j) : zMnS V r S2 := by
  rcases h1 with ⟨a, b⟩ | ⟨⟨h, i, g, j, s, v⟩, b⟩
  · exact Or.inl ⟨a, fun h i g j s => b h i g j ((e h i g j).2 s)⟩
  · exact Or.inr ⟨⟨h, i, g, j, (e h i g j).1 s, v⟩, fun h i g j s => b h i g j ((e h i g j).2 s)⟩
/-- a set more, whose least is m -/
theorem zMnS_a {V : Int → Int → Int → Int → Int} {r m r2 : Int} {S T : Int → Int → Int → Int → Prop} (h1 : zMnS V r S) (hv : ∀ h i g j : Int, 0 ≤ V h i g j) (ex : ∃ h i g j : Int, T h i g j ∧ V h i g j = m) (al : ∀ h i g j : Int, T h i g j → m ≤ V h i g j) (er : (r = -1 ∨ m < r → r2 = m) ∧ (¬(r = -1 ∨ m < r) → r2 = r)) : zMnS V r2 (fun h i g j => S h i g j ∨ T h i g j) := by
  obtain ⟨h0, i0, g0, j0, t0, v0⟩ := ex
  have m0 := hv h0 i0 g0 j0
  refine Or.inr ?_
  rcases h1 with ⟨a, b⟩ | ⟨⟨h, i, g, j, s, v⟩, b⟩
  · have e := er.1 (Or.inl a)
    refine ⟨⟨h0, i0, g0, j0, Or.inr t0, by omega⟩, fun h i g j s => ?_⟩
    rcases s with s | s
    · exact absurd s (b h i g j)
    · have := al h i g j s
      omega
  · have r0 := hv h i g j
    by_cases c : m < r
    · have e := er.1 (Or.inr c)
      refine ⟨⟨h0, i0, g0, j0, Or.inr t0, by omega⟩, fun h i g j s => ?_⟩
      rcases s with s | s
      · have := b h i g j s
        omega
      · have := al h i g j s
        omega
    · have e := er.2 (by omega)
      refine ⟨⟨h, i, g, j, Or.inl s, by omega⟩, fun h i g j s => ?_⟩
      rcases s with s | s
      · have := b h i g j s
        omega
      · have := al h i g j s
        omega
noncomputable def zVs (X : zX) (h i g j : Int) : Int := (zd (zSeH X g j 0 0) (zSeH X h i 0 0) : Nat)
theorem zVs_in {X : zX} (hX : zRT X 1 0) {h i g j : Int} (h0 : 0 ≤ h) (h1 : h < 5) (i0 : 0 ≤ i) (i1 : i < 2) (g0 : 0 ≤ g) (g1 : g < 5) (j0 : 0 ≤ j) (j1 : j < 2) : zVs X h i g j ≤ 56 := by
  have a := seH_k (p := h) (k := i) (land := 0) (day := 0) hX h0 h1 i0 i1
  have b := seH_k (p := g) (k := j) (land := 0) (day := 0) hX g0 g1 j0 j1
  have z := zd_le _ (zSeH X g j 0 0) (zSeH X h i 0 0) (Nat.le_refl _)
  unfold zVs
  omega
theorem zLk_mn {X : zX} (hX : zRT X 1 0) {h g j : Int} (h0 : 0 ≤ h) (h1 : h < 5) (g0 : 0 ≤ g) (g1 : g < 5) (j0 : 0 ≤ j) (j1 : j < 2) : ∀ n : Nat, n ≤ 2 → (∀ i : Int, 0 ≤ i → i < n → zLk X (zSeH X g j 0 0) h 0 0 999 n ≤ zVs X h i g j) ∧ (0 < n → ∃ i : Int, 0 ≤ i ∧ i < n ∧ zVs X h i g j = zLk X (zSeH X g j 0 0) h 0 0 999 n) ∧ (n = 0 → zLk X (zSeH X g j 0 0) h 0 0 999 n = 999)
  | 0, _ => ⟨fun i i0 i1 => absurd i1 (by omega), fun z => absurd z (by omega), fun _ => rfl⟩
  | n + 1, hn => by
    have z := zLk_mn hX h0 h1 g0 g1 j0 j1 n (by omega)
    have b := zVs_in hX h0 h1 (i := n) (by omega) (by omega) g0 g1 j0 j1
    have e : zLk X (zSeH X g j 0 0) h 0 0 999 (n + 1) = min (zLk X (zSeH X g j 0 0) h 0 0 999 n) (zVs X h n g j) := rfl
    refine ⟨fun i i0 i1 => ?_, fun _ => ?_, fun c => absurd c (by omega)⟩
    · rw [e]
      by_cases c : i = n
      · rw [c]
        omega
      · have := z.1 i i0 (by omega)
        omega
    · by_cases c : zVs X h n g j ≤ zLk X (zSeH X g j 0 0) h 0 0 999 n
      · exact ⟨n, by omega, by omega, by rw [e]; omega⟩
      · by_cases c0 : n = 0
        · have := z.2.2 c0
          omega
        · obtain ⟨i, i0, i1, i2⟩ := z.2.1 (by omega)
          exact ⟨i, i0, by omega, by rw [e]; omega⟩
/-- all pairs of pages of two houses -/
def zPs4 (X : zX) (h i g j : Int) : Prop := 0 ≤ g ∧ g < h ∧ h < X 1 11 ∧ 0 ≤ i ∧ i < X (23 + 6 * h) 2 ∧ 0 ≤ j ∧ j < X (23 + 6 * g) 2
theorem strange_C {Q : List zV → zX → Prop} {G : zG} {X : zX} (hG : SH G) (h : zRT X 1 0) (q : ∀ (X2 : zX) (r : Int), zWk X X2 → zMnS (zVs X) r (zPs4 X) → Q [zI r] X2) : D_strange [zR 0] G X Q := by
  have hh := q_houses h
  have vpos : ∀ a b c d : Int, 0 ≤ zVs X a b c d := fun a b c d => by unfold zVs; omega
  have l64 : ∀ (d : Nat) (one k two r : Int) (Y : zX), two + d = X 1 11 → 0 ≤ one → one < X 1 11 → one < two → 0 ≤ k → k < X (23 + 6 * one) 2 → zWk X Y → zOpd Y 105 (zSeH X one k 0 0) → zMnS (zVs X) r (fun h i g j => zPs4 X h i g j ∧ (g < one ∨ (g = one ∧ j < k) ∨ (g = one ∧ j = k ∧ h < two))) → (∀ (Z : zX) (r2 : Int), zWk X Z → zMnS (zVs X) r2 (fun h i g j => zPs4 X h i g j ∧ (g < one ∨ (g = one ∧ j < k + 1))) → D_strange_W Q 17 [zR 0, zI r2, zI one, zI (k + 1), zT, zT, zT] [] G Z) → D_strange_W Q 64 [zR 0, zI r, zI one, zI k, zI two, zT, zT] [] G Y := by
    intro d
    induction d with
    | zero =>
      intro one k two r Y e o0 o1 ot k0 k1 w od mn nx
      have ow := q_own h o0 (by omega : one < 5)
      refine D_strange_f64 hG ?_
      rw [w 1 (by omega)]
      refine ⟨fun z => absurd z (by omega), fun _ => ⟨zw_id (by omega) (by omega), nx Y r w (zMnS_c mn (fun h i g j => ⟨fun z => ⟨z.1, by omega⟩, fun z => ⟨z.1, by have := z.1.2.2.1; omega⟩⟩))⟩⟩
    | succ d ih =>
      intro one k two r Y e o0 o1 ot k0 k1 w od mn nx
      have ow := q_own h o0 (by omega : one < 5)
      have ow2 := q_own h (p := two) (by omega) (by omega)
      have hY := zWk_RT w h
      have e23 : Y (23 + 6 * two) = X (23 + 6 * two) := w _ (by omega)
      have lk := zLk_mn h (h := two) (g := one) (j := k) (by omega) (by omega) o0 (by omega) k0 (by omega) (X (23 + 6 * two) 2).toNat (by omega)
      refine D_strange_f64 hG ?_
      rw [w 1 (by omega)]
      refine ⟨fun _ => ⟨by omega, by omega, Rm_lookAt_f0 hG (zHo_at (by omega) (by omega)).2 (closer_C hG hY (by omega) (by omega) (by omega) (by omega) od (seH_k h o0 (by omega) k0 (by omega)) (fun X2 w2 o2 _ => ⟨_, rfl, _, rfl, ?_⟩))⟩, fun z => absurd z (by omega)⟩
      have w3 := zWk_t w w2
      have e232 : X2 (23 + 6 * two) = X (23 + 6 * two) := w3 _ (by omega)
      have ev : zLk Y (zSeH X one k 0 0) two 0 0 999 (Y (23 + 6 * two) 2).toNat = zLk X (zSeH X one k 0 0) two 0 0 999 (X (23 + 6 * two) 2).toNat := by
        rw [e23, zLk_w w (by omega) (by omega) _ (by omega)]
      rw [ev, e232]
      generalize hm : zLk X (zSeH X one k 0 0) two 0 0 999 (X (23 + 6 * two) 2).toNat = m at lk
      have go : ∀ r2 : Int, zMnS (zVs X) r2 (fun h i g j => zPs4 X h i g j ∧ (g < one ∨ (g = one ∧ j < k) ∨ (g = one ∧ j = k ∧ h < two + 1))) → D_strange_W Q 64 [zR 0, zI r2, zI one, zI k, zI (two + 1), zT, zT] [] G X2 := fun r2 m2 => ih one k (two + 1) r2 X2 (by omega) o0 o1 (by omega) k0 k1 w3 o2 m2 nx
      refine ⟨fun pos => ?_, fun neg => ?_⟩
      · have yes : ∀ r2 : Int, ((r = -1 ∨ m < r → r2 = m) ∧ (¬(r = -1 ∨ m < r) → r2 = r)) → zMnS (zVs X) r2 (fun h i g j => zPs4 X h i g j ∧ (g < one ∨ (g = one ∧ j < k) ∨ (g = one ∧ j = k ∧ h < two + 1))) := fun r2 er => by
          obtain ⟨i, i0, i1, i2⟩ := lk.2.1 (by omega)
          refine zMnS_c (zMnS_a (m := m) (r2 := r2) (T := fun h i g j => h = two ∧ g = one ∧ j = k ∧ 0 ≤ i ∧ i < X (23 + 6 * two) 2) mn vpos ⟨two, i, one, k, ⟨rfl, rfl, rfl, i0, by omega⟩, i2⟩ (fun h i g j t => ?_) er) (fun h i g j => ⟨fun z => ?_, fun z => ?_⟩)
          · obtain ⟨rfl, rfl, rfl, t4, t5⟩ := t
            exact lk.1 i t4 (Int.lt_of_lt_of_le t5 (Int.self_le_toNat _))
          · rcases z with z | z
            · exact ⟨z.1, by omega⟩
            · obtain ⟨rfl, rfl, rfl, t4, t5⟩ := z
              exact ⟨⟨o0, ot, by omega, t4, t5, k0, k1⟩, by omega⟩
          · by_cases c : g = one ∧ j = k ∧ h = two
            · obtain ⟨rfl, rfl, rfl⟩ := c
              exact Or.inr ⟨rfl, rfl, rfl, z.1.2.2.2.1, z.1.2.2.2.2.1⟩
            · exact Or.inl ⟨z.1, by omega⟩
        refine D_strange_f118 hG ⟨fun z => absurd z (by omega), fun _ => ⟨fun c => ⟨zw_id (by omega) (by omega), go m (yes m ⟨fun _ => rfl, fun n => absurd (Or.inl c) n⟩)⟩, fun c => ⟨fun lt => ⟨zw_id (by omega) (by omega), go m (yes m ⟨fun _ => rfl, fun n => absurd (Or.inr lt) n⟩)⟩, fun ge => ⟨zw_id (by omega) (by omega), go r (yes r ⟨fun z => absurd z (by omega), fun _ => rfl⟩)⟩⟩⟩⟩
      · refine D_strange_f118 hG ⟨fun _ => ⟨zw_id (by omega) (by omega), go r (zMnS_c mn (fun h i g j => ⟨fun z => ⟨z.1, by omega⟩, fun z => ⟨z.1, ?_⟩⟩))⟩, fun z => absurd rfl z⟩
        by_cases c : h = two
        · have z1 := z.1
          unfold zPs4 at z1
          rw [c] at z1
          omega
        · omega
  have l17 : ∀ (d : Nat) (one k r : Int) (Y : zX), k + d = X (23 + 6 * one) 2 → 0 ≤ one → one < X 1 11 → 0 ≤ k → zWk X Y → zMnS (zVs X) r (fun h i g j => zPs4 X h i g j ∧ (g < one ∨ (g = one ∧ j < k))) → (∀ (Z : zX) (r2 : Int), zWk X Z → zMnS (zVs X) r2 (fun h i g j => zPs4 X h i g j ∧ g < one + 1) → D_strange_W Q 4 [zR 0, zI r2, zI (one + 1), zT, zT, zT, zT] [] G Z) → D_strange_W Q 17 [zR 0, zI r, zI one, zI k, zT, zT, zT] [] G Y := by
    intro d
    induction d with
    | zero =>
      intro one k r Y e o0 o1 k0 w mn nx
      refine D_strange_f17 hG ⟨o0, by omega, ?_⟩
      rw [w (23 + 6 * one) (by omega)]
      refine ⟨fun z => absurd z (by omega), fun _ => ⟨zw_id (by omega) (by omega), nx Y r w (zMnS_c mn (fun h i g j => ⟨fun z => ⟨z.1, by omega⟩, fun z => ⟨z.1, ?_⟩⟩))⟩⟩
      by_cases c : g = one
      · have z1 := z.1
        unfold zPs4 at z1
        rw [c] at z1
        omega
      · omega
    | succ d ih =>
      intro one k r Y e o0 o1 k0 w mn nx
      have ow := q_own h o0 (by omega : one < 5)
      refine D_strange_f17 hG ⟨o0, by omega, ?_⟩
      rw [w (23 + 6 * one) (by omega)]
      refine ⟨fun _ => ⟨k0, by omega, see_C1 hG (txt_house (zWk_RT w h) o0 (by omega) k0 (by omega)) (fun X2 f2 od => ⟨rfl, zw_id (by omega) (by omega), ?_⟩)⟩, fun z => absurd z (by omega)⟩
      rw [show (1 : Int) + (25 + 6 * one + 2 * k) = 26 + 6 * one + 2 * k by omega] at od
      have es : zFot (Y (26 + 6 * one + 2 * k)) (Y (25 + 6 * one + 2 * k) 1).toNat 0 0 = zSeH X one k 0 0 := zSeH_w w o0 (by omega) k0 (by omega)
      rw [es] at od
      refine l64 (X 1 11 - (one + 1)).toNat one k (one + 1) r X2 (by omega) o0 o1 (by omega) k0 (by omega) (zWk_t w (fun a ha => f2 a (by omega))) od (zMnS_c mn (fun h i g j => ⟨fun z => ⟨z.1, by omega⟩, fun z => ⟨z.1, by have := z.1.2.1; omega⟩⟩)) (fun Z r2 wz m2 => ih one (k + 1) r2 Z (by omega) o0 o1 (by omega) wz m2 nx)
  have l4 : ∀ (d : Nat) (one r : Int) (Y : zX), one + d = X 1 11 → 0 ≤ one → zWk X Y → zMnS (zVs X) r (fun h i g j => zPs4 X h i g j ∧ g < one) → D_strange_W Q 4 [zR 0, zI r, zI one, zT, zT, zT, zT] [] G Y := by
    intro d
    induction d with
    | zero =>
      intro one r Y e o0 w mn
      refine D_strange_f4 hG ?_
      rw [w 1 (by omega)]
      exact ⟨fun z => absurd z (by omega), fun _ => q Y r w (zMnS_c mn (fun h i g j => ⟨fun z => z.1, fun z => ⟨z, by have := z.2.1; have := z.2.2.1; omega⟩⟩))⟩
    | succ d ih =>
      intro one r Y e o0 w mn
      have ow := q_own h o0 (by omega : one < 5)
      refine D_strange_f4 hG ?_
      rw [w 1 (by omega)]
      exact ⟨fun _ => l17 (X (23 + 6 * one) 2).toNat one 0 r Y (by omega) o0 (by omega) (by omega) w (zMnS_c mn (fun h i g j => ⟨fun z => ⟨z.1, by omega⟩, fun z => ⟨z.1, by have := z.1.2.2.2.2.2.1; omega⟩⟩)) (fun Z r2 wz m2 => ih (one + 1) r2 Z (by omega) (by omega) wz m2), fun z => absurd z (by omega)⟩
  exact D_strange_f0 hG (l4 (X 1 11).toNat 0 (-1) X (by omega) (by omega) (zWk_r X) (Or.inl ⟨rfl, fun h i g j z => by have := z.1.1; omega⟩))
theorem ownTree_M {Q : List zV → zX → Prop} {G : zG} {Y : zX} {p k : Int} (hG : SH G) (p0 : 0 ≤ p) (p1 : p < 5) (k0 : 0 ≤ k) (k1 : k < 2) (q : Q [zI (1884 + 160 * p + 72 * k)] Y) : M_ownTree [zI p, zI k] G Y Q := by
  refine M_ownTree_f0 hG (q_houseAt hG p0 p1 ⟨_, rfl, zw_id (by omega) (by omega), by rw [zw_id (x := 72 * k) (by omega) (by omega)]; exact zw_id (by omega) (by omega), ?_⟩)
  rw [show 1870 + 160 * p + 14 + 72 * k = 1884 + 160 * p + 72 * k by omega]
  exact q
theorem strange_R {Q : List zV → zX → Prop} {G : zG} {X Y0 : zX} (hG : SH G) (h : zRT X 1 0) (w0 : zWk X Y0) (q : ∀ (X2 : zX) (r : Int), zWk X X2 → zMnS (zVs X) r (zPs4 X) → Q [zI r] X2) : M_strange [zR 139] G Y0 Q := by
  have hh := q_houses h
  have vpos : ∀ a b c d : Int, 0 ≤ zVs X a b c d := fun a b c d => by unfold zVs; omega
  have rin : ∀ (r : Int) (S : Int → Int → Int → Int → Prop), zMnS (zVs X) r S → -1 ≤ r := fun r S m => by
    rcases m with ⟨a, _⟩ | ⟨⟨h, i, g, j, _, v⟩, _⟩
    · omega
    · have := vpos h i g j
      omega
  have l44 : ∀ (d : Nat) (a b i j r : Int) (Y : zX), j + d = X (23 + 6 * b) 2 → 0 ≤ b → b < a → a < X 1 11 → 0 ≤ i → i < X (23 + 6 * a) 2 → 0 ≤ j → zWk X Y → zMnS (zVs X) r (fun h2 i2 g2 j2 => zPs4 X h2 i2 g2 j2 ∧ (h2 < a ∨ (h2 = a ∧ (g2 < b ∨ (g2 = b ∧ (i2 < i ∨ (i2 = i ∧ j2 < j))))))) → (∀ (Z : zX) (r2 : Int), zWk X Z → zMnS (zVs X) r2 (fun h2 i2 g2 j2 => zPs4 X h2 i2 g2 j2 ∧ (h2 < a ∨ (h2 = a ∧ (g2 < b ∨ (g2 = b ∧ i2 < i + 1))))) → M_strange_W Q 24 [zR 139, zI r2, zI a, zI b, zI (i + 1), zT, zT] [] G Z) → M_strange_W Q 44 [zR 139, zI r, zI a, zI b, zI i, zI j, zT] [] G Y := by
    intro d
    induction d with
    | zero =>
      intro a b i j r Y e b0 ba ah i0 i1 j0 w mn nx
      have hY := zWk_RT w h
      have owa := q_own h (p := a) (by omega) (by omega)
      have ow := q_own hY b0 (by omega : b < 5)
      rw [w (23 + 6 * b) (by omega)] at ow
      refine M_strange_f44 hG (q_houseAt hG b0 (by omega) ⟨_, rfl, zw_id (by omega) (by omega), by omega, by omega, ?_⟩)
      rw [ow.1]
      refine ⟨fun z => absurd z (by omega), fun _ => ⟨zw_id (by omega) (by omega), nx Y r w (zMnS_c mn (fun h2 i2 g2 j2 => ⟨fun z => ⟨z.1, by omega⟩, fun z => ⟨z.1, ?_⟩⟩))⟩⟩
      by_cases c : g2 = b
      · have z1 := z.1
        unfold zPs4 at z1
        rw [c] at z1
        omega
      · omega
    | succ d ih =>
      intro a b i j r Y e b0 ba ah i0 i1 j0 w mn nx
      have hY := zWk_RT w h
      have ow := q_own hY b0 (by omega : b < 5)
      have owa := q_own h (p := a) (by omega) (by omega)
      rw [w (23 + 6 * b) (by omega)] at ow
      have ri := rin r _ mn
      refine M_strange_f44 hG (q_houseAt hG b0 (by omega) ⟨_, rfl, zw_id (by omega) (by omega), by omega, by omega, ?_⟩)
      rw [ow.1]
      refine ⟨fun _ => ownTree_M hG (by omega) (by omega) i0 (by omega) ⟨_, rfl, ownTree_M hG b0 (by omega) j0 (by omega) ⟨_, rfl, farOf_M hG hY (txt_house hY (by omega) (by omega) i0 (by omega)) (txt_house hY b0 (by omega) j0 (by omega)) (by omega) (by omega) (fun Y2 w5 => ⟨_, rfl, ?_⟩)⟩⟩, fun z => absurd z (by omega)⟩
      rw [show (1 : Int) + (25 + 6 * a + 2 * i) = 26 + 6 * a + 2 * i by omega, show (1 : Int) + (25 + 6 * b + 2 * j) = 26 + 6 * b + 2 * j by omega]
      have ev : ((zd (zFot (Y (26 + 6 * a + 2 * i)) (Y (25 + 6 * a + 2 * i) 1).toNat 0 0) (zFot (Y (26 + 6 * b + 2 * j)) (Y (25 + 6 * b + 2 * j) 1).toNat 0 0) : Nat) : Int) = zVs X a i b j := by
        show ((zd (zSeH Y a i 0 0) (zSeH Y b j 0 0) : Nat) : Int) = _
        rw [zSeH_w w (by omega) (by omega) i0 (by omega), zSeH_w w b0 (by omega) j0 (by omega), zd_symm]
        rfl
      rw [ev]
      have w3 := zWk_t w w5
      have yes : ∀ r2 : Int, ((r = -1 ∨ zVs X a i b j < r → r2 = zVs X a i b j) ∧ (¬(r = -1 ∨ zVs X a i b j < r) → r2 = r)) → M_strange_W Q 44 [zR 139, zI r2, zI a, zI b, zI i, zI (j + 1), zT] [] G Y2 := fun r2 er => by
        refine ih a b i (j + 1) r2 Y2 (by omega) b0 ba ah i0 i1 (by omega) w3 (zMnS_c (zMnS_a (m := zVs X a i b j) (r2 := r2) (T := fun h2 i2 g2 j2 => h2 = a ∧ i2 = i ∧ g2 = b ∧ j2 = j) mn vpos ⟨a, i, b, j, ⟨rfl, rfl, rfl, rfl⟩, rfl⟩ (fun h2 i2 g2 j2 t => ?_) er) (fun h2 i2 g2 j2 => ⟨fun z => ?_, fun z => ?_⟩)) nx
        · obtain ⟨rfl, rfl, rfl, rfl⟩ := t
          exact Int.le_refl _
        · rcases z with z | z
          · exact ⟨z.1, by omega⟩
          · obtain ⟨rfl, rfl, rfl, rfl⟩ := z
            exact ⟨⟨b0, ba, ah, i0, i1, j0, by omega⟩, by omega⟩
        · by_cases c : h2 = a ∧ i2 = i ∧ g2 = b ∧ j2 = j
          · exact Or.inr c
          · exact Or.inl ⟨z.1, by omega⟩
      exact ⟨fun c => ⟨zw_id (by omega) (by omega), yes _ ⟨fun _ => rfl, fun n => absurd (Or.inl (by omega)) n⟩⟩, fun c => ⟨fun lt => ⟨zw_id (by omega) (by omega), yes _ ⟨fun _ => rfl, fun n => absurd (Or.inr lt) n⟩⟩, fun ge => ⟨zw_id (by omega) (by omega), yes r ⟨fun z => absurd z (by omega), fun _ => rfl⟩⟩⟩⟩
  have l24 : ∀ (d : Nat) (a b i r : Int) (Y : zX), i + d = X (23 + 6 * a) 2 → 0 ≤ b → b < a → a < X 1 11 → 0 ≤ i → zWk X Y → zMnS (zVs X) r (fun h2 i2 g2 j2 => zPs4 X h2 i2 g2 j2 ∧ (h2 < a ∨ (h2 = a ∧ (g2 < b ∨ (g2 = b ∧ i2 < i))))) → (∀ (Z : zX) (r2 : Int), zWk X Z → zMnS (zVs X) r2 (fun h2 i2 g2 j2 => zPs4 X h2 i2 g2 j2 ∧ (h2 < a ∨ (h2 = a ∧ g2 < b + 1))) → M_strange_W Q 16 [zR 139, zI r2, zI a, zI (b + 1), zT, zT, zT] [] G Z) → M_strange_W Q 24 [zR 139, zI r, zI a, zI b, zI i, zT, zT] [] G Y := by
    intro d
    induction d with
    | zero =>
      intro a b i r Y e b0 ba ah i0 w mn nx
      have hY := zWk_RT w h
      have ow := q_own hY (p := a) (by omega) (by omega)
      rw [w (23 + 6 * a) (by omega)] at ow
      refine M_strange_f24 hG (q_houseAt hG (by omega) (by omega) ⟨_, rfl, zw_id (by omega) (by omega), by omega, by omega, ?_⟩)
      rw [ow.1]
      refine ⟨fun z => absurd z (by omega), fun _ => ⟨zw_id (by omega) (by omega), nx Y r w (zMnS_c mn (fun h2 i2 g2 j2 => ⟨fun z => ⟨z.1, by omega⟩, fun z => ⟨z.1, ?_⟩⟩))⟩⟩
      by_cases c : h2 = a
      · have z1 := z.1
        unfold zPs4 at z1
        rw [c] at z1
        omega
      · omega
    | succ d ih =>
      intro a b i r Y e b0 ba ah i0 w mn nx
      have hY := zWk_RT w h
      have ow := q_own hY (p := a) (by omega) (by omega)
      have owb := q_own h b0 (by omega : b < 5)
      rw [w (23 + 6 * a) (by omega)] at ow
      refine M_strange_f24 hG (q_houseAt hG (by omega) (by omega) ⟨_, rfl, zw_id (by omega) (by omega), by omega, by omega, ?_⟩)
      rw [ow.1]
      exact ⟨fun _ => l44 (X (23 + 6 * b) 2).toNat a b i 0 r Y (by omega) b0 ba ah i0 (by omega) (by omega) w (zMnS_c mn (fun h2 i2 g2 j2 => ⟨fun z => ⟨z.1, by omega⟩, fun z => ⟨z.1, by have := z.1.2.2.2.2.2.1; omega⟩⟩)) (fun Z r2 wz m2 => ih a b (i + 1) r2 Z (by omega) b0 ba ah (by omega) wz m2 nx), fun z => absurd z (by omega)⟩
  have l16 : ∀ (d : Nat) (a b r : Int) (Y : zX), b + d = a → 0 ≤ b → a < X 1 11 → zWk X Y → zMnS (zVs X) r (fun h2 i2 g2 j2 => zPs4 X h2 i2 g2 j2 ∧ (h2 < a ∨ (h2 = a ∧ g2 < b))) → (∀ (Z : zX) (r2 : Int), zWk X Z → zMnS (zVs X) r2 (fun h2 i2 g2 j2 => zPs4 X h2 i2 g2 j2 ∧ h2 < a + 1) → M_strange_W Q 4 [zR 139, zI r2, zI (a + 1), zT, zT, zT, zT] [] G Z) → M_strange_W Q 16 [zR 139, zI r, zI a, zI b, zT, zT, zT] [] G Y := by
    intro d
    induction d with
    | zero =>
      intro a b r Y e b0 ah w mn nx
      exact M_strange_f16 hG ⟨fun z => absurd z (by omega), fun _ => ⟨zw_id (by omega) (by omega), nx Y r w (zMnS_c mn (fun h2 i2 g2 j2 => ⟨fun z => ⟨z.1, by omega⟩, fun z => ⟨z.1, by have := z.1.2.1; omega⟩⟩))⟩⟩
    | succ d ih =>
      intro a b r Y e b0 ah w mn nx
      have ow := q_own h (p := a) (by omega) (by omega)
      exact M_strange_f16 hG ⟨fun _ => l24 (X (23 + 6 * a) 2).toNat a b 0 r Y (by omega) b0 (by omega) ah (by omega) w (zMnS_c mn (fun h2 i2 g2 j2 => ⟨fun z => ⟨z.1, by omega⟩, fun z => ⟨z.1, by have := z.1.2.2.2.1; omega⟩⟩)) (fun Z r2 wz m2 => ih a (b + 1) r2 Z (by omega) (by omega) ah wz m2 nx), fun z => absurd z (by omega)⟩
  have l4 : ∀ (d : Nat) (a r : Int) (Y : zX), a + d = X 1 11 → 0 ≤ a → zWk X Y → zMnS (zVs X) r (fun h2 i2 g2 j2 => zPs4 X h2 i2 g2 j2 ∧ h2 < a) → M_strange_W Q 4 [zR 139, zI r, zI a, zT, zT, zT, zT] [] G Y := by
    intro d
    induction d with
    | zero =>
      intro a r Y e a0 w mn
      refine M_strange_f4 hG ?_
      rw [w 140 (by omega), hh.1]
      exact ⟨fun z => absurd z (by omega), fun _ => q Y r w (zMnS_c mn (fun h2 i2 g2 j2 => ⟨fun z => z.1, fun z => ⟨z, by have := z.2.2.1; omega⟩⟩))⟩
    | succ d ih =>
      intro a r Y e a0 w mn
      refine M_strange_f4 hG ?_
      rw [w 140 (by omega), hh.1]
      exact ⟨fun _ => l16 a.toNat a 0 r Y (by omega) (by omega) (by omega) w (zMnS_c mn (fun h2 i2 g2 j2 => ⟨fun z => ⟨z.1, by omega⟩, fun z => ⟨z.1, by have := z.1.1; omega⟩⟩)) (fun Z r2 wz m2 => ih (a + 1) r2 Z (by omega) (by omega) wz m2), fun z => absurd z (by omega)⟩
  exact M_strange_f0 hG (l4 (X 1 11).toNat 0 (-1) Y0 (by omega) (by omega) w0 (Or.inl ⟨rfl, fun h2 i2 g2 j2 z => by have := z.1.1; have := z.1.2.1; omega⟩))
theorem op_strange {G : zG} {X : zX} (hG : SH G) (h : zRT X 1 0) : zOp D_strange M_strange [] [] G X :=
  strange_C hG h (fun X2 r w2 m1 => strange_R hG h w2 (fun X3 r2 w3 m2 => ⟨by rw [zMnS_u m2 m1 (fun _ _ _ _ => Iff.rfl)], zWk_RT w3 h, zWk_Kp w3⟩))
