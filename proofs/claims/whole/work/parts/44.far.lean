/-! ===== the reference's distance, and that both are the same ===== -/
theorem isLast_M {Q : List zV → zX → Prop} {G : zG} {X : zX} {s s16 : Int} {m a : Nat} {f : Nat → Nat} (hG : SH G) (hs : s16 = 16 * s) (s0 : 0 ≤ s) (s1 : s < 2) (o : zRv X s m f) (c : X 151 s = m) (ha : a < m) (q1 : (∀ k, a < k → k < m → f k ≠ f a) → Q [zI 1] X) (q0 : ¬(∀ k, a < k → k < m → f k ≠ f a) → Q [zI 0] X) : M_isLast [zR 139, zI s16, zI (a : Int)] G X Q := by
  obtain ⟨m0, m15, hf, tr⟩ := o
  subst hs
  have d16 : 16 * s / 16 = s := by omega
  have t16 : zw ((16 * s).tdiv 16) = 16 * s / 16 := by rw [Int.tdiv_eq_ediv_of_nonneg (by omega)]; exact zw_id (by omega) (by omega)
  have l0 : ∀ k : Int, ¬(∀ k, a < k → k < m → f k ≠ f a) → M_isLast_W Q 7 [zR 139, zI (16 * s), zI (a : Int), zI 0, zI k] [] G X := fun k n => by
    refine M_isLast_f7 hG ⟨t16, by omega, by omega, ?_⟩
    exact ⟨fun _ => ⟨fun _ => ⟨Or.inl rfl, q0 n⟩, fun z => absurd rfl z⟩, fun _ => ⟨Or.inl rfl, q0 n⟩⟩
  have l1 : ∀ (d k : Nat), k + d = m → a < k → (∀ j, a < j → j < k → f j ≠ f a) → M_isLast_W Q 7 [zR 139, zI (16 * s), zI (a : Int), zI 1, zI (k : Int)] [] G X := by
    intro d
    induction d with
    | zero =>
      intro k e ak h
      refine M_isLast_f7 hG ⟨t16, by omega, by omega, ?_⟩
      rw [d16, c]
      exact ⟨fun z => absurd z (by omega), fun _ => ⟨Or.inr rfl, q1 (fun j j0 j1 => h j j0 (by omega))⟩⟩
    | succ d ih =>
      intro k e ak h
      refine M_isLast_f7 hG ⟨t16, by omega, by omega, ?_⟩
      rw [d16, c, hf k (by omega), hf a ha]
      refine ⟨fun _ => ⟨fun z => absurd z (by omega), fun _ => ⟨zw_id (by omega) (by omega), by omega, by omega, zw_id (by omega) (by omega), by omega, by omega, fun eq => ⟨zw_id (by omega) (by omega), l0 _ (fun z => z k ak (by omega) (by omega))⟩, fun ne => ⟨zw_id (by omega) (by omega), ?_⟩⟩⟩, fun z => absurd z (by omega)⟩
      refine ih (k + 1) (by omega) (by omega) (fun j j0 j1 => ?_)
      by_cases e2 : j = k
      · rw [e2]
        exact fun z => ne (by omega)
      · exact h j j0 (by omega)
  refine M_isLast_f0 hG ⟨zw_id (by omega) (by omega), ?_⟩
  exact l1 (m - (a + 1)) (a + 1) (by omega) (by omega) (fun j j0 j1 => absurd j1 (by omega))
theorem z_krr {m : Nat} {f : Nat → Nat} : ∀ (d i : Nat), i + d = m → i < m → ∃ x, i ≤ x ∧ x < m ∧ f x = f i ∧ ∀ k, x < k → k < m → f k ≠ f x := by
  intro d
  induction d using Nat.strongRecOn with
  | _ d ih =>
    intro i e im
    by_cases h : ∃ k, i < k ∧ k < m ∧ f k = f i
    · obtain ⟨k, k1, k2, k3⟩ := h
      obtain ⟨x, x1, x2, x3, x4⟩ := ih (m - k) (by omega) k (by omega) k2
      exact ⟨x, by omega, x2, by omega, x4⟩
    · exact ⟨i, Nat.le_refl _, im, rfl, fun k k1 k2 k3 => h ⟨k, k1, k2, k3⟩⟩
theorem z_krrle {m : Nat} {f : Nat → Nat} (tr : zPo m f) {x i x1 : Nat} (xm : x < m) (kx : ∀ k, x < k → k < m → f k ≠ f x) (fi : f x ≤ i) (ix : i ≤ x) (x1i : i ≤ x1) (x1m : x1 < m) (e : f x1 = f i) : x1 ≤ x := by
  by_cases c : x1 ≤ x
  · exact c
  · have bi := tr.1 i (by omega)
    have n1 := tr.2 x1 x x1m (by omega) (by omega)
    have n2 : f x ≤ f i := by
      by_cases d : i = x
      · rw [d]; exact Nat.le_refl _
      · exact tr.2 x i xm (by omega) fi
    exact absurd (by omega) (kx x1 (by omega) x1m)
theorem zRv_c {X X2 : zX} {s : Int} {m : Nat} {f : Nat → Nat} (h : zRv X s m f) (e : X2 154 = X 154) : zRv X2 s m f := by
  obtain ⟨a, b, c, d⟩ := h
  exact ⟨a, b, fun p hp => by rw [e]; exact c p hp, d⟩
theorem zQt_c {X X2 : zX} {f f2 : Nat → Nat} {i j : Nat} (e : ∀ c : Int, c ≠ 155 → c ≠ 156 → X2 c = X c) : zQt X2 f f2 i j = zQt X f f2 i j := by
  unfold zQt zEr
  rw [e 152 (by omega) (by omega), e 153 (by omega) (by omega), e 154 (by omega) (by omega)]
theorem farNow_M {Q : List zV → zX → Prop} {G : zG} {X0 : zX} {m n : Nat} {f f2 : Nat → Nat} (hG : SH G) (o1 : zRv X0 0 m f) (c1 : X0 151 0 = m) (o2 : zRv X0 1 n f2) (c2 : X0 151 1 = n)
    (q : ∀ X2 : zX, (∀ c : Int, c ≠ 155 → c ≠ 156 → X2 c = X0 c) → Q [zI (zQt X0 f f2 (m - 1) (n - 1) : Nat)] X2) : M_farNow [zR 139] G X0 Q := by
  have o1' := o1
  have o2' := o2
  obtain ⟨m0, m15, hf, tr⟩ := o1'
  obtain ⟨n0, n15, hf2, tr2⟩ := o2'
  have key : ∀ (d x : Nat) (X : zX), x + d = m → (∀ c : Int, c ≠ 155 → c ≠ 156 → X c = X0 c) → (∀ i j a b : Nat, i ≤ a → a < m → f a = f i → (∀ k, a < k → k < m → f k ≠ f a) → j ≤ b → b < n → f2 b = f2 j → (∀ k, b < k → k < n → f2 k ≠ f2 b) → a < x → X 155 (16 * (i : Int) + j) = zQt X0 f f2 i j) → M_farNow_W Q 2 [zR 139, zI (x : Int), zT] [] G X := by
    intro d
    induction d with
    | zero =>
      intro x X e fr iv
      have v := iv (m - 1) (n - 1) (m - 1) (n - 1) (Nat.le_refl _) (by omega) rfl (fun k k0 k1 => absurd k1 (by omega)) (Nat.le_refl _) (by omega) rfl (fun k k0 k1 => absurd k1 (by omega)) (by omega)
      refine M_farNow_f2 hG ?_
      rw [fr 151 (by omega) (by omega), c1, c2]
      refine ⟨fun z => absurd z (by omega), fun _ => ⟨by rw [zw_id (x := (m : Int) - 1) (by omega) (by omega)]; exact zw_id (by omega) (by omega), zw_id (by omega) (by omega), zw_id (by omega) (by omega), by omega, by omega, ?_⟩⟩
      rw [show 16 * ((m : Int) - 1) + (n : Int) - 1 = 16 * ((m - 1 : Nat) : Int) + ((n - 1 : Nat) : Int) by omega, v]
      exact q X fr
    | succ d ih =>
      intro x X e fr iv
      refine M_farNow_f2 hG ?_
      rw [fr 151 (by omega) (by omega), c1]
      refine ⟨fun _ => ?_, fun z => absurd z (by omega)⟩
      have inner : ∀ (d2 y : Nat) (Y : zX), y + d2 = n → (∀ c : Int, c ≠ 155 → c ≠ 156 → Y c = X0 c) → (∀ i j a b : Nat, i ≤ a → a < m → f a = f i → (∀ k, a < k → k < m → f k ≠ f a) → j ≤ b → b < n → f2 b = f2 j → (∀ k, b < k → k < n → f2 k ≠ f2 b) → (a < x ∨ (a = x ∧ b < y)) → Y 155 (16 * (i : Int) + j) = zQt X0 f f2 i j) → M_farNow_W Q 14 [zR 139, zI (x : Int), zI (y : Int)] [] G Y := by
        intro d2
        induction d2 with
        | zero =>
          intro y Y e2 f1 iv1
          refine M_farNow_f14 hG ?_
          rw [f1 151 (by omega) (by omega), c2]
          refine ⟨fun z => absurd z (by omega), fun _ => ⟨zw_id (by omega) (by omega), ?_⟩⟩
          exact ih (x + 1) Y (by omega) f1 (fun i j a b h1 h2 h3 h4 h5 h6 h7 h8 h9 => iv1 i j a b h1 h2 h3 h4 h5 h6 h7 h8 (by omega))
        | succ d2 ih2 =>
          intro y Y e2 f1 iv1
          have p1 : zRv Y 0 m f := zRv_c o1 (f1 154 (by omega) (by omega))
          have p2 : zRv Y 1 n f2 := zRv_c o2 (f1 154 (by omega) (by omega))
          have e151 : Y 151 = X0 151 := f1 151 (by omega) (by omega)
          have skip : ¬((∀ k, x < k → k < m → f k ≠ f x) ∧ (∀ k, y < k → k < n → f2 k ≠ f2 y)) → zw ((y : Int) + 1) = (y : Int) + 1 ∧ M_farNow_W Q 14 [zR 139, zI (x : Int), zI ((y : Int) + 1)] [] G Y := fun ns =>
            ⟨zw_id (by omega) (by omega), ih2 (y + 1) Y (by omega) f1 (fun i j a b h1 h2 h3 h4 h5 h6 h7 h8 h9 => by
              refine iv1 i j a b h1 h2 h3 h4 h5 h6 h7 h8 ?_
              by_cases d : a = x ∧ b = y
              · obtain ⟨rfl, rfl⟩ := d
                exact absurd ⟨h4, h8⟩ ns
              · omega)⟩
          refine M_farNow_f14 hG ?_
          rw [e151, c2]
          refine ⟨fun _ => isLast_M (s := 0) hG (by omega) (by omega) (by omega) p1 (by rw [e151]; exact c1) (by omega) (fun kx => ⟨1, rfl, fun z => absurd z (by omega), fun _ => isLast_M (s := 1) hG (by omega) (by omega) (by omega) p2 (by rw [e151]; exact c2) (by omega) (fun ky => ⟨1, rfl, fun z => absurd z (by omega), fun _ => ?_⟩) (fun ky => ⟨0, rfl, fun _ => skip (fun z => ky z.2), fun z => absurd rfl z⟩)⟩) (fun kx => ⟨0, rfl, fun _ => skip (fun z => kx z.1), fun z => absurd rfl z⟩), fun z => absurd z (by omega)⟩
          refine lays_M hG p1 p2 (by omega) (by omega) (fun i j xi ib yj jb ne => ?_) (fun X2 g1 g2 => ⟨rfl, zw_id (by omega) (by omega), ?_⟩)
          · obtain ⟨a, a1, a2, a3, a4⟩ := z_krr (f := f) (m - i) i (by omega) (show i < m by omega)
            obtain ⟨b, b1, b2, b3, b4⟩ := z_krr (f := f2) (n - j) j (by omega) (show j < n by omega)
            have gx := z_krrle tr (by omega) kx xi ib a1 a2 a3
            have gy := z_krrle tr2 (by omega) ky yj jb b1 b2 b3
            rw [zQt_c f1]
            refine iv1 i j a b a1 a2 a3 a4 b1 b2 b3 b4 ?_
            by_cases d : a = x ∧ b = y
            · obtain ⟨rfl, rfl⟩ := d
              exact absurd ⟨a3.symm, b3.symm⟩ ne
            · omega
          · refine ih2 (y + 1) X2 (by omega) (fun c h1 h2 => (g1 c h1 h2).trans (f1 c h1 h2)) (fun i j a b h1 h2 h3 h4 h5 h6 h7 h8 h9 => ?_)
            have gg := g2 i j (by omega) (by omega)
            by_cases d : f x ≤ i ∧ i ≤ x ∧ f i = f x ∧ f2 y ≤ j ∧ j ≤ y ∧ f2 j = f2 y
            · rw [gg.1 d, zQt_c f1]
            · rw [gg.2 d]
              refine iv1 i j a b h1 h2 h3 h4 h5 h6 h7 h8 ?_
              by_cases d3 : a = x ∧ b = y
              · obtain ⟨rfl, rfl⟩ := d3
                have bi := tr.1 i (by omega)
                have bj := tr2.1 j (by omega)
                exact absurd ⟨by omega, h1, h3.symm, by omega, h5, h7.symm⟩ d
              · omega
      exact inner n 0 X (by omega) fr (fun i j a b h1 h2 h3 h4 h5 h6 h7 h8 h9 => iv i j a b h1 h2 h3 h4 h5 h6 h7 h8 (by omega))
  exact M_farNow_f0 hG (key m 0 X0 (by omega) (fun _ _ _ => rfl) (fun i j a b _ _ _ _ _ _ _ _ h9 => absurd h9 (by omega)))
/-- what the reference has of an opened page -/
def zRf (Y : zX) (s : Int) (m : Nat) (F : zFo) : Prop := 1 ≤ m ∧ m ≤ 15 ∧ Y 151 s = m ∧ zEn Y s (m - 1) = zmr F ∧ (∀ p : Nat, p < m → 0 ≤ Y 154 (16 * s + p) ∧ Y 154 (16 * s + p) ≤ p) ∧ Y 152 (16 * s + (m - 1 : Nat)) = -1 ∧ Y 153 (16 * s + (m - 1 : Nat)) = 0 ∧ Y 154 (16 * s + (m - 1 : Nat)) = 0 ∧ (∀ p : Nat, p < m - 1 → 0 ≤ Y 152 (16 * s + p)) ∧ zwf F ∧ F.length = m - 1
theorem zEn_Rl (Y : zX) (s : Int) : ∀ n, zRl (zEr Y s) 0 n = zEn Y s n
  | 0 => rfl
  | n + 1 => by
    show zEr Y s (0 + n) :: zRl (zEr Y s) 0 n = _
    rw [zEn_Rl Y s n, Nat.zero_add]
    rfl
theorem zRf_v {Y : zX} {s : Int} {m : Nat} {F : zFo} (h : zRf Y s m F) : zRv Y s m (fun p => (Y 154 (16 * s + p)).toNat) := by
  obtain ⟨m0, m15, _, en, fs, _, _, f0, _, wf, _⟩ := h
  refine ⟨m0, m15, fun p hp => by have := fs p hp; show Y 154 (16 * s + p) = ((Y 154 (16 * s + p)).toNat : Int); omega, fun p hp => by have := fs p hp; show (Y 154 (16 * s + p)).toNat ≤ p; omega, fun p q hp hq hf => ?_⟩
  have w : zwf (zRl (zEr Y s) 0 (m - 1)) := by
    rw [zEn_Rl, en]
    exact zmr_w _ _ (Nat.le_refl _) wf
  have po := zwf_po (f := fun p => (Y 154 (16 * s + p)).toNat) (m - 1) 0 (fun p _ hp => by
    have := fs p (by omega)
    refine ⟨?_, by show (Y 154 (16 * s + p)).toNat ≤ p; omega⟩
    show ((p : Int) - Y 154 (16 * s + p) + 1).toNat = p - (Y 154 (16 * s + p)).toNat + 1
    omega) w
  by_cases c : p = m - 1
  · have z : (Y 154 (16 * s + p)).toNat = 0 := by rw [c, f0]; rfl
    show (Y 154 (16 * s + p)).toNat ≤ _
    rw [z]
    exact Nat.zero_le _
  · exact po.2 p q (Nat.zero_le _) (by omega) hq hf
theorem zEn_pos {Y : zX} {s : Int} : ∀ n : Nat, (∀ p : Nat, p < n → 0 ≤ Y 152 (16 * s + p)) → ∀ x, x ∈ zEn Y s n → 0 ≤ x.2.1
  | 0, _, x, hx => absurd hx List.not_mem_nil
  | n + 1, h, x, hx => by
    rcases List.mem_cons.1 hx with e | e
    · rw [e]
      exact h n (by omega)
    · exact zEn_pos n (fun p hp => h p (by omega)) x e
theorem far_same {X Y : zX} {m n : Nat} {b a b2 a2 : Nat → Nat} (o1 : zOpn X 105 m b a) (o2 : zOpn X 111 n b2 a2) (k1 : X 106 0 = 8) (k2 : X 107 0 = 0) (k3 : X 112 0 = 8) (k4 : X 113 0 = 0) (r1 : zRf Y 0 m (zLs (zGl2 X 105 b) 1 (m - 1))) (r2 : zRf Y 1 n (zLs (zGl2 X 111 b2) 1 (n - 1))) :
    zQt Y (fun p => (Y 154 (16 * 0 + p)).toNat) (fun p => (Y 154 (16 * 1 + p)).toNat) (m - 1) (n - 1) = zTd X b b2 0 0 := by
  obtain ⟨_, m0, m15, _, _, tr, b0, _⟩ := o1
  obtain ⟨_, n0, n15, _, _, tr2, b20, _⟩ := o2
  have w1 : zwf (zLs (zGl2 X 105 b) 1 (m - 1)) := zLs_wf tr (fun _ => rfl) _ _ (by omega) (fun k k0 k1 => by have := tr.1 k (by omega); omega)
  have w2 : zwf (zLs (zGl2 X 111 b2) 1 (n - 1)) := zLs_wf tr2 (fun _ => rfl) _ _ (by omega) (fun k k0 k1 => by have := tr2.1 k (by omega); omega)
  have cl : zTd X b b2 0 0 = zd (zLs (zGl2 X 105 b) 1 (m - 1)) (zLs (zGl2 X 111 b2) 1 (n - 1)) := by
    have e1 : zLs (zGl2 X 105 b) 0 (b 0 - 0) = ((zLs (zGl2 X 105 b) 1 (m - 1)).length + 1, 8, 0) :: zLs (zGl2 X 105 b) 1 (m - 1) := by
      rw [b0, show m - 0 = (m - 1) + 1 by omega, zLs_len]
      show (b 0 - 0, X 106 0, X 107 0) :: zLs (zGl2 X 105 b) 1 (m - 1) = _
      rw [b0, k1, k2, show m - 0 = m - 1 + 1 by omega]
    have e2 : zLs (zGl2 X 111 b2) 0 (b2 0 - 0) = ((zLs (zGl2 X 111 b2) 1 (n - 1)).length + 1, 8, 0) :: zLs (zGl2 X 111 b2) 1 (n - 1) := by
      rw [b20, show n - 0 = (n - 1) + 1 by omega, zLs_len]
      show (b2 0 - 0, X 112 0, X 113 0) :: zLs (zGl2 X 111 b2) 1 (n - 1) = _
      rw [b20, k3, k4, show n - 0 = n - 1 + 1 by omega]
    unfold zTd
    rw [e1, e2]
    exact zd_root w1 w2 (8, 0)
  have half : ∀ (s : Int) (l : Nat) (F : zFo), zRf Y s l F → zRl (zEr Y s) ((Y 154 (16 * s + ((l - 1 : Nat) : Int))).toNat) (l - 1 + 1 - (Y 154 (16 * s + ((l - 1 : Nat) : Int))).toNat) = ((zmr F).length + 1, -1, 0) :: zmr F ∧ (∀ x, x ∈ zmr F → 0 ≤ x.2.1) := fun s l F h => by
    obtain ⟨l0, l15, _, en, fs, h1, h2, h3, h4, wf, hl⟩ := h
    refine ⟨?_, fun x hx => ?_⟩
    · rw [h3, show l - 1 + 1 - (0 : Int).toNat = (l - 1) + 1 by rfl]
      show zEr Y s (0 + (l - 1)) :: zRl (zEr Y s) 0 (l - 1) = _
      rw [zEn_Rl, en, Nat.zero_add, zmr_len, hl]
      show ((((l - 1 : Nat) : Int) - Y 154 (16 * s + ((l - 1 : Nat) : Int)) + 1).toNat, Y 152 (16 * s + ((l - 1 : Nat) : Int)), Y 153 (16 * s + ((l - 1 : Nat) : Int))) :: zmr F = _
      rw [h1, h2, h3, show (((l - 1 : Nat) : Int) - 0 + 1).toNat = l - 1 + 1 by omega]
    · rw [← en] at hx
      exact zEn_pos _ h4 x hx
  have h1 := half 0 m _ r1
  have h2 := half 1 n _ r2
  rw [cl]
  unfold zQt
  show zq (zRl (zEr Y 0) ((Y 154 (16 * 0 + ((m - 1 : Nat) : Int))).toNat) (m - 1 + 1 - (Y 154 (16 * 0 + ((m - 1 : Nat) : Int))).toNat)) (zRl (zEr Y 1) ((Y 154 (16 * 1 + ((n - 1 : Nat) : Int))).toNat) (n - 1 + 1 - (Y 154 (16 * 1 + ((n - 1 : Nat) : Int))).toNat)) = _
  rw [h1.1, h2.1, zq_root h1.2 h2.2 (by rw [zmr_len, zmr_len, zLs_len, zLs_len]; omega), zd_m w1 w2]
