/-! ===== the class's distance of two opened pages ===== -/
theorem leads_D1 {Q : List zV → zX → Prop} {G : zG} {X : zX} {m x : Nat} {b a : Nat → Nat} (hG : SH G) (o : zOpn X 105 m b a) (hx : x < m) (q1 : (x = 0 ∨ b (a x) ≠ b x) → Q [zI 1] X) (q0 : ¬(x = 0 ∨ b (a x) ≠ b x) → Q [zI 0] X) : Op_leads [zR 105, zI (x : Int)] G X Q := by
  obtain ⟨cm, m0, m15, hb, ha, tr, b0, pa⟩ := o
  refine Op_leads_105_f0 hG ⟨fun z => q1 (by omega), fun z => ?_⟩
  have p := pa x (by omega) hx
  have e1 : X 108 (x : Int) = a x := ha x hx
  have e2 : X 109 (a x : Int) = b (a x) := hb _ (by omega)
  have e3 : X 109 (x : Int) = b x := hb x hx
  rw [e1, e2, e3]
  exact ⟨by omega, by omega, by omega, by omega, fun c => q0 (by omega), fun c => q1 (by omega)⟩
theorem leads_D2 {Q : List zV → zX → Prop} {G : zG} {X : zX} {m x : Nat} {b a : Nat → Nat} (hG : SH G) (o : zOpn X 111 m b a) (hx : x < m) (q1 : (x = 0 ∨ b (a x) ≠ b x) → Q [zI 1] X) (q0 : ¬(x = 0 ∨ b (a x) ≠ b x) → Q [zI 0] X) : Op_leads [zR 111, zI (x : Int)] G X Q := by
  obtain ⟨cm, m0, m15, hb, ha, tr, b0, pa⟩ := o
  refine Op_leads_111_f0 hG ⟨fun z => q1 (by omega), fun z => ?_⟩
  have p := pa x (by omega) hx
  have e1 : X 114 (x : Int) = a x := ha x hx
  have e2 : X 115 (a x : Int) = b (a x) := hb _ (by omega)
  have e3 : X 115 (x : Int) = b x := hb x hx
  rw [e1, e2, e3]
  exact ⟨by omega, by omega, by omega, by omega, fun c => q0 (by omega), fun c => q1 (by omega)⟩
/-- the first box that ends where this one ends -/
theorem z_kr {m : Nat} {b a : Nat → Nat} (pa : ∀ j, 0 < j → j < m → a j < j) : ∀ i, i < m → ∃ x, x ≤ i ∧ b x = b i ∧ (x = 0 ∨ b (a x) ≠ b x) := by
  intro i
  induction i using Nat.strongRecOn with
  | _ i ih =>
    intro hi
    by_cases i0 : i = 0
    · exact ⟨i, Nat.le_refl _, rfl, Or.inl i0⟩
    · by_cases c : b (a i) = b i
      · have p := pa i (by omega) hi
        obtain ⟨x, x1, x2, x3⟩ := ih (a i) p (by omega)
        exact ⟨x, by omega, by omega, x3⟩
      · exact ⟨i, Nat.le_refl _, rfl, Or.inr c⟩
theorem z_krge {m : Nat} {b a : Nat → Nat} (tr : zTr m b) (pa : ∀ j, 0 < j → j < m → a j < j ∧ j < b (a j) ∧ ∀ i, i < j → j < b i → i ≤ a j) {x i x1 : Nat} (hx : x < m) (kx : x = 0 ∨ b (a x) ≠ b x) (xi : x ≤ i) (ib : i < b x) (x1i : x1 ≤ i) (e : b x1 = b i) : x ≤ x1 := by
  by_cases c : x ≤ x1
  · exact c
  · have bx := tr.1 x hx
    have im : i < m := by omega
    have bi := tr.1 i im
    have p := pa x (by omega) hx
    have n1 : b x ≤ b x1 := tr.2 x1 x (by omega) (by omega) (by omega)
    have n2 : b i ≤ b x := by
      by_cases c2 : x = i
      · rw [c2]; exact Nat.le_refl _
      · exact tr.2 x i (by omega) ib hx
    have n3 := p.2.2 x1 (by omega) (by omega)
    have n4 : b x ≤ b (a x) := tr.2 (a x) x p.1 p.2.1 (by omega)
    have n5 : b (a x) ≤ b x1 := by
      by_cases c2 : x1 = a x
      · rw [c2]; exact Nat.le_refl _
      · exact tr.2 x1 (a x) (by omega) (by omega) (by omega)
    rcases kx with k | k
    · omega
    · omega
theorem zOpn_c {X X2 : zX} {o : Int} {m : Nat} {b a : Nat → Nat} (h : zOpn X o m b a) (e : ∀ c : Int, o ≤ c → c < o + 6 → X2 c = X c) : zOpn X2 o m b a := by
  obtain ⟨cm, m0, m15, hb, ha, r⟩ := h
  exact ⟨by rw [e o (by omega) (by omega)]; exact cm, m0, m15, fun i hi => by rw [e (o + 4) (by omega) (by omega)]; exact hb i hi, fun i hi => by rw [e (o + 3) (by omega) (by omega)]; exact ha i hi, r⟩
theorem zTd_c {X X2 : zX} {b b2 : Nat → Nat} {i j : Nat} (e : ∀ c : Int, c ≠ 117 → c ≠ 118 → X2 c = X c) : zTd X2 b b2 i j = zTd X b b2 i j := by
  unfold zTd zGl2
  rw [e (105 + 1) (by omega) (by omega), e (105 + 2) (by omega) (by omega), e (111 + 1) (by omega) (by omega), e (111 + 2) (by omega) (by omega)]
theorem apart_D {Q : List zV → zX → Prop} {G : zG} {X0 : zX} {m n : Nat} {b a b2 a2 : Nat → Nat} (hG : SH G) (o1 : zOpn X0 105 m b a) (o2 : zOpn X0 111 n b2 a2)
    (q : ∀ X2 : zX, (∀ c : Int, c ≠ 117 → c ≠ 118 → X2 c = X0 c) → Q [zI (zTd X0 b b2 0 0 : Nat)] X2) : Rm_apart [zR 104] G X0 Q := by
  have o1' := o1
  have o2' := o2
  obtain ⟨cm, m0, m15, hb, ha, tr, b0, pa⟩ := o1'
  obtain ⟨cn, n0, n15, hb2, ha2, tr2, b20, pa2⟩ := o2'
  have key : ∀ (xx : Nat) (X : zX), xx ≤ m → (∀ c : Int, c ≠ 117 → c ≠ 118 → X c = X0 c) → (∀ i j x y : Nat, i < m → j < n → x ≤ i → b x = b i → (x = 0 ∨ b (a x) ≠ b x) → y ≤ j → b2 y = b2 j → (y = 0 ∨ b2 (a2 y) ≠ b2 y) → xx ≤ x → X 117 ((i : Int) * 16 + j) = zTd X0 b b2 i j) → Rm_apart_W Q 10 [zR 104, zI ((xx : Int) - 1), zT] [] G X := by
    intro xx
    induction xx with
    | zero =>
      intro X h1 fr iv
      have f := iv 0 0 0 0 (by omega) (by omega) (by omega) rfl (Or.inl rfl) (by omega) rfl (Or.inl rfl) (by omega)
      refine Rm_apart_f10 hG ⟨fun _ => ?_, fun z => absurd z (by omega)⟩
      rw [show (((0 : Nat) : Int) * 16 + ((0 : Nat) : Int)) = 0 by omega] at f
      rw [f]
      exact q X fr
    | succ x ih =>
      intro X h1 fr iv
      refine Rm_apart_f10 hG ⟨fun z => absurd z (by omega), fun _ => ?_⟩
      rw [fr 111 (by omega) (by omega), cn, show ((x + 1 : Nat) : Int) - 1 = x by omega]
      refine ⟨zw_id (by omega) (by omega), ?_⟩
      have inner : ∀ (yy : Nat) (Y : zX), yy ≤ n → (∀ c : Int, c ≠ 117 → c ≠ 118 → Y c = X0 c) → (∀ i j x2 y : Nat, i < m → j < n → x2 ≤ i → b x2 = b i → (x2 = 0 ∨ b (a x2) ≠ b x2) → y ≤ j → b2 y = b2 j → (y = 0 ∨ b2 (a2 y) ≠ b2 y) → (x + 1 ≤ x2 ∨ (x2 = x ∧ yy ≤ y)) → Y 117 ((i : Int) * 16 + j) = zTd X0 b b2 i j) → Rm_apart_W Q 24 [zR 104, zI (x : Int), zI ((yy : Int) - 1)] [] G Y := by
        intro yy
        induction yy with
        | zero =>
          intro Y y1 f1 iv1
          exact Rm_apart_f24 hG ⟨fun _ => ⟨by rw [zw_id (by omega) (by omega)]; omega, ih Y (by omega) f1 (fun i j x2 y c1 c2 c3 c4 c5 c6 c7 c8 c9 => iv1 i j x2 y c1 c2 c3 c4 c5 c6 c7 c8 (by omega))⟩, fun z => absurd z (by omega)⟩
        | succ y ih2 =>
          intro Y y1 f1 iv1
          rw [show ((y + 1 : Nat) : Int) - 1 = y by omega]
          have p1 : zOpn Y 105 m b a := zOpn_c o1 (fun c c1 c2 => f1 c (by omega) (by omega))
          have p2 : zOpn Y 111 n b2 a2 := zOpn_c o2 (fun c c1 c2 => f1 c (by omega) (by omega))
          have skip : ¬((x = 0 ∨ b (a x) ≠ b x) ∧ (y = 0 ∨ b2 (a2 y) ≠ b2 y)) → zw ((y : Int) + (-1)) = (y : Int) - 1 ∧ Rm_apart_W Q 24 [zR 104, zI (x : Int), zI ((y : Int) - 1)] [] G Y := fun ns =>
            ⟨by rw [zw_id (by omega) (by omega)]; omega, ih2 Y (by omega) f1 (fun i j x2 y2 c1 c2 c3 c4 c5 c6 c7 c8 c9 => by
              refine iv1 i j x2 y2 c1 c2 c3 c4 c5 c6 c7 c8 ?_
              by_cases d : x2 = x ∧ y2 = y
              · obtain ⟨rfl, rfl⟩ := d
                exact absurd ⟨c5, c8⟩ ns
              · omega)⟩
          refine Rm_apart_f24 hG ⟨fun z => absurd z (by omega), fun _ => leads_D1 hG p1 (by omega) (fun kx => ⟨1, rfl, fun z => absurd z (by omega), fun _ => leads_D2 hG p2 (by omega) (fun ky => ⟨1, rfl, fun z => absurd z (by omega), fun _ => ?_⟩) (fun ky => ⟨0, rfl, fun _ => skip (fun z => ky z.2), fun z => absurd rfl z⟩)⟩) (fun kx => ⟨0, rfl, fun _ => skip (fun z => kx z.1), fun z => absurd rfl z⟩)⟩
          refine compare_D hG p1 p2 (by omega) (by omega) (fun i j xi ib yj jb ne => ?_) (fun X2 g1 g2 => ⟨rfl, by rw [zw_id (by omega) (by omega)]; omega, ?_⟩)
          · have bx := tr.1 x (by omega)
            have by1 := tr2.1 y (by omega)
            obtain ⟨x1, e1, e2, e3⟩ := z_kr (b := b) (fun j j0 j1 => (pa j j0 j1).1) i (by omega)
            obtain ⟨y2, e4, e5, e6⟩ := z_kr (b := b2) (fun j j0 j1 => (pa2 j j0 j1).1) j (by omega)
            have gx := z_krge tr pa (by omega) kx xi ib e1 e2
            have gy := z_krge tr2 pa2 (by omega) ky yj jb e4 e5
            rw [zTd_c f1]
            refine iv1 i j x1 y2 (by omega) (by omega) e1 e2 e3 e4 e5 e6 ?_
            by_cases d : x1 = x ∧ y2 = y
            · obtain ⟨rfl, rfl⟩ := d
              exact absurd ⟨e2.symm, e5.symm⟩ ne
            · omega
          · refine ih2 X2 (by omega) (fun c c1 c2 => (g1 c c1 c2).trans (f1 c c1 c2)) (fun i j x2 y2 c1 c2 c3 c4 c5 c6 c7 c8 c9 => ?_)
            have gg := g2 i j (by omega) (by omega)
            by_cases d : x ≤ i ∧ i < b x ∧ b i = b x ∧ y ≤ j ∧ j < b2 y ∧ b2 j = b2 y
            · rw [gg.1 d, zTd_c f1]
            · rw [gg.2 d]
              refine iv1 i j x2 y2 c1 c2 c3 c4 c5 c6 c7 c8 ?_
              by_cases d2 : x2 = x ∧ y2 = y
              · obtain ⟨rfl, rfl⟩ := d2
                have bi := tr.1 i c1
                have bj := tr2.1 j c2
                exact absurd ⟨c3, by omega, c4.symm, c6, by omega, c7.symm⟩ d
              · omega
      exact inner n X (Nat.le_refl _) fr (fun i j x2 y c1 c2 c3 c4 c5 c6 c7 c8 c9 => iv i j x2 y c1 c2 c3 c4 c5 c6 c7 c8 (by
        have := tr2.1 j c2
        omega))
  refine Rm_apart_f0 hG ?_
  rw [cm]
  exact ⟨zw_id (by omega) (by omega), key m X0 (Nat.le_refl _) (fun _ _ _ => rfl) (fun i j x y c1 _ c3 _ _ _ _ _ c9 => absurd c9 (by omega))⟩
/-! what b is, from a alone -/
def zBb (m : Nat) (a b : Nat → Nat) : Prop := (∀ i, i < m → i < b i ∧ b i ≤ m) ∧ (∀ j, 0 < j → j < m → b j ≤ b (a j)) ∧ (∀ i, i < m → b i = i + 1 ∨ ∃ j, i < j ∧ j < m ∧ a j = i ∧ b j = b i)
theorem zBb_near {m : Nat} {a b : Nat → Nat} (B : zBb m a b) (pw : ∀ i j, 0 < i → i < j → j < m → a j < i → a j ≤ a i) : ∀ (d i j : Nat), i + d = m → i < j → j < b i → i < m → i ≤ a j := by
  intro d
  induction d using Nat.strongRecOn with
  | _ d ih =>
    intro i j e ij jb im
    have bi := B.1 i im
    rcases B.2.2 i im with c | ⟨c, c1, c2, c3, c4⟩
    · omega
    · by_cases h1 : c ≤ j
      · by_cases h2 : c = j
        · rw [← h2, c3]
          exact Nat.le_refl _
        · have z := ih (m - c) (by omega) c j (by omega) (by omega) (by omega) c2
          omega
      · have z := pw j c (by omega) (by omega) c2 (by omega)
        omega
theorem zBb_tr {m : Nat} {a b : Nat → Nat} (B : zBb m a b) (pl : ∀ j, 0 < j → j < m → a j < j) (pw : ∀ i j, 0 < i → i < j → j < m → a j < i → a j ≤ a i) : zTr m b ∧ (1 ≤ m → b 0 = m) ∧ (∀ j, 0 < j → j < m → a j < j ∧ j < b (a j) ∧ ∀ i, i < j → j < b i → i ≤ a j) := by
  have near : ∀ i j, i < j → j < b i → i < m → i ≤ a j := fun i j h1 h2 h3 => zBb_near B pw (m - i) i j (by omega) h1 h2 h3
  refine ⟨⟨B.1, fun i => ?_⟩, fun m1 => ?_, fun j j0 j1 => ⟨pl j j0 j1, ?_, fun i h1 h2 => near i j h1 h2 (by omega)⟩⟩
  · intro j
    induction j using Nat.strongRecOn with
    | _ j ih =>
      intro ij jb im
      have bi := B.1 i im
      have n := near i j ij jb im
      have p := pl j (by omega) (by omega)
      have u := B.2.1 j (by omega) (by omega)
      by_cases c : a j = i
      · rw [c] at u
        exact u
      · have z := ih (a j) p (by omega) (by omega) im
        omega
  · have up : ∀ j, j < m → b j ≤ b 0 := by
      intro j
      induction j using Nat.strongRecOn with
      | _ j ih =>
        intro jm
        by_cases c : j = 0
        · rw [c]; exact Nat.le_refl _
        · have z := ih (a j) (pl j (by omega) jm) (by have := pl j (by omega) jm; omega)
          have u := B.2.1 j (by omega) jm
          omega
    have z := up (m - 1) (by omega)
    have y := B.1 (m - 1) (by omega)
    have w := B.1 0 (by omega)
    omega
  · have u := B.2.1 j j0 j1
    have y := B.1 j j1
    omega
