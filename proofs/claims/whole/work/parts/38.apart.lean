/-! ===== the class's table of distances ===== -/
def zLs (g : Nat → Nat × Int × Int) : Nat → Nat → zFo
  | _, 0 => []
  | i, n + 1 => g i :: zLs g (i + 1) n
theorem zLs_app (g : Nat → Nat × Int × Int) : ∀ (a i c : Nat), zLs g i (a + c) = zLs g i a ++ zLs g (i + a) c
  | 0, i, c => by rw [Nat.zero_add]; rfl
  | a + 1, i, c => by
    rw [show a + 1 + c = (a + c) + 1 by omega]
    show g i :: zLs g (i + 1) (a + c) = g i :: (zLs g (i + 1) a ++ zLs g (i + (a + 1)) c)
    rw [zLs_app g a (i + 1) c, show i + 1 + a = i + (a + 1) by omega]
theorem zLs_len (g : Nat → Nat × Int × Int) : ∀ (n i : Nat), (zLs g i n).length = n
  | 0, _ => rfl
  | n + 1, i => by
    show (zLs g (i + 1) n).length + 1 = n + 1
    rw [zLs_len g n (i + 1)]
theorem zLs_take {g : Nat → Nat × Int × Int} {i n k : Nat} (h : k ≤ n) : (zLs g i n).take k = zLs g i k := by
  rw [show n = k + (n - k) by omega, zLs_app, List.take_append_of_le_length (by rw [zLs_len]; omega), List.take_of_length_le (by rw [zLs_len]; omega)]
theorem zLs_drop {g : Nat → Nat × Int × Int} {i n k : Nat} (h : k ≤ n) : (zLs g i n).drop k = zLs g (i + k) (n - k) := by
  conv => lhs; rw [show n = k + (n - k) by omega]
  rw [zLs_app, List.drop_append_of_le_length (by rw [zLs_len]; omega), List.drop_of_length_le (by rw [zLs_len]; omega), List.nil_append]
def zTr (m : Nat) (b : Nat → Nat) : Prop := (∀ i, i < m → i < b i ∧ b i ≤ m) ∧ (∀ i j, i < j → j < b i → i < m → b j ≤ b i)
theorem zLs_wf {m : Nat} {b : Nat → Nat} {g : Nat → Nat × Int × Int} (t : zTr m b) (hg : ∀ i, (g i).1 = b i - i) : ∀ (n i : Nat), i + n ≤ m → (∀ k, i ≤ k → k < i + n → b k ≤ i + n) → zwf (zLs g i n) := by
  intro n
  induction n using Nat.strongRecOn with
  | _ n ih =>
    intro i hm hb
    cases n with
    | zero => exact zwf_0
    | succ n =>
      have hi := t.1 i (by omega)
      have h1 := hb i (by omega) (by omega)
      refine zwf_c.2 ⟨by rw [hg]; omega, by rw [hg, zLs_len]; omega, ?_, ?_⟩
      · rw [hg, zLs_take (by omega)]
        refine ih (b i - i - 1) (by omega) (i + 1) (by omega) (fun k k0 k1 => ?_)
        have z := t.2 i k (by omega) (by omega) (by omega)
        omega
      · rw [hg, zLs_drop (by omega)]
        exact ih (n - (b i - i - 1)) (by omega) (i + 1 + (b i - i - 1)) (by omega) (fun k k0 k1 => by
          have z := hb k (by omega) (by omega)
          omega)
/-- the step of the table -/
theorem zd_step {m n : Nat} {b b2 : Nat → Nat} {g h : Nat → Nat × Int × Int} (t : zTr m b) (t2 : zTr n b2) (hg : ∀ i, (g i).1 = b i - i) (hh : ∀ i, (h i).1 = b2 i - i) {i j ex ey : Nat} (i1 : i < ex) (ex1 : ex ≤ m) (j1 : j < ey) (ey1 : ey ≤ n) (hb : ∀ k, i ≤ k → k < ex → b k ≤ ex) (hb2 : ∀ k, j ≤ k → k < ey → b2 k ≤ ey) :
    (b i = ex ∧ b2 j = ey → zd (zLs g i (ex - i)) (zLs h j (ey - j)) = min (min (zd (zLs g (i + 1) (ex - (i + 1))) (zLs h j (ey - j))) (zd (zLs g i (ex - i)) (zLs h (j + 1) (ey - (j + 1)))) + 2) (zd (zLs g (i + 1) (ex - (i + 1))) (zLs h (j + 1) (ey - (j + 1))) + zch (g i).2 (h j).2)) ∧
    (zd (zLs g i (ex - i)) (zLs h j (ey - j)) = min (min (zd (zLs g (i + 1) (ex - (i + 1))) (zLs h j (ey - j))) (zd (zLs g i (ex - i)) (zLs h (j + 1) (ey - (j + 1)))) + 2) (zd (zLs g i (b i - i)) (zLs h j (b2 j - j)) + zd (zLs g (b i) (ex - b i)) (zLs h (b2 j) (ey - b2 j)))) := by
  have bi := t.1 i (by omega)
  have bj := t2.1 j (by omega)
  have ci := hb i (by omega) i1
  have cj := hb2 j (by omega) j1
  have e1 : zLs g i (ex - i) = g i :: zLs g (i + 1) (ex - (i + 1)) := by
    rw [show ex - i = (ex - (i + 1)) + 1 by omega]
    rfl
  have e2 : zLs h j (ey - j) = h j :: zLs h (j + 1) (ey - (j + 1)) := by
    rw [show ey - j = (ey - (j + 1)) + 1 by omega]
    rfl
  have cc := zd_cc (g i) (h j) (zLs g (i + 1) (ex - (i + 1))) (zLs h (j + 1) (ey - (j + 1)))
  rw [← e1, ← e2, hg, hh, zLs_take (by omega), zLs_take (by omega), zLs_drop (by omega), zLs_drop (by omega)] at cc
  constructor
  · intro e
    rw [show b i - i - 1 = ex - (i + 1) by omega, show b2 j - j - 1 = ey - (j + 1) by omega, show ex - (i + 1) - (ex - (i + 1)) = 0 by omega, show ey - (j + 1) - (ey - (j + 1)) = 0 by omega, show zd (zLs g (i + 1 + (ex - (i + 1))) 0) (zLs h (j + 1 + (ey - (j + 1))) 0) = 0 from rfl] at cc
    omega
  · rw [show i + 1 + (b i - i - 1) = b i by omega, show j + 1 + (b2 j - j - 1) = b2 j by omega, show ex - (i + 1) - (b i - i - 1) = ex - b i by omega, show ey - (j + 1) - (b2 j - j - 1) = ey - b2 j by omega] at cc
    -- the two trees alone
    have f1 : zLs g i (b i - i) = g i :: zLs g (i + 1) (b i - i - 1) := by
      conv => lhs; rw [show b i - i = (b i - i - 1) + 1 by omega]
      rfl
    have f2 : zLs h j (b2 j - j) = h j :: zLs h (j + 1) (b2 j - j - 1) := by
      conv => lhs; rw [show b2 j - j = (b2 j - j - 1) + 1 by omega]
      rfl
    have mt := zd_mat (g i) (h j) (zLs g (i + 1) (b i - i - 1)) (zLs h (j + 1) (b2 j - j - 1))
    rw [← f1, ← f2, hg, hh, zLs_take (Nat.le_refl _), zLs_take (Nat.le_refl _), zLs_drop (Nat.le_refl _), zLs_drop (Nat.le_refl _), Nat.sub_self, Nat.sub_self, show zd (zLs g (i + 1 + (b i - i - 1)) 0) (zLs h (j + 1 + (b2 j - j - 1)) 0) = 0 from rfl] at mt
    have w1 := zLs_wf t hg (b i - i) i (by omega) (fun k k0 k1 => by
      by_cases c : k = i
      · rw [c]; omega
      · have z := t.2 i k (by omega) (by omega) (by omega)
        omega)
    have w2 := zLs_wf t2 hh (b2 j - j) j (by omega) (fun k k0 k1 => by
      by_cases c : k = j
      · rw [c]; omega
      · have z := t2.2 j k (by omega) (by omega) (by omega)
        omega)
    have s := zd_S _ (zLs g i (b i - i)) (zLs g (b i) (ex - b i)) (zLs h j (b2 j - j)) (zLs h (b2 j) (ey - b2 j)) (Nat.le_refl _) w1 w2
    have g1 := zLs_app g (b i - i) i (ex - b i)
    have g2 := zLs_app h (b2 j - j) j (ey - b2 j)
    rw [show b i - i + (ex - b i) = ex - i by omega, show i + (b i - i) = b i by omega] at g1
    rw [show b2 j - j + (ey - b2 j) = ey - j by omega, show j + (b2 j - j) = b2 j by omega] at g2
    rw [← g1, ← g2] at s
    omega
/-- what an opened page is: its numbers of boxes, where each ends, in which each is -/
def zOpn (X : zX) (o : Int) (m : Nat) (b a : Nat → Nat) : Prop := X o 5 = m ∧ 1 ≤ m ∧ m ≤ 15 ∧ (∀ i : Nat, i < m → X (o + 4) i = b i) ∧ (∀ i : Nat, i < m → X (o + 3) i = a i) ∧ zTr m b ∧ b 0 = m ∧ (∀ j, 0 < j → j < m → a j < j ∧ j < b (a j) ∧ ∀ i, i < j → j < b i → i ≤ a j)
def zGl2 (X : zX) (o : Int) (b : Nat → Nat) (i : Nat) : Nat × Int × Int := (b i - i, X (o + 1) i, X (o + 2) i)
theorem swap_D {Q : List zV → zX → Prop} {G : zG} {X : zX} {i j : Nat} (hG : SH G) (i1 : i < 15) (j1 : j < 15) (q : Q [zI (zch (X 106 i, X 107 i) (X 112 j, X 113 j) : Nat)] X) : Rm_swap [zR 104, zI (i : Int), zI (j : Int)] G X Q := by
  have k : ∀ s : Nat, s ≤ 3 → s = (if X 106 i = X 112 j then 0 else 3) → Rm_swap_W Q 26 [zR 104, zI (i : Int), zI (j : Int), zT] [zI (s : Int)] G X := fun s s3 es => by
    unfold zch at q
    simp only at q
    rw [← es] at q
    refine Rm_swap_f26 hG ⟨by omega, by omega, by omega, by omega, fun c => ?_, fun c => ⟨zw_id (by omega) (by omega), ?_⟩⟩
    · rw [if_pos c] at q
      exact q
    · rw [if_neg c] at q
      exact q
  refine Rm_swap_f0 hG ⟨by omega, by omega, by omega, by omega, fun c => k 0 (by omega) (by rw [if_pos c]), fun c => k 3 (by omega) (by rw [if_neg c])⟩
/-- trees of both sides -/
def zTd (X : zX) (b b2 : Nat → Nat) (i j : Nat) : Nat := zd (zLs (zGl2 X 105 b) i (b i - i)) (zLs (zGl2 X 111 b2) j (b2 j - j))
def zRd (X : zX) (b b2 : Nat → Nat) (ex ey i j : Nat) : Nat := zd (zLs (zGl2 X 105 b) i (ex - i)) (zLs (zGl2 X 111 b2) j (ey - j))
theorem zRd_le {X : zX} {b b2 : Nat → Nat} {ex ey i j : Nat} (h1 : ex ≤ 15) (h2 : ey ≤ 15) : zRd X b b2 ex ey i j ≤ 60 := by
  have z := zd_le _ (zLs (zGl2 X 105 b) i (ex - i)) (zLs (zGl2 X 111 b2) j (ey - j)) (Nat.le_refl _)
  rw [zLs_len, zLs_len] at z
  unfold zRd
  omega
theorem compare_D {Q : List zV → zX → Prop} {G : zG} {X0 : zX} {m n : Nat} {b a b2 a2 : Nat → Nat} {x y : Nat} (hG : SH G) (o1 : zOpn X0 105 m b a) (o2 : zOpn X0 111 n b2 a2) (x1 : x < m) (y1 : y < n) (ht : ∀ i j : Nat, x ≤ i → i < b x → y ≤ j → j < b2 y → ¬(b i = b x ∧ b2 j = b2 y) → X0 117 ((i : Int) * 16 + j) = zTd X0 b b2 i j)
    (q : ∀ X2 : zX, (∀ c : Int, c ≠ 117 → c ≠ 118 → X2 c = X0 c) → (∀ i j : Nat, i < 16 → j < 16 → ((x ≤ i ∧ i < b x ∧ b i = b x ∧ y ≤ j ∧ j < b2 y ∧ b2 j = b2 y) → X2 117 ((i : Int) * 16 + j) = zTd X0 b b2 i j) ∧ (¬(x ≤ i ∧ i < b x ∧ b i = b x ∧ y ≤ j ∧ j < b2 y ∧ b2 j = b2 y) → X2 117 ((i : Int) * 16 + j) = X0 117 ((i : Int) * 16 + j))) → Q [] X2) : Rm_compare [zR 104, zI (x : Int), zI (y : Int)] G X0 Q := by
  obtain ⟨cm, m0, m15, hb, ha, tr, b0, _⟩ := o1
  obtain ⟨cn, n0, n15, hb2, ha2, tr2, b20, _⟩ := o2
  have bx := tr.1 x x1
  have by1 := tr2.1 y y1
  have gx : X0 109 (x : Int) = b x := hb x x1
  have gy : X0 115 (y : Int) = b2 y := hb2 y y1
  have hbx : ∀ k, x ≤ k → k < b x → b k ≤ b x := fun k k0 k1 => by
    by_cases c : k = x
    · rw [c]; exact Nat.le_refl _
    · exact tr.2 x k (by omega) k1 x1
  have hby : ∀ k, y ≤ k → k < b2 y → b2 k ≤ b2 y := fun k k0 k1 => by
    by_cases c : k = y
    · rw [c]; exact Nat.le_refl _
    · exact tr2.2 y k (by omega) k1 y1
  have hgg : ∀ i, (zGl2 X0 105 b i).1 = b i - i := fun _ => rfl
  have hgh : ∀ i, (zGl2 X0 111 b2 i).1 = b2 i - i := fun _ => rfl
  have le : ∀ i j, zRd X0 b b2 (b x) (b2 y) i j ≤ 60 := fun i j => zRd_le (by omega) (by omega)
  -- the table itself
  have main : ∀ (ii : Nat) (X : zX), x ≤ ii → ii ≤ b x → (∀ c : Int, c ≠ 117 → c ≠ 118 → X c = X0 c) → (∀ i j : Nat, ii ≤ i → i ≤ b x → y ≤ j → j ≤ b2 y → X 118 ((i : Int) * 16 + j) = zRd X0 b b2 (b x) (b2 y) i j) → (∀ i : Nat, x ≤ i → i ≤ b x → X 118 ((i : Int) * 16 + b2 y) = zRd X0 b b2 (b x) (b2 y) i (b2 y)) → (∀ i j : Nat, i < 16 → j < 16 → ((ii ≤ i ∧ x ≤ i ∧ i < b x ∧ b i = b x ∧ y ≤ j ∧ j < b2 y ∧ b2 j = b2 y) → X 117 ((i : Int) * 16 + j) = zTd X0 b b2 i j) ∧ (¬(ii ≤ i ∧ x ≤ i ∧ i < b x ∧ b i = b x ∧ y ≤ j ∧ j < b2 y ∧ b2 j = b2 y) → X 117 ((i : Int) * 16 + j) = X0 117 ((i : Int) * 16 + j))) → Rm_compare_W Q 132 [zR 104, zI (x : Int), zI (y : Int), zI (b x : Int), zI (b2 y : Int), zI ((ii : Int) - 1), zT, zT, zT, zT] [] G X := by
    intro ii
    induction ii with
    | zero =>
      intro X c1 c2 fr rw1 rw2 t1
      refine Rm_compare_f132 hG ⟨fun _ => q X fr (fun i j i0 j0 => ⟨fun z => (t1 i j i0 j0).1 ⟨by omega, z.1, z.2⟩, fun z => (t1 i j i0 j0).2 (fun y => z ⟨y.2.1, y.2.2⟩)⟩), fun z => absurd z (by omega)⟩
    | succ i ih =>
      intro X c1 c2 fr rw1 rw2 t1
      by_cases xi : x ≤ i
      · refine Rm_compare_f132 hG ⟨fun z => absurd z (by omega), fun _ => ⟨zw_id (by omega) (by omega), ?_⟩⟩
        rw [show ((i + 1 : Nat) : Int) - 1 = i by omega]
        -- one row
        have row : ∀ (jj : Nat) (Y : zX), y ≤ jj → jj ≤ b2 y → (∀ c : Int, c ≠ 117 → c ≠ 118 → Y c = X0 c) → (∀ i2 j : Nat, i + 1 ≤ i2 → i2 ≤ b x → y ≤ j → j ≤ b2 y → Y 118 ((i2 : Int) * 16 + j) = zRd X0 b b2 (b x) (b2 y) i2 j) → (∀ i2 : Nat, x ≤ i2 → i2 ≤ b x → Y 118 ((i2 : Int) * 16 + b2 y) = zRd X0 b b2 (b x) (b2 y) i2 (b2 y)) → (∀ j : Nat, jj ≤ j → j ≤ b2 y → Y 118 ((i : Int) * 16 + j) = zRd X0 b b2 (b x) (b2 y) i j) → (∀ i2 j : Nat, i2 < 16 → j < 16 → (((i + 1 ≤ i2 ∨ (i2 = i ∧ jj ≤ j)) ∧ x ≤ i2 ∧ i2 < b x ∧ b i2 = b x ∧ y ≤ j ∧ j < b2 y ∧ b2 j = b2 y) → Y 117 ((i2 : Int) * 16 + j) = zTd X0 b b2 i2 j) ∧ (¬((i + 1 ≤ i2 ∨ (i2 = i ∧ jj ≤ j)) ∧ x ≤ i2 ∧ i2 < b x ∧ b i2 = b x ∧ y ≤ j ∧ j < b2 y ∧ b2 j = b2 y) → Y 117 ((i2 : Int) * 16 + j) = X0 117 ((i2 : Int) * 16 + j))) → Rm_compare_W Q 144 [zR 104, zI (x : Int), zI (y : Int), zI (b x : Int), zI (b2 y : Int), zI (i : Int), zI ((jj : Int) - 1), zT, zT, zT] [] G Y := by
          intro jj
          have done : ∀ Y : zX, (∀ c : Int, c ≠ 117 → c ≠ 118 → Y c = X0 c) → (∀ i2 j : Nat, i + 1 ≤ i2 → i2 ≤ b x → y ≤ j → j ≤ b2 y → Y 118 ((i2 : Int) * 16 + j) = zRd X0 b b2 (b x) (b2 y) i2 j) → (∀ i2 : Nat, x ≤ i2 → i2 ≤ b x → Y 118 ((i2 : Int) * 16 + b2 y) = zRd X0 b b2 (b x) (b2 y) i2 (b2 y)) → (∀ j : Nat, y ≤ j → j ≤ b2 y → Y 118 ((i : Int) * 16 + j) = zRd X0 b b2 (b x) (b2 y) i j) → (∀ i2 j : Nat, i2 < 16 → j < 16 → (((i + 1 ≤ i2 ∨ (i2 = i ∧ y ≤ j)) ∧ x ≤ i2 ∧ i2 < b x ∧ b i2 = b x ∧ y ≤ j ∧ j < b2 y ∧ b2 j = b2 y) → Y 117 ((i2 : Int) * 16 + j) = zTd X0 b b2 i2 j) ∧ (¬((i + 1 ≤ i2 ∨ (i2 = i ∧ y ≤ j)) ∧ x ≤ i2 ∧ i2 < b x ∧ b i2 = b x ∧ y ≤ j ∧ j < b2 y ∧ b2 j = b2 y) → Y 117 ((i2 : Int) * 16 + j) = X0 117 ((i2 : Int) * 16 + j))) → zw ((i : Int) + (-1)) = (i : Int) - 1 ∧ Rm_compare_W Q 132 [zR 104, zI (x : Int), zI (y : Int), zI (b x : Int), zI (b2 y : Int), zI ((i : Int) - 1), zT, zT, zT, zT] [] G Y := fun Y f1 f2 f3 f4 f5 =>
            ⟨by rw [zw_id (by omega) (by omega)]; omega, ih Y xi (by omega) f1 (fun i2 j i0 i3 j0 j3 => by
              by_cases c : i2 = i
              · rw [c]; exact f4 j j0 j3
              · exact f2 i2 j (by omega) i3 j0 j3) f3 (fun i2 j i0 j0 => ⟨fun z => (f5 i2 j i0 j0).1 ⟨by omega, z.2⟩, fun z => (f5 i2 j i0 j0).2 (fun w => z ⟨by omega, w.2⟩)⟩)⟩
          induction jj with
          | zero =>
            intro Y d1 d2 f1 f2 f3 f4 f5
            have y0 : y = 0 := by omega
            refine Rm_compare_f144 hG ⟨fun _ => done Y f1 f2 f3 (fun j j0 j1 => f4 j (by omega) j1) (fun i2 j i0 j0 => ⟨fun z => (f5 i2 j i0 j0).1 ⟨by omega, z.2⟩, fun z => (f5 i2 j i0 j0).2 (fun w => z ⟨by omega, w.2⟩)⟩), fun z => absurd z (by omega)⟩
          | succ j ih2 =>
            intro Y d1 d2 f1 f2 f3 f4 f5
            rw [show ((j + 1 : Nat) : Int) - 1 = j by omega]
            by_cases yj : y ≤ j
            · have st := zd_step (i := i) (j := j) tr tr2 hgg hgh (by omega) bx.2 (by omega) by1.2 (fun k k0 k1 => hbx k (by omega) k1) (fun k k0 k1 => hby k (by omega) k1)
              have v1 := f2 (i + 1) j (by omega) (by omega) (by omega) (by omega)
              have v2 := f4 (j + 1) (by omega) (by omega)
              have v3 := f2 (i + 1) (j + 1) (by omega) (by omega) (by omega) (by omega)
              rw [show ((i + 1 : Nat) : Int) * 16 + (j : Int) = (i : Int) * 16 + j + 16 by omega] at v1
              rw [show (i : Int) * 16 + ((j + 1 : Nat) : Int) = (i : Int) * 16 + j + 1 by omega] at v2
              rw [show ((i + 1 : Nat) : Int) * 16 + ((j + 1 : Nat) : Int) = (i : Int) * 16 + j + 16 + 1 by omega] at v3
              have l1 := le (i + 1) j
              have l2 := le i (j + 1)
              have l3 := le (i + 1) (j + 1)
              have l0 := le i j
              have g1 : Y 109 (i : Int) = b i := by rw [f1 109 (by omega) (by omega)]; exact hb i (by omega)
              have g2 : Y 115 (j : Int) = b2 j := by rw [f1 115 (by omega) (by omega)]; exact hb2 j (by omega)
              have bi := hbx i xi (by omega)
              have bj := hby j yj (by omega)
              have bi0 := tr.1 i (by omega)
              have bj0 := tr2.1 j (by omega)
              -- behind a put of the row
              have nx : ∀ (Z : zX) (v : Int), v = zRd X0 b b2 (b x) (b2 y) i j → (∀ c : Int, c ≠ 117 → Z c = Y c) → (∀ i2 j2 : Nat, i2 < 16 → j2 < 16 → (i2 = i ∧ j2 = j ∧ b i = b x ∧ b2 j = b2 y → Z 117 ((i2 : Int) * 16 + j2) = zTd X0 b b2 i2 j2) ∧ (¬(i2 = i ∧ j2 = j ∧ b i = b x ∧ b2 j = b2 y) → Z 117 ((i2 : Int) * 16 + j2) = Y 117 ((i2 : Int) * 16 + j2))) → Rm_compare_W Q 303 [zR 104, zI (x : Int), zI (y : Int), zI (b x : Int), zI (b2 y : Int), zI (i : Int), zI (j : Int), zI ((i : Int) * 16 + j), zI v, zT] [] G Z := fun Z v ev z1 z2 => by
                have z118 := z1 118 (by omega)
                refine Rm_compare_f303 hG ⟨by omega, by omega, by rw [zw_id (by omega) (by omega)]; omega, ih2 _ yj (by omega) (fun c c1 c2 => ?_) (fun i2 j2 i0 i3 j0 j3 => ?_) (fun i2 i0 i3 => ?_) (fun j2 j0 j3 => ?_) (fun i2 j2 i0 j0 => ?_)⟩
                · rw [zrd_r c2, z1 c c1]
                  exact f1 c c1 c2
                · rw [zrd_n (by omega), z118]
                  exact f2 i2 j2 i0 i3 j0 j3
                · rw [zrd_n (by omega), z118]
                  exact f3 i2 i0 i3
                · by_cases c : j2 = j
                  · rw [c, zrd_s]
                    exact ev
                  · rw [zrd_n (by omega), z118]
                    exact f4 j2 (by omega) j3
                · rw [zrd_n (by omega)]
                  have zz := z2 i2 j2 i0 j0
                  have ff := f5 i2 j2 i0 j0
                  by_cases c : i2 = i ∧ j2 = j ∧ b i = b x ∧ b2 j = b2 y
                  · refine ⟨fun _ => zz.1 c, fun w => absurd ?_ w⟩
                    obtain ⟨rfl, rfl, c3, c4⟩ := c
                    exact ⟨Or.inr ⟨rfl, Nat.le_refl _⟩, xi, by omega, c3, yj, by omega, c4⟩
                  · rw [zz.2 c]
                    refine ⟨fun w => ff.1 ⟨?_, w.2⟩, fun w => ff.2 (fun u => w ⟨by omega, u.2⟩)⟩
                    rcases w.1 with w1 | w1
                    · exact Or.inl w1
                    · by_cases cj : j2 = j
                      · obtain ⟨w3, w4⟩ := w1
                        have w2 := w.2
                        subst w3 cj
                        exact absurd ⟨rfl, rfl, w2.2.2.1, w2.2.2.2.2.2⟩ c
                      · exact Or.inr ⟨w1.1, by omega⟩
              have oth : ¬(b i = b x ∧ b2 j = b2 y) → Rm_compare_W Q 255 [zR 104, zI (x : Int), zI (y : Int), zI (b x : Int), zI (b2 y : Int), zI (i : Int), zI (j : Int), zI ((i : Int) * 16 + j), zI (min (Y 118 ((i : Int) * 16 + j + 16)) (Y 118 ((i : Int) * 16 + j + 1)) + 2), zT] [] G Y := fun ne => by
                have tv : Y 117 ((i : Int) * 16 + j) = zTd X0 b b2 i j := by
                  rw [(f5 i j (by omega) (by omega)).2 (fun w => ne ⟨w.2.2.2.1, w.2.2.2.2.2.2⟩)]
                  exact ht i j xi (by omega) yj (by omega) ne
                have rv := f2 (b i) (b2 j) (by omega) bi (by omega) bj
                have lr := le (b i) (b2 j)
                have lt2 : zTd X0 b b2 i j ≤ 60 := by
                  have z := zd_le _ (zLs (zGl2 X0 105 b) i (b i - i)) (zLs (zGl2 X0 111 b2) j (b2 j - j)) (Nat.le_refl _)
                  rw [zLs_len, zLs_len] at z
                  unfold zTd
                  omega
                refine Rm_compare_f255 hG ?_
                rw [g1, g2, tv, rv, v1, v2]
                refine ⟨by omega, by omega, zw_id (by omega) (by omega), by omega, by omega, zw_id (by omega) (by omega), by omega, by omega, by omega, by omega, zw_id (by omega) (by omega), ?_⟩
                refine nx Y _ ?_ (fun _ _ => rfl) (fun i2 j2 _ _ => ⟨fun w => absurd ⟨w.2.2.1, w.2.2.2⟩ ne, fun _ => rfl⟩)
                have s2 := st.2
                unfold zRd zTd
                omega
              refine Rm_compare_f144 hG ⟨fun z => absurd z (by omega), fun _ => ⟨zw_id (by omega) (by omega), zw_id (by omega) (by omega), zw_id (by omega) (by omega), by omega, by omega, zw_id (by omega) (by omega), by omega, by omega, by rw [v1, v2]; exact zw_id (by omega) (by omega), by omega, by omega, ?_, ?_⟩⟩
              · rw [g1]
                intro ei
                refine ⟨by omega, by omega, ?_, ?_⟩
                · rw [g2]
                  intro ej
                  have s1 := st.1 ⟨by omega, by omega⟩
                  refine ⟨zw_id (by omega) (by omega), by omega, by omega, swap_D hG (by omega) (by omega) ⟨_, rfl, ?_⟩⟩
                  have cl : zch (Y 106 i, Y 107 i) (Y 112 j, Y 113 j) ≤ 4 := by
                    unfold zch
                    split <;> split <;> omega
                  have ce : zch (Y 106 i, Y 107 i) (Y 112 j, Y 113 j) = zch (zGl2 X0 105 b i).2 (zGl2 X0 111 b2 j).2 := by
                    rw [f1 106 (by omega) (by omega), f1 107 (by omega) (by omega), f1 112 (by omega) (by omega), f1 113 (by omega) (by omega)]
                    rfl
                  rw [v1, v2, v3]
                  refine ⟨zw_id (by omega) (by omega), fun r5 e5 => ⟨by omega, by omega, ?_⟩⟩
                  have e5b : r5 = zRd X0 b b2 (b x) (b2 y) i j := by
                    rw [e5, ce]
                    unfold zRd
                    omega
                  refine nx _ _ e5b (fun c c1 => zrd_r c1) (fun i2 j2 i0 j0 => ⟨fun w => ?_, fun w => ?_⟩)
                  · obtain ⟨rfl, rfl, w3, w4⟩ := w
                    rw [zrd_s, e5b]
                    unfold zRd zTd
                    rw [w3, w4]
                  · exact zrd_n (by omega)
                · rw [g2]
                  exact fun ej => oth (fun w => ej (by omega))
              · rw [g1]
                exact fun ei => oth (fun w => ei (by omega))
            · exact Rm_compare_f144 hG ⟨fun _ => done Y f1 f2 f3 (fun j2 j0 j1 => f4 j2 (by omega) j1) (fun i2 j2 i0 j0 => ⟨fun z => (f5 i2 j2 i0 j0).1 ⟨by omega, z.2⟩, fun z => (f5 i2 j2 i0 j0).2 (fun w => z ⟨by omega, w.2⟩)⟩), fun z => absurd z (by omega)⟩
        refine row (b2 y) X (by omega) (by omega) fr (fun i2 j i0 i3 j0 j3 => rw1 i2 j i0 i3 j0 j3) rw2 (fun j j0 j1 => ?_) (fun i2 j i0 j0 => ⟨fun z => (t1 i2 j i0 j0).1 ⟨by omega, z.2⟩, fun z => (t1 i2 j i0 j0).2 (fun w => z ⟨Or.inl w.1, w.2⟩)⟩)
        rw [show j = b2 y by omega]
        exact rw2 i xi (by omega)
      · refine Rm_compare_f132 hG ⟨fun _ => q X fr (fun i2 j i0 j0 => ⟨fun z => (t1 i2 j i0 j0).1 ⟨by omega, z.1, z.2⟩, fun z => (t1 i2 j i0 j0).2 (fun y => z ⟨y.2.1, y.2.2⟩)⟩), fun z => absurd z (by omega)⟩
  -- the borders
  have zc0 : ∀ i, i < b x → zRd X0 b b2 (b x) (b2 y) i (b2 y) = 2 + zRd X0 b b2 (b x) (b2 y) (i + 1) (b2 y) := fun i hi => by
    unfold zRd
    rw [Nat.sub_self, show b x - i = (b x - (i + 1)) + 1 by omega]
    exact zd_c0 _ _
  have z0c : ∀ j, j < b2 y → zRd X0 b b2 (b x) (b2 y) (b x) j = 2 + zRd X0 b b2 (b x) (b2 y) (b x) (j + 1) := fun j hj => by
    unfold zRd
    rw [Nat.sub_self, show b2 y - j = (b2 y - (j + 1)) + 1 by omega]
    exact zd_0c _ _
  have z00 : zRd X0 b b2 (b x) (b2 y) (b x) (b2 y) = 0 := by
    unfold zRd
    rw [Nat.sub_self, Nat.sub_self]
    rfl
  have lb2 : ∀ (jj : Nat) (X : zX), y ≤ jj → jj ≤ b2 y → (∀ c : Int, c ≠ 118 → X c = X0 c) → (∀ i : Nat, x ≤ i → i ≤ b x → X 118 ((i : Int) * 16 + b2 y) = zRd X0 b b2 (b x) (b2 y) i (b2 y)) → (∀ j : Nat, jj ≤ j → j ≤ b2 y → X 118 ((b x : Int) * 16 + j) = zRd X0 b b2 (b x) (b2 y) (b x) j) → Rm_compare_W Q 87 [zR 104, zI (x : Int), zI (y : Int), zI (b x : Int), zI (b2 y : Int), zI ((jj : Int) - 1), zT, zT, zT, zT] [] G X := by
    intro jj
    have fin : ∀ X : zX, (∀ c : Int, c ≠ 118 → X c = X0 c) → (∀ i : Nat, x ≤ i → i ≤ b x → X 118 ((i : Int) * 16 + b2 y) = zRd X0 b b2 (b x) (b2 y) i (b2 y)) → (∀ j : Nat, y ≤ j → j ≤ b2 y → X 118 ((b x : Int) * 16 + j) = zRd X0 b b2 (b x) (b2 y) (b x) j) → zw ((b x : Int) - 1) = (b x : Int) - 1 ∧ Rm_compare_W Q 132 [zR 104, zI (x : Int), zI (y : Int), zI (b x : Int), zI (b2 y : Int), zI ((b x : Int) - 1), zT, zT, zT, zT] [] G X := fun X f1 f2 f3 =>
      ⟨zw_id (by omega) (by omega), main (b x) X (by omega) (Nat.le_refl _) (fun c _ c2 => f1 c c2) (fun i j i0 i1 j0 j1 => by rw [show i = b x by omega]; exact f3 j j0 j1) f2 (fun i j _ _ => ⟨fun z => absurd z (by omega), fun _ => by rw [f1 117 (by omega)]⟩)⟩
    induction jj with
    | zero =>
      intro X c1 c2 f1 f2 f3
      exact Rm_compare_f87 hG ⟨fun _ => fin X f1 f2 (fun j j0 j1 => f3 j (by omega) j1), fun z => absurd z (by omega)⟩
    | succ j ih =>
      intro X c1 c2 f1 f2 f3
      rw [show ((j + 1 : Nat) : Int) - 1 = j by omega]
      by_cases yj : y ≤ j
      · have v := f3 (j + 1) (by omega) (by omega)
        rw [show (b x : Int) * 16 + ((j + 1 : Nat) : Int) = (b x : Int) * 16 + j + 1 by omega] at v
        have l1 := le (b x) (j + 1)
        have zz := z0c j (by omega)
        refine Rm_compare_f87 hG ⟨fun z => absurd z (by omega), fun _ => ?_⟩
        rw [v]
        refine ⟨zw_id (by omega) (by omega), zw_id (by omega) (by omega), zw_id (by omega) (by omega), by omega, by omega, zw_id (by omega) (by omega), by omega, by omega, by rw [zw_id (by omega) (by omega)]; omega, ih _ yj (by omega) (fun c c2 => by rw [zrd_r c2]; exact f1 c c2) (fun i i0 i1 => ?_) (fun j2 j0 j1 => ?_)⟩
        · rw [zrd_n (by omega)]
          exact f2 i i0 i1
        · by_cases c : j2 = j
          · rw [c, zrd_s]
            omega
          · rw [zrd_n (by omega)]
            exact f3 j2 (by omega) j1
      · exact Rm_compare_f87 hG ⟨fun _ => fin X f1 f2 (fun j2 j0 j1 => f3 j2 (by omega) j1), fun z => absurd z (by omega)⟩
  have lb1 : ∀ (ii : Nat) (X : zX), x ≤ ii → ii ≤ b x → (∀ c : Int, c ≠ 118 → X c = X0 c) → (∀ i : Nat, ii ≤ i → i ≤ b x → X 118 ((i : Int) * 16 + b2 y) = zRd X0 b b2 (b x) (b2 y) i (b2 y)) → Rm_compare_W Q 39 [zR 104, zI (x : Int), zI (y : Int), zI (b x : Int), zI (b2 y : Int), zI ((ii : Int) - 1), zT, zT, zT, zT] [] G X := by
    intro ii
    have fin : ∀ X : zX, (∀ c : Int, c ≠ 118 → X c = X0 c) → (∀ i : Nat, x ≤ i → i ≤ b x → X 118 ((i : Int) * 16 + b2 y) = zRd X0 b b2 (b x) (b2 y) i (b2 y)) → zw ((b2 y : Int) - 1) = (b2 y : Int) - 1 ∧ Rm_compare_W Q 87 [zR 104, zI (x : Int), zI (y : Int), zI (b x : Int), zI (b2 y : Int), zI ((b2 y : Int) - 1), zT, zT, zT, zT] [] G X := fun X f1 f2 =>
      ⟨zw_id (by omega) (by omega), lb2 (b2 y) X (by omega) (Nat.le_refl _) f1 f2 (fun j j0 j1 => by rw [show j = b2 y by omega]; exact f2 (b x) (by omega) (Nat.le_refl _))⟩
    induction ii with
    | zero =>
      intro X c1 c2 f1 f2
      exact Rm_compare_f39 hG ⟨fun _ => fin X f1 (fun i i0 i1 => f2 i (by omega) i1), fun z => absurd z (by omega)⟩
    | succ i ih =>
      intro X c1 c2 f1 f2
      rw [show ((i + 1 : Nat) : Int) - 1 = i by omega]
      by_cases xi : x ≤ i
      · have v := f2 (i + 1) (by omega) (by omega)
        rw [show ((i + 1 : Nat) : Int) * 16 + (b2 y : Int) = ((i : Int) + 1) * 16 + b2 y by omega] at v
        have l1 := le (i + 1) (b2 y)
        have zz := zc0 i (by omega)
        refine Rm_compare_f39 hG ⟨fun z => absurd z (by omega), fun _ => ?_⟩
        rw [v]
        refine ⟨zw_id (by omega) (by omega), zw_id (by omega) (by omega), zw_id (by omega) (by omega), zw_id (by omega) (by omega), zw_id (by omega) (by omega), by omega, by omega, zw_id (by omega) (by omega), by omega, by omega, by rw [zw_id (by omega) (by omega)]; omega, ih _ xi (by omega) (fun c c2 => by rw [zrd_r c2]; exact f1 c c2) (fun i2 i0 i1 => ?_)⟩
        by_cases c : i2 = i
        · rw [c, zrd_s]
          omega
        · rw [zrd_n (by omega)]
          exact f2 i2 (by omega) i1
      · exact Rm_compare_f39 hG ⟨fun _ => fin X f1 (fun i2 i0 i1 => f2 i2 (by omega) i1), fun z => absurd z (by omega)⟩
  refine Rm_compare_f0 hG ?_
  rw [gx, gy]
  refine ⟨by omega, by omega, by omega, by omega, zw_id (by omega) (by omega), zw_id (by omega) (by omega), by omega, by omega, zw_id (by omega) (by omega), ?_⟩
  refine lb1 (b x) _ (by omega) (Nat.le_refl _) (fun c c2 => zrd_r c2) (fun i i0 i1 => ?_)
  rw [show i = b x by omega, zrd_s, z00]
  rfl
