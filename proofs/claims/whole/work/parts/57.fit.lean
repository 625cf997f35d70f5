/-! ===== fit: the least row of MARKS ===== -/
theorem zAq_in {w : Int → Int} (hw : ∀ j : Int, 0 ≤ j → j < 8 → 0 ≤ w j ∧ w j ≤ 99) : ∀ F : zFo, (∀ x, x ∈ F → 0 ≤ x.2.1 ∧ x.2.1 ≤ 7) → 0 ≤ zAq w F ∧ zAq w F ≤ 99 * (F.length : Int)
  | [], _ => by
    show (0 : Int) ≤ 0 ∧ (0 : Int) ≤ 99 * ((0 : Nat) : Int)
    omega
  | a :: F, h => by
    have z := zAq_in hw F (fun x hx => h x (List.mem_cons_of_mem _ hx))
    have k := h a (List.mem_cons_self ..)
    have y := hw a.2.1 k.1 (by omega)
    show 0 ≤ w a.2.1 + zAq w F ∧ w a.2.1 + zAq w F ≤ 99 * ((F.length + 1 : Nat) : Int)
    omega
/-! what depends on the told cells alone -/
theorem zSee_b {X X2 : zX} {p land day : Int} (w : zWb X X2) (p0 : 0 ≤ p) (p1 : p < 10) : zSee X2 p land day = zSee X p land day := by
  unfold zSee
  rw [w (55 + 5 * p) (by omega), w (54 + 5 * p) (by omega)]
theorem zSeH_b {X X2 : zX} {p k land day : Int} (w : zWb X X2) (p0 : 0 ≤ p) (p1 : p < 5) (k0 : 0 ≤ k) (k1 : k < 2) : zSeH X2 p k land day = zSeH X p k land day := by
  unfold zSeH
  rw [w (26 + 6 * p + 2 * k) (by omega), w (25 + 6 * p + 2 * k) (by omega)]
theorem zLk_b {X X2 : zX} {F : zFo} {p land day than : Int} (w : zWb X X2) (p0 : 0 ≤ p) (p1 : p < 5) : ∀ k : Nat, k ≤ 2 → zLk X2 F p land day than k = zLk X F p land day than k
  | 0, _ => rfl
  | k + 1, hk => by
    show min (zLk X2 F p land day than k) ((zd F (zSeH X2 p k land day) : Nat) : Int) = min (zLk X F p land day than k) ((zd F (zSeH X p k land day) : Nat) : Int)
    rw [zLk_b w p0 p1 k (by omega), zSeH_b w p0 p1 (by omega) (by omega)]
theorem zLh_b {X X2 : zX} {F : zFo} {land day h : Int} (hX : zRT X 1 0) (w : zWb X X2) (h0 : 0 ≤ h) (h1 : h < 5) : zLh X2 F land day h = zLh X F land day h := by
  have ow := q_own hX h0 h1
  unfold zLh
  rw [w (23 + 6 * h) (by omega), zLk_b w h0 h1 _ (by omega)]
theorem zLi_b {X X2 : zX} {F : zFo} {land day : Int} (hX : zRT X 1 0) (w : zWb X X2) : ∀ h : Nat, h ≤ 5 → zLi X2 F land day h = zLi X F land day h
  | 0, _ => rfl
  | h + 1, hh => by
    have z := zLi_b (F := F) (land := land) (day := day) hX w h (by omega)
    have y := zLh_b (F := F) (land := land) (day := day) (h := h) hX w (by omega) (by omega)
    show (if (zLi X2 F land day h).1 = -1 ∨ zLh X2 F land day h < (zLi X2 F land day h).2 then ((h : Int), zLh X2 F land day h) else zLi X2 F land day h) = (if (zLi X F land day h).1 = -1 ∨ zLh X F land day h < (zLi X F land day h).2 then ((h : Int), zLh X F land day h) else zLi X F land day h)
    rw [z, y]
theorem zEw_b {X Y : zX} (w : zWb X Y) (like b : Int) : zEw Y like b = zEw X like b := by
  unfold zEw zEqn
  rw [w 140 (by omega)]
theorem zNv_b {G : zG} {X Y : zX} {r b : Int} (w : zWb X Y) (h : zNv G X r b) : zNv G Y r b := by
  have h3 := h.1
  have h4 := h.2.2.1
  unfold zNv at h ⊢
  rw [w r (by omega), w (zrx G r 0) (by omega), w 140 (by omega)]
  exact h
theorem zNas_b {G : zG} {X Y : zX} {r b : Int} (w : zWb X Y) (h : zNas G X r b) : zNas G Y r b := by
  rcases h with h | h
  · exact Or.inl ⟨h.1, by rw [w 140 (by omega)]; exact h.2⟩
  · exact Or.inr (zNv_b w h)
theorem zNm2_b {G : zG} {X Y : zX} (w : zWb X Y) (h : zNm2 G X 1 0) : zNm2 G Y 1 0 := by
  refine ⟨fun p p0 p1 => zNas_b w (h.1 p p0 p1), fun p p0 p1 => ?_⟩
  rw [w 1 (by omega)] at p1
  exact zNv_b w (h.2 p p0 p1)
abbrev zCry (L A D : Int → Int) (a b c k : Int) : Prop := L k ≤ a ∧ b ≤ A k ∧ D k ≤ c
def zMis (L A D P : Int → Int) (a b c : Int) : Nat → Int
  | 0 => 0
  | k + 1 => zMis L A D P a b c k + (if P k ≠ 0 ∧ ¬zCry L A D a b c k then 1 else 0)
def zHon (L A D P : Int → Int) (a b c : Int) : Nat → Int
  | 0 => 0
  | k + 1 => zHon L A D P a b c k + (if P k = 0 ∧ zCry L A D a b c k then 1 else 0)
theorem zIf {p q : Prop} [Decidable p] [Decidable q] (h : p ↔ q) : (if p then (1 : Int) else 0) = (if q then 1 else 0) := by
  by_cases c : p
  · rw [if_pos c, if_pos (h.1 c)]
  · rw [if_neg c, if_neg (fun z => c (h.2 z))]
theorem zMis_c {L A D P L2 A2 D2 P2 : Int → Int} {a b c a2 b2 c2 : Int} : ∀ n : Nat, (∀ k : Nat, k < n → (zCry L A D a b c k ↔ zCry L2 A2 D2 a2 b2 c2 k) ∧ (P k = 0 ↔ P2 k = 0)) → zMis L A D P a b c n = zMis L2 A2 D2 P2 a2 b2 c2 n ∧ zHon L A D P a b c n = zHon L2 A2 D2 P2 a2 b2 c2 n
  | 0, _ => ⟨rfl, rfl⟩
  | n + 1, h => by
    have z := zMis_c n (fun k hk => h k (by omega))
    have e := h n (by omega)
    have m1 : (P n ≠ 0 ∧ ¬zCry L A D a b c n) ↔ (P2 n ≠ 0 ∧ ¬zCry L2 A2 D2 a2 b2 c2 n) := ⟨fun y => ⟨fun w => y.1 (e.2.2 w), fun w => y.2 (e.1.2 w)⟩, fun y => ⟨fun w => y.1 (e.2.1 w), fun w => y.2 (e.1.1 w)⟩⟩
    have m2 : (P n = 0 ∧ zCry L A D a b c n) ↔ (P2 n = 0 ∧ zCry L2 A2 D2 a2 b2 c2 n) := ⟨fun y => ⟨e.2.1 y.1, e.1.1 y.2⟩, fun y => ⟨e.2.2 y.1, e.1.2 y.2⟩⟩
    refine ⟨?_, ?_⟩
    · show zMis L A D P a b c n + _ = zMis L2 A2 D2 P2 a2 b2 c2 n + _
      rw [z.1, zIf m1]
    · show zHon L A D P a b c n + _ = zHon L2 A2 D2 P2 a2 b2 c2 n + _
      rw [z.2, zIf m2]
theorem zMis_in {L A D P : Int → Int} {a b c : Int} : ∀ n : Nat, 0 ≤ zMis L A D P a b c n ∧ zMis L A D P a b c n ≤ n ∧ 0 ≤ zHon L A D P a b c n ∧ zHon L A D P a b c n ≤ n
  | 0 => by
    show (0 : Int) ≤ 0 ∧ (0 : Int) ≤ ((0 : Nat) : Int) ∧ (0 : Int) ≤ 0 ∧ (0 : Int) ≤ ((0 : Nat) : Int)
    omega
  | n + 1 => by
    have z := zMis_in (L := L) (A := A) (D := D) (P := P) (a := a) (b := b) (c := c) n
    have i1 : (if P n ≠ 0 ∧ ¬zCry L A D a b c n then (1 : Int) else 0) = 0 ∨ (if P n ≠ 0 ∧ ¬zCry L A D a b c n then (1 : Int) else 0) = 1 := by
      by_cases y : P n ≠ 0 ∧ ¬zCry L A D a b c n
      · exact Or.inr (if_pos y)
      · exact Or.inl (if_neg y)
    have i2 : (if P n = 0 ∧ zCry L A D a b c n then (1 : Int) else 0) = 0 ∨ (if P n = 0 ∧ zCry L A D a b c n then (1 : Int) else 0) = 1 := by
      by_cases y : P n = 0 ∧ zCry L A D a b c n
      · exact Or.inr (if_pos y)
      · exact Or.inl (if_neg y)
    show 0 ≤ zMis L A D P a b c n + _ ∧ zMis L A D P a b c n + _ ≤ ((n + 1 : Nat) : Int) ∧ 0 ≤ zHon L A D P a b c n + _ ∧ zHon L A D P a b c n + _ ≤ ((n + 1 : Nat) : Int)
    generalize (if P n ≠ 0 ∧ ¬zCry L A D a b c n then (1 : Int) else 0) = u at i1 ⊢
    generalize (if P n = 0 ∧ zCry L A D a b c n then (1 : Int) else 0) = v at i2 ⊢
    omega
/-- the five numbers in their order as one -/
def zSc (m h a b c : Int) : Int := (((m * 32 + h) * 64 + a) * 256 + b) * 128 + c
def zVf (L A D P : Int → Int) (n : Nat) (a b c _j : Int) : Int := zSc (zMis L A D P a b c n) (zHon L A D P a b c n) a b c
def zFlm (L A D P : Int → Int) (n : Nat) (H a b c j : Int) : Prop := 0 ≤ a ∧ a ≤ 60 ∧ 0 ≤ b ∧ b ≤ 200 ∧ 0 ≤ c ∧ c ≤ 99 ∧ j = 0 ∧ zHon L A D P a b c n ≤ H
def zTun (F : Int → Int) (n : Nat) (t : Int) : Prop := t = 0 ∨ ∃ k : Nat, k < n ∧ F k = t
def zCnd (L A D P : Int → Int) (n : Nat) (H a b c j : Int) : Prop := zFlm L A D P n H a b c j ∧ zTun L n a ∧ zTun (fun t => A t + 1) n b ∧ zTun D n c
theorem zFlo {T : Int → Prop} (h0 : T 0) : ∀ a : Nat, ∃ t : Int, 0 ≤ t ∧ t ≤ a ∧ T t ∧ ∀ u : Int, t < u → u ≤ a → ¬T u
  | 0 => ⟨0, by omega, by omega, h0, fun u a b => absurd b (by omega)⟩
  | a + 1 => by
    obtain ⟨t, t0, t1, t2, t3⟩ := zFlo h0 a
    by_cases c : T ((a + 1 : Nat) : Int)
    · exact ⟨_, by omega, Int.le_refl _, c, fun u x y => absurd y (by omega)⟩
    · refine ⟨t, t0, by omega, t2, fun u x y => ?_⟩
      by_cases e : u = ((a + 1 : Nat) : Int)
      · rw [e]
        exact c
      · exact t3 u x (by omega)
theorem zMnS_d {V : Int → Int → Int → Int → Int} {r : Int} {S S2 : Int → Int → Int → Int → Prop} (h1 : zMnS V r S) (sub : ∀ h i g j : Int, S h i g j → S2 h i g j) (dom : ∀ h i g j : Int, S2 h i g j → ∃ h2 i2 g2 j2 : Int, S h2 i2 g2 j2 ∧ V h2 i2 g2 j2 ≤ V h i g j) : zMnS V r S2 := by
  rcases h1 with ⟨a, b⟩ | ⟨⟨h, i, g, j, s, v⟩, b⟩
  · refine Or.inl ⟨a, fun h i g j s => ?_⟩
    obtain ⟨h2, i2, g2, j2, s2, _⟩ := dom h i g j s
    exact b h2 i2 g2 j2 s2
  · refine Or.inr ⟨⟨h, i, g, j, sub h i g j s, v⟩, fun h i g j s => ?_⟩
    obtain ⟨h2, i2, g2, j2, s2, l⟩ := dom h i g j s
    have := b h2 i2 g2 j2 s2
    omega
theorem zMnS_v {V V2 : Int → Int → Int → Int → Int} {r : Int} {S : Int → Int → Int → Int → Prop} (h1 : zMnS V r S) (e : ∀ h i g j : Int, S h i g j → V2 h i g j = V h i g j) : zMnS V2 r S := by
  rcases h1 with ⟨a, b⟩ | ⟨⟨h, i, g, j, s, v⟩, b⟩
  · exact Or.inl ⟨a, b⟩
  · refine Or.inr ⟨⟨h, i, g, j, s, (e h i g j s).trans v⟩, fun h i g j s => ?_⟩
    rw [e h i g j s]
    exact b h i g j s
theorem zCnd_full {L A D P : Int → Int} {n : Nat} {H r : Int} (hb : ∀ k : Nat, k < n → 0 ≤ L k ∧ 0 ≤ A k ∧ 0 ≤ D k) (m : zMnS (zVf L A D P n) r (zCnd L A D P n H)) : zMnS (zVf L A D P n) r (zFlm L A D P n H) := by
  refine zMnS_d m (fun _ _ _ _ s => s.1) (fun a b c j s => ?_)
  obtain ⟨a0, a1, b0, b1, c0, c1, j0, hh⟩ := s
  obtain ⟨x, x0, x1, x2, x3⟩ := zFlo (T := zTun L n) (Or.inl rfl) a.toNat
  obtain ⟨y, y0, y1, y2, y3⟩ := zFlo (T := zTun (fun t => A t + 1) n) (Or.inl rfl) b.toNat
  obtain ⟨z, z0, z1, z2, z3⟩ := zFlo (T := zTun D n) (Or.inl rfl) c.toNat
  have cy : ∀ k : Nat, k < n → (zCry L A D x y z k ↔ zCry L A D a b c k) := fun k hk => by
    have h1 := hb k hk
    constructor
    · intro q
      obtain ⟨q1, q2, q3⟩ := q
      refine ⟨by omega, ?_, by omega⟩
      by_cases e : b ≤ A k
      · exact e
      · exact absurd (Or.inr ⟨k, hk, rfl⟩) (y3 (A k + 1) (by omega) (by omega))
    · intro q
      obtain ⟨q1, q2, q3⟩ := q
      refine ⟨?_, by omega, ?_⟩
      · by_cases e : L k ≤ x
        · exact e
        · exact absurd (Or.inr ⟨k, hk, rfl⟩) (x3 (L k) (by omega) (by omega))
      · by_cases e : D k ≤ z
        · exact e
        · exact absurd (Or.inr ⟨k, hk, rfl⟩) (z3 (D k) (by omega) (by omega))
  have e := zMis_c (P := P) (P2 := P) n (fun k hk => ⟨cy k hk, Iff.rfl⟩)
  refine ⟨x, y, z, 0, ⟨⟨x0, by omega, y0, by omega, z0, by omega, rfl, by rw [e.2]; exact hh⟩, x2, y2, z2⟩, ?_⟩
  unfold zVf zSc
  rw [e.1, e.2]
  omega
theorem zFlm_t {L A D P L2 A2 D2 P2 : Int → Int} {n : Nat} {H r : Int} (e : ∀ a b c : Int, a ≤ 60 → c ≤ 99 → ∀ k : Nat, k < n → (zCry L A D a b c k ↔ zCry L2 A2 D2 a b c k) ∧ (P k = 0 ↔ P2 k = 0)) (m : zMnS (zVf L A D P n) r (zFlm L A D P n H)) : zMnS (zVf L2 A2 D2 P2 n) r (zFlm L2 A2 D2 P2 n H) := by
  refine zMnS_c (zMnS_v m (fun a b c j s => ?_)) (fun a b c j => ⟨fun s => ?_, fun s => ?_⟩)
  · have z := zMis_c n (e a b c s.2.1 s.2.2.2.2.2.1)
    unfold zVf
    rw [z.1, z.2]
  · have z := zMis_c n (e a b c s.2.1 s.2.2.2.2.2.1)
    obtain ⟨a0, a1, b0, b1, c0, c1, j0, hh⟩ := s
    exact ⟨a0, a1, b0, b1, c0, c1, j0, by rw [← z.2]; exact hh⟩
  · have z := zMis_c n (e a b c s.2.1 s.2.2.2.2.2.1)
    obtain ⟨a0, a1, b0, b1, c0, c1, j0, hh⟩ := s
    exact ⟨a0, a1, b0, b1, c0, c1, j0, by rw [z.2]; exact hh⟩
theorem zVf_pos (L A D P : Int → Int) (n : Nat) (a b c j : Int) (a0 : 0 ≤ a) (b0 : 0 ≤ b) (c0 : 0 ≤ c) : 0 ≤ zVf L A D P n a b c j := by
  have z := zMis_in (L := L) (A := A) (D := D) (P := P) (a := a) (b := b) (c := c) n
  unfold zVf zSc
  omega
/-- one more, or none -/
theorem zMnS_1 {V : Int → Int → Int → Int → Int} {r r2 a b c : Int} {S S2 : Int → Int → Int → Int → Prop} {T : Prop} (h1 : zMnS V r S) (hv : ∀ x y z w : Int, S x y z w → 0 ≤ V x y z w) (hv2 : 0 ≤ V a b c 0) (e : ∀ x y z w : Int, S2 x y z w ↔ (S x y z w ∨ (T ∧ x = a ∧ y = b ∧ z = c ∧ w = 0))) (er : (T ∧ (r = -1 ∨ V a b c 0 < r) → r2 = V a b c 0) ∧ (¬(T ∧ (r = -1 ∨ V a b c 0 < r)) → r2 = r)) : zMnS V r2 S2 := by
  by_cases t : T
  · refine Or.inr ?_
    rcases h1 with ⟨q, w⟩ | ⟨⟨x, y, z, w, s, v⟩, q⟩
    · have e1 := er.1 ⟨t, Or.inl q⟩
      refine ⟨⟨a, b, c, 0, (e a b c 0).2 (Or.inr ⟨t, rfl, rfl, rfl, rfl⟩), e1.symm⟩, fun x y z u s => ?_⟩
      rcases (e x y z u).1 s with s | ⟨_, rfl, rfl, rfl, rfl⟩
      · exact absurd s (w x y z u)
      · omega
    · have p := hv x y z w s
      by_cases c2 : V a b c 0 < r
      · have e1 := er.1 ⟨t, Or.inr c2⟩
        refine ⟨⟨a, b, c, 0, (e a b c 0).2 (Or.inr ⟨t, rfl, rfl, rfl, rfl⟩), e1.symm⟩, fun x y z u s => ?_⟩
        rcases (e x y z u).1 s with s | ⟨_, rfl, rfl, rfl, rfl⟩
        · have := q x y z u s
          omega
        · omega
      · have e1 := er.2 (fun n => by rcases n.2 with n | n <;> omega)
        refine ⟨⟨x, y, z, w, (e x y z w).2 (Or.inl s), by omega⟩, fun x y z u s => ?_⟩
        rcases (e x y z u).1 s with s | ⟨_, rfl, rfl, rfl, rfl⟩
        · have := q x y z u s
          omega
        · omega
  · have e1 := er.2 (fun n => t n.1)
    rw [e1]
    exact zMnS_c h1 (fun x y z w => ⟨fun s => (e x y z w).2 (Or.inl s), fun s => by
      rcases (e x y z w).1 s with s | s
      · exact s
      · exact absurd s.1 t⟩)
/-! the class's side -/
theorem clearTurns_D {Q : List zV → zX → Prop} {G : zG} {X : zX} {a1 : Int} (hG : SH G) (hk : zk0 a1 = 52) (hl : 0 ≤ zl0 a1 ∧ zl0 a1 ≤ 300) (q : ∀ X2 : zX, (∀ b : Int, b ≠ a1 → X2 b = X b) → (∀ t : Int, 0 ≤ t → t < zl0 a1 → (X2 a1 t ≠ 0 ↔ t = 0)) → Q [] X2) : Be_clearTurns [zR 122, zR a1] G X Q := by
  have lp : ∀ (d : Nat) (k : Int) (Y : zX), k + d = zl0 a1 → 0 ≤ k → (∀ b : Int, b ≠ a1 → Y b = X b) → (∀ t : Int, 0 ≤ t → t < k → (Y a1 t ≠ 0 ↔ t = 0)) → Be_clearTurns_W Q 2 [zT, zR a1, zI k] [] G Y := by
    intro d
    induction d with
    | zero =>
      intro k Y e k0 f t
      exact Be_clearTurns_f2 hG hk ⟨fun z => absurd z (by omega), fun _ => q Y f (fun u u0 u1 => t u u0 (by omega))⟩
    | succ d ih =>
      intro k Y e k0 f t
      have go : ∀ v : Int, (v = 0 ∨ v = 1) → (v ≠ 0 ↔ k = 0) → Be_clearTurns_W Q 19 [zT, zR a1, zI k] [zI v, zI k, zR a1] G Y := fun v v01 ev => by
        refine Be_clearTurns_f19 hG hk hk ⟨k0, by omega, v01, zw_id (by omega) (by omega), ih (k + 1) _ (by omega) (by omega) (fun b hb => by rw [zrd_r hb]; exact f b hb) (fun u u0 u1 => ?_)⟩
        by_cases c : u = k
        · rw [c, zrd_s]
          exact ev
        · rw [zrd_n (by omega)]
          exact t u u0 (by omega)
      exact Be_clearTurns_f2 hG hk ⟨fun _ => ⟨fun z => go 1 (by omega) (by omega), fun z => go 0 (by omega) (by omega)⟩, fun z => absurd z (by omega)⟩
  exact Be_clearTurns_f0 hG hk (lp (zl0 a1).toNat 0 X (by omega) (by omega) (fun _ _ => rfl) (fun t t0 t1 => absurd t1 (by omega)))
def zBe (Y : zX) (n : Nat) (L A D P : Int → Int) : Prop := Y 122 7 = n ∧ (∀ k : Nat, k < n → Y 123 k = L k ∧ Y 124 k = A k ∧ Y 125 k = D k ∧ Y 126 k = P k) ∧ (∀ t : Int, 0 ≤ t → t < 61 → (Y 127 t ≠ 0 ↔ zTun L n t)) ∧ (∀ t : Int, 0 ≤ t → t < 201 → (Y 128 t ≠ 0 ↔ zTun (fun t => A t + 1) n t)) ∧ (∀ t : Int, 0 ≤ t → t < 100 → (Y 129 t ≠ 0 ↔ zTun D n t))
theorem zBe_c {Y Z : zX} {n : Nat} {L A D P : Int → Int} (h : zBe Y n L A D P) (e7 : Z 122 7 = Y 122 7) (e : ∀ b : Int, 123 ≤ b → b ≤ 129 → Z b = Y b) : zBe Z n L A D P := by
  unfold zBe at h ⊢
  rw [e7, e 123 (by omega) (by omega), e 124 (by omega) (by omega), e 125 (by omega) (by omega), e 126 (by omega) (by omega), e 127 (by omega) (by omega), e 128 (by omega) (by omega), e 129 (by omega) (by omega)]
  exact h
theorem clear_D {Q : List zV → zX → Prop} {G : zG} {X : zX} {L A D P : Int → Int} (hG : SH G) (q : ∀ X2 : zX, zWb X X2 → zBe X2 0 L A D P → Q [] X2) : Be_clear [zR 122] G X Q := by
  have l127 : zl0 127 = 61 := by decide +kernel
  have l128 : zl0 128 = 201 := by decide +kernel
  have l129 : zl0 129 = 100 := by decide +kernel
  refine Be_clear_f0 hG (clearTurns_D hG (by decide +kernel) (by rw [l127]; omega) (fun X1 f1 t1 => ⟨rfl, clearTurns_D hG (by decide +kernel) (by rw [l128]; omega) (fun X2 f2 t2 => ⟨rfl, clearTurns_D hG (by decide +kernel) (by rw [l129]; omega) (fun X3 f3 t3 => ⟨rfl, ?_⟩)⟩)⟩))
  rw [l127] at t1
  rw [l128] at t2
  rw [l129] at t3
  have none : ∀ (F : Int → Int) (t : Int), (t = 0 ↔ zTun F 0 t) := fun F t => ⟨Or.inl, fun z => by
    rcases z with z | ⟨k, hk, _⟩
    · exact z
    · exact absurd hk (Nat.not_lt_zero k)⟩
  refine q X3 (fun a ha => ?_) ⟨?_, fun k hk => absurd hk (Nat.not_lt_zero k), fun t t0 t1' => ?_, fun t t0 t1' => ?_, fun t t0 t1' => ?_⟩
  · rw [f3 a (by omega), f2 a (by omega), f1 a (by omega), zrd_r (by omega)]
  · rw [f3 122 (by omega), f2 122 (by omega), f1 122 (by omega), zrd_s]
    rfl
  · rw [f3 127 (by omega), f2 127 (by omega)]
    exact (t1 t t0 t1').trans (none L t)
  · rw [f3 128 (by omega)]
    exact (t2 t t0 t1').trans (none (fun t => A t + 1) t)
  · exact (t3 t t0 t1').trans (none D t)
theorem turnB_D {Q : List zV → zX → Prop} {G : zG} {X : zX} {a1 v : Int} (hG : SH G) (hk : zk0 a1 = 52) (q : ∀ X2 : zX, (∀ b : Int, b ≠ a1 → X2 b = X b) → (∀ t : Int, 0 ≤ t → t < zl0 a1 → (X2 a1 t ≠ 0 ↔ (X a1 t ≠ 0 ∨ t = v))) → Q [] X2) : Be_turn [zR 122, zR a1, zI v] G X Q := by
  refine Be_turn_f0 hG hk ⟨fun z => q X (fun _ _ => rfl) (fun t t0 t1 => by omega), fun z => ⟨fun lt => ⟨z, lt, q _ (fun b hb => zrd_r hb) (fun t t0 t1 => ?_)⟩, fun ge => q X (fun _ _ => rfl) (fun t t0 t1 => by omega)⟩⟩
  by_cases c : t = v
  · rw [c, zrd_s]
    omega
  · rw [zrd_n (by omega)]
    omega
theorem add_D {Q : List zV → zX → Prop} {G : zG} {X : zX} {n : Nat} {L A D P : Int → Int} (hG : SH G) (n16 : n < 16) (h : zBe X n L A D P) (hp : P n = 0 ∨ P n = 1) (ha : 0 ≤ A n ∧ A n ≤ 9999) (q : ∀ X2 : zX, zWb X X2 → zBe X2 (n + 1) L A D P → Q [] X2) : Be_add [zR 122, zI (L n), zI (A n), zI (D n), zI (P n)] G X Q := by
  obtain ⟨h7, hr, ta, tb, tc⟩ := h
  have l127 : zl0 127 = 61 := by decide +kernel
  have l128 : zl0 128 = 201 := by decide +kernel
  have l129 : zl0 129 = 100 := by decide +kernel
  have one : ∀ (F : Int → Int) (t : Int), (zTun F n t ∨ t = F n) ↔ zTun F (n + 1) t := fun F t => by
    constructor
    · intro z
      rcases z with (z | ⟨k, hk, e⟩) | z
      · exact Or.inl z
      · exact Or.inr ⟨k, by omega, e⟩
      · exact Or.inr ⟨n, by omega, z.symm⟩
    · intro z
      rcases z with z | ⟨k, hk, e⟩
      · exact Or.inl (Or.inl z)
      · by_cases c : k = n
        · rw [c] at e
          exact Or.inr e.symm
        · exact Or.inl (Or.inr ⟨k, by omega, e⟩)
  refine Be_add_f0 hG ?_
  (simp (disch := omega) only [zrd_q, zrd_n])
  rw [h7]
  refine ⟨fun _ => ⟨by omega, by omega, by omega, by omega, by omega, by omega, fun X1 e1 => ?_⟩, fun z => absurd z (by omega)⟩
  have x7 : X1 122 7 = n := by
    rw [e1]
    (simp (disch := omega) only [zrd_q, zrd_n])
    exact h7
  rw [x7]
  refine ⟨by omega, by omega, hp, zw_id (by omega) (by omega), turnB_D hG (by decide +kernel) (fun Y1 f1 t1 => ⟨rfl, zw_id (by omega) (by omega), turnB_D hG (by decide +kernel) (fun Y2 f2 t2 => ⟨rfl, turnB_D hG (by decide +kernel) (fun Y3 f3 t3 => ⟨rfl, ?_⟩)⟩)⟩)⟩
  rw [l127] at t1
  rw [l128] at t2
  rw [l129] at t3
  have b1 : ∀ b : Int, b < 122 ∨ 126 < b → zst (zst X1 126 n (P n)) 122 7 ((n : Int) + 1) b = X b := fun b hb => by
    rw [zrd_r (by omega), zrd_r (by omega), e1, zrd_r (by omega), zrd_r (by omega), zrd_r (by omega)]
  have up : ∀ b : Int, b < 127 → Y3 b = zst (zst X1 126 n (P n)) 122 7 ((n : Int) + 1) b := fun b hb => by rw [f3 b (by omega), f2 b (by omega), f1 b (by omega)]
  refine q Y3 (fun a ha => ?_) ⟨?_, fun k hk => ?_, fun t t0 tl => ?_, fun t t0 tl => ?_, fun t t0 tl => ?_⟩
  · rw [f3 a (by omega), f2 a (by omega), f1 a (by omega)]
    exact b1 a (by omega)
  · rw [up 122 (by omega), zrd_s]
    omega
  · rw [up 123 (by omega), up 124 (by omega), up 125 (by omega), up 126 (by omega), zrd_r (by omega : (123 : Int) ≠ 122), zrd_r (by omega : (124 : Int) ≠ 122), zrd_r (by omega : (125 : Int) ≠ 122), zrd_r (by omega : (126 : Int) ≠ 122), zrd_r (by omega : (123 : Int) ≠ 126), zrd_r (by omega : (124 : Int) ≠ 126), zrd_r (by omega : (125 : Int) ≠ 126), e1]
    by_cases c : k = n
    · rw [c]
      (simp (disch := omega) only [zrd_q, zrd_n])
      (repeat' (first | exact trivial | rfl | apply And.intro))
    · have z := hr k (by omega)
      rw [zrd_n (by omega), zrd_n (by omega), zrd_n (by omega), zrd_n (by omega), zrd_n (by omega), zrd_n (by omega), zrd_n (by omega), zrd_n (by omega), zrd_n (by omega), zrd_n (by omega), zrd_n (by omega), zrd_n (by omega), zrd_n (by omega)]
      exact z
  · rw [f3 127 (by omega), f2 127 (by omega)]
    refine (t1 t t0 tl).trans ?_
    rw [b1 127 (by omega), ta t t0 tl]
    exact one L t
  · rw [f3 128 (by omega)]
    refine (t2 t t0 tl).trans ?_
    rw [f1 128 (by omega), b1 128 (by omega), tb t t0 tl]
    exact one (fun t => A t + 1) t
  · refine (t3 t t0 tl).trans ?_
    rw [f2 129 (by omega), f1 129 (by omega), b1 129 (by omega), tc t t0 tl]
    exact one D t
/-- the best so far; its row comes before (a, b, c) -/
def zBr (Y : zX) (r a b c : Int) : Prop := (Y 122 8 = 0 ∧ r = -1) ∨ (Y 122 8 = 1 ∧ r = zSc (Y 122 12) (Y 122 13) (Y 122 9) (Y 122 10) (Y 122 11) ∧ 0 ≤ Y 122 12 ∧ Y 122 12 ≤ 16 ∧ 0 ≤ Y 122 13 ∧ Y 122 13 ≤ 16 ∧ 0 ≤ Y 122 9 ∧ Y 122 9 ≤ 60 ∧ 0 ≤ Y 122 10 ∧ Y 122 10 ≤ 200 ∧ 0 ≤ Y 122 11 ∧ Y 122 11 ≤ 99 ∧ (Y 122 9 < a ∨ (Y 122 9 = a ∧ (Y 122 10 < b ∨ (Y 122 10 = b ∧ Y 122 11 < c)))))
theorem zBr_m {Y : zX} {r a b c a2 b2 c2 : Int} (h : zBr Y r a b c) (l : ∀ x y z : Int, (x < a ∨ (x = a ∧ (y < b ∨ (y = b ∧ z < c)))) → (x < a2 ∨ (x = a2 ∧ (y < b2 ∨ (y = b2 ∧ z < c2))))) : zBr Y r a2 b2 c2 := by
  rcases h with h | ⟨h1, h2, h3, h4, h5, h6, h7, h8, h9, h10, h11, h12, h13⟩
  · exact Or.inl h
  · exact Or.inr ⟨h1, h2, h3, h4, h5, h6, h7, h8, h9, h10, h11, h12, l _ _ _ h13⟩
theorem zSc_pos {m h a b c : Int} (m0 : 0 ≤ m) (h0 : 0 ≤ h) (a0 : 0 ≤ a) (b0 : 0 ≤ b) (c0 : 0 ≤ c) : 0 ≤ zSc m h a b c := by
  unfold zSc
  omega
/-- a row that comes later is better only by fewer missed, or as many and fewer cried at -/
theorem zSc_lt {m h a b c m2 h2 a2 b2 c2 : Int} (bh : 0 ≤ h ∧ h ≤ 16) (ba : 0 ≤ a ∧ a ≤ 60) (bb : 0 ≤ b ∧ b ≤ 200) (bc : 0 ≤ c ∧ c ≤ 99) (bh2 : 0 ≤ h2 ∧ h2 ≤ 16) (ba2 : 0 ≤ a2 ∧ a2 ≤ 60) (bb2 : 0 ≤ b2 ∧ b2 ≤ 200) (bc2 : 0 ≤ c2 ∧ c2 ≤ 99) : zSc m h a b c < zSc m2 h2 a2 b2 c2 ↔ (m < m2 ∨ (m = m2 ∧ (h < h2 ∨ (h = h2 ∧ (a < a2 ∨ (a = a2 ∧ (b < b2 ∨ (b = b2 ∧ c < c2)))))))) := by
  unfold zSc
  constructor
  · intro z
    rcases Int.lt_trichotomy m m2 with x | x | x
    · exact Or.inl x
    · refine Or.inr ⟨x, ?_⟩
      rcases Int.lt_trichotomy h h2 with y | y | y
      · exact Or.inl y
      · refine Or.inr ⟨y, ?_⟩
        rcases Int.lt_trichotomy a a2 with w | w | w
        · exact Or.inl w
        · refine Or.inr ⟨w, ?_⟩
          rcases Int.lt_trichotomy b b2 with v | v | v
          · exact Or.inl v
          · exact Or.inr ⟨v, by omega⟩
          · omega
        · omega
      · omega
    · omega
  · intro z
    rcases z with z | ⟨z0, z | ⟨z1, z | ⟨z2, z | ⟨z3, z⟩⟩⟩⟩ <;> omega
theorem weigh_D {Q : List zV → zX → Prop} {G : zG} {X : zX} {n : Nat} {L A D P : Int → Int} {H a b c r : Int} (hG : SH G) (n16 : n ≤ 16) (h : zBe X n L A D P) (br : zBr X r a b c) (ba : 0 ≤ a ∧ a ≤ 60) (bb : 0 ≤ b ∧ b ≤ 200) (bc : 0 ≤ c ∧ c ≤ 99)
    (q : ∀ (X2 : zX) (r2 : Int), zWb X X2 → zBe X2 n L A D P → zBr X2 r2 a b (c + 1) → ((zHon L A D P a b c n ≤ H ∧ (r = -1 ∨ zVf L A D P n a b c 0 < r) → r2 = zVf L A D P n a b c 0) ∧ (¬(zHon L A D P a b c n ≤ H ∧ (r = -1 ∨ zVf L A D P n a b c 0 < r)) → r2 = r)) → Q [] X2) : Be_weigh [zR 122, zI H, zI a, zI b, zI c] G X Q := by
  have mi := zMis_in (L := L) (A := A) (D := D) (P := P) (a := a) (b := b) (c := c)
  have mn := mi n
  have brm : zBr X r a b (c + 1) := zBr_m br (fun x y z l => by omega)
  have f140 : ∀ s0 : Int, (s0 ≠ 0 ↔ (r = -1 ∨ zVf L A D P n a b c 0 < r)) → Be_weigh_W Q 140 [zR 122, zI H, zI a, zI b, zI c, zI (zMis L A D P a b c n), zI (zHon L A D P a b c n), zT, zT] [zI s0] G X := fun s0 es => by
    refine Be_weigh_f140 hG ⟨fun big => q X r (zWb_r X) h brm ⟨fun z => absurd z.1 (by omega), fun _ => rfl⟩, fun sm => ⟨fun z => q X r (zWb_r X) h brm ⟨fun z2 => absurd z (es.2 z2.2), fun _ => rfl⟩, fun nz X1 e1 => q X1 _ ?_ (zBe_c h ?_ (fun b' b0 b1 => ?_)) (Or.inr ?_) ⟨fun _ => rfl, fun z => absurd ⟨sm, es.1 nz⟩ z⟩⟩⟩
    · rw [e1]
      exact zWb_w (zWb_w (zWb_w (zWb_w (zWb_w (zWb_w (zWb_r X) (by omega)) (by omega)) (by omega)) (by omega)) (by omega)) (by omega)
    · rw [e1]
      (simp (disch := omega) only [zrd_q, zrd_n])
    · rw [e1, zrd_r (by omega), zrd_r (by omega), zrd_r (by omega), zrd_r (by omega), zrd_r (by omega), zrd_r (by omega)]
    · have r8 : X1 122 8 = 1 := by
        rw [e1]
        (simp (disch := omega) only [zrd_q, zrd_n])
      have r9 : X1 122 9 = a := by
        rw [e1]
        (simp (disch := omega) only [zrd_q, zrd_n])
      have r10 : X1 122 10 = b := by
        rw [e1]
        (simp (disch := omega) only [zrd_q, zrd_n])
      have r11 : X1 122 11 = c := by
        rw [e1]
        (simp (disch := omega) only [zrd_q, zrd_n])
      have r12 : X1 122 12 = zMis L A D P a b c n := by
        rw [e1]
        (simp (disch := omega) only [zrd_q, zrd_n])
      have r13 : X1 122 13 = zHon L A D P a b c n := by
        rw [e1]
        (simp (disch := omega) only [zrd_q, zrd_n])
      rw [r8, r9, r10, r11, r12, r13]
      exact ⟨rfl, rfl, mn.1, by omega, mn.2.2.1, by omega, ba.1, ba.2, bb.1, bb.2, bc.1, bc.2, by omega⟩
  have lp : ∀ (d k : Nat), k + d = n → Be_weigh_W Q 9 [zR 122, zI H, zI a, zI b, zI c, zI (zMis L A D P a b c k), zI (zHon L A D P a b c k), zI (k : Int), zT] [] G X := by
    intro d
    induction d with
    | zero =>
      intro k e
      have ek : k = n := by omega
      rw [ek]
      refine Be_weigh_f9 hG ?_
      rw [h.1]
      refine ⟨fun z => absurd z (by omega), fun _ => ?_⟩
      rcases br with ⟨b8, br1⟩ | ⟨b8, br1, b3, b4, b5, b6, b7, b9, b10, b11, b12, b13, b14⟩
      · exact ⟨fun _ => f140 1 ⟨fun _ => Or.inl br1, fun _ => by omega⟩, fun z => absurd b8 z⟩
      · have rp : r ≠ -1 := by
          have z := zSc_pos b3 b5 b7 b10 b12
          omega
        have cmp := zSc_lt (m := zMis L A D P a b c n) (m2 := X 122 12) (h := zHon L A D P a b c n) (h2 := X 122 13) (by omega) ba bb bc ⟨b5, b6⟩ ⟨b7, b9⟩ ⟨b10, b11⟩ ⟨b12, b13⟩
        rw [← br1] at cmp
        have f139 : ¬(zVf L A D P n a b c 0 < r) → Be_weigh_W Q 139 [zR 122, zI H, zI a, zI b, zI c, zI (zMis L A D P a b c n), zI (zHon L A D P a b c n), zT, zT] [] G X := fun z => Be_weigh_f139 hG (f140 0 ⟨fun y => absurd rfl y, fun y => by
          rcases y with y | y
          · exact absurd y rp
          · exact absurd y z⟩)
        have yes : zVf L A D P n a b c 0 < r → Be_weigh_W Q 140 [zR 122, zI H, zI a, zI b, zI c, zI (zMis L A D P a b c n), zI (zHon L A D P a b c n), zT, zT] [zI 1] G X := fun z => f140 1 ⟨fun _ => Or.inr z, fun _ => by omega⟩
        unfold zVf at f139 yes
        exact ⟨fun z => absurd z (by omega), fun _ => ⟨fun lt => yes (cmp.2 (Or.inl lt)), fun ge => ⟨fun eq => ⟨fun lt => yes (cmp.2 (Or.inr ⟨eq, Or.inl lt⟩)), fun ge2 => f139 (fun z => by have y := cmp.1 z; omega)⟩, fun ne => f139 (fun z => by have y := cmp.1 z; omega)⟩⟩⟩
    | succ d ih =>
      intro k e
      have hk := h.2.1 k (by omega)
      have mk := mi k
      have go : ∀ s0 : Int, (s0 ≠ 0 ↔ zCry L A D a b c k) → Be_weigh_W Q 57 [zR 122, zI H, zI a, zI b, zI c, zI (zMis L A D P a b c k), zI (zHon L A D P a b c k), zI (k : Int), zT] [zI s0] G X := fun s0 es => by
        have nx := ih (k + 1) (by omega)
        rw [show ((k + 1 : Nat) : Int) = (k : Int) + 1 by omega, show zMis L A D P a b c (k + 1) = zMis L A D P a b c k + (if P k ≠ 0 ∧ ¬zCry L A D a b c k then 1 else 0) from rfl, show zHon L A D P a b c (k + 1) = zHon L A D P a b c k + (if P k = 0 ∧ zCry L A D a b c k then 1 else 0) from rfl] at nx
        refine Be_weigh_f57 hG ?_
        rw [hk.2.2.2]
        refine ⟨by omega, by omega, fun p0 => Be_weigh_f77 hG ?_, fun p1 => ⟨fun z => ⟨zw_id (by omega) (by omega), Be_weigh_f77 hG ?_⟩, fun z => Be_weigh_f77 hG ?_⟩⟩
        · rw [hk.2.2.2]
          rw [if_neg (fun y => y.1 p0), Int.add_zero] at nx
          refine ⟨by omega, by omega, fun _ => ⟨fun z => ⟨zw_id (by omega) (by omega), ?_⟩, fun z => ⟨zw_id (by omega) (by omega), zw_id (by omega) (by omega), ?_⟩⟩, fun y => absurd p0 y⟩
          · rw [if_neg (fun y => es.2 y.2 z), Int.add_zero] at nx
            exact nx
          · rw [if_pos ⟨p0, es.1 z⟩] at nx
            exact nx
        · rw [hk.2.2.2]
          rw [if_pos ⟨p1, fun y => es.2 y z⟩, if_neg (fun y => p1 y.1), Int.add_zero] at nx
          exact ⟨by omega, by omega, fun y => absurd y p1, fun _ => ⟨zw_id (by omega) (by omega), nx⟩⟩
        · rw [hk.2.2.2]
          rw [if_neg (fun y => y.2 (es.1 z)), if_neg (fun y => p1 y.1), Int.add_zero, Int.add_zero] at nx
          exact ⟨by omega, by omega, fun y => absurd y p1, fun _ => ⟨zw_id (by omega) (by omega), nx⟩⟩
      refine Be_weigh_f9 hG ?_
      rw [h.1, hk.1, hk.2.1, hk.2.2.1]
      have f56 : ¬zCry L A D a b c k → Be_weigh_W Q 56 [zR 122, zI H, zI a, zI b, zI c, zI (zMis L A D P a b c k), zI (zHon L A D P a b c k), zI (k : Int), zT] [] G X := fun z => Be_weigh_f56 hG (go 0 ⟨fun y => absurd rfl y, fun y => absurd y z⟩)
      exact ⟨fun _ => ⟨by omega, by omega, fun lt => f56 (fun z => by have := z.1; omega), fun ge => ⟨fun lt => f56 (fun z => by have := z.2.1; omega), fun ge2 => ⟨fun lt => f56 (fun z => by have := z.2.2; omega), fun ge3 => go 1 ⟨fun _ => ⟨ge, ge2, ge3⟩, fun _ => by omega⟩⟩⟩⟩, fun z => absurd z (by omega)⟩
  exact Be_weigh_f0 hG (lp n 0 (by omega))
/-- what comes before (a, b, c) -/
def zBf (S : Int → Int → Int → Int → Prop) (a b c x y z w : Int) : Prop := S x y z w ∧ (x < a ∨ (x = a ∧ (y < b ∨ (y = b ∧ z < c))))
theorem find_D {Q : List zV → zX → Prop} {G : zG} {X : zX} {n : Nat} {L A D P : Int → Int} {H : Int} (hG : SH G) (n16 : n ≤ 16) (h : zBe X n L A D P) (q : ∀ (X2 : zX) (r : Int), zWb X X2 → zMnS (zVf L A D P n) r (zCnd L A D P n H) → zBr X2 r 61 0 0 → Q [zI (X2 122 8)] X2) : Be_find [zR 122, zI H] G X Q := by
  have pos : ∀ a b c x y z w : Int, zBf (zCnd L A D P n H) a b c x y z w → 0 ≤ zVf L A D P n x y z w := fun a b c x y z w s => zVf_pos _ _ _ _ _ _ _ _ _ s.1.1.1 s.1.1.2.2.1 s.1.1.2.2.2.2.1
  have l34 : ∀ (d : Nat) (a b c r : Int) (Y : zX), c + d = 100 → 0 ≤ a → a ≤ 60 → 0 ≤ b → b ≤ 200 → 0 ≤ c → zTun L n a → zWb X Y → zBe Y n L A D P → zBr Y r a b c → zMnS (zVf L A D P n) r (zBf (zCnd L A D P n H) a b c) → (∀ (Z : zX) (r2 : Int), zWb X Z → zBe Z n L A D P → zBr Z r2 a (b + 1) 0 → zMnS (zVf L A D P n) r2 (zBf (zCnd L A D P n H) a (b + 1) 0) → Be_find_W Q 15 [zR 122, zI H, zI a, zI (b + 1), zT] [] G Z) → Be_find_W Q 34 [zR 122, zI H, zI a, zI b, zI c] [] G Y := by
    intro d
    induction d with
    | zero =>
      intro a b c r Y e a0 a1 b0 b1 c0 ta w hb br mn nx
      have go := nx Y r w hb (zBr_m br (fun x y z l => by omega)) (zMnS_c mn (fun x y z u => ⟨fun s => ⟨s.1, by have := s.2; omega⟩, fun s => ⟨s.1, by have := s.2; have := s.1.1.2.2.2.2.2.1; have := s.1.1.2.2.2.2.1; omega⟩⟩))
      exact Be_find_f34 hG ⟨b0, by omega, fun _ => ⟨zw_id (by omega) (by omega), go⟩, fun _ => ⟨fun _ => ⟨zw_id (by omega) (by omega), go⟩, fun z => absurd z (by omega)⟩⟩
    | succ d ih =>
      intro a b c r Y e a0 a1 b0 b1 c0 ta w hb br mn nx
      refine Be_find_f34 hG ⟨b0, by omega, fun z => ⟨zw_id (by omega) (by omega), ?_⟩, fun z => ⟨fun z2 => absurd z2 (by omega), fun _ => ⟨c0, by omega, fun t0 => ⟨zw_id (by omega) (by omega), ?_⟩, fun t1 => ?_⟩⟩⟩
      · refine nx Y r w hb (zBr_m br (fun x y z l => by omega)) (zMnS_c mn (fun x y z' u => ⟨fun s => ⟨s.1, by have := s.2; omega⟩, fun s => ⟨s.1, ?_⟩⟩))
        have l := s.2
        have z0 := s.1.1.2.2.2.2.1
        by_cases cb : x = a ∧ y = b
        · have tb := s.1.2.2.1
          rw [cb.2] at tb
          exact absurd z ((hb.2.2.2.1 b b0 (by omega)).2 tb)
        · omega
      · refine ih a b (c + 1) r Y (by omega) a0 a1 b0 b1 (by omega) ta w hb (zBr_m br (fun x y z l => by omega)) (zMnS_c mn (fun x y z' u => ⟨fun s => ⟨s.1, by have := s.2; omega⟩, fun s => ⟨s.1, ?_⟩⟩)) nx
        have l := s.2
        by_cases cb : x = a ∧ y = b ∧ z' = c
        · have tc := s.1.2.2.2
          rw [cb.2.2] at tc
          exact absurd t0 ((hb.2.2.2.2 c c0 (by omega)).2 tc)
        · omega
      · refine weigh_D hG n16 hb br ⟨a0, a1⟩ ⟨b0, b1⟩ ⟨c0, by omega⟩ (fun X2 r2 w2 hb2 br2 er => ⟨rfl, zw_id (by omega) (by omega), ?_⟩)
        refine ih a b (c + 1) r2 X2 (by omega) a0 a1 b0 b1 (by omega) ta (zWb_t w w2) hb2 br2 (zMnS_1 (T := zHon L A D P a b c n ≤ H) (a := a) (b := b) (c := c) mn (pos a b c) (zVf_pos _ _ _ _ _ _ _ _ _ a0 b0 c0) (fun x y z' u => ⟨fun s => ?_, fun s => ?_⟩) er) nx
        · have l := s.2
          by_cases cb : x = a ∧ y = b ∧ z' = c
          · have f := s.1.1
            obtain ⟨rfl, rfl, rfl⟩ := cb
            exact Or.inr ⟨f.2.2.2.2.2.2.2, rfl, rfl, rfl, f.2.2.2.2.2.2.1⟩
          · exact Or.inl ⟨s.1, by omega⟩
        · rcases s with s | ⟨t, rfl, rfl, rfl, rfl⟩
          · exact ⟨s.1, by have := s.2; omega⟩
          · exact ⟨⟨⟨a0, a1, b0, b1, c0, by omega, rfl, t⟩, ta, (hb.2.2.2.1 _ b0 (by omega)).1 z, (hb.2.2.2.2 _ c0 (by omega)).1 t1⟩, by omega⟩
  have l15 : ∀ (d : Nat) (a b r : Int) (Y : zX), b + d = 201 → 0 ≤ a → a ≤ 60 → 0 ≤ b → zWb X Y → zBe Y n L A D P → zBr Y r a b 0 → zMnS (zVf L A D P n) r (zBf (zCnd L A D P n H) a b 0) → (∀ (Z : zX) (r2 : Int), zWb X Z → zBe Z n L A D P → zBr Z r2 (a + 1) 0 0 → zMnS (zVf L A D P n) r2 (zBf (zCnd L A D P n H) (a + 1) 0 0) → Be_find_W Q 7 [zR 122, zI H, zI (a + 1), zT, zT] [] G Z) → Be_find_W Q 15 [zR 122, zI H, zI a, zI b, zT] [] G Y := by
    intro d
    induction d with
    | zero =>
      intro a b r Y e a0 a1 b0 w hb br mn nx
      have go := nx Y r w hb (zBr_m br (fun x y z l => by omega)) (zMnS_c mn (fun x y z u => ⟨fun s => ⟨s.1, by have := s.2; omega⟩, fun s => ⟨s.1, by have := s.2; have := s.1.1.2.2.2.1; have := s.1.1.2.2.1; have := s.1.1.2.2.2.2.1; omega⟩⟩))
      exact Be_find_f15 hG ⟨a0, by omega, fun _ => ⟨zw_id (by omega) (by omega), go⟩, fun _ => ⟨fun _ => ⟨zw_id (by omega) (by omega), go⟩, fun z => absurd z (by omega)⟩⟩
    | succ d ih =>
      intro a b r Y e a0 a1 b0 w hb br mn nx
      refine Be_find_f15 hG ⟨a0, by omega, fun z => ⟨zw_id (by omega) (by omega), ?_⟩, fun z => ⟨fun z2 => absurd z2 (by omega), fun _ => ?_⟩⟩
      · refine nx Y r w hb (zBr_m br (fun x y z l => by omega)) (zMnS_c mn (fun x y z' u => ⟨fun s => ⟨s.1, by have := s.2; omega⟩, fun s => ⟨s.1, ?_⟩⟩))
        have l := s.2
        have z0 := s.1.1.2.2.2.2.1
        have y0 := s.1.1.2.2.1
        by_cases ca : x = a
        · have ta := s.1.2.1
          rw [ca] at ta
          exact absurd z ((hb.2.2.1 a a0 (by omega)).2 ta)
        · omega
      · exact l34 100 a b 0 r Y (by omega) a0 a1 b0 (by omega) (by omega) ((hb.2.2.1 a a0 (by omega)).1 z) w hb br mn (fun Z r2 wz hz bz mz => ih a (b + 1) r2 Z (by omega) a0 a1 (by omega) wz hz bz mz nx)
  have l7 : ∀ (d : Nat) (a r : Int) (Y : zX), a + d = 61 → 0 ≤ a → zWb X Y → zBe Y n L A D P → zBr Y r a 0 0 → zMnS (zVf L A D P n) r (zBf (zCnd L A D P n H) a 0 0) → Be_find_W Q 7 [zR 122, zI H, zI a, zT, zT] [] G Y := by
    intro d
    induction d with
    | zero =>
      intro a r Y e a0 w hb br mn
      have ea : a = 61 := by omega
      rw [ea] at br mn
      refine Be_find_f7 hG ⟨fun _ => ⟨?_, q Y r w (zMnS_c mn (fun x y z u => ⟨fun s => s.1, fun s => ⟨s, by have := s.1.2.1; omega⟩⟩)) br⟩, fun z => absurd z (by omega)⟩
      rcases br with br | br
      · exact Or.inl br.1
      · exact Or.inr br.1
    | succ d ih =>
      intro a r Y e a0 w hb br mn
      exact Be_find_f7 hG ⟨fun z => absurd z (by omega), fun _ => l15 201 a 0 r Y (by omega) a0 (by omega) (by omega) w hb br mn (fun Z r2 wz hz bz mz => ih (a + 1) r2 Z (by omega) (by omega) wz hz bz mz)⟩
  refine Be_find_f0 hG (l7 61 0 (-1) _ (by omega) (by omega) (zWb_w (zWb_r X) (by omega)) (zBe_c h (by rw [zrd_n (by omega)]) (fun b b0 b1 => zrd_r (by omega))) (Or.inl ⟨zrd_s _ _ _ _, rfl⟩) (Or.inl ⟨rfl, fun x y z u s => ?_⟩))
  have := s.2
  have := s.1.1.1
  have := s.1.1.2.2.1
  have := s.1.1.2.2.2.2.1
  omega
/-! the reference's side -/
def zFtd (Y : zX) (r : Int) : Prop := (Y 161 0 < 0 ∧ r = -1) ∨ (0 ≤ Y 161 0 ∧ r = zSc (Y 161 3) (Y 161 4) (Y 161 0) (Y 161 1) (Y 161 2) ∧ Y 161 0 ≤ 60 ∧ 0 ≤ Y 161 1 ∧ Y 161 1 ≤ 200 ∧ 0 ≤ Y 161 2 ∧ Y 161 2 ≤ 99 ∧ 0 ≤ Y 161 3 ∧ Y 161 3 ≤ 16 ∧ 0 ≤ Y 161 4 ∧ Y 161 4 ≤ 16)
theorem ahead_M {Q : List zV → zX → Prop} {G : zG} {Y : zX} {a b c m h r : Int} (hG : SH G) (e0 : Y 160 0 = a) (e1 : Y 160 1 = b) (e2 : Y 160 2 = c) (bh : 0 ≤ h ∧ h ≤ 16) (ba : 0 ≤ a ∧ a ≤ 60) (bb : 0 ≤ b ∧ b ≤ 200) (bc : 0 ≤ c ∧ c ≤ 99) (f : zFtd Y r) (q1 : (r = -1 ∨ zSc m h a b c < r) → Q [zI 1] Y) (q0 : ¬(r = -1 ∨ zSc m h a b c < r) → Q [zI 0] Y) : M_isAhead [zR 139, zI m, zI h] G Y Q := by
  refine M_isAhead_f0 hG ?_
  rw [e0, e1, e2]
  rcases f with ⟨f0, fr⟩ | ⟨f0, fr, f1, f2, f3, f4, f5, f6, f7, f8, f9⟩
  · exact ⟨fun z => M_isAhead_f19 hG ⟨fun _ => q1 (Or.inl fr), fun z2 => absurd z2 (by omega)⟩, fun z => absurd z (by omega)⟩
  · have rp : r ≠ -1 := by
      have z := zSc_pos f6 f8 f0 f2 f4
      omega
    have cmp := zSc_lt (m := m) (m2 := Y 161 3) (h := h) (h2 := Y 161 4) bh ba bb bc ⟨f8, f9⟩ ⟨f0, f1⟩ ⟨f2, f3⟩ ⟨f4, f5⟩
    rw [← fr] at cmp
    have no : ¬(zSc m h a b c < r) → Q [zI 0] Y := fun z => q0 (fun y => by
      rcases y with y | y
      · exact rp y
      · exact z y)
    have yes : zSc m h a b c < r → Q [zI 1] Y := fun z => q1 (Or.inr z)
    exact ⟨fun z => absurd z (by omega), fun _ => ⟨fun em => ⟨fun eh => ⟨fun ea => ⟨fun eb => ⟨fun lt => yes (cmp.2 (by omega)), fun ge => no (fun z => by have y := cmp.1 z; omega)⟩, fun nb => ⟨fun lt => yes (cmp.2 (by omega)), fun ge => no (fun z => by have y := cmp.1 z; omega)⟩⟩, fun na => ⟨fun lt => yes (cmp.2 (by omega)), fun ge => no (fun z => by have y := cmp.1 z; omega)⟩⟩, fun nh => ⟨fun lt => yes (cmp.2 (by omega)), fun ge => no (fun z => by have y := cmp.1 z; omega)⟩⟩, fun nm => M_isAhead_f19 hG ⟨fun z => absurd z (by omega), fun _ => ⟨fun lt => yes (cmp.2 (by omega)), fun ge => no (fun z => by have y := cmp.1 z; omega)⟩⟩⟩⟩
def zRw (Y : zX) (n : Nat) (L A D P : Int → Int) : Prop := (∀ k : Nat, k < n → Y 157 k = L k ∧ Y 158 k = A k ∧ Y 159 k = D k) ∧ (∀ k : Nat, k < n → Y 140 (22 + 3 * (k : Int)) = P k ∧ (P k = 0 ∨ P k = 1)) ∧ Y 140 2 = n
theorem zRw_c {Y Z : zX} {n : Nat} {L A D P : Int → Int} (h : zRw Y n L A D P) (e : ∀ b : Int, b = 140 ∨ b = 157 ∨ b = 158 ∨ b = 159 → Z b = Y b) : zRw Z n L A D P := by
  unfold zRw at h ⊢
  rw [e 140 (by omega), e 157 (by omega), e 158 (by omega), e 159 (by omega)]
  exact h
theorem missed_M {Q : List zV → zX → Prop} {G : zG} {Y : zX} {n : Nat} {L A D P : Int → Int} {a b c f : Int} {F : Nat → Int} (hG : SH G) (n16 : n ≤ 16) (h : zRw Y n L A D P) (e0 : Y 160 0 = a) (e1 : Y 160 1 = b) (e2 : Y 160 2 = c) (F0 : F 0 = 0) (Fb : ∀ k : Nat, 0 ≤ F k ∧ F k ≤ k) (Fs : ∀ k : Nat, F (k + 1) = F k + (if f = 0 then (if P k ≠ 0 ∧ ¬zCry L A D a b c k then 1 else 0) else (if P k = 0 ∧ zCry L A D a b c k then 1 else 0))) (q : Q [zI (F n)] Y) : M_missed [zR 139, zI f] G Y Q := by
  have lp : ∀ (d k : Nat), k + d = n → M_missed_W Q 4 [zR 139, zI f, zI (F k), zI (k : Int), zT, zT] [] G Y := by
    intro d
    induction d with
    | zero =>
      intro k e
      have ek : k = n := by omega
      rw [ek]
      refine M_missed_f4 hG ?_
      rw [h.2.2]
      exact ⟨fun z => absurd z (by omega), fun _ => q⟩
    | succ d ih =>
      intro k e
      have hk := h.1 k (by omega)
      have hp := h.2.1 k (by omega)
      have fb := Fb k
      have nx := ih (k + 1) (by omega)
      rw [show ((k + 1 : Nat) : Int) = (k : Int) + 1 by omega, Fs k] at nx
      have f88 : ∀ x4 s0 : Int, (x4 ≠ 0 ↔ zCry L A D a b c k) → (s0 ≠ 0 ↔ P k ≠ 0) → M_missed_W Q 88 [zR 139, zI f, zI (F k), zI (k : Int), zI x4, zT] [zI s0] G Y := fun x4 s0 ex es => by
        refine M_missed_f88 hG ⟨fun f0 => ⟨fun z => ⟨by rw [Int.add_zero]; exact zw_id (by omega) (by omega), zw_id (by omega) (by omega), ?_⟩, fun z => ⟨fun y => ⟨zw_id (by omega) (by omega), zw_id (by omega) (by omega), ?_⟩, fun y => ⟨by rw [Int.add_zero]; exact zw_id (by omega) (by omega), zw_id (by omega) (by omega), ?_⟩⟩⟩, fun f1 => ⟨fun z => ⟨fun y => ⟨by rw [Int.add_zero]; exact zw_id (by omega) (by omega), zw_id (by omega) (by omega), ?_⟩, fun y => ⟨zw_id (by omega) (by omega), zw_id (by omega) (by omega), ?_⟩⟩, fun z => ⟨by rw [Int.add_zero]; exact zw_id (by omega) (by omega), zw_id (by omega) (by omega), ?_⟩⟩⟩
        · rw [if_pos f0, if_neg (fun w => es.2 w.1 z), Int.add_zero] at nx
          exact nx
        · rw [if_pos f0, if_pos ⟨es.1 z, fun w => ex.2 w y⟩] at nx
          exact nx
        · rw [if_pos f0, if_neg (fun w => w.2 (ex.1 y)), Int.add_zero] at nx
          exact nx
        · rw [if_neg f1, if_neg (fun w => ex.2 w.2 y), Int.add_zero] at nx
          exact nx
        · have p0 : P k = 0 := by
            by_cases w : P k = 0
            · exact w
            · exact absurd z (es.2 w)
          rw [if_neg f1, if_pos ⟨p0, ex.1 y⟩] at nx
          exact nx
        · rw [if_neg f1, if_neg (fun w => es.1 z w.1), Int.add_zero] at nx
          exact nx
      have f64 : ∀ s0 : Int, (s0 ≠ 0 ↔ zCry L A D a b c k) → M_missed_W Q 64 [zR 139, zI f, zI (F k), zI (k : Int), zT, zT] [zI s0] G Y := fun s0 es => by
        refine M_missed_f64 hG ⟨by rw [zw_id (x := 3 * (k : Int)) (by omega) (by omega)]; exact zw_id (by omega) (by omega), zw_id (by omega) (by omega), by omega, by omega, ?_⟩
        rw [show 20 + 3 * (k : Int) + 2 = 22 + 3 * (k : Int) by omega, hp.1]
        exact ⟨fun z => f88 s0 1 es ⟨fun _ => by omega, fun _ => by omega⟩, fun z => f88 s0 0 es ⟨fun y => absurd rfl y, fun y => by omega⟩⟩
      have f63 : ¬zCry L A D a b c k → M_missed_W Q 63 [zR 139, zI f, zI (F k), zI (k : Int), zT, zT] [] G Y := fun z => M_missed_f63 hG (f64 0 ⟨fun y => absurd rfl y, fun y => absurd y z⟩)
      refine M_missed_f4 hG ?_
      rw [h.2.2, e0, e1, e2, hk.1, hk.2.1, hk.2.2]
      exact ⟨fun _ => ⟨by omega, by omega, fun lt => f63 (fun z => by have := z.1; omega), fun ge => ⟨fun lt => f63 (fun z => by have := z.2.1; omega), fun ge2 => ⟨fun lt => f63 (fun z => by have := z.2.2; omega), fun ge3 => f64 1 ⟨fun _ => ⟨ge, ge2, ge3⟩, fun _ => by omega⟩⟩⟩⟩, fun z => absurd z (by omega)⟩
  have z := lp n 0 (by omega)
  rw [F0] at z
  exact M_missed_f0 hG z
theorem tells_M {Q : List zV → zX → Prop} {G : zG} {Y : zX} {w i v mx : Int} (hG : SH G) (hm : (w = 0 ∧ mx = 60) ∨ (w = 1 ∧ mx = 200) ∨ (w = 2 ∧ mx = 99)) (hv : (i < 0 ∧ v = 0) ∨ (0 ≤ i ∧ i < 16 ∧ ((w = 0 ∧ Y 157 i = v) ∨ (w = 1 ∧ Y 158 i + 1 = v) ∨ (w = 2 ∧ Y 159 i = v)))) (bv : 0 ≤ v ∧ v ≤ 100000) (q1 : v ≤ mx → Q [zI 1] (zst Y 160 w v)) (q0 : mx < v → Q [zI 0] (zst Y 160 w v)) : M_tells [zR 139, zI w, zI i] G Y Q := by
  have f43 : ∀ s : Int, s = v → M_tells_W Q 43 [zR 139, zI w, zT, zT] [zI s] G Y := fun s es => by
    rw [es]
    have f74 : ∀ s1 : Int, s1 = mx → M_tells_W Q 74 [zT, zT, zT, zT] [zI s1, zI v] G (zst Y 160 w v) := fun s1 e1 => by
      rw [e1]
      exact M_tells_f74 hG ⟨fun z => q0 z, fun z => q1 z⟩
    exact M_tells_f43 hG ⟨by omega, by omega, fun z => f74 60 (by omega), fun z => ⟨fun y => f74 200 (by omega), fun y => f74 99 (by omega)⟩⟩
  exact M_tells_f0 hG ⟨fun z => f43 0 (by omega), fun z => ⟨fun y => ⟨by omega, by omega, f43 _ (by omega)⟩, fun y => ⟨fun x => ⟨by omega, by omega, zw_id (by omega) (by omega), f43 _ (by omega)⟩, fun x => ⟨by omega, by omega, f43 _ (by omega)⟩⟩⟩⟩
def zVa (F : Int → Int) (i : Int) : Int := if i < 0 then 0 else F i
def zPrd (L A D P : Int → Int) (n : Nat) (H i j k x y z w : Int) : Prop := zFlm L A D P n H x y z w ∧ ∃ i2 j2 k2 : Int, -1 ≤ i2 ∧ i2 < n ∧ -1 ≤ j2 ∧ j2 < n ∧ -1 ≤ k2 ∧ k2 < n ∧ x = zVa L i2 ∧ y = zVa (fun t => A t + 1) j2 ∧ z = zVa D k2 ∧ (i2 < i ∨ (i2 = i ∧ (j2 < j ∨ (j2 = j ∧ k2 < k))))
theorem zVa_e {F : Int → Int} {n : Nat} {x : Int} : zTun F n x ↔ ∃ i : Int, -1 ≤ i ∧ i < n ∧ x = zVa F i := by
  constructor
  · intro h
    rcases h with h | ⟨k, hk, e⟩
    · exact ⟨-1, by omega, by omega, by rw [h]; rfl⟩
    · refine ⟨k, by omega, by omega, ?_⟩
      unfold zVa
      rw [if_neg (by omega), e]
  · intro h
    obtain ⟨i, i0, i1, e⟩ := h
    unfold zVa at e
    by_cases c : i < 0
    · rw [if_pos c] at e
      exact Or.inl e
    · rw [if_neg c] at e
      exact Or.inr ⟨i.toNat, by omega, by rw [e, show ((i.toNat : Nat) : Int) = i by omega]⟩
theorem fits_M {Q : List zV → zX → Prop} {G : zG} {X : zX} {n : Nat} {L A D P : Int → Int} {H : Int} (hG : SH G) (n16 : n ≤ 16) (hb : ∀ k : Nat, k < n → 0 ≤ L k ∧ L k ≤ 9999 ∧ 0 ≤ A k ∧ A k ≤ 9999 ∧ 0 ≤ D k ∧ D k ≤ 9999)
    (weighs : ∀ R : List zV → zX → Prop, (∀ X2 : zX, zWb X X2 → zRw X2 n L A D P → R [] X2) → M_weighs [zR 139] G X R) (q : ∀ (X2 : zX) (r : Int), zWb X X2 → zMnS (zVf L A D P n) r (zCnd L A D P n H) → zFtd X2 r → Q [] X2) : M_fits [zR 139, zI H] G X Q := by
  have pos : ∀ i j k x y z w : Int, zPrd L A D P n H i j k x y z w → 0 ≤ zVf L A D P n x y z w := fun i j k x y z w s => zVf_pos _ _ _ _ _ _ _ _ _ s.1.1 s.1.2.2.1 s.1.2.2.2.2.1
  have va : ∀ (i : Int), -1 ≤ i → i < n → (0 ≤ zVa L i ∧ zVa L i ≤ 10000) ∧ (0 ≤ zVa (fun t => A t + 1) i ∧ zVa (fun t => A t + 1) i ≤ 10000) ∧ (0 ≤ zVa D i ∧ zVa D i ≤ 10000) := fun i i0 i1 => by
    unfold zVa
    by_cases c : i < 0
    · rw [if_pos c, if_pos c, if_pos c]
      omega
    · have z := hb i.toNat (by omega)
      rw [show ((i.toNat : Nat) : Int) = i by omega] at z
      rw [if_neg c, if_neg c, if_neg c]
      show (0 ≤ L i ∧ L i ≤ 10000) ∧ (0 ≤ A i + 1 ∧ A i + 1 ≤ 10000) ∧ (0 ≤ D i ∧ D i ≤ 10000)
      omega
  have tv : ∀ (Y : zX) (w i : Int) (F : Int → Int), zRw Y n L A D P → -1 ≤ i → i < n → ((w = 0 ∧ F = L) ∨ (w = 1 ∧ F = fun t => A t + 1) ∨ (w = 2 ∧ F = D)) → (i < 0 ∧ zVa F i = 0) ∨ (0 ≤ i ∧ i < 16 ∧ ((w = 0 ∧ Y 157 i = zVa F i) ∨ (w = 1 ∧ Y 158 i + 1 = zVa F i) ∨ (w = 2 ∧ Y 159 i = zVa F i))) := fun Y w i F hr i0 i1 hw => by
    unfold zVa
    by_cases c : i < 0
    · rw [if_pos c]
      exact Or.inl ⟨c, rfl⟩
    · have z := hr.1 i.toNat (by omega)
      rw [show ((i.toNat : Nat) : Int) = i by omega] at z
      rw [if_neg c]
      refine Or.inr ⟨by omega, by omega, ?_⟩
      rcases hw with ⟨hw, e⟩ | ⟨hw, e⟩ | ⟨hw, e⟩
      · rw [e]
        exact Or.inl ⟨hw, z.1⟩
      · rw [e]
        exact Or.inr (Or.inl ⟨hw, by rw [z.2.1]⟩)
      · rw [e]
        exact Or.inr (Or.inr ⟨hw, z.2.2⟩)
  have ftc : ∀ (Y Z : zX) (r : Int), zFtd Y r → Z 161 = Y 161 → zFtd Z r := fun Y Z r f e => by
    unfold zFtd at f ⊢
    rw [e]
    exact f
  have l62 : ∀ (d : Nat) (i j k r : Int) (Y : zX), k + d = n → -1 ≤ k → -1 ≤ i → i < n → -1 ≤ j → j < n → zVa L i ≤ 60 → zVa (fun t => A t + 1) j ≤ 200 → zWb X Y → zRw Y n L A D P → Y 160 0 = zVa L i → Y 160 1 = zVa (fun t => A t + 1) j → zFtd Y r → zMnS (zVf L A D P n) r (zPrd L A D P n H i j k) → (∀ (Z : zX) (r2 : Int), zWb X Z → zRw Z n L A D P → Z 160 0 = zVa L i → zFtd Z r2 → zMnS (zVf L A D P n) r2 (zPrd L A D P n H i (j + 1) (-1)) → M_fits_W Q 37 [zR 139, zI H, zI i, zI (j + 1), zT, zT, zT, zT] [] G Z) → M_fits_W Q 62 [zR 139, zI H, zI i, zI j, zI k, zT, zT, zT] [] G Y := by
    intro d
    induction d with
    | zero =>
      intro i j k r Y e k0 i0 i1 j0 j1 ai bj w hr e0 e1 f mn nx
      refine M_fits_f62 hG ?_
      rw [hr.2.2]
      refine ⟨fun z => absurd z (by omega), fun _ => ⟨zw_id (by omega) (by omega), nx Y r w hr e0 f (zMnS_c mn (fun x y z u => ⟨fun s => ?_, fun s => ?_⟩))⟩⟩
      · obtain ⟨s1, a, b, c, s2, s3, s4, s5, s6, s7, s8, s9, s10, s11⟩ := s
        exact ⟨s1, a, b, c, s2, s3, s4, s5, s6, s7, s8, s9, s10, by omega⟩
      · obtain ⟨s1, a, b, c, s2, s3, s4, s5, s6, s7, s8, s9, s10, s11⟩ := s
        exact ⟨s1, a, b, c, s2, s3, s4, s5, s6, s7, s8, s9, s10, by omega⟩
    | succ d ih =>
      intro i j k r Y e k0 i0 i1 j0 j1 ai bj w hr e0 e1 f mn nx
      have bi := (va i i0 i1).1
      have bj2 := (va j j0 j1).2.1
      have bk := (va k k0 (by omega)).2.2
      have hr2 : zRw (zst Y 160 2 (zVa D k)) n L A D P := zRw_c hr (fun b hb => zrd_r (by omega))
      have w2 : zWb X (zst Y 160 2 (zVa D k)) := zWb_w w (by omega)
      have f2 : zFtd (zst Y 160 2 (zVa D k)) r := ftc Y _ r f (zrd_r (by omega))
      have t0 : zst Y 160 2 (zVa D k) 160 0 = zVa L i := by rw [zrd_n (by omega)]; exact e0
      have t1 : zst Y 160 2 (zVa D k) 160 1 = zVa (fun t => A t + 1) j := by rw [zrd_n (by omega)]; exact e1
      have t2 : zst Y 160 2 (zVa D k) 160 2 = zVa D k := zrd_s _ _ _ _
      refine M_fits_f62 hG ?_
      rw [hr.2.2]
      refine ⟨fun _ => tells_M (v := zVa D k) (mx := 99) hG (by omega) (tv Y 2 k D hr k0 (by omega) (Or.inr (Or.inr ⟨rfl, rfl⟩))) ⟨bk.1, by omega⟩ (fun le => ⟨1, rfl, fun z => absurd z (by omega), fun _ => ?_⟩) (fun gt => ⟨0, rfl, fun _ => ⟨zw_id (by omega) (by omega), ?_⟩, fun z => absurd rfl z⟩), fun z => absurd z (by omega)⟩
      · have mi := zMis_in (L := L) (A := A) (D := D) (P := P) (a := zVa L i) (b := zVa (fun t => A t + 1) j) (c := zVa D k)
        refine missed_M (f := 1) (F := zHon L A D P (zVa L i) (zVa (fun t => A t + 1) j) (zVa D k)) hG n16 hr2 t0 t1 t2 rfl (fun m => ⟨(mi m).2.2.1, (mi m).2.2.2⟩) (fun m => by rw [if_neg (by omega)]; rfl) ⟨_, rfl, ?_⟩
        refine missed_M (f := 0) (F := zMis L A D P (zVa L i) (zVa (fun t => A t + 1) j) (zVa D k)) hG n16 hr2 t0 t1 t2 rfl (fun m => ⟨(mi m).1, (mi m).2.1⟩) (fun m => by rw [if_pos rfl]; rfl) ⟨_, rfl, ?_⟩
        have mn' := mi n
        have add : ∀ (Z : zX) (r2 : Int), zWb X Z → zRw Z n L A D P → Z 160 0 = zVa L i → Z 160 1 = zVa (fun t => A t + 1) j → zFtd Z r2 → ((zHon L A D P (zVa L i) (zVa (fun t => A t + 1) j) (zVa D k) n ≤ H ∧ (r = -1 ∨ zVf L A D P n (zVa L i) (zVa (fun t => A t + 1) j) (zVa D k) 0 < r) → r2 = zVf L A D P n (zVa L i) (zVa (fun t => A t + 1) j) (zVa D k) 0) ∧ (¬(zHon L A D P (zVa L i) (zVa (fun t => A t + 1) j) (zVa D k) n ≤ H ∧ (r = -1 ∨ zVf L A D P n (zVa L i) (zVa (fun t => A t + 1) j) (zVa D k) 0 < r)) → r2 = r)) → M_fits_W Q 62 [zR 139, zI H, zI i, zI j, zI (k + 1), zT, zT, zT] [] G Z := fun Z r2 wz hz z0 z1 fz er => by
          refine ih i j (k + 1) r2 Z (by omega) (by omega) i0 i1 j0 j1 ai bj wz hz z0 z1 fz (zMnS_1 (T := zHon L A D P (zVa L i) (zVa (fun t => A t + 1) j) (zVa D k) n ≤ H) (a := zVa L i) (b := zVa (fun t => A t + 1) j) (c := zVa D k) mn (pos i j k) (zVf_pos _ _ _ _ _ _ _ _ _ bi.1 bj2.1 bk.1) (fun x y z u => ⟨fun s => ?_, fun s => ?_⟩) er) nx
          · obtain ⟨s1, a, b, c, s2, s3, s4, s5, s6, s7, s8, s9, s10, s11⟩ := s
            by_cases cc : a = i ∧ b = j ∧ c = k
            · obtain ⟨rfl, rfl, rfl⟩ := cc
              have hh := s1.2.2.2.2.2.2.2
              rw [s8, s9, s10] at hh
              exact Or.inr ⟨hh, s8, s9, s10, s1.2.2.2.2.2.2.1⟩
            · exact Or.inl ⟨s1, a, b, c, s2, s3, s4, s5, s6, s7, s8, s9, s10, by omega⟩
          · rcases s with s | ⟨t, sx, sy, sz, su⟩
            · obtain ⟨s1, a, b, c, s2, s3, s4, s5, s6, s7, s8, s9, s10, s11⟩ := s
              exact ⟨s1, a, b, c, s2, s3, s4, s5, s6, s7, s8, s9, s10, by omega⟩
            · refine ⟨?_, i, j, k, i0, i1, j0, j1, k0, by omega, sx, sy, sz, by omega⟩
              rw [sx, sy, sz, su]
              exact ⟨bi.1, ai, bj2.1, bj, bk.1, le, rfl, t⟩
        refine ⟨fun big => ⟨zw_id (by omega) (by omega), add _ r w2 hr2 t0 t1 f2 ⟨fun z => absurd z.1 (by omega), fun _ => rfl⟩⟩, fun sm => ?_⟩
        refine ahead_M (a := zVa L i) (b := zVa (fun t => A t + 1) j) (c := zVa D k) (r := r) hG t0 t1 t2 ⟨mn'.2.2.1, by omega⟩ ⟨bi.1, ai⟩ ⟨bj2.1, bj⟩ ⟨bk.1, le⟩ f2 (fun yes => ⟨1, rfl, fun z => absurd z (by omega), fun _ => ?_⟩) (fun no => ⟨0, rfl, fun _ => ⟨zw_id (by omega) (by omega), add _ r w2 hr2 t0 t1 f2 ⟨fun z => absurd z.2 no, fun _ => rfl⟩⟩, fun z => absurd rfl z⟩)
        have cp : ∀ (d2 : Nat) (t : Int) (Z : zX), t + d2 = 3 → 0 ≤ t → (∀ b : Int, b ≠ 161 → Z b = zst Y 160 2 (zVa D k) b) → (∀ u : Int, 0 ≤ u → u < t → Z 161 u = zst Y 160 2 (zVa D k) 160 u) → M_fits_W Q 123 [zR 139, zI H, zI i, zI j, zI k, zI (zHon L A D P (zVa L i) (zVa (fun t => A t + 1) j) (zVa D k) n), zI (zMis L A D P (zVa L i) (zVa (fun t => A t + 1) j) (zVa D k) n), zI t] [] G Z := by
          intro d2
          induction d2 with
          | zero =>
            intro t Z et t0' fz zz
            refine M_fits_f123 hG ⟨fun z => absurd z (by omega), fun _ => ⟨zw_id (by omega) (by omega), add _ (zVf L A D P n (zVa L i) (zVa (fun t => A t + 1) j) (zVa D k) 0) (fun b hb => ?_) (zRw_c hr2 (fun b hb => ?_)) ?_ ?_ (Or.inr ?_) ⟨fun _ => rfl, fun z => absurd ⟨sm, yes⟩ z⟩⟩⟩
            · rw [zrd_r (by omega), zrd_r (by omega), fz b (by omega)]
              exact w2 b hb
            · rw [zrd_r (by omega), zrd_r (by omega), fz b (by omega)]
            · rw [zrd_r (by omega), zrd_r (by omega), fz 160 (by omega)]
              exact t0
            · rw [zrd_r (by omega), zrd_r (by omega), fz 160 (by omega)]
              exact t1
            · have g0 : zst (zst Z 161 3 (zMis L A D P (zVa L i) (zVa (fun t => A t + 1) j) (zVa D k) n)) 161 4 (zHon L A D P (zVa L i) (zVa (fun t => A t + 1) j) (zVa D k) n) 161 0 = zVa L i := by rw [zrd_n (by omega), zrd_n (by omega), zz 0 (by omega) (by omega)]; exact t0
              have g1 : zst (zst Z 161 3 (zMis L A D P (zVa L i) (zVa (fun t => A t + 1) j) (zVa D k) n)) 161 4 (zHon L A D P (zVa L i) (zVa (fun t => A t + 1) j) (zVa D k) n) 161 1 = zVa (fun t => A t + 1) j := by rw [zrd_n (by omega), zrd_n (by omega), zz 1 (by omega) (by omega)]; exact t1
              have g2 : zst (zst Z 161 3 (zMis L A D P (zVa L i) (zVa (fun t => A t + 1) j) (zVa D k) n)) 161 4 (zHon L A D P (zVa L i) (zVa (fun t => A t + 1) j) (zVa D k) n) 161 2 = zVa D k := by rw [zrd_n (by omega), zrd_n (by omega), zz 2 (by omega) (by omega)]; exact t2
              have g3 : zst (zst Z 161 3 (zMis L A D P (zVa L i) (zVa (fun t => A t + 1) j) (zVa D k) n)) 161 4 (zHon L A D P (zVa L i) (zVa (fun t => A t + 1) j) (zVa D k) n) 161 3 = zMis L A D P (zVa L i) (zVa (fun t => A t + 1) j) (zVa D k) n := by rw [zrd_n (by omega), zrd_s]
              have g4 : zst (zst Z 161 3 (zMis L A D P (zVa L i) (zVa (fun t => A t + 1) j) (zVa D k) n)) 161 4 (zHon L A D P (zVa L i) (zVa (fun t => A t + 1) j) (zVa D k) n) 161 4 = zHon L A D P (zVa L i) (zVa (fun t => A t + 1) j) (zVa D k) n := zrd_s _ _ _ _
              rw [g0, g1, g2, g3, g4]
              exact ⟨bi.1, rfl, ai, bj2.1, bj, bk.1, le, mn'.1, by omega, mn'.2.2.1, by omega⟩
          | succ d2 ih2 =>
            intro t Z et t0' fz zz
            refine M_fits_f123 hG ⟨fun _ => ⟨t0', by omega, by omega, zw_id (by omega) (by omega), ih2 (t + 1) _ (by omega) (by omega) (fun b hb => by rw [zrd_r hb]; exact fz b hb) (fun u u0 u1 => ?_)⟩, fun z => absurd z (by omega)⟩
            by_cases cu : u = t
            · rw [cu, zrd_s, fz 160 (by omega)]
            · rw [zrd_n (by omega)]
              exact zz u u0 (by omega)
        exact cp 3 0 _ (by omega) (by omega) (fun b hb => rfl) (fun u u0 u1 => absurd u1 (by omega))
      · refine ih i j (k + 1) r _ (by omega) (by omega) i0 i1 j0 j1 ai bj w2 hr2 t0 t1 f2 (zMnS_c mn (fun x y z u => ⟨fun s => ?_, fun s => ?_⟩)) nx
        · obtain ⟨s1, a, b, c, s2, s3, s4, s5, s6, s7, s8, s9, s10, s11⟩ := s
          exact ⟨s1, a, b, c, s2, s3, s4, s5, s6, s7, s8, s9, s10, by omega⟩
        · obtain ⟨s1, a, b, c, s2, s3, s4, s5, s6, s7, s8, s9, s10, s11⟩ := s
          have s99 := s1.2.2.2.2.2.1
          by_cases cc : a = i ∧ b = j ∧ c = k
          · rw [cc.2.2] at s10
            omega
          · exact ⟨s1, a, b, c, s2, s3, s4, s5, s6, s7, s8, s9, s10, by omega⟩
  have l37 : ∀ (d : Nat) (i j r : Int) (Y : zX), j + d = n → -1 ≤ j → -1 ≤ i → i < n → zVa L i ≤ 60 → zWb X Y → zRw Y n L A D P → Y 160 0 = zVa L i → zFtd Y r → zMnS (zVf L A D P n) r (zPrd L A D P n H i j (-1)) → (∀ (Z : zX) (r2 : Int), zWb X Z → zRw Z n L A D P → zFtd Z r2 → zMnS (zVf L A D P n) r2 (zPrd L A D P n H (i + 1) (-1) (-1)) → M_fits_W Q 13 [zR 139, zI H, zI (i + 1), zT, zT, zT, zT, zT] [] G Z) → M_fits_W Q 37 [zR 139, zI H, zI i, zI j, zT, zT, zT, zT] [] G Y := by
    intro d
    induction d with
    | zero =>
      intro i j r Y e j0 i0 i1 ai w hr e0 f mn nx
      refine M_fits_f37 hG ?_
      rw [hr.2.2]
      refine ⟨fun z => absurd z (by omega), fun _ => ⟨zw_id (by omega) (by omega), nx Y r w hr f (zMnS_c mn (fun x y z u => ⟨fun s => ?_, fun s => ?_⟩))⟩⟩
      · obtain ⟨s1, a, b, c, s2, s3, s4, s5, s6, s7, s8, s9, s10, s11⟩ := s
        exact ⟨s1, a, b, c, s2, s3, s4, s5, s6, s7, s8, s9, s10, by omega⟩
      · obtain ⟨s1, a, b, c, s2, s3, s4, s5, s6, s7, s8, s9, s10, s11⟩ := s
        exact ⟨s1, a, b, c, s2, s3, s4, s5, s6, s7, s8, s9, s10, by omega⟩
    | succ d ih =>
      intro i j r Y e j0 i0 i1 ai w hr e0 f mn nx
      have bj2 := (va j j0 (by omega)).2.1
      have hr2 : zRw (zst Y 160 1 (zVa (fun t => A t + 1) j)) n L A D P := zRw_c hr (fun b hb => zrd_r (by omega))
      have w2 : zWb X (zst Y 160 1 (zVa (fun t => A t + 1) j)) := zWb_w w (by omega)
      have f2 : zFtd (zst Y 160 1 (zVa (fun t => A t + 1) j)) r := ftc Y _ r f (zrd_r (by omega))
      have t0 : zst Y 160 1 (zVa (fun t => A t + 1) j) 160 0 = zVa L i := by rw [zrd_n (by omega)]; exact e0
      refine M_fits_f37 hG ?_
      rw [hr.2.2]
      refine ⟨fun _ => tells_M (v := zVa (fun t => A t + 1) j) (mx := 200) hG (by omega) (tv Y 1 j (fun t => A t + 1) hr j0 (by omega) (Or.inr (Or.inl ⟨rfl, rfl⟩))) ⟨bj2.1, by omega⟩ (fun le => ⟨1, rfl, fun z => absurd z (by omega), fun _ => ?_⟩) (fun gt => ⟨0, rfl, fun _ => ⟨zw_id (by omega) (by omega), ?_⟩, fun z => absurd rfl z⟩), fun z => absurd z (by omega)⟩
      · exact l62 (n + 1) i j (-1) r _ (by omega) (by omega) i0 i1 j0 (by omega) ai le w2 hr2 t0 (zrd_s _ _ _ _) f2 mn (fun Z r2 wz hz z0 fz mz => ih i (j + 1) r2 Z (by omega) (by omega) i0 i1 ai wz hz z0 fz mz nx)
      · refine ih i (j + 1) r _ (by omega) (by omega) i0 i1 ai w2 hr2 t0 f2 (zMnS_c mn (fun x y z u => ⟨fun s => ?_, fun s => ?_⟩)) nx
        · obtain ⟨s1, a, b, c, s2, s3, s4, s5, s6, s7, s8, s9, s10, s11⟩ := s
          exact ⟨s1, a, b, c, s2, s3, s4, s5, s6, s7, s8, s9, s10, by omega⟩
        · obtain ⟨s1, a, b, c, s2, s3, s4, s5, s6, s7, s8, s9, s10, s11⟩ := s
          have s99 := s1.2.2.2.1
          by_cases cc : a = i ∧ b = j
          · rw [cc.2] at s9
            omega
          · exact ⟨s1, a, b, c, s2, s3, s4, s5, s6, s7, s8, s9, s10, by omega⟩
  have l13 : ∀ (d : Nat) (i r : Int) (Y : zX), i + d = n → -1 ≤ i → zWb X Y → zRw Y n L A D P → zFtd Y r → zMnS (zVf L A D P n) r (zPrd L A D P n H i (-1) (-1)) → M_fits_W Q 13 [zR 139, zI H, zI i, zT, zT, zT, zT, zT] [] G Y := by
    intro d
    induction d with
    | zero =>
      intro i r Y e i0 w hr f mn
      refine M_fits_f13 hG ?_
      rw [hr.2.2]
      refine ⟨fun z => absurd z (by omega), fun _ => q Y r w (zMnS_c mn (fun x y z u => ⟨fun s => ?_, fun s => ?_⟩)) f⟩
      · obtain ⟨s1, a, b, c, s2, s3, s4, s5, s6, s7, s8, s9, s10, s11⟩ := s
        exact ⟨s1, zVa_e.2 ⟨a, s2, s3, s8⟩, zVa_e.2 ⟨b, s4, s5, s9⟩, zVa_e.2 ⟨c, s6, s7, s10⟩⟩
      · obtain ⟨s1, s2, s3, s4⟩ := s
        obtain ⟨a, a0, a1, a2⟩ := zVa_e.1 s2
        obtain ⟨b, b0, b1, b2⟩ := (zVa_e (F := fun t => A t + 1)).1 s3
        obtain ⟨c, c0, c1, c2⟩ := zVa_e.1 s4
        exact ⟨s1, a, b, c, a0, a1, b0, b1, c0, c1, a2, b2, c2, by omega⟩
    | succ d ih =>
      intro i r Y e i0 w hr f mn
      have bi := (va i i0 (by omega)).1
      have hr2 : zRw (zst Y 160 0 (zVa L i)) n L A D P := zRw_c hr (fun b hb => zrd_r (by omega))
      have w2 : zWb X (zst Y 160 0 (zVa L i)) := zWb_w w (by omega)
      have f2 : zFtd (zst Y 160 0 (zVa L i)) r := ftc Y _ r f (zrd_r (by omega))
      refine M_fits_f13 hG ?_
      rw [hr.2.2]
      refine ⟨fun _ => tells_M (v := zVa L i) (mx := 60) hG (by omega) (tv Y 0 i L hr i0 (by omega) (Or.inl ⟨rfl, rfl⟩)) ⟨bi.1, by omega⟩ (fun le => ⟨1, rfl, fun z => absurd z (by omega), fun _ => ?_⟩) (fun gt => ⟨0, rfl, fun _ => ⟨zw_id (by omega) (by omega), ?_⟩, fun z => absurd rfl z⟩), fun z => absurd z (by omega)⟩
      · exact l37 (n + 1) i (-1) r _ (by omega) (by omega) i0 (by omega) le w2 hr2 (zrd_s _ _ _ _) f2 mn (fun Z r2 wz hz fz mz => ih (i + 1) r2 Z (by omega) (by omega) wz hz fz mz)
      · refine ih (i + 1) r _ (by omega) (by omega) w2 hr2 f2 (zMnS_c mn (fun x y z u => ⟨fun s => ?_, fun s => ?_⟩))
        · obtain ⟨s1, a, b, c, s2, s3, s4, s5, s6, s7, s8, s9, s10, s11⟩ := s
          exact ⟨s1, a, b, c, s2, s3, s4, s5, s6, s7, s8, s9, s10, by omega⟩
        · obtain ⟨s1, a, b, c, s2, s3, s4, s5, s6, s7, s8, s9, s10, s11⟩ := s
          have s99 := s1.2.1
          by_cases cc : a = i
          · rw [cc] at s8
            omega
          · exact ⟨s1, a, b, c, s2, s3, s4, s5, s6, s7, s8, s9, s10, by omega⟩
  refine M_fits_f0 hG (weighs _ (fun X2 w2 hr => ⟨rfl, l13 (n + 1) (-1) (-1) _ (by omega) (by omega) (zWb_w w2 (by omega)) (zRw_c hr (fun b hb => zrd_r (by omega))) (Or.inl ⟨by rw [zrd_s]; omega, rfl⟩) (Or.inl ⟨rfl, fun x y z u s => ?_⟩)⟩))
  obtain ⟨s1, a, b, c, s2, s3, s4, s5, s6, s7, s8, s9, s10, s11⟩ := s
  omega
/-! the CASES -/
noncomputable def zKl (X : zX) (k : Int) : Int × Int := zLik X (X 16 k) 0 (X 17 k)
noncomputable def zKe (X : zX) (k : Int) : Int := zEw X (zKl X k).1 (2670 + 210 * X 16 k)
noncomputable def zKa (X : zX) (k : Int) : Int := zAq (X 19) (zSee X (X 16 k) 0 (X 17 k))
def zKg (X : zX) (k : Int) : Int := zAge X (X 16 k) (X 17 k)
noncomputable def zKcl (X : zX) (k : Int) : Int := if zKe X k ≠ 0 then (zKl X k).2 else 999
noncomputable def zKrl (X : zX) (k : Int) : Int := if (zKl X k).1 = -1 then 999 else (zKl X k).2
noncomputable def zKrd (X : zX) (k : Int) : Int := if zKe X k ≠ 0 then zKg X k else 999
theorem case_in {X : zX} (h : zRT X 1 0) {k : Int} (k0 : 0 ≤ k) (k1 : k < 16) : X 140 (20 + 3 * k) = X 16 k ∧ 0 ≤ X 16 k ∧ X 16 k < 10 ∧ X 140 (20 + 3 * k + 1) = X 17 k ∧ 0 ≤ X 17 k ∧ X 17 k ≤ 99 ∧ X 140 (22 + 3 * k) = X 18 k ∧ (X 18 k = 0 ∨ X 18 k = 1) := by
  have a := zR_cpg h k k0 k1
  have b := zR_cdy h k k0 k1
  have c := zR_cpr h k k0 k1
  rw [show (0 : Int) + 20 + 3 * k = 20 + 3 * k by omega, show (1 : Int) + 15 = 16 by omega] at a
  rw [show (0 : Int) + 21 + 3 * k = 20 + 3 * k + 1 by omega, show (1 : Int) + 16 = 17 by omega] at b
  rw [show (0 : Int) + 22 + 3 * k = 22 + 3 * k by omega, show (1 : Int) + 17 = 18 by omega] at c
  omega
theorem zKl_in {X : zX} (h : zRT X 1 0) (k : Int) : -1 ≤ (zKl X k).1 ∧ (zKl X k).1 < X 1 11 ∧ 0 ≤ (zKl X k).2 ∧ (zKl X k).2 ≤ 999 := by
  have z := zLi_in (X := X) (F := zSee X (X 16 k) 0 (X 17 k)) (land := 0) (day := X 17 k) (X 1 11).toNat
  have hh := q_houses h
  unfold zKl zLik
  omega
theorem zKa_in {X : zX} (h : zRT X 1 0) {k : Int} (k0 : 0 ≤ k) (k1 : k < 16) : 0 ≤ zKa X k ∧ zKa X k ≤ 9998 := by
  have c := case_in h k0 k1
  have s := see_k (p := X 16 k) (land := 0) (day := X 17 k) h c.2.1 c.2.2.1
  have z := zAq_in (fun j a b => (q_wor h j a b).2) (zSee X (X 16 k) 0 (X 17 k)) s.1
  unfold zKa
  omega
theorem zKg_in {X : zX} (h : zRT X 1 0) {k : Int} (k0 : 0 ≤ k) (k1 : k < 16) : 0 ≤ zKg X k ∧ zKg X k ≤ 99 := by
  have c := case_in h k0 k1
  have si := zR_sin h (X 16 k) c.2.1 c.2.2.1
  rw [show (1 : Int) + 52 + 5 * X 16 k = 53 + 5 * X 16 k by omega] at si
  unfold zKg zAge
  omega
theorem weighs_M {Q : List zV → zX → Prop} {G : zG} {X Y0 : zX} {n : Nat} (hG : SH G) (h : zRT X 1 0) (hn : zNm2 G X 1 0) (w0 : zWb X Y0) (en : X 1 13 = n) (q : ∀ X2 : zX, zWb X X2 → zRw X2 n (zKrl X) (zKa X) (zKrd X) (X 18) → Q [] X2) : M_weighs [zR 139] G Y0 Q := by
  have hc := q_cases h
  have hh := q_houses h
  have lp : ∀ (d k : Nat) (Y : zX), k + d = n → zWb X Y → (∀ j : Nat, j < k → Y 157 j = zKrl X j ∧ Y 158 j = zKa X j ∧ Y 159 j = zKrd X j) → M_weighs_W Q 2 [zR 139, zI (k : Int), zT] [] G Y := by
    intro d
    induction d with
    | zero =>
      intro k Y e w hr
      have ek : k = n := by omega
      rw [ek] at hr
      refine M_weighs_f2 hG ?_
      rw [w 140 (by omega), hc.1, en]
      refine ⟨fun z => absurd z (by omega), fun _ => q Y w ⟨hr, fun j hj => ?_, by rw [w 140 (by omega), hc.1, en]⟩⟩
      have c := case_in h (k := j) (by omega) (by omega)
      rw [w 140 (by omega)]
      exact ⟨c.2.2.2.2.2.2.1, c.2.2.2.2.2.2.2⟩
    | succ d ih =>
      intro k Y e w hr
      have k16 : (k : Int) < 16 := by omega
      have c := case_in h (k := k) (by omega) k16
      have hY := zWb_RT w h
      have kl := zKl_in h k
      refine M_weighs_f2 hG ?_
      rw [w 140 (by omega), hc.1, en, c.1, c.2.2.2.1]
      refine ⟨fun _ => ⟨by rw [zw_id (x := 3 * (k : Int)) (by omega) (by omega)]; exact zw_id (by omega) (by omega), by omega, by omega, zw_id (by omega) (by omega), by omega, by omega, shows_R hG hY c.2.1 c.2.2.1 (fun Y2 m w2 rf _ h27 => ⟨rfl, ?_⟩)⟩, fun z => absurd z (by omega)⟩
      have w3 := zWb_t w (zWk_b w2)
      have eF : zFot (Y (55 + 5 * X 16 k)) (Y (54 + 5 * X 16 k) 1).toNat 0 (X 17 k) = zSee X (X 16 k) 0 (X 17 k) := zSee_b w c.2.1 (by omega)
      rw [eF] at rf h27
      rw [w3 140 (by omega), c.1, c.2.2.2.1]
      refine judges_R hG (zWb_RT w3 h) (zNm2_b w3 hn) c.2.1 c.2.2.1 rf h27 (fun Y3 w4 e31 e32 e33 e34 _ => ⟨rfl, ?_⟩)
      have w5 := zWb_t w3 (zWk_b w4)
      have hr3 : ∀ b : Int, 157 ≤ b → b ≤ 161 → Y3 b = Y b := fun b b0 b1 => (w4 b (by omega)).trans (w2 b (by omega))
      rw [w3 1 (by omega), zLi_b h w3 _ (by omega)] at e31 e32 e34
      rw [zEw_b w3] at e34
      rw [w 19 (by omega)] at e33
      have l31 : Y3 139 31 = (zKl X k).1 := e31
      have l32 : (zKl X k).1 ≠ -1 → Y3 139 32 = (zKl X k).2 := e32
      have l33 : Y3 139 33 = zKa X k := e33
      have l34 : Y3 139 34 = zKe X k := e34
      have f126 : ∀ (Z : zX) (v : Int), zWb X Z → Z 157 k = zKrl X k → Z 158 k = zKa X k → (∀ j : Nat, j < k → Z 157 j = zKrl X j ∧ Z 158 j = zKa X j ∧ Z 159 j = zKrd X j) → v = zKrd X k → M_weighs_W Q 126 [zR 139, zI (k : Int), zT] [zI v, zI (k : Int), zR 159] G Z := fun Z v wz z7 z8 zr ev => by
        have nx := ih (k + 1) (zst Z 159 k v) (by omega) (zWb_w wz (by omega)) (fun j hj => by
          rw [zrd_r (by omega), zrd_r (by omega)]
          by_cases cj : j = k
          · rw [cj, zrd_s]
            exact ⟨z7, z8, ev⟩
          · rw [zrd_n (by omega)]
            exact zr j (by omega))
        rw [show ((k + 1 : Nat) : Int) = (k : Int) + 1 by omega] at nx
        exact M_weighs_f126 hG (by decide +kernel) ⟨by omega, by rw [show zl0 159 = 16 by decide +kernel]; exact k16, zw_id (by omega) (by omega), nx⟩
      have f79 : ∀ v : Int, v = zKrl X k → M_weighs_W Q 79 [zR 139, zI (k : Int), zI (20 + 3 * (k : Int))] [zI v, zI (k : Int), zR 157] G Y3 := fun v ev => by
        have wz : zWb X (zst (zst Y3 157 k v) 158 k (zKa X k)) := zWb_w (zWb_w w5 (by omega)) (by omega)
        have z7 : zst (zst Y3 157 k v) 158 k (zKa X k) 157 k = zKrl X k := by rw [zrd_n (by omega), zrd_s]; exact ev
        have z8 : zst (zst Y3 157 k v) 158 k (zKa X k) 158 k = zKa X k := zrd_s _ _ _ _
        have zr : ∀ j : Nat, j < k → zst (zst Y3 157 k v) 158 k (zKa X k) 157 j = zKrl X j ∧ zst (zst Y3 157 k v) 158 k (zKa X k) 158 j = zKa X j ∧ zst (zst Y3 157 k v) 158 k (zKa X k) 159 j = zKrd X j := fun j hj => by
          have y := hr j hj
          rw [zrd_n (by omega), zrd_n (by omega), zrd_n (by omega), zrd_n (by omega), zrd_n (by omega), zrd_n (by omega), hr3 157 (by omega) (by omega), hr3 158 (by omega) (by omega), hr3 159 (by omega) (by omega)]
          exact y
        refine M_weighs_f79 hG (by decide +kernel) ?_
        rw [show zst Y3 157 k v 139 33 = zKa X k by rw [zrd_n (by omega)]; exact l33, show zst (zst Y3 157 k v) 158 k (zKa X k) 139 34 = zKe X k by rw [zrd_n (by omega), zrd_n (by omega)]; exact l34, wz 140 (by omega), c.1, c.2.2.2.1]
        refine ⟨by omega, by rw [show zl0 157 = 16 by decide +kernel]; exact k16, by omega, k16, fun z => f126 _ 999 wz z7 z8 zr ?_, fun z => ⟨by omega, by omega, zw_id (by omega) (by omega), by omega, by omega, age_R hG (zWb_RT wz h) c.2.1 c.2.2.1 c.2.2.2.2.1 (by omega) ⟨_, rfl, f126 _ _ wz z7 z8 zr ?_⟩⟩⟩
        · unfold zKrd
          rw [if_neg (fun y => y z)]
        · unfold zKrd zKg zAge
          rw [if_pos z, wz (53 + 5 * X 16 k) (by omega)]
      rw [l31]
      refine ⟨fun z => f79 999 ?_, fun z => ?_⟩
      · unfold zKrl
        rw [if_pos (by omega)]
      · rw [l32 (by omega)]
        refine f79 _ ?_
        unfold zKrl
        rw [if_neg (by omega)]
  exact M_weighs_f0 hG (lp n 0 Y0 (by omega) w0 (fun j hj => absurd hj (Nat.not_lt_zero j)))
theorem fitl_D {Q : List zV → zX → Prop} {G : zG} {X : zX} {H what : Int} {n : Nat} (hG : SH G) (h : zRT X 1 0) (hn : zNm2 G X 1 0) (en : X 1 13 = n)
    (fin : ∀ Z : zX, zWb X Z → zBe Z n (zKcl X) (zKa X) (zKg X) (X 18) → Be_find [zR 122, zI H] G Z (fun v13 X14 => ∃ r16, v13 = [zI r16] ∧ ((r16 = 0 → Q [zI (-1)] X14) ∧ (r16 ≠ 0 → Be_found [zR 122, zI what] G X14 (fun v17 X18 => ∃ r20, v17 = [zI r20] ∧ Q [zI r20] X18))))) :
    ∀ (d k : Nat) (Y : zX), k + d = n → zWb X Y → zBe Y k (zKcl X) (zKa X) (zKg X) (X 18) → D_fit_W Q 30 [zR 0, zI H, zI what, zI (k : Int), zT, zT, zT] [] G Y := by
  have hc := q_cases h
  have hh := q_houses h
  intro d
  induction d with
  | zero =>
    intro k Y e w hb
    have ek : k = n := by omega
    rw [ek] at hb ⊢
    refine D_fit_f30 hG ?_
    rw [w 1 (by omega), en]
    exact ⟨fun z => absurd z (by omega), fun _ => fin Y w hb⟩
  | succ d ih =>
    intro k Y e w hb
    have k16 : (k : Int) < 16 := by omega
    have c := case_in h (k := k) (by omega) k16
    have hY := zWb_RT w h
    have kl := zKl_in h k
    have ka := zKa_in h (k := k) (by omega) k16
    have sk := see_k (p := X 16 k) (land := 0) (day := X 17 k) h c.2.1 c.2.2.1
    have si := zR_sin h (X 16 k) c.2.1 c.2.2.1
    rw [show (1 : Int) + 52 + 5 * X 16 k = 53 + 5 * X 16 k by omega] at si
    refine D_fit_f30 hG ?_
    rw [w 1 (by omega), en, w 16 (by omega), w 17 (by omega)]
    refine ⟨fun _ => ⟨by omega, k16, c.2.1, c.2.2.1, see_P1 hG hY c.2.1 c.2.2.1 (fun X2 w2 _ od => ⟨rfl, ?_⟩)⟩, fun z => absurd z (by omega)⟩
    have w3 := zWb_t w (zWk_b w2)
    rw [zSee_b w c.2.1 c.2.2.1] at od
    refine liken_C hG (zWb_RT w3 h) od sk.2 (fun X3 w4 od3 e5 e6 => ⟨rfl, ?_⟩)
    have w5 := zWb_t w3 (zWk_b w4)
    rw [w3 1 (by omega), zLi_b h w3 _ (by omega)] at e5 e6
    have l5 : X3 104 5 = (zKl X k).1 := e5
    have l6 : X3 104 6 = (zKl X k).2 := e6
    have hb3 : zBe X3 k (zKcl X) (zKa X) (zKg X) (X 18) := zBe_c hb (by rw [w4 122 (by omega), w2 122 (by omega)]) (fun b b0 b1 => (w4 b (by omega)).trans (w2 b (by omega)))
    have k10 : zkd G 122 = 10 := zSk hG 122 10 (by decide +kernel)
    have f135 : ∀ s : Int, s = zKcl X k → D_fit_W Q 135 [zR 0, zI H, zI what, zI (k : Int), zR (53 + 5 * X 16 k), zI (X 17 k), zT] [zI s, zR 122] G X3 := fun s es => by
      refine D_fit_f135 hG (zCa_at c.2.1 c.2.2.1).2 (asked_C hG od3 sk.1 (fun j a b => (q_wor (zWb_RT w5 h) j a b).2) ⟨_, rfl, ?_⟩)
      refine Ca_age_f0 hG (zCa_at c.2.1 c.2.2.1).2 ?_
      rw [w5 (53 + 5 * X 16 k) (by omega), w5 19 (by omega), w5 18 (by omega), es]
      refine ⟨zw_id (by omega) (by omega), _, rfl, by omega, k16, k10, ?_⟩
      refine add_D (n := k) (L := zKcl X) (A := zKa X) (D := zKg X) (P := X 18) hG (by omega) hb3 c.2.2.2.2.2.2.2 ⟨ka.1, by omega⟩ (fun X4 w6 hb4 => ⟨rfl, zw_id (by omega) (by omega), ?_⟩)
      have nx := ih (k + 1) X4 (by omega) (zWb_t w5 w6) hb4
      rw [show ((k + 1 : Nat) : Int) = (k : Int) + 1 by omega] at nx
      exact nx
    refine else_D hG (zWb_RT w5 h) (zNm2_b w5 hn) (zNas_b w5 (nm_page hn c.2.1 c.2.2.1)) l5 kl.1 (by rw [w5 1 (by omega)]; exact kl.2.1) ⟨_, rfl, ?_⟩
    rw [zEw_b w5, l6]
    refine ⟨fun z => f135 999 ?_, fun z => f135 _ ?_⟩
    · unfold zKcl
      rw [if_neg (fun y : zKe X k ≠ 0 => y z)]
    · unfold zKcl
      rw [if_pos (show zKe X k ≠ 0 from z)]
theorem zSc_i {m h a b c m2 h2 a2 b2 c2 : Int} (bh : 0 ≤ h ∧ h ≤ 16) (ba : 0 ≤ a ∧ a ≤ 60) (bb : 0 ≤ b ∧ b ≤ 200) (bc : 0 ≤ c ∧ c ≤ 99) (bh2 : 0 ≤ h2 ∧ h2 ≤ 16) (ba2 : 0 ≤ a2 ∧ a2 ≤ 60) (bb2 : 0 ≤ b2 ∧ b2 ≤ 200) (bc2 : 0 ≤ c2 ∧ c2 ≤ 99) (e : zSc m h a b c = zSc m2 h2 a2 b2 c2) : m = m2 ∧ h = h2 ∧ a = a2 ∧ b = b2 ∧ c = c2 := by
  unfold zSc at e
  have e1 : c = c2 ∧ (((m * 32 + h) * 64 + a) * 256 + b) = (((m2 * 32 + h2) * 64 + a2) * 256 + b2) := by omega
  have e2 : b = b2 ∧ ((m * 32 + h) * 64 + a) = ((m2 * 32 + h2) * 64 + a2) := by omega
  have e3 : a = a2 ∧ m * 32 + h = m2 * 32 + h2 := by omega
  omega
theorem op_fit {G : zG} {X : zX} {a b : Int} (hG : SH G) (h : zRT X 1 0) (hn : zNm2 G X 1 0) : zOp D_fit M_fit [zI a, zI b] [zI a, zI b] G X := by
  have hc := q_cases h
  have no : ¬(0 ≤ a ∧ a ≤ 16 ∧ 0 ≤ b ∧ b ≤ 4) → M_fit [zR 139, zI a, zI b] G X (fun w X2 => w = [zI (-1)] ∧ zRT X2 1 0 ∧ zKp X X2) := fun n => by
    refine M_fit_f0 hG ?_
    (repeat' (first | (exact ⟨rfl, h, zKp_r X⟩) | (with_reducible exact rfl) | (with_reducible apply And.intro) | (with_reducible refine ⟨_, rfl, ?_⟩) | (with_reducible refine q_isIn hG (fun _ _ => ?_) (fun _ => ?_)) | (with_reducible refine q_isAddress hG (fun _ _ => ?_) (fun _ => ?_)) | (with_reducible refine q_isMade hG (fun _ _ => ?_) (fun _ => ?_)) | (with_reducible refine q_isPage hG (by assumption) (fun _ _ => ?_) (fun _ => ?_)) | (with_reducible refine q_isHouse hG (by assumption) (fun _ _ => ?_) (fun _ => ?_)) | (with_reducible refine q_dPage hG (fun _ _ => ?_) (fun _ => ?_)) | (with_reducible refine q_dHouse hG (fun _ _ => ?_) (fun _ => ?_)) | (with_reducible refine q_dDay hG (fun _ _ => ?_) (fun _ => ?_)) | (with_reducible refine q_dLand hG (fun _ _ => ?_) (fun _ => ?_)) | (with_reducible refine q_dPerson hG (fun _ => ?_) (fun _ => ?_)) | (with_reducible refine q_mPerson hG (fun _ => ?_) (fun _ => ?_)) | (with_reducible refine q_pageAt hG (by omega) (by omega) ?_) | (with_reducible refine q_houseAt hG (by omega) (by omega) ?_) | (with_reducible refine q_treeOf hG (by omega) (by omega) ?_) | (with_reducible intro hz; exfalso; omega) | (with_reducible intro _) | (with_reducible refine zw_id ?_ ?_) | omega | (simp only [zw]; omega)))
  by_cases ok : 0 ≤ a ∧ a ≤ 16 ∧ 0 ≤ b ∧ b ≤ 4
  · obtain ⟨n, en⟩ : ∃ n : Nat, X 1 13 = n := ⟨(X 1 13).toNat, by omega⟩
    have n16 : n ≤ 16 := by omega
    have bc : ∀ k : Nat, k < n → (0 ≤ zKcl X k ∧ zKcl X k ≤ 999) ∧ (0 ≤ zKrl X k ∧ zKrl X k ≤ 999) ∧ (0 ≤ zKa X k ∧ zKa X k ≤ 9998) ∧ (0 ≤ zKg X k ∧ zKg X k ≤ 99) ∧ (0 ≤ zKrd X k ∧ zKrd X k ≤ 999) := fun k hk => by
      have k1 := zKl_in h k
      have k2 := zKa_in h (k := k) (by omega) (by omega)
      have k3 := zKg_in h (k := k) (by omega) (by omega)
      unfold zKcl zKrl zKrd
      refine ⟨?_, ?_, k2, k3, ?_⟩
      · by_cases c : zKe X k ≠ 0
        · rw [if_pos c]; omega
        · rw [if_neg c]; omega
      · by_cases c : (zKl X k).1 = -1
        · rw [if_pos c]; omega
        · rw [if_neg c]; omega
      · by_cases c : zKe X k ≠ 0
        · rw [if_pos c]; omega
        · rw [if_neg c]; omega
    have same : ∀ x y z : Int, x ≤ 60 → z ≤ 99 → ∀ k : Nat, k < n → (zCry (zKcl X) (zKa X) (zKg X) x y z k ↔ zCry (zKrl X) (zKa X) (zKrd X) x y z k) ∧ (X 18 k = 0 ↔ X 18 k = 0) := fun x y z x1 z1 k hk => by
      refine ⟨?_, Iff.rfl⟩
      unfold zCry zKcl zKrl zKrd
      by_cases c : zKe X k ≠ 0
      · have l : (zKl X k).1 ≠ -1 := fun e => c (by
          unfold zKe
          exact zEw_0 (fun w => w.1 e))
        rw [if_pos c, if_pos c, if_neg l]
      · rw [if_neg c, if_neg c]
        constructor
        · intro q
          omega
        · intro q
          omega
    -- the reference
    have mm : ∀ (X1 : zX) (r v : Int), zWb X X1 → zMnS (zVf (zKcl X) (zKa X) (zKg X) (X 18) n) r (zCnd (zKcl X) (zKa X) (zKg X) (X 18) n a) → ((r = -1 ∧ v = -1) ∨ (∃ y0 y1 y2 y3 y4 : Int, r = zSc y3 y4 y0 y1 y2 ∧ 0 ≤ y0 ∧ y0 ≤ 60 ∧ 0 ≤ y1 ∧ y1 ≤ 200 ∧ 0 ≤ y2 ∧ y2 ≤ 99 ∧ 0 ≤ y3 ∧ y3 ≤ 16 ∧ 0 ≤ y4 ∧ y4 ≤ 16 ∧ (b = 0 → v = y0) ∧ (b = 1 → v = y1) ∧ (b = 2 → v = y2) ∧ (b = 3 → v = y3) ∧ (b = 4 → v = y4))) → M_fit [zR 139, zI a, zI b] G X1 (fun w X2 => w = [zI v] ∧ zRT X2 1 0 ∧ zKp X X2) := fun X1 r v w1 m hv => by
      have full := zFlm_t same (zCnd_full (fun k hk => ⟨(bc k hk).1.1, (bc k hk).2.2.1.1, (bc k hk).2.2.2.1.1⟩) m)
      refine M_fit_f0 hG (q_isIn hG (fun _ _ => ⟨1, rfl, fun z => absurd z (by omega), fun _ => q_isIn hG (fun _ _ => ⟨1, rfl, fun z => absurd z (by omega), fun _ => ?_⟩) (fun z => absurd z (by omega))⟩) (fun z => absurd z (by omega)))
      refine fits_M (n := n) (L := zKrl X) (A := zKa X) (D := zKrd X) (P := X 18) hG n16 (fun k hk => ⟨(bc k hk).2.1.1, by have := (bc k hk).2.1.2; omega, (bc k hk).2.2.1.1, by have := (bc k hk).2.2.1.2; omega, (bc k hk).2.2.2.2.1, by have := (bc k hk).2.2.2.2.2; omega⟩) (fun R q => weighs_M hG h hn w1 en (fun X2 w2 hr => q X2 ?_ hr)) (fun X2 r2 w2 m2 f2 => ⟨rfl, ?_⟩)
      · exact fun c hcc => (w2 c hcc).trans (w1 c hcc).symm
      have wz := zWb_t w1 w2
      have er : r2 = r := zMnS_u full (zCnd_full (fun k hk => ⟨(bc k hk).2.1.1, (bc k hk).2.2.1.1, (bc k hk).2.2.2.2.1⟩) m2) (fun _ _ _ _ => Iff.rfl) |>.symm
      rw [er] at f2
      rcases f2 with ⟨f0, fr⟩ | ⟨f0, fr, f1, f2, f3, f4, f5, f6, f7, f8, f9⟩
      · rcases hv with hv | ⟨y0, y1, y2, y3, y4, e, b0, b1, b2, b3, b4, b5, b6, b7, b8, b9, _⟩
        · exact ⟨fun _ => ⟨by rw [hv.2], zWb_RT wz h, zWb_Kp wz⟩, fun z => absurd z (by omega)⟩
        · have z := zSc_pos b6 b8 b0 b2 b4
          omega
      · rcases hv with hv | ⟨y0, y1, y2, y3, y4, e, b0, b1, b2, b3, b4, b5, b6, b7, b8, b9, v0, v1, v2, v3, v4⟩
        · have z := zSc_pos f6 f8 f0 f2 f4
          omega
        · have eq := zSc_i ⟨f8, f9⟩ ⟨f0, f1⟩ ⟨f2, f3⟩ ⟨f4, f5⟩ ⟨b8, b9⟩ ⟨b0, b1⟩ ⟨b2, b3⟩ ⟨b4, b5⟩ (fr.symm.trans e)
          refine ⟨fun z => absurd z (by omega), fun _ => ⟨by omega, by omega, ?_, zWb_RT wz h, zWb_Kp wz⟩⟩
          obtain rfl | rfl | rfl | rfl | rfl : b = 0 ∨ b = 1 ∨ b = 2 ∨ b = 3 ∨ b = 4 := by omega
          · rw [v0 rfl, eq.2.2.1]
          · rw [v1 rfl, eq.2.2.2.1]
          · rw [v2 rfl, eq.2.2.2.2]
          · rw [v3 rfl, eq.1]
          · rw [v4 rfl, eq.2.1]
    refine D_fit_f0 hG ⟨fun z => absurd z (by omega), fun _ => ⟨fun z => absurd z (by omega), fun _ => ⟨fun z => absurd z (by omega), fun _ => ⟨fun z => absurd z (by omega), fun _ => ?_⟩⟩⟩⟩
    refine clear_D (L := zKcl X) (A := zKa X) (D := zKg X) (P := X 18) hG (fun X2 w2 hb => ⟨rfl, fitl_D hG h hn en (fun Z wz hz => ?_) n 0 X2 (by omega) w2 hb⟩)
    refine find_D (L := zKcl X) (A := zKa X) (D := zKg X) (P := X 18) hG n16 hz (fun X3 r w3 m br => ⟨_, rfl, fun z => ?_, fun z => ?_⟩)
    · refine mm X3 r (-1) (zWb_t wz w3) m (Or.inl ?_)
      rcases br with br | br
      · exact ⟨br.2, rfl⟩
      · have := br.1
        omega
    · rcases br with br | ⟨b8, br1, b3, b4, b5, b6, b7, b9, b10, b11, b12, b13, b14⟩
      · exact absurd br.1 z
      · have go : ∀ v : Int, ((b = 0 → v = X3 122 9) ∧ (b = 1 → v = X3 122 10) ∧ (b = 2 → v = X3 122 11) ∧ (b = 3 → v = X3 122 12) ∧ (b = 4 → v = X3 122 13)) → M_fit [zR 139, zI a, zI b] G X3 (fun w X2 => w = [zI v] ∧ zRT X2 1 0 ∧ zKp X X2) := fun v hv => mm X3 r v (zWb_t wz w3) m (Or.inr ⟨X3 122 9, X3 122 10, X3 122 11, X3 122 12, X3 122 13, br1, b7, b9, b10, b11, b12, b13, b3, b4, b5, b6, hv⟩)
        exact Be_found_f0 hG ⟨fun e => ⟨_, rfl, go _ (by omega)⟩, fun e => ⟨fun e1 => ⟨_, rfl, go _ (by omega)⟩, fun e1 => ⟨fun e2 => ⟨_, rfl, go _ (by omega)⟩, fun e2 => ⟨fun e3 => ⟨_, rfl, go _ (by omega)⟩, fun e3 => ⟨_, rfl, go _ (by omega)⟩⟩⟩⟩⟩
  · have n := no ok
    refine D_fit_f0 hG ⟨fun _ => n, fun _ => ⟨fun _ => n, fun _ => ⟨fun _ => n, fun _ => ⟨fun _ => n, fun _ => absurd ⟨by omega, by omega, by omega, by omega⟩ ok⟩⟩⟩⟩
