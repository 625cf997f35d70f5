/-! ===== own, page ===== -/
theorem zPgl_ok {L : Int → Int} {n : Int} : ∀ (k : Nat) (B : zB), zOk n B.1 → 0 ≤ B.2.2.1 → B.2.2.1 ≤ 14 → 0 ≤ B.2.1 → zOk n (zPgl L n k B).1 := by
  intro k
  induction k with
  | zero => exact fun B ok _ _ _ => ok
  | succ k ih =>
    intro B ok2 a b d0
    obtain ⟨s, d, c, I', R'⟩ := B
    have ok' : zOk n s := ok2
    have a' : 0 ≤ c := a
    have b' : c ≤ 14 := b
    have d0' : 0 ≤ d := d0
    by_cases go : 0 < d ∧ zqf s ≠ 1
    · have dp := go.1
      by_cases t41 : zqt s = 41
      · have e2 : zPgl L n (k + 1) (s, d, c, I', R') = zPgl L n k (zNx L n s, d - 1, c, I', R') := (if_pos go).trans (if_pos t41)
        rw [e2]
        exact ih (zNx L n s, d - 1, c, I', R') (zNx_k ok').1 a b (by show 0 ≤ d - 1; omega)
      · have e2 : zPgl L n (k + 1) (s, d, c, I', R') = zPgl L n k (zBx L n (s, d, c, I', R')) := (if_pos go).trans (if_neg t41)
        rw [e2]
        have bk := zBx_k (L := L) (I := I') (R := R') (d := d) (c := c) ok' a' b' d0'
        exact ih _ bk.1 bk.2.1 bk.2.2.1 (by have := bk.2.2.2.1.1; omega)
    · have e2 : zPgl L n (k + 1) (s, d, c, I', R') = (s, d, c, I', R') := if_neg go
      rw [e2]
      exact ok2
theorem zPg0_ok {L I R : Int → Int} {n : Int} (n0 : 0 ≤ n) : zOk n (zXp L n 0 (zPg0 L n I R).1) := by
  have ok : zOk n (zNx L n (0, 0, 0, 0, 0, -1)) := (zNx_ok (Int.le_refl _) n0 (by show (0 : Int) ≤ 0; omega) (by show (0 : Int) ≤ 4; omega) (by show (-1 : Int) ≤ -1; omega) (by show (-1 : Int) ≤ n; omega)).1
  have bk := zBx_k (L := L) (I := I) (R := R) (d := 0) (c := 0) ok (Int.le_refl _) (by omega) (Int.le_refl _)
  exact zXp_k (zPgl_ok n.toNat _ bk.1 bk.2.1 bk.2.2.1 bk.2.2.2.1.1)
theorem keeps_M {Q : List zV → zX → Prop} {G : zG} {Z : zX} {a c : Int} (hG : SH G) (a0 : 600 ≤ a) (a1 : a ≤ 22000) (h : Z 139 10 = c) (c0 : 0 ≤ c) (c1 : c ≤ 14) (q : ∀ Y : zX, (∀ b : Int, b ≠ 140 → Y b = Z b) → (∀ i : Int, ¬(a ≤ i ∧ i ≤ a + 5 * c) → Y 140 i = Z 140 i) → Y 140 a = c → (∀ i : Int, 1 ≤ i → i ≤ 5 * c → Y 140 (a + i) = Z 143 i) → Q [] Y) : M_keeps [zR 139, zI a] G Z Q := by
  have lp : ∀ (d : Nat) (k : Int) (Y : zX), k + d = 5 * c + 1 → 1 ≤ k → (∀ b : Int, b ≠ 140 → Y b = Z b) → (∀ i : Int, ¬(a ≤ i ∧ i < a + k) → Y 140 i = Z 140 i) → Y 140 a = c → (∀ i : Int, 1 ≤ i → i < k → Y 140 (a + i) = Z 143 i) → M_keeps_W Q 12 [zR 139, zI a, zI k] [] G Y := by
    intro d
    induction d with
    | zero =>
      intro k Y e k1 f g ya yi
      refine M_keeps_f12 hG ?_
      rw [f 139 (by omega), h]
      exact ⟨zw_id (by omega) (by omega), fun _ => q Y f (fun i hi => g i (by omega)) ya (fun i i1 i2 => yi i i1 (by omega)), fun z => absurd z (by omega)⟩
    | succ d ih =>
      intro k Y e k1 f g ya yi
      refine M_keeps_f12 hG ?_
      rw [f 139 (by omega), h, f 143 (by omega)]
      refine ⟨zw_id (by omega) (by omega), fun z => absurd z (by omega), fun _ => ⟨zw_id (by omega) (by omega), by omega, by omega, by omega, by omega, zw_id (by omega) (by omega), ih (k + 1) _ (by omega) (by omega) (fun b hb => by rw [zrd_r hb]; exact f b hb) (fun i hi => by rw [zrd_n (by omega)]; exact g i (by omega)) (by rw [zrd_n (by omega)]; exact ya) (fun i i1 i2 => ?_)⟩⟩
      by_cases ck : i = k
      · rw [ck, zrd_s]
      · rw [zrd_n (by omega)]
        exact yi i i1 (by omega)
  refine M_keeps_f0 hG ?_
  rw [h]
  exact ⟨by omega, by omega, lp (5 * c).toNat 1 _ (by omega) (Int.le_refl _) (fun b hb => zrd_r hb) (fun i hi => zrd_n (by omega)) (zrd_s _ _ _ _) (fun i i1 i2 => absurd i2 (by omega))⟩
/-- the reference's tape after begins -/
theorem zTpm_b {X Y Z : zX} {f p : Int} (h : zRT X 1 0) (e : Y 140 6 = X 140 6) (eb : ∀ j : Int, 0 ≤ j → j < 500 → Y 140 (70 + j) = X 140 (70 + j)) (m : zTm Y Z f p) : zTpm Z (X 3) (X 2 1) := by
  have hl : X 140 6 = X 2 1 ∧ 0 ≤ X 2 1 ∧ X 2 1 ≤ 500 := zR_len h
  refine ⟨?_, hl.2.1, hl.2.2, fun j j0 j1 => ?_⟩
  · rw [m.2.2.2.2.2, e]
    exact hl.1
  · have z := zR_byt h j j0 (by omega)
    rw [show (0 : Int) + 70 + j = 70 + j by omega] at z
    rw [m.2.1 _ (by omega) (by omega) (by omega), eb j j0 (by omega)]
    exact z
/-- both have read a text with a FAULT, or taken it for nothing -/
theorem zFlt {X W : zX} {f p : Int} (h : zRT X 1 0) (hA : ∀ a : Int, a ≠ 2 → a ≠ 4 → a < 103 ∨ a = 141 ∨ 166 ≤ a → W a = X a) (hB : ∀ k : Int, k ≠ 6 → k ≠ 7 → k ≠ 8 → W 140 k = X 140 k) (e1 : W 2 1 = 0) (e2 : W 140 6 = 0) (f1 : W 2 2 = f) (f2 : W 140 7 = f) (p1 : W 2 3 = p) (p2 : W 140 8 = p) (bf : 0 ≤ f ∧ f ≤ 4) (bp : -1 ≤ p ∧ p ≤ 500) : zRT W 1 0 ∧ zKp X W := by
  refine ⟨zTd_RT h (fun a k r n => ?_) e1 e2 f1 f2 p1 p2 bf bp, ?_⟩
  · by_cases c : a = 140
    · rw [c]
      exact hB k (by omega) (by omega) (by omega)
    · rw [hA a (by omega) (by omega) (by omega)]
  · have hq1 := q_houses h
    have hq2 := q_pages h
    exact ⟨fun a ha => hA a (by omega) (by omega) (by omega), fun i hi => hB i (by omega) (by omega) (by omega), hA 141 (by omega) (by omega) (by omega), fun p i _ _ _ _ => hB _ (by omega) (by omega) (by omega), fun p i _ _ _ _ => hB _ (by omega) (by omega) (by omega), by rw [hA 1 (by omega) (by omega) (by omega)], by rw [hA 1 (by omega) (by omega) (by omega)], fun p _ _ => hA _ (by omega) (by omega) (by omega), fun p _ _ => hA _ (by omega) (by omega) (by omega)⟩
theorem zKct_t {G : zG} {X : zX} (h : zKct G X) : zKtx G X := ⟨h.1, h.2.1, h.2.2.1, h.2.2.2.1, h.2.2.2.2.1, h.2.2.2.2.2.1⟩
/-- the rows of a text kept by both -/
theorem zRow_k {E : zB} (t : zTree E) {k : Int} (k0 : 0 ≤ k) (k1 : k < E.2.2.1) : (0 ≤ E.2.2.2.2 (5 * k) ∧ E.2.2.2.2 (5 * k) ≤ 7) ∧ (0 ≤ E.2.2.2.2 (5 * k + 1) ∧ E.2.2.2.2 (5 * k + 1) ≤ 9) ∧ (-1 ≤ E.2.2.2.2 (5 * k + 2) ∧ E.2.2.2.2 (5 * k + 2) < k) ∧ (-1 ≤ E.2.2.2.2 (5 * k + 3) ∧ E.2.2.2.2 (5 * k + 3) ≤ 3) ∧ (0 ≤ E.2.2.2.2 (5 * k + 4) ∧ E.2.2.2.2 (5 * k + 4) ≤ 99) := t.1 k k0 k1
theorem op_own {G : zG} {X : zX} {a : Int} (hG : SH G) (h : zRT X 1 0) (hc : zKct G X) : zOp D_own M_own [zI a] [zI a] G X := by
  have hp := q_pages h
  have hh := q_houses h
  have hl : X 140 6 = X 2 1 ∧ 0 ≤ X 2 1 ∧ X 2 1 ≤ 500 := zR_len h
  -- refused
  have ref : ¬(0 ≤ a ∧ a < X 1 11 ∧ X (23 + 6 * a) 2 < 2) → D_own_W (fun v X1 => M_own [zR 139, zI a] G X1 (fun w X2 => w = v ∧ zRT X2 1 0 ∧ zKp X X2)) 24 [zR 0, zT, zT] [] G X := fun n => by
    refine D_own_f24 hG (take_D hG (fun Y t => ⟨rfl, M_own_f0 hG (begins_M hG (fun U m _ _ _ _ => ⟨rfl, ?_⟩))⟩))
    have fin := zTt h t m (by omega) (by omega)
    have u1 : U 1 = X 1 := (m.1 1 (by omega) (by omega)).trans (t.1 1 (by omega))
    have uA : ∀ i : Int, i ≠ 6 → i ≠ 7 → i ≠ 8 → U 140 i = X 140 i := fun i i6 i7 i8 => by rw [m.2.1 i i6 i7 i8, t.1 140 (by omega)]
    refine q_isHouse hG (by rw [uA 0 (by omega) (by omega) (by omega), u1]; exact hh) (fun c1 c2 => ⟨1, rfl, fun z => absurd z (by omega), fun _ => q_houseAt hG c1 (by rw [u1] at c2; omega) ⟨_, rfl, zw_id (by omega) (by rw [u1] at c2; omega), by omega, by rw [u1] at c2; omega, fun _ => ⟨rfl, fin⟩, fun ne => absurd ?_ ne⟩⟩) (fun _ => ⟨0, rfl, fun _ => ⟨rfl, fin⟩, fun z => absurd rfl z⟩)
    rw [u1] at c2
    have ow := q_own h c1 (by omega : a < 5)
    rw [uA _ (by omega) (by omega) (by omega), ow.1]
    omega
  by_cases ok : 0 ≤ a ∧ a < X 1 11 ∧ X (23 + 6 * a) 2 < 2
  · have a5 : a < 5 := by omega
    have ow := q_own h ok.1 a5
    obtain ⟨o, eo⟩ : ∃ o : Int, X (23 + 6 * a) 2 = o := ⟨_, rfl⟩
    have o01 : 0 ≤ o ∧ o < 2 := by omega
    have ho := zHo_at ok.1 a5
    have hpg := zHo_pg ho.2 o01.1 o01.2
    have k25 : zk0 (25 + 6 * a + 2 * o) = 5 := by
      have z := hpg.2
      rw [show 23 + 6 * a + 2 + 2 * o = 25 + 6 * a + 2 * o by omega] at z
      exact z
    have k134 : zk0 134 = 5 := by decide +kernel
    obtain ⟨n, en⟩ : ∃ n : Int, X 2 1 = n := ⟨_, rfl⟩
    obtain ⟨E, eE⟩ : ∃ E : zB, zPg0 (X 3) (X 2 1) (X 4) (X 135) = E := ⟨_, rfl⟩
    have okE : zOk (X 2 1) (zXp (X 3) (X 2 1) 0 E.1) := by
      rw [← eE]
      exact zPg0_ok hl.2.1
    have bf := okE.2.2.2.2.2.2.2
    refine D_own_f0 hG (q_dHouse hG (fun _ _ => ⟨1, rfl, fun z => absurd z (by omega), fun _ => ⟨ok.1, a5, fun _ => takePage_D hG (zKct_t hc) hl.2.1 hl.2.2 (fun Y r cb st => ⟨_, rfl, ?_⟩), fun z => absurd z (by omega)⟩⟩) (fun z => absurd z (by omega)))
    rw [eE] at cb st
    obtain ⟨cr, cc, ci, crow, cfr⟩ := cb
    -- how the reference begins and reads
    have rd : ∀ (V : zX) (Q : List zV → zX → Prop), V 140 = X 140 → V 1 = X 1 → (∀ (U Z : zX) (r2 : Int), zTm V U 0 (-1) → zFm U Z → Z 140 7 = zqf (zXp (X 3) (X 2 1) 0 E.1) → Z 140 8 = zqq (zXp (X 3) (X 2 1) 0 E.1) → ((r2 = 1 ∧ zqf (zXp (X 3) (X 2 1) 0 E.1) = 0 ∧ Z 139 10 = E.2.2.1 ∧ (∀ k j : Int, 0 ≤ k → k < E.2.2.1 → 0 ≤ j → j < 5 → Z 143 (1 + 5 * k + j) = E.2.2.2.2 (5 * k + j))) ∨ (r2 = 0 ∧ zqf (zXp (X 3) (X 2 1) 0 E.1) ≠ 0)) → ((r2 = 0 → Q [zI (-1)] Z) ∧ (r2 ≠ 0 → M_houseAt [zI a] G Z (fun v17 X18 => ∃ r20, v17 = [zI r20] ∧ zw (r20 + 13) = (r20 + 13) ∧ (0 : Int) ≤ (r20 + 13) ∧ (r20 + 13) < 22080 ∧ M_ownTree [zI a, zI (X18 140 (r20 + 13))] G X18 (fun v21 X22 => ∃ r24, v21 = [zI r24] ∧ M_keeps [zR 139, zI r24] G X22 (fun v25 X26 => v25 = [] ∧ zw ((X26 140 (r20 + 13)) + 1) = ((X26 140 (r20 + 13)) + 1) ∧ Q [zI ((zst X26 140 (r20 + 13) ((X26 140 (r20 + 13)) + 1)) 140 (r20 + 13))] (zst X26 140 (r20 + 13) ((X26 140 (r20 + 13)) + 1)))))))) → M_own [zR 139, zI a] G V Q := fun V Q v140 v1 k => by
      refine M_own_f0 hG (begins_M hG (fun U m m3 m9 m10 m11 => ⟨rfl, ?_⟩))
      have u1 : U 1 = X 1 := (m.1 1 (by omega) (by omega)).trans v1
      have uA : ∀ i : Int, i ≠ 6 → i ≠ 7 → i ≠ 8 → U 140 i = X 140 i := fun i i6 i7 i8 => by rw [m.2.1 i i6 i7 i8, v140]
      refine q_isHouse hG (by rw [uA 0 (by omega) (by omega) (by omega), u1]; exact hh) (fun _ _ => ⟨1, rfl, fun z => absurd z (by omega), fun _ => q_houseAt hG ok.1 a5 ⟨_, rfl, zw_id (by omega) (by omega), by omega, by omega, fun e2 => absurd e2 ?_, fun _ => ?_⟩⟩) (fun z => absurd z (by rw [u1]; omega))
      · rw [uA _ (by omega) (by omega) (by omega), ow.1]
        omega
      · refine reads_M (I := X 4) (R := X 135) hG hl.2.1 hl.2.2 (zTpm_b h (by rw [v140]) (fun j _ _ => by rw [v140]) m) m3 m9 m10 m11 m.2.2.2.1 m.2.2.2.2.1 (fun Z r2 fz z7 z8 zr => ⟨_, rfl, ?_⟩)
        rw [eE] at z7 z8 zr
        exact k U Z r2 m fz z7 z8 zr
    have yA : ∀ b : Int, b ≠ 2 → b ≠ 4 → b ≠ 134 → b ≠ 135 → Y b = X b := cfr
    rcases st with ⟨rfl, f0⟩ | ⟨rfl, fn⟩
    · -- the text is taken
      have tree := zPg0_t (L := X 3) (I := X 4) (R := X 135) hl.2.1 (by rw [eE]; exact f0)
      rw [eE] at tree
      obtain ⟨tr, e0, e14⟩ := tree
      obtain ⟨c, ec⟩ : ∃ c : Int, E.2.2.1 = c := ⟨_, rfl⟩
      rw [ec] at e0 e14
      have y23 : Y (23 + 6 * a) = X (23 + 6 * a) := yA _ (by omega) (by omega) (by omega) (by omega)
      refine ⟨fun z => absurd z (by omega), fun _ => ?_⟩
      rw [y23, eo]
      refine ⟨by omega, by omega, Pg_copy_f0 hG k25 k134 ⟨by omega, by omega, fun X1 e1 => ⟨rfl, ?_⟩⟩⟩
      rw [show (1 : Int) + (25 + 6 * a + 2 * o) = 26 + 6 * a + 2 * o by omega, show (1 : Int) + 134 = 135 by omega] at e1
      have x23 : X1 (23 + 6 * a) 2 = o := by rw [e1, zrd_r (by omega), zsa_n (by omega), y23]; exact eo
      rw [x23]
      refine ⟨zw_id (by omega) (by omega), ?_⟩
      rw [zrd_s]
      obtain ⟨V, eV⟩ : ∃ V : zX, V = zst X1 (23 + 6 * a) 2 (o + 1) := ⟨_, rfl⟩
      rw [← eV]
      have vA : ∀ b : Int, b ≠ 2 → b ≠ 4 → b ≠ 134 → b ≠ 135 → b ≠ 23 + 6 * a → b ≠ 25 + 6 * a + 2 * o → b ≠ 26 + 6 * a + 2 * o → V b = X b := fun b b2 b4 b5 b6 b7 b8 b9 => by
        rw [eV, zrd_r b7, e1, zrd_r b8, zsa_n b9]
        exact yA b b2 b4 b5 b6
      have v23n : ∀ i : Int, i ≠ 2 → V (23 + 6 * a) i = X (23 + 6 * a) i := fun i hi => by
        rw [eV, zrd_n (by omega), e1, zrd_r (by omega), zsa_n (by omega), y23]
      have v23s : V (23 + 6 * a) 2 = o + 1 := by rw [eV, zrd_s]
      have v25n : ∀ i : Int, i ≠ 1 → V (25 + 6 * a + 2 * o) i = X (25 + 6 * a + 2 * o) i := fun i hi => by
        rw [eV, zrd_r (by omega), e1, zrd_n (by omega), zsa_n (by omega), yA _ (by omega) (by omega) (by omega) (by omega)]
      have v25s : V (25 + 6 * a + 2 * o) 1 = c := by
        rw [eV, zrd_r (by omega), e1, zrd_s, zsa_n (by omega), ← ec]
        exact cc
      have v26 : ∀ j : Int, 0 ≤ j → j < 70 → V (26 + 6 * a + 2 * o) j = E.2.2.2.2 j := fun j j0 j1 => by
        rw [eV, zrd_r (by omega), e1, zrd_r (by omega), zsa_s]
        unfold zcpy
        rw [if_pos (by omega), show (0 : Int) + (j - 0) = j by omega]
        exact crow j j0 j1
      have v2 : V 2 = Y 2 := by rw [eV, zrd_r (by omega), e1, zrd_r (by omega), zsa_n (by omega)]
      refine rd V _ (vA 140 (by omega) (by omega) (by omega) (by omega) (by omega) (by omega) (by omega)) (vA 1 (by omega) (by omega) (by omega) (by omega) (by omega) (by omega) (by omega)) (fun U Z r2 m fz z7 z8 zr => ?_)
      rcases zr with ⟨rfl, _, zb, zrow⟩ | ⟨_, zf⟩
      · refine ⟨fun z => absurd z (by omega), fun _ => q_houseAt hG ok.1 a5 ⟨_, rfl, zw_id (by omega) (by omega), by omega, by omega, ?_⟩⟩
        have v140 : V 140 = X 140 := vA 140 (by omega) (by omega) (by omega) (by omega) (by omega) (by omega) (by omega)
        have zA : ∀ i : Int, i ≠ 6 → i ≠ 7 → i ≠ 8 → Z 140 i = X 140 i := fun i i6 i7 i8 => by rw [fz.2.1 i i7 i8, m.2.1 i i6 i7 i8, v140]
        have z13 : Z 140 (1870 + 160 * a + 13) = o := by
          rw [zA _ (by omega) (by omega) (by omega), ow.1]
          exact eo
        rw [z13]
        refine ownTree_M hG ok.1 a5 o01.1 o01.2 ⟨_, rfl, keeps_M hG (by omega) (by omega) (zb.trans ec) e0 e14 (fun P pf pg pa pr => ⟨rfl, ?_⟩)⟩
        have p13 : P 140 (1870 + 160 * a + 13) = o := by
          rw [pg _ (by rcases (by omega : o = 0 ∨ o = 1) with x | x <;> rw [x] <;> omega)]
          exact z13
        rw [p13, zrd_s]
        obtain ⟨W, eW⟩ : ∃ W : zX, W = zst P 140 (1870 + 160 * a + 13) (o + 1) := ⟨_, rfl⟩
        rw [← eW]
        refine ⟨zw_id (by omega) (by omega), rfl, ?_⟩
        have wV : ∀ b : Int, b ≠ 139 → b ≠ 140 → b ≠ 142 → b ≠ 143 → W b = V b := fun b b1 b2 b3 b4 => by
          rw [eW, zrd_r b2, pf b b2, fz.1 b b1 b2 b3 b4, m.1 b b1 b2]
        have wB : ∀ i : Int, i ≠ 6 → i ≠ 7 → i ≠ 8 → i ≠ 1883 + 160 * a → ¬(1884 + 160 * a + 72 * o ≤ i ∧ i < 1956 + 160 * a + 72 * o) → W 140 i = X 140 i := fun i i6 i7 i8 ia ib => by
          rw [eW, zrd_n (by omega), pg i (by omega)]
          exact zA i i6 i7 i8
        have wb : ∀ i : Int, i = 6 ∨ i = 7 ∨ i = 8 → W 140 i = Z 140 i := fun i hi => by
          rw [eW, zrd_n (by omega)]
          exact pg i (by omega)
        have w13 : W 140 (1883 + 160 * a) = o + 1 := by rw [eW, show 1883 + 160 * a = 1870 + 160 * a + 13 by omega, zrd_s]
        have wcn : W 140 (1884 + 160 * a + 72 * o) = c := by
          rw [eW, zrd_n (by omega)]
          exact pa
        have wrw : ∀ k j : Int, 0 ≤ k → k < c → 0 ≤ j → j < 5 → W 140 (1884 + 160 * a + 72 * o + (1 + 5 * k + j)) = E.2.2.2.2 (5 * k + j) := fun k j k0 k1 j0 j1 => by
          rw [eW, zrd_n (by omega), pr (1 + 5 * k + j) (by omega) (by omega)]
          exact zrow k j k0 (by omega) j0 j1
        have w6 : W 140 6 = 0 := by rw [wb 6 (by omega), fz.2.1 6 (by omega) (by omega)]; exact m.2.2.1
        have w2 : W 2 = Y 2 := (wV 2 (by omega) (by omega) (by omega) (by omega)).trans v2
        have wA : ∀ b : Int, b ≠ 2 → b ≠ 4 → b < 103 ∨ b = 141 ∨ 166 ≤ b → b ≠ 23 + 6 * a → b ≠ 25 + 6 * a + 2 * o → b ≠ 26 + 6 * a + 2 * o → W b = X b := fun b b2 b4 hb b7 b8 b9 => by
          rw [wV b (by omega) (by omega) (by omega) (by omega)]
          exact vA b b2 b4 (by omega) (by omega) b7 b8 b9
        have w23n : ∀ i : Int, i ≠ 2 → W (23 + 6 * a) i = X (23 + 6 * a) i := fun i hi => by rw [wV _ (by omega) (by omega) (by omega) (by omega)]; exact v23n i hi
        have w23s : W (23 + 6 * a) 2 = o + 1 := by rw [wV _ (by omega) (by omega) (by omega) (by omega)]; exact v23s
        have w25n : ∀ i : Int, i ≠ 1 → W (25 + 6 * a + 2 * o) i = X (25 + 6 * a + 2 * o) i := fun i hi => by rw [wV _ (by omega) (by omega) (by omega) (by omega)]; exact v25n i hi
        have w25s : W (25 + 6 * a + 2 * o) 1 = c := by rw [wV _ (by omega) (by omega) (by omega) (by omega)]; exact v25s
        have w26 : ∀ j : Int, 0 ≤ j → j < 70 → W (26 + 6 * a + 2 * o) j = E.2.2.2.2 j := fun j j0 j1 => by rw [wV _ (by omega) (by omega) (by omega) (by omega)]; exact v26 j j0 j1
        refine ⟨?_, ⟨fun b hb => wA b (by omega) (by omega) (by omega) (by omega) (by omega) (by omega), fun i hi => wB i (by omega) (by omega) (by omega) (by omega) (by omega), wA 141 (by omega) (by omega) (by omega) (by omega) (by omega) (by omega), fun p i p0 p1 i0 i1 => wB _ (by omega) (by omega) (by omega) (by omega) (by rcases Int.lt_trichotomy p a with x | x | x <;> omega), fun p i p0 p1 i0 i1 => wB _ (by omega) (by omega) (by omega) (by omega) (by omega), by rw [wA 1 (by omega) (by omega) (by omega) (by omega) (by omega) (by omega)], by rw [wA 1 (by omega) (by omega) (by omega) (by omega) (by omega) (by omega)], fun p p0 p1 => wA _ (by omega) (by omega) (by omega) (by omega) (by omega) (by omega), fun p p0 p1 => wA _ (by omega) (by omega) (by omega) (by omega) (by omega) (by omega)⟩⟩
        generalize hT : (fun b i : Int => if (b = 23 + 6 * a ∧ i = 2) ∨ (b = 25 + 6 * a + 2 * o ∧ i = 1) ∨ b = 26 + 6 * a + 2 * o ∨ (b = 140 ∧ i = 1883 + 160 * a) ∨ (b = 140 ∧ 1884 + 160 * a + 72 * o ≤ i ∧ i < 1956 + 160 * a + 72 * o) then X b i else W b i) = T
        have tp : ∀ b i : Int, ((b = 23 + 6 * a ∧ i = 2) ∨ (b = 25 + 6 * a + 2 * o ∧ i = 1) ∨ b = 26 + 6 * a + 2 * o ∨ (b = 140 ∧ i = 1883 + 160 * a) ∨ (b = 140 ∧ 1884 + 160 * a + 72 * o ≤ i ∧ i < 1956 + 160 * a + 72 * o)) → T b i = X b i := fun b i q => by rw [← hT]; exact if_pos q
        have tn : ∀ b i : Int, ¬((b = 23 + 6 * a ∧ i = 2) ∨ (b = 25 + 6 * a + 2 * o ∧ i = 1) ∨ b = 26 + 6 * a + 2 * o ∨ (b = 140 ∧ i = 1883 + 160 * a) ∨ (b = 140 ∧ 1884 + 160 * a + 72 * o ≤ i ∧ i < 1956 + 160 * a + 72 * o)) → T b i = W b i := fun b i q => by rw [← hT]; exact if_neg q
        have tR : zRT T 1 0 := by
          refine zTd_RT (f := zqf (zXp (X 3) (X 2 1) 0 E.1)) (p := zqq (zXp (X 3) (X 2 1) 0 E.1)) h (fun b i r ne => ?_) ?_ ?_ ?_ ?_ ?_ ?_ ⟨bf.1, bf.2.1⟩ ⟨bf.2.2.1, by have := bf.2.2.2; omega⟩
          · by_cases q : (b = 23 + 6 * a ∧ i = 2) ∨ (b = 25 + 6 * a + 2 * o ∧ i = 1) ∨ b = 26 + 6 * a + 2 * o ∨ (b = 140 ∧ i = 1883 + 160 * a) ∨ (b = 140 ∧ 1884 + 160 * a + 72 * o ≤ i ∧ i < 1956 + 160 * a + 72 * o)
            · exact tp b i q
            · rw [tn b i q]
              by_cases q1 : b = 23 + 6 * a
              · rw [q1]
                exact w23n i (by omega)
              · by_cases q2 : b = 25 + 6 * a + 2 * o
                · rw [q2]
                  exact w25n i (by omega)
                · by_cases q3 : b = 140
                  · rw [q3]
                    exact wB i (by omega) (by omega) (by omega) (by omega) (by omega)
                  · rw [wA b (by omega) (by omega) (by omega) q1 q2 (by omega)]
          · rw [tn 2 1 (by omega), w2]
            exact cr.2.2.2.2.2.2.2.1
          · rw [tn 140 6 (by omega)]
            exact w6
          · rw [tn 2 2 (by omega), w2]
            exact cr.2.2.2.2.1
          · rw [tn 140 7 (by omega), wb 7 (by omega)]
            exact z7
          · rw [tn 2 3 (by omega), w2]
            exact cr.2.2.2.2.2.1
          · rw [tn 140 8 (by omega), wb 8 (by omega)]
            exact z8
        have hown : W 140 (0 + 1883 + 160 * a) = W (1 + 22 + 6 * a) 2 ∧ 0 ≤ W (1 + 22 + 6 * a) 2 ∧ W (1 + 22 + 6 * a) 2 ≤ 2 := by
          rw [show (0 : Int) + 1883 + 160 * a = 1883 + 160 * a by omega, show (1 : Int) + 22 + 6 * a = 23 + 6 * a by omega, w13, w23s]
          omega
        have row : ∀ j : Int, 0 ≤ j → j < c → (W 140 (1884 + 160 * a + 72 * o + (1 + 5 * j + 0)) = W (26 + 6 * a + 2 * o) (5 * j) ∧ 0 ≤ W (26 + 6 * a + 2 * o) (5 * j) ∧ W (26 + 6 * a + 2 * o) (5 * j) ≤ 7) ∧ (W 140 (1884 + 160 * a + 72 * o + (1 + 5 * j + 1)) = W (26 + 6 * a + 2 * o) (5 * j + 1) ∧ 0 ≤ W (26 + 6 * a + 2 * o) (5 * j + 1) ∧ W (26 + 6 * a + 2 * o) (5 * j + 1) ≤ 9) ∧ (W 140 (1884 + 160 * a + 72 * o + (1 + 5 * j + 2)) = W (26 + 6 * a + 2 * o) (5 * j + 2) ∧ -1 ≤ W (26 + 6 * a + 2 * o) (5 * j + 2) ∧ W (26 + 6 * a + 2 * o) (5 * j + 2) < j) ∧ (W 140 (1884 + 160 * a + 72 * o + (1 + 5 * j + 3)) = W (26 + 6 * a + 2 * o) (5 * j + 3) ∧ -1 ≤ W (26 + 6 * a + 2 * o) (5 * j + 3) ∧ W (26 + 6 * a + 2 * o) (5 * j + 3) ≤ 3) ∧ (W 140 (1884 + 160 * a + 72 * o + (1 + 5 * j + 4)) = W (26 + 6 * a + 2 * o) (5 * j + 4) ∧ 0 ≤ W (26 + 6 * a + 2 * o) (5 * j + 4) ∧ W (26 + 6 * a + 2 * o) (5 * j + 4) ≤ 99) := fun j j0 j1 => by
          have g := zRow_k tr j0 (by omega : j < E.2.2.1)
          rw [wrw j 0 j0 j1 (by omega) (by omega), wrw j 1 j0 j1 (by omega) (by omega), wrw j 2 j0 j1 (by omega) (by omega), wrw j 3 j0 j1 (by omega) (by omega), wrw j 4 j0 j1 (by omega) (by omega), show 5 * j + 0 = 5 * j by omega, w26 (5 * j) (by omega) (by omega), w26 (5 * j + 1) (by omega) (by omega), w26 (5 * j + 2) (by omega) (by omega), w26 (5 * j + 3) (by omega) (by omega), w26 (5 * j + 4) (by omega) (by omega)]
          exact ⟨⟨rfl, g.1⟩, ⟨rfl, g.2.1⟩, ⟨rfl, g.2.2.1⟩, ⟨rfl, g.2.2.2.1⟩, ⟨rfl, g.2.2.2.2⟩⟩
        have pre : ∀ i j : Int, 0 ≤ i → i < j → j < c → W (26 + 6 * a + 2 * o) (5 * j + 2) < i → W (26 + 6 * a + 2 * o) (5 * j + 2) ≤ W (26 + 6 * a + 2 * o) (5 * i + 2) := fun i j i0 ij j1 lt => by
          rw [w26 (5 * j + 2) (by omega) (by omega)] at lt ⊢
          rw [w26 (5 * i + 2) (by omega) (by omega)]
          exact tr.2.2.2.2 i j i0 ij (by omega) lt
        rcases (by omega : o = 0 ∨ o = 1) with x | x
        · rw [x] at w25s wcn row pre tn
          refine zV_own0 tR ok.1 a5 (fun b i _ ne => (tn b i (by omega)).symm) hown ?_ (fun j j0 j1 j2 => ?_) (fun i j i0 ij j1 lt => ?_)
          · rw [show (0 : Int) + 1884 + 160 * a = 1884 + 160 * a + 72 * 0 by omega, show (1 : Int) + 24 + 6 * a = 25 + 6 * a + 2 * 0 by omega, wcn, w25s]
            omega
          · rw [show (1 : Int) + 24 + 6 * a = 25 + 6 * a + 2 * 0 by omega, w25s] at j2
            rw [show (1 : Int) + 25 + 6 * a = 26 + 6 * a + 2 * 0 by omega, show (0 : Int) + 1885 + 160 * a + 5 * j = 1884 + 160 * a + 72 * 0 + (1 + 5 * j + 0) by omega, show (0 : Int) + 1886 + 160 * a + 5 * j = 1884 + 160 * a + 72 * 0 + (1 + 5 * j + 1) by omega, show (0 : Int) + 1887 + 160 * a + 5 * j = 1884 + 160 * a + 72 * 0 + (1 + 5 * j + 2) by omega, show (0 : Int) + 1888 + 160 * a + 5 * j = 1884 + 160 * a + 72 * 0 + (1 + 5 * j + 3) by omega, show (0 : Int) + 1889 + 160 * a + 5 * j = 1884 + 160 * a + 72 * 0 + (1 + 5 * j + 4) by omega]
            exact row j j0 j2
          · rw [show (1 : Int) + 24 + 6 * a = 25 + 6 * a + 2 * 0 by omega, w25s] at j1
            rw [show (1 : Int) + 25 + 6 * a = 26 + 6 * a + 2 * 0 by omega] at lt ⊢
            exact pre i j i0 ij j1 lt
        · rw [x] at w25s wcn row pre tn
          refine zV_own1 tR ok.1 a5 (fun b i _ ne => (tn b i (by omega)).symm) hown ?_ (fun j j0 j1 j2 => ?_) (fun i j i0 ij j1 lt => ?_)
          · rw [show (0 : Int) + 1956 + 160 * a = 1884 + 160 * a + 72 * 1 by omega, show (1 : Int) + 26 + 6 * a = 25 + 6 * a + 2 * 1 by omega, wcn, w25s]
            omega
          · rw [show (1 : Int) + 26 + 6 * a = 25 + 6 * a + 2 * 1 by omega, w25s] at j2
            rw [show (1 : Int) + 27 + 6 * a = 26 + 6 * a + 2 * 1 by omega, show (0 : Int) + 1957 + 160 * a + 5 * j = 1884 + 160 * a + 72 * 1 + (1 + 5 * j + 0) by omega, show (0 : Int) + 1958 + 160 * a + 5 * j = 1884 + 160 * a + 72 * 1 + (1 + 5 * j + 1) by omega, show (0 : Int) + 1959 + 160 * a + 5 * j = 1884 + 160 * a + 72 * 1 + (1 + 5 * j + 2) by omega, show (0 : Int) + 1960 + 160 * a + 5 * j = 1884 + 160 * a + 72 * 1 + (1 + 5 * j + 3) by omega, show (0 : Int) + 1961 + 160 * a + 5 * j = 1884 + 160 * a + 72 * 1 + (1 + 5 * j + 4) by omega]
            exact row j j0 j2
          · rw [show (1 : Int) + 26 + 6 * a = 25 + 6 * a + 2 * 1 by omega, w25s] at j1
            rw [show (1 : Int) + 27 + 6 * a = 26 + 6 * a + 2 * 1 by omega] at lt ⊢
            exact pre i j i0 ij j1 lt
      · exact absurd f0 zf
    · -- a FAULT
      refine ⟨fun _ => rd Y _ (yA 140 (by omega) (by omega) (by omega) (by omega)) (yA 1 (by omega) (by omega) (by omega) (by omega)) (fun U Z r2 m fz z7 z8 zr => ?_), fun z => absurd rfl z⟩
      rcases zr with ⟨_, zf, _⟩ | ⟨rfl, _⟩
      · exact absurd zf fn
      · have z2 : Z 2 = Y 2 := (fz.1 2 (by omega) (by omega) (by omega) (by omega)).trans (m.1 2 (by omega) (by omega))
        refine ⟨fun _ => ⟨rfl, zFlt h (fun b b2 b4 hb => ?_) (fun k k6 k7 k8 => ?_) (by rw [z2]; exact cr.2.2.2.2.2.2.2.1) (by rw [fz.2.1 6 (by omega) (by omega)]; exact m.2.2.1) (by rw [z2]; exact cr.2.2.2.2.1) z7 (by rw [z2]; exact cr.2.2.2.2.2.1) z8 ⟨bf.1, bf.2.1⟩ ⟨bf.2.2.1, by have := bf.2.2.2; omega⟩⟩, fun z => absurd rfl z⟩
        · rw [fz.1 b (by omega) (by omega) (by omega) (by omega), m.1 b (by omega) (by omega)]
          exact yA b b2 b4 (by omega) (by omega)
        · rw [fz.2.1 k k7 k8, m.2.1 k k6 k7 k8, yA 140 (by omega) (by omega) (by omega) (by omega)]
  · have r := ref ok
    refine D_own_f0 hG (q_dHouse hG (fun c1 c2 => ⟨1, rfl, fun z => absurd z (by omega), fun _ => ⟨c1, by omega, fun lt => absurd ⟨c1, c2, lt⟩ ok, fun _ => r⟩⟩) (fun _ => ⟨0, rfl, fun _ => r, fun z => absurd rfl z⟩))
theorem clears_M {Q : List zV → zX → Prop} {G : zG} {Z : zX} {b : Int} (hG : SH G) (b0 : 600 ≤ b) (b1 : b ≤ 21000) (q : ∀ Y : zX, (∀ c : Int, c ≠ 140 → Y c = Z c) → (∀ i : Int, ¬(b ≤ i ∧ i < b + 42) → Y 140 i = Z 140 i) → (∀ i : Int, 0 ≤ i → i < 42 → Y 140 (b + i) = 0) → M_page_W Q 39 [zR 139, zI b, zI 42] [] G Y) : M_page_W Q 39 [zR 139, zI b, zI 0] [] G Z := by
  have lp : ∀ (d : Nat) (k : Int) (Y : zX), k + d = 42 → 0 ≤ k → (∀ c : Int, c ≠ 140 → Y c = Z c) → (∀ i : Int, ¬(b ≤ i ∧ i < b + k) → Y 140 i = Z 140 i) → (∀ i : Int, 0 ≤ i → i < k → Y 140 (b + i) = 0) → M_page_W Q 39 [zR 139, zI b, zI k] [] G Y := by
    intro d
    induction d with
    | zero =>
      intro k Y e k0 f g yi
      obtain rfl : k = 42 := by omega
      exact q Y f g yi
    | succ d ih =>
      intro k Y e k0 f g yi
      refine M_page_f39 hG ⟨fun _ => ⟨zw_id (by omega) (by omega), by omega, by omega, zw_id (by omega) (by omega), ih (k + 1) _ (by omega) (by omega) (fun c hc => by rw [zrd_r hc]; exact f c hc) (fun i hi => by rw [zrd_n (by omega)]; exact g i (by omega)) (fun i i0 i1 => ?_)⟩, fun z => absurd z (by omega)⟩
      by_cases ck : i = k
      · rw [ck, zrd_s]
      · rw [zrd_n (by omega)]
        exact yi i i0 (by omega)
  exact lp 42 0 Z (by omega) (Int.le_refl _) (fun _ _ => rfl) (fun _ _ => rfl) (fun i i0 i1 => absurd i1 (by omega))
theorem op_page {G : zG} {X : zX} (h : zRela G X) : D_page [zR 0] G X (fun v X1 => M_page [zR 139] G X1 (fun w X2 => w = v ∧ zRela G X2)) := by
  have hk := h
  obtain ⟨hG, hr, hn, hf, hi, hc⟩ := h
  have hs := hG.2.2
  have hp := q_pages hr
  have hl : X 140 6 = X 2 1 ∧ 0 ≤ X 2 1 ∧ X 2 1 ≤ 500 := zR_len hr
  by_cases ok : X 1 12 < 10
  · obtain ⟨a, ea⟩ : ∃ a : Int, X 1 12 = a := ⟨_, rfl⟩
    have a0 : 0 ≤ a := by omega
    have a10 : a < 10 := by omega
    have ho := zCa_at a0 a10
    have k54 : zk0 (54 + 5 * a) = 5 := by
      have z := (zCa_a ho.2).1.2
      rw [show 53 + 5 * a + 1 = 54 + 5 * a by omega] at z
      exact z
    have k134 : zk0 134 = 5 := by decide +kernel
    obtain ⟨E, eE⟩ : ∃ E : zB, zPg0 (X 3) (X 2 1) (X 4) (X 135) = E := ⟨_, rfl⟩
    have okE : zOk (X 2 1) (zXp (X 3) (X 2 1) 0 E.1) := by
      rw [← eE]
      exact zPg0_ok hl.2.1
    have bf := okE.2.2.2.2.2.2.2
    refine D_page_f0 hG ⟨fun _ => takePage_D hG (zKct_t hc) hl.2.1 hl.2.2 (fun Y r cb st => ⟨_, rfl, ?_⟩), fun z => absurd z (by omega)⟩
    rw [eE] at cb st
    obtain ⟨cr, cc, ci, crow, cfr⟩ := cb
    have yA : ∀ b : Int, b ≠ 2 → b ≠ 4 → b ≠ 134 → b ≠ 135 → Y b = X b := cfr
    have rd : ∀ (V : zX) (Q : List zV → zX → Prop), V 140 = X 140 → (∀ (U Z : zX) (r2 : Int), zTm V U 0 (-1) → zFm U Z → Z 140 7 = zqf (zXp (X 3) (X 2 1) 0 E.1) → Z 140 8 = zqq (zXp (X 3) (X 2 1) 0 E.1) → ((r2 = 1 ∧ zqf (zXp (X 3) (X 2 1) 0 E.1) = 0 ∧ Z 139 10 = E.2.2.1 ∧ (∀ k j : Int, 0 ≤ k → k < E.2.2.1 → 0 ≤ j → j < 5 → Z 143 (1 + 5 * k + j) = E.2.2.2.2 (5 * k + j))) ∨ (r2 = 0 ∧ zqf (zXp (X 3) (X 2 1) 0 E.1) ≠ 0)) → ((r2 = 0 → Q [zI (-1)] Z) ∧ (r2 ≠ 0 → M_pageAt [zI (Z 140 1)] G Z (fun v9 X10 => ∃ r12, v9 = [zI r12] ∧ M_page_W Q 39 [zR 139, zI r12, zI 0] [] G X10)))) → M_page [zR 139] G V Q := fun V Q v140 k => by
      refine M_page_f0 hG (begins_M hG (fun U m m3 m9 m10 m11 => ⟨rfl, fun z => absurd z ?_, fun _ => ?_⟩))
      · rw [m.2.1 1 (by omega) (by omega) (by omega), v140, hp.1]
        omega
      · refine reads_M (I := X 4) (R := X 135) hG hl.2.1 hl.2.2 (zTpm_b hr (by rw [v140]) (fun j _ _ => by rw [v140]) m) m3 m9 m10 m11 m.2.2.2.1 m.2.2.2.2.1 (fun Z r2 fz z7 z8 zr => ⟨_, rfl, ?_⟩)
        rw [eE] at z7 z8 zr
        exact k U Z r2 m fz z7 z8 zr
    rcases st with ⟨rfl, f0⟩ | ⟨rfl, fn⟩
    · -- the text is taken
      have tree := zPg0_t (L := X 3) (I := X 4) (R := X 135) hl.2.1 (by rw [eE]; exact f0)
      rw [eE] at tree
      obtain ⟨tr, e0, e14⟩ := tree
      obtain ⟨c, ec⟩ : ∃ c : Int, E.2.2.1 = c := ⟨_, rfl⟩
      rw [ec] at e0 e14
      have y1 : Y 1 = X 1 := yA _ (by omega) (by omega) (by omega) (by omega)
      refine ⟨fun z => absurd z (by omega), fun _ => ?_⟩
      rw [y1, ea]
      refine ⟨a0, a10, Pg_copy_f0 hG k54 k134 ⟨by omega, by omega, fun X1 e1 => ⟨rfl, ?_⟩⟩⟩
      rw [show (1 : Int) + (54 + 5 * a) = 55 + 5 * a by omega, show (1 : Int) + 134 = 135 by omega] at e1
      have x1 : X1 1 12 = a := by rw [e1, zrd_r (by omega), zsa_n (by omega), y1]; exact ea
      rw [x1, zrd_s]
      refine ⟨zw_id (by omega) (by omega), zw_id (by omega) (by omega), ?_⟩
      rw [show a + 1 - 1 = a by omega]
      obtain ⟨V, eV⟩ : ∃ V : zX, V = zst X1 1 12 (a + 1) := ⟨_, rfl⟩
      rw [← eV]
      have vA : ∀ b : Int, b ≠ 1 → b ≠ 2 → b ≠ 4 → b ≠ 134 → b ≠ 135 → b ≠ 54 + 5 * a → b ≠ 55 + 5 * a → V b = X b := fun b b1 b2 b4 b5 b6 b7 b8 => by
        rw [eV, zrd_r b1, e1, zrd_r b7, zsa_n b8]
        exact yA b b2 b4 b5 b6
      have v1n : ∀ i : Int, i ≠ 12 → V 1 i = X 1 i := fun i hi => by
        rw [eV, zrd_n (by omega), e1, zrd_r (by omega), zsa_n (by omega), y1]
      have v1s : V 1 12 = a + 1 := by rw [eV, zrd_s]
      have v54n : ∀ i : Int, i ≠ 1 → V (54 + 5 * a) i = X (54 + 5 * a) i := fun i hi => by
        rw [eV, zrd_r (by omega), e1, zrd_n (by omega), zsa_n (by omega), yA _ (by omega) (by omega) (by omega) (by omega)]
      have v54s : V (54 + 5 * a) 1 = c := by
        rw [eV, zrd_r (by omega), e1, zrd_s, zsa_n (by omega), ← ec]
        exact cc
      have v55 : ∀ j : Int, 0 ≤ j → j < 70 → V (55 + 5 * a) j = E.2.2.2.2 j := fun j j0 j1 => by
        rw [eV, zrd_r (by omega), e1, zrd_r (by omega), zsa_s]
        unfold zcpy
        rw [if_pos (by omega), show (0 : Int) + (j - 0) = j by omega]
        exact crow j j0 j1
      have v2 : V 2 = Y 2 := by rw [eV, zrd_r (by omega), e1, zrd_r (by omega), zsa_n (by omega)]
      refine rd V _ (vA 140 (by omega) (by omega) (by omega) (by omega) (by omega) (by omega) (by omega)) (fun U Z r2 m fz z7 z8 zr => ?_)
      rcases zr with ⟨rfl, _, zb, zrow⟩ | ⟨_, zf⟩
      · have v140 : V 140 = X 140 := vA 140 (by omega) (by omega) (by omega) (by omega) (by omega) (by omega) (by omega)
        have zA : ∀ i : Int, i ≠ 6 → i ≠ 7 → i ≠ 8 → Z 140 i = X 140 i := fun i i6 i7 i8 => by rw [fz.2.1 i i7 i8, m.2.1 i i6 i7 i8, v140]
        have z1 : Z 140 1 = a := by
          rw [zA _ (by omega) (by omega) (by omega), hp.1]
          exact ea
        refine ⟨fun z => absurd z (by omega), fun _ => ?_⟩
        rw [z1]
        refine q_pageAt hG a0 a10 ⟨_, rfl, clears_M hG (by omega) (by omega) (fun C cf cg ch => M_page_f39 hG ⟨fun z => absurd z (by omega), fun _ => ⟨zw_id (by omega) (by omega), by omega, by omega, zw_id (by omega) (by omega), by omega, by omega, zw_id (by omega) (by omega), keeps_M hG (c := c) (by omega) (by omega) ?_ e0 e14 (fun P pf pg pa pr => ⟨rfl, ?_⟩)⟩⟩)⟩
        · rw [zrd_r (by omega), zrd_r (by omega), cf 139 (by omega)]
          exact zb.trans ec
        have p1 : P 140 1 = a := by
          rw [pg 1 (by omega), zrd_n (by omega), zrd_n (by omega), cg 1 (by omega)]
          exact z1
        rw [p1, zrd_s]
        refine ⟨zw_id (by omega) (by omega), zw_id (by omega) (by omega), ?_⟩
        rw [show a + 1 - 1 = a by omega]
        obtain ⟨W, eW⟩ : ∃ W : zX, W = zst P 140 1 (a + 1) := ⟨_, rfl⟩
        rw [← eW]
        have wV : ∀ b : Int, b ≠ 139 → b ≠ 140 → b ≠ 142 → b ≠ 143 → W b = V b := fun b b1 b2 b3 b4 => by
          rw [eW, zrd_r b2, pf b b2, zrd_r b2, zrd_r b2, cf b b2, fz.1 b b1 b2 b3 b4, m.1 b b1 b2]
        have wB : ∀ i : Int, i ≠ 1 → i ≠ 6 → i ≠ 7 → i ≠ 8 → ¬(2670 + 210 * a ≤ i ∧ i < 2880 + 210 * a) → W 140 i = X 140 i := fun i i1 i6 i7 i8 ib => by
          rw [eW, zrd_n (by omega), pg i (by omega), zrd_n (by omega), zrd_n (by omega), cg i (by omega)]
          exact zA i i6 i7 i8
        have wb : ∀ i : Int, i = 6 ∨ i = 7 ∨ i = 8 → W 140 i = Z 140 i := fun i hi => by
          rw [eW, zrd_n (by omega), pg i (by omega), zrd_n (by omega), zrd_n (by omega)]
          exact cg i (by omega)
        have w1s : W 140 1 = a + 1 := by rw [eW, zrd_s]
        have wz : ∀ i : Int, 0 ≤ i → i < 42 → W 140 (2670 + 210 * a + i) = 0 := fun i i0 i1 => by
          rw [eW, zrd_n (by omega), pg _ (by omega), zrd_n (by omega), zrd_n (by omega)]
          exact ch i i0 i1
        have wlin : W 140 (2790 + 210 * a) = 0 := by
          rw [eW, zrd_n (by omega), pg _ (by omega), zrd_n (by omega), show 2670 + 210 * a + 120 = 2790 + 210 * a by omega, zrd_s]
        have wpic : W 140 (2872 + 210 * a) = 0 := by
          rw [eW, zrd_n (by omega), pg _ (by omega), show 2670 + 210 * a + 202 = 2872 + 210 * a by omega, zrd_s]
        have wcn : W 140 (2712 + 210 * a) = c := by
          rw [eW, zrd_n (by omega), show 2712 + 210 * a = 2670 + 210 * a + 42 by omega]
          exact pa
        have wrw : ∀ k j : Int, 0 ≤ k → k < c → 0 ≤ j → j < 5 → W 140 (2712 + 210 * a + (1 + 5 * k + j)) = E.2.2.2.2 (5 * k + j) := fun k j k0 k1 j0 j1 => by
          rw [eW, zrd_n (by omega), show 2712 + 210 * a + (1 + 5 * k + j) = 2670 + 210 * a + 42 + (1 + 5 * k + j) by omega, pr (1 + 5 * k + j) (by omega) (by omega), zrd_r (by omega), zrd_r (by omega), cf 143 (by omega), show (1 : Int) + 5 * k + j = 1 + 5 * k + j from rfl]
          exact zrow k j k0 (by omega) j0 j1
        have w6 : W 140 6 = 0 := by rw [wb 6 (by omega), fz.2.1 6 (by omega) (by omega)]; exact m.2.2.1
        have w2 : W 2 = Y 2 := (wV 2 (by omega) (by omega) (by omega) (by omega)).trans v2
        have wA : ∀ b : Int, b ≠ 1 → b ≠ 2 → b ≠ 4 → b < 103 ∨ b = 141 ∨ 166 ≤ b → b ≠ 54 + 5 * a → b ≠ 55 + 5 * a → W b = X b := fun b b1 b2 b4 hb b7 b8 => by
          rw [wV b (by omega) (by omega) (by omega) (by omega)]
          exact vA b b1 b2 b4 (by omega) (by omega) b7 b8
        have w1n : ∀ i : Int, i ≠ 12 → W 1 i = X 1 i := fun i hi => by rw [wV _ (by omega) (by omega) (by omega) (by omega)]; exact v1n i hi
        have wc1 : W 1 12 = a + 1 := by rw [wV _ (by omega) (by omega) (by omega) (by omega)]; exact v1s
        have w54n : ∀ i : Int, i ≠ 1 → W (54 + 5 * a) i = X (54 + 5 * a) i := fun i hi => by rw [wV _ (by omega) (by omega) (by omega) (by omega)]; exact v54n i hi
        have w54s : W (54 + 5 * a) 1 = c := by rw [wV _ (by omega) (by omega) (by omega) (by omega)]; exact v54s
        have w55 : ∀ j : Int, 0 ≤ j → j < 70 → W (55 + 5 * a) j = E.2.2.2.2 j := fun j j0 j1 => by rw [wV _ (by omega) (by omega) (by omega) (by omega)]; exact v55 j j0 j1
        have w53 : ∀ i : Int, 4 ≤ i → i ≤ 8 → W (53 + 5 * a) i = 0 := fun i i0 i1 => by
          rw [wA _ (by omega) (by omega) (by omega) (by omega) (by omega) (by omega), show 53 + 5 * a = 1 + 52 + 5 * a by omega]
          exact (hf.1 a i (by omega) a10 i0 i1).1
        have x : zXs G X G W 0 0 := ⟨Nat.le_refl _, fun _ _ => ⟨rfl, rfl⟩, fun _ _ _ _ => rfl, fun b hb _ => wA b (by omega) (by omega) (by omega) (by omega) (by omega) (by omega), wA 141 (by omega) (by omega) (by omega) (by omega) (by omega) (by omega), fun i hi => wB i (by omega) (by omega) (by omega) (by omega) (by omega)⟩
        have w5 : W 5 = X 5 := wA 5 (by omega) (by omega) (by omega) (by omega) (by omega) (by omega)
        refine ⟨rfl, hG, ?_, ⟨fun p p0 p1 => ?_, fun p p0 p1 => ?_⟩, ⟨fun p j p0 p1 j0 j1 => ?_, fun p j p0 p1 j0 j1 => ?_⟩, zIgs_x hG x (by omega) hi, zKct_x hG x (by omega) (by rw [w5]; exact ⟨hc.2.2.2.2.2.2.1, hc.2.2.2.2.2.2.2⟩) hc⟩
        · generalize hT : (fun b i : Int => if (b = 1 ∧ i = 12) ∨ (b = 54 + 5 * a ∧ i = 1) ∨ b = 55 + 5 * a ∨ (b = 140 ∧ i = 1) ∨ (b = 140 ∧ 2670 + 210 * a ≤ i ∧ i < 2880 + 210 * a) then X b i else W b i) = T
          have tp : ∀ b i : Int, ((b = 1 ∧ i = 12) ∨ (b = 54 + 5 * a ∧ i = 1) ∨ b = 55 + 5 * a ∨ (b = 140 ∧ i = 1) ∨ (b = 140 ∧ 2670 + 210 * a ≤ i ∧ i < 2880 + 210 * a)) → T b i = X b i := fun b i q => by rw [← hT]; exact if_pos q
          have tn : ∀ b i : Int, ¬((b = 1 ∧ i = 12) ∨ (b = 54 + 5 * a ∧ i = 1) ∨ b = 55 + 5 * a ∨ (b = 140 ∧ i = 1) ∨ (b = 140 ∧ 2670 + 210 * a ≤ i ∧ i < 2880 + 210 * a)) → T b i = W b i := fun b i q => by rw [← hT]; exact if_neg q
          have tR : zRT T 1 0 := by
            refine zTd_RT (f := zqf (zXp (X 3) (X 2 1) 0 E.1)) (p := zqq (zXp (X 3) (X 2 1) 0 E.1)) hr (fun b i r ne => ?_) ?_ ?_ ?_ ?_ ?_ ?_ ⟨bf.1, bf.2.1⟩ ⟨bf.2.2.1, by have := bf.2.2.2; omega⟩
            · by_cases q : (b = 1 ∧ i = 12) ∨ (b = 54 + 5 * a ∧ i = 1) ∨ b = 55 + 5 * a ∨ (b = 140 ∧ i = 1) ∨ (b = 140 ∧ 2670 + 210 * a ≤ i ∧ i < 2880 + 210 * a)
              · exact tp b i q
              · rw [tn b i q]
                by_cases q1 : b = 1
                · rw [q1]
                  exact w1n i (by omega)
                · by_cases q2 : b = 54 + 5 * a
                  · rw [q2]
                    exact w54n i (by omega)
                  · by_cases q3 : b = 140
                    · rw [q3]
                      exact wB i (by omega) (by omega) (by omega) (by omega) (by omega)
                    · rw [wA b q1 (by omega) (by omega) (by omega) q2 (by omega)]
            · rw [tn 2 1 (by omega), w2]
              exact cr.2.2.2.2.2.2.2.1
            · rw [tn 140 6 (by omega)]
              exact w6
            · rw [tn 2 2 (by omega), w2]
              exact cr.2.2.2.2.1
            · rw [tn 140 7 (by omega), wb 7 (by omega)]
              exact z7
            · rw [tn 2 3 (by omega), w2]
              exact cr.2.2.2.2.2.1
            · rw [tn 140 8 (by omega), wb 8 (by omega)]
              exact z8
          have e53 : (1 : Int) + 52 + 5 * a = 53 + 5 * a := by omega
          have e54 : (1 : Int) + 53 + 5 * a = 54 + 5 * a := by omega
          have e55 : (1 : Int) + 54 + 5 * a = 55 + 5 * a := by omega
          refine zV_page tR a0 a10 (fun b i _ ne => (tn b i (by omega)).symm) (fun p p0 p3 => ?_) ?_ ?_ ?_ ?_ ?_ ?_ (fun j j0 _ j2 => ?_) (fun j j0 _ j2 => ?_) (fun j j0 _ j2 => ?_) (fun i j i0 ij j1 lt => ?_)
          · have zc := hr.1 p p0 p3
            show W 140 (0 + 0 + p) = W 1 (11 + p) ∧ _
            by_cases c1 : p = 1
            · rw [c1]
              show W 140 1 = W 1 12 ∧ 0 ≤ W 1 12 ∧ ((1 : Int) = 0 → W 1 12 ≤ 5) ∧ ((1 : Int) = 1 → W 1 12 ≤ 10) ∧ ((1 : Int) = 2 → W 1 12 ≤ 16)
              rw [w1s, wc1]
              omega
            · rw [show (0 : Int) + 0 + p = p by omega, show (1 : Int) + 0 = 1 by omega] at zc ⊢
              rw [wB p c1 (by omega) (by omega) (by omega) (by omega), w1n (11 + p) (by omega)]
              exact zc
          · rw [e53, w53 4 (by omega) (by omega), show (0 : Int) + 2683 + 210 * a = 2670 + 210 * a + 13 by omega, wz 13 (by omega) (by omega)]
            omega
          · rw [e53, w53 5 (by omega) (by omega), show (0 : Int) + 2684 + 210 * a = 2670 + 210 * a + 14 by omega, wz 14 (by omega) (by omega)]
            omega
          · rw [e53, w53 6 (by omega) (by omega), show (0 : Int) + 2872 + 210 * a = 2872 + 210 * a by omega, wpic]
            omega
          · rw [e53, w53 7 (by omega) (by omega), show (0 : Int) + 2685 + 210 * a = 2670 + 210 * a + 15 by omega, wz 15 (by omega) (by omega)]
            omega
          · rw [e53, w53 8 (by omega) (by omega), show (0 : Int) + 2790 + 210 * a = 2790 + 210 * a by omega, wlin]
            omega
          · rw [e54, w54s, show (0 : Int) + 2712 + 210 * a = 2712 + 210 * a by omega, wcn]
            omega
          · rw [e54, w54s] at j2
            have g := zRow_k tr j0 (by omega : j < E.2.2.1)
            rw [e55, show (0 : Int) + 2713 + 210 * a + 5 * j = 2712 + 210 * a + (1 + 5 * j + 0) by omega, show (0 : Int) + 2714 + 210 * a + 5 * j = 2712 + 210 * a + (1 + 5 * j + 1) by omega, show (0 : Int) + 2715 + 210 * a + 5 * j = 2712 + 210 * a + (1 + 5 * j + 2) by omega, show (0 : Int) + 2716 + 210 * a + 5 * j = 2712 + 210 * a + (1 + 5 * j + 3) by omega, show (0 : Int) + 2717 + 210 * a + 5 * j = 2712 + 210 * a + (1 + 5 * j + 4) by omega]
            rw [wrw j 0 j0 j2 (by omega) (by omega), wrw j 1 j0 j2 (by omega) (by omega), wrw j 2 j0 j2 (by omega) (by omega), wrw j 3 j0 j2 (by omega) (by omega), wrw j 4 j0 j2 (by omega) (by omega), show 5 * j + 0 = 5 * j by omega, w55 (5 * j) (by omega) (by omega), w55 (5 * j + 1) (by omega) (by omega), w55 (5 * j + 2) (by omega) (by omega), w55 (5 * j + 3) (by omega) (by omega), w55 (5 * j + 4) (by omega) (by omega)]
            exact ⟨⟨rfl, g.1⟩, ⟨rfl, g.2.1⟩, ⟨rfl, g.2.2.1⟩, ⟨rfl, g.2.2.2.1⟩, ⟨rfl, g.2.2.2.2⟩⟩
          · rw [e53, w53 7 (by omega) (by omega)] at j2
            exact absurd j2 (by omega)
          · rw [e53, w53 8 (by omega) (by omega)] at j2
            exact absurd j2 (by omega)
          · rw [e54, w54s] at j1
            rw [e55] at lt ⊢
            rw [w55 (5 * j + 2) (by omega) (by omega)] at lt ⊢
            rw [w55 (5 * i + 2) (by omega) (by omega)]
            exact tr.2.2.2.2 i j i0 ij (by omega) lt
        · by_cases cp : p = a
          · refine Or.inl ⟨(hf.1 p 4 (by omega) p1 (by omega) (by omega)).2, ?_⟩
            rw [cp, show (0 : Int) + 2670 + 210 * a = 2670 + 210 * a + 0 by omega]
            exact wz 0 (by omega) (by omega)
          · exact zNas_x x (by omega) (fun i i0 i1 => wB _ (by omega) (by omega) (by omega) (by omega) (by rcases (by omega : p < a ∨ a < p) with hx | hx <;> omega)) (hn.1 p p0 p1)
        · rw [w1n 11 (by omega)] at p1
          have := (zRT_in hr).2.2.2
          exact zNv_x x (by omega) (fun i i0 i1 => wB _ (by omega) (by omega) (by omega) (by omega) (by omega)) (hn.2 p p0 p1)
        · rw [wc1] at p0
          rw [wA _ (by omega) (by omega) (by omega) (by omega) (by omega) (by omega)]
          exact hf.1 p j (by omega) p1 j0 j1
        · rw [w1n 11 (by omega)] at p0
          have := (zRT_in hr).2.2.1
          rw [wA _ (by omega) (by omega) (by omega) (by omega) (by omega) (by omega)]
          exact hf.2 p j (by omega) p1 j0 j1
      · exact absurd f0 zf
    · -- a FAULT
      refine ⟨fun _ => rd Y _ (yA 140 (by omega) (by omega) (by omega) (by omega)) (fun U Z r2 m fz z7 z8 zr => ?_), fun z => absurd rfl z⟩
      rcases zr with ⟨_, zf, _⟩ | ⟨rfl, _⟩
      · exact absurd zf fn
      · have z2 : Z 2 = Y 2 := (fz.1 2 (by omega) (by omega) (by omega) (by omega)).trans (m.1 2 (by omega) (by omega))
        refine ⟨fun _ => ⟨rfl, ?_⟩, fun z => absurd rfl z⟩
        have fl := zFlt (W := Z) hr (fun b b2 b4 hb => ?_) (fun k k6 k7 k8 => ?_) (by rw [z2]; exact cr.2.2.2.2.2.2.2.1) (by rw [fz.2.1 6 (by omega) (by omega)]; exact m.2.2.1) (by rw [z2]; exact cr.2.2.2.2.1) z7 (by rw [z2]; exact cr.2.2.2.2.2.1) z8 ⟨bf.1, bf.2.1⟩ ⟨bf.2.2.1, by have := bf.2.2.2; omega⟩
        · exact zRela_k hk fl.1 fl.2
        · rw [fz.1 b (by omega) (by omega) (by omega) (by omega), m.1 b (by omega) (by omega)]
          exact yA b b2 b4 (by omega) (by omega)
        · rw [fz.2.1 k k7 k8, m.2.1 k k6 k7 k8, yA 140 (by omega) (by omega) (by omega) (by omega)]
  · refine D_page_f0 hG ⟨fun z => absurd z ok, fun _ => take_D hG (fun Y t => ⟨rfl, M_page_f0 hG (begins_M hG (fun U m _ _ _ _ => ⟨rfl, fun _ => ⟨rfl, ?_⟩, fun z => absurd ?_ z⟩))⟩)⟩
    · have z := zTt hr t m (by omega) (by omega)
      exact zRela_k hk z.1 z.2
    · rw [m.2.1 1 (by omega) (by omega) (by omega), t.1 140 (by omega), hp.1]
      omega
