/-! word -/
theorem zFst_h {P : Int → Prop} : ∀ (d : Nat) (k : Int), 0 ≤ zFst P d k → P (zFst P d k)
  | 0, k, h => absurd h (by unfold zFst; omega)
  | d + 1, k, h => by
    by_cases c : P k
    · rw [zFst_p c]
      exact c
    · rw [zFst_n c] at h ⊢
      exact zFst_h d (k + 1) h
theorem zWd_p {X : zX} {L : Int → Int} {fr n : Int} (h : 0 ≤ zWd X L fr n) : zPw X L fr n (zWd X L fr n) := zFst_h (P := zPw X L fr n) _ _ h
def zRb (dg c : Int) : Prop := ¬(97 ≤ c ∧ c ≤ 122) ∧ ¬(dg ≠ 0 ∧ 48 ≤ c ∧ c ≤ 57)
/-- what is wrong with a row of n signs, the first bad one at J -/
def zRwf (J n most f p : Int) : Prop := (0 ≤ J ∧ f = 1 ∧ p = J) ∨ (J = -1 ∧ n = 0 ∧ f = 1 ∧ p = 0) ∨ (J = -1 ∧ n ≠ 0 ∧ most < n ∧ f = 2 ∧ p = most)
theorem takeRow_D {Q : List zV → zX → Prop} {G : zG} {X : zX} {J most dg : Int} (hG : SH G) (h : zRT X 1 0) (m0 : 0 ≤ most) (hJ : zBd (zRb dg) (X 3) (X 2 1) = J) (q1 : J = -1 → X 2 1 ≠ 0 → X 2 1 ≤ most → ∀ X2 : zX, zTp X X2 0 (-1) → Q [zI 1] X2) (q0 : ∀ (f p : Int) (X2 : zX), zRwf J (X 2 1) most f p → zTp X X2 f p → Q [zI 0] X2) : Ta_takeRow [zR 2, zI most, zI dg] G X Q := by
  have hl : X 140 6 = X 2 1 ∧ 0 ≤ X 2 1 ∧ X 2 1 ≤ 500 := zR_len h
  have f79 : ∀ (f p : Int) (Y : zX), (zRwf J (X 2 1) most f p) → f ≠ 0 → zTp X Y f p → Ta_takeRow_W Q 79 [zR 2, zT, zT, zT, zT] [] G Y := fun f p Y r f0 t =>
    Ta_takeRow_f79 hG ⟨fun z => absurd z (by have := t.2.2.2.1; omega), fun _ => q0 f p Y r t⟩
  have lp : ∀ (d : Nat) (i : Int) (Y : zX), i + d = X 2 1 → 0 ≤ i → ((zTp X Y 0 (-1) ∧ zFst (fun i => zRb dg (X 3 i)) d i = J) ∨ (zTp X Y 1 J ∧ 0 ≤ J)) → Ta_takeRow_W Q 6 [zR 2, zI most, zI dg, zI i, zT] [] G Y := by
    intro d
    induction d with
    | zero =>
      intro i Y e i0 c
      rcases c with ⟨c, f⟩ | ⟨c, j0⟩
      · have f2 : (-1 : Int) = J := f
        have e4 : Y 2 4 = X 2 1 := c.2.2.1
        have e2 : Y 2 2 = 0 := c.2.2.2.1
        refine Ta_takeRow_f6 hG ⟨fun z => absurd z (by omega), fun _ => ⟨fun z => stuck_D hG (fun f1 => absurd f1 (by omega)) (fun _ => ⟨rfl, ?_⟩), fun z => Ta_takeRow_f65 hG ⟨fun lt => Ta_wrong_f0 hG ⟨fun _ => ⟨rfl, ?_⟩, fun y => absurd e2 y⟩, fun ge => Ta_takeRow_f79 hG ⟨fun _ => q1 f2.symm (by omega) (by omega) Y c, fun y => absurd e2 y⟩⟩⟩⟩
        · have t2 := zTp_f (f2 := 1) (p2 := 0) c
          refine Ta_takeRow_f65 hG ⟨fun lt => absurd lt (by rw [t2.2.2.1]; omega), fun _ => f79 1 0 _ (Or.inr (Or.inl ⟨f2.symm, by omega, rfl, rfl⟩)) (by omega) t2⟩
        · exact f79 2 most _ (Or.inr (Or.inr ⟨f2.symm, by omega, by omega, rfl, rfl⟩)) (by omega) (zTp_f c)
      · have e4 : Y 2 4 = X 2 1 := c.2.2.1
        have e2 : Y 2 2 = 1 := c.2.2.2.1
        have fin := f79 1 J Y (Or.inl ⟨j0, rfl, rfl⟩) (by omega) c
        have f65 : Ta_takeRow_W Q 65 [zR 2, zI most, zT, zT, zT] [] G Y := Ta_takeRow_f65 hG ⟨fun lt => Ta_wrong_f0 hG ⟨fun y => absurd y (by omega), fun _ => ⟨rfl, fin⟩⟩, fun ge => fin⟩
        exact Ta_takeRow_f6 hG ⟨fun z => absurd z (by omega), fun _ => ⟨fun z => stuck_D hG (fun _ => ⟨rfl, f65⟩) (fun f1 => absurd e2 f1), fun z => f65⟩⟩
    | succ d ih =>
      intro i Y e i0 c
      have e4 : Y 2 4 = X 2 1 := by
        rcases c with c | c
        · exact c.1.2.2.1
        · exact c.1.2.2.1
      have e3 : Y 3 = X 3 := by
        rcases c with c | c
        · exact c.1.1 3 (by omega)
        · exact c.1.1 3 (by omega)
      have go : ∀ Y2 : zX, ((zTp X Y2 0 (-1) ∧ zFst (fun i => zRb dg (X 3 i)) d (i + 1) = J) ∨ (zTp X Y2 1 J ∧ 0 ≤ J)) → zw (i + 1) = i + 1 ∧ Ta_takeRow_W Q 6 [zR 2, zI most, zI dg, zI (i + 1), zT] [] G Y2 := fun Y2 c2 => ⟨zw_id (by omega) (by omega), ih (i + 1) Y2 (by omega) (by omega) c2⟩
      have skip : ¬zRb dg (Y 3 i) → zw (i + 1) = i + 1 ∧ Ta_takeRow_W Q 6 [zR 2, zI most, zI dg, zI (i + 1), zT] [] G Y := fun nb => go Y (by
        rw [e3] at nb
        rcases c with ⟨c, f⟩ | c
        · rw [zFst_n (P := fun i => zRb dg (X 3 i)) nb] at f
          exact Or.inl ⟨c, f⟩
        · exact Or.inr c)
      have bad : zRb dg (Y 3 i) → Ta_takeRow_W Q 42 [zR 2, zI most, zI dg, zI i, zT] [] G Y := fun b => by
        rw [e3] at b
        refine Ta_takeRow_f42 hG (stuck_D hG (fun f1 => ⟨rfl, ?_⟩) (fun f1 => ⟨rfl, ?_⟩))
        · rcases c with ⟨c, f⟩ | c
          · exact absurd c.2.2.2.1 (by omega)
          · exact go Y (Or.inr c)
        · rcases c with ⟨c, f⟩ | c
          · rw [zFst_p (P := fun i => zRb dg (X 3 i)) b] at f
            rw [← f] at go
            exact go _ (Or.inr ⟨zTp_f c, i0⟩)
          · exact absurd c.1.2.2.2.1 f1
      exact Ta_takeRow_f6 hG ⟨fun _ => ⟨i0, by omega, q_dLetter hG (fun cl => ⟨1, rfl, fun z => absurd z (by omega), fun _ => skip (fun b => b.1 cl)⟩) (fun cl => ⟨0, rfl, fun _ => ⟨fun d0 => bad ⟨cl, fun z => z.1 d0⟩, fun d1 => q_dDigit hG (fun cd => ⟨1, rfl, fun z => absurd z (by omega), fun _ => skip (fun b => b.2 ⟨d1, cd⟩)⟩) (fun cd => ⟨0, rfl, fun _ => bad ⟨cl, fun z => cd z.2⟩, fun z => absurd rfl z⟩)⟩, fun z => absurd rfl z⟩)⟩, fun z => absurd z (by omega)⟩
  exact Ta_takeRow_f0 hG (take_D hG (fun X1 t1 => ⟨rfl, lp (X 2 1).toNat 0 X1 (by omega) (by omega) (Or.inl ⟨t1, hJ⟩)⟩))
/-- the class's word put down -/
theorem tellWord_D {Q : List zV → zX → Prop} {G : zG} {X : zX} {n m : Int} (hG : SH G) (hc : zCcl X) (n1 : 1 ≤ n) (n8 : n ≤ 8) (q2 : zWd X (X 3) 0 n = -1 → X 9 6 = 20 → Q [zI (-2)] X) (q : ∀ k : Int, 0 ≤ k → k < 20 → (zWd X (X 3) 0 n = k ∧ k < X 9 6 ∨ zWd X (X 3) 0 n = -1 ∧ k = X 9 6) → Q [zI k] (zst (zst (zst (zsa X 10 (zcpy (X 3) (X 10) 0 (k * 8) n)) 11 k n) 12 k m) 9 6 (max (X 9 6) (k + 1)))) : Sp_tellWord [zR 9, zR 3, zI n, zI m] G X Q := by
  have hw : 0 ≤ X 9 6 ∧ X 9 6 ≤ 20 := hc.2.1
  have f30 : ∀ k : Int, 0 ≤ k → (zWd X (X 3) 0 n = k ∧ k < X 9 6 ∨ zWd X (X 3) 0 n = -1 ∧ k = X 9 6) → Sp_tellWord_W Q 30 [zR 9, zR 3, zI n, zI m, zI k] [] G X := fun k k0 ck => by
    refine Sp_tellWord_f30 hG ⟨fun lt => ⟨fun z => absurd z (by omega), fun _ => ⟨zw_id (by omega) (by omega), by omega, by omega, by omega, by omega, k0, lt, zw_id (by omega) (by omega), fun r1 e1 => ?_⟩⟩, fun ge => q2 (by omega) (by omega)⟩
    rw [e1, show (zst (zst (zsa X 10 (zcpy (X 3) (X 10) 0 (k * 8) n)) 11 k n) 12 k m) 9 6 = X 9 6 by rw [zrd_n (by omega), zrd_n (by omega), zsa_n (by omega)]]
    exact q k k0 lt ck
  have lp : ∀ (d : Nat) (k : Int), k + d = X 9 6 → 0 ≤ k → zFst (zPw X (X 3) 0 n) d k = zWd X (X 3) 0 n → Sp_tellWord_W Q 3 [zR 9, zR 3, zI n, zI m, zI k] [] G X := by
    intro d
    induction d with
    | zero =>
      intro k e k0 z
      have z2 : (-1 : Int) = zWd X (X 3) 0 n := z
      exact Sp_tellWord_f3 hG ⟨fun y => absurd y (by omega), fun _ => f30 k k0 (Or.inr ⟨z2.symm, by omega⟩)⟩
    | succ d ih =>
      intro k e k0 z
      refine Sp_tellWord_f3 hG ⟨fun _ => isWord_C hG hc rfl rfl k0 (by omega) (by omega) (by omega) (by omega) (fun p => ⟨1, rfl, fun y => absurd y (by omega), fun _ => ?_⟩) (fun p => ⟨0, rfl, fun _ => ⟨zw_id (by omega) (by omega), ?_⟩, fun y => absurd rfl y⟩), fun y => absurd y (by omega)⟩
      · rw [show n - 0 = n by omega] at p
        rw [zFst_p p] at z
        exact f30 k k0 (Or.inl ⟨z.symm, by omega⟩)
      · rw [show n - 0 = n by omega] at p
        rw [zFst_n p] at z
        exact ih (k + 1) (by omega) (by omega) z
  exact Sp_tellWord_f0 hG (lp (X 9 6).toNat 0 (by omega) (by omega) rfl)
/-- the reference's first word that is the same, in a state of which the reference's numbers alone are known -/
theorem wordAt_N {Q : List zV → zX → Prop} {G : zG} {X : zX} {fr n : Int} (hG : SH G) (hw : 0 ≤ X 140 5006 ∧ X 140 5006 ≤ 20) (f0 : 0 ≤ fr) (f1 : fr ≤ 5511) (n0 : 0 ≤ n) (n1 : n ≤ 500) (q : Q [zI (zFst (zPm X fr n) (X 140 5006).toNat 0)] X) : M_wordAt [zR 139, zI fr, zI n] G X Q := by
  have lp : ∀ (d : Nat) (k : Int), k + d = X 140 5006 → 0 ≤ k → zFst (zPm X fr n) d k = zFst (zPm X fr n) (X 140 5006).toNat 0 → M_wordAt_W Q 2 [zR 139, zI fr, zI n, zI k] [] G X := by
    intro d
    induction d with
    | zero =>
      intro k ek k0 z
      rw [← z] at q
      exact M_wordAt_f2 hG ⟨fun z => absurd z (by omega), fun _ => q⟩
    | succ d ih =>
      intro k ek k0 z
      refine M_wordAt_f2 hG ⟨fun _ => ⟨by rw [zw_id (x := 10 * k) (by omega) (by omega)]; exact zw_id (by omega) (by omega), isSaid_M hG k0 (by omega) f0 f1 n0 n1 (fun p => ⟨1, rfl, fun y => absurd y (by omega), fun _ => ?_⟩) (fun p => ⟨0, rfl, fun _ => ⟨zw_id (by omega) (by omega), ?_⟩, fun y => absurd rfl y⟩)⟩, fun y => absurd y (by omega)⟩
      · rw [zFst_p p] at z
        rw [← z] at q
        exact q
      · rw [zFst_n p] at z
        exact ih (k + 1) (by omega) (by omega) z
  exact M_wordAt_f0 hG (lp (X 140 5006).toNat 0 (by omega) (by omega) rfl)
/-- the reference reads a word: its bad place, its length -/
theorem word_M {Q : List zV → zX → Prop} {G : zG} {X : zX} {L : Int → Int} {n J m : Int} (hG : SH G) (n0 : 0 ≤ n) (n5 : n ≤ 500) (en : X 140 6 = n) (hb : ∀ j : Int, 0 ≤ j → j < n → X 140 (70 + j) = L j) (hJ : zBd (zRb 0) L n = J) (m0 : 0 ≤ m) (m7 : m ≤ 7)
    (q1 : J = -1 → n ≠ 0 → n ≤ 8 → ∀ X2 : zX, zTm X X2 0 (-1) → M_wordAt [zR 139, zI 70, zI n] G X2 (fun v1 Y => ∃ r4, v1 = [zI r4] ∧ ((r4 < 0 → (((Y 140 5006) = 20 → Q [zI (-2)] Y) ∧ ((Y 140 5006) ≠ 20 → M_word_W Q 148 [zR 139, zI m, zT, zI r4, zT] [] G Y))) ∧ (0 ≤ r4 → M_word_W Q 148 [zR 139, zI m, zT, zI r4, zT] [] G Y))))
    (q0 : ∀ (f p : Int) (X2 : zX), zRwf J n 8 f p → zTm X X2 f p → Q [zI (-1)] X2) : M_word [zR 139, zI m] G X Q := by
  refine M_word_f0 hG (begins_M hG (fun X1 t1 _ _ _ _ => ⟨rfl, q_isIn hG (fun _ _ => ⟨1, rfl, fun z => absurd z (by omega), fun _ => ?_⟩) (fun z => absurd z (by omega))⟩))
  have e2 : X1 139 2 = n := t1.2.2.2.2.2.trans en
  have f52 : ∀ b : Int, b = J → M_word_W Q 52 [zR 139, zI m, zI b, zT, zT] [] G X1 := fun b eb => by
    refine M_word_f52 hG ?_
    rw [e2, eb]
    have j1 : -1 ≤ J := by
      have z := zBd_in (P := zRb 0) (L := L) n0
      omega
    refine ⟨fun lt => ⟨fun z => ?_, fun z => ⟨fun big => ?_, fun sm => q1 (by omega) z sm X1 t1⟩⟩, fun ge => ?_⟩
    · exact M_word_f63 hG ⟨fun _ => M_word_f86 hG rfl ⟨by omega, by show (8 : Int) < 22080; omega, q0 1 0 _ (Or.inr (Or.inl ⟨by omega, z, rfl, rfl⟩)) (zTm_f t1)⟩, fun y => absurd y (by omega)⟩
    · exact q0 2 8 _ (Or.inr (Or.inr ⟨by omega, z, big, rfl, rfl⟩)) (zTm_f t1)
    · exact M_word_f63 hG ⟨fun y => absurd y (by omega), fun _ => M_word_f86 hG rfl ⟨by omega, by show (8 : Int) < 22080; omega, q0 1 J _ (Or.inl ⟨ge, rfl, rfl⟩) (zTm_f t1)⟩⟩
  have lp : ∀ (d : Nat) (i : Int), i + d = n → 0 ≤ i → zFst (fun i => zRb 0 (L i)) d i = J → M_word_W Q 21 [zR 139, zI m, zI (-1), zI i, zT] [] G X1 := by
    intro d
    induction d with
    | zero =>
      intro i e i0 f
      have f2 : (-1 : Int) = J := f
      exact M_word_f21 hG ⟨fun z => absurd z (by omega), fun _ => f52 (-1) f2⟩
    | succ d ih =>
      intro i e i0 f
      have ev : X1 140 (70 + i) = L i := (t1.2.1 _ (by omega) (by omega) (by omega)).trans (hb i i0 (by omega))
      refine M_word_f21 hG ⟨fun _ => ⟨fun _ => q_byte hG i0 (by omega) (by omega) ⟨_, rfl, ?_⟩, fun z => absurd z (by omega)⟩, fun z => absurd z (by omega)⟩
      rw [ev]
      refine q_mLetter hG (fun cl => ⟨1, rfl, fun z => absurd z (by omega), fun _ => ⟨zw_id (by omega) (by omega), ?_⟩⟩) (fun cl => ⟨0, rfl, fun _ => ⟨zw_id (by omega) (by omega), ?_⟩, fun z => absurd rfl z⟩)
      · rw [zFst_n (P := fun i => zRb 0 (L i)) (fun b => b.1 cl)] at f
        exact ih (i + 1) (by omega) (by omega) f
      · rw [zFst_p (P := fun i => zRb 0 (L i)) ⟨cl, fun z => z.1 rfl⟩] at f
        exact M_word_f21 hG ⟨fun _ => ⟨fun z => absurd z (by omega), fun _ => f52 i f⟩, fun _ => f52 i f⟩
  exact lp n.toNat 0 (by omega) (by omega) hJ
theorem op_word {G : zG} {X : zX} {a : Int} (hG : SH G) (h : zRT X 1 0) : zOp D_word M_word [zI a] [zI a] G X := by
  have hl : X 140 6 = X 2 1 ∧ 0 ≤ X 2 1 ∧ X 2 1 ≤ 500 := zR_len h
  have hwc : X 140 5006 = X 9 6 ∧ 0 ≤ X 9 6 ∧ X 9 6 ≤ 20 := zR_wcn h
  have hb : ∀ j : Int, 0 ≤ j → j < X 2 1 → X 140 (70 + j) = X 3 j := fun j j0 j1 => by
    have z := zR_byt h j j0 (by omega)
    rw [show (0 : Int) + 70 + j = 70 + j by omega] at z
    exact z.1
  have fl : ¬(0 ≤ a ∧ a ≤ 7) → D_word_W (fun v X1 => M_word [zR 139, zI a] G X1 (fun w X2 => w = v ∧ zRT X2 1 0 ∧ zKp X X2)) 10 [zR 0, zT] [] G X := fun n =>
    D_word_f10 hG (take_D hG (fun X1 t => ⟨rfl, M_word_f0 hG (begins_M hG (fun X2 m _ _ _ _ => ⟨rfl, q_isIn hG (fun a0 a7 => absurd ⟨a0, a7⟩ n) (fun _ => ⟨0, rfl, fun _ => ⟨rfl, zTt h t m (by omega) (by omega)⟩, fun z => absurd rfl z⟩)⟩))⟩))
  refine D_word_f0 hG ⟨fun a0 => fl (by omega), fun a0 => ⟨fun a8 => ?_, fun a8 => fl (by omega)⟩⟩
  generalize hn : X 2 1 = n at hl hb
  generalize hJ : zBd (zRb 0) (X 3) n = J
  have bJ := zBd_in (P := zRb 0) (L := X 3) (n := n) (by omega)
  rw [hJ] at bJ
  refine takeRow_D (J := J) hG h (by omega) (by rw [hn]; exact hJ) (fun j1 nz n8 Y t => ⟨1, rfl, fun z => absurd z (by omega), fun _ => ?_⟩) (fun f p Y r t => ⟨0, rfl, fun _ => ?_, fun z => absurd rfl z⟩)
  · rw [hn] at nz n8
    have e24 : Y 2 4 = n := t.2.2.1.trans hn
    rw [e24]
    have r9 : Y 9 = X 9 := t.1 9 (by omega)
    have r10 : Y 10 = X 10 := t.1 10 (by omega)
    have r11 : Y 11 = X 11 := t.1 11 (by omega)
    have r3 : Y 3 = X 3 := t.1 3 (by omega)
    have hc : zCcl Y := by
      unfold zCcl
      rw [r9, r11]
      exact zCcl_R h
    have ew : zWd Y (Y 3) 0 n = zWd X (X 3) 0 n := by
      unfold zWd zPw
      rw [r9, r10, r11, r3]
    have bw : -1 ≤ zWd X (X 3) 0 n ∧ zWd X (X 3) 0 n < X 9 6 ∨ X 9 6 = 0 ∧ zWd X (X 3) 0 n = -1 := by
      have z := zFst_in (P := zPw X (X 3) 0 n) (X 9 6).toNat 0 (by omega)
      unfold zWd
      omega
    -- the reference, once the class is through
    have mm : ∀ {Q2 : List zV → zX → Prop} (X2 : zX), X2 140 = X 140 → (J = -1 → n ≠ 0 → n ≤ 8 → ∀ Z : zX, zTm X2 Z 0 (-1) → (zWd X (X 3) 0 n = -1 → ((X 9 6 = 20 → Q2 [zI (-2)] Z) ∧ (X 9 6 ≠ 20 → M_word_W Q2 148 [zR 139, zI a, zT, zI (-1), zT] [] G Z))) ∧ (0 ≤ zWd X (X 3) 0 n → M_word_W Q2 148 [zR 139, zI a, zT, zI (zWd X (X 3) 0 n), zT] [] G Z)) → M_word [zR 139, zI a] G X2 Q2 := fun X2 e0 q => by
      refine word_M (L := X 3) hG hl.2.1 hl.2.2 (by rw [e0]; exact hl.1) (fun j a b => by rw [e0]; exact hb j a b) hJ (by omega) (by omega) (fun c1 c2 c3 Z m => ?_) (fun f p Z r m => absurd r (by unfold zRwf; omega))
      have e5 : Z 140 5006 = X 9 6 := by rw [m.2.1 _ (by omega) (by omega) (by omega), e0]; exact hwc.1
      have eq : zFst (zPm Z 70 n) (Z 140 5006).toNat 0 = zWd X (X 3) 0 n := by
        rw [e5]
        refine zFst_c _ _ (fun k k0 k1 => ?_)
        have z1 : zPm Z 70 n k ↔ zPm X 70 n k := by
          unfold zPm
          rw [m.2.1 _ (by omega) (by omega) (by omega), e0]
          refine and_congr_right (fun en => forall_congr' (fun i => ?_))
          refine forall_congr' (fun i0 => forall_congr' (fun i1 => ?_))
          rw [m.2.1 _ (by omega) (by omega) (by omega), m.2.1 _ (by omega) (by omega) (by omega), e0]
        rw [z1]
        refine word_same h k0 (by omega) (fun i i0 i1 => ?_)
        rw [hb i i0 i1, show (0 : Int) + i = i by omega]
      have z := q c1 c2 c3 Z m
      refine wordAt_N hG (by omega) (by omega) (by omega) (by omega) (by omega) ⟨_, rfl, ?_⟩
      rw [eq, e5]
      refine ⟨fun lt => ?_, fun ge => z.2 ge⟩
      have w1 : zWd X (X 3) 0 n = -1 := by omega
      rw [w1]
      exact z.1 w1
    refine tellWord_D hG hc (by omega) (by omega) (fun w1 w20 => ⟨_, rfl, ?_⟩) (fun k k0 k20 ck => ⟨_, rfl, ?_⟩)
    · rw [ew] at w1
      rw [r9] at w20
      refine mm Y (t.1 140 (by omega)) (fun _ _ _ Z m => ⟨fun _ => ⟨fun _ => ⟨rfl, zTt h t m (by omega) (by omega)⟩, fun z => absurd w20 z⟩, fun z => absurd z (by omega)⟩)
    · rw [ew, r9] at ck
      generalize hV : zst (zst (zst (zsa Y 10 (zcpy (Y 3) (Y 10) 0 (k * 8) n)) 11 k n) 12 k a) 9 6 (max (Y 9 6) (k + 1)) = V
      have v0 : ∀ b : Int, b ≠ 9 → b ≠ 10 → b ≠ 11 → b ≠ 12 → V b = Y b := fun b b9 b10 b11 b12 => by rw [← hV, zrd_r b9, zrd_r b12, zrd_r b11, zsa_n b10]
      have v9 : ∀ i : Int, V 9 i = if i = 6 then max (X 9 6) (k + 1) else X 9 i := fun i => by
        rw [← hV]
        by_cases c : i = 6
        · rw [c, zrd_q ⟨rfl, rfl⟩, if_pos rfl, r9]
        · rw [zrd_n (by omega), zrd_n (by omega), zrd_n (by omega), zsa_n (by omega), if_neg c, r9]
      have v10 : V 10 = zcpy (X 3) (X 10) 0 (k * 8) n := by rw [← hV, zrd_r (by omega), zrd_r (by omega), zrd_r (by omega), zsa_s, r3, r10]
      have v11 : ∀ i : Int, V 11 i = if i = k then n else X 11 i := fun i => by
        rw [← hV]
        by_cases c : i = k
        · rw [c, zrd_n (by omega), zrd_n (by omega), zrd_q ⟨rfl, rfl⟩, if_pos rfl]
        · rw [zrd_n (by omega), zrd_n (by omega), zrd_n (by omega), zsa_n (by omega), if_neg c, r11]
      have v12 : ∀ i : Int, V 12 i = if i = k then a else X 12 i := fun i => by
        rw [← hV]
        by_cases c : i = k
        · rw [c, zrd_n (by omega), zrd_q ⟨rfl, rfl⟩, if_pos rfl]
        · rw [zrd_n (by omega), zrd_n (by omega), zrd_n (by omega), zsa_n (by omega), if_neg c, t.1 12 (by omega)]
      have w140 : V 140 = X 140 := (v0 140 (by omega) (by omega) (by omega) (by omega)).trans (t.1 140 (by omega))
      -- how it ends: what the reference has put down
      have fin : ∀ U Z : zX, zTm V Z 0 (-1) → (∀ b : Int, b ≠ 140 → U b = Z b) → (∀ i : Int, i ≠ 5006 → ¬(4790 + 10 * k ≤ i ∧ i < 4800 + 10 * k) → U 140 i = Z 140 i) → U 140 5006 = max (X 9 6) (k + 1) → U 140 (4790 + 10 * k) = n → (∀ j : Int, 0 ≤ j → j < n → U 140 (4791 + 10 * k + j) = X 3 j) → (∀ j : Int, n ≤ j → j < 8 → U 140 (4791 + 10 * k + j) = Z 140 (4791 + 10 * k + j)) → U 140 (4799 + 10 * k) = a → zRT U 1 0 ∧ zKp X U := fun U Z m ua ub u5 ul uj uk um => by
        have uX : ∀ b : Int, b ≠ 2 → b ≠ 9 → b ≠ 10 → b ≠ 11 → b ≠ 12 → b ≠ 139 → b ≠ 140 → U b = X b := fun b b2 b9 b10 b11 b12 b139 b140 => by
          rw [ua b b140, m.1 b b139 b140, v0 b b9 b10 b11 b12, t.1 b b2]
        have uV : ∀ b : Int, b ≠ 139 → b ≠ 140 → U b = V b := fun b b139 b140 => by rw [ua b b140, m.1 b b139 b140]
        have u2 : U 2 = Y 2 := by rw [uV 2 (by omega) (by omega), v0 2 (by omega) (by omega) (by omega) (by omega)]
        have uB : ∀ i : Int, i ≠ 6 → i ≠ 7 → i ≠ 8 → i ≠ 5006 → ¬(4790 + 10 * k ≤ i ∧ i < 4800 + 10 * k) → U 140 i = X 140 i := fun i i6 i7 i8 i5 ik => by
          rw [ub i i5 ik, m.2.1 i i6 i7 i8, w140]
        refine ⟨?_, ?_⟩
        · generalize hW : (fun b i : Int => if (b = 9 ∧ i = 6) ∨ b = 10 ∨ b = 11 ∨ b = 12 ∨ (b = 140 ∧ 4790 ≤ i ∧ i < 4990) ∨ (b = 140 ∧ i = 5006) then X b i else U b i) = W
          have wp : ∀ b i : Int, ((b = 9 ∧ i = 6) ∨ b = 10 ∨ b = 11 ∨ b = 12 ∨ (b = 140 ∧ 4790 ≤ i ∧ i < 4990) ∨ (b = 140 ∧ i = 5006)) → W b i = X b i := fun b i c => by rw [← hW]; exact if_pos c
          have wn : ∀ b i : Int, ¬((b = 9 ∧ i = 6) ∨ b = 10 ∨ b = 11 ∨ b = 12 ∨ (b = 140 ∧ 4790 ≤ i ∧ i < 4990) ∨ (b = 140 ∧ i = 5006)) → W b i = U b i := fun b i c => by rw [← hW]; exact if_neg c
          have wR : zRT W 1 0 := by
            refine zTd_RT (f := 0) (p := -1) h (fun b i r ne => ?_) ?_ ?_ ?_ ?_ ?_ ?_ (by omega) (by omega)
            · by_cases c : (b = 9 ∧ i = 6) ∨ b = 10 ∨ b = 11 ∨ b = 12 ∨ (b = 140 ∧ 4790 ≤ i ∧ i < 4990) ∨ (b = 140 ∧ i = 5006)
              · exact wp b i c
              · rw [wn b i c]
                by_cases c9 : b = 9
                · rw [c9, uV 9 (by omega) (by omega), v9 i, if_neg (by omega)]
                · by_cases c0 : b = 140
                  · rw [c0]
                    exact uB i (by omega) (by omega) (by omega) (by omega) (by omega)
                  · rw [uX b (by omega) c9 (by omega) (by omega) (by omega) (by omega) c0]
            · rw [wn 2 1 (by omega), u2]; exact t.2.1
            · rw [wn 140 6 (by omega), ub 6 (by omega) (by omega)]; exact m.2.2.1
            · rw [wn 2 2 (by omega), u2]; exact t.2.2.2.1
            · rw [wn 140 7 (by omega), ub 7 (by omega) (by omega)]; exact m.2.2.2.1
            · rw [wn 2 3 (by omega), u2]; exact t.2.2.2.2
            · rw [wn 140 8 (by omega), ub 8 (by omega) (by omega)]; exact m.2.2.2.2.1
          refine zU_word wR (fun b i _ ne => (wn b i (by omega)).symm) ?_ ?_ ?_ ?_
          · show U 140 5006 = U 9 6 ∧ 0 ≤ U 9 6 ∧ U 9 6 ≤ 20
            rw [u5, uV 9 (by omega) (by omega), v9 6, if_pos rfl]
            omega
          · intro p j p0 p1 j0 j1
            have zl := zR_wrd h p j p0 p1 j0 j1
            have zy := zR_byt h j j0 (by omega)
            show U 140 (0 + 4791 + 10 * p + j) = U 10 (8 * p + j) ∧ 0 ≤ U 10 (8 * p + j) ∧ U 10 (8 * p + j) ≤ 255
            rw [show (0 : Int) + 4791 + 10 * p + j = 4791 + 10 * p + j by omega] at zl ⊢
            rw [uV 10 (by omega) (by omega), v10]
            unfold zcpy
            by_cases c : p = k
            · rw [c] at zl ⊢
              by_cases cj : j < n
              · rw [if_pos (by omega), uj j j0 cj, show (0 : Int) + (8 * k + j - k * 8) = j by omega]
                exact ⟨rfl, zy.2⟩
              · rw [if_neg (by omega), uk j (by omega) j1, m.2.1 _ (by omega) (by omega) (by omega), w140]
                exact zl
            · rw [if_neg (by rcases Int.lt_trichotomy p k with hx | hx | hx <;> omega), uB _ (by omega) (by omega) (by omega) (by omega) (by rcases Int.lt_trichotomy p k with hx | hx | hx <;> omega)]
              exact zl
          · intro j j0 j1
            have zl := zR_wln h j j0 j1
            show U 140 (0 + 4790 + 10 * j) = U 11 j ∧ 0 ≤ U 11 j ∧ U 11 j ≤ 8
            rw [show (0 : Int) + 4790 + 10 * j = 4790 + 10 * j by omega] at zl ⊢
            rw [uV 11 (by omega) (by omega), v11 j]
            by_cases c : j = k
            · rw [if_pos c, c, ul]
              omega
            · rw [if_neg c, uB _ (by omega) (by omega) (by omega) (by omega) (by omega)]
              exact zl
          · intro j j0 j1
            have zl := zR_wmn h j j0 j1
            show U 140 (0 + 4799 + 10 * j) = U 12 j ∧ 0 ≤ U 12 j ∧ U 12 j ≤ 7
            rw [show (0 : Int) + 4799 + 10 * j = 4799 + 10 * j by omega] at zl ⊢
            rw [uV 12 (by omega) (by omega), v12 j]
            by_cases c : j = k
            · rw [if_pos c, c, um]
              omega
            · rw [if_neg c, uB _ (by omega) (by omega) (by omega) (by omega) (by omega)]
              exact zl
        · have hq1 := q_houses h
          have hq2 := q_pages h
          exact ⟨fun b hb => uX b (by omega) (by omega) (by omega) (by omega) (by omega) (by omega) (by omega), fun i hi => uB i (by omega) (by omega) (by omega) (by omega) (by omega), uX 141 (by omega) (by omega) (by omega) (by omega) (by omega) (by omega) (by omega), fun p i _ _ _ _ => uB _ (by omega) (by omega) (by omega) (by omega) (by omega), fun p i _ _ _ _ => uB _ (by omega) (by omega) (by omega) (by omega) (by omega), by rw [uX 1 (by omega) (by omega) (by omega) (by omega) (by omega) (by omega) (by omega)], by rw [uX 1 (by omega) (by omega) (by omega) (by omega) (by omega) (by omega) (by omega)], fun p _ _ => uX _ (by omega) (by omega) (by omega) (by omega) (by omega) (by omega) (by omega), fun p _ _ => uX _ (by omega) (by omega) (by omega) (by omega) (by omega) (by omega) (by omega)⟩
      -- the meaning told anew
      have f232 : ∀ U Z : zX, zTm V Z 0 (-1) → (∀ b : Int, b ≠ 140 → U b = Z b) → (∀ i : Int, i ≠ 5006 → ¬(4790 + 10 * k ≤ i ∧ i < 4799 + 10 * k) → U 140 i = Z 140 i) → U 140 5006 = max (X 9 6) (k + 1) → U 140 (4790 + 10 * k) = n → (∀ j : Int, 0 ≤ j → j < n → U 140 (4791 + 10 * k + j) = X 3 j) → (∀ j : Int, n ≤ j → j < 8 → U 140 (4791 + 10 * k + j) = Z 140 (4791 + 10 * k + j)) → M_word_W (fun w X2 => w = [zI k] ∧ zRT X2 1 0 ∧ zKp X X2) 232 [zR 139, zI a, zT, zI k, zT] [] G U := fun U Z m ua ub u5 ul uj uk => by
        refine M_word_f232 hG ⟨by rw [zw_id (x := 10 * k) (by omega) (by omega)]; exact zw_id (by omega) (by omega), zw_id (by omega) (by omega), by omega, by omega, rfl, ?_⟩
        rw [show 4790 + 10 * k + 9 = 4799 + 10 * k by omega]
        exact fin _ Z m (fun b hb => by rw [zrd_r hb]; exact ua b hb) (fun i i5 ik => by rw [zrd_n (by omega)]; exact ub i i5 (by omega)) (by rw [zrd_n (by omega)]; exact u5) (by rw [zrd_n (by omega)]; exact ul) (fun j j0 j1 => by rw [zrd_n (by omega)]; exact uj j j0 j1) (fun j j0 j1 => by rw [zrd_n (by omega)]; exact uk j j0 j1) (by rw [zrd_q ⟨rfl, rfl⟩])
      refine mm V w140 (fun _ _ _ Z m => ?_)
      have z5 : Z 140 5006 = X 9 6 := by rw [m.2.1 _ (by omega) (by omega) (by omega), w140]; exact hwc.1
      have z2 : Z 139 2 = n := by rw [m.2.2.2.2.2, w140]; exact hl.1
      refine ⟨fun w1 => ⟨fun w20 => absurd w20 (by omega), fun w20 => ?_⟩, fun w0 => ?_⟩
      · have ek : k = X 9 6 := by omega
        refine M_word_f148 hG ⟨fun _ => ?_, fun z => absurd z (by omega)⟩
        rw [z5, ← ek]
        refine ⟨zw_id (by omega) (by omega), by rw [zw_id (x := 10 * k) (by omega) (by omega)]; exact zw_id (by omega) (by omega), by omega, by omega, fun X1 e1 => ?_⟩
        rw [zrd_n (by omega), z2] at e1
        have lp : ∀ (d : Nat) (i : Int) (U : zX), i + d = n → 0 ≤ i → (∀ b : Int, b ≠ 140 → U b = Z b) → (∀ j : Int, j ≠ 5006 → ¬(4790 + 10 * k ≤ j ∧ j < 4791 + 10 * k + i) → U 140 j = Z 140 j) → U 140 5006 = k + 1 → U 140 (4790 + 10 * k) = n → (∀ j : Int, 0 ≤ j → j < i → U 140 (4791 + 10 * k + j) = X 3 j) → M_word_W (fun w X2 => w = [zI k] ∧ zRT X2 1 0 ∧ zKp X X2) 193 [zR 139, zI a, zT, zI k, zI i] [] G U := by
          intro d
          induction d with
          | zero =>
            intro i U e i0 ua ub u5 ul uj
            have ei : i = n := by omega
            rw [ei] at ub uj
            exact M_word_f193 hG ⟨fun z => absurd z (by rw [ua 139 (by omega), z2]; omega), fun _ => f232 U Z m ua (fun j j5 jk => ub j j5 (by omega)) (by rw [u5]; omega) ul uj (fun j j0 j1 => ub _ (by omega) (by omega))⟩
          | succ d ih =>
            intro i U e i0 ua ub u5 ul uj
            refine M_word_f193 hG ⟨fun _ => ⟨by rw [zw_id (x := 10 * k) (by omega) (by omega)]; exact zw_id (by omega) (by omega), zw_id (by omega) (by omega), zw_id (by omega) (by omega), q_byte hG i0 (by rw [ua 139 (by omega), z2]; omega) (by omega) ⟨_, rfl, by omega, by omega, zw_id (by omega) (by omega), ?_⟩⟩, fun z => absurd z (by rw [ua 139 (by omega), z2]; omega)⟩
            have ev : U 140 (70 + i) = X 3 i := by
              rw [ub _ (by omega) (by omega), m.2.1 _ (by omega) (by omega) (by omega), w140]
              exact hb i i0 (by omega)
            rw [ev, show 4790 + 10 * k + 1 + i = 4791 + 10 * k + i by omega]
            refine ih (i + 1) _ (by omega) (by omega) (fun b hb => by rw [zrd_r hb]; exact ua b hb) (fun j j5 jk => by rw [zrd_n (by omega)]; exact ub j j5 (by omega)) (by rw [zrd_n (by omega)]; exact u5) (by rw [zrd_n (by omega)]; exact ul) (fun j j0 j1 => ?_)
            by_cases c : j = i
            · rw [c, zrd_q ⟨rfl, rfl⟩]
            · rw [zrd_n (by omega)]
              exact uj j j0 (by omega)
        refine lp n.toNat 0 X1 (by omega) (by omega) (fun b hb => by rw [e1, zrd_r hb, zrd_r hb]) (fun j j5 jk => by rw [e1, zrd_n (by omega), zrd_n (by omega)]) (by rw [e1, zrd_n (by omega), zrd_q ⟨rfl, rfl⟩]) (by rw [e1, zrd_q ⟨rfl, rfl⟩]) (fun j j0 j1 => by omega)
      · have ek : zWd X (X 3) 0 n = k := by omega
        rw [ek]
        have pw : zPw X (X 3) 0 n k := by
          have z := zWd_p (X := X) (L := X 3) (fr := 0) (n := n) w0
          rw [ek] at z
          exact z
        have zP : ∀ i : Int, i ≠ 6 → i ≠ 7 → i ≠ 8 → Z 140 i = X 140 i := fun i i6 i7 i8 => by rw [m.2.1 i i6 i7 i8, w140]
        refine M_word_f148 hG ⟨fun z => absurd z (by omega), fun _ => ?_⟩
        refine f232 Z Z m (fun _ _ => rfl) (fun _ _ _ => rfl) (by rw [z5]; omega) ?_ (fun j j0 j1 => ?_) (fun _ _ _ => rfl)
        · have zl := zR_wln h k k0 k20
          rw [zP _ (by omega) (by omega) (by omega), ← pw.1]
          rw [show (0 : Int) + 4790 + 10 * k = 4790 + 10 * k by omega] at zl
          exact zl.1
        · have zl := zR_wrd h k j k0 k20 j0 (by omega)
          have y := pw.2 j j0 j1
          rw [show (0 : Int) + j = j by omega] at y
          rw [show (0 : Int) + 4791 + 10 * k + j = 4791 + 10 * k + j by omega] at zl
          rw [zP _ (by omega) (by omega) (by omega), y]
          exact zl.1
  · have p140 : Y 140 = X 140 := t.1 140 (by omega)
    rw [hn] at r
    refine word_M (L := X 3) hG hl.2.1 hl.2.2 (by rw [p140]; exact hl.1) (fun j j0 j1 => by rw [p140]; exact hb j j0 j1) hJ (by omega) (by omega) (fun c1 c2 c3 => absurd r (by unfold zRwf; omega)) (fun f2 p2 Z r2 m => ?_)
    have ef : f2 = f ∧ p2 = p := by
      unfold zRwf at r r2
      omega
    rw [ef.1, ef.2] at m
    exact ⟨rfl, zTt h t m (by unfold zRwf at r; omega) (by unfold zRwf at r; omega)⟩
