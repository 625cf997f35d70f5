/-! ===== a token read by the reference ===== -/
/-- the reference's reader: at what it was, but for its place and its token -/
def zAm (X Y : zX) : Prop := (∀ b : Int, b ≠ 139 → Y b = X b) ∧ (∀ k : Int, k < 3 ∨ 8 < k → Y 139 k = X 139 k)
theorem zAm_r (X : zX) : zAm X X := ⟨fun _ _ => rfl, fun _ _ => rfl⟩
theorem zAm_t {X Y Z : zX} (h : zAm X Y) (g : zAm Y Z) : zAm X Z := ⟨fun b hb => (g.1 b hb).trans (h.1 b hb), fun k a => (g.2 k a).trans (h.2 k a)⟩
theorem zAm_w {X Y : zX} {j v : Int} (h : zAm X Y) (hj : 3 ≤ j ∧ j ≤ 8) : zAm X (zst Y 139 j v) := ⟨fun b hb => by rw [zrd_r hb]; exact h.1 b hb, fun k a => by rw [zrd_n (by omega)]; exact h.2 k a⟩
/-- the token t, v as the reference has it -/
def zTkr (Z : zX) (t v : Int) : Prop := (t = 0 → Z 139 5 = 0) ∧ (t = 1 → Z 139 5 = 1 ∧ Z 139 6 = v) ∧ (t = 2 → Z 139 5 = 4) ∧ ((t = 40 ∨ t = 41 ∨ t = 59 ∨ t = 60) → Z 139 5 = 2 ∧ Z 139 7 = t) ∧ (256 ≤ t → Z 139 5 = 3 ∧ Z 139 8 = zWo (t - 256))
/-- the tape the reference reads -/
def zTpm (Z : zX) (L : Int → Int) (n : Int) : Prop := Z 139 2 = n ∧ 0 ≤ n ∧ n ≤ 500 ∧ ∀ j : Int, 0 ≤ j → j < n → Z 140 (70 + j) = L j ∧ 0 ≤ L j ∧ L j ≤ 255
theorem zTpm_c {Z Y : zX} {L : Int → Int} {n : Int} (h : zTpm Z L n) (f : zAm Z Y) : zTpm Y L n := by
  obtain ⟨h1, h2, h3, h4⟩ := h
  refine ⟨(f.2 2 (by omega)).trans h1, h2, h3, fun j j0 j1 => ?_⟩
  rw [f.1 140 (by omega)]
  exact h4 j j0 j1
theorem byte_M {Q : List zV → zX → Prop} {G : zG} {Z : zX} {L : Int → Int} {n a : Int} (hG : SH G) (t : zTpm Z L n) (a0 : 0 ≤ a) (q1 : a < n → Q [zI (L a)] Z) (q0 : n ≤ a → Q [zI (-1)] Z) : M_byteAt [zR 139, zI a] G Z Q := by
  refine M_byteAt_f0 hG ?_
  rw [t.1]
  refine ⟨fun lt => ⟨zw_id (by have := t.2.2.1; omega) (by have := t.2.2.1; omega), by omega, by have := t.2.2.1; omega, ?_⟩, q0⟩
  rw [(t.2.2.2 a a0 lt).1]
  exact q1 lt
theorem q_two {Q : List zV → zX → Prop} {G : zG} {X : zX} {a b : Int} (hG : SH G) (ha : 0 ≤ a ∧ a ≤ 255) (hb : 0 ≤ b ∧ b ≤ 255) (q : Q [zI (32 * (a - 96) + b - 96)] X) : M_two [zI a, zI b] G X Q :=
  M_two_f0 hG ⟨by rw [zw_id (x := a - 96) (by omega) (by omega)]; exact zw_id (by omega) (by omega), zw_id (by omega) (by omega), zw_id (by omega) (by omega), q⟩
theorem q_three {Q : List zV → zX → Prop} {G : zG} {X : zX} {a b c : Int} (hG : SH G) (ha : 0 ≤ a ∧ a ≤ 255) (hb : 0 ≤ b ∧ b ≤ 255) (hc : 0 ≤ c ∧ c ≤ 255) (q : Q [zI ((32 * (a - 96) + b - 96) * 32 + c - 96)] X) : M_three [zI a, zI b, zI c] G X Q :=
  M_three_f0 hG ⟨by rw [zw_id (x := a - 96) (by omega) (by omega)]; exact zw_id (by omega) (by omega), zw_id (by omega) (by omega), zw_id (by omega) (by omega), zw_id (by omega) (by omega), zw_id (by omega) (by omega), zw_id (by omega) (by omega), q⟩
theorem q_four {Q : List zV → zX → Prop} {G : zG} {X : zX} {a b c d : Int} (hG : SH G) (ha : 0 ≤ a ∧ a ≤ 255) (hb : 0 ≤ b ∧ b ≤ 255) (hc : 0 ≤ c ∧ c ≤ 255) (hd : 0 ≤ d ∧ d ≤ 255) (q : Q [zI (32 * ((32 * (a - 96) + b - 96) * 32 + c - 96) + d - 96)] X) : M_four [zI a, zI b, zI c, zI d] G X Q :=
  M_four_f0 hG (q_three hG ha hb hc ⟨_, rfl, zw_id (by omega) (by omega), zw_id (by omega) (by omega), zw_id (by omega) (by omega), q⟩)
theorem wordOf_M {Q : List zV → zX → Prop} {G : zG} {X : zX} {v : Int} (hG : SH G) (q : ∀ r : Int, zRes v r → Q [zI r] X) : M_wordOf [zI v] G X Q := by
  unfold zRes at q
  exact M_wordOf_f0 hG (q_three hG (by decide) (by decide) (by decide) ⟨_, rfl, fun e => q _ (Or.inl ⟨by omega, rfl⟩), fun n0 => q_four hG (by decide) (by decide) (by decide) (by decide) ⟨_, rfl, fun e => q _ (Or.inr (Or.inl ⟨by omega, rfl⟩)), fun n1 => q_four hG (by decide) (by decide) (by decide) (by decide) ⟨_, rfl, fun e => q _ (Or.inr (Or.inr (Or.inl ⟨by omega, rfl⟩))), fun n2 => q_four hG (by decide) (by decide) (by decide) (by decide) ⟨_, rfl, fun e => q _ (Or.inr (Or.inr (Or.inr (Or.inl ⟨by omega, rfl⟩)))), fun n3 => q_three hG (by decide) (by decide) (by decide) ⟨_, rfl, fun e => q _ (Or.inr (Or.inr (Or.inr (Or.inr (Or.inl ⟨by omega, rfl⟩))))), fun n4 => q_four hG (by decide) (by decide) (by decide) (by decide) ⟨_, rfl, fun e => q _ (Or.inr (Or.inr (Or.inr (Or.inr (Or.inr (Or.inl ⟨by omega, rfl⟩)))))), fun n5 => q_four hG (by decide) (by decide) (by decide) (by decide) ⟨_, rfl, fun e => q _ (Or.inr (Or.inr (Or.inr (Or.inr (Or.inr (Or.inr (Or.inl ⟨by omega, rfl⟩))))))), fun n6 => q_four hG (by decide) (by decide) (by decide) (by decide) ⟨_, rfl, fun e => q _ (Or.inr (Or.inr (Or.inr (Or.inr (Or.inr (Or.inr (Or.inr (Or.inl ⟨by omega, rfl⟩)))))))), fun n7 => q_four hG (by decide) (by decide) (by decide) (by decide) ⟨_, rfl, fun e => q _ (Or.inr (Or.inr (Or.inr (Or.inr (Or.inr (Or.inr (Or.inr (Or.inr (Or.inl ⟨by omega, rfl⟩))))))))), fun n8 => q_three hG (by decide) (by decide) (by decide) ⟨_, rfl, fun e => q _ (Or.inr (Or.inr (Or.inr (Or.inr (Or.inr (Or.inr (Or.inr (Or.inr (Or.inr (Or.inl ⟨by omega, rfl⟩)))))))))), fun n9 => q_four hG (by decide) (by decide) (by decide) (by decide) ⟨_, rfl, fun e => q _ (Or.inr (Or.inr (Or.inr (Or.inr (Or.inr (Or.inr (Or.inr (Or.inr (Or.inr (Or.inr (Or.inl ⟨by omega, rfl⟩))))))))))), fun n10 => q_two hG (by decide) (by decide) ⟨_, rfl, fun e => q _ (Or.inr (Or.inr (Or.inr (Or.inr (Or.inr (Or.inr (Or.inr (Or.inr (Or.inr (Or.inr (Or.inr (Or.inl ⟨by omega, rfl⟩)))))))))))), fun n11 => q_three hG (by decide) (by decide) (by decide) ⟨_, rfl, fun e => q _ (Or.inr (Or.inr (Or.inr (Or.inr (Or.inr (Or.inr (Or.inr (Or.inr (Or.inr (Or.inr (Or.inr (Or.inr (Or.inl ⟨by omega, rfl⟩))))))))))))), fun n12 => q_three hG (by decide) (by decide) (by decide) ⟨_, rfl, fun e => q _ (Or.inr (Or.inr (Or.inr (Or.inr (Or.inr (Or.inr (Or.inr (Or.inr (Or.inr (Or.inr (Or.inr (Or.inr (Or.inr (Or.inl ⟨by omega, rfl⟩)))))))))))))), fun n13 => q_four hG (by decide) (by decide) (by decide) (by decide) ⟨_, rfl, fun e => q _ (Or.inr (Or.inr (Or.inr (Or.inr (Or.inr (Or.inr (Or.inr (Or.inr (Or.inr (Or.inr (Or.inr (Or.inr (Or.inr (Or.inr (Or.inl ⟨by omega, rfl⟩))))))))))))))), fun n14 => q_two hG (by decide) (by decide) ⟨_, rfl, fun e => q _ (Or.inr (Or.inr (Or.inr (Or.inr (Or.inr (Or.inr (Or.inr (Or.inr (Or.inr (Or.inr (Or.inr (Or.inr (Or.inr (Or.inr (Or.inr (Or.inl ⟨by omega, rfl⟩)))))))))))))))), fun n15 => q_two hG (by decide) (by decide) ⟨_, rfl, fun e => q _ (Or.inr (Or.inr (Or.inr (Or.inr (Or.inr (Or.inr (Or.inr (Or.inr (Or.inr (Or.inr (Or.inr (Or.inr (Or.inr (Or.inr (Or.inr (Or.inr (Or.inl ⟨by omega, rfl⟩))))))))))))))))), fun n16 => q_four hG (by decide) (by decide) (by decide) (by decide) ⟨_, rfl, fun e => q _ (Or.inr (Or.inr (Or.inr (Or.inr (Or.inr (Or.inr (Or.inr (Or.inr (Or.inr (Or.inr (Or.inr (Or.inr (Or.inr (Or.inr (Or.inr (Or.inr (Or.inr (Or.inl ⟨by omega, rfl⟩)))))))))))))))))), fun n17 => q _ (Or.inr (Or.inr (Or.inr (Or.inr (Or.inr (Or.inr (Or.inr (Or.inr (Or.inr (Or.inr (Or.inr (Or.inr (Or.inr (Or.inr (Or.inr (Or.inr (Or.inr (Or.inr (⟨fun z => n0 (by omega), fun z => n1 (by omega), fun z => n2 (by omega), fun z => n3 (by omega), fun z => n4 (by omega), fun z => n5 (by omega), fun z => n6 (by omega), fun z => n7 (by omega), fun z => n8 (by omega), fun z => n9 (by omega), fun z => n10 (by omega), fun z => n11 (by omega), fun z => n12 (by omega), fun z => n13 (by omega), fun z => n14 (by omega), fun z => n15 (by omega), fun z => n16 (by omega), fun z => n17 (by omega), rfl⟩)))))))))))))))))))⟩⟩⟩⟩⟩⟩⟩⟩⟩⟩⟩⟩⟩⟩⟩⟩⟩⟩)
theorem advance_M {Q : List zV → zX → Prop} {G : zG} {X : zX} {L : Int → Int} {n a : Int} (hG : SH G) (tp : zTpm X L n) (e3 : X 139 3 = a) (a0 : 0 ≤ a) (a1 : a ≤ n)
    (q : ∀ Y : zX, zAm X Y → Y 139 3 = (zTkn L n a).2.2.2 → Y 139 4 = (zTkn L n a).2.2.1 → zTkr Y (zTkn L n a).1 (zTkn L n a).2.1 → Q [] Y) : M_advance [zR 139] G X Q := by
  have k12 : zkd G 139 = 12 := zSk hG 139 12 (by decide +kernel)
  have n5 := tp.2.2.1
  unfold zTkn at q
  obtain ⟨p, ep⟩ : ∃ p : Int, zRun zBlk L (n - a).toNat a = p := ⟨_, rfl⟩
  have pin := zRun_in (C := zBlk) (L := L) (n - a).toNat a
  rw [ep] at q pin
  -- letters
  have letters : p < n → zLet (L p) = true → ∀ V : zX, zAm X V → V 139 3 = p → V 139 4 = p → M_advance_W Q 77 [zR 139, zT, zI 0] [] G V := fun lt hl V fV v3 v4 => by
    have nd : ¬zDgt (L p) = true := fun z => by
      have y := zDgt_e.1 z
      have w := zLet_e.1 hl
      omega
    unfold zTkn0 at q
    rw [if_neg (by omega), if_neg nd, if_pos hl] at q
    have ei := zRun_in (C := zLet) (L := L) (n - p).toNat p
    have ep1 : p < zRun zLet L (n - p).toNat p := by
      rw [show (n - p).toNat = (n - p - 1).toNat + 1 by omega, zRun_p hl]
      have z := zRun_in (C := zLet) (L := L) (n - p - 1).toNat (p + 1)
      omega
    obtain ⟨e, ee⟩ : ∃ e : Int, zRun zLet L (n - p).toNat p = e := ⟨_, rfl⟩
    rw [ee] at ei ep1 q
    have f157 : ∀ (Z : zX) (r : Int), zAm X Z → Z 139 3 = e → Z 139 4 = p → ((zWtk L p e 18 = 2 ∧ r = 99) ∨ (256 ≤ zWtk L p e 18 ∧ zWtk L p e 18 < 274 ∧ r = zWo (zWtk L p e 18 - 256))) → M_advance_W Q 157 [zR 139, zT, zT] [zI r, zR 139] G Z := fun Z r f z3 z4 hr => by
      refine M_advance_f157 hG ⟨k12, ?_⟩
      rw [zrd_s]
      have fin : ∀ t : Int, ((zWtk L p e 18 = 2 → t = 4) ∧ (256 ≤ zWtk L p e 18 → t = 3)) → M_advance_W Q 175 [zT, zT, zT] [zI t, zR 139] G (zst Z 139 8 r) := fun t ht => by
        refine M_advance_f175 hG ⟨k12, q _ (zAm_w (zAm_w f (by omega)) (by omega)) ?_ ?_ ⟨fun y => ?_, fun y => ?_, fun y => ?_, fun y => ?_, fun y => ?_⟩⟩
        · rw [zrd_n (by omega), zrd_n (by omega)]
          exact z3
        · rw [zrd_n (by omega), zrd_n (by omega)]
          exact z4
        · have y2 : zWtk L p e 18 = 0 := y
          omega
        · have y2 : zWtk L p e 18 = 1 := y
          omega
        · rw [zrd_s]
          exact ht.1 y
        · have y2 : zWtk L p e 18 = 40 ∨ zWtk L p e 18 = 41 ∨ zWtk L p e 18 = 59 ∨ zWtk L p e 18 = 60 := y
          omega
        · have y2 : 256 ≤ zWtk L p e 18 := y
          rw [zrd_s, zrd_n (by omega), zrd_s]
          refine ⟨ht.2 y2, ?_⟩
          rcases hr with hr | hr
          · omega
          · exact hr.2.2
      have wo : ∀ w : Int, 0 ≤ w → w < 18 → zWo w ≠ 99 := fun w w0 w1 => by
        unfold zWo
        by_cases c1 : w = 10
        · rw [if_pos c1]
          omega
        · rw [if_neg c1]
          by_cases c2 : w = 11
          · rw [if_pos c2]
            omega
          · rw [if_neg c2]
            omega
      refine ⟨fun y => fin 4 ⟨fun _ => rfl, fun u => ?_⟩, fun y => fin 3 ⟨fun u => ?_, fun _ => rfl⟩⟩
      · rcases hr with hr | hr
        · omega
        · exact absurd (hr.2.2.symm.trans y) (wo _ (by omega) (by omega))
      · rcases hr with hr | hr
        · exact absurd hr.2 y
        · omega
    have lp : ∀ (d : Nat) (i v : Int) (Z : zX), i + d = n → p ≤ i → (∀ j : Int, p ≤ j → j < i → zLet (L j) = true) → zAm X Z → Z 139 3 = i → Z 139 4 = p → (0 ≤ v ∧ v ≤ 28142426) → (i - p ≤ 4 → v = zLtv L p (i - p).toNat) → zRun zLet L d i = e → M_advance_W Q 77 [zR 139, zT, zI v] [] G Z := by
      intro d
      induction d with
      | zero =>
        intro i v Z ei' i0 hd f z3 z4 vb zv re
        have re2 : i = e := re
        refine M_advance_f77 hG ?_
        rw [z3]
        refine byte_M hG (zTpm_c tp f) (by omega) (fun z => absurd z (by omega)) (fun _ => ⟨_, rfl, q_isLetter hG (fun z => absurd z (by omega)) (fun _ => ⟨0, rfl, fun _ => ?_, fun z => absurd rfl z⟩)⟩)
        rw [z3, z4]
        refine ⟨zw_id (by omega) (by omega), fun gt => ?_, fun le => wordOf_M hG (fun r hr => ⟨_, rfl, ?_⟩)⟩
        · exact f157 Z 99 f (by rw [z3]; exact re2) z4 (Or.inl ⟨zWtk_z 18 (fun u hu m => by
            have t := zW_tab ⟨u, hu⟩
            simp only at t
            have := m.1
            omega), rfl⟩)
        · rw [zv le] at hr
          rw [re2] at hr le z3
          exact f157 Z r f z3 z4 (zRes_t ep1 le (fun j j0 j1 => zLet_e.1 (ei.2.2 (p + j) (by omega) (by omega))) hr)
      | succ d ih =>
        intro i v Z ei' i0 hd f z3 z4 vb zv re
        have by' := tp.2.2.2 i (by omega) (by omega)
        refine M_advance_f77 hG ?_
        rw [z3]
        refine byte_M hG (zTpm_c tp f) (by omega) (fun _ => ⟨_, rfl, q_isLetter hG (fun c => ⟨1, rfl, fun z => absurd z (by omega), fun _ => ?_⟩) (fun c => ⟨0, rfl, fun _ => ?_, fun z => absurd rfl z⟩)⟩) (fun z => absurd z (by omega))
        · rw [zRun_p (zLet_e.2 c)] at re
          rw [z3, z4]
          have hd2 : ∀ j : Int, p ≤ j → j < i + 1 → zLet (L j) = true := fun j j0 j1 => by
            by_cases cj : j = i
            · rw [cj]
              exact zLet_e.2 c
            · exact hd j j0 (by omega)
          have f121 : ∀ v2 : Int, (0 ≤ v2 ∧ v2 ≤ 28142426) → (i + 1 - p ≤ 4 → v2 = zLtv L p (i + 1 - p).toNat) → M_advance_W Q 121 [zR 139, zT, zI v2] [] G Z := fun v2 vb2 zv2 => by
            refine M_advance_f121 hG ?_
            rw [z3]
            exact ⟨zw_id (by omega) (by omega), ih (i + 1) v2 _ (by omega) (by omega) hd2 (zAm_w f (by omega)) (zrd_s _ _ _ _) (by rw [zrd_n (by omega)]; exact z4) vb2 zv2 re⟩
          have lv : i - p ≤ 4 → 0 ≤ v ∧ v ≤ 879450 := fun i4 => by
            have b := zLtv_in (L := L) (p := p) (i - p).toNat (fun j j0 j1 => zLet_e.1 (hd (p + j) (by omega) (by omega))) (by omega)
            rw [← zv i4] at b
            omega
          refine ⟨zw_id (by omega) (by omega), fun lt5 => ?_, fun ge5 => f121 v vb (fun z => absurd z (by omega))⟩
          have vv := lv (by omega)
          refine ⟨zw_id (by omega) (by omega), byte_M hG (zTpm_c tp f) (by omega) (fun _ => ⟨_, rfl, zw_id (by omega) (by omega), zw_id (by omega) (by omega), f121 _ (by omega) (fun i4 => ?_)⟩) (fun z => absurd z (by omega))⟩
          rw [zv (by omega), show (i + 1 - p).toNat = (i - p).toNat + 1 by omega]
          show _ = 32 * zLtv L p (i - p).toNat + L (p + ((i - p).toNat : Int)) - 96
          rw [show p + ((i - p).toNat : Int) = i by omega]
        · rw [zRun_n (fun z => c (zLet_e.1 z))] at re
          rw [z3, z4]
          refine ⟨zw_id (by omega) (by omega), fun gt => ?_, fun le => wordOf_M hG (fun r hr => ⟨_, rfl, ?_⟩)⟩
          · exact f157 Z 99 f (by rw [z3]; exact re) z4 (Or.inl ⟨zWtk_z 18 (fun u hu m => by
              have t := zW_tab ⟨u, hu⟩
              simp only at t
              have := m.1
              omega), rfl⟩)
          · rw [zv le] at hr
            rw [re] at hr le z3
            exact f157 Z r f z3 z4 (zRes_t ep1 le (fun j j0 j1 => zLet_e.1 (ei.2.2 (p + j) (by omega) (by omega))) hr)
    exact lp (n - p).toNat p 0 V (by omega) (Int.le_refl _) (fun j j0 j1 => absurd j1 (by omega)) fV v3 v4 (by omega) (fun _ => by rw [show (p - p).toNat = 0 by omega]; rfl) ee
  -- digits
  have digits : p < n → zDgt (L p) = true → ∀ V : zX, zAm X V → V 139 3 = p → V 139 4 = p → V 139 6 = 0 → M_advance_W Q 193 [zR 139, zT, zT] [] G V := fun lt hl V fV v3 v4 v6 => by
    unfold zTkn0 at q
    rw [if_neg (by omega), if_pos hl] at q
    have ei := zRun_in (C := zDgt) (L := L) (n - p).toNat p
    obtain ⟨e, ee⟩ : ∃ e : Int, zRun zDgt L (n - p).toNat p = e := ⟨_, rfl⟩
    rw [ee] at ei q
    have fin : ∀ (Z : zX) (t : Int), zAm X Z → Z 139 3 = e → Z 139 4 = p → (e - p ≤ 4 → Z 139 6 = zNmb L p (e - p).toNat) → ((e - p ≤ 4 → t = 1) ∧ (4 < e - p → t = 4)) → M_advance_W Q 275 [zT, zT, zT] [zI t, zR 139] G Z := fun Z t f z3 z4 z6 ht => by
      refine M_advance_f275 hG ⟨k12, q _ (zAm_w f (by omega)) (by rw [zrd_n (by omega)]; exact z3) (by rw [zrd_n (by omega)]; exact z4) ?_⟩
      by_cases c4 : e - p ≤ 4
      · rw [if_pos c4]
        refine ⟨fun y => absurd y (by show (1 : Int) ≠ 0; omega), fun _ => ⟨by rw [zrd_s]; exact ht.1 c4, by rw [zrd_n (by omega)]; exact z6 c4⟩, fun y => absurd y (by show (1 : Int) ≠ 2; omega), fun y => ?_, fun y => ?_⟩
        · have y2 : (1 : Int) = 40 ∨ (1 : Int) = 41 ∨ (1 : Int) = 59 ∨ (1 : Int) = 60 := y
          omega
        · have y2 : (256 : Int) ≤ 1 := y
          omega
      · rw [if_neg c4]
        refine ⟨fun y => absurd y (by show (2 : Int) ≠ 0; omega), fun y => absurd y (by show (2 : Int) ≠ 1; omega), fun _ => by rw [zrd_s]; exact ht.2 (by omega), fun y => ?_, fun y => ?_⟩
        · have y2 : (2 : Int) = 40 ∨ (2 : Int) = 41 ∨ (2 : Int) = 59 ∨ (2 : Int) = 60 := y
          omega
        · have y2 : (256 : Int) ≤ 2 := y
          omega
    have lp : ∀ (d : Nat) (i : Int) (Z : zX), i + d = n → p ≤ i → (∀ j : Int, p ≤ j → j < i → zDgt (L j) = true) → zAm X Z → Z 139 3 = i → Z 139 4 = p → (i - p ≤ 4 → Z 139 6 = zNmb L p (i - p).toNat) → zRun zDgt L d i = e → M_advance_W Q 193 [zR 139, zT, zT] [] G Z := by
      intro d
      induction d with
      | zero =>
        intro i Z ei' i0 hd f z3 z4 z6 re
        have re2 : i = e := re
        rw [re2] at z3 z6
        refine M_advance_f193 hG ?_
        rw [z3]
        refine byte_M hG (zTpm_c tp f) (by omega) (fun z => absurd z (by omega)) (fun _ => ⟨_, rfl, q_mDigit hG (fun z => absurd z (by omega)) (fun _ => ⟨0, rfl, fun _ => ?_, fun z => absurd rfl z⟩)⟩)
        rw [z3, z4]
        exact ⟨zw_id (by omega) (by omega), fun gt => fin Z 4 f z3 z4 z6 (by omega), fun le => fin Z 1 f z3 z4 z6 (by omega)⟩
      | succ d ih =>
        intro i Z ei' i0 hd f z3 z4 z6 re
        have by' := tp.2.2.2 i (by omega) (by omega)
        refine M_advance_f193 hG ?_
        rw [z3]
        refine byte_M hG (zTpm_c tp f) (by omega) (fun _ => ⟨_, rfl, q_mDigit hG (fun c => ⟨1, rfl, fun z => absurd z (by omega), fun _ => ?_⟩) (fun c => ⟨0, rfl, fun _ => ?_, fun z => absurd rfl z⟩)⟩) (fun z => absurd z (by omega))
        · rw [zRun_p (zDgt_e.2 c)] at re
          rw [z3, z4]
          have hd2 : ∀ j : Int, p ≤ j → j < i + 1 → zDgt (L j) = true := fun j j0 j1 => by
            by_cases cj : j = i
            · rw [cj]
              exact zDgt_e.2 c
            · exact hd j j0 (by omega)
          have f243 : ∀ Z2 : zX, zAm X Z2 → Z2 139 3 = i → Z2 139 4 = p → (i + 1 - p ≤ 4 → Z2 139 6 = zNmb L p (i + 1 - p).toNat) → M_advance_W Q 243 [zR 139, zT, zT] [] G Z2 := fun Z2 f2 y3 y4 y6 => by
            refine M_advance_f243 hG ?_
            rw [y3]
            exact ⟨zw_id (by omega) (by omega), ih (i + 1) _ (by omega) (by omega) hd2 (zAm_w f2 (by omega)) (zrd_s _ _ _ _) (by rw [zrd_n (by omega)]; exact y4) (fun z => by rw [zrd_n (by omega)]; exact y6 z) re⟩
          refine ⟨zw_id (by omega) (by omega), fun lt4 => ?_, fun ge4 => f243 Z f z3 z4 (fun z => absurd z (by omega))⟩
          have nb := zNmb_in (L := L) (p := p) (i - p).toNat (fun j j0 j1 => zDgt_e.1 (hd (p + j) (by omega) (by omega))) (by omega)
          have z6' := z6 (by omega)
          rw [z6']
          refine ⟨zw_id (by omega) (by omega), byte_M hG (zTpm_c tp f) (by omega) (fun _ => ⟨_, rfl, zw_id (by omega) (by omega), zw_id (by omega) (by omega), f243 _ (zAm_w f (by omega)) (by rw [zrd_n (by omega)]; exact z3) (by rw [zrd_n (by omega)]; exact z4) (fun i4 => ?_)⟩) (fun z => absurd z (by omega))⟩
          rw [zrd_s, show (i + 1 - p).toNat = (i - p).toNat + 1 by omega]
          show _ = 10 * zNmb L p (i - p).toNat + L (p + ((i - p).toNat : Int)) - 48
          rw [show p + ((i - p).toNat : Int) = i by omega]
        · rw [zRun_n (fun z => c (zDgt_e.1 z))] at re
          rw [re] at z3 z6
          rw [z3, z4]
          exact ⟨zw_id (by omega) (by omega), fun gt => fin Z 4 f z3 z4 z6 (by omega), fun le => fin Z 1 f z3 z4 z6 (by omega)⟩
    exact lp (n - p).toNat p V (by omega) (Int.le_refl _) (fun j j0 j1 => absurd j1 (by omega)) fV v3 v4 (fun _ => by rw [v6, show (p - p).toNat = 0 by omega]; rfl) ee
  -- the token behind the blanks
  have tokn : ∀ Z : zX, zAm X Z → Z 139 3 = p → M_byteAt [zR 139, zI ((zst Z 139 4 (Z 139 3)) 139 3)] G (zst Z 139 4 (Z 139 3)) (fun v9 X10 => ∃ r12, v9 = [zI r12] ∧ ((r12 < 0 → Q [] (zst X10 139 5 0)) ∧ (0 ≤ r12 → M_isLetter [zI r12] G X10 (fun v13 X14 => ∃ r16, v13 = [zI r16] ∧ ((r16 = 0 → M_isDigit [zI r12] G X14 (fun v17 X18 => ∃ r20, v17 = [zI r20] ∧ ((r20 = 0 → zw ((X18 139 3) + 1) = ((X18 139 3) + 1) ∧ ((r12 = 40 → M_advance_W Q 326 [zT, zT, zT] [zI 2, zR 139] G (zst (zst X18 139 3 ((X18 139 3) + 1)) 139 7 r12)) ∧ (r12 ≠ 40 → ((r12 = 41 → M_advance_W Q 326 [zT, zT, zT] [zI 2, zR 139] G (zst (zst X18 139 3 ((X18 139 3) + 1)) 139 7 r12)) ∧ (r12 ≠ 41 → ((r12 = 59 → M_advance_W Q 326 [zT, zT, zT] [zI 2, zR 139] G (zst (zst X18 139 3 ((X18 139 3) + 1)) 139 7 r12)) ∧ (r12 ≠ 59 → ((r12 = 60 → M_advance_W Q 326 [zT, zT, zT] [zI 2, zR 139] G (zst (zst X18 139 3 ((X18 139 3) + 1)) 139 7 r12)) ∧ (r12 ≠ 60 → M_advance_W Q 326 [zT, zT, zT] [zI 4, zR 139] G (zst (zst X18 139 3 ((X18 139 3) + 1)) 139 7 r12)))))))))) ∧ (r20 ≠ 0 → M_advance_W Q 193 [zR 139, zT, zT] [] G (zst X18 139 6 0))))) ∧ (r16 ≠ 0 → M_advance_W Q 77 [zR 139, zT, zI 0] [] G X14)))))) := fun Z f z3 => by
    have fV : zAm X (zst Z 139 4 (Z 139 3)) := zAm_w f (by omega)
    have v3 : zst Z 139 4 (Z 139 3) 139 3 = p := by rw [zrd_n (by omega)]; exact z3
    have v4 : zst Z 139 4 (Z 139 3) 139 4 = p := by rw [zrd_s]; exact z3
    rw [v3]
    generalize zst Z 139 4 (Z 139 3) = V at fV v3 v4 ⊢
    refine byte_M hG (zTpm_c tp fV) (by omega) (fun lt => ⟨_, rfl, fun z => absurd z (by have := (tp.2.2.2 p (by omega) lt).2.1; omega), fun _ => q_isLetter hG (fun c => ⟨1, rfl, fun z => absurd z (by omega), fun _ => letters lt (zLet_e.2 c) V fV v3 v4⟩) (fun c => ⟨0, rfl, fun _ => q_mDigit hG (fun c2 => ⟨1, rfl, fun z => absurd z (by omega), fun _ => digits lt (zDgt_e.2 c2) _ (zAm_w fV (by omega)) (by rw [zrd_n (by omega)]; exact v3) (by rw [zrd_n (by omega)]; exact v4) (zrd_s _ _ _ _)⟩) (fun c2 => ⟨0, rfl, fun _ => ?_, fun z => absurd rfl z⟩), fun z => absurd rfl z⟩)⟩) (fun ge => ⟨_, rfl, fun _ => ?_, fun z => absurd z (by omega)⟩)
    · unfold zTkn0 at q
      rw [if_neg (by omega), if_neg (fun z => c2 (zDgt_e.1 z)), if_neg (fun z => c (zLet_e.1 z))] at q
      rw [v3]
      have fin : ∀ (t u : Int), (t = if L p = 40 ∨ L p = 41 ∨ L p = 59 ∨ L p = 60 then L p else 2) → ((t = 2 → u = 4) ∧ (t ≠ 2 → u = 2)) → M_advance_W Q 326 [zT, zT, zT] [zI u, zR 139] G (zst (zst V 139 3 (p + 1)) 139 7 (L p)) := fun t u et eu => by
        refine M_advance_f326 hG ⟨k12, q _ (zAm_w (zAm_w (zAm_w fV (by omega)) (by omega)) (by omega)) (by rw [zrd_n (by omega), zrd_n (by omega), zrd_s]) (by rw [zrd_n (by omega), zrd_n (by omega), zrd_n (by omega)]; exact v4) ?_⟩
        rw [← et]
        have tk : t = 2 ∨ ((t = 40 ∨ t = 41 ∨ t = 59 ∨ t = 60) ∧ t = L p) := by
          by_cases k : L p = 40 ∨ L p = 41 ∨ L p = 59 ∨ L p = 60
          · rw [if_pos k] at et
            omega
          · rw [if_neg k] at et
            exact Or.inl et
        refine ⟨fun y => absurd y (by show t ≠ 0; omega), fun y => absurd y (by show t ≠ 1; omega), fun y => by rw [zrd_s]; exact eu.1 y, fun y => ?_, fun y => ?_⟩
        · have y2 : t = 40 ∨ t = 41 ∨ t = 59 ∨ t = 60 := y
          refine ⟨by rw [zrd_s]; exact eu.2 (by omega), ?_⟩
          show zst (zst (zst V 139 3 (p + 1)) 139 7 (L p)) 139 5 u 139 7 = t
          rw [zrd_n (by omega), zrd_s]
          omega
        · have y2 : 256 ≤ t := y
          omega
      have yes : (L p = 40 ∨ L p = 41 ∨ L p = 59 ∨ L p = 60) → M_advance_W Q 326 [zT, zT, zT] [zI 2, zR 139] G (zst (zst V 139 3 (p + 1)) 139 7 (L p)) := fun k => fin (L p) 2 (by rw [if_pos k]) ⟨fun z => absurd z (by omega), fun _ => rfl⟩
      exact ⟨zw_id (by omega) (by omega), fun k => yes (by omega), fun k1 => ⟨fun k => yes (by omega), fun k2' => ⟨fun k => yes (by omega), fun k3 => ⟨fun k => yes (by omega), fun k4 => fin 2 4 (by rw [if_neg (by omega)]) ⟨fun _ => rfl, fun z => absurd rfl z⟩⟩⟩⟩⟩
    · unfold zTkn0 at q
      rw [if_pos (by omega)] at q
      refine q _ (zAm_w fV (by omega)) (by rw [zrd_n (by omega)]; exact v3) (by rw [zrd_n (by omega)]; exact v4) ⟨fun _ => zrd_s _ _ _ _, fun y => absurd y (by show (0 : Int) ≠ 1; omega), fun y => absurd y (by show (0 : Int) ≠ 2; omega), fun y => ?_, fun y => ?_⟩
      · have y2 : (0 : Int) = 40 ∨ (0 : Int) = 41 ∨ (0 : Int) = 59 ∨ (0 : Int) = 60 := y
        omega
      · have y2 : (256 : Int) ≤ 0 := y
        omega
  have lp : ∀ (d : Nat) (i : Int) (Z : zX), i + d = n → a ≤ i → zAm X Z → Z 139 3 = i → zRun zBlk L d i = p → M_advance [zR 139] G Z Q := by
    intro d
    induction d with
    | zero =>
      intro i Z ei i0 f z3 re
      have re2 : i = p := re
      refine M_advance_f0 hG ?_
      rw [z3]
      refine byte_M hG (zTpm_c tp f) (by omega) (fun z => absurd z (by omega)) (fun _ => ⟨_, rfl, fun z => absurd z (by omega), fun _ => ?_⟩)
      rw [z3]
      refine byte_M hG (zTpm_c tp f) (by omega) (fun z => absurd z (by omega)) (fun _ => ⟨_, rfl, fun z => absurd z (by omega), fun _ => tokn Z f (by rw [z3]; exact re2)⟩)
    | succ d ih =>
      intro i Z ei i0 f z3 re
      have f26 : zBlk (L i) = true → M_advance_W Q 26 [zR 139, zT, zT] [] G Z := fun c => by
        rw [zRun_p c] at re
        refine M_advance_f26 hG ?_
        rw [z3]
        exact ⟨zw_id (by omega) (by omega), ih (i + 1) _ (by omega) (by omega) (zAm_w f (by omega)) (zrd_s _ _ _ _) re⟩
      refine M_advance_f0 hG ?_
      rw [z3]
      refine byte_M hG (zTpm_c tp f) (by omega) (fun _ => ⟨_, rfl, fun z => f26 (zBlk_e.2 (Or.inl z)), fun n10 => ?_⟩) (fun z => absurd z (by omega))
      rw [z3]
      refine byte_M hG (zTpm_c tp f) (by omega) (fun _ => ⟨_, rfl, fun z => f26 (zBlk_e.2 (Or.inr z)), fun n32 => ?_⟩) (fun z => absurd z (by omega))
      rw [zRun_n (fun z => by have y := zBlk_e.1 z; omega)] at re
      exact tokn Z f (by rw [z3]; exact re)
  exact lp (n - a).toNat a X (by omega) (Int.le_refl _) (zAm_r X) e3 ep
