/-! ===== holds, presses, count ===== -/
theorem z_oi {x : Int} (h : zin x) : (Int32.ofInt x).toInt = x := by
  rw [Int32.toInt_ofInt]
  have e2 : (Int32.size : Int) = 4294967296 := rfl
  unfold zin at h
  exact Int.bmod_eq_of_le (by omega) (by omega)
theorem z_holdb (a b : BitVec 32) : a &&& b = b ↔ b &&& (a ^^^ BitVec.allOnes 32) = 0#32 := by
  constructor
  · intro e
    apply BitVec.eq_of_getLsbD_eq
    intro i hi
    have t := congrArg (fun v : BitVec 32 => v.getLsbD i) e
    simp only [BitVec.getLsbD_and] at t
    simp only [BitVec.getLsbD_and, BitVec.getLsbD_xor, BitVec.getLsbD_allOnes, BitVec.getLsbD_zero, hi, decide_true]
    cases h1 : a.getLsbD i <;> cases h2 : b.getLsbD i <;> simp_all
  · intro e
    apply BitVec.eq_of_getLsbD_eq
    intro i hi
    have t := congrArg (fun v : BitVec 32 => v.getLsbD i) e
    simp only [BitVec.getLsbD_and, BitVec.getLsbD_xor, BitVec.getLsbD_allOnes, BitVec.getLsbD_zero, hi, decide_true] at t
    simp only [BitVec.getLsbD_and]
    cases h1 : a.getLsbD i <;> cases h2 : b.getLsbD i <;> simp_all
theorem z_hold (s : Int) {m : Int} (hm : zin m) : zand s m = m ↔ zand m (zxor s (-1)) = 0 := by
  unfold zand zxor
  rw [Int32.ofInt_toInt]
  have em := z_oi hm
  have k := z_holdb (Int32.ofInt s).toBitVec (Int32.ofInt m).toBitVec
  constructor
  · intro e
    have e2 : Int32.ofInt s &&& Int32.ofInt m = Int32.ofInt m := Int32.toInt_inj.1 (e.trans em.symm)
    have e3 : (Int32.ofInt m &&& (Int32.ofInt s ^^^ Int32.ofInt (-1))).toBitVec = 0#32 := k.1 (congrArg Int32.toBitVec e2)
    have e4 : Int32.ofInt m &&& (Int32.ofInt s ^^^ Int32.ofInt (-1)) = 0 := Int32.toBitVec_inj.1 e3
    rw [e4]
    rfl
  · intro e
    have e2 : Int32.ofInt m &&& (Int32.ofInt s ^^^ Int32.ofInt (-1)) = 0 := Int32.toInt_inj.1 e
    have e3 : (Int32.ofInt s &&& Int32.ofInt m).toBitVec = (Int32.ofInt m).toBitVec := k.2 (congrArg Int32.toBitVec e2)
    rw [Int32.toBitVec_inj.1 e3]
    exact em
noncomputable def zFh (X : zX) (m : Int) : Int := zFst (fun k => zand ((zSe X).2 k) m = m) (zSe X).1.toNat 0
theorem zFh_w {X X2 : zX} {m : Int} (w : zWk X X2) : zFh X2 m = zFh X m := by
  unfold zFh
  rw [zSe_w w]
theorem holding_D {Q : List zV → zX → Prop} {G : zG} {X : zX} {p : Int} (hG : SH G) (h : zRT X 1 0) (p0 : 0 ≤ p) (p1 : p < 8) (q : ∀ X2 : zX, zWk X X2 → Q [zI (zFh X (X 13 p))] X2) : D_firstHolding [zR 0, zI p] G X Q := by
  have hi := zSe_in h
  refine D_firstHolding_f0 hG (hear_S hG h (fun X2 w2 e2 => ⟨_, rfl, p0, p1, ?_⟩))
  rw [w2 13 (by omega)]
  have lp : ∀ (d : Nat) (k : Int), k + d = (zSe X).1 → 0 ≤ k → zFst (fun k => zand ((zSe X).2 k) (X 13 p) = X 13 p) d k = zFh X (X 13 p) → D_firstHolding_W Q 31 [zR 0, zT, zI (zSe X).1, zI (X 13 p), zI k] [] G X2 := by
    intro d
    induction d with
    | zero =>
      intro k ek k0 z
      refine D_firstHolding_f31 hG ⟨fun z => absurd z (by omega), fun _ => ?_⟩
      have q2 := q X2 w2
      rw [← z] at q2
      exact q2
    | succ d ih =>
      intro k ek k0 z
      refine D_firstHolding_f31 hG ⟨fun _ => ⟨k0, by omega, ?_⟩, fun z => absurd z (by omega)⟩
      rw [e2 k k0 (by omega)]
      refine ⟨fun c => ?_, fun c => ⟨zw_id (by omega) (by omega), ?_⟩⟩
      · rw [zFst_p (P := fun k => zand ((zSe X).2 k) (X 13 p) = X 13 p) c] at z
        have q2 := q X2 w2
        rw [← z] at q2
        exact q2
      · rw [zFst_n (P := fun k => zand ((zSe X).2 k) (X 13 p) = X 13 p) c] at z
        exact ih (k + 1) (by omega) (by omega) z
  exact lp (zSe X).1.toNat 0 (by omega) (by omega) rfl
theorem firstOf_M {Q : List zV → zX → Prop} {G : zG} {X : zX} {p : Int} (hG : SH G) (h : zRT X 1 0) (p0 : 0 ≤ p) (p1 : p < 8) (q : ∀ X2 : zX, zWk X X2 → Q [zI (zFh X (X 13 p))] X2) : M_firstOf [zR 139, zI p] G X Q := by
  have hi := zSe_in h
  have hm := zR_pmn h p p0 p1
  rw [show (0 : Int) + 4990 + 2 * p = 4990 + 2 * p by omega, show (1 : Int) + 12 = 13 by omega] at hm
  refine M_firstOf_f0 hG (sent_S hG h (fun X2 w2 e2 => ⟨_, rfl, ?_⟩))
  have lp : ∀ (d : Nat) (k : Int) (X3 : zX), zWk X X3 → k + d = (zSe X).1 → 0 ≤ k → zFst (fun k => zand ((zSe X).2 k) (X 13 p) = X 13 p) d k = zFh X (X 13 p) → M_firstOf_W Q 8 [zR 139, zI p, zI (zSe X).1, zI k] [] G X3 := by
    intro d
    induction d with
    | zero =>
      intro k X3 w3 ek k0 z
      refine M_firstOf_f8 hG ⟨fun z => absurd z (by omega), fun _ => ?_⟩
      have q2 := q X3 w3
      rw [← z] at q2
      exact q2
    | succ d ih =>
      intro k X3 w3 ek k0 z
      refine M_firstOf_f8 hG ⟨fun _ => ?_, fun z => absurd z (by omega)⟩
      rw [w3 140 (by omega), hm.1]
      refine ⟨by rw [zw_id (x := 2 * p) (by omega) (by omega)]; exact zw_id (by omega) (by omega), by omega, by omega, M_sentence_f0 hG (sent_S hG (zWk_RT w3 h) (fun X4 w4 e4 => ⟨_, rfl, _, rfl, ?_⟩))⟩
      rw [e4, zSe_w w3, if_pos (by omega)]
      have zz := z_hold ((zSe X).2 k) (m := X 13 p) (by unfold zin; omega)
      refine ⟨fun c => ?_, fun c => ⟨zw_id (by omega) (by omega), ?_⟩⟩
      · rw [zFst_p (P := fun k => zand ((zSe X).2 k) (X 13 p) = X 13 p) (zz.2 c)] at z
        have q2 := q X4 (zWk_t w3 w4)
        rw [← z] at q2
        exact q2
      · rw [zFst_n (P := fun k => zand ((zSe X).2 k) (X 13 p) = X 13 p) (fun y => c (zz.1 y))] at z
        exact ih (k + 1) X4 (zWk_t w3 w4) (by omega) (by omega) z
  exact lp (zSe X).1.toNat 0 X2 w2 (by omega) (by omega) rfl
theorem op_holds {G : zG} {X : zX} {a : Int} (hG : SH G) (h : zRT X 1 0) : zOp D_holds M_holds [zI a] [zI a] G X := by
  have hn : X 140 5007 = X 9 7 ∧ 0 ≤ X 9 7 ∧ X 9 7 ≤ 8 := zR_pcn h
  have no : ¬(0 ≤ a ∧ a < X 9 7) → M_holds [zR 139, zI a] G X (fun w X2 => w = [zI (-1)] ∧ zRT X2 1 0 ∧ zKp X X2) := fun n => by
    refine M_holds_f0 hG ?_
    rw [hn.1]
    (repeat' (first | (exact ⟨rfl, h, zKp_r X⟩) | (with_reducible exact rfl) | (with_reducible apply And.intro) | (with_reducible refine ⟨_, rfl, ?_⟩) | (with_reducible refine q_isIn hG (fun _ _ => ?_) (fun _ => ?_)) | (with_reducible refine q_isAddress hG (fun _ _ => ?_) (fun _ => ?_)) | (with_reducible refine q_isMade hG (fun _ _ => ?_) (fun _ => ?_)) | (with_reducible refine q_isPage hG (by assumption) (fun _ _ => ?_) (fun _ => ?_)) | (with_reducible refine q_isHouse hG (by assumption) (fun _ _ => ?_) (fun _ => ?_)) | (with_reducible refine q_dPage hG (fun _ _ => ?_) (fun _ => ?_)) | (with_reducible refine q_dHouse hG (fun _ _ => ?_) (fun _ => ?_)) | (with_reducible refine q_dDay hG (fun _ _ => ?_) (fun _ => ?_)) | (with_reducible refine q_dLand hG (fun _ _ => ?_) (fun _ => ?_)) | (with_reducible refine q_dPerson hG (fun _ => ?_) (fun _ => ?_)) | (with_reducible refine q_mPerson hG (fun _ => ?_) (fun _ => ?_)) | (with_reducible refine q_pageAt hG (by omega) (by omega) ?_) | (with_reducible refine q_houseAt hG (by omega) (by omega) ?_) | (with_reducible refine q_treeOf hG (by omega) (by omega) ?_) | (with_reducible intro hz; exfalso; omega) | (with_reducible intro _) | (with_reducible refine zw_id ?_ ?_) | omega | (simp only [zw]; omega)))
  refine D_holds_f0 hG ⟨fun a0 => no (by omega), fun a0 => ⟨fun a1 => holding_D hG h a0 (by omega) (fun X2 w2 => ⟨_, rfl, ?_⟩), fun a1 => no (by omega)⟩⟩
  refine M_holds_f0 hG ?_
  rw [w2 140 (by omega), hn.1]
  refine ⟨zw_id (by omega) (by omega), q_isIn hG (fun _ _ => ⟨1, rfl, fun z => absurd z (by omega), fun _ => firstOf_M hG (zWk_RT w2 h) a0 (by omega) (fun X3 w3 => ⟨_, rfl, ?_, zWk_RT (zWk_t w2 w3) h, zWk_Kp (zWk_t w2 w3)⟩)⟩) (fun z => absurd z (by omega))⟩
  rw [zFh_w w2, w2 13 (by omega)]
noncomputable def zPs (X : zX) : Nat → Int
  | 0 => 0
  | p + 1 => if zFh X (X 13 p) < 0 then zPs X p else zPs X p + X 14 p
theorem zPs_in {X : zX} (h : zRT X 1 0) : ∀ p : Nat, (p : Int) ≤ 8 → -99 * (p : Int) ≤ zPs X p ∧ zPs X p ≤ 99 * p
  | 0, _ => by unfold zPs; omega
  | p + 1, b => by
    have ih := zPs_in h p (by omega)
    have w : X 140 (0 + 4991 + 2 * (p : Int)) = X 14 p ∧ -99 ≤ X 14 p ∧ X 14 p ≤ 99 := zR_pwt h p (by omega) (by omega)
    unfold zPs
    split <;> omega
theorem zFh_ge {X : zX} {m : Int} (h : zRT X 1 0) : -1 ≤ zFh X m := (zFst_in _ 0 (by omega)).1
theorem op_presses {G : zG} {X : zX} (hG : SH G) (h : zRT X 1 0) : zOp D_presses M_presses [] [] G X := by
  have hn : X 140 5007 = X 9 7 ∧ 0 ≤ X 9 7 ∧ X 9 7 ≤ 8 := zR_pcn h
  have dl : ∀ {Q : List zV → zX → Prop}, (∀ X2 : zX, zWk X X2 → Q [zI (zPs X (X 9 7).toNat)] X2) → ∀ (d p : Nat) (X2 : zX), zWk X X2 → (p : Int) + d = X 9 7 → D_presses_W Q 4 [zR 0, zI (zPs X p), zI p] [] G X2 := by
    intro Q q d
    induction d with
    | zero =>
      intro p X2 w2 e
      refine D_presses_f4 hG ?_
      rw [w2 9 (by omega)]
      have q2 := q X2 w2
      rw [show (X 9 7).toNat = p by omega] at q2
      exact ⟨fun z => absurd z (by omega), fun _ => q2⟩
    | succ d ih =>
      intro p X2 w2 e
      have b := zPs_in h p (by omega)
      have w : X 140 (0 + 4991 + 2 * (p : Int)) = X 14 p ∧ -99 ≤ X 14 p ∧ X 14 p ≤ 99 := zR_pwt h p (by omega) (by omega)
      have g := zFh_ge (m := X 13 p) h
      refine D_presses_f4 hG ?_
      rw [w2 9 (by omega)]
      refine ⟨fun _ => holding_D hG (zWk_RT w2 h) (by omega) (by omega) (fun X3 w3 => ⟨_, rfl, ?_⟩), fun z => absurd z (by omega)⟩
      rw [zFh_w w2, w2 13 (by omega), (zWk_t w2 w3) 14 (by omega)]
      refine ⟨fun c => ⟨zw_id (by omega) (by omega), ?_⟩, fun c => ⟨by omega, by omega, zw_id (by omega) (by omega), zw_id (by omega) (by omega), ?_⟩⟩
      · have r := ih (p + 1) X3 (zWk_t w2 w3) (by omega)
        rw [show zPs X (p + 1) = zPs X p from if_pos (by omega)] at r
        exact r
      · have r := ih (p + 1) X3 (zWk_t w2 w3) (by omega)
        rw [show zPs X (p + 1) = zPs X p + X 14 p from if_neg (by omega)] at r
        exact r
  have ml : ∀ {Q : List zV → zX → Prop}, (∀ X2 : zX, zWk X X2 → Q [zI (zPs X (X 9 7).toNat)] X2) → ∀ (d p : Nat) (X2 : zX), zWk X X2 → (p : Int) + d = X 9 7 → M_presses_W Q 4 [zR 139, zI (zPs X p), zI p] [] G X2 := by
    intro Q q d
    induction d with
    | zero =>
      intro p X2 w2 e
      refine M_presses_f4 hG ?_
      rw [w2 140 (by omega), hn.1]
      have q2 := q X2 w2
      rw [show (X 9 7).toNat = p by omega] at q2
      exact ⟨fun z => absurd z (by omega), fun _ => q2⟩
    | succ d ih =>
      intro p X2 w2 e
      have b := zPs_in h p (by omega)
      have w : X 140 (0 + 4991 + 2 * (p : Int)) = X 14 p ∧ -99 ≤ X 14 p ∧ X 14 p ≤ 99 := zR_pwt h p (by omega) (by omega)
      have g := zFh_ge (m := X 13 p) h
      refine M_presses_f4 hG ?_
      rw [w2 140 (by omega), hn.1]
      refine ⟨fun _ => firstOf_M hG (zWk_RT w2 h) (by omega) (by omega) (fun X3 w3 => ⟨_, rfl, ?_⟩), fun z => absurd z (by omega)⟩
      rw [zFh_w w2, w2 13 (by omega), (zWk_t w2 w3) 140 (by omega), show 4990 + 2 * (p : Int) + 1 = 0 + 4991 + 2 * p by omega, w.1]
      refine ⟨fun c => ⟨by simp only [zw]; omega, zw_id (by omega) (by omega), ?_⟩, fun c => ⟨by rw [zw_id (x := 2 * (p : Int)) (by omega) (by omega)]; exact zw_id (by omega) (by omega), by simp only [zw]; omega, by omega, by omega, zw_id (by omega) (by omega), zw_id (by omega) (by omega), ?_⟩⟩
      · have r := ih (p + 1) X3 (zWk_t w2 w3) (by omega)
        rw [show zPs X (p + 1) = zPs X p from if_pos (by omega)] at r
        exact r
      · have r := ih (p + 1) X3 (zWk_t w2 w3) (by omega)
        rw [show zPs X (p + 1) = zPs X p + X 14 p from if_neg (by omega)] at r
        exact r
  refine D_presses_f0 hG (dl (fun X2 w2 => ?_) (X 9 7).toNat 0 X (zWk_r X) (by omega))
  exact M_presses_f0 hG (ml (fun X3 w3 => ⟨rfl, zWk_RT w3 h, zWk_Kp w3⟩) (X 9 7).toNat 0 X2 w2 (by omega))
/-! count -/
theorem D_count_f137n {Q : List zV → zX → Prop} {G : zG} {X : zX} {x1 y1 y2 : Int} (hG : SH G) (h : zw (x1.tdiv 10) = y1 ∧ zw (x1.tmod 10) = y2 ∧ D_countOf [zR 0, zI y1, zI y2] G X (fun v1 X2 => ∃ r4, v1 = [zI r4] ∧ Q [zI r4] X2)) : D_count_W Q 137 [zR 0, zI x1] [] G X :=
  zWP_go (show D_count_b137 (zsz G) (ztt G) (zWP (D_count_B (zsz G) (ztt G)) _) [zR 0, zI x1] [] G X from s_aload rfl (s_iload rfl (s_ipush (And.intro (by decide) (f_top h.1 (s_iload rfl (s_ipush (And.intro (by decide) (f_top h.2.1 (And.intro (And.intro (Nat.le_of_ble_eq_true rfl) (And.intro (Nat.le_of_ble_eq_true rfl) rfl)) (And.intro (zSk hG 0 0 rfl) (zPu_mono _ _ _ _ _ _ _ (fun v1 X2 h3 => by obtain ⟨r4, e, h3q⟩ := h3; subst e; exact (s_norm (l := [_]) rfl (zWP_ret (And.intro rfl h3q)))) h.2.2))))))))))))
theorem op_count {G : zG} {X : zX} {a : Int} (hG : SH G) (h : zRT X 1 0) (ha : zin a) : zOp D_count M_count [zI a] [zI a] G X := by
  have hp := q_pages h
  have hh := q_houses h
  have hc := q_cases h
  have m3 := zR_mrk h
  have wc : X 140 5006 = X 9 6 ∧ 0 ≤ X 9 6 ∧ X 9 6 ≤ 20 := zR_wcn h
  have pc : X 140 5007 = X 9 7 ∧ 0 ≤ X 9 7 ∧ X 9 7 ≤ 8 := zR_pcn h
  have k0 : X 140 3 = X 1 14 := (m3 0 (by omega) (by omega)).1
  have k1 : X 140 4 = X 1 15 := (m3 1 (by omega) (by omega)).1
  have k2 : X 140 5 = X 1 16 := (m3 2 (by omega) (by omega)).1
  have ch : ∀ p : Int, 0 ≤ p → p < 10 → X 140 (2670 + 210 * p + 15) = X (53 + 5 * p) 7 := fun p a b => by
    have z := (zR_chn h p a b).1
    rw [show (0 : Int) + 2685 + 210 * p = 2670 + 210 * p + 15 by omega, show (1 : Int) + 52 + 5 * p = 53 + 5 * p by omega] at z
    exact z
  have ow : ∀ p : Int, 0 ≤ p → p < 5 → X 140 (1870 + 160 * p + 13) = X (23 + 6 * p) 2 := fun p a b => by
    have z := (zR_hown h p a b).1
    rw [show (0 : Int) + 1883 + 160 * p = 1870 + 160 * p + 13 by omega, show (1 : Int) + 22 + 6 * p = 23 + 6 * p by omega] at z
    exact z
  have wo : ∀ p : Int, 0 ≤ p → p < 8 → X 140 (10 + (30 + p) - 30) = X 19 p := fun p a b => by
    have z : X 140 (0 + 10 + p) = X 19 p := (zR_wor h p a b).1
    rw [show 10 + (30 + p) - 30 = (0 : Int) + 10 + p by omega]
    exact z
  -- what the reference answers
  have mm : ∀ v : Int, a ≠ 8 → (a = 0 → v = X 1 11) → (a = 1 → v = X 1 12) → (a = 2 → v = X 1 13) → (a = 3 → v = X 1 14) → (a = 4 → v = X 1 15) → (a = 5 → v = X 1 16) → (a = 6 → v = X 9 6) → (a = 7 → v = X 9 7) → (10 ≤ a → a < 10 + X 1 12 → v = X (53 + 5 * (a - 10)) 7) → (20 ≤ a → a < 20 + X 1 11 → v = X (23 + 6 * (a - 20)) 2) → (30 ≤ a → a ≤ 37 → v = X 19 (a - 30)) → (¬(0 ≤ a ∧ a ≤ 7) → ¬(10 ≤ a ∧ a < 10 + X 1 12) → ¬(20 ≤ a ∧ a < 20 + X 1 11) → ¬(30 ≤ a ∧ a ≤ 37) → v = -2) → M_count [zR 139, zI a] G X (fun w X2 => w = [zI v] ∧ zRT X2 1 0 ∧ zKp X X2) := by
    intro v v8 v0 v1 v2 v3 v4 v5 v6 v7 v10 v20 v30 v2n
    have fi : ∀ u : Int, u = v → [zI u] = [zI v] ∧ zRT X 1 0 ∧ zKp X X := fun u e => ⟨by rw [e], h, zKp_r X⟩
    refine M_count_f0 hG (q_isIn hG (fun a0 a5 => ⟨1, rfl, fun z => absurd z (by omega), fun _ => ⟨a0, by omega, fi _ ?_⟩⟩) (fun a5 => ⟨0, rfl, fun _ => ?_, fun z => absurd rfl z⟩))
    · have cs : a = 0 ∨ a = 1 ∨ a = 2 ∨ a = 3 ∨ a = 4 ∨ a = 5 := by omega
      rcases cs with c | c | c | c | c | c
      · rw [v0 c, c, hh.1]
      · rw [v1 c, c, hp.1]
      · rw [v2 c, c, hc.1]
      · rw [v3 c, c, k0]
      · rw [v4 c, c, k1]
      · rw [v5 c, c, k2]
    · refine ⟨fun c => fi _ (by rw [v6 c, wc.1]), fun c6 => ⟨fun c => fi _ (by rw [v7 c, pc.1]), fun c7 => ⟨fun c => absurd c v8, fun c8 => ?_⟩⟩⟩
      rw [hp.1]
      refine ⟨zw_id (by omega) (by omega), q_isIn hG (fun b0 b1 => ⟨1, rfl, fun z => absurd z (by omega), fun _ => ⟨zw_id (by omega) (by omega), q_pageAt hG (by omega) (by omega) ⟨_, rfl, zw_id (by omega) (by omega), by omega, by omega, fi _ ?_⟩⟩⟩) (fun b0 => ⟨0, rfl, fun _ => ⟨zw_id (by omega) (by omega), q_isIn hG (fun d0 d1 => ⟨1, rfl, fun z => absurd z (by omega), fun _ => ⟨zw_id (by omega) (by omega), q_houseAt hG (by omega) (by omega) ⟨_, rfl, zw_id (by omega) (by omega), by omega, by omega, fi _ ?_⟩⟩⟩) (fun d0 => ⟨0, rfl, fun _ => q_isIn hG (fun e0 e1 => ⟨1, rfl, fun z => absurd z (by omega), fun _ => ⟨zw_id (by omega) (by omega), zw_id (by omega) (by omega), by omega, by omega, fi _ ?_⟩⟩) (fun e0 => ⟨0, rfl, fun _ => fi _ ?_, fun z => absurd rfl z⟩), fun z => absurd rfl z⟩)⟩, fun z => absurd rfl z⟩)⟩
      · rw [ch _ (by omega) (by omega), v10 (by omega) (by omega)]
      · rw [ow _ (by omega) (by omega), v20 (by omega) (by omega)]
      · have z := wo (a - 30) (by omega) (by omega)
        rw [show 30 + (a - 30) = a by omega] at z
        rw [z, v30 (by omega) (by omega)]
      · exact (v2n (by omega) (by omega) (by omega) (by omega)).symm
  have an : ∀ v : Int, ((a = 0 → v = X 1 11) ∧ (a = 1 → v = X 1 12) ∧ (a = 2 → v = X 1 13) ∧ (a = 3 → v = X 1 14) ∧ (a = 4 → v = X 1 15) ∧ (a = 5 → v = X 1 16) ∧ (a = 6 → v = X 9 6) ∧ (a = 7 → v = X 9 7)) → 0 ≤ a ∧ a ≤ 7 → M_count [zR 139, zI a] G X (fun w X2 => w = [zI v] ∧ zRT X2 1 0 ∧ zKp X X2) := fun v q r =>
    mm v (by omega) q.1 q.2.1 q.2.2.1 q.2.2.2.1 q.2.2.2.2.1 q.2.2.2.2.2.1 q.2.2.2.2.2.2.1 q.2.2.2.2.2.2.2 (fun _ _ => by omega) (fun _ _ => by omega) (fun _ _ => by omega) (fun _ _ _ _ => by omega)
  refine D_count_f0 hG ⟨fun c => an _ (by omega) (by omega), fun c0 => ⟨fun c => an _ (by omega) (by omega), fun c1 => ⟨fun c => an _ (by omega) (by omega), fun c2 => ⟨fun c => an _ (by omega) (by omega), fun c3 => ⟨fun c => an _ (by omega) (by omega), fun c4 => ⟨fun c => an _ (by omega) (by omega), fun c5 => ⟨fun c => an _ (by omega) (by omega), fun c6 => ⟨fun c => an _ (by omega) (by omega), fun c7 => ⟨fun c => ?_, fun c8 => ?_⟩⟩⟩⟩⟩⟩⟩⟩⟩
  · refine D_count_f122 hG (hear_S hG h (fun X2 w2 e2 => ⟨_, rfl, ?_⟩))
    have w140 : X2 140 = X 140 := w2 140 (by omega)
    refine M_count_f0 hG (q_isIn hG (fun z _ => absurd z (by omega)) (fun _ => ⟨0, rfl, fun _ => ⟨fun z => absurd z (by omega), fun _ => ⟨fun z => absurd z (by omega), fun _ => ⟨fun _ => sent_S hG (zWk_RT w2 h) (fun X3 w3 e3 => ⟨_, rfl, by rw [zSe_w w2], zWk_RT (zWk_t w2 w3) h, zWk_Kp (zWk_t w2 w3)⟩), fun z => absurd c z⟩⟩⟩, fun z => absurd rfl z⟩))
  · have no : a.tdiv 10 ≠ 1 ∧ a.tdiv 10 ≠ 2 ∧ a.tdiv 10 ≠ 3 → ¬(10 ≤ a ∧ a ≤ 39) → M_count [zR 139, zI a] G X (fun w X2 => w = [zI (-2)] ∧ zRT X2 1 0 ∧ zKp X X2) := fun _ n => mm (-2) c8 (fun z => absurd z c0) (fun z => absurd z c1) (fun z => absurd z c2) (fun z => absurd z c3) (fun z => absurd z c4) (fun z => absurd z c5) (fun z => absurd z c6) (fun z => absurd z c7) (fun _ _ => by omega) (fun _ _ => by omega) (fun _ _ => by omega) (fun _ _ _ _ => rfl)
    have m2 : ∀ v : Int, (10 ≤ a → a < 10 + X 1 12 → v = X (53 + 5 * (a - 10)) 7) → (20 ≤ a → a < 20 + X 1 11 → v = X (23 + 6 * (a - 20)) 2) → (30 ≤ a → a ≤ 37 → v = X 19 (a - 30)) → (¬(10 ≤ a ∧ a < 10 + X 1 12) → ¬(20 ≤ a ∧ a < 20 + X 1 11) → ¬(30 ≤ a ∧ a ≤ 37) → v = -2) → M_count [zR 139, zI a] G X (fun w X2 => w = [zI v] ∧ zRT X2 1 0 ∧ zKp X X2) := fun v q1 q2 q3 q4 => mm v c8 (fun z => absurd z c0) (fun z => absurd z c1) (fun z => absurd z c2) (fun z => absurd z c3) (fun z => absurd z c4) (fun z => absurd z c5) (fun z => absurd z c6) (fun z => absurd z c7) q1 q2 q3 (fun _ => q4)
    unfold zin at ha
    by_cases a0 : 0 ≤ a
    · refine D_count_f137n hG (y1 := a / 10) (y2 := a % 10) ⟨by rw [Int.tdiv_eq_ediv_of_nonneg a0]; exact zw_id (by omega) (by omega), by rw [Int.tmod_eq_emod_of_nonneg a0]; exact zw_id (by omega) (by omega), ?_⟩
      have f52 : ¬(10 ≤ a ∧ a < 10 + X 1 12) → ¬(20 ≤ a ∧ a < 20 + X 1 11) → D_countOf_W (fun v1 X2 => ∃ r4, v1 = [zI r4] ∧ M_count [zR 139, zI a] G X2 (fun w X3 => w = [zI r4] ∧ zRT X3 1 0 ∧ zKp X X3)) 52 [zR 0, zI (a / 10), zI (a % 10)] [] G X := fun n1 n2 =>
        D_countOf_f52 hG ⟨fun e => ⟨fun z => absurd z (by omega), fun _ => ⟨fun l8 => ⟨by omega, l8, _, rfl, m2 _ (fun _ _ => by omega) (fun _ _ => by omega) (fun _ _ => by rw [show a % 10 = a - 30 by omega]) (fun _ _ _ => by omega)⟩, fun g8 => ⟨_, rfl, m2 _ (fun _ _ => by omega) (fun _ _ => by omega) (fun _ _ => by omega) (fun _ _ _ => rfl)⟩⟩⟩, fun e => ⟨_, rfl, m2 _ (fun _ _ => by omega) (fun _ _ => by omega) (fun _ _ => by omega) (fun _ _ _ => rfl)⟩⟩
      have f26 : ¬(10 ≤ a ∧ a < 10 + X 1 12) → D_countOf_W (fun v1 X2 => ∃ r4, v1 = [zI r4] ∧ M_count [zR 139, zI a] G X2 (fun w X3 => w = [zI r4] ∧ zRT X3 1 0 ∧ zKp X X3)) 26 [zR 0, zI (a / 10), zI (a % 10)] [] G X := fun n1 =>
        D_countOf_f26 hG ⟨fun e => q_dHouse hG (fun z0 z1 => ⟨1, rfl, fun z => absurd z (by omega), fun _ => ⟨by omega, by omega, _, rfl, m2 _ (fun _ _ => by omega) (fun _ _ => by rw [show a % 10 = a - 20 by omega]) (fun _ _ => by omega) (fun _ _ _ => by omega)⟩⟩) (fun z0 => ⟨0, rfl, fun _ => f52 n1 (by omega), fun z => absurd rfl z⟩), fun e => f52 n1 (by omega)⟩
      have k : D_countOf [zR 0, zI (a / 10), zI (a % 10)] G X (fun v1 X2 => ∃ r4, v1 = [zI r4] ∧ M_count [zR 139, zI a] G X2 (fun w X3 => w = [zI r4] ∧ zRT X3 1 0 ∧ zKp X X3)) :=
        D_countOf_f0 hG ⟨fun e => q_dPage hG (fun z0 z1 => ⟨1, rfl, fun z => absurd z (by omega), fun _ => ⟨by omega, by omega, _, rfl, m2 _ (fun _ _ => by rw [show a % 10 = a - 10 by omega]) (fun _ _ => by omega) (fun _ _ => by omega) (fun _ _ _ => by omega)⟩⟩) (fun z0 => ⟨0, rfl, fun _ => f26 (by omega), fun z => absurd rfl z⟩), fun e => f26 (by omega)⟩
      exact k
    · have t1 : a.tdiv 10 ≤ 0 := by
        have e : a = -(-a) := by omega
        rw [e, Int.neg_tdiv, Int.tdiv_eq_ediv_of_nonneg (by omega)]
        omega
      have t2 : -2147483648 ≤ a.tdiv 10 := by
        have e : a = -(-a) := by omega
        rw [e, Int.neg_tdiv, Int.tdiv_eq_ediv_of_nonneg (by omega)]
        omega
      refine D_count_f137n hG (y1 := a.tdiv 10) (y2 := zw (a.tmod 10)) ⟨zw_id t2 (by omega), rfl, ?_⟩
      exact D_countOf_f0 hG ⟨fun e => absurd e (by omega), fun _ => D_countOf_f26 hG ⟨fun e => absurd e (by omega), fun _ => D_countOf_f52 hG ⟨fun e => absurd e (by omega), fun _ => ⟨_, rfl, m2 _ (fun _ _ => by omega) (fun _ _ => by omega) (fun _ _ => by omega) (fun _ _ _ => rfl)⟩⟩⟩⟩
