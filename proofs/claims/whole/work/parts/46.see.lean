/-! ===== boxes, asks, late, far ===== -/
theorem zFot_k {r : Int → Int} {land day : Int} {cnt : Nat} (c14 : cnt ≤ 14) (hw : ∀ k : Nat, k < cnt → -1 ≤ r (5 * k + 2) ∧ r (5 * k + 2) < k) (pre : zPre r cnt) (hk : ∀ k : Nat, k < cnt → r (5 * k) ≠ 8 → 0 ≤ r (5 * k) ∧ r (5 * k) ≤ 7) : (∀ x, x ∈ zFot r cnt land day → 0 ≤ x.2.1 ∧ x.2.1 ≤ 7) ∧ (zFot r cnt land day).length ≤ 14 := by
  obtain ⟨X1, b, a, tx, op⟩ := zOp_ex (r := r) (land := land) (day := day) c14 hw pre
  have e := zFot_e tx op
  have cl := zCt_le r (X1 (105 + 5)) cnt
  rw [← e]
  refine ⟨?_, by rw [zLs_len]; omega⟩
  have key : ∀ (n i : Nat), 1 ≤ i → i + n ≤ zCt r (X1 (105 + 5)) cnt → ∀ x, x ∈ zLs (zGl2 X1 105 b) i n → 0 ≤ x.2.1 ∧ x.2.1 ≤ 7 := by
    intro n
    induction n with
    | zero => exact fun i _ _ x hx => absurd hx List.not_mem_nil
    | succ n ih =>
      intro i i1 il x hx
      rcases List.mem_cons.1 hx with ex | ex
      · obtain ⟨k, k1, k2, k3, k4⟩ := zCt_surj (r := r) (N := X1 (105 + 5)) cnt i i1 (by omega)
        have tb := (tx.2.2.2.2 k k1).2
        unfold zOtb at tb
        have pa : zPr r (X1 (105 + 5)) k ≠ -1 := fun c => k2 (tb.1 c)
        by_cases sw : zSw r land day k
        · have y := (tb.2.2.1 pa k3 sw).2.2.1
          rw [k4] at y
          rw [ex]
          show 0 ≤ X1 (105 + 1) i ∧ X1 (105 + 1) i ≤ 7
          rw [y]
          exact hk k k1 k3
        · exact absurd (tb.2.2.2 pa k3 sw) k2
      · exact ih (i + 1) (by omega) (by omega) x ex
  exact key _ 1 (by omega) (by omega)
theorem q_wor {X : zX} (h : zRT X 1 0) : ∀ j : Int, 0 ≤ j → j < 8 → X 140 (10 + j) = X 19 j ∧ 0 ≤ X 19 j ∧ X 19 j ≤ 99 := fun j a b => by
  have z := zR_wor h j a b
  rw [show (0 : Int) + 10 + j = 10 + j by omega, show (1 : Int) + 18 = 19 by omega] at z
  exact z
theorem zoAs_in {K w : Int → Int} : ∀ n : Nat, (∀ j : Nat, 1 ≤ j → j ≤ n → 0 ≤ w (K j) ∧ w (K j) ≤ 99) → 0 ≤ zoAs K w n ∧ zoAs K w n ≤ 99 * n
  | 0, _ => by unfold zoAs; omega
  | n + 1, h => by
    have z := zoAs_in n (fun j a b => h j a (by omega))
    have y := h (n + 1) (by omega) (Nat.le_refl _)
    show 0 ≤ zoAs K w n + w (K ((n + 1 : Nat) : Int)) ∧ zoAs K w n + w (K ((n + 1 : Nat) : Int)) ≤ 99 * ((n + 1 : Nat) : Int)
    omega
theorem asked_C {Q : List zV → zX → Prop} {G : zG} {X : zX} {F : zFo} (hG : SH G) (od : zOpd X 105 F) (hk : ∀ x, x ∈ F → 0 ≤ x.2.1 ∧ x.2.1 ≤ 7) (hw : ∀ j : Int, 0 ≤ j → j < 8 → 0 ≤ X 19 j ∧ X 19 j ≤ 99) (q : Q [zI (zAq (X 19) F)] X) : Op_asked [zR 105, zR 19] G X Q := by
  obtain ⟨m, b, a, op, k1, k2, e, ln⟩ := od
  obtain ⟨cm, m0, m15, _⟩ := op
  have kk : ∀ (n i : Nat), (∀ x, x ∈ zLs (zGl2 X 105 b) i n → 0 ≤ x.2.1 ∧ x.2.1 ≤ 7) → ∀ j : Nat, i ≤ j → j < i + n → 0 ≤ X 106 j ∧ X 106 j ≤ 7 := by
    intro n
    induction n with
    | zero => exact fun i _ j j0 j1 => absurd j1 (by omega)
    | succ n ih =>
      intro i h j j0 j1
      by_cases c : j = i
      · rw [c]
        exact h (zGl2 X 105 b i) (List.mem_cons_self ..)
      · exact ih (i + 1) (fun x hx => h x (List.mem_cons_of_mem _ hx)) j (by omega) (by omega)
  have kj := kk (m - 1) 1 (by rw [e]; exact hk)
  have lp : ∀ (d n : Nat), n + d = m - 1 → Op_asked_W Q 4 [zR 105, zR 19, zI (zoAs (X 106) (X 19) n), zI ((n : Int) + 1)] [] G X := by
    intro d
    induction d with
    | zero =>
      intro n en
      refine Op_asked_105_f4 hG ⟨fun z => absurd z (by omega), fun _ => ?_⟩
      rw [← e, ← zoAs_q (X := X) (o := 105) (b := b) (X 19) (m - 1), show m - 1 = n by omega] at q
      exact q
    | succ d ih =>
      intro n en
      have k := kj (n + 1) (by omega) (by omega)
      have ai := zoAs_in (K := X 106) (w := X 19) n (fun j j0 j1 => hw _ (kj j j0 (by omega)).1 (by have := (kj j j0 (by omega)).2; omega))
      have w1 := hw (X 106 ((n + 1 : Nat) : Int)) k.1 (by omega)
      rw [show ((n + 1 : Nat) : Int) = (n : Int) + 1 by omega] at k w1
      refine Op_asked_105_f4 hG ⟨fun _ => ⟨by omega, by omega, fun _ => ⟨k.1, by omega, zw_id (by omega) (by omega), zw_id (by omega) (by omega), ?_⟩, fun z => absurd z (by omega)⟩, fun z => absurd z (by omega)⟩
      exact ih (n + 1) (by omega)
  exact Op_asked_105_f0 hG (lp (m - 1) 0 (by omega))
/-- a page's text and what is known of it -/
theorem txt_pre {X : zX} {pg T0 : Int} {cnt : Nat} (t : zTxt X pg T0 cnt) : cnt ≤ 14 ∧ (∀ k : Nat, k < cnt → -1 ≤ X (1 + pg) (5 * k + 2) ∧ X (1 + pg) (5 * k + 2) < k) ∧ zPre (X (1 + pg)) cnt ∧ (∀ k : Nat, k < cnt → -1 ≤ X (1 + pg) (5 * k + 3)) ∧ (∀ k : Nat, k < cnt → X (1 + pg) (5 * k) ≠ 8 → 0 ≤ X (1 + pg) (5 * k) ∧ X (1 + pg) (5 * k) ≤ 7) := by
  obtain ⟨k5, c1, c14, t0, t1, tc, tk, pre⟩ := t
  exact ⟨c14, fun k hk => (tk k hk).2.2.1.2, pre, fun k hk => (tk k hk).2.2.2.1.2.1, fun k hk _ => (tk k hk).1.2⟩
theorem zFr_wk {Y Y2 : zX} {s : Int} (h : zFr Y Y2 s) : zWk Y Y2 := fun a ha => h.1 a (by omega) (by omega)
/-- taken and opened by the reference on one side -/
theorem took_R {Q : List zV → zX → Prop} {G : zG} {Y : zX} {s land day pg T0 : Int} {cnt : Nat} (hG : SH G) (s0 : 0 ≤ s) (s1 : s < 2) (t : zTxt Y pg T0 cnt) (hww : ∀ j : Int, 0 ≤ j → j < 8 → Y 140 (10 + j) = Y 19 j ∧ 0 ≤ Y 19 j ∧ Y 19 j ≤ 99)
    (q : ∀ (Y2 : zX) (m : Nat), zWk Y Y2 → (∀ c p : Int, 152 ≤ c → c ≤ 154 → (p < 16 * s ∨ 16 * s + 16 ≤ p) → Y2 c p = Y c p) → (∀ p : Int, p ≠ s → Y2 151 p = Y 151 p) → zRf Y2 s m (zFot (Y (1 + pg)) cnt land day) → Y2 139 26 = ((zFot (Y (1 + pg)) cnt land day).length : Int) → Y2 139 27 = zAq (Y 19) (zFot (Y (1 + pg)) cnt land day) → Q [] Y2) : M_takes [zR 139, zI T0] G Y (fun v X2 => v = [] ∧ M_opens [zR 139, zI s, zI land, zI day] G X2 Q) := by
  have p := txt_pre t
  refine takes_M hG t (fun Y1 f1 f2 mt => ⟨rfl, see_R (w := Y 19) hG s0 s1 p.1 mt p.2.1 p.2.2.1 p.2.2.2.1 (fun j a b => by rw [f1 140 (by omega) (by omega) (by omega)]; exact hww j a b) (fun Y2 m fr rf h26 h27 => ?_)⟩)
  refine q Y2 m (fun a ha => (fr.1 a (by omega) (by omega)).trans (f1 a (by omega) (by omega) (by omega))) (fun c p c0 c1 hp => (fr.2.2.1 c p c0 c1 hp).trans (by rw [f1 c (by omega) (by omega) (by omega)])) (fun p hp => (fr.2.2.2 p hp).trans (by rw [f1 151 (by omega) (by omega) (by omega)])) rf h26 h27
theorem shows_R {Q : List zV → zX → Prop} {G : zG} {Y : zX} {p land day : Int} (hG : SH G) (h : zRT Y 1 0) (p0 : 0 ≤ p) (p1 : p < 10)
    (q : ∀ (Y2 : zX) (m : Nat), zWk Y Y2 → zRf Y2 0 m (zFot (Y (55 + 5 * p)) (Y (54 + 5 * p) 1).toNat land day) → Y2 139 26 = ((zFot (Y (55 + 5 * p)) (Y (54 + 5 * p) 1).toNat land day).length : Int) → Y2 139 27 = zAq (Y 19) (zFot (Y (55 + 5 * p)) (Y (54 + 5 * p) 1).toNat land day) → Q [] Y2) : M_shows [zR 139, zI p, zI land, zI day] G Y Q := by
  have e : (1 : Int) + (54 + 5 * p) = 55 + 5 * p := by omega
  refine M_shows_f0 hG (q_treeOf hG p0 p1 ⟨_, rfl, ?_⟩)
  refine took_R hG (by omega) (by omega) (txt_page h p0 p1) (q_wor h) (fun Y2 m w _ _ rf h26 h27 => ?_)
  rw [e] at rf h26 h27
  exact ⟨rfl, q Y2 m w rf h26 h27⟩
/-- a page's forest for a person -/
noncomputable def zSee (X : zX) (p land day : Int) : zFo := zFot (X (55 + 5 * p)) (X (54 + 5 * p) 1).toNat land day
theorem zSee_w {X X2 : zX} {p land day : Int} (w : zWk X X2) (p0 : 0 ≤ p) (p1 : p < 9 + 1) : zSee X2 p land day = zSee X p land day := by
  unfold zSee
  rw [w (55 + 5 * p) (by omega), w (54 + 5 * p) (by omega)]
theorem see_P1 {Q : List zV → zX → Prop} {G : zG} {X : zX} {p land day : Int} (hG : SH G) (h : zRT X 1 0) (p0 : 0 ≤ p) (p1 : p < 10) (q : ∀ X2 : zX, zWk X X2 → (∀ c : Int, c < 105 ∨ 110 < c → X2 c = X c) → zOpd X2 105 (zSee X p land day) → Q [] X2) : Op_open [zR 105, zR (54 + 5 * p), zI land, zI day] G X Q := by
  refine see_C1 hG (txt_page h p0 p1) (fun X2 fr od => q X2 (fun a ha => fr a (by omega)) fr ?_)
  rw [show (1 : Int) + (54 + 5 * p) = 55 + 5 * p by omega] at od
  exact od
theorem see_P2 {Q : List zV → zX → Prop} {G : zG} {X : zX} {p land day : Int} (hG : SH G) (h : zRT X 1 0) (p0 : 0 ≤ p) (p1 : p < 10) (q : ∀ X2 : zX, zWk X X2 → (∀ c : Int, c < 111 ∨ 116 < c → X2 c = X c) → zOpd X2 111 (zSee X p land day) → Q [] X2) : Op_open [zR 111, zR (54 + 5 * p), zI land, zI day] G X Q := by
  refine see_C2 hG (txt_page h p0 p1) (fun X2 fr od => q X2 (fun a ha => fr a (by omega)) fr ?_)
  rw [show (1 : Int) + (54 + 5 * p) = 55 + 5 * p by omega] at od
  exact od
theorem see_k {X : zX} {p land day : Int} (h : zRT X 1 0) (p0 : 0 ≤ p) (p1 : p < 10) : (∀ x, x ∈ zSee X p land day → 0 ≤ x.2.1 ∧ x.2.1 ≤ 7) ∧ (zSee X p land day).length ≤ 14 := by
  have t := txt_pre (txt_page h p0 p1)
  rw [show (1 : Int) + (54 + 5 * p) = 55 + 5 * p by omega] at t
  exact zFot_k t.1 t.2.1 t.2.2.1 t.2.2.2.2
theorem shown_C {Q : List zV → zX → Prop} {G : zG} {X : zX} {F : zFo} (hG : SH G) (od : zOpd X 105 F) (q : Q [zI (F.length : Int)] X) : Op_shown [zR 105] G X Q := by
  obtain ⟨m, b, a, op, k1, k2, e, ln⟩ := od
  obtain ⟨cm, m0, m15, _⟩ := op
  refine Op_shown_105_f0 hG ?_
  rw [cm]
  rw [ln, show ((m - 1 : Nat) : Int) = (m : Int) - 1 by omega] at q
  exact ⟨zw_id (by omega) (by omega), q⟩
theorem op_boxes {G : zG} {X : zX} {a b c : Int} (hG : SH G) (h : zRT X 1 0) : zOp D_boxes M_boxes [zI a, zI b, zI c] [zI a, zI b, zI c] G X := by
  have hp := q_pages h
  have no : ¬(0 ≤ a ∧ a < X 1 12 ∧ 0 ≤ b ∧ b ≤ 3 ∧ 0 ≤ c ∧ c ≤ 99) → M_boxes [zR 139, zI a, zI b, zI c] G X (fun w X2 => w = [zI (-1)] ∧ zRT X2 1 0 ∧ zKp X X2) := fun n => by
    refine M_boxes_f0 hG ?_
    (repeat' (first | (exact ⟨rfl, h, zKp_r X⟩) | (with_reducible exact rfl) | (with_reducible apply And.intro) | (with_reducible refine ⟨_, rfl, ?_⟩) | (with_reducible refine q_isIn hG (fun _ _ => ?_) (fun _ => ?_)) | (with_reducible refine q_isAddress hG (fun _ _ => ?_) (fun _ => ?_)) | (with_reducible refine q_isMade hG (fun _ _ => ?_) (fun _ => ?_)) | (with_reducible refine q_isPage hG (by assumption) (fun _ _ => ?_) (fun _ => ?_)) | (with_reducible refine q_isHouse hG (by assumption) (fun _ _ => ?_) (fun _ => ?_)) | (with_reducible refine q_dPage hG (fun _ _ => ?_) (fun _ => ?_)) | (with_reducible refine q_dHouse hG (fun _ _ => ?_) (fun _ => ?_)) | (with_reducible refine q_dDay hG (fun _ _ => ?_) (fun _ => ?_)) | (with_reducible refine q_dLand hG (fun _ _ => ?_) (fun _ => ?_)) | (with_reducible refine q_dPerson hG (fun _ => ?_) (fun _ => ?_)) | (with_reducible refine q_mPerson hG (fun _ => ?_) (fun _ => ?_)) | (with_reducible refine q_pageAt hG (by omega) (by omega) ?_) | (with_reducible refine q_houseAt hG (by omega) (by omega) ?_) | (with_reducible refine q_treeOf hG (by omega) (by omega) ?_) | (with_reducible intro hz; exfalso; omega) | (with_reducible intro _) | (with_reducible refine zw_id ?_ ?_) | omega | (simp only [zw]; omega)))
  refine D_boxes_f0 hG ?_
  (repeat' (first | (with_reducible exact no (by omega)) | (with_reducible exact rfl) | (with_reducible apply And.intro) | (with_reducible refine ⟨_, rfl, ?_⟩) | (with_reducible refine q_isIn hG (fun _ _ => ?_) (fun _ => ?_)) | (with_reducible refine q_isAddress hG (fun _ _ => ?_) (fun _ => ?_)) | (with_reducible refine q_isMade hG (fun _ _ => ?_) (fun _ => ?_)) | (with_reducible refine q_isPage hG (by assumption) (fun _ _ => ?_) (fun _ => ?_)) | (with_reducible refine q_isHouse hG (by assumption) (fun _ _ => ?_) (fun _ => ?_)) | (with_reducible refine q_dPage hG (fun _ _ => ?_) (fun _ => ?_)) | (with_reducible refine q_dHouse hG (fun _ _ => ?_) (fun _ => ?_)) | (with_reducible refine q_dDay hG (fun _ _ => ?_) (fun _ => ?_)) | (with_reducible refine q_dLand hG (fun _ _ => ?_) (fun _ => ?_)) | (with_reducible refine q_dPerson hG (fun _ => ?_) (fun _ => ?_)) | (with_reducible refine q_mPerson hG (fun _ => ?_) (fun _ => ?_)) | (with_reducible refine q_pageAt hG (by omega) (by omega) ?_) | (with_reducible refine q_houseAt hG (by omega) (by omega) ?_) | (with_reducible refine q_treeOf hG (by omega) (by omega) ?_) | (with_reducible intro hz; exfalso; omega) | (with_reducible intro _) | (with_reducible refine zw_id ?_ ?_) | omega | (simp only [zw]; omega)))
  refine see_P1 hG h (by omega) (by omega) (fun X2 w2 _ od => ⟨rfl, shown_C hG od ⟨_, rfl, ?_⟩⟩)
  have h2 := zWk_RT w2 h
  have hp2 := q_pages h2
  have e12 : X2 1 12 = X 1 12 := by rw [w2 1 (by omega)]
  refine M_boxes_f0 hG ?_
  (repeat' (first | (exact ⟨rfl, h, zKp_r X⟩) | (with_reducible exact rfl) | (with_reducible apply And.intro) | (with_reducible refine ⟨_, rfl, ?_⟩) | (with_reducible refine q_isIn hG (fun _ _ => ?_) (fun _ => ?_)) | (with_reducible refine q_isAddress hG (fun _ _ => ?_) (fun _ => ?_)) | (with_reducible refine q_isMade hG (fun _ _ => ?_) (fun _ => ?_)) | (with_reducible refine q_isPage hG (by assumption) (fun _ _ => ?_) (fun _ => ?_)) | (with_reducible refine q_isHouse hG (by assumption) (fun _ _ => ?_) (fun _ => ?_)) | (with_reducible refine q_dPage hG (fun _ _ => ?_) (fun _ => ?_)) | (with_reducible refine q_dHouse hG (fun _ _ => ?_) (fun _ => ?_)) | (with_reducible refine q_dDay hG (fun _ _ => ?_) (fun _ => ?_)) | (with_reducible refine q_dLand hG (fun _ _ => ?_) (fun _ => ?_)) | (with_reducible refine q_dPerson hG (fun _ => ?_) (fun _ => ?_)) | (with_reducible refine q_mPerson hG (fun _ => ?_) (fun _ => ?_)) | (with_reducible refine q_pageAt hG (by omega) (by omega) ?_) | (with_reducible refine q_houseAt hG (by omega) (by omega) ?_) | (with_reducible refine q_treeOf hG (by omega) (by omega) ?_) | (with_reducible intro hz; exfalso; omega) | (with_reducible intro _) | (with_reducible refine zw_id ?_ ?_) | omega | (simp only [zw]; omega)))
  refine took_R hG (by omega) (by omega) (txt_page h2 (by omega) (by omega)) (q_wor h2) (fun Y2 m w3 _ _ rf h26 h27 => ⟨rfl, ?_, zWk_RT (zWk_t w2 w3) h, zWk_Kp (zWk_t w2 w3)⟩)
  rw [h26, show (1 : Int) + (54 + 5 * a) = 55 + 5 * a by omega]
  show [zI ((zSee X2 a b c).length : Int)] = _
  rw [zSee_w w2 (by omega) (by omega)]
theorem op_asks {G : zG} {X : zX} {a b c : Int} (hG : SH G) (h : zRT X 1 0) : zOp D_asks M_asks [zI a, zI b, zI c] [zI a, zI b, zI c] G X := by
  have hp := q_pages h
  have no : ¬(0 ≤ a ∧ a < X 1 12 ∧ 0 ≤ b ∧ b ≤ 3 ∧ 0 ≤ c ∧ c ≤ 99) → M_asks [zR 139, zI a, zI b, zI c] G X (fun w X2 => w = [zI (-1)] ∧ zRT X2 1 0 ∧ zKp X X2) := fun n => by
    refine M_asks_f0 hG ?_
    (repeat' (first | (exact ⟨rfl, h, zKp_r X⟩) | (with_reducible exact rfl) | (with_reducible apply And.intro) | (with_reducible refine ⟨_, rfl, ?_⟩) | (with_reducible refine q_isIn hG (fun _ _ => ?_) (fun _ => ?_)) | (with_reducible refine q_isAddress hG (fun _ _ => ?_) (fun _ => ?_)) | (with_reducible refine q_isMade hG (fun _ _ => ?_) (fun _ => ?_)) | (with_reducible refine q_isPage hG (by assumption) (fun _ _ => ?_) (fun _ => ?_)) | (with_reducible refine q_isHouse hG (by assumption) (fun _ _ => ?_) (fun _ => ?_)) | (with_reducible refine q_dPage hG (fun _ _ => ?_) (fun _ => ?_)) | (with_reducible refine q_dHouse hG (fun _ _ => ?_) (fun _ => ?_)) | (with_reducible refine q_dDay hG (fun _ _ => ?_) (fun _ => ?_)) | (with_reducible refine q_dLand hG (fun _ _ => ?_) (fun _ => ?_)) | (with_reducible refine q_dPerson hG (fun _ => ?_) (fun _ => ?_)) | (with_reducible refine q_mPerson hG (fun _ => ?_) (fun _ => ?_)) | (with_reducible refine q_pageAt hG (by omega) (by omega) ?_) | (with_reducible refine q_houseAt hG (by omega) (by omega) ?_) | (with_reducible refine q_treeOf hG (by omega) (by omega) ?_) | (with_reducible intro hz; exfalso; omega) | (with_reducible intro _) | (with_reducible refine zw_id ?_ ?_) | omega | (simp only [zw]; omega)))
  refine D_asks_f0 hG ?_
  (repeat' (first | (with_reducible exact no (by omega)) | (with_reducible exact rfl) | (with_reducible apply And.intro) | (with_reducible refine ⟨_, rfl, ?_⟩) | (with_reducible refine q_isIn hG (fun _ _ => ?_) (fun _ => ?_)) | (with_reducible refine q_isAddress hG (fun _ _ => ?_) (fun _ => ?_)) | (with_reducible refine q_isMade hG (fun _ _ => ?_) (fun _ => ?_)) | (with_reducible refine q_isPage hG (by assumption) (fun _ _ => ?_) (fun _ => ?_)) | (with_reducible refine q_isHouse hG (by assumption) (fun _ _ => ?_) (fun _ => ?_)) | (with_reducible refine q_dPage hG (fun _ _ => ?_) (fun _ => ?_)) | (with_reducible refine q_dHouse hG (fun _ _ => ?_) (fun _ => ?_)) | (with_reducible refine q_dDay hG (fun _ _ => ?_) (fun _ => ?_)) | (with_reducible refine q_dLand hG (fun _ _ => ?_) (fun _ => ?_)) | (with_reducible refine q_dPerson hG (fun _ => ?_) (fun _ => ?_)) | (with_reducible refine q_mPerson hG (fun _ => ?_) (fun _ => ?_)) | (with_reducible refine q_pageAt hG (by omega) (by omega) ?_) | (with_reducible refine q_houseAt hG (by omega) (by omega) ?_) | (with_reducible refine q_treeOf hG (by omega) (by omega) ?_) | (with_reducible intro hz; exfalso; omega) | (with_reducible intro _) | (with_reducible refine zw_id ?_ ?_) | omega | (simp only [zw]; omega)))
  refine see_P1 hG h (by omega) (by omega) (fun X2 w2 _ od => ⟨rfl, asked_C hG od (see_k h (by omega) (by omega)).1 (fun j j0 j1 => (q_wor (zWk_RT w2 h) j j0 j1).2) ⟨_, rfl, ?_⟩⟩)
  have h2 := zWk_RT w2 h
  have hp2 := q_pages h2
  have e12 : X2 1 12 = X 1 12 := by rw [w2 1 (by omega)]
  refine M_asks_f0 hG ?_
  (repeat' (first | (exact ⟨rfl, h, zKp_r X⟩) | (with_reducible exact rfl) | (with_reducible apply And.intro) | (with_reducible refine ⟨_, rfl, ?_⟩) | (with_reducible refine q_isIn hG (fun _ _ => ?_) (fun _ => ?_)) | (with_reducible refine q_isAddress hG (fun _ _ => ?_) (fun _ => ?_)) | (with_reducible refine q_isMade hG (fun _ _ => ?_) (fun _ => ?_)) | (with_reducible refine q_isPage hG (by assumption) (fun _ _ => ?_) (fun _ => ?_)) | (with_reducible refine q_isHouse hG (by assumption) (fun _ _ => ?_) (fun _ => ?_)) | (with_reducible refine q_dPage hG (fun _ _ => ?_) (fun _ => ?_)) | (with_reducible refine q_dHouse hG (fun _ _ => ?_) (fun _ => ?_)) | (with_reducible refine q_dDay hG (fun _ _ => ?_) (fun _ => ?_)) | (with_reducible refine q_dLand hG (fun _ _ => ?_) (fun _ => ?_)) | (with_reducible refine q_dPerson hG (fun _ => ?_) (fun _ => ?_)) | (with_reducible refine q_mPerson hG (fun _ => ?_) (fun _ => ?_)) | (with_reducible refine q_pageAt hG (by omega) (by omega) ?_) | (with_reducible refine q_houseAt hG (by omega) (by omega) ?_) | (with_reducible refine q_treeOf hG (by omega) (by omega) ?_) | (with_reducible intro hz; exfalso; omega) | (with_reducible intro _) | (with_reducible refine zw_id ?_ ?_) | omega | (simp only [zw]; omega)))
  refine shows_R hG h2 (by omega) (by omega) (fun Y2 m w3 rf h26 h27 => ⟨rfl, ?_, zWk_RT (zWk_t w2 w3) h, zWk_Kp (zWk_t w2 w3)⟩)
  rw [h27]
  show [zI (zAq (X2 19) (zSee X2 a b c))] = _
  rw [zSee_w w2 (by omega) (by omega)]
/-! late -/
noncomputable def zLt (f : Int → Int) (v : Int) : Nat → Int → Int
  | 0, _ => -1
  | d + 1, k => if f k = v then zLt f v d (k + 1) else k
theorem op_late {G : zG} {X : zX} {a b : Int} (hG : SH G) (h : zRT X 1 0) : zOp D_late M_late [zI a, zI b] [zI a, zI b] G X := by
  have hp := q_pages h
  have no : ¬(0 ≤ a ∧ a < X 1 12 ∧ 0 ≤ b ∧ b ≤ 3) → M_late [zR 139, zI a, zI b] G X (fun w X2 => w = [zI (-1)] ∧ zRT X2 1 0 ∧ zKp X X2) := fun n => by
    refine M_late_f0 hG ?_
    (repeat' (first | (exact ⟨rfl, h, zKp_r X⟩) | (with_reducible exact rfl) | (with_reducible apply And.intro) | (with_reducible refine ⟨_, rfl, ?_⟩) | (with_reducible refine q_isIn hG (fun _ _ => ?_) (fun _ => ?_)) | (with_reducible refine q_isAddress hG (fun _ _ => ?_) (fun _ => ?_)) | (with_reducible refine q_isMade hG (fun _ _ => ?_) (fun _ => ?_)) | (with_reducible refine q_isPage hG (by assumption) (fun _ _ => ?_) (fun _ => ?_)) | (with_reducible refine q_isHouse hG (by assumption) (fun _ _ => ?_) (fun _ => ?_)) | (with_reducible refine q_dPage hG (fun _ _ => ?_) (fun _ => ?_)) | (with_reducible refine q_dHouse hG (fun _ _ => ?_) (fun _ => ?_)) | (with_reducible refine q_dDay hG (fun _ _ => ?_) (fun _ => ?_)) | (with_reducible refine q_dLand hG (fun _ _ => ?_) (fun _ => ?_)) | (with_reducible refine q_dPerson hG (fun _ => ?_) (fun _ => ?_)) | (with_reducible refine q_mPerson hG (fun _ => ?_) (fun _ => ?_)) | (with_reducible refine q_pageAt hG (by omega) (by omega) ?_) | (with_reducible refine q_houseAt hG (by omega) (by omega) ?_) | (with_reducible refine q_treeOf hG (by omega) (by omega) ?_) | (with_reducible intro hz; exfalso; omega) | (with_reducible intro _) | (with_reducible refine zw_id ?_ ?_) | omega | (simp only [zw]; omega)))
  refine D_late_f0 hG ?_
  (repeat' (first | (with_reducible exact no (by omega)) | (with_reducible exact rfl) | (with_reducible apply And.intro) | (with_reducible refine ⟨_, rfl, ?_⟩) | (with_reducible refine q_isIn hG (fun _ _ => ?_) (fun _ => ?_)) | (with_reducible refine q_isAddress hG (fun _ _ => ?_) (fun _ => ?_)) | (with_reducible refine q_isMade hG (fun _ _ => ?_) (fun _ => ?_)) | (with_reducible refine q_isPage hG (by assumption) (fun _ _ => ?_) (fun _ => ?_)) | (with_reducible refine q_isHouse hG (by assumption) (fun _ _ => ?_) (fun _ => ?_)) | (with_reducible refine q_dPage hG (fun _ _ => ?_) (fun _ => ?_)) | (with_reducible refine q_dHouse hG (fun _ _ => ?_) (fun _ => ?_)) | (with_reducible refine q_dDay hG (fun _ _ => ?_) (fun _ => ?_)) | (with_reducible refine q_dLand hG (fun _ _ => ?_) (fun _ => ?_)) | (with_reducible refine q_dPerson hG (fun _ => ?_) (fun _ => ?_)) | (with_reducible refine q_mPerson hG (fun _ => ?_) (fun _ => ?_)) | (with_reducible refine q_pageAt hG (by omega) (by omega) ?_) | (with_reducible refine q_houseAt hG (by omega) (by omega) ?_) | (with_reducible refine q_treeOf hG (by omega) (by omega) ?_) | (with_reducible intro hz; exfalso; omega) | (with_reducible intro _) | (with_reducible refine zw_id ?_ ?_) | omega | (simp only [zw]; omega)))
  have a0 : 0 ≤ a := by omega
  have a1 : a < 10 := by omega
  have dl : ∀ {Q : List zV → zX → Prop}, (∀ X2 : zX, zWk X X2 → Q [zI (zLt (fun t => ((zSee X a b t).length : Int)) ((zSee X a b 0).length : Int) 99 1)] X2) → ∀ (d : Nat) (k : Int) (X2 : zX), zWk X X2 → k + d = 100 → 1 ≤ k → zLt (fun t => ((zSee X a b t).length : Int)) ((zSee X a b 0).length : Int) d k = zLt (fun t => ((zSee X a b t).length : Int)) ((zSee X a b 0).length : Int) 99 1 → D_late_W Q 58 [zR 0, zT, zI b, zR (54 + 5 * a), zI ((zSee X a b 0).length : Int), zI k] [] G X2 := by
    intro Q q d
    induction d with
    | zero =>
      intro k X2 w2 e k1 z
      refine D_late_f58 hG (q_came a0 a1) ⟨fun z => absurd z (by omega), fun _ => ?_⟩
      have q2 := q X2 w2
      rw [← z] at q2
      exact q2
    | succ d ih =>
      intro k X2 w2 e k1 z
      refine D_late_f58 hG (q_came a0 a1) ⟨fun _ => see_P1 hG (zWk_RT w2 h) a0 a1 (fun X3 w3 _ od => ⟨rfl, shown_C hG od ⟨_, rfl, ?_⟩⟩), fun z => absurd z (by omega)⟩
      rw [zSee_w w2 a0 (by omega)]
      refine ⟨fun c => ⟨zw_id (by omega) (by omega), ih (k + 1) X3 (zWk_t w2 w3) (by omega) (by omega) ?_⟩, fun c => ?_⟩
      · rw [← z]
        exact (if_pos c).symm
      · have q2 := q X3 (zWk_t w2 w3)
        rw [← z, show zLt (fun t => ((zSee X a b t).length : Int)) ((zSee X a b 0).length : Int) (d + 1) k = k from if_neg c] at q2
        exact q2
  have ml : ∀ {Q : List zV → zX → Prop}, (∀ X2 : zX, zWk X X2 → Q [zI (zLt (fun t => ((zSee X a b t).length : Int)) ((zSee X a b 0).length : Int) 99 1)] X2) → ∀ (d : Nat) (k : Int) (X2 : zX), zWk X X2 → k + d = 100 → 1 ≤ k → zLt (fun t => ((zSee X a b t).length : Int)) ((zSee X a b 0).length : Int) d k = zLt (fun t => ((zSee X a b t).length : Int)) ((zSee X a b 0).length : Int) 99 1 → M_late_W Q 34 [zR 139, zI a, zI b, zI ((zSee X a b 0).length : Int), zI k] [] G X2 := by
    intro Q q d
    induction d with
    | zero =>
      intro k X2 w2 e k1 z
      refine M_late_f34 hG ⟨fun z => absurd z (by omega), fun _ => ?_⟩
      have q2 := q X2 w2
      rw [← z] at q2
      exact q2
    | succ d ih =>
      intro k X2 w2 e k1 z
      refine M_late_f34 hG ⟨fun _ => shows_R hG (zWk_RT w2 h) a0 a1 (fun X3 m w3 rf h26 h27 => ⟨rfl, ?_⟩), fun z => absurd z (by omega)⟩
      rw [h26]
      have es : (zFot (X2 (55 + 5 * a)) (X2 (54 + 5 * a) 1).toNat b k) = zSee X a b k := zSee_w w2 a0 (by omega)
      rw [es]
      refine ⟨fun c => ⟨zw_id (by omega) (by omega), ih (k + 1) X3 (zWk_t w2 w3) (by omega) (by omega) ?_⟩, fun c => ?_⟩
      · rw [← z]
        exact (if_pos c).symm
      · have q2 := q X3 (zWk_t w2 w3)
        rw [← z, show zLt (fun t => ((zSee X a b t).length : Int)) ((zSee X a b 0).length : Int) (d + 1) k = k from if_neg c] at q2
        exact q2
  refine see_P1 hG h a0 a1 (fun X2 w2 _ od => ⟨rfl, shown_C hG od ⟨_, rfl, dl (fun X3 w3 => ?_) 99 1 X2 w2 (by omega) (by omega) rfl⟩⟩)
  have h3 := zWk_RT w3 h
  have hp3 := q_pages h3
  have e12 : X3 1 12 = X 1 12 := by rw [w3 1 (by omega)]
  refine M_late_f0 hG ?_
  (repeat' (first | (exact ⟨rfl, h, zKp_r X⟩) | (with_reducible exact rfl) | (with_reducible apply And.intro) | (with_reducible refine ⟨_, rfl, ?_⟩) | (with_reducible refine q_isIn hG (fun _ _ => ?_) (fun _ => ?_)) | (with_reducible refine q_isAddress hG (fun _ _ => ?_) (fun _ => ?_)) | (with_reducible refine q_isMade hG (fun _ _ => ?_) (fun _ => ?_)) | (with_reducible refine q_isPage hG (by assumption) (fun _ _ => ?_) (fun _ => ?_)) | (with_reducible refine q_isHouse hG (by assumption) (fun _ _ => ?_) (fun _ => ?_)) | (with_reducible refine q_dPage hG (fun _ _ => ?_) (fun _ => ?_)) | (with_reducible refine q_dHouse hG (fun _ _ => ?_) (fun _ => ?_)) | (with_reducible refine q_dDay hG (fun _ _ => ?_) (fun _ => ?_)) | (with_reducible refine q_dLand hG (fun _ _ => ?_) (fun _ => ?_)) | (with_reducible refine q_dPerson hG (fun _ => ?_) (fun _ => ?_)) | (with_reducible refine q_mPerson hG (fun _ => ?_) (fun _ => ?_)) | (with_reducible refine q_pageAt hG (by omega) (by omega) ?_) | (with_reducible refine q_houseAt hG (by omega) (by omega) ?_) | (with_reducible refine q_treeOf hG (by omega) (by omega) ?_) | (with_reducible intro hz; exfalso; omega) | (with_reducible intro _) | (with_reducible refine zw_id ?_ ?_) | omega | (simp only [zw]; omega)))
  refine shows_R hG h3 a0 a1 (fun X4 m w4 rf h26 h27 => ⟨rfl, ?_⟩)
  have es : (zFot (X3 (55 + 5 * a)) (X3 (54 + 5 * a) 1).toNat b 0) = zSee X a b 0 := zSee_w w3 a0 (by omega)
  rw [h26, es]
  exact ml (fun X5 w5 => ⟨rfl, zWk_RT w5 h, zWk_Kp w5⟩) 99 1 X4 (zWk_t w3 w4) (by omega) (by omega) rfl
