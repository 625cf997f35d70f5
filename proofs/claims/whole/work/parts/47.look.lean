/-! ===== far, differs, look ===== -/
theorem zRf_c {Y Y2 : zX} {s : Int} {m : Nat} {F : zFo} (h : zRf Y s m F) (e : ∀ c p : Int, 152 ≤ c → c ≤ 154 → 16 * s ≤ p → p < 16 * s + 16 → Y2 c p = Y c p) (e2 : Y2 151 s = Y 151 s) : zRf Y2 s m F := by
  obtain ⟨m0, m15, h1, en, fs, h2, h3, h4, h5, wf, ln⟩ := h
  refine ⟨m0, m15, e2.trans h1, ?_, fun p hp => by rw [e 154 _ (by omega) (by omega) (by omega) (by omega)]; exact fs p hp, (e 152 _ (by omega) (by omega) (by omega) (by omega)).trans h2, (e 153 _ (by omega) (by omega) (by omega) (by omega)).trans h3, (e 154 _ (by omega) (by omega) (by omega) (by omega)).trans h4, fun p hp => by rw [e 152 _ (by omega) (by omega) (by omega) (by omega)]; exact h5 p hp, wf, ln⟩
  rw [← en]
  exact zEn_c _ (fun p hp => ⟨e 152 _ (by omega) (by omega) (by omega) (by omega), e 153 _ (by omega) (by omega) (by omega) (by omega), e 154 _ (by omega) (by omega) (by omega) (by omega)⟩)
/-- the other side beside one that is opened -/
theorem other_R {Q : List zV → zX → Prop} {G : zG} {Y : zX} {land day pg T0 : Int} {cnt m : Nat} {F : zFo} (hG : SH G) (h : zRT Y 1 0) (t : zTxt Y pg T0 cnt) (r1 : zRf Y 0 m F) (q : ∀ Y2 : zX, zWk Y Y2 → zRf Y2 0 m F → (∀ p : Int, p ≠ 15 → p ≠ 26 → p ≠ 27 → Y2 139 p = Y 139 p) → Q [zI (zd F (zFot (Y (1 + pg)) cnt land day) : Nat)] Y2) : M_takes [zR 139, zI T0] G Y (fun v X2 => v = [] ∧ M_opens [zR 139, zI 1, zI land, zI day] G X2 (fun v3 X3 => v3 = [] ∧ M_farNow [zR 139] G X3 Q)) := by
  have p := txt_pre t
  have hww := q_wor h
  refine takes_M hG t (fun Y1 f1 f2 mt => ⟨rfl, see_R (w := Y 19) hG (by omega) (by omega) p.1 mt p.2.1 p.2.2.1 p.2.2.2.1 (fun j a b => by rw [f1 140 (by omega) (by omega) (by omega)]; exact hww j a b) (fun Y2 n fr rf h26 h27 => ⟨rfl, ?_⟩)⟩)
  have rf1 : zRf Y2 0 m F := zRf_c r1 (fun c p c0 c1 p0 p1 => (fr.2.2.1 c p c0 c1 (by omega)).trans (by rw [f1 c (by omega) (by omega) (by omega)])) ((fr.2.2.2 0 (by omega)).trans (by rw [f1 151 (by omega) (by omega) (by omega)]))
  refine far_R hG rf1 rf (fun Y3 f3 => q Y3 (fun a ha => (f3 a (by omega) (by omega)).trans ((fr.1 a (by omega) (by omega)).trans (f1 a (by omega) (by omega) (by omega)))) (zRf_c rf1 (fun c p c0 c1 _ _ => by rw [f3 c (by omega) (by omega)]) (by rw [f3 151 (by omega) (by omega)])) (fun p p0 p1 p2 => ?_))
  rw [f3 139 (by omega) (by omega), fr.2.1 p p1 p2, f2 p p0]
theorem farOf_M {Q : List zV → zX → Prop} {G : zG} {Y : zX} {pg T0 pg2 T1 l d l2 d2 : Int} {cnt cnt2 : Nat} (hG : SH G) (h : zRT Y 1 0) (t : zTxt Y pg T0 cnt) (t2 : zTxt Y pg2 T1 cnt2) (hp : pg < 102) (hp2 : pg2 < 102) (q : ∀ Y2 : zX, zWk Y Y2 → Q [zI (zd (zFot (Y (1 + pg)) cnt l d) (zFot (Y (1 + pg2)) cnt2 l2 d2) : Nat)] Y2) : M_farOf [zR 139, zI T0, zI l, zI d, zI T1, zI l2, zI d2] G Y Q := by
  refine M_farOf_f0 hG (took_R hG (by omega) (by omega) t (q_wor h) (fun Y2 m w2 _ _ rf _ _ => ⟨rfl, ?_⟩))
  have e : Y2 (1 + pg2) = Y (1 + pg2) := w2 _ (by omega)
  refine other_R hG (zWk_RT w2 h) (txt_w w2 hp2 t2) rf (fun Y3 w3 _ _ => ⟨_, rfl, ?_⟩)
  rw [e]
  exact q Y3 (zWk_t w2 w3)
theorem op_far {G : zG} {X : zX} {a b c d : Int} (hG : SH G) (h : zRT X 1 0) : zOp D_far M_far [zI a, zI b, zI c, zI d] [zI a, zI b, zI c, zI d] G X := by
  have hp := q_pages h
  have no : ¬(0 ≤ a ∧ a < X 1 12 ∧ 0 ≤ b ∧ b < X 1 12 ∧ 0 ≤ c ∧ c ≤ 3 ∧ 0 ≤ d ∧ d ≤ 99) → M_far [zR 139, zI a, zI b, zI c, zI d] G X (fun w X2 => w = [zI (-1)] ∧ zRT X2 1 0 ∧ zKp X X2) := fun n => by
    refine M_far_f0 hG ?_
    (repeat' (first | (exact ⟨rfl, h, zKp_r X⟩) | (with_reducible exact rfl) | (with_reducible apply And.intro) | (with_reducible refine ⟨_, rfl, ?_⟩) | (with_reducible refine q_isIn hG (fun _ _ => ?_) (fun _ => ?_)) | (with_reducible refine q_isAddress hG (fun _ _ => ?_) (fun _ => ?_)) | (with_reducible refine q_isMade hG (fun _ _ => ?_) (fun _ => ?_)) | (with_reducible refine q_isPage hG (by assumption) (fun _ _ => ?_) (fun _ => ?_)) | (with_reducible refine q_isHouse hG (by assumption) (fun _ _ => ?_) (fun _ => ?_)) | (with_reducible refine q_dPage hG (fun _ _ => ?_) (fun _ => ?_)) | (with_reducible refine q_dHouse hG (fun _ _ => ?_) (fun _ => ?_)) | (with_reducible refine q_dDay hG (fun _ _ => ?_) (fun _ => ?_)) | (with_reducible refine q_dLand hG (fun _ _ => ?_) (fun _ => ?_)) | (with_reducible refine q_dPerson hG (fun _ => ?_) (fun _ => ?_)) | (with_reducible refine q_mPerson hG (fun _ => ?_) (fun _ => ?_)) | (with_reducible refine q_pageAt hG (by omega) (by omega) ?_) | (with_reducible refine q_houseAt hG (by omega) (by omega) ?_) | (with_reducible refine q_treeOf hG (by omega) (by omega) ?_) | (with_reducible intro hz; exfalso; omega) | (with_reducible intro _) | (with_reducible refine zw_id ?_ ?_) | omega | (simp only [zw]; omega)))
  refine D_far_f0 hG ?_
  (repeat' (first | (with_reducible exact no (by omega)) | (with_reducible exact rfl) | (with_reducible apply And.intro) | (with_reducible refine ⟨_, rfl, ?_⟩) | (with_reducible refine q_isIn hG (fun _ _ => ?_) (fun _ => ?_)) | (with_reducible refine q_isAddress hG (fun _ _ => ?_) (fun _ => ?_)) | (with_reducible refine q_isMade hG (fun _ _ => ?_) (fun _ => ?_)) | (with_reducible refine q_isPage hG (by assumption) (fun _ _ => ?_) (fun _ => ?_)) | (with_reducible refine q_isHouse hG (by assumption) (fun _ _ => ?_) (fun _ => ?_)) | (with_reducible refine q_dPage hG (fun _ _ => ?_) (fun _ => ?_)) | (with_reducible refine q_dHouse hG (fun _ _ => ?_) (fun _ => ?_)) | (with_reducible refine q_dDay hG (fun _ _ => ?_) (fun _ => ?_)) | (with_reducible refine q_dLand hG (fun _ _ => ?_) (fun _ => ?_)) | (with_reducible refine q_dPerson hG (fun _ => ?_) (fun _ => ?_)) | (with_reducible refine q_mPerson hG (fun _ => ?_) (fun _ => ?_)) | (with_reducible refine q_pageAt hG (by omega) (by omega) ?_) | (with_reducible refine q_houseAt hG (by omega) (by omega) ?_) | (with_reducible refine q_treeOf hG (by omega) (by omega) ?_) | (with_reducible intro hz; exfalso; omega) | (with_reducible intro _) | (with_reducible refine zw_id ?_ ?_) | omega | (simp only [zw]; omega)))
  refine see_P1 hG h (by omega) (by omega) (fun X2 w2 _ od => ⟨rfl, by omega, by omega, see_P2 hG (zWk_RT w2 h) (by omega) (by omega) (fun X3 w3 f3 od2 => ⟨rfl, far_C hG (zOpd_c od (fun c c0 c1 => f3 c (by omega))) od2 (fun X4 f4 => ⟨_, rfl, ?_⟩)⟩)⟩)
  have w4 : zWk X X4 := zWk_t (zWk_t w2 w3) (fun a ha => f4 a (by omega) (by omega))
  have h4 := zWk_RT w4 h
  have hp4 := q_pages h4
  have e12 : X4 1 12 = X 1 12 := by rw [w4 1 (by omega)]
  refine M_far_f0 hG ?_
  (repeat' (first | (exact ⟨rfl, h, zKp_r X⟩) | (with_reducible exact rfl) | (with_reducible apply And.intro) | (with_reducible refine ⟨_, rfl, ?_⟩) | (with_reducible refine q_isIn hG (fun _ _ => ?_) (fun _ => ?_)) | (with_reducible refine q_isAddress hG (fun _ _ => ?_) (fun _ => ?_)) | (with_reducible refine q_isMade hG (fun _ _ => ?_) (fun _ => ?_)) | (with_reducible refine q_isPage hG (by assumption) (fun _ _ => ?_) (fun _ => ?_)) | (with_reducible refine q_isHouse hG (by assumption) (fun _ _ => ?_) (fun _ => ?_)) | (with_reducible refine q_dPage hG (fun _ _ => ?_) (fun _ => ?_)) | (with_reducible refine q_dHouse hG (fun _ _ => ?_) (fun _ => ?_)) | (with_reducible refine q_dDay hG (fun _ _ => ?_) (fun _ => ?_)) | (with_reducible refine q_dLand hG (fun _ _ => ?_) (fun _ => ?_)) | (with_reducible refine q_dPerson hG (fun _ => ?_) (fun _ => ?_)) | (with_reducible refine q_mPerson hG (fun _ => ?_) (fun _ => ?_)) | (with_reducible refine q_pageAt hG (by omega) (by omega) ?_) | (with_reducible refine q_houseAt hG (by omega) (by omega) ?_) | (with_reducible refine q_treeOf hG (by omega) (by omega) ?_) | (with_reducible intro hz; exfalso; omega) | (with_reducible intro _) | (with_reducible refine zw_id ?_ ?_) | omega | (simp only [zw]; omega)))
  refine farOf_M hG h4 (txt_page h4 (by omega) (by omega)) (txt_page h4 (by omega) (by omega)) (by omega) (by omega) (fun Y2 w5 => ⟨_, rfl, ?_, zWk_RT (zWk_t w4 w5) h, zWk_Kp (zWk_t w4 w5)⟩)
  rw [show (1 : Int) + (54 + 5 * a) = 55 + 5 * a by omega, show (1 : Int) + (54 + 5 * b) = 55 + 5 * b by omega]
  show [zI (zd (zSee X4 a c d) (zSee X4 b c d) : Nat)] = _
  rw [zSee_w w4 (by omega) (by omega), zSee_w w4 (by omega) (by omega), zSee_w w2 (by omega) (by omega)]
theorem op_differs {G : zG} {X : zX} {a b c d e : Int} (hG : SH G) (h : zRT X 1 0) : zOp D_differs M_differs [zI a, zI b, zI c, zI d, zI e] [zI a, zI b, zI c, zI d, zI e] G X := by
  have hp := q_pages h
  have no : ¬(0 ≤ a ∧ a < X 1 12 ∧ (0 ≤ b ∧ b ≤ 3 ∧ 0 ≤ c ∧ c ≤ 99) ∧ 0 ≤ d ∧ d ≤ 3 ∧ 0 ≤ e ∧ e ≤ 99) → M_differs [zR 139, zI a, zI b, zI c, zI d, zI e] G X (fun w X2 => w = [zI (-1)] ∧ zRT X2 1 0 ∧ zKp X X2) := fun n => by
    refine M_differs_f0 hG ?_
    (repeat' (first | (exact ⟨rfl, h, zKp_r X⟩) | (with_reducible exact rfl) | (with_reducible apply And.intro) | (with_reducible refine ⟨_, rfl, ?_⟩) | (with_reducible refine q_isIn hG (fun _ _ => ?_) (fun _ => ?_)) | (with_reducible refine q_isAddress hG (fun _ _ => ?_) (fun _ => ?_)) | (with_reducible refine q_isMade hG (fun _ _ => ?_) (fun _ => ?_)) | (with_reducible refine q_isPage hG (by assumption) (fun _ _ => ?_) (fun _ => ?_)) | (with_reducible refine q_isHouse hG (by assumption) (fun _ _ => ?_) (fun _ => ?_)) | (with_reducible refine q_dPage hG (fun _ _ => ?_) (fun _ => ?_)) | (with_reducible refine q_dHouse hG (fun _ _ => ?_) (fun _ => ?_)) | (with_reducible refine q_dDay hG (fun _ _ => ?_) (fun _ => ?_)) | (with_reducible refine q_dLand hG (fun _ _ => ?_) (fun _ => ?_)) | (with_reducible refine q_dPerson hG (fun _ => ?_) (fun _ => ?_)) | (with_reducible refine q_mPerson hG (fun _ => ?_) (fun _ => ?_)) | (with_reducible refine q_pageAt hG (by omega) (by omega) ?_) | (with_reducible refine q_houseAt hG (by omega) (by omega) ?_) | (with_reducible refine q_treeOf hG (by omega) (by omega) ?_) | (with_reducible intro hz; exfalso; omega) | (with_reducible intro _) | (with_reducible refine zw_id ?_ ?_) | omega | (simp only [zw]; omega)))
  refine D_differs_f0 hG ?_
  (repeat' (first | (with_reducible exact no (by omega)) | (with_reducible exact rfl) | (with_reducible apply And.intro) | (with_reducible refine ⟨_, rfl, ?_⟩) | (with_reducible refine q_isIn hG (fun _ _ => ?_) (fun _ => ?_)) | (with_reducible refine q_isAddress hG (fun _ _ => ?_) (fun _ => ?_)) | (with_reducible refine q_isMade hG (fun _ _ => ?_) (fun _ => ?_)) | (with_reducible refine q_isPage hG (by assumption) (fun _ _ => ?_) (fun _ => ?_)) | (with_reducible refine q_isHouse hG (by assumption) (fun _ _ => ?_) (fun _ => ?_)) | (with_reducible refine q_dPage hG (fun _ _ => ?_) (fun _ => ?_)) | (with_reducible refine q_dHouse hG (fun _ _ => ?_) (fun _ => ?_)) | (with_reducible refine q_dDay hG (fun _ _ => ?_) (fun _ => ?_)) | (with_reducible refine q_dLand hG (fun _ _ => ?_) (fun _ => ?_)) | (with_reducible refine q_dPerson hG (fun _ => ?_) (fun _ => ?_)) | (with_reducible refine q_mPerson hG (fun _ => ?_) (fun _ => ?_)) | (with_reducible refine q_pageAt hG (by omega) (by omega) ?_) | (with_reducible refine q_houseAt hG (by omega) (by omega) ?_) | (with_reducible refine q_treeOf hG (by omega) (by omega) ?_) | (with_reducible intro hz; exfalso; omega) | (with_reducible intro _) | (with_reducible refine zw_id ?_ ?_) | omega | (simp only [zw]; omega)))
  refine see_P1 hG h (by omega) (by omega) (fun X2 w2 _ od => ⟨rfl, see_P2 hG (zWk_RT w2 h) (by omega) (by omega) (fun X3 w3 f3 od2 => ⟨rfl, far_C hG (zOpd_c od (fun c c0 c1 => f3 c (by omega))) od2 (fun X4 f4 => ⟨_, rfl, ?_⟩)⟩)⟩)
  have w4 : zWk X X4 := zWk_t (zWk_t w2 w3) (fun a ha => f4 a (by omega) (by omega))
  have h4 := zWk_RT w4 h
  have hp4 := q_pages h4
  have e12 : X4 1 12 = X 1 12 := by rw [w4 1 (by omega)]
  refine M_differs_f0 hG ?_
  (repeat' (first | (exact ⟨rfl, h, zKp_r X⟩) | (with_reducible exact rfl) | (with_reducible apply And.intro) | (with_reducible refine ⟨_, rfl, ?_⟩) | (with_reducible refine q_isIn hG (fun _ _ => ?_) (fun _ => ?_)) | (with_reducible refine q_isAddress hG (fun _ _ => ?_) (fun _ => ?_)) | (with_reducible refine q_isMade hG (fun _ _ => ?_) (fun _ => ?_)) | (with_reducible refine q_isPage hG (by assumption) (fun _ _ => ?_) (fun _ => ?_)) | (with_reducible refine q_isHouse hG (by assumption) (fun _ _ => ?_) (fun _ => ?_)) | (with_reducible refine q_dPage hG (fun _ _ => ?_) (fun _ => ?_)) | (with_reducible refine q_dHouse hG (fun _ _ => ?_) (fun _ => ?_)) | (with_reducible refine q_dDay hG (fun _ _ => ?_) (fun _ => ?_)) | (with_reducible refine q_dLand hG (fun _ _ => ?_) (fun _ => ?_)) | (with_reducible refine q_dPerson hG (fun _ => ?_) (fun _ => ?_)) | (with_reducible refine q_mPerson hG (fun _ => ?_) (fun _ => ?_)) | (with_reducible refine q_pageAt hG (by omega) (by omega) ?_) | (with_reducible refine q_houseAt hG (by omega) (by omega) ?_) | (with_reducible refine q_treeOf hG (by omega) (by omega) ?_) | (with_reducible intro hz; exfalso; omega) | (with_reducible intro _) | (with_reducible refine zw_id ?_ ?_) | omega | (simp only [zw]; omega)))
  refine farOf_M hG h4 (txt_page h4 (by omega) (by omega)) (txt_page h4 (by omega) (by omega)) (by omega) (by omega) (fun Y2 w5 => ⟨_, rfl, ?_, zWk_RT (zWk_t w4 w5) h, zWk_Kp (zWk_t w4 w5)⟩)
  rw [show (1 : Int) + (54 + 5 * a) = 55 + 5 * a by omega]
  show [zI (zd (zSee X4 a b c) (zSee X4 a d e) : Nat)] = _
  rw [zSee_w w4 (by omega) (by omega), zSee_w w4 (by omega) (by omega), zSee_w w2 (by omega) (by omega)]
/-! houses -/
theorem txt_house {X : zX} (h : zRT X 1 0) {p k : Int} (p0 : 0 ≤ p) (p1 : p < 5) (k0 : 0 ≤ k) (k1 : k < 2) : zTxt X (25 + 6 * p + 2 * k) (1884 + 160 * p + 72 * k) (X (25 + 6 * p + 2 * k) 1).toNat := by
  have hk := (zHo_pg (zHo_at p0 p1).2 k0 k1).2
  rw [show 23 + 6 * p + 2 + 2 * k = 25 + 6 * p + 2 * k by omega] at hk
  have ck : k = 0 ∨ k = 1 := by omega
  rcases ck with rfl | rfl
  · have c := zR_hcnt0 h p p0 p1
    rw [show (0 : Int) + 1884 + 160 * p = 1884 + 160 * p + 72 * 0 by omega, show (1 : Int) + 24 + 6 * p = 25 + 6 * p + 2 * 0 by omega] at c
    refine ⟨hk, by omega, by omega, by omega, by omega, by omega, fun k hk => ?_, fun i j ij jc lt => ?_⟩
    · have z := zR_hrow0 h p k p0 p1 (by omega) (by omega) (by rw [show (1 : Int) + 24 + 6 * p = 25 + 6 * p + 2 * 0 by omega]; omega)
      rw [show (1 : Int) + 25 + 6 * p = 1 + (25 + 6 * p + 2 * 0) by omega, show (0 : Int) + 1885 + 160 * p + 5 * (k : Int) = 1884 + 160 * p + 72 * 0 + 1 + 5 * k + 0 by omega, show (0 : Int) + 1886 + 160 * p + 5 * (k : Int) = 1884 + 160 * p + 72 * 0 + 1 + 5 * k + 1 by omega, show (0 : Int) + 1887 + 160 * p + 5 * (k : Int) = 1884 + 160 * p + 72 * 0 + 1 + 5 * k + 2 by omega, show (0 : Int) + 1888 + 160 * p + 5 * (k : Int) = 1884 + 160 * p + 72 * 0 + 1 + 5 * k + 3 by omega, show (0 : Int) + 1889 + 160 * p + 5 * (k : Int) = 1884 + 160 * p + 72 * 0 + 1 + 5 * k + 4 by omega] at z
      exact z
    · have z := zR_hpre0 h p i j p0 p1 (by omega) (by omega) (by rw [show (1 : Int) + 24 + 6 * p = 25 + 6 * p + 2 * 0 by omega]; omega)
      rw [show (1 : Int) + 25 + 6 * p = 1 + (25 + 6 * p + 2 * 0) by omega] at z
      exact z lt
  · have c := zR_hcnt1 h p p0 p1
    rw [show (0 : Int) + 1956 + 160 * p = 1884 + 160 * p + 72 * 1 by omega, show (1 : Int) + 26 + 6 * p = 25 + 6 * p + 2 * 1 by omega] at c
    refine ⟨hk, by omega, by omega, by omega, by omega, by omega, fun k hk => ?_, fun i j ij jc lt => ?_⟩
    · have z := zR_hrow1 h p k p0 p1 (by omega) (by omega) (by rw [show (1 : Int) + 26 + 6 * p = 25 + 6 * p + 2 * 1 by omega]; omega)
      rw [show (1 : Int) + 27 + 6 * p = 1 + (25 + 6 * p + 2 * 1) by omega, show (0 : Int) + 1957 + 160 * p + 5 * (k : Int) = 1884 + 160 * p + 72 * 1 + 1 + 5 * k + 0 by omega, show (0 : Int) + 1958 + 160 * p + 5 * (k : Int) = 1884 + 160 * p + 72 * 1 + 1 + 5 * k + 1 by omega, show (0 : Int) + 1959 + 160 * p + 5 * (k : Int) = 1884 + 160 * p + 72 * 1 + 1 + 5 * k + 2 by omega, show (0 : Int) + 1960 + 160 * p + 5 * (k : Int) = 1884 + 160 * p + 72 * 1 + 1 + 5 * k + 3 by omega, show (0 : Int) + 1961 + 160 * p + 5 * (k : Int) = 1884 + 160 * p + 72 * 1 + 1 + 5 * k + 4 by omega] at z
      exact z
    · have z := zR_hpre1 h p i j p0 p1 (by omega) (by omega) (by rw [show (1 : Int) + 26 + 6 * p = 25 + 6 * p + 2 * 1 by omega]; omega)
      rw [show (1 : Int) + 27 + 6 * p = 1 + (25 + 6 * p + 2 * 1) by omega] at z
      exact z lt
noncomputable def zSeH (X : zX) (p k land day : Int) : zFo := zFot (X (26 + 6 * p + 2 * k)) (X (25 + 6 * p + 2 * k) 1).toNat land day
theorem zSeH_w {X X2 : zX} {p k land day : Int} (w : zWk X X2) (p0 : 0 ≤ p) (p1 : p < 5) (k0 : 0 ≤ k) (k1 : k < 2) : zSeH X2 p k land day = zSeH X p k land day := by
  unfold zSeH
  rw [w (26 + 6 * p + 2 * k) (by omega), w (25 + 6 * p + 2 * k) (by omega)]
theorem seH_k {X : zX} {p k land day : Int} (h : zRT X 1 0) (p0 : 0 ≤ p) (p1 : p < 5) (k0 : 0 ≤ k) (k1 : k < 2) : (zSeH X p k land day).length ≤ 14 := by
  have t := txt_pre (txt_house h p0 p1 k0 k1)
  rw [show (1 : Int) + (25 + 6 * p + 2 * k) = 26 + 6 * p + 2 * k by omega] at t
  exact (zFot_k t.1 t.2.1 t.2.2.1 t.2.2.2.2).2
theorem zd_ge : ∀ (n : Nat) (F G : zFo), F.length + G.length ≤ n → 2 * F.length ≤ zd F G + 2 * G.length ∧ 2 * G.length ≤ zd F G + 2 * F.length := by
  intro n
  induction n with
  | zero =>
    intro F G h
    omega
  | succ n ih =>
    intro F G h
    cases F with
    | nil =>
      cases G with
      | nil => exact ⟨Nat.zero_le _, Nat.zero_le _⟩
      | cons b G =>
        have z := ih [] G (by simp only [List.length_cons, List.length_nil] at h ⊢; omega)
        rw [zd_0c]
        simp only [List.length_cons, List.length_nil] at z ⊢
        omega
    | cons a F =>
      cases G with
      | nil =>
        have z := ih F [] (by simp only [List.length_cons, List.length_nil] at h ⊢; omega)
        rw [zd_c0]
        simp only [List.length_cons, List.length_nil] at z ⊢
        omega
      | cons b G =>
        simp only [List.length_cons] at h
        rcases zd_or a b F G with e | e | e
        · have z := ih F (b :: G) (by simp only [List.length_cons]; omega)
          rw [e]
          simp only [List.length_cons] at z ⊢
          omega
        · have z := ih (a :: F) G (by simp only [List.length_cons]; omega)
          rw [e]
          simp only [List.length_cons] at z ⊢
          omega
        · have z1 := ih (F.take (a.1 - 1)) (G.take (b.1 - 1)) (by simp only [List.length_take]; omega)
          have z2 := ih (F.drop (a.1 - 1)) (G.drop (b.1 - 1)) (by simp only [List.length_drop]; omega)
          rw [e]
          simp only [List.length_take, List.length_drop, List.length_cons] at z1 z2 ⊢
          omega
noncomputable def zLk (X : zX) (F : zFo) (p land day than : Int) : Nat → Int
  | 0 => than
  | k + 1 => min (zLk X F p land day than k) (zd F (zSeH X p k land day) : Nat)
theorem zLk_in {X : zX} {F : zFo} {p land day than : Int} (t0 : 0 ≤ than) : ∀ k, 0 ≤ zLk X F p land day than k ∧ zLk X F p land day than k ≤ than
  | 0 => ⟨t0, Int.le_refl _⟩
  | k + 1 => by
    have z := zLk_in (X := X) (F := F) (p := p) (land := land) (day := day) t0 k
    unfold zLk
    omega
theorem q_own {X : zX} (h : zRT X 1 0) {p : Int} (p0 : 0 ≤ p) (p1 : p < 5) : X 140 (1870 + 160 * p + 13) = X (23 + 6 * p) 2 ∧ 0 ≤ X (23 + 6 * p) 2 ∧ X (23 + 6 * p) 2 ≤ 2 := by
  have z := zR_hown h p p0 p1
  rw [show (0 : Int) + 1883 + 160 * p = 1870 + 160 * p + 13 by omega, show (1 : Int) + 22 + 6 * p = 23 + 6 * p by omega] at z
  exact z
theorem closer_C {Q : List zV → zX → Prop} {G : zG} {X : zX} {F : zFo} {p land day than : Int} (hG : SH G) (h : zRT X 1 0) (p0 : 0 ≤ p) (p1 : p < 5) (t0 : 0 ≤ than) (t1 : than ≤ 999) (od : zOpd X 105 F) (lf : F.length ≤ 14)
    (q : ∀ X2 : zX, zWk X X2 → zOpd X2 105 F → X2 104 = X 104 → Q [zI (zLk X F p land day than (X (23 + 6 * p) 2).toNat)] X2) : Rm_closer [zR 104, zR (23 + 6 * p), zI land, zI day, zI than] G X Q := by
  have hk := (zHo_at p0 p1).2
  have ow := q_own h p0 p1
  have lp : ∀ (d k : Nat) (Y : zX), (k : Int) + d = X (23 + 6 * p) 2 → zWk X Y → zOpd Y 105 F → Y 104 = X 104 → Rm_closer_W Q 7 [zR 104, zR (23 + 6 * p), zI land, zI day, zT, zI (zLk X F p land day than k), zI (k : Int)] [] G Y := by
    intro d
    induction d with
    | zero =>
      intro k Y e w oy y4
      refine Rm_closer_f7 hG hk ?_
      rw [w (23 + 6 * p) (by omega)]
      have q2 := q Y w oy y4
      rw [show (X (23 + 6 * p) 2).toNat = k by omega] at q2
      exact ⟨fun z => absurd z (by omega), fun _ => q2⟩
    | succ d ih =>
      intro k Y e w oy y4
      have li := zLk_in (X := X) (F := F) (p := p) (land := land) (day := day) t0 k
      refine Rm_closer_f7 hG hk ?_
      rw [w (23 + 6 * p) (by omega), show 2 + (23 + 6 * p) + 2 * (k : Int) = 25 + 6 * p + 2 * k by omega]
      refine ⟨fun _ => ⟨by omega, by omega, see_C2 hG (txt_house (zWk_RT w h) p0 p1 (by omega) (by omega)) (fun X2 f2 od2 => ⟨rfl, ?_⟩)⟩, fun z => absurd z (by omega)⟩
      rw [show (1 : Int) + (25 + 6 * p + 2 * (k : Int)) = 26 + 6 * p + 2 * k by omega] at od2
      have es : zFot (Y (26 + 6 * p + 2 * (k : Int))) (Y (25 + 6 * p + 2 * (k : Int)) 1).toNat land day = zSeH X p k land day := zSeH_w w p0 p1 (by omega) (by omega)
      rw [es] at od2
      have oy2 : zOpd X2 105 F := zOpd_c oy (fun c c0 c1 => f2 c (by omega))
      have w2 : zWk X X2 := zWk_t w (fun a ha => f2 a (by omega))
      have y42 : X2 104 = X 104 := (f2 104 (by omega)).trans y4
      have ls := seH_k (p := p) (k := (k : Int)) (land := land) (day := day) h p0 p1 (by omega) (by omega)
      have c1 : X2 105 5 = (F.length : Int) + 1 := by
        obtain ⟨m, b, a, op, _, _, _, ln⟩ := oy2
        have := op.1
        have := op.2.1
        omega
      have c2 : X2 111 5 = ((zSeH X p k land day).length : Int) + 1 := by
        obtain ⟨m, b, a, op, _, _, _, ln⟩ := od2
        have := op.1
        have := op.2.1
        omega
      have ge := zd_ge _ F (zSeH X p k land day) (Nat.le_refl _)
      have le2 := zd_le _ F (zSeH X p k land day) (Nat.le_refl _)
      rw [c1, c2]
      refine ⟨zw_id (by omega) (by omega), fun r5 e5 => ?_⟩
      have r5b : r5 = (F.length : Int) - ((zSeH X p k land day).length : Int) ∨ r5 = ((zSeH X p k land day).length : Int) - (F.length : Int) := by
        by_cases c : 0 ≤ (F.length : Int) + 1 - (((zSeH X p k land day).length : Int) + 1)
        · rw [if_pos c] at e5
          omega
        · rw [if_neg c, zw_id (by omega) (by omega)] at e5
          omega
      refine ⟨zw_id (by omega) (by omega), fun lt => far_C hG oy2 od2 (fun X3 f3 => ⟨_, rfl, zw_id (by omega) (by omega), ?_⟩), fun pr => ⟨zw_id (by omega) (by omega), ?_⟩⟩
      · exact ih (k + 1) X3 (by omega) (zWk_t w2 (fun a ha => f3 a (by omega) (by omega))) (zOpd_c oy2 (fun c c0 c1 => f3 c (by omega) (by omega))) ((f3 104 (by omega) (by omega)).trans y42)
      · have r := ih (k + 1) X2 (by omega) w2 oy2 y42
        rw [show zLk X F p land day than (k + 1) = zLk X F p land day than k from by
          show min (zLk X F p land day than k) ((zd F (zSeH X p k land day) : Nat) : Int) = _
          omega] at r
        exact r
  exact Rm_closer_f0 hG hk (lp (X (23 + 6 * p) 2).toNat 0 X (by omega) (zWk_r X) od rfl)
theorem lookAt_R {Q : List zV → zX → Prop} {G : zG} {Y : zX} {F : zFo} {p land day : Int} {m : Nat} (hG : SH G) (h : zRT Y 1 0) (p0 : 0 ≤ p) (p1 : p < 5) (rf : zRf Y 0 m F)
    (q : ∀ Y2 : zX, zWk Y Y2 → zRf Y2 0 m F → (∀ c : Int, c ≠ 15 → c ≠ 26 → c ≠ 27 → Y2 139 c = Y 139 c) → Q [zI (zLk Y F p land day 999 (Y (23 + 6 * p) 2).toNat)] Y2) : M_lookAt [zR 139, zI p, zI land, zI day] G Y Q := by
  have lp : ∀ (d k : Nat) (Z : zX), (k : Int) + d = Y (23 + 6 * p) 2 → zWk Y Z → zRf Z 0 m F → (∀ c : Int, c ≠ 15 → c ≠ 26 → c ≠ 27 → Z 139 c = Y 139 c) → M_lookAt_W Q 8 [zR 139, zI p, zI land, zI day, zI (zLk Y F p land day 999 k), zI (k : Int)] [] G Z := by
    intro d
    induction d with
    | zero =>
      intro k Z e w r z9
      have ow := q_own (zWk_RT w h) p0 p1
      have e23 : Z (23 + 6 * p) = Y (23 + 6 * p) := w _ (by omega)
      refine M_lookAt_f8 hG (q_houseAt hG p0 p1 ⟨_, rfl, zw_id (by omega) (by omega), by omega, by omega, ?_⟩)
      rw [ow.1, e23]
      have q2 := q Z w r z9
      rw [show (Y (23 + 6 * p) 2).toNat = k by omega] at q2
      exact ⟨fun z => absurd z (by omega), fun _ => q2⟩
    | succ d ih =>
      intro k Z e w r z9
      have hZ := zWk_RT w h
      have ow := q_own hZ p0 p1
      have e23 : Z (23 + 6 * p) = Y (23 + 6 * p) := w _ (by omega)
      rw [e23] at ow
      refine M_lookAt_f8 hG (q_houseAt hG p0 p1 ⟨_, rfl, zw_id (by omega) (by omega), by omega, by omega, ?_⟩)
      rw [ow.1]
      refine ⟨fun _ => M_ownTree_f0 hG (q_houseAt hG p0 p1 ⟨_, rfl, zw_id (by omega) (by omega), by rw [zw_id (x := 72 * (k : Int)) (by omega) (by omega)]; exact zw_id (by omega) (by omega), _, rfl, ?_⟩), fun z => absurd z (by omega)⟩
      rw [show 1870 + 160 * p + 14 + 72 * (k : Int) = 1884 + 160 * p + 72 * k by omega]
      refine other_R hG hZ (txt_house hZ p0 p1 (by omega) (by omega)) r (fun Z2 w2 r2 z2 => ⟨_, rfl, ?_⟩)
      rw [show (1 : Int) + (25 + 6 * p + 2 * (k : Int)) = 26 + 6 * p + 2 * k by omega]
      have es : zFot (Z (26 + 6 * p + 2 * (k : Int))) (Z (25 + 6 * p + 2 * (k : Int)) 1).toNat land day = zSeH Y p k land day := zSeH_w w p0 p1 (by omega) (by omega)
      rw [es]
      have nx := ih (k + 1) Z2 (by omega) (zWk_t w w2) r2 (fun c c0 c1 c2 => (z2 c c0 c1 c2).trans (z9 c c0 c1 c2))
      have un : zLk Y F p land day 999 (k + 1) = min (zLk Y F p land day 999 k) ((zd F (zSeH Y p k land day) : Nat) : Int) := rfl
      have go : ∀ v : Int, v = zLk Y F p land day 999 (k + 1) → ∃ r24, [zI v] = [zI r24] ∧ zw ((k : Int) + 1) = (k : Int) + 1 ∧ M_lookAt_W Q 8 [zR 139, zI p, zI land, zI day, zI r24, zI ((k : Int) + 1)] [] G Z2 := fun v ev => ⟨v, rfl, zw_id (by omega) (by omega), by rw [ev]; exact nx⟩
      exact M_lesser_f0 hG ⟨fun lt => go _ (by omega), fun ge => go _ (by omega)⟩
  have ow := q_own h p0 p1
  exact M_lookAt_f0 hG (lp (Y (23 + 6 * p) 2).toNat 0 Y (by omega) (zWk_r Y) rf (fun _ _ _ _ => rfl))
theorem zLk_w {X X2 : zX} {F : zFo} {p land day than : Int} (w : zWk X X2) (p0 : 0 ≤ p) (p1 : p < 5) : ∀ k : Nat, k ≤ 2 → zLk X2 F p land day than k = zLk X F p land day than k
  | 0, _ => rfl
  | k + 1, hk => by
    show min (zLk X2 F p land day than k) ((zd F (zSeH X2 p k land day) : Nat) : Int) = min (zLk X F p land day than k) ((zd F (zSeH X p k land day) : Nat) : Int)
    rw [zLk_w w p0 p1 k (by omega), zSeH_w w p0 p1 (by omega) (by omega)]
theorem op_look {G : zG} {X : zX} {a b c d : Int} (hG : SH G) (h : zRT X 1 0) : zOp D_look M_look [zI a, zI b, zI c, zI d] [zI a, zI b, zI c, zI d] G X := by
  have hp := q_pages h
  have hh := q_houses h
  have no : ¬(0 ≤ a ∧ a < X 1 12 ∧ 0 ≤ b ∧ b < X 1 11 ∧ 0 ≤ c ∧ c ≤ 3 ∧ 0 ≤ d ∧ d ≤ 99) → M_look [zR 139, zI a, zI b, zI c, zI d] G X (fun w X2 => w = [zI (-1)] ∧ zRT X2 1 0 ∧ zKp X X2) := fun n => by
    refine M_look_f0 hG ?_
    (repeat' (first | (exact ⟨rfl, h, zKp_r X⟩) | (with_reducible exact rfl) | (with_reducible apply And.intro) | (with_reducible refine ⟨_, rfl, ?_⟩) | (with_reducible refine q_isIn hG (fun _ _ => ?_) (fun _ => ?_)) | (with_reducible refine q_isAddress hG (fun _ _ => ?_) (fun _ => ?_)) | (with_reducible refine q_isMade hG (fun _ _ => ?_) (fun _ => ?_)) | (with_reducible refine q_isPage hG (by assumption) (fun _ _ => ?_) (fun _ => ?_)) | (with_reducible refine q_isHouse hG (by assumption) (fun _ _ => ?_) (fun _ => ?_)) | (with_reducible refine q_dPage hG (fun _ _ => ?_) (fun _ => ?_)) | (with_reducible refine q_dHouse hG (fun _ _ => ?_) (fun _ => ?_)) | (with_reducible refine q_dDay hG (fun _ _ => ?_) (fun _ => ?_)) | (with_reducible refine q_dLand hG (fun _ _ => ?_) (fun _ => ?_)) | (with_reducible refine q_dPerson hG (fun _ => ?_) (fun _ => ?_)) | (with_reducible refine q_mPerson hG (fun _ => ?_) (fun _ => ?_)) | (with_reducible refine q_pageAt hG (by omega) (by omega) ?_) | (with_reducible refine q_houseAt hG (by omega) (by omega) ?_) | (with_reducible refine q_treeOf hG (by omega) (by omega) ?_) | (with_reducible intro hz; exfalso; omega) | (with_reducible intro _) | (with_reducible refine zw_id ?_ ?_) | omega | (simp only [zw]; omega)))
  refine D_look_f0 hG ?_
  (repeat' (first | (with_reducible exact no (by omega)) | (with_reducible exact rfl) | (with_reducible apply And.intro) | (with_reducible refine ⟨_, rfl, ?_⟩) | (with_reducible refine q_isIn hG (fun _ _ => ?_) (fun _ => ?_)) | (with_reducible refine q_isAddress hG (fun _ _ => ?_) (fun _ => ?_)) | (with_reducible refine q_isMade hG (fun _ _ => ?_) (fun _ => ?_)) | (with_reducible refine q_isPage hG (by assumption) (fun _ _ => ?_) (fun _ => ?_)) | (with_reducible refine q_isHouse hG (by assumption) (fun _ _ => ?_) (fun _ => ?_)) | (with_reducible refine q_dPage hG (fun _ _ => ?_) (fun _ => ?_)) | (with_reducible refine q_dHouse hG (fun _ _ => ?_) (fun _ => ?_)) | (with_reducible refine q_dDay hG (fun _ _ => ?_) (fun _ => ?_)) | (with_reducible refine q_dLand hG (fun _ _ => ?_) (fun _ => ?_)) | (with_reducible refine q_dPerson hG (fun _ => ?_) (fun _ => ?_)) | (with_reducible refine q_mPerson hG (fun _ => ?_) (fun _ => ?_)) | (with_reducible refine q_pageAt hG (by omega) (by omega) ?_) | (with_reducible refine q_houseAt hG (by omega) (by omega) ?_) | (with_reducible refine q_treeOf hG (by omega) (by omega) ?_) | (with_reducible intro hz; exfalso; omega) | (with_reducible intro _) | (with_reducible refine zw_id ?_ ?_) | omega | (simp only [zw]; omega)))
  refine see_P1 hG h (by omega) (by omega) (fun X2 w2 _ od => ⟨rfl, by omega, by omega, Rm_lookAt_f0 hG (zHo_at (by omega) (by omega)).2 (closer_C hG (zWk_RT w2 h) (by omega) (by omega) (by omega) (by omega) od (see_k h (by omega) (by omega)).2 (fun X3 w3 _ _ => ⟨_, rfl, _, rfl, ?_⟩))⟩)
  have w4 := zWk_t w2 w3
  have h4 := zWk_RT w4 h
  have hp4 := q_pages h4
  have hh4 := q_houses h4
  have e12 : X3 1 12 = X 1 12 := by rw [w4 1 (by omega)]
  have e11 : X3 1 11 = X 1 11 := by rw [w4 1 (by omega)]
  have ow := q_own h (p := b) (by omega) (by omega)
  refine M_look_f0 hG ?_
  (repeat' (first | (exact ⟨rfl, h, zKp_r X⟩) | (with_reducible exact rfl) | (with_reducible apply And.intro) | (with_reducible refine ⟨_, rfl, ?_⟩) | (with_reducible refine q_isIn hG (fun _ _ => ?_) (fun _ => ?_)) | (with_reducible refine q_isAddress hG (fun _ _ => ?_) (fun _ => ?_)) | (with_reducible refine q_isMade hG (fun _ _ => ?_) (fun _ => ?_)) | (with_reducible refine q_isPage hG (by assumption) (fun _ _ => ?_) (fun _ => ?_)) | (with_reducible refine q_isHouse hG (by assumption) (fun _ _ => ?_) (fun _ => ?_)) | (with_reducible refine q_dPage hG (fun _ _ => ?_) (fun _ => ?_)) | (with_reducible refine q_dHouse hG (fun _ _ => ?_) (fun _ => ?_)) | (with_reducible refine q_dDay hG (fun _ _ => ?_) (fun _ => ?_)) | (with_reducible refine q_dLand hG (fun _ _ => ?_) (fun _ => ?_)) | (with_reducible refine q_dPerson hG (fun _ => ?_) (fun _ => ?_)) | (with_reducible refine q_mPerson hG (fun _ => ?_) (fun _ => ?_)) | (with_reducible refine q_pageAt hG (by omega) (by omega) ?_) | (with_reducible refine q_houseAt hG (by omega) (by omega) ?_) | (with_reducible refine q_treeOf hG (by omega) (by omega) ?_) | (with_reducible intro hz; exfalso; omega) | (with_reducible intro _) | (with_reducible refine zw_id ?_ ?_) | omega | (simp only [zw]; omega)))
  refine shows_R hG h4 (by omega) (by omega) (fun Y2 m w5 rf _ _ => ⟨rfl, lookAt_R hG (zWk_RT w5 h4) (by omega) (by omega) rf (fun Y3 w6 _ _ => ⟨_, rfl, ?_, zWk_RT (zWk_t (zWk_t w4 w5) w6) h, zWk_Kp (zWk_t (zWk_t w4 w5) w6)⟩)⟩)
  have w7 := zWk_t w4 w5
  have e23 : Y2 (23 + 6 * b) = X (23 + 6 * b) := w7 _ (by omega)
  have e232 : X2 (23 + 6 * b) = X (23 + 6 * b) := w2 _ (by omega)
  have es : zFot (X3 (55 + 5 * a)) (X3 (54 + 5 * a) 1).toNat c d = zSee X a c d := zSee_w w4 (by omega) (by omega)
  rw [e23, es, e232, zLk_w w7 (by omega) (by omega) _ (by omega), zLk_w w2 (by omega) (by omega) _ (by omega)]
