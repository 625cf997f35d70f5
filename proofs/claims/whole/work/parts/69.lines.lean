/-! ===== LINES read by the reference ===== -/
theorem zLbh_d {L : Int → Int} {n w most : Int} {s : zPst} (h : zqf s = 1) : zqf (zLbh L n w most s).2 = 1 ∧ zqq (zLbh L n w most s).2 = zqq s := by
  have z := zXp_d (L := L) (n := n) (w := w) h
  have y := zRdn_d (L := L) (n := n) (most := most) z.1
  exact ⟨y.1, y.2.trans z.2⟩
theorem isWord_Mw {Q : List zV → zX → Prop} {G : zG} {Z : zX} {L : Int → Int} {n w v : Int} {s : zPst} (hG : SH G) (h : zMa L n Z s) (ok : zOk n s) (v0 : 256 ≤ v) (wo : ∀ t : Int, zWo (t - 256) = w ↔ t = v) (q1 : zqf s ≠ 1 → zMs L n Z s → zEar s → zqt s = v → Q [zI 1] Z) (q0 : (zqf s ≠ 1 → zqt s ≠ v) → Q [zI 0] Z) : M_isWord [zR 139, zI w] G Z Q := by
  rcases h with ⟨f1, h, er⟩ | ⟨f1, h⟩
  · have tk := h.2.2.1
    have tok := ok.2.2.2.2.2.1
    refine M_isWord_f0 hG ⟨fun _ => ⟨fun t5 => ?_, fun t5 => q0 (fun _ t => t5 (tk.2.2.2.2 (by omega)).1)⟩, fun z => absurd h.2.2.2.2.2.1 z⟩
    have t : 256 ≤ zqt s := by
      unfold zTok at tok
      rcases tok with t | t | t | t | t | t | t | t
      · have := tk.1 t; omega
      · have := (tk.2.1 t).1; omega
      · have := tk.2.2.1 t; omega
      · have := (tk.2.2.2.1 (Or.inl t)).1; omega
      · have := (tk.2.2.2.1 (Or.inr (Or.inl t))).1; omega
      · have := (tk.2.2.2.1 (Or.inr (Or.inr (Or.inl t)))).1; omega
      · have := (tk.2.2.2.1 (Or.inr (Or.inr (Or.inr t)))).1; omega
      · exact t.1
    rw [(tk.2.2.2.2 t).2]
    exact ⟨fun e => q1 f1 h er ((wo _).1 e), fun e => q0 (fun _ z => e ((wo _).2 z))⟩
  · exact M_isWord_f0 hG ⟨fun z => absurd z h.1, fun _ => q0 (fun z => absurd f1 z)⟩
theorem zMd_q {Z : zX} {s u : zPst} (h : zMd Z s) (e : zqq u = zqq s) : zMd Z u := ⟨h.1, h.2.1, h.2.2.trans e.symm⟩
theorem must_M {Q : List zV → zX → Prop} {G : zG} {Z : zX} {L : Int → Int} {n w v : Int} {s : zPst} (hG : SH G) (h : zMa L n Z s) (ok : zOk n s) (v0 : 256 ≤ v) (wo : ∀ t : Int, zWo (t - 256) = w ↔ t = v) (q : ∀ Y : zX, zTf Z Y → zMa L n Y (zXp L n v s) → Q [] Y) : M_must [zR 139, zI w] G Z Q := by
  refine M_must_f0 hG (isWord_Mw hG h ok v0 wo (fun f1 ms er t => ⟨1, rfl, fun z => absurd z (by omega), fun _ => adv_M hG ms (by have := ok.1; have := ok.2.1; omega) ok.2.2.1 (fun Y f r => ⟨rfl, q Y f ?_⟩)⟩) (fun nt => ⟨0, rfl, fun _ => ?_, fun z => absurd rfl z⟩))
  · have e : zXp L n v s = zNx L n s := if_pos t
    rw [e]
    exact Or.inl ⟨f1, r, zEar_n ok (by omega) (fun g => Int.le_of_lt (er g))⟩
  · rcases h with ⟨f1, ms, er⟩ | ⟨f1, md⟩
    · have e : zXp L n v s = zSu s := if_neg (nt f1)
      rw [e] at q
      exact ends_M hG ms f1 (fun Y f md => ⟨rfl, q Y f (Or.inr ⟨zSu_f, md⟩)⟩)
    · have e := zXp_d (L := L) (n := n) (w := v) f1
      exact ends_Md hG md ⟨rfl, q Z (zTf_r Z) (Or.inr ⟨e.1, zMd_q md e.2⟩)⟩
theorem sign_M {K : zX → Prop} {G : zG} {Z : zX} {L : Int → Int} {n w : Int} {s : zPst} (hG : SH G) (h : zMa L n Z s) (ok : zOk n s) (hw : w = 40 ∨ w = 41 ∨ w = 59 ∨ w = 60) (q : ∀ Y : zX, zTf Z Y → zMa L n Y (zXp L n w s) → K Y) : M_isSign [zR 139, zI w] G Z (fun v1 X2 => ∃ r4, v1 = [zI r4] ∧ ((r4 = 0 → M_ends [zR 139] G X2 (fun v5 X6 => v5 = [] ∧ K X6)) ∧ (r4 ≠ 0 → M_advance [zR 139] G X2 (fun v9 X10 => v9 = [] ∧ K X10)))) := by
  refine isSign_Ma hG h ok hw (fun f1 ms er t => ⟨1, rfl, fun z => absurd z (by omega), fun _ => adv_M hG ms (by have := ok.1; have := ok.2.1; omega) ok.2.2.1 (fun Y f r => ⟨rfl, q Y f ?_⟩)⟩) (fun nt => ⟨0, rfl, fun _ => ?_, fun z => absurd rfl z⟩)
  · have e : zXp L n w s = zNx L n s := if_pos t
    rw [e]
    exact Or.inl ⟨f1, r, zEar_n ok (by omega) (fun g => Int.le_of_lt (er g))⟩
  · rcases h with ⟨f1, ms, er⟩ | ⟨f1, md⟩
    · have e : zXp L n w s = zSu s := if_neg (nt f1)
      rw [e] at q
      exact ends_M hG ms f1 (fun Y f md => ⟨rfl, q Y f (Or.inr ⟨zSu_f, md⟩)⟩)
    · have e := zXp_d (L := L) (n := n) (w := w) f1
      exact ends_Md hG md ⟨rfl, q Z (zTf_r Z) (Or.inr ⟨e.1, zMd_q md e.2⟩)⟩
theorem numbered_Ma {Q : List zV → zX → Prop} {G : zG} {Z : zX} {L : Int → Int} {n most : Int} {s : zPst} (hG : SH G) (h : zMa L n Z s) (ok : zOk n s) (q : ∀ (Y : zX) (r : Int), zTf Z Y → zMa L n Y (zRdn L n most s).2 → (zqf s ≠ 1 → r = (zRdn L n most s).1) → Q [zI r] Y) : M_numbered [zR 139, zI most] G Z Q := by
  rcases h with ⟨f1, ms, er⟩ | ⟨f1, md⟩
  · exact numbered_M hG ms ok f1 er (fun Y f ma => q Y _ f ma (fun _ => rfl))
  · have e := zRdn_d (L := L) (n := n) (most := most) f1
    exact M_numbered_f0 hG ⟨fun z => absurd z md.1, fun _ => M_numbered_f15 hG (ends_Md hG md ⟨rfl, q Z 0 (zTf_r Z) (Or.inr ⟨e.1, zMd_q md e.2⟩) (fun z => absurd f1 z)⟩)⟩
/-- the reference in a line: the tape, the line's number, what stays -/
def zLq (L : Int → Int) (n : Int) (X Y : zX) (c : Int) (s : zPst) : Prop := zMa L n Y s ∧ Y 139 42 = c ∧ (∀ b : Int, b ≠ 139 → b ≠ 140 → b ≠ 162 → Y b = X b) ∧ (∀ k : Int, k ≠ 7 → k ≠ 8 → Y 140 k = X 140 k) ∧ (∀ k : Int, k < 3 → Y 139 k = X 139 k) ∧ (∀ j : Int, j < 4 * c → Y 162 j = X 162 j)
theorem zLq_f {L : Int → Int} {n : Int} {X Y Z : zX} {c : Int} {s u : zPst} (h : zLq L n X Y c s) (f : zTf Y Z) (m : zMa L n Z u) : zLq L n X Z c u := by
  obtain ⟨h1, h2, h3, h4, h5, h6⟩ := h
  refine ⟨m, (f.2.2 42 (by omega)).trans h2, fun b b1 b2 b3 => (f.1 b b1 b2).trans (h3 b b1 b2 b3), fun k k1 k2 => (f.2.1 k k1 k2).trans (h4 k k1 k2), fun k k1 => (f.2.2 k (by omega)).trans (h5 k k1), fun j j1 => ?_⟩
  rw [f.1 162 (by omega) (by omega)]
  exact h6 j j1
theorem zLq_p {L : Int → Int} {n : Int} {X Y : zX} {c i v : Int} {s : zPst} (h : zLq L n X Y c s) (i0 : 0 ≤ i) : zLq L n X (zst Y 162 (4 * c + i) v) c s := by
  obtain ⟨h1, h2, h3, h4, h5, h6⟩ := h
  refine ⟨zMa_c h1 (fun k _ _ => by rw [zrd_r (by omega)]) (zrd_r (by omega)), by rw [zrd_r (by omega)]; exact h2, fun b b1 b2 b3 => by rw [zrd_r b3]; exact h3 b b1 b2 b3, fun k k1 k2 => by rw [zrd_r (by omega)]; exact h4 k k1 k2, fun k k1 => by rw [zrd_r (by omega)]; exact h5 k k1, fun j j1 => ?_⟩
  rw [zrd_n (by omega)]
  exact h6 j j1
theorem puts_M {Q : List zV → zX → Prop} {G : zG} {Y : zX} {c i v : Int} (hG : SH G) (h : Y 139 42 = c) (c0 : 0 ≤ c) (i0 : 0 ≤ i) (i3 : i ≤ 3) (q : ∀ Z : zX, ((c < 20 ∧ Z = zst Y 162 (4 * c + i) v) ∨ (20 ≤ c ∧ Z = Y)) → Q [] Z) : M_puts [zR 139, zI i, zI v] G Y Q := by
  refine M_puts_f0 hG ?_
  rw [h]
  exact ⟨fun lt => ⟨zw_id (by omega) (by omega), zw_id (by omega) (by omega), by omega, by omega, q _ (Or.inl ⟨lt, rfl⟩)⟩, fun ge => q _ (Or.inr ⟨ge, rfl⟩)⟩
theorem put_M {K : zX → Prop} {G : zG} {X Y : zX} {L : Int → Int} {n c i v : Int} {s : zPst} (hG : SH G) (h : zLq L n X Y c s) (c0 : 0 ≤ c) (i0 : 0 ≤ i) (i3 : i ≤ 3) (q : ∀ Z : zX, zLq L n X Z c s → (c < 20 → Z 162 (4 * c + i) = v) → (∀ j : Int, j ≠ 4 * c + i → Z 162 j = Y 162 j) → K Z) : M_puts [zR 139, zI i, zI v] G Y (fun v5 X6 => v5 = [] ∧ K X6) := by
  refine puts_M hG h.2.1 c0 i0 i3 (fun Z hz => ⟨rfl, ?_⟩)
  rcases hz with ⟨lt, e⟩ | ⟨ge, e⟩
  · rw [e]
    exact q _ (zLq_p h i0) (fun _ => zrd_s _ _ _ _) (fun j hj => zrd_n (by omega))
  · rw [e]
    exact q _ h (fun z => absurd z (by omega)) (fun j _ => rfl)
theorem np_M {K : zX → Prop} {G : zG} {X Y : zX} {L : Int → Int} {n c i most : Int} {s : zPst} (hG : SH G) (h : zLq L n X Y c s) (ok : zOk n s) (c0 : 0 ≤ c) (i0 : 0 ≤ i) (i3 : i ≤ 3) (q : ∀ Z : zX, zLq L n X Z c (zRdn L n most s).2 → (c < 20 → zqf s ≠ 1 → Z 162 (4 * c + i) = (zRdn L n most s).1) → (∀ j : Int, j ≠ 4 * c + i → Z 162 j = Y 162 j) → K Z) : M_numbered [zR 139, zI most] G Y (fun v1 X2 => ∃ r4, v1 = [zI r4] ∧ M_puts [zR 139, zI i, zI r4] G X2 (fun v5 X6 => v5 = [] ∧ K X6)) :=
  numbered_Ma hG h.1 ok (fun Z r f ma er => ⟨r, rfl, put_M hG (zLq_f h f ma) c0 i0 i3 (fun V hV vi vj => q V hV (fun lt f1 => (vi lt).trans (er f1)) (fun j hj => (vj j hj).trans (by rw [f.1 162 (by omega) (by omega)])))⟩)
theorem mu_M {K : zX → Prop} {G : zG} {X Y : zX} {L : Int → Int} {n c w v : Int} {s : zPst} (hG : SH G) (h : zLq L n X Y c s) (ok : zOk n s) (v0 : 256 ≤ v) (wo : ∀ t : Int, zWo (t - 256) = w ↔ t = v) (q : ∀ Z : zX, zLq L n X Z c (zXp L n v s) → Z 162 = Y 162 → K Z) : M_must [zR 139, zI w] G Y (fun v5 X6 => v5 = [] ∧ K X6) :=
  must_M hG h.1 ok v0 wo (fun Z f ma => ⟨rfl, q Z (zLq_f h f ma) (f.1 162 (by omega) (by omega))⟩)
theorem zWo_11 (t : Int) : zWo (t - 256) = 11 ↔ t = 266 := by
  unfold zWo
  by_cases c1 : t - 256 = 10
  · rw [if_pos c1]
    omega
  · rw [if_neg c1]
    by_cases c2 : t - 256 = 11
    · rw [if_pos c2]
      omega
    · rw [if_neg c2]
      omega
theorem zWo_16 (t : Int) : zWo (t - 256) = 16 ↔ t = 272 := by
  unfold zWo
  by_cases c1 : t - 256 = 10
  · rw [if_pos c1]
    omega
  · rw [if_neg c1]
    by_cases c2 : t - 256 = 11
    · rw [if_pos c2]
      omega
    · rw [if_neg c2]
      omega
/-- to, and a number -/
theorem to_M {K : zX → Prop} {G : zG} {X Y : zX} {L : Int → Int} {n c m2 : Int} {s : zPst} (hG : SH G) (h : zLq L n X Y c s) (ok : zOk n s) (c0 : 0 ≤ c) (q : ∀ Z : zX, zLq L n X Z c (zLbh L n 266 m2 s).2 → (c < 20 → zqf (zLbh L n 266 m2 s).2 ≠ 1 → Z 162 (4 * c + 2) = (zLbh L n 266 m2 s).1) → (∀ j : Int, j ≠ 4 * c + 2 → Z 162 j = Y 162 j) → K Z) : M_must [zR 139, zI 11] G Y (fun v9 X10 => v9 = [] ∧ M_numbered [zR 139, zI m2] G X10 (fun v13 X14 => ∃ r16, v13 = [zI r16] ∧ M_puts [zR 139, zI 2, zI r16] G X14 (fun v17 X18 => v17 = [] ∧ K X18))) :=
  mu_M hG h ok (v := 266) (by omega) zWo_11 (fun Z hZ ez => np_M hG hZ (zXp_k ok) c0 (by omega) (by omega) (fun V hV vi vj => q V hV (fun lt f1 => vi lt (fun z => f1 (zRdn_d z).1)) (fun j hj => (vj j hj).trans (by rw [ez]))))
theorem oneTo_M {K : zX → Prop} {G : zG} {X Y : zX} {L : Int → Int} {n c m1 m2 : Int} {s : zPst} (hG : SH G) (h : zLq L n X Y c s) (ok : zOk n s) (c0 : 0 ≤ c) (q : ∀ Z : zX, zLq L n X Z c (zLbh L n 266 m2 (zRdn L n m1 s).2).2 → (c < 20 → zqf (zLbh L n 266 m2 (zRdn L n m1 s).2).2 ≠ 1 → Z 162 (4 * c + 1) = (zRdn L n m1 s).1 ∧ Z 162 (4 * c + 2) = (zLbh L n 266 m2 (zRdn L n m1 s).2).1) → Z 162 (4 * c + 0) = Y 162 (4 * c + 0) → K Z) : M_oneTo [zR 139, zI m1, zI m2] G Y (fun v5 X6 => v5 = [] ∧ K X6) :=
  M_oneTo_f0 hG (np_M hG h ok c0 (by omega) (by omega) (fun Z hZ zi zj => to_M hG hZ (zRdn_k ok) c0 (fun V hV vi vj => ⟨rfl, q V hV (fun lt f1 => ⟨(vj _ (by omega)).trans (zi lt (fun z => f1 (zLbh_d (zRdn_d z).1).1)), vi lt f1⟩) ((vj _ (by omega)).trans (zj _ (by omega)))⟩)))
/-- the fields of a line as the reference keeps them -/
def zLfd (Z : zX) (c o : Int) (a b d : Int) : Prop := Z 162 (4 * c + 0) = zWo (o - 256) ∧ (o ≠ 272 → o ≠ 273 → Z 162 (4 * c + 1) = a ∧ Z 162 (4 * c + 2) = b) ∧ (o = 271 ∨ o = 272 → Z 162 (4 * c + 3) = d)
theorem aLine_M {Q : List zV → zX → Prop} {G : zG} {Y : zX} {L P : Int → Int} {n c : Int} {s : zPst} (hG : SH G) (f1 : zqf s ≠ 1) (ms : zMs L n Y s) (er : zEar s) (ok : zOk n s) (hc : Y 139 42 = c) (c0 : 0 ≤ c) (c5 : c ≤ 500) (c20 : 20 < c → zqf s ≠ 0)
    (q : ∀ Z : zX, zMa L n Z (zLn L n (s, c, P)).1 → (zqf (zLn L n (s, c, P)).1 ≠ 1 → Z 139 42 = c + 1 ∧ (c < 20 → zLfd Z c (zqt s) (zLf L n (zqt s) (zNx L n (zLw c s))).1 (zLf L n (zqt s) (zNx L n (zLw c s))).2.1 (zLf L n (zqt s) (zNx L n (zLw c s))).2.2.1)) → (∀ b : Int, b ≠ 139 → b ≠ 140 → b ≠ 162 → Z b = Y b) → (∀ k : Int, k ≠ 7 → k ≠ 8 → Z 140 k = Y 140 k) → (∀ k : Int, k < 3 → Z 139 k = Y 139 k) → (∀ j : Int, j < 4 * c → Z 162 j = Y 162 j) → Q [] Z) : M_aLine [zR 139] G Y Q := by
  have h9 : Y 139 9 = 0 := ms.2.2.2.2.2.1
  have tk := ms.2.2.1
  have tok := ok.2.2.2.2.2.1
  have wt := zLw_t (c := c) (s := s)
  have ok1 : zOk n (zLw c s) := zLw_k ok
  by_cases od : 267 ≤ zqt s ∧ zqt s ≤ 273
  · have eL : (zLn L n (s, c, P)).1 = zLe L n c s := by
      have e : zLn L n (s, c, P) = (zLe L n c s, c + 1, if zqf (zLe L n c s) = 0 ∧ c < 20 then zLp L n c P s else P) := if_pos od
      rw [e]
    rw [eL] at q
    have w8 := tk.2.2.2.2 (by omega)
    obtain ⟨o, eo⟩ : ∃ o : Int, zqt s = o := ⟨_, rfl⟩
    rw [eo] at od w8 q
    have ok2 := (zNx_k (L := L) ok1).1
    obtain ⟨u, eu⟩ : ∃ u : zPst, zNx L n (zLw c s) = u := ⟨_, rfl⟩
    rw [eu] at ok2 q
    obtain ⟨x, ex⟩ : ∃ x : Int, zWo (o - 256) = x := ⟨_, rfl⟩
    have hx : (o = 267 → x = 10) ∧ (o ≠ 267 → x = o - 256) := by
      rw [← ex]
      unfold zWo
      by_cases k1 : o - 256 = 10
      · omega
      · rw [if_neg k1]
        by_cases k2 : o - 256 = 11
        · rw [if_pos k2]
          omega
        · rw [if_neg k2]
          omega
    rw [ex] at w8
    -- the end of a line
    have f285 : ∀ (Z : zX) (a b d : Int) (e : zPst), zLf L n o u = (a, b, d, e) → zLq L n Y Z c e → (c < 20 → zqf e ≠ 1 → (o ≠ 272 → o ≠ 273 → Z 162 (4 * c + 1) = a ∧ Z 162 (4 * c + 2) = b) ∧ (o = 271 ∨ o = 272 → Z 162 (4 * c + 3) = d)) → (c < 20 → Z 162 (4 * c + 0) = x) → M_aLine_W Q 285 [zR 139, zT] [] G Z := fun Z a b d e ef hz hf h0 => by
      have oke : zOk n e := by
        have z := zLf_k (L := L) (o := o) ok2
        rw [ef] at z
        exact z
      have ee : zLe L n c s = zXp L n 59 e := by
        unfold zLe
        rw [eo, eu, ef]
      rw [ee, ef] at q
      refine M_aLine_f285 hG (sign_M hG hz.1 oke (by omega) (fun V fv ma => M_aLine_f305 hG ?_))
      have hv := zLq_f hz fv ma
      have v162 : V 162 = Z 162 := fv.1 162 (by omega) (by omega)
      obtain ⟨g1, g2, g3, g4, g5, g6⟩ := hv
      rw [g2]
      refine ⟨zw_id (by omega) (by omega), q _ (zMa_c g1 (fun k k0 k1 => by rw [zrd_n (by omega)]) (zrd_r (by omega))) (fun n1 => ⟨zrd_s _ _ _ _, fun lt => ?_⟩) (fun b b1 b2 b3 => by rw [zrd_r b1]; exact g3 b b1 b2 b3) (fun k k1 k2 => by rw [zrd_r (by omega)]; exact g4 k k1 k2) (fun k k1 => by rw [zrd_n (by omega)]; exact g5 k k1) (fun j j1 => by rw [zrd_r (by omega)]; exact g6 j j1)⟩
      unfold zLfd
      rw [zrd_r (by omega), v162, ex]
      have z := hf lt (fun z => n1 (zXp_d z).1)
      exact ⟨h0 lt, z.1, z.2⟩
    have done : ∀ Z : zX, (∀ b : Int, b ≠ 139 → b ≠ 140 → b ≠ 162 → Z b = Y b) → (∀ k : Int, k ≠ 7 → k ≠ 8 → Z 140 k = Y 140 k) → (∀ k : Int, k < 3 → Z 139 k = Y 139 k) → (∀ j : Int, j < 4 * c → Z 162 j = Y 162 j) → zqf (zLe L n c s) = 1 → zMd Z (zLe L n c s) → Q [] Z := fun Z g3 g4 g5 g6 e1 md => q Z (Or.inr ⟨e1, md⟩) (fun z => absurd e1 z) g3 g4 g5 g6
    -- behind the order
    have f66 : ∀ Z : zX, zTf Y Z → zMs L n Z (zLw c s) → zqf (zLw c s) ≠ 1 → (zqf (zLw c s) ≠ 0 → zqq (zLw c s) ≤ zqp (zLw c s)) → M_aLine_W Q 66 [zR 139, zI x] [] G Z := fun Z f mz w1 wq => by
      refine M_aLine_f66 hG (adv_M hG mz (by have := ok1.1; have := ok1.2.1; omega) ok1.2.2.1 (fun V fv mv => ⟨rfl, ?_⟩))
      have ev : zEar (zNx L n (zLw c s)) := zEar_n ok1 (by rw [wt.1, eo]; omega) wq
      have hv0 : zLq L n Y V c (zNx L n (zLw c s)) := by
        have fYV := zTf_t f fv
        exact ⟨Or.inl ⟨w1, mv, ev⟩, (fYV.2.2 42 (by omega)).trans hc, fun b b1 b2 _ => fYV.1 b b1 b2, fYV.2.1, fun k k1 => fYV.2.2 k (by omega), fun j _ => by rw [fYV.1 162 (by omega) (by omega)]⟩
      rw [eu] at hv0
      refine put_M hG hv0 c0 (by omega) (by omega) (fun U hu u0 _ => ?_)
      have two : ∀ (m1 m2 : Int), o ≠ 271 → o ≠ 272 → zLf L n o u = ((zRdn L n m1 u).1, (zLbh L n 266 m2 (zRdn L n m1 u).2).1, 0, (zLbh L n 266 m2 (zRdn L n m1 u).2).2) → M_oneTo [zR 139, zI m1, zI m2] G U (fun v1 X2 => v1 = [] ∧ M_aLine_W Q 285 [zR 139, zT] [] G X2) := fun m1 m2 n1 n2 ef =>
        oneTo_M hG hu ok2 c0 (fun T ht tf t0 => f285 T _ _ _ _ ef ht (fun lt e1 => ⟨fun _ _ => tf lt e1, fun z => absurd z (by omega)⟩) (fun lt => t0.trans (u0 lt)))
      refine ⟨fun x10 => ?_, fun _ => ⟨fun z => absurd z (by omega), fun _ => ⟨fun x12 => ?_, fun _ => ⟨fun x13 => ?_, fun _ => ⟨fun x14 => ?_, fun _ => ⟨fun x15 => ?_, fun _ => ⟨fun x16 => ?_, fun x17 => ?_⟩⟩⟩⟩⟩⟩⟩
      · -- read
        have o1 : o = 267 := by omega
        have ef : zLf L n o u = ((zLkd L n u).1, (zLbh L n 266 5 (zLkd L n u).2).1, 0, (zLbh L n 266 5 (zLkd L n u).2).2) := if_pos o1
        have ee : zLe L n c s = zXp L n 59 (zLbh L n 266 5 (zLkd L n u).2).2 := by
          unfold zLe
          rw [eo, eu, ef]
        have dd : zqf (zLkd L n u).2 = 1 → ∀ T : zX, zLq L n Y T c u → zMd T (zLkd L n u).2 → Q [] T := fun k1 T ht md => by
          have z1 := zLbh_d (L := L) (n := n) (w := 266) (most := 5) k1
          have z2 := zXp_d (L := L) (n := n) (w := 59) z1.1
          refine done T ht.2.2.1 ht.2.2.2.1 ht.2.2.2.2.1 ht.2.2.2.2.2 (by rw [ee]; exact z2.1) (by rw [ee]; exact zMd_q md (z2.2.trans z1.2))
        have hu1 := hu.1
        by_cases kd : 256 ≤ zqt u ∧ zqt u < 264
        · have ek : zLkd L n u = (zqt u - 256, zNx L n u) := if_pos kd
          rcases hu1 with ⟨v1, mu, eu2⟩ | ⟨v1, md⟩
          · have tk2 := mu.2.2.1.2.2.2.2 kd.1
            have w : zWo (zqt u - 256) = zqt u - 256 := by
              unfold zWo
              rw [if_neg (by omega), if_neg (by omega)]
            rw [w] at tk2
            refine M_aLine_f120 hG ⟨fun _ => ⟨fun _ => ⟨fun z => absurd z (by rw [tk2.2]; omega), fun _ => ?_⟩, fun z => absurd tk2.1 z⟩, fun z => absurd mu.2.2.2.2.2.1 z⟩
            rw [tk2.2]
            refine put_M hG hu c0 (by omega) (by omega) (fun T ht t1 tj => ?_)
            have mt : zMs L n T u := by
              rcases ht.1 with ⟨_, mt, _⟩ | ⟨z, _⟩
              · exact mt
              · exact absurd z v1
            refine adv_M hG mt (by have := ok2.1; have := ok2.2.1; omega) ok2.2.2.1 (fun R fr mr => ⟨rfl, ?_⟩)
            have hr : zLq L n Y R c (zLkd L n u).2 := by
              rw [ek]
              exact zLq_f ht fr (Or.inl ⟨v1, mr, zEar_n ok2 (by omega) (fun g => Int.le_of_lt (eu2 g))⟩)
            refine to_M hG hr (zLkd_k ok2) c0 (fun S hs si sj => f285 S _ _ _ _ ef hs (fun lt e1 => ⟨fun _ _ => ⟨?_, si lt e1⟩, fun z => absurd z (by omega)⟩) (fun lt => ?_))
            · rw [sj _ (by omega), fr.1 162 (by omega) (by omega), t1 lt, ek]
            · rw [sj _ (by omega), fr.1 162 (by omega) (by omega), tj _ (by omega)]
              exact u0 lt
          · refine M_aLine_f120 hG ⟨fun z => absurd z md.1, fun _ => M_aLine_f144 hG (ends_Md hG md ⟨rfl, dd ?_ U hu ?_⟩)⟩
            · rw [ek]
              exact v1
            · rw [ek]
              exact md
        · have ek : zLkd L n u = (0, zSu u) := if_neg kd
          have f144 : M_aLine_W Q 144 [zR 139, zT] [] G U := by
            rcases hu1 with ⟨v1, mu, eu2⟩ | ⟨v1, md⟩
            · refine M_aLine_f144 hG (ends_M hG mu v1 (fun T ft md => ⟨rfl, ?_⟩))
              have z1 := zLbh_d (L := L) (n := n) (w := 266) (most := 5) (s := zSu u) zSu_f
              have z2 := zXp_d (L := L) (n := n) (w := 59) z1.1
              have ee2 : zLe L n c s = zXp L n 59 (zLbh L n 266 5 (zSu u)).2 := by rw [ee, ek]
              have ht := zLq_f hu ft (Or.inr ⟨zSu_f, md⟩)
              exact done T ht.2.2.1 ht.2.2.2.1 ht.2.2.2.2.1 ht.2.2.2.2.2 (by rw [ee2]; exact z2.1) (by rw [ee2]; exact zMd_q md (z2.2.trans z1.2))
            · refine M_aLine_f144 hG (ends_Md hG md ⟨rfl, dd ?_ U hu ?_⟩)
              · rw [ek]
                exact zSu_f
              · rw [ek]
                exact zMd_q md (zSu_d v1).2
          refine M_aLine_f120 hG ⟨fun u9 => ⟨fun u5 => ⟨fun _ => f144, fun le => ?_⟩, fun _ => f144⟩, fun _ => f144⟩
          rcases hu1 with ⟨v1, mu, eu2⟩ | ⟨v1, md⟩
          · have tk2 := mu.2.2.1
            have tok2 := ok2.2.2.2.2.2.1
            have t : 256 ≤ zqt u := by
              unfold zTok at tok2
              rcases tok2 with t | t | t | t | t | t | t | t
              · have := tk2.1 t; omega
              · have := (tk2.2.1 t).1; omega
              · have := tk2.2.2.1 t; omega
              · have := (tk2.2.2.2.1 (Or.inl t)).1; omega
              · have := (tk2.2.2.2.1 (Or.inr (Or.inl t))).1; omega
              · have := (tk2.2.2.2.1 (Or.inr (Or.inr (Or.inl t)))).1; omega
              · have := (tk2.2.2.2.1 (Or.inr (Or.inr (Or.inr t)))).1; omega
              · exact t.1
            rw [(tk2.2.2.2.2 t).2] at le
            unfold zWo at le
            by_cases k1 : zqt u - 256 = 10
            · rw [if_pos k1] at le
              omega
            · rw [if_neg k1] at le
              by_cases k2 : zqt u - 256 = 11
              · rw [if_pos k2] at le
                omega
              · rw [if_neg k2] at le
                omega
          · exact absurd u9 md.1
      · have o2 : o = 268 := by omega
        have ef : zLf L n o u = ((zRdn L n 5 u).1, (zLbh L n 266 5 (zRdn L n 5 u).2).1, 0, (zLbh L n 266 5 (zRdn L n 5 u).2).2) := by rw [o2]; rfl
        exact M_aLine_f181 hG (two 5 5 (by omega) (by omega) ef)
      · have o2 : o = 269 := by omega
        have ef : zLf L n o u = ((zRdn L n 99 u).1, (zLbh L n 266 5 (zRdn L n 99 u).2).1, 0, (zLbh L n 266 5 (zRdn L n 99 u).2).2) := by rw [o2]; rfl
        exact M_aLine_f190 hG (two 99 5 (by omega) (by omega) ef)
      · have o2 : o = 270 := by omega
        have ef : zLf L n o u = ((zRdn L n 5 u).1, (zLbh L n 266 9 (zRdn L n 5 u).2).1, 0, (zLbh L n 266 9 (zRdn L n 5 u).2).2) := by rw [o2]; rfl
        exact M_aLine_f200 hG (two 5 9 (by omega) (by omega) ef)
      · -- if
        have o2 : o = 271 := by omega
        have ef : zLf L n o u = ((zRdn L n 5 u).1, (zLbh L n 60 99 (zRdn L n 5 u).2).1, (zLbh L n 272 20 (zLbh L n 60 99 (zRdn L n 5 u).2).2).1, (zLbh L n 272 20 (zLbh L n 60 99 (zRdn L n 5 u).2).2).2) := by rw [o2]; rfl
        refine M_aLine_f210 hG (np_M hG hu ok2 c0 (by omega) (by omega) (fun T ht t1 tj => sign_M hG ht.1 (zRdn_k ok2) (by omega) (fun R fr mr => M_aLine_f240 hG ?_)))
        have hr := zLq_f ht fr mr
        have r162 : R 162 = T 162 := fr.1 162 (by omega) (by omega)
        refine np_M hG hr (zXp_k (zRdn_k ok2)) c0 (by omega) (by omega) (fun S hs s2 sj => mu_M hG hs (zLbh_k (zRdn_k ok2)) (v := 272) (by omega) zWo_16 (fun V2 hv2 ev2 => np_M hG hv2 (zXp_k (zLbh_k (zRdn_k ok2))) c0 (by omega) (by omega) (fun W hw w3 wj => f285 W _ _ _ _ ef hw (fun lt e1 => ⟨fun _ _ => ⟨?_, ?_⟩, fun _ => w3 lt (fun z => e1 (zRdn_d z).1)⟩) (fun lt => ?_))))
        · rw [wj _ (by omega), ev2, sj _ (by omega), r162]
          exact t1 lt (fun z => e1 (zLbh_d (zLbh_d (zRdn_d z).1).1).1)
        · rw [wj _ (by omega), ev2]
          exact s2 lt (fun z => e1 (zLbh_d (zRdn_d z).1).1)
        · rw [wj _ (by omega), ev2, sj _ (by omega), r162, tj _ (by omega)]
          exact u0 lt
      · -- go
        have o2 : o = 272 := by omega
        have ef : zLf L n o u = (0, 0, (zRdn L n 20 u).1, (zRdn L n 20 u).2) := by rw [o2]; rfl
        exact M_aLine_f271 hG (np_M hG hu ok2 c0 (by omega) (by omega) (fun T ht t1 tj => f285 T _ _ _ _ ef ht (fun lt e1 => ⟨fun z => absurd o2 z, fun _ => t1 lt (fun z => e1 (zRdn_d z).1)⟩) (fun lt => (tj _ (by omega)).trans (u0 lt))))
      · have o2 : o = 273 := by omega
        have ef : zLf L n o u = (0, 0, 0, u) := by rw [o2]; rfl
        exact f285 U _ _ _ _ ef hu (fun lt e1 => ⟨fun _ z => absurd o2 z, fun z => absurd z (by omega)⟩) u0
    refine M_aLine_f0 hG ⟨fun _ => ⟨fun _ => M_isIn_f0 hG ?_, fun z => absurd w8.1 z⟩, fun z => absurd h9 z⟩
    rw [w8.2]
    refine ⟨fun z => absurd z (by omega), fun _ => ⟨fun z => absurd z (by omega), fun _ => ⟨1, rfl, fun z => absurd z (by omega), fun _ => ?_⟩⟩⟩
    rw [hc]
    refine ⟨fun z => absurd z (by omega), fun _ => ⟨fun e20 => also_M (w := 3) hG ms (fun g => Or.inl (er g)) (fun U fu mu => ⟨rfl, f66 U fu ?_ ?_ ?_⟩), fun n20 => f66 Y (zTf_r Y) ?_ ?_ ?_⟩⟩
    · unfold zLw
      rw [if_pos (by omega)]
      exact mu
    · unfold zLw
      rw [if_pos (by omega)]
      have t := zWg_t (w := 3) (s := s)
      by_cases f0 : zqf s = 0
      · rw [(t.2.2.2.2.1 f0).1]
        omega
      · rw [t.2.2.2.2.2 f0]
        exact f1
    · unfold zLw
      rw [if_pos (by omega)]
      have t := zWg_t (w := 3) (s := s)
      by_cases f0 : zqf s = 0
      · rw [(t.2.2.2.2.1 f0).2, t.2.1]
        exact fun _ => Int.le_refl _
      · rw [t.2.2.2.2.2 f0]
        exact fun g => Int.le_of_lt (er g)
    all_goals
      have e : zLw c s = s := by
        unfold zLw
        by_cases k : 20 ≤ c
        · rw [if_pos k]
          exact zWg_t.2.2.2.2.2 (c20 (by omega))
        · rw [if_neg k]
      rw [e]
    · exact ms
    · exact f1
    · exact fun g => Int.le_of_lt (er g)
  · have eL : (zLn L n (s, c, P)).1 = zSu (zLw c s) := by
      have e : zLn L n (s, c, P) = (zSu (zLw c s), c + 1, P) := if_neg od
      rw [e]
    rw [eL] at q
    have qq : zqq (zSu (zLw c s)) = zqq (zSu s) := by
      have e1 : zSu s = (zqa s, zqt s, zqv s, zqp s, 1, zqp s) := if_neg f1
      have w1 : zqf (zLw c s) ≠ 1 := by
        unfold zLw
        by_cases k : 20 ≤ c
        · rw [if_pos k]
          have t := zWg_t (w := 3) (s := s)
          by_cases f0 : zqf s = 0
          · rw [(t.2.2.2.2.1 f0).1]
            omega
          · rw [t.2.2.2.2.2 f0]
            exact f1
        · rw [if_neg k]
          exact f1
      have e2 : zSu (zLw c s) = (zqa (zLw c s), zqt (zLw c s), zqv (zLw c s), zqp (zLw c s), 1, zqp (zLw c s)) := if_neg w1
      rw [e1, e2]
      exact wt.2.1
    have f43 : M_aLine_W Q 43 [zR 139, zT] [] G Y := M_aLine_f43 hG (ends_M hG ms f1 (fun Z f md => ⟨rfl, q Z (Or.inr ⟨zSu_f, zMd_q md qq⟩) (fun z => absurd zSu_f z) (fun b b1 b2 _ => f.1 b b1 b2) f.2.1 (fun k k1 => f.2.2 k (by omega)) (fun j _ => by rw [f.1 162 (by omega) (by omega)])⟩))
    refine M_aLine_f0 hG ⟨fun _ => ⟨fun t5 => M_isIn_f0 hG ?_, fun _ => f43⟩, fun z => absurd h9 z⟩
    have t : 256 ≤ zqt s ∧ zqt s < 274 := by
      unfold zTok at tok
      rcases tok with t | t | t | t | t | t | t | t
      · have := tk.1 t; omega
      · have := (tk.2.1 t).1; omega
      · have := tk.2.2.1 t; omega
      · have := (tk.2.2.2.1 (Or.inl t)).1; omega
      · have := (tk.2.2.2.1 (Or.inr (Or.inl t))).1; omega
      · have := (tk.2.2.2.1 (Or.inr (Or.inr (Or.inl t)))).1; omega
      · have := (tk.2.2.2.1 (Or.inr (Or.inr (Or.inr t)))).1; omega
      · exact t
    have w8 := (tk.2.2.2.2 t.1).2
    have wo : 10 ≤ zWo (zqt s - 256) → zWo (zqt s - 256) = 11 := fun ge => by
      unfold zWo at ge ⊢
      by_cases k1 : zqt s - 256 = 10
      · rw [if_pos k1]
      · rw [if_neg k1] at ge ⊢
        by_cases k2 : zqt s - 256 = 11
        · omega
        · rw [if_neg k2] at ge ⊢
          omega
    rw [w8]
    refine ⟨fun _ => ⟨0, rfl, fun _ => f43, fun z => absurd rfl z⟩, fun ge => ⟨fun _ => ⟨0, rfl, fun _ => f43, fun z => absurd rfl z⟩, fun _ => ⟨1, rfl, fun z => absurd z (by omega), fun _ => ?_⟩⟩⟩
    exact ⟨fun _ => f43, fun ne => absurd (wo ge) ne⟩
