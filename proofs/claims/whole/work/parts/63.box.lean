/-! ===== BOXES read by the class ===== -/
theorem zCr_c {G : zG} {L : Int → Int} {n : Int} {Y Z : zX} {s : zPst} (h : zCr G L n Y s) (e2 : Z 2 = Y 2) (e3 : Z 3 = Y 3) (em : Z (-3) = Y (-3)) (en : Z (-4) = Y (-4)) : zCr G L n Z s := by
  obtain ⟨h1, h2, h3, h4, h5, h6, h7, h8, h9, h10⟩ := h
  unfold zCr
  rw [e2, e3]
  exact ⟨h1, h2, h3, h4, h5, h6, h7, h8, h9, zKtx_c h10 em en⟩
theorem box_D {Q : List zV → zX → Prop} {G : zG} {X Y : zX} {L I R : Int → Int} {n d c : Int} {s : zPst} (hG : SH G) (n5 : n ≤ 500) (h : zCb G L n X Y (s, d, c, I, R)) (ok : zOk n s) (c0 : 0 ≤ c) (c1 : c ≤ 14) (d0 : 0 ≤ d) (d1 : d ≤ 501)
    (q : ∀ Z : zX, zCb G L n X Z (zBx L n (s, d, c, I, R)) → Q [zI (zBx L n (s, d, c, I, R)).2.1] Z) : Ta_readBox [zR 2, zR 134, zI d] G Y Q := by
  obtain ⟨r0, h1, h4, h5, fr⟩ := h
  have k134 : zk0 134 = 5 := by decide +kernel
  have h8 : Y 2 8 = zqt s := r0.2.1
  have hf : Y 2 2 = zqf s := r0.2.2.2.2.1
  have h1' : Y 134 1 = c := h1
  have bad : ¬(256 ≤ zqt s ∧ zqt s < 264) → Ta_readBox_W Q 20 [zR 2, zT, zI d, zT] [] G Y := fun nw => by
    have e : zBx L n (s, d, c, I, R) = (zSu s, d, c, I, R) := if_neg nw
    rw [e] at q
    exact Ta_readBox_f20 hG (su_D hG r0 (fun Z f r => ⟨rfl, q Z ⟨r, by rw [f 134 (by omega)]; exact h1, by rw [f 4 (by omega)]; exact h4, by rw [f 135 (by omega)]; exact h5, fun b b2 b4 b5 b6 => (f b b2).trans (fr b b2 b4 b5 b6)⟩⟩))
  by_cases wd : 256 ≤ zqt s ∧ zqt s < 264
  · have ok1 : zOk n (zB1 c d s) := zB1_k ok
    have ok2 : zOk n (zSx2 L n c d s) := (zNx_k ok1).1
    have ok3 : zOk n (zSx3 L n c d s) := zH1_k ok2
    have ok4 : zOk n (zSx4 L n c d s) := zH2_k ok3
    have ok5 : zOk n (zSx5 L n c d s) := zH3_k ok4
    -- behind the word
    have f105 : ∀ (Z : zX) (b c2 : Int) (R2 : Int → Int), zCr G L n Z (zB1 c d s) → (∀ a : Int, a ≠ 2 → a ≠ 134 → a ≠ 135 → Z a = Y a) → Z 134 1 = c2 → (∀ j : Int, 0 ≤ j → j < 70 → Z 135 j = R2 j) → ((zNew c d s ∧ b = c ∧ c2 = c + 1 ∧ R2 = zup (zup R (5 * c) (zqt s - 256)) (5 * c + 2) (if d = 0 then -1 else I (d - 1))) ∨ (¬zNew c d s ∧ b = -1 ∧ c2 = c ∧ R2 = R)) → Ta_readBox_W Q 105 [zR 2, zR 134, zI d, zI b] [] G Z := fun Z b c2 R2 r f zc zr st => by
      have bl : b < 14 := by
        rcases st with st | st
        · have := st.1.1
          omega
        · omega
      refine Ta_readBox_f105 hG (nx_D hG n5 r (by have := ok1.1; have := ok1.2.1; omega) ok1.2.2.1 (fun Z2 f2 r2 => ⟨rfl, head_D hG n5 r2 ok2 (by omega) bl (fun Z3 f3 r3 rn ry => ⟨rfl, ?_⟩)⟩))
      have r3' : zCr G L n Z3 (zSx5 L n c d s) := r3
      have t3 : Z3 2 8 = zqt (zSx5 L n c d s) := r3'.2.1
      have ec : Z3 134 1 = (if zNew c d s then c + 1 else c) := by
        rw [f3 134 (by omega) (by omega), f2 134 (by omega), zc]
        rcases st with st | st
        · rw [if_pos st.1]
          exact st.2.2.1
        · rw [if_neg st.1]
          exact st.2.2.1
      have er : ∀ j : Int, 0 ≤ j → j < 70 → Z3 135 j = zBrw L n c d I R s j := fun j j0 j1 => by
        unfold zBrw
        rcases st with st | st
        · rw [if_pos st.1, ry (by omega), st.2.1, f2 135 (by omega)]
          have zj := zr j j0 j1
          rw [st.2.2.2] at zj
          show zup (zup (zup (Z 135) (5 * c + 1) (zH1 L n (zSx2 L n c d s)).1) (5 * c + 3) (zH2 L n (zSx3 L n c d s)).1) (5 * c + 4) (zH3 L n (zSx4 L n c d s)).1 j = _
          by_cases j4 : j = 5 * c + 4
          · rw [j4, zup_s, zup_s]
          · rw [zup_n j4, zup_n j4]
            by_cases j3 : j = 5 * c + 3
            · rw [j3, zup_s, zup_s]
            · rw [zup_n j3, zup_n j3]
              by_cases j2 : j = 5 * c + 1
              · rw [j2, zup_s, zup_s]
              · rw [zup_n j2, zup_n j2]
                exact zj
        · rw [if_neg st.1, rn st.2.1, f2 135 (by omega)]
          have zj := zr j j0 j1
          rw [st.2.2.2] at zj
          exact zj
      have ei : ∀ j : Int, 0 ≤ j → j < 6 → Z3 4 j = I j := fun j j0 j1 => by
        rw [f3 4 (by omega) (by omega), f2 4 (by omega), f 4 (by omega) (by omega) (by omega)]
        exact h4 j j0 j1
      have ef : ∀ a : Int, a ≠ 2 → a ≠ 4 → a ≠ 134 → a ≠ 135 → Z3 a = X a := fun a a2 a4 a5 a6 => by
        rw [f3 a a2 a6, f2 a a2, f a a2 a5 a6]
        exact fr a a2 a4 a5 a6
      have eb : (if zNew c d s then c else -1) = b := by
        rcases st with st | st
        · rw [if_pos st.1]
          exact st.2.1.symm
        · rw [if_neg st.1]
          exact st.2.1.symm
      rw [t3]
      refine ⟨fun t40 => ?_, fun t40 => ?_⟩
      · have e : zBx L n (s, d, c, I, R) = (zNx L n (zSx5 L n c d s), d + 1, (if zNew c d s then c + 1 else c), (if d < 6 then zup I d (if zNew c d s then c else -1) else I), zBrw L n c d I R s) := (if_pos wd).trans (if_pos t40)
        rw [e] at q
        refine nx_D hG n5 r3' (by have := ok5.1; have := ok5.2.1; omega) ok5.2.2.1 (fun Z4 f4 r4 => ⟨rfl, fun lt => ⟨d0, lt, zw_id (by omega) (by omega), q _ ⟨zCr_c r4 (zrd_r (by omega)) (zrd_r (by omega)) (zrd_r (by omega)) (zrd_r (by omega)), ?_, fun j j0 j1 => ?_, fun j j0 j1 => ?_, fun a a2 a4 a5 a6 => ?_⟩⟩, fun ge => ⟨zw_id (by omega) (by omega), q _ ⟨r4, ?_, fun j j0 j1 => ?_, fun j j0 j1 => ?_, fun a a2 a4 a5 a6 => ?_⟩⟩⟩)
        · rw [zrd_r (by omega), f4 134 (by omega)]
          exact ec
        · show zst Z4 4 d b 4 j = (if d < 6 then zup I d (if zNew c d s then c else -1) else I) j
          rw [if_pos lt, eb]
          by_cases jd : j = d
          · rw [jd, zrd_s, zup_s]
          · rw [zrd_n (Or.inr jd), zup_n jd, f4 4 (by omega)]
            exact ei j j0 j1
        · rw [zrd_r (by omega), f4 135 (by omega)]
          exact er j j0 j1
        · rw [zrd_r a4, f4 a a2]
          exact ef a a2 a4 a5 a6
        · rw [f4 134 (by omega)]
          exact ec
        · show Z4 4 j = (if d < 6 then zup I d (if zNew c d s then c else -1) else I) j
          rw [if_neg (by omega), f4 4 (by omega)]
          exact ei j j0 j1
        · rw [f4 135 (by omega)]
          exact er j j0 j1
        · rw [f4 a a2]
          exact ef a a2 a4 a5 a6
      · have e : zBx L n (s, d, c, I, R) = (zXp L n 59 (zSx5 L n c d s), d, (if zNew c d s then c + 1 else c), I, zBrw L n c d I R s) := (if_pos wd).trans (if_neg t40)
        rw [e] at q
        refine xp_D hG n5 r3' ok5 (fun Z4 f4 r4 => ⟨rfl, q Z4 ⟨r4, ?_, fun j j0 j1 => ?_, fun j j0 j1 => ?_, fun a a2 a4 a5 a6 => ?_⟩⟩)
        · rw [f4 134 (by omega)]
          exact ec
        · rw [f4 4 (by omega)]
          exact ei j j0 j1
        · rw [f4 135 (by omega)]
          exact er j j0 j1
        · rw [f4 a a2]
          exact ef a a2 a4 a5 a6
    refine Ta_readBox_f0 hG ?_
    rw [h8]
    refine ⟨fun z => absurd z (by omega), fun _ => ⟨fun _ => Pg_isFull_f0 hG k134 ?_, fun z => absurd z (by omega)⟩⟩
    rw [h1']
    refine ⟨fun lt => ⟨0, rfl, fun _ => ⟨fun d6 => ?_, fun d6 => ?_⟩, fun z => absurd rfl z⟩, fun ge => ⟨1, rfl, fun z => absurd z (by omega), fun _ => wg_D hG r0 (fun Z f r => ⟨rfl, f105 Z (-1) c R ?_ (fun a a2 _ _ => f a a2) (by rw [f 134 (by omega)]; exact h1') (by rw [f 135 (by omega)]; exact h5) (Or.inr ⟨fun z => by have := z.1; omega, rfl, rfl, rfl⟩)⟩)⟩⟩
    · rw [hf, h8]
      have e1 : zB1 c d s = s := by
        unfold zB1
        rw [if_neg (by omega), if_neg (by omega)]
      refine ⟨fun f0 => ⟨zw_id (by omega) (by omega), ?_⟩, fun f1 => f105 Y (-1) c R (by rw [e1]; exact r0) (fun _ _ _ _ => rfl) h1' h5 (Or.inr ⟨fun z => f1 z.2.2, rfl, rfl, rfl⟩)⟩
      have nw : zNew c d s := ⟨lt, d6, f0⟩
      have add : ∀ w : Int, w = (if d = 0 then -1 else I (d - 1)) → Ta_readBox_W Q 101 [zR 2, zR 134, zI d, zT] [zI w, zI (zqt s - 256), zR 134] G Y := fun w ew => by
        refine Ta_readBox_f101 hG k134 (Pg_add_f0 hG k134 (Pg_tell_f0 hG k134 ?_))
        rw [h1', show (1 : Int) + 134 = 135 by omega]
        refine ⟨zw_id (by omega) (by omega), zw_id (by omega) (by omega), by omega, by omega, rfl, Pg_tell_f0 hG k134 ?_⟩
        rw [zrd_r (by omega), h1', show (1 : Int) + 134 = 135 by omega]
        refine ⟨zw_id (by omega) (by omega), zw_id (by omega) (by omega), by omega, by omega, rfl, ?_⟩
        rw [zrd_r (by omega), zrd_r (by omega), h1', zrd_s]
        refine ⟨zw_id (by omega) (by omega), zw_id (by omega) (by omega), _, rfl, ?_⟩
        rw [show c * 5 + 0 = 5 * c by omega, show c * 5 + 2 = 5 * c + 2 by omega]
        refine f105 _ (c + 1 - 1) (c + 1) (zup (zup R (5 * c) (zqt s - 256)) (5 * c + 2) (if d = 0 then -1 else I (d - 1))) (by rw [e1]; exact zCr_c r0 (by rw [zrd_r (by omega), zrd_r (by omega), zrd_r (by omega)]) (by rw [zrd_r (by omega), zrd_r (by omega), zrd_r (by omega)]) (by rw [zrd_r (by omega), zrd_r (by omega), zrd_r (by omega)]) (by rw [zrd_r (by omega), zrd_r (by omega), zrd_r (by omega)])) (fun a a2 a5 a6 => by rw [zrd_r a5, zrd_r a6, zrd_r a6]) (zrd_s _ _ _ _) (fun j j0 j1 => ?_) (Or.inl ⟨nw, by omega, rfl, rfl⟩)
        rw [zrd_r (by omega), zst_a, zst_a, ew]
        by_cases j2 : j = 5 * c + 2
        · rw [j2, zup_s, zup_s]
        · rw [zup_n j2, zup_n j2]
          by_cases j0' : j = 5 * c
          · rw [j0', zup_s, zup_s]
          · rw [zup_n j0', zup_n j0']
            exact h5 j j0 j1
      refine ⟨fun dz => add (-1) (by rw [if_pos dz]), fun dn => ⟨zw_id (by omega) (by omega), by omega, by omega, ?_⟩⟩
      have e4 : Y 4 (d - 1) = I (d - 1) := h4 (d - 1) (by omega) (by omega)
      rw [e4]
      exact add _ (by rw [if_neg dn])
    · have e1 : zB1 c d s = zWg 4 s := by
        unfold zB1
        rw [if_neg (by omega), if_pos (by omega)]
      exact wg_D hG r0 (fun Z f r => ⟨rfl, f105 Z (-1) c R (by rw [e1]; exact r) (fun a a2 _ _ => f a a2) (by rw [f 134 (by omega)]; exact h1') (by rw [f 135 (by omega)]; exact h5) (Or.inr ⟨fun z => by have := z.2.1; omega, rfl, rfl, rfl⟩)⟩)
    · unfold zB1
      rw [if_pos ge]
      exact r
  · refine Ta_readBox_f0 hG ?_
    rw [h8]
    exact ⟨fun _ => bad wd, fun ge => ⟨fun lt => absurd ⟨ge, lt⟩ wd, fun _ => bad wd⟩⟩
/-! what stays so from BOX to BOX -/
theorem zBx_k {L I R : Int → Int} {n d c : Int} {s : zPst} (ok : zOk n s) (c0 : 0 ≤ c) (c1 : c ≤ 14) (d0 : 0 ≤ d) : zOk n (zBx L n (s, d, c, I, R)).1 ∧ 0 ≤ (zBx L n (s, d, c, I, R)).2.2.1 ∧ (zBx L n (s, d, c, I, R)).2.2.1 ≤ 14 ∧ (d ≤ (zBx L n (s, d, c, I, R)).2.1 ∧ (zBx L n (s, d, c, I, R)).2.1 ≤ d + 1) ∧ (zqf (zBx L n (s, d, c, I, R)).1 = 1 ∨ zqa s ≤ zqp (zBx L n (s, d, c, I, R)).1) := by
  have ok1 : zOk n (zB1 c d s) := zB1_k ok
  have ok2 := zNx_k (L := L) ok1
  have ok3 : zOk n (zSx3 L n c d s) := zH1_k ok2.1
  have ok4 : zOk n (zSx4 L n c d s) := zH2_k ok3
  have ok5 : zOk n (zSx5 L n c d s) := zH3_k ok4
  have a1 : zqa (zB1 c d s) = zqa s := by
    unfold zB1
    by_cases e : 14 ≤ c
    · rw [if_pos e]
      exact zWg_t.2.2.1
    · rw [if_neg e]
      by_cases g : 6 ≤ d
      · rw [if_pos g]
        exact zWg_t.2.2.1
      · rw [if_neg g]
  -- places do not go back
  have rd : ∀ (most : Int) (u : zPst), zOk n u → zqp u ≤ zqp (zRdn L n most u).2 := fun most u hu => by
    unfold zRdn
    by_cases c1 : zqt u = 1
    · rw [if_pos c1]
      by_cases c2 : most < zqv u
      · rw [if_pos c2]
        have z := zNx_k (L := L) (zWg_k hu (by omega : (0 : Int) ≤ 2) (by omega))
        have y := zWg_t (w := 2) (s := u)
        have x := z.2
        rw [y.2.2.1] at x
        exact Int.le_trans hu.2.1 x
      · rw [if_neg c2]
        exact Int.le_trans hu.2.1 (zNx_k (L := L) hu).2
    · rw [if_neg c1]
      unfold zSu
      by_cases c3 : zqf u = 1
      · rw [if_pos c3]
        exact Int.le_refl _
      · rw [if_neg c3]
        exact Int.le_refl _
  have p3 : zqp (zSx2 L n c d s) ≤ zqp (zSx3 L n c d s) := by
    unfold zSx3 zH1
    by_cases e : zqt (zSx2 L n c d s) = 1
    · rw [if_pos e]
      exact rd 9 _ ok2.1
    · rw [if_neg e]
      exact Int.le_refl _
  have p4 : zqp (zSx3 L n c d s) ≤ zqp (zSx4 L n c d s) := by
    unfold zSx4 zH2
    by_cases e : zqt (zSx3 L n c d s) = 264
    · rw [if_pos e]
      exact Int.le_trans (Int.le_trans ok3.2.1 (zNx_k (L := L) ok3).2) (rd 3 _ (zNx_k ok3).1)
    · rw [if_neg e]
      exact Int.le_refl _
  have p5 : zqp (zSx4 L n c d s) ≤ zqp (zSx5 L n c d s) := by
    unfold zSx5 zH3
    by_cases e : zqt (zSx4 L n c d s) = 265
    · rw [if_pos e]
      exact Int.le_trans (Int.le_trans ok4.2.1 (zNx_k (L := L) ok4).2) (rd 99 _ (zNx_k ok4).1)
    · rw [if_neg e]
      exact Int.le_refl _
  have p2 : zqa s ≤ zqp (zSx2 L n c d s) := by
    have x := ok2.2
    rw [a1] at x
    exact x
  have nc : 0 ≤ (if zNew c d s then c + 1 else c) ∧ (if zNew c d s then c + 1 else c) ≤ 14 := by
    by_cases e : zNew c d s
    · rw [if_pos e]
      have := e.1
      omega
    · rw [if_neg e]
      omega
  unfold zBx
  by_cases wd : 256 ≤ zqt s ∧ zqt s < 264
  · rw [if_pos wd]
    by_cases t40 : zqt (zSx5 L n c d s) = 40
    · rw [if_pos t40]
      have z := zNx_k (L := L) ok5
      refine ⟨z.1, nc.1, nc.2, ⟨by show d ≤ d + 1; omega, Int.le_refl _⟩, Or.inr ?_⟩
      have x := z.2
      have y := ok5.2.1
      show zqa s ≤ zqp (zNx L n (zSx5 L n c d s))
      omega
    · rw [if_neg t40]
      refine ⟨zXp_k ok5, nc.1, nc.2, ⟨Int.le_refl _, by show d ≤ d + 1; omega⟩, ?_⟩
      show zqf (zXp L n 59 (zSx5 L n c d s)) = 1 ∨ zqa s ≤ zqp (zXp L n 59 (zSx5 L n c d s))
      unfold zXp
      by_cases e : zqt (zSx5 L n c d s) = 59
      · rw [if_pos e]
        have z := (zNx_k (L := L) ok5).2
        have y := ok5.2.1
        exact Or.inr (by omega)
      · rw [if_neg e]
        exact Or.inl zSu_f
  · rw [if_neg wd]
    exact ⟨zSu_k ok, c0, c1, ⟨Int.le_refl _, by show d ≤ d + 1; omega⟩, Or.inl zSu_f⟩
/-- the class reads the rest -/
theorem pgl_D {Q : List zV → zX → Prop} {G : zG} {X : zX} {L : Int → Int} {n : Int} (hG : SH G) (n5 : n ≤ 500) : ∀ (k : Nat) (r : Int) (B : zB) (Y : zX), r + k = n → 0 ≤ r → zCb G L n X Y B → zOk n B.1 → 0 ≤ B.2.2.1 → B.2.2.1 ≤ 14 → 0 ≤ B.2.1 → B.2.1 ≤ r + 1 → (zqf B.1 = 1 ∨ r + 1 ≤ zqp B.1) →
    (∀ Z : zX, zCb G L n X Z (zPgl L n k B) → zOk n (zPgl L n k B).1 → 0 ≤ (zPgl L n k B).2.2.1 → (zPgl L n k B).2.2.1 ≤ 14 → Ta_takePage_W Q 79 [zR 2, zT, zT, zT] [] G Z) → Ta_takePage_W Q 27 [zR 2, zR 134, zI B.2.1, zI r] [] G Y := by
  intro k
  induction k with
  | zero =>
    intro r B Y e r0 h ok c0 c1 d0 d1 pr q
    refine Ta_takePage_f27 hG ?_
    rw [h.1.2.2.2.2.2.2.1]
    exact ⟨fun z => absurd z (by omega), fun _ => q Y h ok c0 c1⟩
  | succ k ih =>
    intro r B Y e r0 h ok c0 c1 d0 d1 pr q
    obtain ⟨s, d, c, I, R⟩ := B
    have h8 : Y 2 8 = zqt s := h.1.2.1
    have hf : Y 2 2 = zqf s := h.1.2.2.2.2.1
    have c0' : 0 ≤ c := c0
    have c1' : c ≤ 14 := c1
    have d0' : 0 ≤ d := d0
    have d1' : d ≤ r + 1 := d1
    have ok' : zOk n s := ok
    have stop : ¬(0 < d ∧ zqf s ≠ 1) → Ta_takePage_W Q 79 [zR 2, zT, zT, zT] [] G Y := fun no => by
      have e2 : zPgl L n (k + 1) (s, d, c, I, R) = (s, d, c, I, R) := if_neg no
      rw [e2] at q
      exact q Y h ok c0 c1
    refine Ta_takePage_f27 hG ?_
    rw [h.1.2.2.2.2.2.2.1, hf, h8]
    refine ⟨fun _ => ⟨fun dp => ⟨fun f1 => stop (fun z => z.2 f1), fun f1 => ⟨fun t41 => ?_, fun t41 => ?_⟩⟩, fun dz => stop (fun z => by have z1 : 0 < d := z.1; have dz1 : d ≤ 0 := dz; omega)⟩, fun z => absurd z (by omega)⟩
    · have e2 : zPgl L n (k + 1) (s, d, c, I, R) = zPgl L n k (zNx L n s, d - 1, c, I, R) := (if_pos ⟨dp, f1⟩).trans (if_pos t41)
      rw [e2] at q
      have dp' : 0 < d := dp
      have nk := zNx_k (L := L) ok'
      refine nx_D hG n5 h.1 (by have := ok'.1; have := ok'.2.1; show 0 ≤ zqa s; omega) ok'.2.2.1 (fun Z f rr => ⟨rfl, by show zw (d + -1) = d - 1; rw [show d + -1 = d - 1 by omega]; exact zw_id (by omega) (by omega), zw_id (by omega) (by omega), ih (r + 1) (zNx L n s, d - 1, c, I, R) Z (by omega) (by omega) ⟨rr, by rw [f 134 (by omega)]; exact h.2.1, by rw [f 4 (by omega)]; exact h.2.2.1, by rw [f 135 (by omega)]; exact h.2.2.2.1, fun b b2 b4 b5 b6 => (f b b2).trans (h.2.2.2.2 b b2 b4 b5 b6)⟩ nk.1 c0 c1 (by show 0 ≤ d - 1; omega) (by show d - 1 ≤ r + 1 + 1; omega) (Or.inr ?_) q⟩)
      have x := nk.2
      have t0 : zqt s ≠ 0 := by
        have t41' : zqt s = 41 := t41
        omega
      have y := ok'.2.2.2.1 t0
      have pr' : zqf s = 1 ∨ r + 1 ≤ zqp s := pr
      rcases pr' with pr' | pr'
      · exact absurd pr' f1
      · show r + 1 + 1 ≤ zqp (zNx L n s)
        omega
    · have e2 : zPgl L n (k + 1) (s, d, c, I, R) = zPgl L n k (zBx L n (s, d, c, I, R)) := (if_pos ⟨dp, f1⟩).trans (if_neg t41)
      rw [e2] at q
      have bk := zBx_k (L := L) (I := I) (R := R) (d := d) (c := c) ok' c0' c1' d0'
      refine box_D hG n5 h ok' c0' c1' d0' (by omega) (fun Z hz => ⟨_, rfl, zw_id (by omega) (by omega), ih (r + 1) (zBx L n (s, d, c, I, R)) Z (by omega) (by omega) hz bk.1 bk.2.1 bk.2.2.1 (by have := bk.2.2.2.1.1; omega) (by have := bk.2.2.2.1.2; omega) ?_ q⟩)
      rcases bk.2.2.2.2 with b5 | b5
      · exact Or.inl b5
      · by_cases t0 : zqt s = 0
        · refine Or.inl ?_
          have e3 : zBx L n (s, d, c, I, R) = (zSu s, d, c, I, R) := if_neg (fun z => by have z1 : 256 ≤ zqt s := z.1; omega)
          rw [e3]
          exact zSu_f
        · have y := ok'.2.2.2.1 t0
          have pr' : zqf s = 1 ∨ r + 1 ≤ zqp s := pr
          rcases pr' with pr' | pr'
          · exact absurd pr' f1
          · exact Or.inr (by omega)
/-- the class takes a PAGE's text -/
theorem takePage_D {Q : List zV → zX → Prop} {G : zG} {X : zX} (hG : SH G) (kt : zKtx G X) (n0 : 0 ≤ X 2 1) (n5 : X 2 1 ≤ 500)
    (q : ∀ (Y : zX) (r : Int), zCb G (X 3) (X 2 1) X Y (zXp (X 3) (X 2 1) 0 (zPg0 (X 3) (X 2 1) (X 4) (X 135)).1, (zPg0 (X 3) (X 2 1) (X 4) (X 135)).2) → ((r = 1 ∧ zqf (zXp (X 3) (X 2 1) 0 (zPg0 (X 3) (X 2 1) (X 4) (X 135)).1) = 0) ∨ (r = 0 ∧ zqf (zXp (X 3) (X 2 1) 0 (zPg0 (X 3) (X 2 1) (X 4) (X 135)).1) ≠ 0)) → Q [zI r] Y) : Ta_takePage [zR 2, zR 134] G X Q := by
  obtain ⟨n, en⟩ : ∃ n : Int, X 2 1 = n := ⟨_, rfl⟩
  rw [en] at n0 n5 q
  have s0 : ∀ Y : zX, zTp X Y 0 (-1) → zCr G (X 3) n (zst Y 2 7 0) (0, Y 2 8, Y 2 10, Y 2 9, 0, -1) := fun Y t => by
    refine ⟨zrd_s _ _ _ _, ?_, ?_, fun z => ?_, ?_, ?_, ?_, ?_, ?_, zKtx_c kt ?_ ?_⟩
    · rw [zrd_n (by omega)]
    · rw [zrd_n (by omega)]
    · rw [zrd_n (by omega)]
    · rw [zrd_n (by omega)]
      exact t.2.2.2.1
    · rw [zrd_n (by omega)]
      exact t.2.2.2.2
    · rw [zrd_n (by omega)]
      exact t.2.2.1.trans en
    · rw [zrd_n (by omega)]
      exact t.2.1
    · rw [zrd_r (by omega)]
      exact t.1 3 (by omega)
    · rw [zrd_r (by omega)]
      exact t.1 (-3) (by omega)
    · rw [zrd_r (by omega)]
      exact t.1 (-4) (by omega)
  refine Ta_takePage_f0 hG (take_D hG (fun Y t => ⟨rfl, nx_D hG n5 (s0 Y t) (Int.le_refl _) n0 (fun Z f rz => ⟨rfl, ?_⟩)⟩))
  have rz' : zCr G (X 3) n Z (zNx (X 3) n (0, 0, 0, 0, 0, -1)) := rz
  have ok : zOk n (zNx (X 3) n (0, 0, 0, 0, 0, -1)) := (zNx_ok (Int.le_refl _) n0 (by show (0 : Int) ≤ 0; omega) (by show (0 : Int) ≤ 4; omega) (by show (-1 : Int) ≤ -1; omega) (by show (-1 : Int) ≤ n; omega)).1
  have hb : zCb G (X 3) n X (zst Z 134 1 0) (zNx (X 3) n (0, 0, 0, 0, 0, -1), 0, 0, X 4, X 135) := by
    refine ⟨zCr_c rz' (zrd_r (by omega)) (zrd_r (by omega)) (zrd_r (by omega)) (zrd_r (by omega)), zrd_s _ _ _ _, fun j j0 j1 => ?_, fun j j0 j1 => ?_, fun b b2 b4 b5 b6 => ?_⟩
    · rw [zrd_r (by omega), f 4 (by omega), zrd_r (by omega), t.1 4 (by omega)]
    · rw [zrd_r (by omega), f 135 (by omega), zrd_r (by omega), t.1 135 (by omega)]
    · rw [zrd_r b5, f b b2, zrd_r b2, t.1 b b2]
  have bk := zBx_k (L := X 3) (I := X 4) (R := X 135) (d := 0) (c := 0) ok (Int.le_refl _) (by omega) (Int.le_refl _)
  refine box_D hG n5 hb ok (Int.le_refl _) (by omega) (Int.le_refl _) (by omega) (fun V hv => ⟨_, rfl, pgl_D hG n5 n.toNat 0 _ V (by omega) (Int.le_refl _) hv bk.1 bk.2.1 bk.2.2.1 bk.2.2.2.1.1 bk.2.2.2.1.2 ?_ (fun U hu oku _ _ => ?_)⟩)
  · rcases bk.2.2.2.2 with b5 | b5
    · exact Or.inl b5
    · by_cases t0 : zqt (zNx (X 3) n (0, 0, 0, 0, 0, -1)) = 0
      · refine Or.inl ?_
        have e3 : zBx (X 3) n (zNx (X 3) n (0, 0, 0, 0, 0, -1), 0, 0, X 4, X 135) = (zSu (zNx (X 3) n (0, 0, 0, 0, 0, -1)), 0, 0, X 4, X 135) := if_neg (fun z => by have z1 : 256 ≤ zqt (zNx (X 3) n (0, 0, 0, 0, 0, -1)) := z.1; omega)
        rw [e3]
        exact zSu_f
      · have y := ok.2.2.2.1 t0
        have w := ok.1
        exact Or.inr (by omega)
  · refine Ta_takePage_f79 hG (xp_D hG n5 hu.1 oku (fun W f2 rw2 => ⟨rfl, ?_⟩))
    have hw : zCb G (X 3) n X W (zXp (X 3) n 0 (zPg0 (X 3) n (X 4) (X 135)).1, (zPg0 (X 3) n (X 4) (X 135)).2) := ⟨rw2, by rw [f2 134 (by omega)]; exact hu.2.1, by rw [f2 4 (by omega)]; exact hu.2.2.1, by rw [f2 135 (by omega)]; exact hu.2.2.2.1, fun b b2 b4 b5 b6 => (f2 b b2).trans (hu.2.2.2.2 b b2 b4 b5 b6)⟩
    have ff : W 2 2 = zqf (zXp (X 3) n 0 (zPg0 (X 3) n (X 4) (X 135)).1) := rw2.2.2.2.2.1
    rw [ff]
    exact ⟨fun z => q W 1 hw (Or.inl ⟨rfl, z⟩), fun z => q W 0 hw (Or.inr ⟨rfl, z⟩)⟩
