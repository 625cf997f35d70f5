/-! ===== what is told, copied: all of it ===== -/
theorem zsa2 {X X1 : zX} {a b s t n m : Int} (h : X1 = zsa (zsa X a (zcpy (X s) (X a) 0 0 n)) b (zcpy ((zsa X a (zcpy (X s) (X a) 0 0 n)) t) ((zsa X a (zcpy (X s) (X a) 0 0 n)) b) 0 0 m)) (ab : a ≠ b) (ta : t ≠ a) : (∀ x : Int, x ≠ a → x ≠ b → X1 x = X x) ∧ (∀ j : Int, 0 ≤ j → j < n → X1 a j = X s j) ∧ (∀ j : Int, 0 ≤ j → j < m → X1 b j = X t j) := by
  refine ⟨fun x xa xb => ?_, fun j j0 j1 => ?_, fun j j0 j1 => ?_⟩
  · rw [h, zsa_n xb, zsa_n xa]
  · rw [h, zsa_n ab, zsa_s]
    exact zcpy_0 j0 j1
  · rw [h, zsa_s, zcpy_0 j0 j1, zsa_n ta]
theorem zst3 {X X4 : zX} {a s i j k : Int} (h : X4 = zst (zst (zst X a i (X s i)) a j ((zst X a i (X s i)) s j)) a k ((zst (zst X a i (X s i)) a j ((zst X a i (X s i)) s j)) s k)) (sa : s ≠ a) (ij : i ≠ j) (ik : i ≠ k) (jk : j ≠ k) : (∀ x : Int, x ≠ a → X4 x = X x) ∧ X4 a i = X s i ∧ X4 a j = X s j ∧ X4 a k = X s k ∧ (∀ l : Int, l ≠ i → l ≠ j → l ≠ k → X4 a l = X a l) := by
  refine ⟨fun x xa => ?_, ?_, ?_, ?_, fun l li lj lk => ?_⟩
  · rw [h, zrd_r xa, zrd_r xa, zrd_r xa]
  · rw [h, zrd_n (Or.inr ik), zrd_n (Or.inr ij), zrd_s]
  · rw [h, zrd_n (Or.inr jk), zrd_s, zrd_r sa]
  · rw [h, zrd_s, zrd_r sa, zrd_r sa]
  · rw [h, zrd_n (Or.inr lk), zrd_n (Or.inr lj), zrd_n (Or.inr li)]
/-- the letters and words copied -/
def zCsp (X Y : zX) (d e : Int) : Prop := (∀ i : Int, 6 ≤ i → i ≤ 8 → Y (9 + d) i = X (9 + e) i) ∧ (∀ j : Int, 0 ≤ j → j < 160 → Y (10 + d) j = X (10 + e) j) ∧ (∀ j : Int, 0 ≤ j → j < 20 → Y (11 + d) j = X (11 + e) j) ∧ (∀ j : Int, 0 ≤ j → j < 20 → Y (12 + d) j = X (12 + e) j) ∧ (∀ j : Int, 0 ≤ j → j < 8 → Y (13 + d) j = X (13 + e) j) ∧ (∀ j : Int, 0 ≤ j → j < 8 → Y (14 + d) j = X (14 + e) j) ∧ (∀ j : Int, 0 ≤ j → j < 500 → Y (15 + d) j = X (15 + e) j)
theorem zCsp_f {X Y Z : zX} {d e : Int} (h : zCsp X Y d e) (f : ∀ x : Int, 9 + d ≤ x → x ≤ 15 + d → Z x = Y x) : zCsp X Z d e := by
  unfold zCsp at h ⊢
  rw [f (9 + d) (by omega) (by omega), f (10 + d) (by omega) (by omega), f (11 + d) (by omega) (by omega), f (12 + d) (by omega) (by omega), f (13 + d) (by omega) (by omega), f (14 + d) (by omega) (by omega), f (15 + d) (by omega) (by omega)]
  exact h
theorem spd {Q : List zV → zX → Prop} {G : zG} {X : zX} {d e : Int} (hd : zBw G d) (he : zBw G e) (d0 : 0 ≤ d) (e0 : 0 ≤ e) (dj : d + 102 ≤ e ∨ e + 102 ≤ d) (q : ∀ Y : zX, (∀ x : Int, ¬(9 + d ≤ x ∧ x ≤ 15 + d) → Y x = X x) → zCsp X Y d e → Q [] Y) : Sp_copy [zR (9 + d), zR (9 + e)] G X Q := by
  refine Sp_copy_e0 ?_
  rw [zBw_r hd (b := 9) (j := 0) (r := 10) (by omega) (by omega) (by decide +kernel) (by decide +kernel) (by omega), zBw_r he (b := 9) (j := 0) (r := 10) (by omega) (by omega) (by decide +kernel) (by decide +kernel) (by omega), zBw_r hd (b := 9) (j := 1) (r := 11) (by omega) (by omega) (by decide +kernel) (by decide +kernel) (by omega), zBw_r he (b := 9) (j := 1) (r := 11) (by omega) (by omega) (by decide +kernel) (by decide +kernel) (by omega), zBw_r hd (b := 9) (j := 2) (r := 12) (by omega) (by omega) (by decide +kernel) (by decide +kernel) (by omega), zBw_r he (b := 9) (j := 2) (r := 12) (by omega) (by omega) (by decide +kernel) (by decide +kernel) (by omega), zBw_r hd (b := 9) (j := 3) (r := 13) (by omega) (by omega) (by decide +kernel) (by decide +kernel) (by omega), zBw_r he (b := 9) (j := 3) (r := 13) (by omega) (by omega) (by decide +kernel) (by decide +kernel) (by omega), zBw_r hd (b := 9) (j := 4) (r := 14) (by omega) (by omega) (by decide +kernel) (by decide +kernel) (by omega), zBw_r he (b := 9) (j := 4) (r := 14) (by omega) (by omega) (by decide +kernel) (by decide +kernel) (by omega), zBw_r hd (b := 9) (j := 5) (r := 15) (by omega) (by omega) (by decide +kernel) (by decide +kernel) (by omega), zBw_r he (b := 9) (j := 5) (r := 15) (by omega) (by omega) (by decide +kernel) (by decide +kernel) (by omega), zBw_k hd (b := 9) (c := 6) (by omega) (by omega) (by decide +kernel), zBw_k he (b := 9) (c := 6) (by omega) (by omega) (by decide +kernel), zBw_k hd (b := 10) (c := 51) (by omega) (by omega) (by decide +kernel), zBw_l hd (b := 10) (c := 160) (by omega) (by omega) (by decide +kernel), zBw_k he (b := 10) (c := 51) (by omega) (by omega) (by decide +kernel), zBw_l he (b := 10) (c := 160) (by omega) (by omega) (by decide +kernel), zBw_k hd (b := 11) (c := 50) (by omega) (by omega) (by decide +kernel), zBw_l hd (b := 11) (c := 20) (by omega) (by omega) (by decide +kernel), zBw_k he (b := 11) (c := 50) (by omega) (by omega) (by decide +kernel), zBw_l he (b := 11) (c := 20) (by omega) (by omega) (by decide +kernel), zBw_k hd (b := 12) (c := 50) (by omega) (by omega) (by decide +kernel), zBw_l hd (b := 12) (c := 20) (by omega) (by omega) (by decide +kernel), zBw_k he (b := 12) (c := 50) (by omega) (by omega) (by decide +kernel), zBw_l he (b := 12) (c := 20) (by omega) (by omega) (by decide +kernel), zBw_k hd (b := 13) (c := 50) (by omega) (by omega) (by decide +kernel), zBw_l hd (b := 13) (c := 8) (by omega) (by omega) (by decide +kernel), zBw_k he (b := 13) (c := 50) (by omega) (by omega) (by decide +kernel), zBw_l he (b := 13) (c := 8) (by omega) (by omega) (by decide +kernel), zBw_k hd (b := 14) (c := 50) (by omega) (by omega) (by decide +kernel), zBw_l hd (b := 14) (c := 8) (by omega) (by omega) (by decide +kernel), zBw_k he (b := 14) (c := 50) (by omega) (by omega) (by decide +kernel), zBw_l he (b := 14) (c := 8) (by omega) (by omega) (by decide +kernel), zBw_k hd (b := 15) (c := 51) (by omega) (by omega) (by decide +kernel), zBw_l hd (b := 15) (c := 500) (by omega) (by omega) (by decide +kernel), zBw_k he (b := 15) (c := 51) (by omega) (by omega) (by decide +kernel), zBw_l he (b := 15) (c := 500) (by omega) (by omega) (by decide +kernel)]
  refine ⟨by omega, by omega, by omega, by omega, by omega, by omega, by omega, by omega, by omega, by omega, by omega, by omega, by omega, by omega, by omega, by omega, by omega, by omega, by omega, by omega, by omega, fun X1 h1 => ⟨by omega, by omega, by omega, by omega, by omega, by omega, by omega, by omega, by omega, by omega, by omega, by omega, by omega, by omega, by omega, by omega, by omega, by omega, fun X2 h2 => ⟨by omega, by omega, by omega, by omega, by omega, by omega, by omega, by omega, by omega, by omega, by omega, by omega, by omega, by omega, by omega, by omega, by omega, by omega, fun X3 h3 X4 h4 => ?_⟩⟩⟩
  have z1 := zsa2 h1 (by omega) (by omega)
  have z2 := zsa2 h2 (by omega) (by omega)
  have z3 := zsa2 h3 (by omega) (by omega)
  have z4 := zst3 h4 (by omega) (by omega) (by omega) (by omega)
  refine q X4 (fun x hx => ?_) ⟨fun i i0 i1 => ?_, fun j j0 j1 => ?_, fun j j0 j1 => ?_, fun j j0 j1 => ?_, fun j j0 j1 => ?_, fun j j0 j1 => ?_, fun j j0 j1 => ?_⟩
  · rw [z4.1 x (by omega), z3.1 x (by omega) (by omega), z2.1 x (by omega) (by omega), z1.1 x (by omega) (by omega)]
  · have old : X3 (9 + e) = X (9 + e) := by rw [z3.1 _ (by omega) (by omega), z2.1 _ (by omega) (by omega), z1.1 _ (by omega) (by omega)]
    rcases (by omega : i = 6 ∨ i = 7 ∨ i = 8) with c | c | c
    · rw [c, z4.2.1, old]
    · rw [c, z4.2.2.1, old]
    · rw [c, z4.2.2.2.1, old]
  · rw [z4.1 _ (by omega), z3.1 _ (by omega) (by omega), z2.1 _ (by omega) (by omega)]
    exact z1.2.1 j j0 j1
  · rw [z4.1 _ (by omega), z3.1 _ (by omega) (by omega), z2.1 _ (by omega) (by omega)]
    exact z1.2.2 j j0 j1
  · rw [z4.1 _ (by omega), z3.1 _ (by omega) (by omega), z2.2.1 j j0 j1, z1.1 _ (by omega) (by omega)]
  · rw [z4.1 _ (by omega), z3.1 _ (by omega) (by omega), z2.2.2 j j0 j1, z1.1 _ (by omega) (by omega)]
  · rw [z4.1 _ (by omega), z3.2.1 j j0 j1, z2.1 _ (by omega) (by omega), z1.1 _ (by omega) (by omega)]
  · rw [z4.1 _ (by omega), z3.2.2 j j0 j1, z2.1 _ (by omega) (by omega), z1.1 _ (by omega) (by omega)]
/-- a house copied -/
def zCho (G G2 : zG) (X Y : zX) (d e q : Int) : Prop := zrx G2 (23 + 6 * q + d) 1 = zrx G (23 + 6 * q + e) 1 ∧ (∀ i : Int, 2 ≤ i → i ≤ 3 → Y (23 + 6 * q + d) i = X (23 + 6 * q + e) i) ∧ Y (23 + 6 * q + 2 + d) 1 = X (23 + 6 * q + 2 + e) 1 ∧ Y (23 + 6 * q + 4 + d) 1 = X (23 + 6 * q + 4 + e) 1 ∧ (∀ j : Int, 0 ≤ j → j ≤ 69 → Y (23 + 6 * q + 2 + 1 + d) j = X (23 + 6 * q + 2 + 1 + e) j) ∧ (∀ j : Int, 0 ≤ j → j ≤ 69 → Y (23 + 6 * q + 4 + 1 + d) j = X (23 + 6 * q + 4 + 1 + e) j)
theorem zCho_f {G G2 G3 : zG} {X Y Z : zX} {d e q : Int} (h : zCho G G2 X Y d e q) (g : zrx G3 (23 + 6 * q + d) 1 = zrx G2 (23 + 6 * q + d) 1) (f : ∀ x : Int, 23 + 6 * q + d ≤ x → x ≤ 28 + 6 * q + d → Z x = Y x) : zCho G G3 X Z d e q := by
  unfold zCho at h ⊢
  rw [g, f (23 + 6 * q + d) (by omega) (by omega), f (23 + 6 * q + 2 + d) (by omega) (by omega), f (23 + 6 * q + 4 + d) (by omega) (by omega), f (23 + 6 * q + 2 + 1 + d) (by omega) (by omega), f (23 + 6 * q + 4 + 1 + d) (by omega) (by omega)]
  exact h
/-- a page copied -/
def zCcm (G G2 : zG) (X Y : zX) (d e q : Int) : Prop := zrx G2 (53 + 5 * q + d) 3 = zrx G (53 + 5 * q + e) 3 ∧ (∀ i : Int, 4 ≤ i → i ≤ 8 → Y (53 + 5 * q + d) i = X (53 + 5 * q + e) i) ∧ Y (53 + 5 * q + 1 + d) 1 = X (53 + 5 * q + 1 + e) 1 ∧ (∀ j : Int, 0 ≤ j → j ≤ 69 → Y (53 + 5 * q + 1 + 1 + d) j = X (53 + 5 * q + 1 + 1 + e) j) ∧ (∀ j : Int, 0 ≤ j → j ≤ 23 → Y (53 + 5 * q + 3 + d) j = X (53 + 5 * q + 3 + e) j) ∧ (∀ j : Int, 0 ≤ j → j ≤ 79 → Y (53 + 5 * q + 4 + d) j = X (53 + 5 * q + 4 + e) j)
theorem zCcm_f {G G2 G3 : zG} {X Y Z : zX} {d e q : Int} (h : zCcm G G2 X Y d e q) (g : zrx G3 (53 + 5 * q + d) 3 = zrx G2 (53 + 5 * q + d) 3) (f : ∀ x : Int, 53 + 5 * q + d ≤ x → x ≤ 57 + 5 * q + d → Z x = Y x) : zCcm G G3 X Z d e q := by
  unfold zCcm at h ⊢
  rw [g, f (53 + 5 * q + d) (by omega) (by omega), f (53 + 5 * q + 1 + d) (by omega) (by omega), f (53 + 5 * q + 1 + 1 + d) (by omega) (by omega), f (53 + 5 * q + 3 + d) (by omega) (by omega), f (53 + 5 * q + 4 + d) (by omega) (by omega)]
  exact h
/-- what the copying leaves -/
def zCfr (G G2 : zG) (X Y : zX) (d : Int) : Prop := (zsz G2 = zsz G ∧ ztt G2 = ztt G ∧ zkd G2 = zkd G ∧ zln G2 = zln G) ∧ (∀ a j : Int, a < 1 + d ∨ 103 + d ≤ a ∨ j < 0 → zrx G2 a j = zrx G a j) ∧ zBw G2 d ∧ (∀ x : Int, x < 1 + d ∨ 103 + d ≤ x ∨ (4 + d ≤ x ∧ x ≤ 6 + d) → Y x = X x)
def zCtp (X Y : zX) (d e : Int) : Prop := (∀ i : Int, 1 ≤ i → i ≤ 3 → Y (2 + d) i = X (2 + e) i) ∧ (∀ j : Int, 0 ≤ j → j ≤ 499 → Y (3 + d) j = X (3 + e) j)
theorem zCtp_f {X Y Z : zX} {d e : Int} (h : zCtp X Y d e) (f : ∀ x : Int, 2 + d ≤ x → x ≤ 3 + d → Z x = Y x) : zCtp X Z d e := by
  unfold zCtp at h ⊢
  rw [f (2 + d) (by omega) (by omega), f (3 + d) (by omega) (by omega)]
  exact h
theorem zCfr_e {G G2 : zG} {X Y : zX} {d e : Int} (h : zCfr G G2 X Y d) (dj : d + 102 ≤ e ∨ e + 102 ≤ d) (he : zBw G e) : zBw G2 e := zBw_same he h.1.2.2.1 h.1.2.2.2 (fun b j b0 b1 => h.2.1 _ _ (by omega))
def zCll (G G2 : zG) (X Y : zX) (d e h p : Int) : Prop := zCfr G G2 X Y d ∧ zCtp X Y d e ∧ zCsp X Y d e ∧ (∀ q : Int, 0 ≤ q → q < h → zCho G G2 X Y d e q) ∧ (∀ q : Int, 0 ≤ q → q < p → zCcm G G2 X Y d e q)
theorem to24 {LC LS : Nat} {Q : List zV → zG → zX → Prop} {G : zG} {X : zX} {d e : Int} (he : zBw G e) (d0 : 0 ≤ d) (e0 : 0 ≤ e) (dj : d + 102 ≤ e ∨ e + 102 ≤ d) (hC : zsz G ≤ LC) (hS : ztt G ≤ LS) (q : ∀ (G2 : zG) (Y : zX), zCll G G2 X Y d e 5 0 → To_copy_W LC LS Q 56 [zR (1 + d), zR (1 + e), zI 0] [] G2 Y) : ∀ (m : Nat) (h : Int) (G2 : zG) (Y : zX), h + m = 5 → 0 ≤ h → zCll G G2 X Y d e h 0 → To_copy_W LC LS Q 24 [zR (1 + d), zR (1 + e), zI h] [] G2 Y := by
  have facts : ∀ (G2 : zG) (f : Int), zBw G2 f → zkd G2 (1 + f) = 1 ∧ zrx G2 (1 + f) 1 = 7 + f ∧ zkd G2 (7 + f) = 55 ∧ zln G2 (7 + f) = 5 := fun G2 f hb => ⟨zBw_k hb (b := 1) (c := 1) (by omega) (by omega) (by decide +kernel), zBw_r hb (b := 1) (j := 1) (r := 7) (by omega) (by omega) (by decide +kernel) (by decide +kernel) (by omega), zBw_k hb (b := 7) (c := 55) (by omega) (by omega) (by decide +kernel), zBw_l hb (b := 7) (c := 5) (by omega) (by omega) (by decide +kernel)⟩
  intro m
  induction m with
  | zero =>
    intro h G2 Y em h0 c
    obtain rfl : h = 5 := by omega
    have fd := facts G2 d c.1.2.2.1
    refine To_copy_e24 ?_
    rw [fd.2.1, fd.1, fd.2.2.1, fd.2.2.2]
    exact ⟨rfl, by omega, by omega, fun z => absurd z (by omega), fun _ => q G2 Y c⟩
  | succ m ih =>
    intro h G2 Y em h0 c
    have he2 := zCfr_e c.1 dj he
    have hd2 := c.1.2.2.1
    have fd := facts G2 d hd2
    have fe := facts G2 e he2
    have ho := zHo_at h0 (by omega : h < 5)
    have rd := zBw_r hd2 (b := 7) (j := h) (by omega) (by omega) (zd0_of (c := 55) (by decide +kernel) rfl) ho.1 (by omega)
    have re := zBw_r he2 (b := 7) (j := h) (by omega) (by omega) (zd0_of (c := 55) (by decide +kernel) rfl) ho.1 (by omega)
    refine To_copy_e24 ?_
    rw [fd.2.1, fe.2.1, fd.1, fe.1, fd.2.2.1, fe.2.2.1, fd.2.2.2, fe.2.2.2, rd, re, zBw_k hd2 (b := 23 + 6 * h) (by omega) (by omega) ho.2, zw_id (by omega) (by omega)]
    refine ⟨rfl, by omega, by omega, fun _ => ⟨rfl, h0, by omega, rfl, rfl, by omega, rfl, zsz G2, ztt G2, Nat.le_refl _, Nat.le_refl _, by rw [c.1.1.1]; exact hC, by rw [c.1.1.2.1]; exact hS, hod hd2 he2 d0 e0 dj ho.2 (by omega) (by omega) (fun Z f z2 y1 y2 r1 r2 => ⟨rfl, rfl, rfl, ih (h + 1) _ Z (by omega) (by omega) ?_⟩)⟩, fun z => absurd z (by omega)⟩
    obtain ⟨⟨c1, c2, c3, c4⟩, ct, cs, ch, cp⟩ := c
    have oe : ∀ x : Int, 1 + e ≤ x → x < 103 + e → Y x = X x := fun x x0 x1 => c4 x (by omega)
    refine ⟨⟨c1, fun a j ha => ?_, zBw_ref c3 (fun b b0 b1 eb => ?_), fun x hx => ?_⟩, zCtp_f ct (fun x x0 x1 => f x (by omega)), zCsp_f cs (fun x x0 x1 => f x (by omega)), fun p p0 p1 => ?_, fun p p0 p1 => absurd p1 (by omega)⟩
    · rw [zrs_n (by omega)]
      exact c2 a j ha
    · have : b = 23 + 6 * h := by omega
      rw [this]
      unfold zd0
      rw [ho.2]
      rfl
    · rw [f x (by omega)]
      exact c4 x hx
    · by_cases cq : p = h
      · rw [cq]
        refine ⟨?_, fun i i0 i1 => ?_, ?_, ?_, fun j j0 j1 => ?_, fun j j0 j1 => ?_⟩
        · rw [zrs_s]
          exact c2 _ _ (by omega)
        · rw [z2 i i0 i1, oe _ (by omega) (by omega)]
        · rw [y1, oe _ (by omega) (by omega)]
        · rw [y2, oe _ (by omega) (by omega)]
        · rw [r1 j j0 j1, oe _ (by omega) (by omega)]
        · rw [r2 j j0 j1, oe _ (by omega) (by omega)]
      · exact zCho_f (ch p p0 (by omega)) (zrs_n (Or.inl (by omega))) (fun x x0 x1 => f x (by omega))
theorem to56 {LC LS : Nat} {Q : List zV → zG → zX → Prop} {G : zG} {X : zX} {d e : Int} (he : zBw G e) (d0 : 0 ≤ d) (e0 : 0 ≤ e) (dj : d + 102 ≤ e ∨ e + 102 ≤ d) (hC : zsz G ≤ LC) (hS : ztt G ≤ LS) (q : ∀ (G2 : zG) (Y Z : zX), zCll G G2 X Y d e 5 10 → (∀ x : Int, x ≠ 16 + d → x ≠ 17 + d → Z x = Y x) → (∀ j : Int, 0 ≤ j → j < 16 → Z (16 + d) j = X (16 + e) j) → (∀ j : Int, 0 ≤ j → j < 16 → Z (17 + d) j = X (17 + e) j) → To_copy_W LC LS Q 124 [zR (1 + d), zR (1 + e), zI 0] [] G2 Z) : ∀ (m : Nat) (p : Int) (G2 : zG) (Y : zX), p + m = 10 → 0 ≤ p → zCll G G2 X Y d e 5 p → To_copy_W LC LS Q 56 [zR (1 + d), zR (1 + e), zI p] [] G2 Y := by
  have facts : ∀ (G2 : zG) (f : Int), zBw G2 f → zkd G2 (1 + f) = 1 ∧ zrx G2 (1 + f) 2 = 8 + f ∧ zkd G2 (8 + f) = 56 ∧ zln G2 (8 + f) = 10 := fun G2 f hb => ⟨zBw_k hb (b := 1) (c := 1) (by omega) (by omega) (by decide +kernel), zBw_r hb (b := 1) (j := 2) (r := 8) (by omega) (by omega) (by decide +kernel) (by decide +kernel) (by omega), zBw_k hb (b := 8) (c := 56) (by omega) (by omega) (by decide +kernel), zBw_l hb (b := 8) (c := 10) (by omega) (by omega) (by decide +kernel)⟩
  have fac2 : ∀ (G2 : zG) (f : Int), zBw G2 f → zrx G2 (1 + f) 4 = 16 + f ∧ zkd G2 (16 + f) = 50 ∧ zln G2 (16 + f) = 16 ∧ zrx G2 (1 + f) 5 = 17 + f ∧ zkd G2 (17 + f) = 50 ∧ zln G2 (17 + f) = 16 := fun G2 f hb => ⟨zBw_r hb (b := 1) (j := 4) (r := 16) (by omega) (by omega) (by decide +kernel) (by decide +kernel) (by omega), zBw_k hb (b := 16) (c := 50) (by omega) (by omega) (by decide +kernel), zBw_l hb (b := 16) (c := 16) (by omega) (by omega) (by decide +kernel), zBw_r hb (b := 1) (j := 5) (r := 17) (by omega) (by omega) (by decide +kernel) (by decide +kernel) (by omega), zBw_k hb (b := 17) (c := 50) (by omega) (by omega) (by decide +kernel), zBw_l hb (b := 17) (c := 16) (by omega) (by omega) (by decide +kernel)⟩
  intro m
  induction m with
  | zero =>
    intro p G2 Y em p0 c
    obtain rfl : p = 10 := by omega
    have fd := facts G2 d c.1.2.2.1
    have gd := fac2 G2 d c.1.2.2.1
    have ge := fac2 G2 e (zCfr_e c.1 dj he)
    have fe := facts G2 e (zCfr_e c.1 dj he)
    refine To_copy_e56 ?_
    rw [fd.2.1, fd.1, fd.2.2.1, fd.2.2.2]
    refine ⟨rfl, by omega, by omega, fun z => absurd z (by omega), fun _ => ?_⟩
    rw [fe.1, gd.1, ge.1, gd.2.1, ge.2.1, gd.2.2.1, ge.2.2.1, gd.2.2.2.1, ge.2.2.2.1, gd.2.2.2.2.1, ge.2.2.2.2.1, gd.2.2.2.2.2, ge.2.2.2.2.2]
    refine ⟨rfl, by omega, by omega, by omega, by omega, by omega, by omega, by omega, by omega, by omega, by omega, by omega, by omega, by omega, by omega, by omega, by omega, by omega, by omega, by omega, fun Z hz => ?_⟩
    have z1 := zsa2 hz (by omega) (by omega)
    have oe : ∀ x : Int, 1 + e ≤ x → x < 103 + e → Y x = X x := fun x x0 x1 => c.1.2.2.2 x (by omega)
    exact q G2 Y Z c z1.1 (fun j j0 j1 => by rw [z1.2.1 j j0 j1, oe _ (by omega) (by omega)]) (fun j j0 j1 => by rw [z1.2.2 j j0 j1, oe _ (by omega) (by omega)])
  | succ m ih =>
    intro p G2 Y em p0 c
    have he2 := zCfr_e c.1 dj he
    have hd2 := c.1.2.2.1
    have fd := facts G2 d hd2
    have fe := facts G2 e he2
    have ho := zCa_at p0 (by omega : p < 10)
    have rd := zBw_r hd2 (b := 8) (j := p) (by omega) (by omega) (zd0_of (c := 56) (by decide +kernel) rfl) ho.1 (by omega)
    have re := zBw_r he2 (b := 8) (j := p) (by omega) (by omega) (zd0_of (c := 56) (by decide +kernel) rfl) ho.1 (by omega)
    refine To_copy_e56 ?_
    rw [fd.2.1, fd.1, fd.2.2.1, fd.2.2.2]
    refine ⟨rfl, by omega, by omega, fun _ => ?_, fun z => absurd z (by omega)⟩
    rw [fe.2.1, fe.1, fe.2.2.1, fe.2.2.2, rd, re, zBw_k hd2 (b := 53 + 5 * p) (by omega) (by omega) ho.2, zw_id (by omega) (by omega)]
    refine ⟨rfl, p0, by omega, rfl, rfl, by omega, rfl, zsz G2, ztt G2, Nat.le_refl _, Nat.le_refl _, by rw [c.1.1.1]; exact hC, by rw [c.1.1.2.1]; exact hS, cad hd2 he2 d0 e0 dj ho.2 (by omega) (by omega) (fun Z f z2 y1 r1 r2 r3 => ⟨rfl, rfl, rfl, ih (p + 1) _ Z (by omega) (by omega) ?_⟩)⟩
    obtain ⟨⟨c1, c2, c3, c4⟩, ct, cs, ch, cp⟩ := c
    have oe : ∀ x : Int, 1 + e ≤ x → x < 103 + e → Y x = X x := fun x x0 x1 => c4 x (by omega)
    refine ⟨⟨c1, fun a j ha => ?_, zBw_ref c3 (fun b b0 b1 eb => ?_), fun x hx => ?_⟩, zCtp_f ct (fun x x0 x1 => f x (by omega)), zCsp_f cs (fun x x0 x1 => f x (by omega)), fun r r0 r5 => zCho_f (ch r r0 r5) (zrs_n (Or.inl (by omega))) (fun x x0 x1 => f x (by omega)), fun r r0 r5 => ?_⟩
    · rw [zrs_n (by omega)]
      exact c2 a j ha
    · have : b = 53 + 5 * p := by omega
      rw [this]
      unfold zd0
      rw [ho.2]
      rfl
    · rw [f x (by omega)]
      exact c4 x hx
    · by_cases cq : r = p
      · rw [cq]
        refine ⟨?_, fun i i0 i1 => ?_, ?_, fun j j0 j1 => ?_, fun j j0 j1 => ?_, fun j j0 j1 => ?_⟩
        · rw [zrs_s]
          exact c2 _ _ (by omega)
        · rw [z2 i i0 i1, oe _ (by omega) (by omega)]
        · rw [y1, oe _ (by omega) (by omega)]
        · rw [r1 j j0 j1, oe _ (by omega) (by omega)]
        · rw [r2 j j0 j1, oe _ (by omega) (by omega)]
        · rw [r3 j j0 j1, oe _ (by omega) (by omega)]
      · exact zCcm_f (cp r r0 (by omega)) (zrs_n (Or.inl (by omega))) (fun x x0 x1 => f x (by omega))
