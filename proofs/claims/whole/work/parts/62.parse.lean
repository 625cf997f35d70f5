/-! ===== texts read: what both do ===== -/
/-- where, token, its number, its place, FAULT and its place -/
abbrev zPst : Type := Int × Int × Int × Int × Int × Int
abbrev zqa (s : zPst) : Int := s.1
abbrev zqt (s : zPst) : Int := s.2.1
abbrev zqv (s : zPst) : Int := s.2.2.1
abbrev zqp (s : zPst) : Int := s.2.2.2.1
abbrev zqf (s : zPst) : Int := s.2.2.2.2.1
abbrev zqq (s : zPst) : Int := s.2.2.2.2.2
noncomputable def zNx (L : Int → Int) (n : Int) (s : zPst) : zPst := ((zTkn L n (zqa s)).2.2.2, (zTkn L n (zqa s)).1, (zTkn L n (zqa s)).2.1, (zTkn L n (zqa s)).2.2.1, zqf s, zqq s)
def zSu (s : zPst) : zPst := if zqf s = 1 then s else (zqa s, zqt s, zqv s, zqp s, 1, zqp s)
def zWg (w : Int) (s : zPst) : zPst := if zqf s = 0 then (zqa s, zqt s, zqv s, zqp s, w, zqp s) else s
noncomputable def zRdn (L : Int → Int) (n most : Int) (s : zPst) : Int × zPst := if zqt s = 1 then (zqv s, zNx L n (if most < zqv s then zWg 2 s else s)) else (0, zSu s)
noncomputable def zXp (L : Int → Int) (n w : Int) (s : zPst) : zPst := if zqt s = w then zNx L n s else zSu s
/-- as it should be: within the bytes -/
def zOk (n : Int) (s : zPst) : Prop := 0 ≤ zqp s ∧ zqp s ≤ zqa s ∧ zqa s ≤ n ∧ (zqt s ≠ 0 → zqp s < zqa s) ∧ (zqt s = 0 → zqp s = n ∧ zqa s = n) ∧ zTok (zqt s) ∧ (zqt s = 1 → 0 ≤ zqv s ∧ zqv s ≤ 9999) ∧ 0 ≤ zqf s ∧ zqf s ≤ 4 ∧ -1 ≤ zqq s ∧ zqq s ≤ n
theorem zNx_ok {L : Int → Int} {n : Int} {s : zPst} (a0 : 0 ≤ zqa s) (a1 : zqa s ≤ n) (f0 : 0 ≤ zqf s) (f1 : zqf s ≤ 4) (q0 : -1 ≤ zqq s) (q1 : zqq s ≤ n) : zOk n (zNx L n s) ∧ zqa s ≤ zqp (zNx L n s) := by
  have z := zTkn_p (L := L) a0 a1
  exact ⟨⟨Int.le_trans a0 z.1, z.2.1, z.2.2.1, z.2.2.2.1, z.2.2.2.2.1, z.2.2.2.2.2.1, z.2.2.2.2.2.2, f0, f1, q0, q1⟩, z.1⟩
theorem zNx_k {L : Int → Int} {n : Int} {s : zPst} (h : zOk n s) : zOk n (zNx L n s) ∧ zqa s ≤ zqp (zNx L n s) := by
  obtain ⟨h1, h2, h3, h4, h5, h6, h7, h8, h9, h10, h11⟩ := h
  exact zNx_ok (by omega) h3 h8 h9 h10 h11
theorem zSu_f {s : zPst} : zqf (zSu s) = 1 := by
  unfold zSu
  by_cases c : zqf s = 1
  · rw [if_pos c]
    exact c
  · rw [if_neg c]
theorem zSu_k {n : Int} {s : zPst} (h : zOk n s) : zOk n (zSu s) := by
  obtain ⟨h1, h2, h3, h4, h5, h6, h7, h8, h9, h10, h11⟩ := h
  unfold zSu
  by_cases c : zqf s = 1
  · rw [if_pos c]
    exact ⟨h1, h2, h3, h4, h5, h6, h7, h8, h9, h10, h11⟩
  · rw [if_neg c]
    exact ⟨h1, h2, h3, h4, h5, h6, h7, by show (0 : Int) ≤ 1; omega, by show (1 : Int) ≤ 4; omega, by show -1 ≤ zqp s; omega, by show zqp s ≤ n; omega⟩
theorem zWg_k {n w : Int} {s : zPst} (h : zOk n s) (w0 : 0 ≤ w) (w1 : w ≤ 4) : zOk n (zWg w s) := by
  obtain ⟨h1, h2, h3, h4, h5, h6, h7, h8, h9, h10, h11⟩ := h
  unfold zWg
  by_cases c : zqf s = 0
  · rw [if_pos c]
    exact ⟨h1, h2, h3, h4, h5, h6, h7, w0, w1, by show -1 ≤ zqp s; omega, by show zqp s ≤ n; omega⟩
  · rw [if_neg c]
    exact ⟨h1, h2, h3, h4, h5, h6, h7, h8, h9, h10, h11⟩
theorem zWg_t {w : Int} {s : zPst} : zqt (zWg w s) = zqt s ∧ zqp (zWg w s) = zqp s ∧ zqa (zWg w s) = zqa s ∧ zqv (zWg w s) = zqv s ∧ (zqf s = 0 → zqf (zWg w s) = w ∧ zqq (zWg w s) = zqp s) ∧ (zqf s ≠ 0 → zWg w s = s) := by
  unfold zWg
  by_cases c : zqf s = 0
  · rw [if_pos c]
    exact ⟨rfl, rfl, rfl, rfl, fun _ => ⟨rfl, rfl⟩, fun z => absurd c z⟩
  · rw [if_neg c]
    exact ⟨rfl, rfl, rfl, rfl, fun z => absurd z c, fun _ => rfl⟩
theorem zRdn_k {L : Int → Int} {n most : Int} {s : zPst} (h : zOk n s) : zOk n (zRdn L n most s).2 := by
  unfold zRdn
  by_cases c : zqt s = 1
  · rw [if_pos c]
    by_cases d : most < zqv s
    · rw [if_pos d]
      exact (zNx_k (zWg_k h (by omega) (by omega))).1
    · rw [if_neg d]
      exact (zNx_k h).1
  · rw [if_neg c]
    exact zSu_k h
theorem zXp_k {L : Int → Int} {n w : Int} {s : zPst} (h : zOk n s) : zOk n (zXp L n w s) := by
  unfold zXp
  by_cases c : zqt s = w
  · rw [if_pos c]
    exact (zNx_k h).1
  · rw [if_neg c]
    exact zSu_k h
/-! the head of a BOX -/
noncomputable def zH1 (L : Int → Int) (n : Int) (s : zPst) : Int × zPst := if zqt s = 1 then zRdn L n 9 s else (0, s)
noncomputable def zH2 (L : Int → Int) (n : Int) (s : zPst) : Int × zPst := if zqt s = 264 then zRdn L n 3 (zNx L n s) else (-1, s)
noncomputable def zH3 (L : Int → Int) (n : Int) (s : zPst) : Int × zPst := if zqt s = 265 then zRdn L n 99 (zNx L n s) else (0, s)
theorem zH1_k {L : Int → Int} {n : Int} {s : zPst} (h : zOk n s) : zOk n (zH1 L n s).2 := by
  unfold zH1
  by_cases c : zqt s = 1
  · rw [if_pos c]
    exact zRdn_k h
  · rw [if_neg c]
    exact h
theorem zH2_k {L : Int → Int} {n : Int} {s : zPst} (h : zOk n s) : zOk n (zH2 L n s).2 := by
  unfold zH2
  by_cases c : zqt s = 264
  · rw [if_pos c]
    exact zRdn_k (zNx_k h).1
  · rw [if_neg c]
    exact h
theorem zH3_k {L : Int → Int} {n : Int} {s : zPst} (h : zOk n s) : zOk n (zH3 L n s).2 := by
  unfold zH3
  by_cases c : zqt s = 265
  · rw [if_pos c]
    exact zRdn_k (zNx_k h).1
  · rw [if_neg c]
    exact h
def zB1 (c d : Int) (s : zPst) : zPst := if 14 ≤ c then zWg 3 s else if 6 ≤ d then zWg 4 s else s
theorem zB1_k {n c d : Int} {s : zPst} (h : zOk n s) : zOk n (zB1 c d s) := by
  unfold zB1
  by_cases e : 14 ≤ c
  · rw [if_pos e]
    exact zWg_k h (by omega) (by omega)
  · rw [if_neg e]
    by_cases g : 6 ≤ d
    · rw [if_pos g]
      exact zWg_k h (by omega) (by omega)
    · rw [if_neg g]
      exact h
noncomputable def zSx2 (L : Int → Int) (n c d : Int) (s : zPst) : zPst := zNx L n (zB1 c d s)
noncomputable def zSx3 (L : Int → Int) (n c d : Int) (s : zPst) : zPst := (zH1 L n (zSx2 L n c d s)).2
noncomputable def zSx4 (L : Int → Int) (n c d : Int) (s : zPst) : zPst := (zH2 L n (zSx3 L n c d s)).2
noncomputable def zSx5 (L : Int → Int) (n c d : Int) (s : zPst) : zPst := (zH3 L n (zSx4 L n c d s)).2
abbrev zNew (c d : Int) (s : zPst) : Prop := c < 14 ∧ d < 6 ∧ zqf s = 0
abbrev zB : Type := zPst × Int × Int × (Int → Int) × (Int → Int)
noncomputable def zBrw (L : Int → Int) (n c d : Int) (I R : Int → Int) (s : zPst) : Int → Int :=
  if zNew c d s then zup (zup (zup (zup (zup R (5 * c) (zqt s - 256)) (5 * c + 2) (if d = 0 then -1 else I (d - 1))) (5 * c + 1) (zH1 L n (zSx2 L n c d s)).1) (5 * c + 3) (zH2 L n (zSx3 L n c d s)).1) (5 * c + 4) (zH3 L n (zSx4 L n c d s)).1 else R
noncomputable def zBx (L : Int → Int) (n : Int) (B : zB) : zB :=
  if 256 ≤ zqt B.1 ∧ zqt B.1 < 264 then
    if zqt (zSx5 L n B.2.2.1 B.2.1 B.1) = 40 then (zNx L n (zSx5 L n B.2.2.1 B.2.1 B.1), B.2.1 + 1, (if zNew B.2.2.1 B.2.1 B.1 then B.2.2.1 + 1 else B.2.2.1), (if B.2.1 < 6 then zup B.2.2.2.1 B.2.1 (if zNew B.2.2.1 B.2.1 B.1 then B.2.2.1 else -1) else B.2.2.2.1), zBrw L n B.2.2.1 B.2.1 B.2.2.2.1 B.2.2.2.2 B.1)
    else (zXp L n 59 (zSx5 L n B.2.2.1 B.2.1 B.1), B.2.1, (if zNew B.2.2.1 B.2.1 B.1 then B.2.2.1 + 1 else B.2.2.1), B.2.2.2.1, zBrw L n B.2.2.1 B.2.1 B.2.2.2.1 B.2.2.2.2 B.1)
  else (zSu B.1, B.2.1, B.2.2.1, B.2.2.2.1, B.2.2.2.2)
noncomputable def zPgl (L : Int → Int) (n : Int) : Nat → zB → zB
  | 0, B => B
  | k + 1, B => if 0 < B.2.1 ∧ zqf B.1 ≠ 1 then (if zqt B.1 = 41 then zPgl L n k (zNx L n B.1, B.2.1 - 1, B.2.2.1, B.2.2.2.1, B.2.2.2.2) else zPgl L n k (zBx L n B)) else B
noncomputable def zPg0 (L : Int → Int) (n : Int) (I R : Int → Int) : zB := zPgl L n n.toNat (zBx L n (zNx L n (0, 0, 0, 0, 0, -1), 0, 0, I, R))
/-! the class's side -/
/-- the class's tape is at s -/
def zCr (G : zG) (L : Int → Int) (n : Int) (Y : zX) (s : zPst) : Prop := Y 2 7 = zqa s ∧ Y 2 8 = zqt s ∧ Y 2 9 = zqp s ∧ (zqt s = 1 → Y 2 10 = zqv s) ∧ Y 2 2 = zqf s ∧ Y 2 3 = zqq s ∧ Y 2 4 = n ∧ Y 2 1 = 0 ∧ Y 3 = L ∧ zKtx G Y
/-- all else is as it was -/
def zFrx (X Y : zX) : Prop := ∀ b : Int, b ≠ 2 → Y b = X b
theorem zFrx_r (X : zX) : zFrx X X := fun _ _ => rfl
theorem zFrx_t {X Y Z : zX} (h : zFrx X Y) (g : zFrx Y Z) : zFrx X Z := fun b hb => (g b hb).trans (h b hb)
theorem nx_D {Q : List zV → zX → Prop} {G : zG} {X : zX} {L : Int → Int} {n : Int} {s : zPst} (hG : SH G) (n5 : n ≤ 500) (h : zCr G L n X s) (a0 : 0 ≤ zqa s) (a1 : zqa s ≤ n) (q : ∀ Y : zX, zFrx X Y → zCr G L n Y (zNx L n s) → Q [] Y) : Ta_step [zR 2] G X Q := by
  obtain ⟨h1, h2, h3, h4, h5, h6, h7, h8, h9, h10⟩ := h
  refine step_D hG h10 h7 n5 h1 a0 a1 (fun Y f y7 y8 y9 y10 => q Y f.1 ?_)
  rw [h9] at y7 y8 y9 y10
  exact ⟨y7, y8, y9, y10, (f.2 2 (by omega) (by omega) (by omega) (by omega)).trans h5, (f.2 3 (by omega) (by omega) (by omega) (by omega)).trans h6, (f.2 4 (by omega) (by omega) (by omega) (by omega)).trans h7, (f.2 1 (by omega) (by omega) (by omega) (by omega)).trans h8, (f.1 3 (by omega)).trans h9, zKtx_c h10 (f.1 (-3) (by omega)) (f.1 (-4) (by omega))⟩
theorem zCr_f {G : zG} {L : Int → Int} {n w u : Int} {X : zX} {s : zPst} (h : zCr G L n X s) : zCr G L n (zst (zst X 2 2 w) 2 3 u) (zqa s, zqt s, zqv s, zqp s, w, u) := by
  obtain ⟨h1, h2, h3, h4, h5, h6, h7, h8, h9, h10⟩ := h
  refine ⟨?_, ?_, ?_, fun z => ?_, ?_, zrd_s _ _ _ _, ?_, ?_, ?_, zKtx_c h10 ?_ ?_⟩
  · rw [zrd_n (by omega), zrd_n (by omega)]; exact h1
  · rw [zrd_n (by omega), zrd_n (by omega)]; exact h2
  · rw [zrd_n (by omega), zrd_n (by omega)]; exact h3
  · rw [zrd_n (by omega), zrd_n (by omega)]; exact h4 z
  · rw [zrd_n (by omega), zrd_s]
  · rw [zrd_n (by omega), zrd_n (by omega)]; exact h7
  · rw [zrd_n (by omega), zrd_n (by omega)]; exact h8
  · rw [zrd_r (by omega), zrd_r (by omega)]; exact h9
  · rw [zrd_r (by omega), zrd_r (by omega)]
  · rw [zrd_r (by omega), zrd_r (by omega)]
theorem su_D {Q : List zV → zX → Prop} {G : zG} {X : zX} {L : Int → Int} {n : Int} {s : zPst} (hG : SH G) (h : zCr G L n X s) (q : ∀ Y : zX, zFrx X Y → zCr G L n Y (zSu s) → Q [] Y) : Ta_stuck [zR 2, zI (X 2 9)] G X Q := by
  refine Ta_stuck_f0 hG ?_
  rw [h.2.2.2.2.1, h.2.2.1]
  unfold zSu at q
  refine ⟨fun c => ?_, fun c => ?_⟩
  · rw [if_pos c] at q
    exact q X (zFrx_r X) h
  · rw [if_neg c] at q
    exact q _ (fun b hb => by rw [zrd_r hb, zrd_r hb]) (zCr_f h)
theorem wg_D {Q : List zV → zX → Prop} {G : zG} {X : zX} {L : Int → Int} {n w : Int} {s : zPst} (hG : SH G) (h : zCr G L n X s) (q : ∀ Y : zX, zFrx X Y → zCr G L n Y (zWg w s) → Q [] Y) : Ta_wrong [zR 2, zI w, zI (X 2 9)] G X Q := by
  refine Ta_wrong_f0 hG ?_
  rw [h.2.2.2.2.1, h.2.2.1]
  unfold zWg at q
  refine ⟨fun c => ?_, fun c => ?_⟩
  · rw [if_pos c] at q
    exact q _ (fun b hb => by rw [zrd_r hb, zrd_r hb]) (zCr_f h)
  · rw [if_neg c] at q
    exact q X (zFrx_r X) h
theorem rdn_D {Q : List zV → zX → Prop} {G : zG} {X : zX} {L : Int → Int} {n most : Int} {s : zPst} (hG : SH G) (n5 : n ≤ 500) (h : zCr G L n X s) (ok : zOk n s) (q : ∀ Y : zX, zFrx X Y → zCr G L n Y (zRdn L n most s).2 → Q [zI (zRdn L n most s).1] Y) : Ta_readNumber [zR 2, zI most] G X Q := by
  have h8 := h.2.1
  unfold zRdn at q
  refine Ta_readNumber_f0 hG ?_
  rw [h8]
  refine ⟨fun c => ?_, fun c => ?_⟩
  · rw [if_pos c] at q
    have h10 := h.2.2.2.1 c
    rw [h10]
    refine ⟨fun lt => wg_D hG h (fun Y f r => ⟨rfl, Ta_readNumber_f37 hG ?_⟩), fun ge => Ta_readNumber_f37 hG ?_⟩
    · rw [if_pos lt] at q
      have t := zWg_k ok (by omega : (0 : Int) ≤ 2) (by omega)
      exact nx_D hG n5 r (by have := t.1; have := t.2.1; omega) t.2.2.1 (fun Z f2 r2 => ⟨rfl, q Z (zFrx_t f f2) r2⟩)
    · rw [if_neg (by omega)] at q
      exact nx_D hG n5 h (by have := ok.1; have := ok.2.1; omega) ok.2.2.1 (fun Z f2 r2 => ⟨rfl, q Z f2 r2⟩)
  · rw [if_neg c] at q
    exact su_D hG h (fun Y f r => ⟨rfl, q Y f r⟩)
theorem xp_D {Q : List zV → zX → Prop} {G : zG} {X : zX} {L : Int → Int} {n w : Int} {s : zPst} (hG : SH G) (n5 : n ≤ 500) (h : zCr G L n X s) (ok : zOk n s) (q : ∀ Y : zX, zFrx X Y → zCr G L n Y (zXp L n w s) → Q [] Y) : Ta_expect [zR 2, zI w] G X Q := by
  have h8 := h.2.1
  unfold zXp at q
  refine Ta_expect_f0 hG ?_
  rw [h8]
  refine ⟨fun c => ?_, fun c => ?_⟩
  · rw [if_pos c] at q
    exact nx_D hG n5 h (by have := ok.1; have := ok.2.1; omega) ok.2.2.1 (fun Z f2 r2 => ⟨rfl, q Z f2 r2⟩)
  · rw [if_neg c] at q
    exact su_D hG h (fun Y f r => ⟨rfl, q Y f r⟩)
/-- the class reads a text's BOXES: the tape, how deep, how many, in which, the rows -/
def zCb (G : zG) (L : Int → Int) (n : Int) (X Y : zX) (B : zB) : Prop := zCr G L n Y B.1 ∧ Y 134 1 = B.2.2.1 ∧ (∀ j : Int, 0 ≤ j → j < 6 → Y 4 j = B.2.2.2.1 j) ∧ (∀ j : Int, 0 ≤ j → j < 70 → Y 135 j = B.2.2.2.2 j) ∧ (∀ b : Int, b ≠ 2 → b ≠ 4 → b ≠ 134 → b ≠ 135 → Y b = X b)
theorem head_D {Q : List zV → zX → Prop} {G : zG} {Y : zX} {L : Int → Int} {n b : Int} {s : zPst} (hG : SH G) (n5 : n ≤ 500) (h : zCr G L n Y s) (ok : zOk n s) (b0 : -1 ≤ b) (b1 : b < 14)
    (q : ∀ Z : zX, (∀ a : Int, a ≠ 2 → a ≠ 135 → Z a = Y a) → zCr G L n Z (zH3 L n (zH2 L n (zH1 L n s).2).2).2 → (b = -1 → Z 135 = Y 135) → (b ≠ -1 → Z 135 = zup (zup (zup (Y 135) (5 * b + 1) (zH1 L n s).1) (5 * b + 3) (zH2 L n (zH1 L n s).2).1) (5 * b + 4) (zH3 L n (zH2 L n (zH1 L n s).2).2).1) → Q [] Z) : Ta_readHead [zR 2, zR 134, zI b] G Y Q := by
  have k134 : zk0 134 = 5 := by decide +kernel
  have f68 : ∀ (Z : zX), zFrx Y Z → zCr G L n Z (zH3 L n (zH2 L n (zH1 L n s).2).2).2 → Ta_readHead_W Q 68 [zT, zR 134, zI b, zI (zH1 L n s).1, zI (zH2 L n (zH1 L n s).2).1, zI (zH3 L n (zH2 L n (zH1 L n s).2).2).1] [] G Z := fun Z f r => by
    refine Ta_readHead_f68 hG ⟨fun e => q Z (fun a a2 _ => f a a2) r (fun _ => f 135 (by omega)) (fun z => absurd e z), fun e => ?_⟩
    refine Pg_tell_f0 hG k134 ⟨zw_id (by omega) (by omega), zw_id (by omega) (by omega), by omega, by omega, rfl, Pg_tell_f0 hG k134 ⟨zw_id (by omega) (by omega), zw_id (by omega) (by omega), by omega, by omega, rfl, Pg_tell_f0 hG k134 ⟨zw_id (by omega) (by omega), zw_id (by omega) (by omega), by omega, by omega, rfl, ?_⟩⟩⟩
    rw [show (1 : Int) + 134 = 135 by omega, show b * 5 + 1 = 5 * b + 1 by omega, show b * 5 + 3 = 5 * b + 3 by omega, show b * 5 + 4 = 5 * b + 4 by omega]
    have r135 : zst (zst (zst Z 135 (5 * b + 1) (zH1 L n s).1) 135 (5 * b + 3) (zH2 L n (zH1 L n s).2).1) 135 (5 * b + 4) (zH3 L n (zH2 L n (zH1 L n s).2).2).1 135 = zup (zup (zup (Y 135) (5 * b + 1) (zH1 L n s).1) (5 * b + 3) (zH2 L n (zH1 L n s).2).1) (5 * b + 4) (zH3 L n (zH2 L n (zH1 L n s).2).2).1 := by
      rw [zst_a, zst_a, zst_a, f 135 (by omega)]
    refine q _ (fun a a2 a5 => by rw [zrd_r a5, zrd_r a5, zrd_r a5]; exact f a a2) ?_ (fun z => absurd z e) (fun _ => r135)
    obtain ⟨h1, h2, h3, h4, h5, h6, h7, h8, h9, h10⟩ := r
    refine ⟨?_, ?_, ?_, fun z => ?_, ?_, ?_, ?_, ?_, ?_, zKtx_c h10 ?_ ?_⟩
    · rw [zrd_r (by omega), zrd_r (by omega), zrd_r (by omega)]; exact h1
    · rw [zrd_r (by omega), zrd_r (by omega), zrd_r (by omega)]; exact h2
    · rw [zrd_r (by omega), zrd_r (by omega), zrd_r (by omega)]; exact h3
    · rw [zrd_r (by omega), zrd_r (by omega), zrd_r (by omega)]; exact h4 z
    · rw [zrd_r (by omega), zrd_r (by omega), zrd_r (by omega)]; exact h5
    · rw [zrd_r (by omega), zrd_r (by omega), zrd_r (by omega)]; exact h6
    · rw [zrd_r (by omega), zrd_r (by omega), zrd_r (by omega)]; exact h7
    · rw [zrd_r (by omega), zrd_r (by omega), zrd_r (by omega)]; exact h8
    · rw [zrd_r (by omega), zrd_r (by omega), zrd_r (by omega)]; exact h9
    · rw [zrd_r (by omega), zrd_r (by omega), zrd_r (by omega)]
    · rw [zrd_r (by omega), zrd_r (by omega), zrd_r (by omega)]
  have o1 := zH1_k (L := L) ok
  have o2 := zH2_k (L := L) o1
  have f43 : ∀ (Z : zX), zFrx Y Z → zCr G L n Z (zH2 L n (zH1 L n s).2).2 → Ta_readHead_W Q 43 [zR 2, zR 134, zI b, zI (zH1 L n s).1, zI (zH2 L n (zH1 L n s).2).1, zT] [] G Z := fun Z f r => by
    have h8 := r.2.1
    unfold zH3 at f68
    refine Ta_readHead_f43 hG ?_
    rw [h8]
    refine ⟨fun c => ?_, fun c => ?_⟩
    · rw [if_pos c] at f68
      refine nx_D hG n5 r (by have := o2.1; have := o2.2.1; omega) o2.2.2.1 (fun Z2 f2 r2 => ⟨rfl, rdn_D hG n5 r2 (zNx_k o2).1 (fun Z3 f3 r3 => ⟨_, rfl, f68 Z3 (zFrx_t f (zFrx_t f2 f3)) r3⟩)⟩)
    · rw [if_neg c] at f68
      exact f68 Z f r
  have f18 : ∀ (Z : zX), zFrx Y Z → zCr G L n Z (zH1 L n s).2 → Ta_readHead_W Q 18 [zR 2, zR 134, zI b, zT, zT, zT] [zI (zH1 L n s).1] G Z := fun Z f r => by
    have h8 := r.2.1
    refine Ta_readHead_f18 hG ?_
    rw [h8]
    generalize (zH1 L n s).1 = v1 at f43 ⊢
    generalize (zH1 L n s).2 = s1 at f43 o1 r h8 ⊢
    unfold zH2 at f43
    refine ⟨fun c => ?_, fun c => ?_⟩
    · rw [if_pos c] at f43
      refine nx_D hG n5 r (by have := o1.1; have := o1.2.1; omega) o1.2.2.1 (fun Z2 f2 r2 => ⟨rfl, rdn_D hG n5 r2 (zNx_k o1).1 (fun Z3 f3 r3 => ⟨_, rfl, f43 Z3 (zFrx_t f (zFrx_t f2 f3)) r3⟩)⟩)
    · rw [if_neg c] at f43
      exact f43 Z f r
  have h8 := h.2.1
  unfold zH1 at f18
  refine Ta_readHead_f0 hG ?_
  rw [h8]
  refine ⟨fun c => ?_, fun c => ?_⟩
  · rw [if_pos c] at f18
    exact rdn_D hG n5 h ok (fun Z f r => ⟨_, rfl, f18 Z f r⟩)
  · rw [if_neg c] at f18
    exact f18 Y (zFrx_r Y) h
