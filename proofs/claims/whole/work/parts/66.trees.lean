/-! ===== all BOXES read by the reference; what a text without a FAULT is ===== -/
theorem zPgl_d {L : Int → Int} {n : Int} {B : zB} (h : zqf B.1 = 1) : ∀ k : Nat, zPgl L n k B = B
  | 0 => rfl
  | k + 1 => if_neg (fun z => z.2 h)
theorem reads_M {Q : List zV → zX → Prop} {G : zG} {Z : zX} {L I R : Int → Int} {n : Int} (hG : SH G) (n0 : 0 ≤ n) (n5 : n ≤ 500) (tp : zTpm Z L n) (h3 : Z 139 3 = 0) (h9 : Z 139 9 = 0) (h10 : Z 139 10 = 0) (h11 : Z 139 11 = 0) (h7 : Z 140 7 = 0) (h8 : Z 140 8 = -1)
    (q : ∀ (Y : zX) (r : Int), zFm Z Y → Y 140 7 = zqf (zXp L n 0 (zPg0 L n I R).1) → Y 140 8 = zqq (zXp L n 0 (zPg0 L n I R).1) → ((r = 1 ∧ zqf (zXp L n 0 (zPg0 L n I R).1) = 0 ∧ Y 139 10 = (zPg0 L n I R).2.2.1 ∧ (∀ k j : Int, 0 ≤ k → k < (zPg0 L n I R).2.2.1 → 0 ≤ j → j < 5 → Y 143 (1 + 5 * k + j) = (zPg0 L n I R).2.2.2.2 (5 * k + j))) ∨ (r = 0 ∧ zqf (zXp L n 0 (zPg0 L n I R).1) ≠ 0)) → Q [zI r] Y) : M_reads [zR 139] G Z Q := by
  obtain ⟨E, eE⟩ : ∃ E : zB, zPg0 L n I R = E := ⟨_, rfl⟩
  rw [eE] at q
  have f47 : ∀ Y : zX, zFm Z Y → Y 140 7 = zqf (zXp L n 0 E.1) → Y 140 8 = zqq (zXp L n 0 E.1) → (zqf (zXp L n 0 E.1) = 0 → Y 139 10 = E.2.2.1 ∧ (∀ k j : Int, 0 ≤ k → k < E.2.2.1 → 0 ≤ j → j < 5 → Y 143 (1 + 5 * k + j) = E.2.2.2.2 (5 * k + j))) → M_reads_W Q 47 [zR 139] [] G Y := fun Y f y7 y8 yr => by
    refine M_reads_f47 hG ?_
    rw [y7]
    exact ⟨fun z => q Y 1 f y7 y8 (Or.inl ⟨rfl, z, yr z⟩), fun z => q Y 0 f y7 y8 (Or.inr ⟨rfl, z⟩)⟩
  have dead : ∀ Y : zX, zFm Z Y → zqf E.1 = 1 → zMd Y E.1 → M_reads_W Q 8 [zR 139] [] G Y := fun Y f f1 md => by
    have z := zXp_d (L := L) (n := n) (w := 0) f1
    have g := f47 Y f (by rw [z.1]; exact md.2.1) (by rw [z.2]; exact md.2.2) (fun y => absurd y (by rw [z.1]; omega))
    exact M_reads_f8 hG ⟨fun y => absurd y md.1, fun _ => M_reads_f29 hG ⟨fun y => absurd y md.1, fun _ => g⟩⟩
  have alive : ∀ (B : zB) (Y : zX), zFm Z Y → zMb L n Y B → E = B → ¬0 < B.2.1 → M_reads_W Q 8 [zR 139] [] G Y := fun B Y f mb eB nd => by
    obtain ⟨g1, g2, g3, g4, g5, g6, g7, g8, g9, g10, g11⟩ := mb
    have w9 := g2.2.2.2.2.2.1
    have tk := g2.2.2.1
    have tok := g4.2.2.2.2.2.1
    refine M_reads_f8 hG ⟨fun _ => ⟨fun z => absurd z (by rw [g7]; omega), fun _ => M_reads_f29 hG ⟨fun _ => ⟨fun t5 => ?_, fun t5 => ?_⟩, fun z => absurd w9 z⟩⟩, fun z => absurd w9 z⟩
    · have t0 : zqt B.1 = 0 := by
        unfold zTok at tok
        rcases tok with t | t | t | t | t | t | t | t
        · exact t
        · have := (tk.2.1 t).1; omega
        · have := tk.2.2.1 t; omega
        · have := (tk.2.2.2.1 (Or.inl t)).1; omega
        · have := (tk.2.2.2.1 (Or.inr (Or.inl t))).1; omega
        · have := (tk.2.2.2.1 (Or.inr (Or.inr (Or.inl t)))).1; omega
        · have := (tk.2.2.2.1 (Or.inr (Or.inr (Or.inr t)))).1; omega
        · have := (tk.2.2.2.2 t.1).1; omega
      have e : zXp L n 0 E.1 = zNx L n B.1 := by rw [eB]; exact if_pos t0
      refine f47 Y f (by rw [e]; exact g2.2.2.2.1) (by rw [e]; exact g2.2.2.2.2.1) (fun y => ?_)
      rw [e] at y
      have z := g11 y
      rw [eB]
      exact ⟨z.1, z.2.2.2⟩
    · have t0 : zqt B.1 ≠ 0 := fun t => t5 (tk.1 t)
      have e : zXp L n 0 E.1 = zSu B.1 := by rw [eB]; exact if_neg t0
      refine ends_M hG g2 g1 (fun U fu md => ⟨rfl, f47 U (zFm_t f (zFm_f fu)) (by rw [e, zSu_f]; exact md.2.1) (by rw [e]; exact md.2.2) (fun y => absurd y (by rw [e, zSu_f]; omega))⟩)
  have lpc : ∀ (k : Nat) (B : zB) (Y : zX), zFm Z Y → zMb L n Y B → n + 1 ≤ k + zqp B.1 → zPgl L n k B = E → M_aBox_W (fun v5 X6 => v5 = [] ∧ M_reads_W Q 8 [zR 139] [] G X6) 320 [zR 139, zT, zT] [] G Y := by
    intro k
    induction k with
    | zero =>
      intro B Y f mb fu eB
      have ok := mb.2.2.2.1
      have := ok.2.1
      have := ok.2.2.1
      omega
    | succ k ih =>
      intro B Y f mb fu eB
      have mb' := mb
      obtain ⟨g1, g2, g3, g4, g5, g6, g7, g8, g9, g10, g11⟩ := mb
      obtain ⟨s, d, c, I', R'⟩ := B
      have g1' : zqf s ≠ 1 := g1
      have g2' : zMs L n Y s := g2
      have g3' : zEar s := g3
      have g4' : zOk n s := g4
      have g6' : 0 ≤ d := g6
      have g7' : Y 139 11 = d := g7
      have g8' : d ≤ zqp s := g8
      have g10' : Y 139 10 ≤ zqp s := g10
      have fu' : n + 1 ≤ ((k + 1 : Nat) : Int) + zqp s := fu
      refine M_aBox_f320 hG ?_
      rw [g7']
      by_cases dp : 0 < d
      · refine ⟨fun _ => isSign_Ma hG (Or.inl ⟨g1', g2', g3'⟩) g4' (by omega) (fun v1 mv ev t41 => ⟨1, rfl, fun z => absurd z (by omega), fun _ => ?_⟩) (fun nt => ⟨0, rfl, fun _ => ⟨rfl, ?_⟩, fun z => absurd rfl z⟩), fun z => absurd z (by omega)⟩
        · have e2 : zPgl L n (k + 1) (s, d, c, I', R') = zPgl L n k (zNx L n s, d - 1, c, I', R') := (if_pos ⟨dp, g1'⟩).trans (if_pos t41)
          rw [e2] at eB
          have nk := zNx_k (L := L) g4'
          have pa := g4'.2.2.2.1 (by omega)
          have pn : zqp s ≤ 500 := by have := g4'.2.1; have := g4'.2.2.1; omega
          refine adv_M hG mv (by have := g4'.1; have := g4'.2.1; omega) g4'.2.2.1 (fun U fU mU => ⟨rfl, ?_⟩)
          have u11 : U 139 11 = d := (fU.2.2 11 (by omega)).trans g7'
          rw [u11]
          refine ⟨zw_id (by omega) (by omega), ih (zNx L n s, d - 1, c, I', R') _ (zFm_w (zFm_t f (zFm_f fU)) (by omega)) ⟨v1, zMs_c mU (fun k k0 k1 => by rw [zrd_n (by omega)]) (zrd_r (by omega)), zEar_n g4' (by omega) (fun g => Int.le_of_lt (ev g)), nk.1, g5, by show 0 ≤ d - 1; omega, zrd_s _ _ _ _, by show d - 1 ≤ zqp (zNx L n s); omega, by rw [zrd_n (by omega), fU.2.2 10 (by omega)]; exact g9, by rw [zrd_n (by omega), fU.2.2 10 (by omega)]; show Y 139 10 ≤ zqp (zNx L n s); omega, fun f0 => ?_⟩ (by show n + 1 ≤ (k : Int) + zqp (zNx L n s); omega) eB⟩
          have r := g11 f0
          refine ⟨by rw [zrd_n (by omega), fU.2.2 10 (by omega)]; exact r.1, by show d - 1 ≤ 6; have r2 : d ≤ 6 := r.2.1; omega, fun j j0 j1 => ?_, fun k j k0 k1 j0 j1 => ?_⟩
          · rw [zrd_r (by omega), fU.1 142 (by omega) (by omega)]
            have j1' : j < d - 1 := j1
            exact r.2.2.1 j j0 (by show j < d; omega)
          · rw [zrd_r (by omega), fU.1 143 (by omega) (by omega)]
            exact r.2.2.2 k j k0 k1 j0 j1
        · have e2 : zPgl L n (k + 1) (s, d, c, I', R') = zPgl L n k (zBx L n (s, d, c, I', R')) := (if_pos ⟨dp, g1'⟩).trans (if_neg (nt g1'))
          rw [e2] at eB
          have bk := zBx_k (L := L) (I := I') (R := R') (d := d) (c := c) g4' g5.1 g5.2 g6'
          refine M_reads_f8 hG ⟨fun _ => ⟨fun _ => aBox_M hG n5 mb' (fun U fU mU => ih (zBx L n (s, d, c, I', R')) U (zFm_t f fU) mU ?_ eB) (fun U fU f1 md => ⟨rfl, dead U (zFm_t f fU) ?_ ?_⟩), fun z => absurd z (by omega)⟩, fun z => absurd g2'.2.2.2.2.2.1 z⟩
          · rcases bk.2.2.2.2 with b5 | b5
            · exact absurd b5 mU.1
            · have t0 : zqt s ≠ 0 := fun t => mU.1 (by
                have e3 : zBx L n (s, d, c, I', R') = (zSu s, d, c, I', R') := if_neg (fun z => by have z1 : 256 ≤ zqt s := z.1; omega)
                rw [e3]
                exact zSu_f)
              have pa := g4'.2.2.2.1 t0
              omega
          · rw [← eB, zPgl_d f1]
            exact f1
          · rw [← eB, zPgl_d f1]
            exact md
      · have e2 : zPgl L n (k + 1) (s, d, c, I', R') = (s, d, c, I', R') := if_neg (fun z => dp z.1)
        rw [e2] at eB
        exact ⟨fun z => absurd z dp, fun _ => ⟨rfl, alive (s, d, c, I', R') Y f mb' eB.symm dp⟩⟩
  -- the first BOX
  refine M_reads_f0 hG (advance_M hG tp h3 (Int.le_refl _) n0 (fun Y f y3 y4 yt => ⟨rfl, ?_⟩))
  have s0 : zMs L n Y (zNx L n (0, 0, 0, 0, 0, -1)) := ⟨y3, y4, yt, by rw [f.1 140 (by omega)]; exact h7, by rw [f.1 140 (by omega)]; exact h8, (f.2 9 (by omega)).trans h9, zTpm_c tp f⟩
  have ok : zOk n (zNx L n (0, 0, 0, 0, 0, -1)) := (zNx_ok (Int.le_refl _) n0 (by show (0 : Int) ≤ 0; omega) (by show (0 : Int) ≤ 4; omega) (by show (-1 : Int) ≤ -1; omega) (by show (-1 : Int) ≤ n; omega)).1
  have y10 : Y 139 10 = 0 := (f.2 10 (by omega)).trans h10
  have y11 : Y 139 11 = 0 := (f.2 11 (by omega)).trans h11
  have mb : zMb L n Y (zNx L n (0, 0, 0, 0, 0, -1), 0, 0, I, R) := ⟨by show (0 : Int) ≠ 1; omega, s0, fun z => absurd rfl z, ok, ⟨Int.le_refl _, by show (0 : Int) ≤ 14; omega⟩, Int.le_refl _, y11, ok.1, by rw [y10]; omega, by rw [y10]; exact ok.1, fun _ => ⟨y10, by show (0 : Int) ≤ 6; omega, fun j j0 j1 => by have j2 : j < 0 := j1; omega, fun k j k0 k1 => by have k2 : k < 0 := k1; omega⟩⟩
  have bk := zBx_k (L := L) (I := I) (R := R) (d := 0) (c := 0) ok (Int.le_refl _) (by omega) (Int.le_refl _)
  have eB : zPgl L n n.toNat (zBx L n (zNx L n (0, 0, 0, 0, 0, -1), 0, 0, I, R)) = E := eE
  refine aBox_M hG n5 mb (fun U fU mU => lpc n.toNat _ U (zFm_t (zFm_f (zTf_a f)) fU) mU ?_ eB) (fun U fU f1 md => ⟨rfl, dead U (zFm_t (zFm_f (zTf_a f)) fU) ?_ ?_⟩)
  · rcases bk.2.2.2.2 with b5 | b5
    · exact absurd b5 mU.1
    · have t0 : zqt (zNx L n (0, 0, 0, 0, 0, -1)) ≠ 0 := fun t => mU.1 (by
        have e3 : zBx L n (zNx L n (0, 0, 0, 0, 0, -1), 0, 0, I, R) = (zSu (zNx L n (0, 0, 0, 0, 0, -1)), 0, 0, I, R) := if_neg (fun z => by have z1 : 256 ≤ zqt (zNx L n (0, 0, 0, 0, 0, -1)) := z.1; omega)
        rw [e3]
        exact zSu_f)
      have pa := ok.2.2.2.1 t0
      have p0 := ok.1
      omega
  · rw [← eB, zPgl_d f1]
    exact f1
  · rw [← eB, zPgl_d f1]
    exact md
/-- BOXES as a text without a FAULT has them -/
def zTree (B : zB) : Prop := (∀ k : Int, 0 ≤ k → k < B.2.2.1 → (0 ≤ B.2.2.2.2 (5 * k) ∧ B.2.2.2.2 (5 * k) ≤ 7) ∧ (0 ≤ B.2.2.2.2 (5 * k + 1) ∧ B.2.2.2.2 (5 * k + 1) ≤ 9) ∧ (-1 ≤ B.2.2.2.2 (5 * k + 2) ∧ B.2.2.2.2 (5 * k + 2) < k) ∧ (-1 ≤ B.2.2.2.2 (5 * k + 3) ∧ B.2.2.2.2 (5 * k + 3) ≤ 3) ∧ (0 ≤ B.2.2.2.2 (5 * k + 4) ∧ B.2.2.2.2 (5 * k + 4) ≤ 99)) ∧ (∀ m : Int, 0 ≤ m → m < B.2.1 → 0 ≤ B.2.2.2.1 m ∧ B.2.2.2.1 m < B.2.2.1) ∧ (∀ m l : Int, 0 ≤ m → m ≤ l → l < B.2.1 → B.2.2.2.1 m ≤ B.2.2.2.1 l) ∧ (∀ m i : Int, 0 ≤ m → m < B.2.1 → B.2.2.2.1 m < i → i < B.2.2.1 → B.2.2.2.1 m ≤ B.2.2.2.2 (5 * i + 2)) ∧ (∀ i j : Int, 0 ≤ i → i < j → j < B.2.2.1 → B.2.2.2.2 (5 * j + 2) < i → B.2.2.2.2 (5 * j + 2) ≤ B.2.2.2.2 (5 * i + 2))
theorem zTree_s {L I R : Int → Int} {n d c : Int} {s : zPst} (ok : zOk n s) (c0 : 0 ≤ c) (d0 : 0 ≤ d) (st : 0 < d ∨ c = 0) (h : zTree (s, d, c, I, R)) (f0 : zqf (zBx L n (s, d, c, I, R)).1 = 0) : zTree (zBx L n (s, d, c, I, R)) := by
  have y := zBx_0 ok f0
  have z := zSx5_0 ok y.2.1
  obtain ⟨h1, h2, h3, h4, h5⟩ := h
  have h1' : ∀ k : Int, 0 ≤ k → k < c → (0 ≤ R (5 * k) ∧ R (5 * k) ≤ 7) ∧ (0 ≤ R (5 * k + 1) ∧ R (5 * k + 1) ≤ 9) ∧ (-1 ≤ R (5 * k + 2) ∧ R (5 * k + 2) < k) ∧ (-1 ≤ R (5 * k + 3) ∧ R (5 * k + 3) ≤ 3) ∧ (0 ≤ R (5 * k + 4) ∧ R (5 * k + 4) ≤ 99) := h1
  have h2' : ∀ m : Int, 0 ≤ m → m < d → 0 ≤ I m ∧ I m < c := h2
  have h3' : ∀ m l : Int, 0 ≤ m → m ≤ l → l < d → I m ≤ I l := h3
  have h4' : ∀ m i : Int, 0 ≤ m → m < d → I m < i → i < c → I m ≤ R (5 * i + 2) := h4
  have h5' : ∀ i j : Int, 0 ≤ i → i < j → j < c → R (5 * j + 2) < i → R (5 * j + 2) ≤ R (5 * i + 2) := h5
  have old : ∀ k j : Int, k < c → 0 ≤ j → j < 5 → zBrw L n c d I R s (5 * k + j) = R (5 * k + j) := fun k j k1 j0 j1 => by
    unfold zBrw
    rw [if_pos z.1, zup_n (by omega), zup_n (by omega), zup_n (by omega), zup_n (by omega), zup_n (by omega)]
  have old0 : ∀ k : Int, k < c → zBrw L n c d I R s (5 * k) = R (5 * k) := fun k k1 => by
    have w := old k 0 k1 (by omega) (by omega)
    rw [show 5 * k + 0 = 5 * k by omega] at w
    exact w
  have new0 : zBrw L n c d I R s (5 * c) = zqt s - 256 := by
    unfold zBrw
    rw [if_pos z.1, zup_n (by omega), zup_n (by omega), zup_n (by omega), zup_n (by omega), zup_s]
  have new1 : zBrw L n c d I R s (5 * c + 1) = (zH1 L n (zSx2 L n c d s)).1 := by
    unfold zBrw
    rw [if_pos z.1, zup_n (by omega), zup_n (by omega), zup_s]
  have new2 : zBrw L n c d I R s (5 * c + 2) = (if d = 0 then -1 else I (d - 1)) := by
    unfold zBrw
    rw [if_pos z.1, zup_n (by omega), zup_n (by omega), zup_n (by omega), zup_s]
  have new3 : zBrw L n c d I R s (5 * c + 3) = (zH2 L n (zSx3 L n c d s)).1 := by
    unfold zBrw
    rw [if_pos z.1, zup_n (by omega), zup_s]
  have new4 : zBrw L n c d I R s (5 * c + 4) = (zH3 L n (zSx4 L n c d s)).1 := by
    unfold zBrw
    rw [if_pos z.1, zup_s]
  have up2 : -1 ≤ zBrw L n c d I R s (5 * c + 2) ∧ zBrw L n c d I R s (5 * c + 2) < c ∧ (∀ m : Int, 0 ≤ m → m < d → I m ≤ zBrw L n c d I R s (5 * c + 2)) := by
    rw [new2]
    by_cases dz : d = 0
    · rw [if_pos dz]
      exact ⟨by omega, by omega, fun m m0 m1 => by omega⟩
    · rw [if_neg dz]
      have w := h2' (d - 1) (by omega) (by omega)
      exact ⟨by omega, w.2, fun m m0 m1 => h3' m (d - 1) m0 (by omega) (by omega)⟩
  unfold zTree
  rw [y.2.2.1, y.2.2.2.1]
  have a1 : ∀ k : Int, 0 ≤ k → k < c + 1 → (0 ≤ zBrw L n c d I R s (5 * k) ∧ zBrw L n c d I R s (5 * k) ≤ 7) ∧ (0 ≤ zBrw L n c d I R s (5 * k + 1) ∧ zBrw L n c d I R s (5 * k + 1) ≤ 9) ∧ (-1 ≤ zBrw L n c d I R s (5 * k + 2) ∧ zBrw L n c d I R s (5 * k + 2) < k) ∧ (-1 ≤ zBrw L n c d I R s (5 * k + 3) ∧ zBrw L n c d I R s (5 * k + 3) ≤ 3) ∧ (0 ≤ zBrw L n c d I R s (5 * k + 4) ∧ zBrw L n c d I R s (5 * k + 4) ≤ 99) := fun k k0 k1 => by
    by_cases ck : k = c
    · rw [ck, new0, new1, new3, new4]
      exact ⟨⟨by omega, by omega⟩, z.2.1, ⟨up2.1, up2.2.1⟩, z.2.2.1, z.2.2.2⟩
    · rw [old0 k (by omega), old k 1 (by omega) (by omega) (by omega), old k 2 (by omega) (by omega) (by omega), old k 3 (by omega) (by omega) (by omega), old k 4 (by omega) (by omega) (by omega)]
      exact h1' k k0 (by omega)
  have a5 : ∀ i j : Int, 0 ≤ i → i < j → j < c + 1 → zBrw L n c d I R s (5 * j + 2) < i → zBrw L n c d I R s (5 * j + 2) ≤ zBrw L n c d I R s (5 * i + 2) := fun i j i0 ij j1 lt => by
    rw [old i 2 (by omega) (by omega) (by omega)]
    by_cases cj : j = c
    · rw [cj, new2] at lt ⊢
      by_cases dz : d = 0
      · rw [if_pos dz]
        exact (h1' i i0 (by omega)).2.2.1.1
      · rw [if_neg dz] at lt ⊢
        exact h4' (d - 1) i (by omega) (by omega) lt (by omega)
    · rw [old j 2 (by omega) (by omega) (by omega)] at lt ⊢
      exact h5' i j i0 ij (by omega) lt
  have a4 : ∀ m i : Int, 0 ≤ m → m < d → I m < i → i < c + 1 → I m ≤ zBrw L n c d I R s (5 * i + 2) := fun m i m0 m1 lt i1 => by
    by_cases ci : i = c
    · rw [ci]
      exact up2.2.2 m m0 m1
    · rw [old i 2 (by omega) (by omega) (by omega)]
      exact h4' m i m0 m1 lt (by omega)
  rcases y.2.2.2.2 with ⟨_, yd, yi⟩ | ⟨_, yd, yi⟩
  · rw [yd, yi]
    refine ⟨a1, fun m m0 m1 => ?_, fun m l m0 ml l1 => ?_, fun m i m0 m1 lt i1 => ?_, a5⟩
    · by_cases md : m = d
      · rw [md, zup_s]
        omega
      · rw [zup_n md]
        have w := h2' m m0 (by omega)
        omega
    · by_cases ld : l = d
      · rw [ld, zup_s]
        by_cases md : m = d
        · rw [md, zup_s]
          exact Int.le_refl _
        · rw [zup_n md]
          exact Int.le_of_lt (h2' m m0 (by omega)).2
      · rw [zup_n ld, zup_n (by omega)]
        exact h3' m l m0 ml (by omega)
    · by_cases md : m = d
      · rw [md, zup_s] at lt
        omega
      · rw [zup_n md] at lt ⊢
        exact a4 m i m0 (by omega) lt i1
  · rw [yd, yi]
    refine ⟨a1, fun m m0 m1 => ?_, h3', a4, a5⟩
    have w := h2' m m0 m1
    omega
theorem zTree_l {L : Int → Int} {n : Int} : ∀ (k : Nat) (B : zB), zOk n B.1 → 0 ≤ B.2.2.1 → B.2.2.1 ≤ 14 → 0 ≤ B.2.1 → (zqf B.1 = 0 → zTree B) → zqf (zPgl L n k B).1 = 0 → zTree (zPgl L n k B) := by
  intro k
  induction k with
  | zero => exact fun B _ _ _ _ t f0 => t f0
  | succ k ih =>
    intro B ok c0 c1 d0 t f0
    obtain ⟨s, d, c, I, R⟩ := B
    have ok' : zOk n s := ok
    have c0' : 0 ≤ c := c0
    have c1' : c ≤ 14 := c1
    have d0' : 0 ≤ d := d0
    by_cases go : 0 < d ∧ zqf s ≠ 1
    · by_cases t41 : zqt s = 41
      · have e2 : zPgl L n (k + 1) (s, d, c, I, R) = zPgl L n k (zNx L n s, d - 1, c, I, R) := (if_pos go).trans (if_pos t41)
        rw [e2] at f0 ⊢
        have dp := go.1
        refine ih (zNx L n s, d - 1, c, I, R) (zNx_k ok').1 c0 c1 (by show 0 ≤ d - 1; omega) (fun g => ?_) f0
        obtain ⟨h1, h2, h3, h4, h5⟩ := t g
        refine ⟨h1, fun m m0 m1 => h2 m m0 ?_, fun m l m0 ml l1 => h3 m l m0 ml ?_, fun m i m0 m1 lt i1 => h4 m i m0 ?_ lt i1, h5⟩
        · have m2 : m < d - 1 := m1
          show m < d
          omega
        · have l2 : l < d - 1 := l1
          show l < d
          omega
        · have m2 : m < d - 1 := m1
          show m < d
          omega
      · have e2 : zPgl L n (k + 1) (s, d, c, I, R) = zPgl L n k (zBx L n (s, d, c, I, R)) := (if_pos go).trans (if_neg t41)
        rw [e2] at f0 ⊢
        have bk := zBx_k (L := L) (I := I) (R := R) (d := d) (c := c) ok' c0' c1' d0'
        refine ih (zBx L n (s, d, c, I, R)) bk.1 bk.2.1 bk.2.2.1 (by have := bk.2.2.2.1.1; omega) (fun g => ?_) f0
        have y := zBx_0 ok' g
        have z := zSx5_0 ok' y.2.1
        exact zTree_s ok' c0' d0' (Or.inl go.1) (t z.1.2.2) g
    · have e2 : zPgl L n (k + 1) (s, d, c, I, R) = (s, d, c, I, R) := if_neg go
      rw [e2] at f0 ⊢
      exact t f0
/-- what a PAGE's text without a FAULT is -/
theorem zPg0_t {L I R : Int → Int} {n : Int} (n0 : 0 ≤ n) (f0 : zqf (zXp L n 0 (zPg0 L n I R).1) = 0) : zTree (zPg0 L n I R) ∧ 0 ≤ (zPg0 L n I R).2.2.1 ∧ (zPg0 L n I R).2.2.1 ≤ 14 := by
  have ok : zOk n (zNx L n (0, 0, 0, 0, 0, -1)) := (zNx_ok (Int.le_refl _) n0 (by show (0 : Int) ≤ 0; omega) (by show (0 : Int) ≤ 4; omega) (by show (-1 : Int) ≤ -1; omega) (by show (-1 : Int) ≤ n; omega)).1
  have bk := zBx_k (L := L) (I := I) (R := R) (d := 0) (c := 0) ok (Int.le_refl _) (by omega) (Int.le_refl _)
  have g0 : zqf (zPg0 L n I R).1 = 0 := by
    unfold zXp at f0
    by_cases t : zqt (zPg0 L n I R).1 = 0
    · rw [if_pos t] at f0
      exact f0
    · rw [if_neg t, zSu_f] at f0
      omega
  have t0 : zTree (zNx L n (0, 0, 0, 0, 0, -1), 0, 0, I, R) := ⟨fun k k0 k1 => by have k2 : k < 0 := k1; omega, fun m m0 m1 => by have m2 : m < 0 := m1; omega, fun m l m0 ml l1 => by have l2 : l < 0 := l1; omega, fun m i m0 m1 => by have m2 : m < 0 := m1; omega, fun i j i0 ij j1 => by have j2 : j < 0 := j1; omega⟩
  have cl : ∀ (k : Nat) (B : zB), zOk n B.1 → 0 ≤ B.2.2.1 → B.2.2.1 ≤ 14 → 0 ≤ B.2.1 → 0 ≤ (zPgl L n k B).2.2.1 ∧ (zPgl L n k B).2.2.1 ≤ 14 := by
    intro k
    induction k with
    | zero => exact fun B _ a b _ => ⟨a, b⟩
    | succ k ih =>
      intro B ok2 a b d0
      obtain ⟨s, d, c, I', R'⟩ := B
      have ok' : zOk n s := ok2
      have a' : 0 ≤ c := a
      have b' : c ≤ 14 := b
      have d0' : 0 ≤ d := d0
      by_cases go : 0 < d ∧ zqf s ≠ 1
      · have dp := go.1
        by_cases t41 : zqt s = 41
        · have e2 : zPgl L n (k + 1) (s, d, c, I', R') = zPgl L n k (zNx L n s, d - 1, c, I', R') := (if_pos go).trans (if_pos t41)
          rw [e2]
          exact ih (zNx L n s, d - 1, c, I', R') (zNx_k ok').1 a b (by show 0 ≤ d - 1; omega)
        · have e2 : zPgl L n (k + 1) (s, d, c, I', R') = zPgl L n k (zBx L n (s, d, c, I', R')) := (if_pos go).trans (if_neg t41)
          rw [e2]
          have bk := zBx_k (L := L) (I := I') (R := R') (d := d) (c := c) ok' a' b' d0'
          exact ih _ bk.1 bk.2.1 bk.2.2.1 (by have := bk.2.2.2.1.1; omega)
      · have e2 : zPgl L n (k + 1) (s, d, c, I', R') = (s, d, c, I', R') := if_neg go
        rw [e2]
        exact ⟨a, b⟩
  refine ⟨zTree_l n.toNat _ bk.1 bk.2.1 bk.2.2.1 bk.2.2.2.1.1 (fun g => zTree_s ok (Int.le_refl _) (Int.le_refl _) (Or.inr rfl) t0 g) g0, cl n.toNat _ bk.1 bk.2.1 bk.2.2.1 bk.2.2.2.1.1⟩
