/-! ===== more simple operations ===== -/
theorem zr_s1 {X : zX} {a j v b k : Int} (h : b ≠ a ∨ k ≠ j) : zst X a j v b k = X b k := zrd_n h
theorem op_keep {G : zG} {X : zX} {a b c : Int} (hG : SH G) (h : zRT X 1 0) (hc : c = 0 ∨ c = 1) : zOp D_keep M_keep [zI a, zI b, zI c] [zI a, zI b, zI c] G X := by
  have hp := q_pages h
  have hn := q_cases h
  have no : (a < 0 ∨ X 1 12 ≤ a ∨ b < 0 ∨ 99 < b ∨ 16 ≤ X 1 13) → M_keep [zR 139, zI a, zI b, zI c] G X (fun w X2 => w = [zI (-1)] ∧ zRT X2 1 0 ∧ zKp X X2) := fun n =>
    M_keep_f0 hG ⟨fun _ => ⟨rfl, h, zKp_r X⟩, fun _ => q_isPage hG hp (fun _ _ => ⟨1, rfl, fun z => absurd z (by omega), fun _ => q_isIn hG (fun _ _ => absurd n (by omega)) (fun _ => ⟨0, rfl, fun _ => ⟨rfl, h, zKp_r X⟩, fun z => absurd rfl z⟩)⟩)
      (fun _ => ⟨0, rfl, fun _ => ⟨rfl, h, zKp_r X⟩, fun z => absurd rfl z⟩)⟩
  refine D_keep_f0 hG (q_dPage hG (fun n1 n2 => ⟨1, rfl, fun z => absurd z (by omega), fun _ => q_dDay hG (fun n3 n4 => ⟨1, rfl, fun z => absurd z (by omega), fun _ => ⟨fun n5 => ?_, fun _ => no (by omega)⟩⟩)
      (fun _ => ⟨0, rfl, fun _ => no (by omega), fun z => absurd rfl z⟩)⟩) (fun _ => ⟨0, rfl, fun _ => no (by omega), fun z => absurd rfl z⟩))
  have r1 : ∀ v : Int, zst X 16 (X 1 13) v 1 13 = X 1 13 := fun v => zrd_n (by omega)
  have r2 : ∀ v w : Int, zst (zst X 16 (X 1 13) v) 17 (X 1 13) w 1 13 = X 1 13 := fun v w => (zrd_n (by omega)).trans (r1 v)
  rw [r1, r2]
  refine ⟨by omega, n5, by omega, n5, by omega, n5, hc, fun X9 e9 => ?_⟩
  have r3 : X9 1 13 = X 1 13 := by rw [e9]; exact (zrd_n (by omega)).trans (r2 _ _)
  rw [zrd_s, r3]
  refine ⟨zw_id (by omega) (by omega), zw_id (by omega) (by omega), ?_⟩
  have q1 : zst X9 1 13 (X 1 13 + 1) 1 12 = X 1 12 := by rw [zrd_n (by omega), e9, zrd_n (by omega), zrd_n (by omega), zrd_n (by omega)]
  have q2 : zst X9 1 13 (X 1 13 + 1) 140 1 = X 140 1 := by rw [zrd_n (by omega), e9, zrd_n (by omega), zrd_n (by omega), zrd_n (by omega)]
  have q3 : zst X9 1 13 (X 1 13 + 1) 140 2 = X 1 13 := by rw [zrd_n (by omega), e9, zrd_n (by omega), zrd_n (by omega), zrd_n (by omega), hn.1]
  refine M_keep_f0 hG ⟨fun z => absurd z (by omega), fun _ => q_isPage hG (by rw [q1, q2]; exact hp) (fun _ _ => ⟨1, rfl, fun z => absurd z (by omega), fun _ => q_isIn hG (fun _ _ => ⟨1, rfl, fun z => absurd z (by omega), fun _ => ?_⟩) (fun z => absurd z (by omega))⟩) (fun z => absurd z (by omega))⟩
  rw [q3]
  have s1 : ∀ v w : Int, zst (zst (zst X9 1 13 (X 1 13 + 1)) 140 (20 + 3 * X 1 13) v) 140 (20 + 3 * X 1 13 + 1) w 140 2 = X 1 13 := fun v w => by rw [zrd_n (by omega), zrd_n (by omega), q3]
  have fin : M_keep_W (fun w X2 => w = [zI (X 1 13 + 1 - 1)] ∧ zRT X2 1 0 ∧ zKp X X2) 79 [zR 139, zT, zT, zT, zT] [zI c, zI (20 + 3 * X 1 13 + 2), zR 140] G (zst (zst (zst X9 1 13 (X 1 13 + 1)) 140 (20 + 3 * X 1 13) a) 140 (20 + 3 * X 1 13 + 1) b) := by
    refine M_keep_f79 hG rfl ?_
    have s2 : zst (zst (zst (zst X9 1 13 (X 1 13 + 1)) 140 (20 + 3 * X 1 13) a) 140 (20 + 3 * X 1 13 + 1) b) 140 (20 + 3 * X 1 13 + 2) c 140 2 = X 1 13 := (zrd_n (by omega)).trans (s1 a b)
    rw [s2, zrd_s]
    refine ⟨by omega, show 20 + 3 * X 1 13 + 2 < 22080 by omega, zw_id (by omega) (by omega), zw_id (by omega) (by omega), rfl, ?_⟩
    have k1 := zP_cpg (j0 := X 1 13) (v := a) (u := a) h (by omega) (by omega) ⟨rfl, by omega, by omega⟩
    have k2 := zP_cdy (j0 := X 1 13) (v := b) (u := b) k1 (by omega) (by omega) ⟨rfl, by omega, by omega⟩
    have k3 := zP_cpr (j0 := X 1 13) (v := c) (u := c) k2 (by omega) (by omega) ⟨rfl, by omega, by omega⟩
    have k4 := zP_cnt (p0 := 2) (v := X 1 13 + 1) (u := X 1 13 + 1) k3 (by omega) (by omega) ⟨rfl, by omega, by omega, by omega, by omega⟩
    have m1 : (1 : Int) ≠ 140 := by omega
    have m2 : (16 : Int) ≠ 140 := by omega
    have m3 : (17 : Int) ≠ 140 := by omega
    have m4 : (18 : Int) ≠ 140 := by omega
    simp only [zrd_c m1, zrd_c m2, zrd_c m3, zrd_c m4] at k4
    rw [e9, show 20 + 3 * X 1 13 + 1 = 21 + 3 * X 1 13 by omega, show 20 + 3 * X 1 13 + 2 = 22 + 3 * X 1 13 by omega]
    exact ⟨k4, (by have hq1 := q_houses h; have hq2 := q_pages h; repeat' (first | (with_reducible exact zKp_r _) | (with_reducible refine zKp_v ?_ (by omega) (by omega) (by omega)) | (with_reducible refine zKp_w ?_ (by omega) (by omega) (by omega) (by omega))))⟩
  refine ⟨by rw [zw_id (x := 3 * X 1 13) (by omega) (by omega)]; exact zw_id (by omega) (by omega), by omega, by omega, zw_id (by omega) (by omega), by omega, by omega, zw_id (by omega) (by omega), fun e => ?_, fun e => ?_⟩
  · rw [e] at fin
    exact fin
  · have e2 : c = 1 := by omega
    rw [e2] at fin
    exact fin
theorem q_treeOf {Q : List zV → zX → Prop} {G : zG} {X : zX} {x : Int} (hG : SH G) (h0 : 0 ≤ x) (h1 : x < 10) (k : Q [zI (2712 + 210 * x)] X) : M_treeOf [zI x] G X Q :=
  M_treeOf_f0 hG (q_pageAt hG h0 h1 ⟨_, rfl, zw_id (by omega) (by omega), by rw [show 2670 + 210 * x + 42 = 2712 + 210 * x by omega]; exact k⟩)
theorem q_came {p : Int} (h0 : 0 ≤ p) (h1 : p < 10) : zk0 (54 + 5 * p) = 5 := by
  have z := (zCa_a (zCa_at h0 h1).2).1.2
  rw [show 53 + 5 * p + 1 = 54 + 5 * p by omega] at z
  exact z
theorem q_told {Q : List zV → zX → Prop} {G : zG} {X : zX} {a k f : Int} (hG : SH G) (ha : zk0 a = 5) (h0 : 0 ≤ k) (h1 : k < 14) (h2 : 0 ≤ f) (h3 : f < 5) (q : Q [zI (X (1 + a) (5 * k + f))] X) : Pg_told [zR a, zI k, zI f] G X Q :=
  Pg_told_f0 hG ha ⟨zw_id (by omega) (by omega), zw_id (by omega) (by omega), by omega, by omega, by rw [show k * 5 + f = 5 * k + f by omega]; exact q⟩
theorem q_ccnt {X : zX} (h : zRT X 1 0) {p : Int} (h0 : 0 ≤ p) (h1 : p < 10) : X 140 (2712 + 210 * p) = X (54 + 5 * p) 1 ∧ 0 ≤ X (54 + 5 * p) 1 ∧ X (54 + 5 * p) 1 ≤ 14 := by
  have z := zR_ccnt h p h0 h1
  rw [show (0 : Int) + 2712 + 210 * p = 2712 + 210 * p by omega, show (1 : Int) + 53 + 5 * p = 54 + 5 * p by omega] at z
  exact z
theorem q_crow {X : zX} (h : zRT X 1 0) {p j : Int} (h0 : 0 ≤ p) (h1 : p < 10) (h2 : 0 ≤ j) (h3 : j < 5 * X (54 + 5 * p) 1) : X 140 (2713 + 210 * p + j) = X (55 + 5 * p) j := by
  have hc := q_ccnt h h0 h1
  obtain ⟨b, c, hj, c0, c4⟩ : ∃ b c : Int, j = 5 * b + c ∧ 0 ≤ c ∧ c ≤ 4 := ⟨j / 5, j % 5, by omega, by omega, by omega⟩
  subst hj
  have z := zR_crow h p b h0 h1 (by omega) (by omega) (by rw [show (1 : Int) + 53 + 5 * p = 54 + 5 * p by omega]; omega)
  have cs : c = 0 ∨ c = 1 ∨ c = 2 ∨ c = 3 ∨ c = 4 := by omega
  rcases cs with rfl | rfl | rfl | rfl | rfl
  · have e := z.1.1
    rw [show 2713 + 210 * p + (5 * b + 0) = (0 : Int) + 2713 + 210 * p + 5 * b by omega, show 55 + 5 * p = (1 : Int) + 54 + 5 * p by omega, show 5 * b + 0 = 5 * b by omega]
    exact e
  · have e := z.2.1.1
    rw [show 2713 + 210 * p + (5 * b + 1) = (0 : Int) + 2714 + 210 * p + 5 * b by omega, show 55 + 5 * p = (1 : Int) + 54 + 5 * p by omega, show 5 * b + 1 = 5 * b + 1 by omega]
    exact e
  · have e := z.2.2.1.1
    rw [show 2713 + 210 * p + (5 * b + 2) = (0 : Int) + 2715 + 210 * p + 5 * b by omega, show 55 + 5 * p = (1 : Int) + 54 + 5 * p by omega, show 5 * b + 2 = 5 * b + 2 by omega]
    exact e
  · have e := z.2.2.2.1.1
    rw [show 2713 + 210 * p + (5 * b + 3) = (0 : Int) + 2716 + 210 * p + 5 * b by omega, show 55 + 5 * p = (1 : Int) + 54 + 5 * p by omega, show 5 * b + 3 = 5 * b + 3 by omega]
    exact e
  · have e := z.2.2.2.2.1
    rw [show 2713 + 210 * p + (5 * b + 4) = (0 : Int) + 2717 + 210 * p + 5 * b by omega, show 55 + 5 * p = (1 : Int) + 54 + 5 * p by omega, show 5 * b + 4 = 5 * b + 4 by omega]
    exact e
theorem op_box {G : zG} {X : zX} {a b c : Int} (hG : SH G) (h : zRT X 1 0) : zOp D_box M_box [zI a, zI b, zI c] [zI a, zI b, zI c] G X := by
  have hp := q_pages h
  have no : (a < 0 ∨ X 1 12 ≤ a ∨ c < 0 ∨ 4 < c ∨ b < 0 ∨ X (54 + 5 * a) 1 ≤ b) → M_box [zR 139, zI a, zI b, zI c] G X (fun w X2 => w = [zI (-2)] ∧ zRT X2 1 0 ∧ zKp X X2) := fun n =>
    M_box_f0 hG (q_isPage hG hp (fun n1 n2 => ⟨1, rfl, fun z => absurd z (by omega), fun _ => q_treeOf hG n1 (by omega) ⟨_, rfl, by omega, by omega, by
      have hc := q_ccnt h n1 (by omega)
      rw [hc.1]
      exact ⟨zw_id (by omega) (by omega), q_isIn hG (fun _ _ => ⟨1, rfl, fun z => absurd z (by omega), fun _ => q_isIn hG (fun _ _ => absurd n (by omega)) (fun _ => ⟨0, rfl, fun _ => ⟨rfl, h, zKp_r X⟩, fun z => absurd rfl z⟩)⟩)
        (fun _ => ⟨0, rfl, fun _ => ⟨rfl, h, zKp_r X⟩, fun z => absurd rfl z⟩)⟩⟩⟩) (fun _ => ⟨0, rfl, fun _ => ⟨rfl, h, zKp_r X⟩, fun z => absurd rfl z⟩))
  refine D_box_f0 hG (q_dPage hG (fun n1 n2 => ⟨1, rfl, fun z => absurd z (by omega), fun _ => ⟨fun _ => no (by omega), fun n3 => ⟨fun n4 => ⟨n1, by omega, fun _ => no (by omega), fun n5 => ⟨fun n6 => ?_, fun _ => no (by omega)⟩⟩, fun _ => no (by omega)⟩⟩⟩) (fun _ => ⟨0, rfl, fun _ => no (by omega), fun z => absurd rfl z⟩))
  have hc := q_ccnt h n1 (by omega)
  refine q_told hG (q_came n1 (by omega)) n5 (by omega) n3 n4 ⟨_, rfl, ?_⟩
  refine M_box_f0 hG (q_isPage hG hp (fun _ _ => ⟨1, rfl, fun z => absurd z (by omega), fun _ => q_treeOf hG n1 (by omega) ⟨_, rfl, by omega, by omega, ?_⟩⟩) (fun z => absurd z (by omega)))
  rw [hc.1]
  refine ⟨zw_id (by omega) (by omega), q_isIn hG (fun _ _ => ⟨1, rfl, fun z => absurd z (by omega), fun _ => q_isIn hG (fun _ _ => ⟨1, rfl, fun z => absurd z (by omega), fun _ => q_treeOf hG n1 (by omega) ⟨_, rfl, zw_id (by omega) (by omega), by rw [zw_id (x := 5 * b) (by omega) (by omega)]; exact zw_id (by omega) (by omega), zw_id (by omega) (by omega), by omega, by omega, ?_, h, zKp_r X⟩⟩) (fun z => absurd z (by omega))⟩) (fun z => absurd z (by omega))⟩
  have hr := q_crow h (p := a) (j := 5 * b + c) n1 (by omega) (by omega) (by omega)
  rw [show 2712 + 210 * a + 1 + 5 * b + c = 2713 + 210 * a + (5 * b + c) by omega, hr, show 1 + (54 + 5 * a) = 55 + 5 * a by omega]
theorem op_pattern {G : zG} {X : zX} {a b : Int} (hG : SH G) (h : zRT X 1 0) : zOp D_pattern M_pattern [zI a, zI b] [zI a, zI b] G X := by
  have hn : X 140 5007 = X 9 7 ∧ 0 ≤ X 9 7 ∧ X 9 7 ≤ 8 := zR_pcn h
  have no : (a < 1 ∨ 255 < a ∨ b < -99 ∨ 99 < b ∨ 8 ≤ X 9 7) → M_pattern [zR 139, zI a, zI b] G X (fun w X2 => w = [zI (-1)] ∧ zRT X2 1 0 ∧ zKp X X2) := fun n =>
    M_pattern_f0 hG ⟨fun _ => ⟨rfl, h, zKp_r X⟩, fun _ => q_isIn hG (fun _ _ => ⟨1, rfl, fun z => absurd z (by omega), fun _ => q_isIn hG (fun _ _ => absurd n (by omega)) (fun _ => ⟨0, rfl, fun _ => ⟨rfl, h, zKp_r X⟩, fun z => absurd rfl z⟩)⟩)
      (fun _ => ⟨0, rfl, fun _ => ⟨rfl, h, zKp_r X⟩, fun z => absurd rfl z⟩)⟩
  have n28 : (a < 1 ∨ 255 < a ∨ b < -99 ∨ 99 < b) → D_pattern_W (fun v X1 => M_pattern [zR 139, zI a, zI b] G X1 (fun w X2 => w = v ∧ zRT X2 1 0 ∧ zKp X X2)) 28 [zR 0, zI a, zI b, zT] [] G X := fun n =>
    D_pattern_f28 hG (D_pattern_f29 hG ⟨fun _ => no (by omega), fun z => absurd rfl z⟩)
  refine D_pattern_f0 hG ⟨fun _ => n28 (by omega), fun n1 => ⟨fun n2 => ⟨fun _ => n28 (by omega), fun n3 => ⟨fun _ => n28 (by omega), fun n4 => ?_⟩⟩, fun _ => n28 (by omega)⟩⟩
  refine D_pattern_f29 hG ⟨fun z => absurd z (by omega), fun _ => Sp_tellPattern_f0 hG ⟨fun n5 => ?_, fun _ => ⟨_, rfl, no (by omega)⟩⟩⟩
  have r1 : zst X 13 (X 9 7) a 9 7 = X 9 7 := zrd_n (by omega)
  have r2 : zst (zst X 13 (X 9 7) a) 14 (X 9 7) b 9 7 = X 9 7 := (zrd_n (by omega)).trans r1
  rw [r1, r2]
  refine ⟨by omega, n5, by omega, n5, zw_id (by omega) (by omega), fun X1 e1 => ?_⟩
  have r3 : X1 9 7 = X 9 7 + 1 := by rw [e1]; exact zrd_s _ _ _ _
  have q3 : X1 140 5007 = X 9 7 := by rw [e1, zrd_n (by omega), zrd_n (by omega), zrd_n (by omega), hn.1]
  rw [r3]
  refine ⟨zw_id (by omega) (by omega), _, rfl, ?_⟩
  refine M_pattern_f0 hG ⟨fun z => absurd z (by omega), fun _ => q_isIn hG (fun _ _ => ⟨1, rfl, fun z => absurd z (by omega), fun _ => q_isIn hG (fun _ _ => ⟨1, rfl, fun z => absurd z (by omega), fun _ => ?_⟩) (fun z => absurd z (by omega))⟩) (fun z => absurd z (by omega))⟩
  have t1 : zst X1 140 (4990 + 2 * X 9 7) a 140 5007 = X 9 7 := (zrd_n (by omega)).trans q3
  rw [q3, t1, zw_id (x := 2 * X 9 7) (by omega) (by omega)]
  refine ⟨zw_id (by omega) (by omega), by omega, by omega, zw_id (by omega) (by omega), zw_id (by omega) (by omega), by omega, by omega, fun X9 e9 => ?_⟩
  have t2 : X9 140 5007 = X 9 7 := by rw [e9]; exact (zrd_n (by omega)).trans t1
  rw [t2, zrd_s]
  refine ⟨zw_id (by omega) (by omega), zw_id (by omega) (by omega), rfl, ?_⟩
  have k1 := zP_pmn (j0 := X 9 7) (v := a) (u := a) h (by omega) (by omega) ⟨rfl, by omega, by omega⟩
  have k2 := zP_pwt (j0 := X 9 7) (v := b) (u := b) k1 (by omega) (by omega) ⟨rfl, by omega, by omega⟩
  have k3 := zP_pcn (v := X 9 7 + 1) (u := X 9 7 + 1) k2 ⟨rfl, by omega, by omega⟩
  have m1 : (13 : Int) ≠ 140 := by omega
  have m2 : (14 : Int) ≠ 140 := by omega
  have m3 : (9 : Int) ≠ 140 := by omega
  simp only [zrd_c m1, zrd_c m2, zrd_c m3] at k3
  rw [e9, e1, show 4990 + 2 * X 9 7 + 1 = 4991 + 2 * X 9 7 by omega]
  exact ⟨k3, (by have hq1 := q_houses h; have hq2 := q_pages h; repeat' (first | (with_reducible exact zKp_r _) | (with_reducible refine zKp_v ?_ (by omega) (by omega) (by omega)) | (with_reducible refine zKp_w ?_ (by omega) (by omega) (by omega) (by omega))))⟩
