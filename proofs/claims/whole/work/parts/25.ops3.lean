/-! ===== goes, change, feed ===== -/
theorem z_least {P : Nat → Prop} {n : Nat} (h : ∃ k, k < n ∧ P k) : ∃ k, k < n ∧ P k ∧ ∀ i, i < k → ¬P i := by
  obtain ⟨k, hk, hp⟩ := h
  induction k using Nat.strongRecOn with
  | _ k ih =>
    by_cases hx : ∃ i, i < k ∧ P i
    · obtain ⟨i, hi, hp2⟩ := hx
      exact ih i hi (by omega) hp2
    · exact ⟨k, hk, hp, fun i hi hp2 => hx ⟨i, hi, hp2⟩⟩
theorem op_goes {G : zG} {X : zX} {a b : Int} (hG : SH G) (h : zRT X 1 0) : zOp D_goes M_goes [zI a, zI b] [zI a, zI b] G X := by
  have hA : ∀ x : Int, 0 ≤ x → x < 10 → X 140 (4770 + x) = X 21 x + 1 ∧ -1 ≤ X 21 x ∧ X 21 x ≤ 9 := fun x h0 h1 => by
    have z := zR_rel h x h0 h1
    rw [show (0 : Int) + 4770 + x = 4770 + x by omega] at z
    exact z
  have no : ¬(0 ≤ a ∧ a ≤ 9) → M_goes [zR 139, zI a, zI b] G X (fun w X2 => w = [zI (-1)] ∧ zRT X2 1 0 ∧ zKp X X2) := fun n =>
    M_goes_f0 hG (q_isAddress hG (fun a0 a9 => absurd ⟨a0, a9⟩ n) (fun _ => ⟨0, rfl, fun _ => ⟨rfl, h, zKp_r X⟩, fun z => absurd rfl z⟩))
  refine D_goes_f0 hG (q_isMade hG (fun a0 a9 => ⟨1, rfl, fun z => absurd z (by omega), fun _ => ?_⟩) (fun c => ⟨0, rfl, fun _ => no (by omega), fun z => absurd rfl z⟩))
  have fin : ∀ v : Int, zRT (zst X 139 47 v) 1 0 ∧ zKp X (zst X 139 47 v) := fun v => ⟨zWk_RT (zWk_w (zWk_r X) (by omega)) h, zWk_Kp (zWk_w (zWk_r X) (by omega))⟩
  by_cases hx : ∃ k, k < 10 ∧ X 21 (zorb (X 21) a k) = -1
  · obtain ⟨k, hk, he, hm⟩ := z_least hx
    have hr : ∀ i, i ≤ k → 0 ≤ zorb (X 21) a i ∧ zorb (X 21) a i < 10 := by
      intro i
      induction i with
      | zero => exact fun _ => ⟨a0, by show a < 10; omega⟩
      | succ i ih =>
        intro hi
        have z := ih (by omega)
        have y := hA _ z.1 z.2
        have n := hm i (by omega)
        show 0 ≤ X 21 (zorb (X 21) a i) ∧ X 21 (zorb (X 21) a i) < 10
        omega
    have hk2 := hr k (by omega)
    refine goes_D hG k hk hr hm he ?_ ?_ k 0 (by omega)
    · intro hb
      refine M_goes_f0 hG (q_isAddress hG (fun _ _ => ⟨1, rfl, fun z => absurd z (by omega), fun _ => M_endOf_f0 hG ?_⟩) (fun c => absurd c (by omega)))
      refine goes_M hG hA k hk hr hm he ?_ k 0 (by omega)
      exact ⟨_, rfl, fun z => absurd z (by omega), fun _ => ⟨fun _ => ⟨rfl, fin _⟩, fun z => absurd hb z⟩⟩
    · intro hb
      refine M_goes_f0 hG (q_isAddress hG (fun _ _ => ⟨1, rfl, fun z => absurd z (by omega), fun _ => M_endOf_f0 hG ?_⟩) (fun c => absurd c (by omega)))
      refine goes_M hG hA k hk hr hm he ?_ k 0 (by omega)
      exact ⟨_, rfl, fun z => absurd z (by omega), fun _ => ⟨fun z => absurd z hb, fun _ => ⟨by rw [zrd_s], fin _⟩⟩⟩
  · have hm : ∀ i, i < 10 → X 21 (zorb (X 21) a i) ≠ -1 := fun i hi e => hx ⟨i, hi, e⟩
    have hr := z_ring ⟨a0, by omega⟩ (fun x h0 h1 => (hA x h0 h1).2) hm
    refine goes_DN hG (fun i _ => hr i) hm ?_ 10 0 (by omega)
    refine M_goes_f0 hG (q_isAddress hG (fun _ _ => ⟨1, rfl, fun z => absurd z (by omega), fun _ => M_endOf_f0 hG ?_⟩) (fun c => absurd c (by omega)))
    refine goes_MN hG hA hr ?_ 10 0 (by omega)
    exact ⟨_, rfl, fun _ => ⟨rfl, fin _⟩, fun z => absurd z (by omega)⟩
/-! change -/
def zCg (b c d cnt : Int) : Prop := b = 0 ∧ 0 ≤ c ∧ c < cnt ∨ b = 1 ∧ 0 ≤ c ∧ c < cnt ∧ 0 ≤ d ∧ d ≤ 9 ∨ b = 2 ∧ 0 ≤ d ∧ d ≤ 99
theorem change_D {Q : List zV → zX → Prop} {G : zG} {X : zX} {a b c d e n : Int} (hG : SH G) (a0 : 0 ≤ a) (a1 : a < X 1 12) (a9 : X 1 12 ≤ 10) (hn : X (53 + 5 * a) 7 = n) (n0 : 0 ≤ n ∧ n ≤ 6)
    (q1 : zCg b c d (X (54 + 5 * a) 1) → 1 ≤ e → e ≤ 99 → n < 6 → Q [zI n] (zst (zst (zst (zst (zst X (56 + 5 * a) (4 * n) b) (56 + 5 * a) (4 * n + 1) c) (56 + 5 * a) (4 * n + 2) d) (56 + 5 * a) (4 * n + 3) e) (53 + 5 * a) 7 (n + 1)))
    (q0 : ¬(zCg b c d (X (54 + 5 * a) 1) ∧ 1 ≤ e ∧ e ≤ 99 ∧ n < 6) → Q [zI (-1)] X) : D_change [zR 0, zI a, zI b, zI c, zI d, zI e] G X Q := by
  have hk := (zCa_at a0 (by omega : a < 10)).2
  unfold zCg at q1 q0
  have fin : (b = 0 ∧ 0 ≤ c ∧ c < (X (54 + 5 * a) 1) ∨ b = 1 ∧ 0 ≤ c ∧ c < (X (54 + 5 * a) 1) ∧ 0 ≤ d ∧ d ≤ 9 ∨ b = 2 ∧ 0 ≤ d ∧ d ≤ 99) → 1 ≤ e → e ≤ 99 → D_change_W Q 106 [zT, zT, zI b, zI c, zI d, zI e, zR (53 + 5 * a), zT, zT] [zI 1] G X := fun s e1 e2 => by
    refine D_change_f106 hG hk ⟨fun z => absurd z (by omega), fun _ => ⟨fun n6 => Ca_addChange_f0 hG hk ?_, fun n6 => q0 (by omega)⟩⟩
    rw [hn] at n6 ⊢
    refine ⟨zw_id (by omega) (by omega), by omega, by omega, zw_id (by omega) (by omega), by omega, by omega, zw_id (by omega) (by omega), by omega, by omega, fun X1 e1x => ⟨zw_id (by omega) (by omega), by omega, by omega, ?_⟩⟩
    have r1 : ∀ v : Int, zst X1 (3 + (53 + 5 * a)) (n * 4 + 3) v (53 + 5 * a) 7 = n := fun v => by
      rw [zrd_n (by omega), e1x, zrd_n (by omega), zrd_n (by omega), zrd_n (by omega), hn]
    rw [r1]
    refine ⟨zw_id (by omega) (by omega), fun X2 e2x => ?_⟩
    have r2 : X2 (53 + 5 * a) 7 = n + 1 := by rw [e2x, zrd_s]
    rw [r2]
    refine ⟨rfl, zw_id (by omega) (by omega), ?_⟩
    rw [show n + 1 - 1 = n by omega, e2x, e1x, show 3 + (53 + 5 * a) = 56 + 5 * a by omega, show n * 4 = 4 * n by omega]
    exact q1 s e1 e2 n6
  have fin0 : ¬(b = 0 ∧ 0 ≤ c ∧ c < (X (54 + 5 * a) 1) ∨ b = 1 ∧ 0 ≤ c ∧ c < (X (54 + 5 * a) 1) ∧ 0 ≤ d ∧ d ≤ 9 ∨ b = 2 ∧ 0 ≤ d ∧ d ≤ 99) → D_change_W Q 106 [zT, zT, zI b, zI c, zI d, zI e, zR (53 + 5 * a), zT, zT] [zI 0] G X := fun s =>
    D_change_f106 hG hk ⟨fun _ => q0 (fun z => s z.1), fun z => absurd rfl z⟩
  refine D_change_f0 hG ?_
  (repeat' (first | (with_reducible exact rfl) | (with_reducible apply And.intro) | (with_reducible refine ⟨_, rfl, ?_⟩) | (with_reducible exact fin (by omega) (by omega) (by omega)) | (with_reducible exact fin0 (by omega)) | (with_reducible exact q0 (by omega)) | (with_reducible refine D_change_f54 hG hk ?_) | (with_reducible refine D_change_f55 hG hk ?_) | (with_reducible refine D_change_f66 hG hk ?_) | (with_reducible refine D_change_f88 hG hk ?_) | (with_reducible refine D_change_f105 hG hk ?_) | (with_reducible refine q_isIn hG (fun _ _ => ?_) (fun _ => ?_)) | (with_reducible refine q_isAddress hG (fun _ _ => ?_) (fun _ => ?_)) | (with_reducible refine q_isMade hG (fun _ _ => ?_) (fun _ => ?_)) | (with_reducible refine q_isPage hG (by assumption) (fun _ _ => ?_) (fun _ => ?_)) | (with_reducible refine q_isHouse hG (by assumption) (fun _ _ => ?_) (fun _ => ?_)) | (with_reducible refine q_dPage hG (fun _ _ => ?_) (fun _ => ?_)) | (with_reducible refine q_dHouse hG (fun _ _ => ?_) (fun _ => ?_)) | (with_reducible refine q_dDay hG (fun _ _ => ?_) (fun _ => ?_)) | (with_reducible refine q_dLand hG (fun _ _ => ?_) (fun _ => ?_)) | (with_reducible refine q_dPerson hG (fun _ => ?_) (fun _ => ?_)) | (with_reducible refine q_mPerson hG (fun _ => ?_) (fun _ => ?_)) | (with_reducible refine q_pageAt hG (by omega) (by omega) ?_) | (with_reducible refine q_houseAt hG (by omega) (by omega) ?_) | (with_reducible refine q_treeOf hG (by omega) (by omega) ?_) | (intro hz; exfalso; omega) | (intro _) | (with_reducible refine zw_id ?_ ?_) | omega | (simp only [zw]; omega)))
theorem change_M {Q : List zV → zX → Prop} {G : zG} {X : zX} {a b c d e n m : Int} (hG : SH G) (hp : X 140 1 = X 1 12 ∧ 0 ≤ X 1 12 ∧ X 1 12 ≤ 10) (a0 : 0 ≤ a) (a1 : a < X 1 12) (hn : X 140 (2670 + 210 * a + 15) = n) (n0 : 0 ≤ n ∧ n ≤ 6) (hm : X 140 (2712 + 210 * a) = m) (m0 : 0 ≤ m ∧ m ≤ 14)
    (q1 : zCg b c d m → 1 ≤ e → e ≤ 99 → n < 6 → ∀ c2 d2 : Int, (b ≠ 2 → c2 = c) → (b ≠ 0 → d2 = d) → Q [zI n] (zst (zst (zst (zst (zst X 140 (2686 + 210 * a + 4 * n) b) 140 (2687 + 210 * a + 4 * n) c2) 140 (2688 + 210 * a + 4 * n) d2) 140 (2689 + 210 * a + 4 * n) e) 140 (2685 + 210 * a) (n + 1)))
    (q0 : ¬(zCg b c d m ∧ 1 ≤ e ∧ e ≤ 99 ∧ n < 6) → Q [zI (-1)] X) : M_change [zR 139, zI a, zI b, zI c, zI d, zI e] G X Q := by
  unfold zCg at q1 q0
  have fin : (b = 0 ∧ 0 ≤ c ∧ c < m ∨ b = 1 ∧ 0 ≤ c ∧ c < m ∧ 0 ≤ d ∧ d ≤ 9 ∨ b = 2 ∧ 0 ≤ d ∧ d ≤ 99) → 1 ≤ e → e ≤ 99 → M_change_W Q 91 [zR 139, zT, zI b, zI c, zI d, zI e, zI (2670 + 210 * a), zT, zT] [zI 1] G X := fun s e1 e2 => by
    refine M_change_f91 hG ?_
    rw [hn]
    refine ⟨zw_id (by omega) (by omega), by omega, by omega, fun n6 => q0 (by omega), fun n6 => ⟨fun z => absurd z (by omega), fun _ => ?_⟩⟩
    have go : ∀ c2 : Int, (b ≠ 2 → c2 = c) → M_change_W Q 161 [zR 139, zT, zI b, zT, zI d, zI e, zI (2670 + 210 * a), zT, zI (2670 + 210 * a + 16 + 4 * n)] [zI c2, zI (2670 + 210 * a + 16 + 4 * n + 1), zR 140] G (zst X 140 (2670 + 210 * a + 16 + 4 * n) b) := fun c2 hc2 => by
      have go2 : ∀ d2 : Int, (b ≠ 0 → d2 = d) → M_change_W Q 180 [zR 139, zT, zT, zT, zT, zI e, zI (2670 + 210 * a), zT, zI (2670 + 210 * a + 16 + 4 * n)] [zI d2, zI (2670 + 210 * a + 16 + 4 * n + 2), zR 140] G (zst (zst X 140 (2670 + 210 * a + 16 + 4 * n) b) 140 (2670 + 210 * a + 16 + 4 * n + 1) c2) := fun d2 hd2 => by
        refine M_change_f180 hG rfl ?_
        have r1 : ∀ v w : Int, zst (zst (zst (zst X 140 (2670 + 210 * a + 16 + 4 * n) b) 140 (2670 + 210 * a + 16 + 4 * n + 1) c2) 140 (2670 + 210 * a + 16 + 4 * n + 2) v) 140 (2670 + 210 * a + 16 + 4 * n + 3) w 140 (2670 + 210 * a + 15) = n := fun v w => by
          rw [zrd_n (by omega), zrd_n (by omega), zrd_n (by omega), zrd_n (by omega), hn]
        rw [r1]
        refine ⟨by omega, show 2670 + 210 * a + 16 + 4 * n + 2 < 22080 by omega, zw_id (by omega) (by omega), by omega, by omega, zw_id (by omega) (by omega), by omega, by omega, zw_id (by omega) (by omega), fun X1 e1x => ?_⟩
        have r2 : X1 140 (2670 + 210 * a + 15) = n + 1 := by rw [e1x, zrd_s]
        rw [r2]
        refine ⟨zw_id (by omega) (by omega), ?_⟩
        have q := q1 s e1 e2 (by omega) c2 d2 hc2 hd2
        rw [show n + 1 - 1 = n by omega, e1x, show 2670 + 210 * a + 16 + 4 * n = 2686 + 210 * a + 4 * n by omega, show 2686 + 210 * a + 4 * n + 1 = 2687 + 210 * a + 4 * n by omega, show 2686 + 210 * a + 4 * n + 2 = 2688 + 210 * a + 4 * n by omega, show 2686 + 210 * a + 4 * n + 3 = 2689 + 210 * a + 4 * n by omega, show 2670 + 210 * a + 15 = 2685 + 210 * a by omega]
        exact q
      refine M_change_f161 hG rfl ⟨by omega, show 2670 + 210 * a + 16 + 4 * n + 1 < 22080 by omega, zw_id (by omega) (by omega), fun hb => go2 0 (fun z => absurd hb z), fun hb => go2 d (fun _ => rfl)⟩
    exact ⟨zw_id (by omega) (by omega), by rw [zw_id (x := 4 * n) (by omega) (by omega)]; exact zw_id (by omega) (by omega), by omega, by omega, zw_id (by omega) (by omega), fun hb => go 0 (fun z => absurd hb z), fun hb => go c (fun _ => rfl)⟩
  have fin0 : ¬(b = 0 ∧ 0 ≤ c ∧ c < m ∨ b = 1 ∧ 0 ≤ c ∧ c < m ∧ 0 ≤ d ∧ d ≤ 9 ∨ b = 2 ∧ 0 ≤ d ∧ d ≤ 99) → M_change_W Q 91 [zR 139, zT, zI b, zI c, zI d, zI e, zI (2670 + 210 * a), zT, zT] [zI 0] G X := fun s => by
    refine M_change_f91 hG ?_
    rw [hn]
    exact ⟨zw_id (by omega) (by omega), by omega, by omega, fun n6 => q0 (fun z => s z.1), fun n6 => ⟨fun _ => q0 (fun z => s z.1), fun z => absurd rfl z⟩⟩
  refine M_change_f0 hG ?_
  (repeat' (first | (with_reducible exact rfl) | (with_reducible apply And.intro) | (with_reducible refine ⟨_, rfl, ?_⟩) | (with_reducible exact fin (by omega) (by omega) (by omega)) | (with_reducible exact fin0 (by omega)) | (with_reducible exact q0 (by omega)) | (with_reducible refine M_change_f90 hG ?_) | (with_reducible refine q_isIn hG (fun _ _ => ?_) (fun _ => ?_)) | (with_reducible refine q_isAddress hG (fun _ _ => ?_) (fun _ => ?_)) | (with_reducible refine q_isMade hG (fun _ _ => ?_) (fun _ => ?_)) | (with_reducible refine q_isPage hG (by assumption) (fun _ _ => ?_) (fun _ => ?_)) | (with_reducible refine q_isHouse hG (by assumption) (fun _ _ => ?_) (fun _ => ?_)) | (with_reducible refine q_dPage hG (fun _ _ => ?_) (fun _ => ?_)) | (with_reducible refine q_dHouse hG (fun _ _ => ?_) (fun _ => ?_)) | (with_reducible refine q_dDay hG (fun _ _ => ?_) (fun _ => ?_)) | (with_reducible refine q_dLand hG (fun _ _ => ?_) (fun _ => ?_)) | (with_reducible refine q_dPerson hG (fun _ => ?_) (fun _ => ?_)) | (with_reducible refine q_mPerson hG (fun _ => ?_) (fun _ => ?_)) | (with_reducible refine q_pageAt hG (by omega) (by omega) ?_) | (with_reducible refine q_houseAt hG (by omega) (by omega) ?_) | (with_reducible refine q_treeOf hG (by omega) (by omega) ?_) | (intro hz; exfalso; omega) | (intro _) | (with_reducible refine zw_id ?_ ?_) | omega | (simp only [zw]; omega)))
theorem op_change {G : zG} {X : zX} {a b c d e : Int} (hG : SH G) (h : zRT X 1 0) : zOp D_change M_change [zI a, zI b, zI c, zI d, zI e] [zI a, zI b, zI c, zI d, zI e] G X := by
  have hp := q_pages h
  by_cases ha : 0 ≤ a ∧ a < X 1 12
  · obtain ⟨a0, a1⟩ := ha
    have hn := zR_chn h a a0 (by omega)
    rw [show (0 : Int) + 2685 + 210 * a = 2685 + 210 * a by omega, show (1 : Int) + 52 + 5 * a = 53 + 5 * a by omega] at hn
    have hm := q_ccnt h a0 (by omega)
    refine change_D hG a0 a1 hp.2.2 rfl hn.2 (fun s e1 e2 n6 => ?_) (fun s => ?_)
    · have h12 : zst (zst (zst (zst (zst X (56 + 5 * a) (4 * X (53 + 5 * a) 7) b) (56 + 5 * a) (4 * X (53 + 5 * a) 7 + 1) c) (56 + 5 * a) (4 * X (53 + 5 * a) 7 + 2) d) (56 + 5 * a) (4 * X (53 + 5 * a) 7 + 3) e) (53 + 5 * a) 7 (X (53 + 5 * a) 7 + 1) 1 12 = X 1 12 := by
        rw [zrd_n (by omega), zrd_n (by omega), zrd_n (by omega), zrd_n (by omega), zrd_n (by omega)]
      have h140 : ∀ k : Int, zst (zst (zst (zst (zst X (56 + 5 * a) (4 * X (53 + 5 * a) 7) b) (56 + 5 * a) (4 * X (53 + 5 * a) 7 + 1) c) (56 + 5 * a) (4 * X (53 + 5 * a) 7 + 2) d) (56 + 5 * a) (4 * X (53 + 5 * a) 7 + 3) e) (53 + 5 * a) 7 (X (53 + 5 * a) 7 + 1) 140 k = X 140 k := fun k => by
        rw [zrd_n (by omega), zrd_n (by omega), zrd_n (by omega), zrd_n (by omega), zrd_n (by omega)]
      refine change_M hG (by rw [h12, h140]; exact hp) a0 (by rw [h12]; exact a1) (n := X (53 + 5 * a) 7) (m := X (54 + 5 * a) 1) (by rw [h140, show 2670 + 210 * a + 15 = 2685 + 210 * a by omega]; exact hn.1) hn.2 (by rw [h140]; exact hm.1) hm.2 (fun _ _ _ _ c2 d2 hc2 hd2 => ⟨rfl, ?_, (by have hq1 := q_houses h; have hq2 := q_pages h; repeat' (first | (with_reducible exact zKp_r _) | (with_reducible refine zKp_v ?_ (by omega) (by omega) (by intro p k h1 h2 h3 h4; rcases Int.lt_trichotomy p a with hx | hx | hx <;> omega)) | (with_reducible refine zKp_w ?_ (by omega) (by omega) (by omega) (by omega)) | (with_reducible refine zKp_u ?_ (by omega) (by omega) (by omega) (by omega))))⟩) (fun s2 => absurd ⟨s, e1, e2, n6⟩ s2)
      have hu : ∀ x k : Int, (1 ≤ x ∧ x < 103) ∨ (x = 140 ∧ 0 ≤ k ∧ k < 5520) → ¬(x = 53 + 5 * a ∧ k = 7 ∨ x = 56 + 5 * a ∧ 4 * X (53 + 5 * a) 7 ≤ k ∨ x = 140 ∧ k = 2685 + 210 * a ∨ x = 140 ∧ 2686 + 210 * a + 4 * X (53 + 5 * a) 7 ≤ k ∧ k < 2710 + 210 * a) → zst (zst (zst (zst (zst (zst (zst (zst (zst (zst X (56 + 5 * a) (4 * X (53 + 5 * a) 7) b) (56 + 5 * a) (4 * X (53 + 5 * a) 7 + 1) c) (56 + 5 * a) (4 * X (53 + 5 * a) 7 + 2) d) (56 + 5 * a) (4 * X (53 + 5 * a) 7 + 3) e) (53 + 5 * a) 7 (X (53 + 5 * a) 7 + 1)) 140 (2686 + 210 * a + 4 * X (53 + 5 * a) 7) b) 140 (2687 + 210 * a + 4 * X (53 + 5 * a) 7) c2) 140 (2688 + 210 * a + 4 * X (53 + 5 * a) 7) d2) 140 (2689 + 210 * a + 4 * X (53 + 5 * a) 7) e) 140 (2685 + 210 * a) (X (53 + 5 * a) 7 + 1) x k = X x k := fun x k h1 h2 => by
        rw [zrd_n (by omega), zrd_n (by omega), zrd_n (by omega), zrd_n (by omega), zrd_n (by omega), zrd_n (by omega), zrd_n (by omega), zrd_n (by omega), zrd_n (by omega), zrd_n (by omega)]
      refine zU_chg (p0 := a) h a0 (by omega) (fun x k h1 h2 => hu x k h1 (by omega)) ?_ ?_
      · unfold zF_chn
        intro p h0 h1
        by_cases hpa : p = a
        · subst hpa
          rw [show (0 : Int) + 2685 + 210 * p = 2685 + 210 * p by omega, show (1 : Int) + 52 + 5 * p = 53 + 5 * p by omega, zrd_s, zrd_n (by omega), zrd_n (by omega), zrd_n (by omega), zrd_n (by omega), zrd_n (by omega), zrd_s]
          omega
        · have z := zR_chn h p h0 h1
          rw [hu _ _ (by omega) (by omega), hu _ _ (by omega) (by omega)]
          exact z
      · unfold zF_chg
        intro p j h0 h1 h2 h3 h4
        by_cases hpa : p = a
        · subst hpa
          rw [show (1 : Int) + 52 + 5 * p = 53 + 5 * p by omega, zrd_n (by omega), zrd_n (by omega), zrd_n (by omega), zrd_n (by omega), zrd_n (by omega), zrd_s] at h4
          by_cases hj : j = X (53 + 5 * p) 7
          · unfold zCg at s
            rw [show (1 : Int) + 55 + 5 * p = 56 + 5 * p by omega, show (0 : Int) + 2686 + 210 * p = 2686 + 210 * p by omega, show (0 : Int) + 2687 + 210 * p = 2687 + 210 * p by omega, show (0 : Int) + 2688 + 210 * p = 2688 + 210 * p by omega, show (0 : Int) + 2689 + 210 * p = 2689 + 210 * p by omega, hj]
            (simp (disch := omega) only [zrd_q, zrd_n])
            all_goals (repeat' (first | (with_reducible apply And.intro) | intro _))
            all_goals (first | trivial | omega)
          · have z := zR_chg h p j h0 h1 h2 h3 (by rw [show (1 : Int) + 52 + 5 * p = 53 + 5 * p by omega]; omega)
            rw [hu (1 + 55 + 5 * p) (4 * j) (by omega) (by omega), hu (1 + 55 + 5 * p) (4 * j + 1) (by omega) (by omega), hu (1 + 55 + 5 * p) (4 * j + 2) (by omega) (by omega), hu (1 + 55 + 5 * p) (4 * j + 3) (by omega) (by omega), hu 140 (0 + 2686 + 210 * p + 4 * j) (by omega) (by omega), hu 140 (0 + 2687 + 210 * p + 4 * j) (by omega) (by omega), hu 140 (0 + 2688 + 210 * p + 4 * j) (by omega) (by omega), hu 140 (0 + 2689 + 210 * p + 4 * j) (by omega) (by omega)]
            exact z
        · rw [hu (1 + 52 + 5 * p) 7 (by omega) (by omega)] at h4
          have z := zR_chg h p j h0 h1 h2 h3 h4
          rw [hu (1 + 55 + 5 * p) (4 * j) (by omega) (by omega), hu (1 + 55 + 5 * p) (4 * j + 1) (by omega) (by omega), hu (1 + 55 + 5 * p) (4 * j + 2) (by omega) (by omega), hu (1 + 55 + 5 * p) (4 * j + 3) (by omega) (by omega), hu 140 (0 + 2686 + 210 * p + 4 * j) (by omega) (by omega), hu 140 (0 + 2687 + 210 * p + 4 * j) (by omega) (by omega), hu 140 (0 + 2688 + 210 * p + 4 * j) (by omega) (by omega), hu 140 (0 + 2689 + 210 * p + 4 * j) (by omega) (by omega)]
          exact z
    · exact change_M hG hp a0 a1 (n := X (53 + 5 * a) 7) (m := X (54 + 5 * a) 1) (by rw [show 2670 + 210 * a + 15 = 2685 + 210 * a by omega]; exact hn.1) hn.2 hm.1 hm.2 (fun s1 e1 e2 n6 => absurd ⟨s1, e1, e2, n6⟩ s) (fun _ => ⟨rfl, h, zKp_r X⟩)
  · exact D_change_f0 hG (q_dPage hG (fun n1 n2 => absurd ⟨n1, n2⟩ ha) (fun _ => ⟨0, rfl, fun _ => M_change_f0 hG (q_isPage hG hp (fun n1 n2 => absurd ⟨n1, n2⟩ ha) (fun _ => ⟨0, rfl, fun _ => ⟨rfl, h, zKp_r X⟩, fun z => absurd rfl z⟩)), fun z => absurd rfl z⟩))
