/-! ===== taken ===== -/
noncomputable def zEnd (R : Int → Int) (a : Int) : Int := @dite _ (∃ k, k < 10 ∧ R (zorb R a k) = -1) (Classical.propDecidable _) (fun h => zorb R a (Classical.choose (z_least h))) (fun _ => -1)
theorem goes_v {G : zG} {X : zX} {a : Int} (hG : SH G) (h : zRT X 1 0) (a0 : 0 ≤ a) (a9 : a ≤ 9) : (zEnd (X 21) a = -1 ∨ (0 ≤ zEnd (X 21) a ∧ zEnd (X 21) a < 10)) ∧ (∀ {Q : List zV → zX → Prop} (X2 : zX), X2 21 = X 21 → Q [zI (zEnd (X 21) a)] X2 → D_goes [zR 0, zI a, zI 0] G X2 Q) ∧ (∀ {Q : List zV → zX → Prop} (X2 : zX), X2 21 = X 21 → X2 140 = X 140 → (∀ u : Int, Q [zI (zEnd (X 21) a)] (zst X2 139 47 u)) → M_endOf [zR 139, zI a] G X2 Q) := by
  have hA : ∀ X2 : zX, X2 21 = X 21 → X2 140 = X 140 → ∀ x : Int, 0 ≤ x → x < 10 → X2 140 (4770 + x) = X2 21 x + 1 ∧ -1 ≤ X2 21 x ∧ X2 21 x ≤ 9 := fun X2 e1 e2 x h0 h1 => by
    have z := zR_rel h x h0 h1
    rw [show (0 : Int) + 4770 + x = 4770 + x by omega, show (1 : Int) + 20 = 21 by omega] at z
    rw [e1, e2]
    exact z
  by_cases hx : ∃ k, k < 10 ∧ X 21 (zorb (X 21) a k) = -1
  · have ez : zEnd (X 21) a = zorb (X 21) a (Classical.choose (z_least hx)) := @dif_pos _ (Classical.propDecidable _) hx _ _ _
    obtain ⟨hk, he, hm⟩ := Classical.choose_spec (z_least hx)
    generalize Classical.choose (z_least hx) = k at ez hk he hm
    have hr : ∀ i, i ≤ k → 0 ≤ zorb (X 21) a i ∧ zorb (X 21) a i < 10 := by
      intro i
      induction i with
      | zero => exact fun _ => ⟨a0, by show a < 10; omega⟩
      | succ i ih =>
        intro hi
        have z := ih (by omega)
        have y := hA X rfl rfl _ z.1 z.2
        have n := hm i (by omega)
        show 0 ≤ X 21 (zorb (X 21) a i) ∧ X 21 (zorb (X 21) a i) < 10
        omega
    have hk2 := hr k (Nat.le_refl _)
    rw [ez]
    refine ⟨Or.inr hk2, fun X2 e1 q => ?_, fun X2 e1 e2 q => ?_⟩
    · refine D_goes_f0 hG (q_isMade hG (fun _ _ => ⟨1, rfl, fun z => absurd z (by omega), fun _ => ?_⟩) (fun c => absurd c (by omega)))
      have z := goes_D (X := X2) (a := a) (w := 0) hG k hk (by rw [e1]; exact hr) (by rw [e1]; exact hm) (by rw [e1]; exact he) (fun _ => by rw [e1]; exact q) (fun n => absurd rfl n) k 0 (by omega)
      exact z
    · refine M_endOf_f0 hG ?_
      have z := goes_M (X := X2) (a := a) hG (hA X2 e1 e2) k hk (by rw [e1]; exact hr) (by rw [e1]; exact hm) (by rw [e1]; exact he) (by rw [e1]; exact q _) k 0 (by omega)
      exact z
  · have ez : zEnd (X 21) a = -1 := @dif_neg _ (Classical.propDecidable _) hx _ _ _
    have hm : ∀ i, i < 10 → X 21 (zorb (X 21) a i) ≠ -1 := fun i hi e => hx ⟨i, hi, e⟩
    have hr := z_ring ⟨a0, by omega⟩ (fun x h0 h1 => (hA X rfl rfl x h0 h1).2) hm
    rw [ez]
    refine ⟨Or.inl rfl, fun X2 e1 q => ?_, fun X2 e1 e2 q => ?_⟩
    · refine D_goes_f0 hG (q_isMade hG (fun _ _ => ⟨1, rfl, fun z => absurd z (by omega), fun _ => ?_⟩) (fun c => absurd c (by omega)))
      have z := goes_DN (X := X2) (a := a) (w := 0) hG (by rw [e1]; exact fun i _ => hr i) (by rw [e1]; exact hm) q 10 0 (by omega)
      exact z
    · refine M_endOf_f0 hG ?_
      have z := goes_MN (X := X2) (a := a) hG (hA X2 e1 e2) (by rw [e1]; exact hr) (q _) 10 0 (by omega)
      exact z
def zSf (X : zX) (home : Int) (e : Int → Int) (a : Int) : Prop := home ≠ -1 ∧ e a ≠ -1 ∧ X 22 (e a) = home
noncomputable def zTk (X : zX) (home : Int) (C : Int → Int) : Nat → Int
  | 0 => 0
  | a + 1 => @ite _ (zSf X home (zEnd (X 21)) a) (Classical.propDecidable _) (zTk X home C a) (zor (zTk X home C a) (C a))
theorem zTk_p {X : zX} {home : Int} {C : Int → Int} {a : Nat} (h : zSf X home (zEnd (X 21)) a) : zTk X home C (a + 1) = zTk X home C a := @if_pos _ (Classical.propDecidable _) h _ _ _
theorem zTk_n {X : zX} {home : Int} {C : Int → Int} {a : Nat} (h : ¬zSf X home (zEnd (X 21)) a) : zTk X home C (a + 1) = zor (zTk X home C a) (C a) := @if_neg _ (Classical.propDecidable _) h _ _ _
noncomputable def zGt (X : zX) (p x : Int) : Int → Int := (zRn (X (57 + 5 * p)) (X (53 + 5 * p) 8) x 200 (fun _ => 0) (fun _ => 0) (fun _ => 0) 0).2
theorem takenFrom_C {Q : List zV → zX → Prop} {G : zG} {X X1 : zX} {p x home : Int} (hG : SH G) (h : zRT X 1 0) (w1 : zWk X X1) (p0 : 0 ≤ p) (p1 : p < 10) (x0 : 0 ≤ x) (x1 : x ≤ 999) (q : ∀ X2 : zX, zWk X X2 → Q [zI (zTk X home (zGt X p x) 10)] X2) : D_takenFrom [zR 0, zI p, zI x, zI home] G X1 Q := by
  refine D_takenFrom_f0 hG ⟨p0, p1, runner_D hG (zWk_RT w1 h) p0 p1 x0 x1 (fun X2 w2 N T C hn hc _ c2 => ⟨rfl, ?_⟩)⟩
  have got : ∀ j : Int, 0 ≤ j → j < 10 → X2 133 j = zGt X p x j := fun j j0 j1 => by
    rw [c2]
    exact (run_same (X := X) (X2 := X1) (N := fun _ => 0) (T := fun _ => 0) (C := fun _ => 0) h w1 p0 p1 (fun _ _ _ => ⟨rfl, rfl⟩) (fun _ _ _ => rfl) hn hc).2 j j0 j1
  have w12 := zWk_t w1 w2
  have lp : ∀ (d k : Nat), k + d = 10 → D_takenFrom_W Q 23 [zR 0, zT, zT, zI home, zI (zTk X home (zGt X p x) k), zI (k : Int), zT, zT] [] G X2 := by
    intro d
    induction d with
    | zero =>
      intro k e
      have q2 := q X2 w12
      rw [show (10 : Nat) = k by omega] at q2
      exact D_takenFrom_f23 hG ⟨fun z => absurd z (by omega), fun _ => q2⟩
    | succ d ih =>
      intro k e
      have gv := goes_v (a := (k : Int)) hG h (by omega) (by omega)
      have nx := ih (k + 1) (by omega)
      have no : ¬zSf X home (zEnd (X 21)) k → D_takenFrom_W Q 68 [zR 0, zT, zT, zI home, zI (zTk X home (zGt X p x) k), zI (k : Int), zT, zT] [] G X2 := fun n => by
        rw [zTk_n n] at nx
        refine D_takenFrom_f68 hG (D_takenFrom_f69 hG ⟨fun _ => ⟨by omega, by omega, zw_id (by omega) (by omega), ?_⟩, fun z => absurd rfl z⟩)
        rw [got k (by omega) (by omega)]
        exact nx
      refine D_takenFrom_f23 hG ⟨fun _ => gv.2.1 X2 (w12 21 (by omega)) ⟨_, rfl, fun c => no (fun z => z.1 c), fun c => ⟨fun c2 => no (fun z => z.2.1 c2), fun c2 => ?_⟩⟩, fun z => absurd z (by omega)⟩
      rw [w12 22 (by omega)]
      refine ⟨by omega, by omega, fun c3 => ?_, fun c3 => no (fun z => c3 z.2.2)⟩
      rw [zTk_p ⟨c, c2, c3⟩] at nx
      exact D_takenFrom_f69 hG ⟨fun z => absurd z (by omega), fun _ => ⟨zw_id (by omega) (by omega), nx⟩⟩
  exact lp 10 0 (by omega)
theorem takenWith_R {Q : List zV → zX → Prop} {G : zG} {X Y1 : zX} {p x home : Int} (hG : SH G) (h : zRT X 1 0) (w1 : zWk X Y1) (p0 : 0 ≤ p) (p1 : p < 10) (x0 : 0 ≤ x) (x1 : x ≤ 999) (hh : -1 ≤ home ∧ home < 5) (q : ∀ X2 : zX, zWk X X2 → Q [zI (zTk X home (zGt X p x) 10)] X2) : M_takenWith [zR 139, zI p, zI x, zI home] G Y1 Q := by
  refine M_takenWith_f0 hG (runner_M hG (zWk_RT w1 h) p0 p1 x0 x1 (fun X2 w2 N T C hn hc c2 => ⟨_, rfl, ?_⟩))
  have got : ∀ j : Int, 0 ≤ j → j < 10 → X2 165 j = zGt X p x j := fun j j0 j1 => by
    rw [c2]
    exact (run_same (X := X) (X2 := Y1) (N := fun _ => 0) (T := fun _ => 0) (C := fun _ => 0) h w1 p0 p1 (fun _ _ _ => ⟨rfl, rfl⟩) (fun _ _ _ => rfl) hn hc).2 j j0 j1
  have lp : ∀ (d k : Nat) (Z : zX), k + d = 10 → zWk X Z → Z 165 = X2 165 → M_takenWith_W Q 14 [zR 139, zT, zT, zI home, zT, zI (zTk X home (zGt X p x) k), zI (k : Int), zT, zT] [] G Z := by
    intro d
    induction d with
    | zero =>
      intro k Z e wz e165
      have q2 := q Z wz
      rw [show (10 : Nat) = k by omega] at q2
      exact M_takenWith_f14 hG ⟨fun z => absurd z (by omega), fun _ => q2⟩
    | succ d ih =>
      intro k Z e wz e165
      have gv := goes_v (a := (k : Int)) hG h (by omega) (by omega)
      refine M_takenWith_f14 hG ⟨fun _ => gv.2.2 Z (wz 21 (by omega)) (wz 140 (by omega)) (fun u => ⟨_, rfl, ?_⟩), fun z => absurd z (by omega)⟩
      have wz2 : zWk X (zst Z 139 47 u) := zWk_w wz (by omega)
      have e2 : zst Z 139 47 u 165 = X2 165 := (zrd_r (by omega)).trans e165
      have nx := ih (k + 1) (zst Z 139 47 u) (by omega) wz2 e2
      have no : ¬zSf X home (zEnd (X 21)) k → M_takenWith_W Q 59 [zR 139, zT, zT, zI home, zT, zI (zTk X home (zGt X p x) k), zI (k : Int), zT, zT] [] G (zst Z 139 47 u) := fun n => by
        rw [zTk_n n] at nx
        refine M_takenWith_f59 hG (M_takenWith_f60 hG ⟨fun _ => ⟨by omega, by omega, zw_id (by omega) (by omega), ?_⟩, fun z => absurd rfl z⟩)
        rw [e2, got k (by omega) (by omega)]
        exact nx
      refine ⟨fun c2 => no (fun z => z.2.1 (by omega)), fun c2 => ⟨fun c => no (fun z => z.1 (by omega)), fun c => ?_⟩⟩
      have ow := zR_own h (zEnd (X 21) k) (by omega) (by omega)
      rw [show (0 : Int) + 4780 + zEnd (X 21) k = 4780 + zEnd (X 21) k by omega, show (1 : Int) + 21 = 22 by omega] at ow
      rw [wz2 140 (by omega), ow.1]
      refine ⟨zw_id (by omega) (by omega), by omega, by omega, zw_id (by omega) (by omega), fun c3 => ?_, fun c3 => no (fun z => c3 (by have := z.2.2; omega))⟩
      rw [zTk_p ⟨by omega, by omega, by omega⟩] at nx
      exact M_takenWith_f60 hG ⟨fun z => absurd z (by omega), fun _ => ⟨zw_id (by omega) (by omega), nx⟩⟩
  exact lp 10 0 X2 (by omega) (zWk_t w1 w2) rfl
noncomputable def zEvr (X : zX) (p home : Int) : Nat → Int
  | 0 => 0
  | k + 1 => zor (zEvr X p home k) (zTk X home (zGt X p k) 10)
theorem op_taken {G : zG} {X : zX} {a b : Int} (hG : SH G) (h : zRT X 1 0) : zOp D_taken M_taken [zI a, zI b] [zI a, zI b] G X := by
  have hp := q_pages h
  have hh := q_houses h
  have no : ¬(0 ≤ a ∧ a < X 1 12 ∧ (b = -1 ∨ (0 ≤ b ∧ b ≤ 999))) → M_taken [zR 139, zI a, zI b] G X (fun w X2 => w = [zI (-1)] ∧ zRT X2 1 0 ∧ zKp X X2) := fun n =>
    M_taken_f0 hG (q_isPage hG hp (fun a0 a1 => ⟨1, rfl, fun z => absurd z (by omega), fun _ => ⟨fun c => absurd ⟨a0, a1, Or.inl c⟩ n, fun c => q_mMade hG (fun d => absurd ⟨a0, a1, Or.inr d⟩ n) (fun _ => ⟨0, rfl, fun _ => ⟨rfl, h, zKp_r X⟩, fun z => absurd rfl z⟩)⟩⟩) (fun _ => ⟨0, rfl, fun _ => ⟨rfl, h, zKp_r X⟩, fun z => absurd rfl z⟩))
  -- behind the conditions
  have body : 0 ≤ a → a < X 1 12 → (b = -1 ∨ (0 ≤ b ∧ b ≤ 999)) → D_taken_W (fun v X1 => M_taken [zR 139, zI a, zI b] G X1 (fun w X2 => w = v ∧ zRT X2 1 0 ∧ zKp X X2)) 22 [zR 0, zI a, zI b, zT, zT, zT] [] G X := fun a0 a1 hb => by
    have lin := zLi_in (X := X) (F := zSee X a 0 0) (land := 0) (day := 0) (X 1 11).toNat
    generalize hH : (zLi X (zSee X a 0 0) 0 0 (X 1 11).toNat).1 = home at lin
    have hr : -1 ≤ home ∧ home < 5 := by omega
    -- the reference up to the house
    have mid : ∀ (v : List zV) (X2 : zX), zWk X X2 → (∀ Y : zX, zWk X Y → (b = -1 → M_taken_W (fun w X3 => w = v ∧ zRT X3 1 0 ∧ zKp X X3) 55 [zR 139, zI a, zT, zI home, zI 0, zI 0] [] G Y) ∧ (b ≠ -1 → M_takenWith [zR 139, zI a, zI b, zI home] G Y (fun v9 X10 => ∃ r12, v9 = [zI r12] ∧ [zI r12] = v ∧ zRT X10 1 0 ∧ zKp X X10))) → M_taken [zR 139, zI a, zI b] G X2 (fun w X3 => w = v ∧ zRT X3 1 0 ∧ zKp X X3) := fun v X2 w2 k => by
      have h2 := zWk_RT w2 h
      have hp2 := q_pages h2
      have e12 : X2 1 12 = X 1 12 := by rw [w2 1 (by omega)]
      have b22 : M_taken_W (fun w X3 => w = v ∧ zRT X3 1 0 ∧ zKp X X3) 22 [zR 139, zI a, zI b, zT, zT, zT] [] G X2 := by
        refine M_taken_f22 hG (likeP_R hG h2 a0 (by omega) (fun Y w3 => ⟨_, rfl, ?_⟩))
        rw [zSee_w w2 a0 (by omega), w2 1 (by omega), zLi_w h w2 _ (by omega), hH]
        exact k Y (zWk_t w2 w3)
      exact M_taken_f0 hG (q_isPage hG hp2 (fun _ _ => ⟨1, rfl, fun z => absurd z (by omega), fun _ => ⟨fun _ => b22, fun c => q_mMade hG (fun _ => ⟨1, rfl, fun z => absurd z (by omega), fun _ => b22⟩) (fun d => absurd (by omega) d)⟩⟩) (fun d => absurd d (by omega)))
    refine D_taken_f22 hG (likeOf_C hG h a0 (by omega) (fun X2 w2 => ⟨_, rfl, ?_⟩))
    rw [hH]
    refine ⟨fun c => ?_, fun c => takenFrom_C hG h w2 a0 (by omega) (by omega) (by omega) (fun X3 w3 => ⟨_, rfl, mid _ X3 w3 (fun Y wy => ⟨fun d => absurd d c, fun _ => takenWith_R hG h wy a0 (by omega) (by omega) (by omega) hr (fun Y2 w4 => ⟨_, rfl, rfl, zWk_RT w4 h, zWk_Kp w4⟩)⟩)⟩)⟩
    have dl : ∀ {Q : List zV → zX → Prop}, (∀ X3 : zX, zWk X X3 → Q [zI (zEvr X a home 100)] X3) → ∀ (d k : Nat) (X3 : zX), k + d = 100 → zWk X X3 → D_taken_W Q 49 [zR 0, zI a, zT, zI home, zI (zEvr X a home k), zI (k : Int)] [] G X3 := by
      intro Q q d
      induction d with
      | zero =>
        intro k X3 e w3
        have q2 := q X3 w3
        rw [show (100 : Nat) = k by omega] at q2
        exact D_taken_f49 hG ⟨fun z => absurd z (by omega), fun _ => q2⟩
      | succ d ih =>
        intro k X3 e w3
        exact D_taken_f49 hG ⟨fun _ => takenFrom_C hG h w3 a0 (by omega) (by omega) (by omega) (fun X4 w4 => ⟨_, rfl, zw_id (by omega) (by omega), ih (k + 1) X4 (by omega) w4⟩), fun z => absurd z (by omega)⟩
    have ml : ∀ {Q : List zV → zX → Prop}, (∀ X3 : zX, zWk X X3 → Q [zI (zEvr X a home 100)] X3) → ∀ (d k : Nat) (X3 : zX), k + d = 100 → zWk X X3 → M_taken_W Q 55 [zR 139, zI a, zT, zI home, zI (zEvr X a home k), zI (k : Int)] [] G X3 := by
      intro Q q d
      induction d with
      | zero =>
        intro k X3 e w3
        have q2 := q X3 w3
        rw [show (100 : Nat) = k by omega] at q2
        exact M_taken_f55 hG ⟨fun z => absurd z (by omega), fun _ => q2⟩
      | succ d ih =>
        intro k X3 e w3
        exact M_taken_f55 hG ⟨fun _ => takenWith_R hG h w3 a0 (by omega) (by omega) (by omega) hr (fun X4 w4 => ⟨_, rfl, zw_id (by omega) (by omega), ih (k + 1) X4 (by omega) w4⟩), fun z => absurd z (by omega)⟩
    refine dl (fun X3 w3 => mid _ X3 w3 (fun Y wy => ⟨fun _ => ml (fun Y2 w4 => ⟨rfl, zWk_RT w4 h, zWk_Kp w4⟩) 100 0 Y (by omega) wy, fun d => absurd c d⟩)) 100 0 X2 (by omega) w2
  refine D_taken_f0 hG (q_dPage hG (fun a0 a1 => ⟨1, rfl, fun z => absurd z (by omega), fun _ => ⟨fun c => body a0 a1 (Or.inl c), fun c => q_dMade hG (fun d => ⟨1, rfl, fun z => absurd z (by omega), fun _ => body a0 a1 (Or.inr d)⟩) (fun d => ⟨0, rfl, fun _ => no (fun z => by omega), fun z => absurd rfl z⟩)⟩⟩) (fun c => ⟨0, rfl, fun _ => no (fun z => by omega), fun z => absurd rfl z⟩))
