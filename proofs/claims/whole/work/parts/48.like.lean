/-! ===== like, hides ===== -/
theorem zLk_min {X : zX} {F : zFo} {p land day than : Int} (t1 : than ≤ 999) : ∀ k : Nat, zLk X F p land day than k = min than (zLk X F p land day 999 k)
  | 0 => by
    show than = min than 999
    omega
  | k + 1 => by
    show min (zLk X F p land day than k) ((zd F (zSeH X p k land day) : Nat) : Int) = min than (min (zLk X F p land day 999 k) ((zd F (zSeH X p k land day) : Nat) : Int))
    rw [zLk_min t1 k]
    omega
noncomputable def zLh (X : zX) (F : zFo) (land day h : Int) : Int := zLk X F h land day 999 (X (23 + 6 * h) 2).toNat
noncomputable def zLi (X : zX) (F : zFo) (land day : Int) : Nat → Int × Int
  | 0 => (-1, 999)
  | h + 1 => if (zLi X F land day h).1 = -1 ∨ zLh X F land day h < (zLi X F land day h).2 then ((h : Int), zLh X F land day h) else zLi X F land day h
theorem zLi_p {X : zX} {F : zFo} {land day : Int} {h : Nat} (c : (zLi X F land day h).1 = -1 ∨ zLh X F land day h < (zLi X F land day h).2) : zLi X F land day (h + 1) = ((h : Int), zLh X F land day h) := if_pos c
theorem zLi_n {X : zX} {F : zFo} {land day : Int} {h : Nat} (c : ¬((zLi X F land day h).1 = -1 ∨ zLh X F land day h < (zLi X F land day h).2)) : zLi X F land day (h + 1) = zLi X F land day h := if_neg c
theorem zLh_in {X : zX} {F : zFo} {land day h : Int} : 0 ≤ zLh X F land day h ∧ zLh X F land day h ≤ 999 := zLk_in (by omega) _
theorem zLi_in {X : zX} {F : zFo} {land day : Int} : ∀ h : Nat, -1 ≤ (zLi X F land day h).1 ∧ (zLi X F land day h).1 < h ∧ 0 ≤ (zLi X F land day h).2 ∧ (zLi X F land day h).2 ≤ 999 ∧ ((zLi X F land day h).1 = -1 → (zLi X F land day h).2 = 999)
  | 0 => by unfold zLi; omega
  | h + 1 => by
    have z := zLi_in (X := X) (F := F) (land := land) (day := day) h
    have y := zLh_in (X := X) (F := F) (land := land) (day := day) (h := h)
    by_cases c : (zLi X F land day h).1 = -1 ∨ zLh X F land day h < (zLi X F land day h).2
    · rw [zLi_p c]
      simp only
      omega
    · rw [zLi_n c]
      omega
theorem zLh_w {X X2 : zX} {F : zFo} {land day h : Int} (hX : zRT X 1 0) (w : zWk X X2) (h0 : 0 ≤ h) (h1 : h < 5) : zLh X2 F land day h = zLh X F land day h := by
  have ow := q_own hX h0 h1
  unfold zLh
  rw [w (23 + 6 * h) (by omega), zLk_w w h0 h1 _ (by omega)]
theorem zLi_w {X X2 : zX} {F : zFo} {land day : Int} (hX : zRT X 1 0) (w : zWk X X2) : ∀ h : Nat, h ≤ 5 → zLi X2 F land day h = zLi X F land day h
  | 0, _ => rfl
  | h + 1, hh => by
    have z := zLi_w (F := F) (land := land) (day := day) hX w h (by omega)
    have y := zLh_w (F := F) (land := land) (day := day) (h := h) hX w (by omega) (by omega)
    show (if (zLi X2 F land day h).1 = -1 ∨ zLh X2 F land day h < (zLi X2 F land day h).2 then ((h : Int), zLh X2 F land day h) else zLi X2 F land day h) = (if (zLi X F land day h).1 = -1 ∨ zLh X F land day h < (zLi X F land day h).2 then ((h : Int), zLh X F land day h) else zLi X F land day h)
    rw [z, y]
theorem liken_C {Q : List zV → zX → Prop} {G : zG} {X : zX} {F : zFo} {land day : Int} (hG : SH G) (h : zRT X 1 0) (od : zOpd X 105 F) (lf : F.length ≤ 14)
    (q : ∀ X2 : zX, zWk X X2 → zOpd X2 105 F → X2 104 5 = (zLi X F land day (X 1 11).toNat).1 → X2 104 6 = (zLi X F land day (X 1 11).toNat).2 → Q [] X2) : Rm_liken [zR 104, zI land, zI day] G X Q := by
  have hh := q_houses h
  have lp : ∀ (d k : Nat) (Y : zX), (k : Int) + d = X 1 11 → zWk X Y → zOpd Y 105 F → Y 104 5 = (zLi X F land day k).1 → Y 104 6 = (zLi X F land day k).2 → Rm_liken_W Q 14 [zR 104, zI land, zI day, zI (k : Int), zT] [] G Y := by
    intro d
    induction d with
    | zero =>
      intro k Y e w oy e5 e6
      refine Rm_liken_f14 hG ?_
      rw [w 1 (by omega)]
      have q2 := q Y w oy
      rw [show (X 1 11).toNat = k by omega] at q2
      exact ⟨fun z => absurd z (by omega), fun _ => q2 e5 e6⟩
    | succ d ih =>
      intro k Y e w oy e5 e6
      have li := zLi_in (X := X) (F := F) (land := land) (day := day) k
      have hY := zWk_RT w h
      have lh := zLh_w (F := F) (land := land) (day := day) (h := k) h w (by omega) (by omega)
      refine Rm_liken_f14 hG ?_
      rw [w 1 (by omega), e6]
      refine ⟨fun _ => ⟨by omega, by omega, closer_C hG hY (by omega) (by omega) li.2.2.1 li.2.2.2.1 oy lf (fun X2 w2 o2 e4 => ⟨_, rfl, ?_⟩)⟩, fun z => absurd z (by omega)⟩
      have r : zLk Y F k land day (zLi X F land day k).2 (Y (23 + 6 * (k : Int)) 2).toNat = min (zLi X F land day k).2 (zLh X F land day k) := by
        rw [zLk_min li.2.2.2.1, ← lh]
        rfl
      rw [r, e4, e5, e6]
      have put : zLi X F land day (k + 1) = ((k : Int), zLh X F land day k) → zLh X F land day k ≤ (zLi X F land day k).2 → Rm_liken_W Q 63 [zR 104, zI land, zI day, zI (k : Int), zI (min (zLi X F land day k).2 (zLh X F land day k))] [] G X2 := fun eq le => by
        refine Rm_liken_f63 hG ⟨zw_id (by omega) (by omega), ?_⟩
        refine ih (k + 1) _ (by omega) (zWk_w (zWk_w (zWk_t w w2) (by omega)) (by omega)) (zOpd_c o2 (fun c c0 c1 => by rw [zrd_r (by omega), zrd_r (by omega)])) ?_ ?_
        · rw [eq, zrd_n (by omega), zrd_s]
        · rw [eq, zrd_s]
          simp only
          omega
      have lhi := zLh_in (X := X) (F := F) (land := land) (day := day) (h := k)
      refine ⟨fun c => put (zLi_p (Or.inl c)) (by have := li.2.2.2.2 c; omega), fun c => ⟨fun lt => put (zLi_p (Or.inr (by omega))) (by omega), fun ge => ⟨zw_id (by omega) (by omega), ?_⟩⟩⟩
      have eq : zLi X F land day (k + 1) = zLi X F land day k := zLi_n (fun z => by rcases z with z | z; exact c z; omega)
      refine ih (k + 1) X2 (by omega) (zWk_t w w2) o2 ?_ ?_
      · rw [eq, e4]
        exact e5
      · rw [eq, e4]
        exact e6
  refine Rm_liken_f0 hG (lp (X 1 11).toNat 0 _ (by omega) (zWk_w (zWk_w (zWk_r X) (by omega)) (by omega)) (zOpd_c od (fun c c0 c1 => by rw [zrd_r (by omega), zrd_r (by omega)])) ?_ ?_)
  · rw [zrd_n (by omega), zrd_s]
    rfl
  · rw [zrd_s]
    rfl
theorem likeNow_R {Q : List zV → zX → Prop} {G : zG} {Y : zX} {F : zFo} {land day : Int} {m : Nat} (hG : SH G) (h : zRT Y 1 0) (rf : zRf Y 0 m F)
    (q : ∀ Y2 : zX, zWk Y Y2 → ((zLi Y F land day (Y 1 11).toNat).1 ≠ -1 → Y2 139 30 = (zLi Y F land day (Y 1 11).toNat).2) → (∀ c : Int, c ≠ 15 → c ≠ 26 → c ≠ 27 → c ≠ 30 → Y2 139 c = Y 139 c) → Q [zI (zLi Y F land day (Y 1 11).toNat).1] Y2) : M_likeNow [zR 139, zI land, zI day] G Y Q := by
  have hh := q_houses h
  have lp : ∀ (d k : Nat) (Z : zX), (k : Int) + d = Y 1 11 → zWk Y Z → zRf Z 0 m F → ((zLi Y F land day k).1 ≠ -1 → Z 139 30 = (zLi Y F land day k).2) → (∀ c : Int, c ≠ 15 → c ≠ 26 → c ≠ 27 → c ≠ 30 → Z 139 c = Y 139 c) → M_likeNow_W Q 10 [zR 139, zI land, zI day, zI (zLi Y F land day k).1, zI (k : Int), zT] [] G Z := by
    intro d
    induction d with
    | zero =>
      intro k Z e w r e30 f9
      refine M_likeNow_f10 hG ?_
      rw [w 140 (by omega), hh.1]
      have q2 := q Z w
      rw [show (Y 1 11).toNat = k by omega] at q2
      exact ⟨fun z => absurd z (by omega), fun _ => q2 e30 f9⟩
    | succ d ih =>
      intro k Z e w r e30 f9
      have hZ := zWk_RT w h
      have li := zLi_in (X := Y) (F := F) (land := land) (day := day) k
      have lh := zLh_w (F := F) (land := land) (day := day) (h := k) h w (by omega) (by omega)
      refine M_likeNow_f10 hG ?_
      rw [w 140 (by omega), hh.1]
      refine ⟨fun _ => lookAt_R hG hZ (by omega) (by omega) r (fun Z2 w2 r2 z2 => ⟨_, rfl, ?_⟩), fun z => absurd z (by omega)⟩
      have ev : zLk Z F k land day 999 (Z (23 + 6 * (k : Int)) 2).toNat = zLh Y F land day k := lh
      rw [ev, z2 30 (by omega) (by omega) (by omega)]
      have put : zLi Y F land day (k + 1) = ((k : Int), zLh Y F land day k) → M_likeNow_W Q 47 [zR 139, zI land, zI day, zT, zI (k : Int), zI (zLh Y F land day k)] [] G Z2 := fun eq => by
        have nx := ih (k + 1) (zst Z2 139 30 (zLh Y F land day k)) (by omega) (zWk_w (zWk_t w w2) (by omega)) (zRf_c r2 (fun c p c0 c1 _ _ => by rw [zrd_r (by omega)]) (by rw [zrd_r (by omega)])) (fun _ => by rw [eq, zrd_s]) (fun c c0 c1 c2 c3 => by rw [zrd_n (by omega), z2 c c0 c1 c2]; exact f9 c c0 c1 c2 c3)
        rw [eq] at nx
        exact M_likeNow_f47 hG ⟨zw_id (by omega) (by omega), nx⟩
      refine ⟨fun c => put (zLi_p (Or.inl (by omega))), fun c => ⟨fun lt => put (zLi_p (Or.inr (by rw [e30 (by omega)] at lt; exact lt))), fun ge => ⟨zw_id (by omega) (by omega), ?_⟩⟩⟩
      have eq : zLi Y F land day (k + 1) = zLi Y F land day k := zLi_n (fun z => by
        rw [e30 (by omega)] at ge
        omega)
      have nx := ih (k + 1) Z2 (by omega) (zWk_t w w2) r2 (fun n => by rw [eq] at n ⊢; rw [z2 30 (by omega) (by omega) (by omega)]; exact e30 n) (fun c c0 c1 c2 c3 => by rw [z2 c c0 c1 c2]; exact f9 c c0 c1 c2 c3)
      rw [eq] at nx
      exact nx
  exact M_likeNow_f0 hG (lp (Y 1 11).toNat 0 _ (by omega) (zWk_w (zWk_r Y) (by omega)) (zRf_c rf (fun c p c0 c1 _ _ => by rw [zrd_r (by omega)]) (by rw [zrd_r (by omega)])) (fun n => absurd rfl n) (fun c c0 c1 c2 c3 => zrd_n (by omega)))
theorem likeOf_C {Q : List zV → zX → Prop} {G : zG} {X : zX} {p land day : Int} (hG : SH G) (h : zRT X 1 0) (p0 : 0 ≤ p) (p1 : p < 10) (q : ∀ X2 : zX, zWk X X2 → Q [zI (zLi X (zSee X p land day) land day (X 1 11).toNat).1] X2) : D_likeOf [zR 0, zI p, zI land, zI day] G X Q := by
  have hh := q_houses h
  refine D_likeOf_f0 hG ⟨p0, p1, see_P1 hG h p0 p1 (fun X2 w2 _ od => ⟨rfl, liken_C hG (zWk_RT w2 h) od (see_k h p0 p1).2 (fun X3 w3 _ e5 _ => ⟨rfl, ?_⟩)⟩)⟩
  rw [e5, w2 1 (by omega), zLi_w h w2 _ (by omega)]
  exact q X3 (zWk_t w2 w3)
theorem likeP_R {Q : List zV → zX → Prop} {G : zG} {Y : zX} {p land day : Int} (hG : SH G) (h : zRT Y 1 0) (p0 : 0 ≤ p) (p1 : p < 10) (q : ∀ Y2 : zX, zWk Y Y2 → Q [zI (zLi Y (zSee Y p land day) land day (Y 1 11).toNat).1] Y2) : M_shows [zR 139, zI p, zI land, zI day] G Y (fun v X2 => v = [] ∧ M_likeNow [zR 139, zI land, zI day] G X2 Q) := by
  have hh := q_houses h
  refine shows_R hG h p0 p1 (fun Y2 m w2 rf _ _ => ⟨rfl, likeNow_R hG (zWk_RT w2 h) rf (fun Y3 w3 _ _ => ?_)⟩)
  rw [w2 1 (by omega), zLi_w h w2 _ (by omega)]
  exact q Y3 (zWk_t w2 w3)
theorem op_like {G : zG} {X : zX} {a b c : Int} (hG : SH G) (h : zRT X 1 0) : zOp D_like M_like [zI a, zI b, zI c] [zI a, zI b, zI c] G X := by
  have hp := q_pages h
  have hh := q_houses h
  have no : ¬(0 ≤ a ∧ a < X 1 12 ∧ 0 ≤ b ∧ b ≤ 3 ∧ 0 ≤ c ∧ c ≤ 99) → M_like [zR 139, zI a, zI b, zI c] G X (fun w X2 => w = [zI (-1)] ∧ zRT X2 1 0 ∧ zKp X X2) := fun n => by
    refine M_like_f0 hG ?_
    (repeat' (first | (exact ⟨rfl, h, zKp_r X⟩) | (with_reducible exact rfl) | (with_reducible apply And.intro) | (with_reducible refine ⟨_, rfl, ?_⟩) | (with_reducible refine q_isIn hG (fun _ _ => ?_) (fun _ => ?_)) | (with_reducible refine q_isAddress hG (fun _ _ => ?_) (fun _ => ?_)) | (with_reducible refine q_isMade hG (fun _ _ => ?_) (fun _ => ?_)) | (with_reducible refine q_isPage hG (by assumption) (fun _ _ => ?_) (fun _ => ?_)) | (with_reducible refine q_isHouse hG (by assumption) (fun _ _ => ?_) (fun _ => ?_)) | (with_reducible refine q_dPage hG (fun _ _ => ?_) (fun _ => ?_)) | (with_reducible refine q_dHouse hG (fun _ _ => ?_) (fun _ => ?_)) | (with_reducible refine q_dDay hG (fun _ _ => ?_) (fun _ => ?_)) | (with_reducible refine q_dLand hG (fun _ _ => ?_) (fun _ => ?_)) | (with_reducible refine q_dPerson hG (fun _ => ?_) (fun _ => ?_)) | (with_reducible refine q_mPerson hG (fun _ => ?_) (fun _ => ?_)) | (with_reducible refine q_pageAt hG (by omega) (by omega) ?_) | (with_reducible refine q_houseAt hG (by omega) (by omega) ?_) | (with_reducible refine q_treeOf hG (by omega) (by omega) ?_) | (with_reducible intro hz; exfalso; omega) | (with_reducible intro _) | (with_reducible refine zw_id ?_ ?_) | omega | (simp only [zw]; omega)))
  refine D_like_f0 hG ?_
  (repeat' (first | (with_reducible exact no (by omega)) | (with_reducible exact rfl) | (with_reducible apply And.intro) | (with_reducible refine ⟨_, rfl, ?_⟩) | (with_reducible refine q_isIn hG (fun _ _ => ?_) (fun _ => ?_)) | (with_reducible refine q_isAddress hG (fun _ _ => ?_) (fun _ => ?_)) | (with_reducible refine q_isMade hG (fun _ _ => ?_) (fun _ => ?_)) | (with_reducible refine q_isPage hG (by assumption) (fun _ _ => ?_) (fun _ => ?_)) | (with_reducible refine q_isHouse hG (by assumption) (fun _ _ => ?_) (fun _ => ?_)) | (with_reducible refine q_dPage hG (fun _ _ => ?_) (fun _ => ?_)) | (with_reducible refine q_dHouse hG (fun _ _ => ?_) (fun _ => ?_)) | (with_reducible refine q_dDay hG (fun _ _ => ?_) (fun _ => ?_)) | (with_reducible refine q_dLand hG (fun _ _ => ?_) (fun _ => ?_)) | (with_reducible refine q_dPerson hG (fun _ => ?_) (fun _ => ?_)) | (with_reducible refine q_mPerson hG (fun _ => ?_) (fun _ => ?_)) | (with_reducible refine q_pageAt hG (by omega) (by omega) ?_) | (with_reducible refine q_houseAt hG (by omega) (by omega) ?_) | (with_reducible refine q_treeOf hG (by omega) (by omega) ?_) | (with_reducible intro hz; exfalso; omega) | (with_reducible intro _) | (with_reducible refine zw_id ?_ ?_) | omega | (simp only [zw]; omega)))
  refine likeOf_C hG h (by omega) (by omega) (fun X2 w2 => ⟨_, rfl, ?_⟩)
  have h2 := zWk_RT w2 h
  have hp2 := q_pages h2
  have e12 : X2 1 12 = X 1 12 := by rw [w2 1 (by omega)]
  refine M_like_f0 hG ?_
  (repeat' (first | (exact ⟨rfl, h, zKp_r X⟩) | (with_reducible exact rfl) | (with_reducible apply And.intro) | (with_reducible refine ⟨_, rfl, ?_⟩) | (with_reducible refine q_isIn hG (fun _ _ => ?_) (fun _ => ?_)) | (with_reducible refine q_isAddress hG (fun _ _ => ?_) (fun _ => ?_)) | (with_reducible refine q_isMade hG (fun _ _ => ?_) (fun _ => ?_)) | (with_reducible refine q_isPage hG (by assumption) (fun _ _ => ?_) (fun _ => ?_)) | (with_reducible refine q_isHouse hG (by assumption) (fun _ _ => ?_) (fun _ => ?_)) | (with_reducible refine q_dPage hG (fun _ _ => ?_) (fun _ => ?_)) | (with_reducible refine q_dHouse hG (fun _ _ => ?_) (fun _ => ?_)) | (with_reducible refine q_dDay hG (fun _ _ => ?_) (fun _ => ?_)) | (with_reducible refine q_dLand hG (fun _ _ => ?_) (fun _ => ?_)) | (with_reducible refine q_dPerson hG (fun _ => ?_) (fun _ => ?_)) | (with_reducible refine q_mPerson hG (fun _ => ?_) (fun _ => ?_)) | (with_reducible refine q_pageAt hG (by omega) (by omega) ?_) | (with_reducible refine q_houseAt hG (by omega) (by omega) ?_) | (with_reducible refine q_treeOf hG (by omega) (by omega) ?_) | (with_reducible intro hz; exfalso; omega) | (with_reducible intro _) | (with_reducible refine zw_id ?_ ?_) | omega | (simp only [zw]; omega)))
  refine likeP_R hG h2 (by omega) (by omega) (fun Y2 w3 => ⟨_, rfl, ?_, zWk_RT (zWk_t w2 w3) h, zWk_Kp (zWk_t w2 w3)⟩)
  rw [zSee_w w2 (by omega) (by omega), w2 1 (by omega), zLi_w h w2 _ (by omega)]
/-! hides -/
def zMxD (v : Int → Int → Int) (x : Int) : Nat → Int → Int → Int
  | 0, _, m => m
  | d + 1, k, m => zMxD v x d (k + 1) (max m (v x k))
def zMxM (v : Int → Int → Int) (x : Int) : Nat → Int → Int → Int
  | 0, _, m => m
  | d + 1, k, m => zMxM v x d (k + 1) (if m < v x k then v x k else m)
theorem op_hides {G : zG} {X : zX} {a b : Int} (hG : SH G) (h : zRT X 1 0) : zOp D_hides M_hides [zI a, zI b] [zI a, zI b] G X := by
  have hp := q_pages h
  have no : ¬(0 ≤ a ∧ a < X 1 12 ∧ 0 ≤ b ∧ b ≤ 99) → M_hides [zR 139, zI a, zI b] G X (fun w X2 => w = [zI (-1)] ∧ zRT X2 1 0 ∧ zKp X X2) := fun n => by
    refine M_hides_f0 hG ?_
    (repeat' (first | (exact ⟨rfl, h, zKp_r X⟩) | (with_reducible exact rfl) | (with_reducible apply And.intro) | (with_reducible refine ⟨_, rfl, ?_⟩) | (with_reducible refine q_isIn hG (fun _ _ => ?_) (fun _ => ?_)) | (with_reducible refine q_isAddress hG (fun _ _ => ?_) (fun _ => ?_)) | (with_reducible refine q_isMade hG (fun _ _ => ?_) (fun _ => ?_)) | (with_reducible refine q_isPage hG (by assumption) (fun _ _ => ?_) (fun _ => ?_)) | (with_reducible refine q_isHouse hG (by assumption) (fun _ _ => ?_) (fun _ => ?_)) | (with_reducible refine q_dPage hG (fun _ _ => ?_) (fun _ => ?_)) | (with_reducible refine q_dHouse hG (fun _ _ => ?_) (fun _ => ?_)) | (with_reducible refine q_dDay hG (fun _ _ => ?_) (fun _ => ?_)) | (with_reducible refine q_dLand hG (fun _ _ => ?_) (fun _ => ?_)) | (with_reducible refine q_dPerson hG (fun _ => ?_) (fun _ => ?_)) | (with_reducible refine q_mPerson hG (fun _ => ?_) (fun _ => ?_)) | (with_reducible refine q_pageAt hG (by omega) (by omega) ?_) | (with_reducible refine q_houseAt hG (by omega) (by omega) ?_) | (with_reducible refine q_treeOf hG (by omega) (by omega) ?_) | (with_reducible intro hz; exfalso; omega) | (with_reducible intro _) | (with_reducible refine zw_id ?_ ?_) | omega | (simp only [zw]; omega)))
  refine D_hides_f0 hG ?_
  (repeat' (first | (with_reducible exact no (by omega)) | (with_reducible exact rfl) | (with_reducible apply And.intro) | (with_reducible refine ⟨_, rfl, ?_⟩) | (with_reducible refine q_isIn hG (fun _ _ => ?_) (fun _ => ?_)) | (with_reducible refine q_isAddress hG (fun _ _ => ?_) (fun _ => ?_)) | (with_reducible refine q_isMade hG (fun _ _ => ?_) (fun _ => ?_)) | (with_reducible refine q_isPage hG (by assumption) (fun _ _ => ?_) (fun _ => ?_)) | (with_reducible refine q_isHouse hG (by assumption) (fun _ _ => ?_) (fun _ => ?_)) | (with_reducible refine q_dPage hG (fun _ _ => ?_) (fun _ => ?_)) | (with_reducible refine q_dHouse hG (fun _ _ => ?_) (fun _ => ?_)) | (with_reducible refine q_dDay hG (fun _ _ => ?_) (fun _ => ?_)) | (with_reducible refine q_dLand hG (fun _ _ => ?_) (fun _ => ?_)) | (with_reducible refine q_dPerson hG (fun _ => ?_) (fun _ => ?_)) | (with_reducible refine q_mPerson hG (fun _ => ?_) (fun _ => ?_)) | (with_reducible refine q_pageAt hG (by omega) (by omega) ?_) | (with_reducible refine q_houseAt hG (by omega) (by omega) ?_) | (with_reducible refine q_treeOf hG (by omega) (by omega) ?_) | (with_reducible intro hz; exfalso; omega) | (with_reducible intro _) | (with_reducible refine zw_id ?_ ?_) | omega | (simp only [zw]; omega)))
  have a0 : 0 ≤ a := by omega
  have a1 : a < 10 := by omega
  generalize hv : (fun x y : Int => ((zd (zSee X a x b) (zSee X a y b) : Nat) : Int)) = v
  have vd : ∀ x y : Int, v x y = ((zd (zSee X a x b) (zSee X a y b) : Nat) : Int) := fun x y => by rw [← hv]
  have vs : ∀ x y : Int, v x y = v y x := fun x y => by rw [vd, vd, zd_symm]
  -- class: one land against the later ones
  have di : ∀ {Q : List zV → zX → Prop} (x m2 : Int), 0 ≤ x → x < 4 → (∀ X2 : zX, zWk X X2 → D_hides_W Q 22 [zR 0, zI a, zI b, zI m2, zI (x + 1), zT] [] G X2) → ∀ (d : Nat) (k m : Int) (X2 : zX), zWk X X2 → zOpd X2 105 (zSee X a x b) → k + d = 4 → 0 ≤ k → zMxD v x d k m = m2 → D_hides_W Q 59 [zR 0, zI a, zI b, zI m, zI x, zI k] [] G X2 := by
    intro Q x m2 x0 x4 q d
    induction d with
    | zero =>
      intro k m X2 w od e k0 z
      have z2 : m = m2 := z
      rw [z2]
      exact D_hides_f59 hG ⟨fun z => absurd z (by omega), fun _ => ⟨zw_id (by omega) (by omega), q X2 w⟩⟩
    | succ d ih =>
      intro k m X2 w od e k0 z
      refine D_hides_f59 hG ⟨fun _ => ⟨a0, a1, see_P2 hG (zWk_RT w h) a0 a1 (fun X3 w3 f3 od2 => ⟨rfl, far_C hG (zOpd_c od (fun c c0 c1 => f3 c (by omega))) od2 (fun X4 f4 => ⟨_, rfl, zw_id (by omega) (by omega), ?_⟩)⟩)⟩, fun z => absurd z (by omega)⟩
      rw [zSee_w w a0 (by omega), ← vd]
      exact ih (k + 1) _ X4 (zWk_t (zWk_t w w3) (fun a ha => f4 a (by omega) (by omega))) (zOpd_c od (fun c c0 c1 => (f4 c (by omega) (by omega)).trans (f3 c (by omega)))) (by omega) (by omega) z
  have d22 : ∀ {Q : List zV → zX → Prop} (x m m2 : Int), 0 ≤ x → x < 4 → zMxD v x (3 - x).toNat (x + 1) m = m2 → (∀ X2 : zX, zWk X X2 → D_hides_W Q 22 [zR 0, zI a, zI b, zI m2, zI (x + 1), zT] [] G X2) → ∀ X2 : zX, zWk X X2 → D_hides_W Q 22 [zR 0, zI a, zI b, zI m, zI x, zT] [] G X2 := fun x m m2 x0 x4 e q X2 w =>
    D_hides_f22 hG ⟨fun _ => ⟨a0, a1, see_P1 hG (zWk_RT w h) a0 a1 (fun X3 w3 _ od => ⟨rfl, zw_id (by omega) (by omega), by
      rw [zSee_w w a0 (by omega)] at od
      exact di x m2 x0 x4 q (3 - x).toNat (x + 1) m X3 (zWk_t w w3) od (by omega) (by omega) e⟩)⟩, fun z => absurd z (by omega)⟩
  -- reference: one land against the earlier ones
  have mi : ∀ {Q : List zV → zX → Prop} (x m2 : Int), 0 ≤ x → x < 4 → (∀ X2 : zX, zWk X X2 → M_hides_W Q 25 [zR 139, zI a, zI b, zI m2, zI (x + 1), zT, zT] [] G X2) → ∀ (d : Nat) (k m : Int) (X2 : zX), zWk X X2 → k + d = x → 0 ≤ k → zMxM v x d k m = m2 → M_hides_W Q 34 [zR 139, zI a, zI b, zI m, zI x, zI k, zT] [] G X2 := by
    intro Q x m2 x0 x4 q d
    induction d with
    | zero =>
      intro k m X2 w e k0 z
      have z2 : m = m2 := z
      rw [z2]
      exact M_hides_f34 hG ⟨fun z => absurd z (by omega), fun _ => ⟨zw_id (by omega) (by omega), q X2 w⟩⟩
    | succ d ih =>
      intro k m X2 w e k0 z
      have h2 := zWk_RT w h
      refine M_hides_f34 hG ⟨fun _ => q_treeOf hG a0 a1 ⟨_, rfl, q_treeOf hG a0 a1 ⟨_, rfl, farOf_M hG h2 (txt_page h2 a0 a1) (txt_page h2 a0 a1) (by omega) (by omega) (fun Y2 w5 => ⟨_, rfl, ?_⟩)⟩⟩, fun z => absurd z (by omega)⟩
      rw [show (1 : Int) + (54 + 5 * a) = 55 + 5 * a by omega]
      have ev : ((zd (zFot (X2 (55 + 5 * a)) (X2 (54 + 5 * a) 1).toNat x b) (zFot (X2 (55 + 5 * a)) (X2 (54 + 5 * a) 1).toNat k b) : Nat) : Int) = v x k := by
        show ((zd (zSee X2 a x b) (zSee X2 a k b) : Nat) : Int) = v x k
        rw [zSee_w w a0 (by omega), zSee_w w a0 (by omega), vd]
      rw [ev]
      refine ⟨fun lt => ⟨zw_id (by omega) (by omega), ih (k + 1) _ Y2 (zWk_t w w5) (by omega) (by omega) ?_⟩, fun ge => ⟨zw_id (by omega) (by omega), ih (k + 1) _ Y2 (zWk_t w w5) (by omega) (by omega) ?_⟩⟩
      · rw [← z]
        show _ = zMxM v x d (k + 1) (if m < v x k then v x k else m)
        rw [if_pos lt]
      · rw [← z]
        show _ = zMxM v x d (k + 1) (if m < v x k then v x k else m)
        rw [if_neg (by omega)]
  have m25 : ∀ {Q : List zV → zX → Prop} (x m m2 : Int), 0 ≤ x → x < 4 → zMxM v x x.toNat 0 m = m2 → (∀ X2 : zX, zWk X X2 → M_hides_W Q 25 [zR 139, zI a, zI b, zI m2, zI (x + 1), zT, zT] [] G X2) → ∀ X2 : zX, zWk X X2 → M_hides_W Q 25 [zR 139, zI a, zI b, zI m, zI x, zT, zT] [] G X2 := fun x m m2 x0 x4 e q X2 w =>
    M_hides_f25 hG ⟨fun _ => mi x m2 x0 x4 q x.toNat 0 m X2 w (by omega) (by omega) e, fun z => absurd z (by omega)⟩
  refine d22 0 0 _ (by omega) (by omega) rfl (d22 1 _ _ (by omega) (by omega) rfl (d22 2 _ _ (by omega) (by omega) rfl (d22 3 _ _ (by omega) (by omega) rfl (fun X3 w3 => D_hides_f22 hG ⟨fun z => absurd z (by omega), fun _ => ?_⟩)))) X (zWk_r X)
  have h3 := zWk_RT w3 h
  have hp3 := q_pages h3
  have e12 : X3 1 12 = X 1 12 := by rw [w3 1 (by omega)]
  refine M_hides_f0 hG ?_
  (repeat' (first | (exact ⟨rfl, h, zKp_r X⟩) | (with_reducible exact rfl) | (with_reducible apply And.intro) | (with_reducible refine ⟨_, rfl, ?_⟩) | (with_reducible refine q_isIn hG (fun _ _ => ?_) (fun _ => ?_)) | (with_reducible refine q_isAddress hG (fun _ _ => ?_) (fun _ => ?_)) | (with_reducible refine q_isMade hG (fun _ _ => ?_) (fun _ => ?_)) | (with_reducible refine q_isPage hG (by assumption) (fun _ _ => ?_) (fun _ => ?_)) | (with_reducible refine q_isHouse hG (by assumption) (fun _ _ => ?_) (fun _ => ?_)) | (with_reducible refine q_dPage hG (fun _ _ => ?_) (fun _ => ?_)) | (with_reducible refine q_dHouse hG (fun _ _ => ?_) (fun _ => ?_)) | (with_reducible refine q_dDay hG (fun _ _ => ?_) (fun _ => ?_)) | (with_reducible refine q_dLand hG (fun _ _ => ?_) (fun _ => ?_)) | (with_reducible refine q_dPerson hG (fun _ => ?_) (fun _ => ?_)) | (with_reducible refine q_mPerson hG (fun _ => ?_) (fun _ => ?_)) | (with_reducible refine q_pageAt hG (by omega) (by omega) ?_) | (with_reducible refine q_houseAt hG (by omega) (by omega) ?_) | (with_reducible refine q_treeOf hG (by omega) (by omega) ?_) | (with_reducible intro hz; exfalso; omega) | (with_reducible intro _) | (with_reducible refine zw_id ?_ ?_) | omega | (simp only [zw]; omega)))
  refine m25 0 0 _ (by omega) (by omega) rfl (m25 1 _ _ (by omega) (by omega) rfl (m25 2 _ _ (by omega) (by omega) rfl (m25 3 _ _ (by omega) (by omega) rfl (fun X4 w4 => M_hides_f25 hG ⟨fun z => absurd z (by omega), fun _ => ⟨?_, zWk_RT w4 h, zWk_Kp w4⟩⟩)))) X3 w3
  have p01 := vs 1 0
  have p02 := vs 2 0
  have p03 := vs 3 0
  have p12 := vs 2 1
  have p13 := vs 3 1
  have p23 := vs 3 2
  have n01 : 0 ≤ v 0 1 := by rw [vd]; omega
  have e : ∀ u w2 : Int, u = w2 → [zI u] = [zI w2] := fun u w2 e => by rw [e]
  refine e _ _ ?_
  show (let m1 := 0; let m2 := (if m1 < v 1 0 then v 1 0 else m1); let m3 := (if m2 < v 2 0 then v 2 0 else m2); let m4 := (if m3 < v 2 1 then v 2 1 else m3); let m5 := (if m4 < v 3 0 then v 3 0 else m4); let m6 := (if m5 < v 3 1 then v 3 1 else m5); (if m6 < v 3 2 then v 3 2 else m6)) = max (max (max (max (max (max 0 (v 0 1)) (v 0 2)) (v 0 3)) (v 1 2)) (v 1 3)) (v 2 3)
  simp only
  rw [p01, p02, p03, p12, p13, p23]
  repeat' split
  all_goals omega
