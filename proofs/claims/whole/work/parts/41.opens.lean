/-! ===== a page opened, reference ===== -/
def zZc (g : Nat → Nat × Int × Int) (a : Nat → Nat) : Nat → Nat → zFo
  | 0, _ => []
  | f + 1, t => if t = 0 then [] else zmr (zLs g (a t + 1) (t - a t - 1)) ++ zZc g a f (a t)
theorem zZc_st {g : Nat → Nat × Int × Int} {a : Nat → Nat} {m : Nat} (pl : ∀ j, 0 < j → j < m → a j < j) : ∀ (f f2 t : Nat), t < m → t ≤ f → t ≤ f2 → zZc g a f t = zZc g a f2 t := by
  intro f
  induction f with
  | zero =>
    intro f2 t tm h1 h2
    have t0 : t = 0 := by omega
    subst t0
    cases f2 <;> rfl
  | succ f ih =>
    intro f2 t tm h1 h2
    by_cases t0 : t = 0
    · subst t0
      cases f2 <;> rfl
    · cases f2 with
      | zero => omega
      | succ f2 =>
        have p := pl t (by omega) tm
        show (if t = 0 then [] else zmr (zLs g (a t + 1) (t - a t - 1)) ++ zZc g a f (a t)) = (if t = 0 then [] else zmr (zLs g (a t + 1) (t - a t - 1)) ++ zZc g a f2 (a t))
        rw [ih f2 (a t) (by omega) (by omega) (by omega)]
def zocl (g : Nat → Nat × Int × Int) (a : Nat → Nat) (t : Nat) : zFo := zZc g a t t
theorem zocl_0 {g : Nat → Nat × Int × Int} {a : Nat → Nat} : zocl g a 0 = [] := rfl
theorem zocl_s {g : Nat → Nat × Int × Int} {a : Nat → Nat} {m t : Nat} (pl : ∀ j, 0 < j → j < m → a j < j) (t0 : 0 < t) (tm : t < m) : zocl g a t = zmr (zLs g (a t + 1) (t - a t - 1)) ++ zocl g a (a t) := by
  have p := pl t t0 tm
  obtain ⟨f, rfl⟩ : ∃ f, t = f + 1 := ⟨t - 1, by omega⟩
  show (if f + 1 = 0 then [] else zmr (zLs g (a (f + 1) + 1) (f + 1 - a (f + 1) - 1)) ++ zZc g a f (a (f + 1))) = _
  rw [if_neg (by omega)]
  unfold zocl
  rw [zZc_st pl f (a (f + 1)) (a (f + 1)) (by omega) (by omega) (Nat.le_refl _)]
theorem zocl_len {g : Nat → Nat × Int × Int} {a : Nat → Nat} {m : Nat} (pl : ∀ j, 0 < j → j < m → a j < j) : ∀ t : Nat, t < m → (zocl g a t).length ≤ t := by
  intro t
  induction t using Nat.strongRecOn with
  | _ t ih =>
    intro tm
    by_cases t0 : t = 0
    · subst t0
      exact Nat.le_refl _
    · have p := pl t (by omega) tm
      have z := ih (a t) p (by omega)
      rw [zocl_s pl (by omega) tm, List.length_append, zmr_len, zLs_len]
      omega
/-- the closed ones, the last first -/
def zEn (Y : zX) (s : Int) : Nat → zFo
  | 0 => []
  | p + 1 => (((p : Int) - Y 154 (16 * s + p) + 1).toNat, Y 152 (16 * s + p), Y 153 (16 * s + p)) :: zEn Y s p
theorem zEn_c {Y Z : zX} {s : Int} : ∀ L : Nat, (∀ p : Nat, p < L → Z 152 (16 * s + p) = Y 152 (16 * s + p) ∧ Z 153 (16 * s + p) = Y 153 (16 * s + p) ∧ Z 154 (16 * s + p) = Y 154 (16 * s + p)) → zEn Z s L = zEn Y s L
  | 0, _ => rfl
  | p + 1, h => by
    have z := h p (by omega)
    have ih := zEn_c p (fun q hq => h q (by omega))
    show (((p : Int) - Z 154 (16 * s + p) + 1).toNat, Z 152 (16 * s + p), Z 153 (16 * s + p)) :: zEn Z s p = (((p : Int) - Y 154 (16 * s + p) + 1).toNat, Y 152 (16 * s + p), Y 153 (16 * s + p)) :: zEn Y s p
    rw [ih, z.1, z.2.1, z.2.2]
theorem zEn_len (Y : zX) (s : Int) : ∀ L : Nat, (zEn Y s L).length = L
  | 0 => rfl
  | p + 1 => by
    show (zEn Y s p).length + 1 = p + 1
    rw [zEn_len Y s p]
def zoAs (K w : Int → Int) : Nat → Int
  | 0 => 0
  | n + 1 => zoAs K w n + w (K ((n + 1 : Nat) : Int))
def zFr (Y0 Y : zX) (s : Int) : Prop := (∀ c : Int, c ≠ 139 → (c < 147 ∨ 154 < c) → Y c = Y0 c) ∧ (∀ p : Int, p ≠ 26 → p ≠ 27 → Y 139 p = Y0 139 p) ∧ (∀ c p : Int, 152 ≤ c → c ≤ 154 → (p < 16 * s ∨ 16 * s + 16 ≤ p) → Y c p = Y0 c p) ∧ (∀ p : Int, p ≠ s → Y 151 p = Y0 151 p)
theorem zFr_r (Y : zX) (s : Int) : zFr Y Y s := ⟨fun _ _ _ => rfl, fun _ _ _ => rfl, fun _ _ _ _ _ => rfl, fun _ _ => rfl⟩
theorem zFr_w {Y0 Y : zX} {s c p v : Int} (h : zFr Y0 Y s) (ok : (c = 139 ∧ (p = 26 ∨ p = 27)) ∨ (147 ≤ c ∧ c ≤ 150) ∨ (152 ≤ c ∧ c ≤ 154 ∧ 16 * s ≤ p ∧ p < 16 * s + 16) ∨ (c = 151 ∧ p = s)) : zFr Y0 (zst Y c p v) s :=
  ⟨fun d d1 d2 => (zrd_r (by omega)).trans (h.1 d d1 d2), fun q q1 q2 => (zrd_n (by omega)).trans (h.2.1 q q1 q2), fun d q d1 d2 d3 => (zrd_n (by omega)).trans (h.2.2.1 d q d1 d2 d3), fun q q1 => (zrd_n (by omega)).trans (h.2.2.2 q q1)⟩
def zMt (Y : zX) (T0 : Int) (r : Int → Int) (cnt : Nat) : Prop := Y 139 15 = T0 ∧ 0 ≤ T0 ∧ T0 + 71 < 22080 ∧ Y 140 T0 = cnt ∧ ∀ k : Nat, k < cnt → (Y 145 k ≠ 0 ↔ r (5 * k) = 8) ∧ (r (5 * k) ≠ 8 → Y 140 (T0 + 1 + 5 * k + 0) = r (5 * k) ∧ 0 ≤ r (5 * k) ∧ r (5 * k) ≤ 7 ∧ Y 146 k = r (5 * k + 1)) ∧ Y 140 (T0 + 1 + 5 * k + 2) = r (5 * k + 2) ∧ Y 140 (T0 + 1 + 5 * k + 3) = r (5 * k + 3) ∧ Y 140 (T0 + 1 + 5 * k + 4) = r (5 * k + 4)
theorem boxOf_M {Q : List zV → zX → Prop} {G : zG} {Y : zX} {T0 k w : Int} (hG : SH G) (h0 : Y 139 15 = T0) (h1 : 0 ≤ T0) (h2 : T0 + 71 < 22080) (k0 : 0 ≤ k) (k1 : k < 14) (w0 : 0 ≤ w) (w1 : w < 5) (q : Q [zI (Y 140 (T0 + 1 + 5 * k + w))] Y) : M_boxOf [zR 139, zI k, zI w] G Y Q := by
  refine M_boxOf_f0 hG ?_
  rw [h0]
  exact ⟨zw_id (by omega) (by omega), by rw [zw_id (x := 5 * k) (by omega) (by omega)]; exact zw_id (by omega) (by omega), zw_id (by omega) (by omega), by omega, by omega, q⟩
/-- the stack: the box of number t and those it is in -/
def zoSk (Y : zX) (r N : Int → Int) (a : Nat → Nat) (cnt : Nat) (lz : Nat → Nat) : Nat → Nat → Prop
  | 0, t => t = 0
  | h + 1, t => 0 < t ∧ (∃ u : Nat, u < cnt ∧ Y 149 h = u ∧ N u ≠ -1 ∧ r (5 * u) ≠ 8 ∧ zCt r N u = t ∧ Y 150 u = lz t) ∧ zoSk Y r N a cnt lz h (a t)
theorem zoSk_le {Y : zX} {r N : Int → Int} {a lz : Nat → Nat} {cnt m : Nat} (pl : ∀ j, 0 < j → j < m → a j < j) : ∀ (h t : Nat), t < m → zoSk Y r N a cnt lz h t → h ≤ t
  | 0, t, _, _ => Nat.zero_le _
  | h + 1, t, tm, s => by
    have p := pl t s.1 tm
    have z := zoSk_le pl h (a t) (by omega) s.2.2
    omega
theorem zoSk_c {Y Z : zX} {r N : Int → Int} {a lz : Nat → Nat} {cnt k : Nat} : ∀ (h t : Nat), (∀ i : Nat, i < h → Z 149 i = Y 149 i) → (∀ u : Nat, u < cnt → Z 150 u = Y 150 u) → cnt ≤ k → zoSk Y r N a cnt lz h t → zoSk Z r N a k lz h t
  | 0, t, _, _, _, s => s
  | h + 1, t, h1, h2, h3, s => by
    obtain ⟨s1, ⟨u, u1, u2, u3, u4, u5, u6⟩, s3⟩ := s
    exact ⟨s1, ⟨u, by omega, by rw [h1 h (by omega)]; exact u2, u3, u4, u5, by rw [h2 u u1]; exact u6⟩, zoSk_c h (a t) (fun i hi => h1 i (by omega)) h2 h3 s3⟩
/-- what one box more closed does to the lists -/
theorem z_close {m : Nat} {b a : Nat → Nat} {g : Nat → Nat × Int × Int} (tr : zTr m b) (hg : ∀ i, (g i).1 = b i - i) (pa : ∀ j, 0 < j → j < m → a j < j ∧ j < b (a j) ∧ ∀ i, i < j → j < b i → i ≤ a j) {t j : Nat} (t0 : 0 < t) (tj : t ≤ j) (jm : j < m) (bt : b t = j + 1) : g t :: (zmr (zLs g (t + 1) (j - t)) ++ zocl g a t) = zmr (zLs g (a t + 1) (j - a t)) ++ zocl g a (a t) := by
  have p := pa t t0 (by omega)
  have e1 : zLs g (a t + 1) (j - a t) = zLs g (a t + 1) (t - a t - 1) ++ zLs g t (j + 1 - t) := by
    have z := zLs_app g (t - a t - 1) (a t + 1) (j + 1 - t)
    rw [show t - a t - 1 + (j + 1 - t) = j - a t by omega, show a t + 1 + (t - a t - 1) = t by omega] at z
    exact z
  have e2 : zLs g t (j + 1 - t) = g t :: zLs g (t + 1) (j - t) := by
    rw [show j + 1 - t = (j - t) + 1 by omega]
    rfl
  have w1 : zwf (zLs g (a t + 1) (t - a t - 1)) := zLs_wf tr hg _ _ (by omega) (fun k k0 k1 => by
    -- a tree between the two ends before t
    by_cases c : b k ≤ t
    · omega
    · have z := p.2.2 k (by omega) (by omega)
      omega)
  rw [e1, zmr_app _ _ _ (Nat.le_refl _) w1, e2, zmr_c, hg, bt, zLs_take (by omega), zLs_drop (by omega), show j - t - (j + 1 - t - 1) = 0 by omega, show j + 1 - t - 1 = j - t by omega, zocl_s (m := m) (fun j j0 j1 => (pa j j0 j1).1) t0 (by omega)]
  show g t :: (zmr (zLs g (t + 1) (j - t)) ++ (zmr (zLs g (a t + 1) (t - a t - 1)) ++ zocl g a (a t))) = (([] ++ (g t :: zmr (zLs g (t + 1) (j - t)))) ++ zmr (zLs g (a t + 1) (t - a t - 1))) ++ zocl g a (a t)
  rw [List.nil_append, List.cons_append, List.cons_append, List.append_assoc]
theorem opens_M {Q : List zV → zX → Prop} {G : zG} {Y0 X1 : zX} {s land day T0 o : Int} {r w : Int → Int} {cnt m : Nat} {b a : Nat → Nat} (hG : SH G) (s0 : 0 ≤ s) (s1 : s < 2) (c14 : cnt ≤ 14) (tx : zOtx X1 o r cnt land day) (hm : zCt r (X1 (o + 5)) cnt = m) (op : zOpn X1 o m b a) (mt : zMt Y0 T0 r cnt) (x9 : ∀ k : Nat, k < cnt → -1 ≤ r (5 * k + 3)) (hww : ∀ j : Int, 0 ≤ j → j < 8 → Y0 140 (10 + j) = w j ∧ 0 ≤ w j ∧ w j ≤ 99)
    (q : ∀ Y2 : zX, zFr Y0 Y2 s → Y2 139 26 = (m : Int) - 1 → Y2 139 27 = zoAs (X1 (o + 1)) w (m - 1) → Y2 151 s = m → zEn Y2 s (m - 1) = zmr (zLs (zGl2 X1 o b) 1 (m - 1)) → (∀ p : Nat, p < m → 0 ≤ Y2 154 (16 * s + p) ∧ Y2 154 (16 * s + p) ≤ p) → Y2 152 (16 * s + (m - 1 : Nat)) = -1 → Y2 153 (16 * s + (m - 1 : Nat)) = 0 → Y2 154 (16 * s + (m - 1 : Nat)) = 0 → (∀ p : Nat, p < m - 1 → 0 ≤ Y2 152 (16 * s + p)) → Q [] Y2) : M_opens [zR 139, zI s, zI land, zI day] G Y0 Q := by
  obtain ⟨cm, m0, m15, hb, ha, tr, b0, pa⟩ := op
  obtain ⟨tr0, T00, T01, tcn, tk⟩ := mt
  obtain ⟨x1, x2, x3, x4, x5⟩ := tx
  have pl : ∀ j, 0 < j → j < m → a j < j := fun j j0 j1 => (pa j j0 j1).1
  have hg : ∀ i, (zGl2 X1 o b i).1 = b i - i := fun _ => rfl
  -- of a box that is shown and not gone
  have ad : ∀ k : Nat, k < cnt → X1 (o + 5) k ≠ -1 → r (5 * k) ≠ 8 → zPr r (X1 (o + 5)) k ≠ -1 ∧ zSw r land day k ∧ X1 (o + 5) k = zCt r (X1 (o + 5)) k ∧ (a (zCt r (X1 (o + 5)) k) : Int) = zPr r (X1 (o + 5)) k ∧ X1 (o + 1) (zCt r (X1 (o + 5)) k : Nat) = r (5 * k) ∧ X1 (o + 2) (zCt r (X1 (o + 5)) k : Nat) = r (5 * k + 1) ∧ zCt r (X1 (o + 5)) k < m := fun k hk h1 h2 => by
    have z := (x5 k hk).2
    unfold zOtb at z
    have pn : zPr r (X1 (o + 5)) k ≠ -1 := fun c => h1 (z.1 c)
    have lt : zCt r (X1 (o + 5)) k < m := by
      have c := zCt_m (r := r) (N := X1 (o + 5)) (show k + 1 ≤ cnt by omega)
      rw [zCt_p ⟨h1, h2⟩] at c
      omega
    by_cases sw : zSw r land day k
    · have y := z.2.2.1 pn h2 sw
      have e := ha (zCt r (X1 (o + 5)) k) lt
      exact ⟨pn, sw, y.1, by omega, y.2.2.1, y.2.2.2, lt⟩
    · exact absurd (z.2.2.2 pn h2 sw) h1
  -- one that is closed
  have cls : ∀ (Y : zX) (u L t j h : Nat) (P : List zV → zX → Prop), zFr Y0 Y s → u < cnt → X1 (o + 5) u ≠ -1 → r (5 * u) ≠ 8 → zCt r (X1 (o + 5)) u = t → Y 150 u = (zocl (zGl2 X1 o b) a t).length → 0 < t → t ≤ j → j < m → b t = j + 1 → Y 151 s = L → L < 15 → zEn Y s L = zmr (zLs (zGl2 X1 o b) (t + 1) (j - t)) ++ zocl (zGl2 X1 o b) a t → (∀ p : Nat, p < L → 0 ≤ Y 154 (16 * s + p) ∧ Y 154 (16 * s + p) ≤ p) → (∀ p : Nat, p < L → 0 ≤ Y 152 (16 * s + p)) → (∀ Z : zX, zFr Y0 Z s → (∀ c : Int, c ≠ 151 → c ≠ 152 → c ≠ 153 → c ≠ 154 → Z c = Y c) → Z 151 s = (L : Int) + 1 → zEn Z s (L + 1) = zmr (zLs (zGl2 X1 o b) (a t + 1) (j - a t)) ++ zocl (zGl2 X1 o b) a (a t) → (∀ p : Nat, p < L + 1 → 0 ≤ Z 154 (16 * s + p) ∧ Z 154 (16 * s + p) ≤ p) → (∀ p : Nat, p < L + 1 → 0 ≤ Z 152 (16 * s + p)) → P [] Z) → M_closes [zR 139, zI s, zI (u : Int)] G Y P := by
    intro Y u L t j h P fr uc un ug ut ub t0 tj jm bt hL L15 en ef ek k
    have au := ad u uc un ug
    have f139 : Y 139 15 = T0 := by rw [fr.2.1 15 (by omega) (by omega)]; exact tr0
    have tu := (tk u uc).2.1 ug
    have len : L = (j - t) + (zocl (zGl2 X1 o b) a t).length := by
      have z := congrArg List.length en
      rw [zEn_len, List.length_append, zmr_len, zLs_len] at z
      exact z
    refine M_closes_f0 hG ?_
    rw [hL]
    refine ⟨zw_id (by omega) (by omega), s0, s1, zw_id (by omega) (by omega), boxOf_M hG f139 T00 T01 (by omega) (by omega) (by omega) (by omega) ⟨_, rfl, by omega, by omega, by omega, by omega, fun X5 e5 => ?_⟩⟩
    rw [zrd_r (b := 146) (by omega), fr.1 140 (by omega) (by omega), tu.1, fr.1 146 (by omega) (by omega), tu.2.2.2] at e5
    have r150 : X5 150 u = (zocl (zGl2 X1 o b) a t).length := by rw [e5, zrd_r (by omega), zrd_r (by omega)]; exact ub
    have r151 : ∀ v : Int, zst X5 154 (16 * s + L) v 151 s = L := fun v => by rw [zrd_n (by omega), e5, zrd_r (by omega), zrd_r (by omega)]; exact hL
    rw [r151, r150]
    refine ⟨zw_id (by omega) (by omega), fun X6 e6 => ?_⟩
    have q152 : ∀ p : Int, X6 152 p = if p = 16 * s + L then r (5 * u) else Y 152 p := fun p => by
      rw [e6, zrd_n (by omega), zrd_n (by omega), e5, zrd_n (by omega), zrd_e]
      by_cases c : p = 16 * s + L
      · rw [if_pos ⟨rfl, c⟩, if_pos c]
      · rw [if_neg (fun z => c z.2), if_neg c]
    have q153 : ∀ p : Int, X6 153 p = if p = 16 * s + L then r (5 * u + 1) else Y 153 p := fun p => by
      rw [e6, zrd_n (by omega), zrd_n (by omega), e5, zrd_e]
      by_cases c : p = 16 * s + L
      · rw [if_pos ⟨rfl, c⟩, if_pos c]
      · rw [if_neg (fun z => c z.2), if_neg c, zrd_n (by omega)]
    have q154 : ∀ p : Int, X6 154 p = if p = 16 * s + L then ((zocl (zGl2 X1 o b) a t).length : Int) else Y 154 p := fun p => by
      rw [e6, zrd_n (by omega), zrd_e]
      by_cases c : p = 16 * s + L
      · rw [if_pos ⟨rfl, c⟩, if_pos c]
      · rw [if_neg (fun z => c z.2), if_neg c, e5, zrd_r (by omega), zrd_r (by omega)]
    refine k X6 ?_ (fun c c1 c2 c3 c4 => ?_) ?_ ?_ (fun p hp => ?_) (fun p hp => ?_)
    · rw [e6, e5]
      exact zFr_w (zFr_w (zFr_w (zFr_w fr (by omega)) (by omega)) (by omega)) (by omega)
    · rw [e6, zrd_r (by omega), zrd_r (by omega), e5, zrd_r (by omega), zrd_r (by omega)]
    · rw [e6, zrd_s]
    · have e : zEn X6 s L = zEn Y s L := zEn_c L (fun p hp => ⟨by rw [q152, if_neg (by omega)], by rw [q153, if_neg (by omega)], by rw [q154, if_neg (by omega)]⟩)
      show (((L : Int) - X6 154 (16 * s + L) + 1).toNat, X6 152 (16 * s + L), X6 153 (16 * s + L)) :: zEn X6 s L = _
      rw [e, en, q152, q153, q154, if_pos rfl, if_pos rfl, if_pos rfl, ← z_close tr hg pa t0 tj jm bt]
      have gt : zGl2 X1 o b t = (((L : Int) - ((zocl (zGl2 X1 o b) a t).length : Int) + 1).toNat, r (5 * u), r (5 * u + 1)) := by
        show (b t - t, X1 (o + 1) t, X1 (o + 2) t) = _
        rw [ut] at au
        rw [au.2.2.2.2.1, au.2.2.2.2.2.1]
        rw [show b t - t = ((L : Int) - ((zocl (zGl2 X1 o b) a t).length : Int) + 1).toNat by omega]
      rw [gt]
    · rw [q154]
      split
      · omega
      · exact ef p (by omega)
    · rw [q152]
      split
      · omega
      · exact ek p (by omega)
  -- the end: all that are open are closed, then the page itself
  have last : ∀ (h t L : Nat) (Y : zX), t < m → zFr Y0 Y s → (0 < t → m - 1 < b t) → zoSk Y r (X1 (o + 5)) a cnt (fun t => (zocl (zGl2 X1 o b) a t).length) h t → Y 151 s = L → zEn Y s L = zmr (zLs (zGl2 X1 o b) (t + 1) (m - 1 - t)) ++ zocl (zGl2 X1 o b) a t → (∀ p : Nat, p < L → 0 ≤ Y 154 (16 * s + p) ∧ Y 154 (16 * s + p) ≤ p) → (∀ p : Nat, p < L → 0 ≤ Y 152 (16 * s + p)) → Y 139 26 = (m : Int) - 1 → Y 139 27 = zoAs (X1 (o + 1)) w (m - 1) → M_opens_W Q 295 [zR 139, zI s, zT, zT, zI (h : Int), zT, zT, zT] [] G Y := by
    intro h
    induction h with
    | zero =>
      intro t L Y tm fr bt sk hL en ef ek h26 h27
      have t0 : t = 0 := sk
      subst t0
      rw [zocl_0, List.append_nil] at en
      have len : L = m - 1 := by
        have z := congrArg List.length en
        rw [zEn_len, zmr_len, zLs_len] at z
        omega
      refine M_opens_f295 hG ⟨fun z => absurd z (by omega), fun _ => ?_⟩
      have r1 : ∀ v : Int, zst Y 152 (16 * s + L) v 151 s = L := fun v => (zrd_n (by omega)).trans hL
      rw [hL, r1]
      refine ⟨zw_id (by omega) (by omega), s0, s1, zw_id (by omega) (by omega), by omega, by omega, zw_id (by omega) (by omega), by omega, by omega, fun X5 e5 => ?_⟩
      have r2 : X5 151 s = L := by rw [e5, zrd_n (by omega)]; exact r1 _
      have r3 : ∀ v : Int, zst X5 154 (16 * s + L) v 151 s = L := fun v => (zrd_n (by omega)).trans r2
      rw [r2, r3]
      refine ⟨zw_id (by omega) (by omega), by omega, by omega, zw_id (by omega) (by omega), fun X6 e6 => ?_⟩
      have q152 : ∀ p : Int, X6 152 p = if p = 16 * s + L then -1 else Y 152 p := fun p => by
        rw [e6, zrd_n (by omega), zrd_n (by omega), e5, zrd_n (by omega), zrd_e]
        by_cases c : p = 16 * s + L
        · rw [if_pos ⟨rfl, c⟩, if_pos c]
        · rw [if_neg (fun z => c z.2), if_neg c]
      have q153 : ∀ p : Int, X6 153 p = if p = 16 * s + L then 0 else Y 153 p := fun p => by
        rw [e6, zrd_n (by omega), zrd_n (by omega), e5, zrd_e]
        by_cases c : p = 16 * s + L
        · rw [if_pos ⟨rfl, c⟩, if_pos c]
        · rw [if_neg (fun z => c z.2), if_neg c, zrd_n (by omega)]
      have q154 : ∀ p : Int, X6 154 p = if p = 16 * s + L then 0 else Y 154 p := fun p => by
        rw [e6, zrd_n (by omega), zrd_e]
        by_cases c : p = 16 * s + L
        · rw [if_pos ⟨rfl, c⟩, if_pos c]
        · rw [if_neg (fun z => c z.2), if_neg c, e5, zrd_r (by omega), zrd_r (by omega)]
      refine q X6 ?_ ?_ ?_ ?_ ?_ (fun p hp => ?_) ?_ ?_ ?_ (fun p hp => ?_)
      · rw [e6, e5]
        exact zFr_w (zFr_w (zFr_w (zFr_w fr (by omega)) (by omega)) (by omega)) (by omega)
      · rw [e6, zrd_n (by omega), zrd_n (by omega), e5, zrd_n (by omega), zrd_n (by omega)]
        exact h26
      · rw [e6, zrd_n (by omega), zrd_n (by omega), e5, zrd_n (by omega), zrd_n (by omega)]
        exact h27
      · rw [e6, zrd_s]
        omega
      · rw [← len, zEn_c L (fun p hp => ⟨by rw [q152, if_neg (by omega)], by rw [q153, if_neg (by omega)], by rw [q154, if_neg (by omega)]⟩), en, len]
        rfl
      · rw [q154]
        split
        · omega
        · exact ef p (by omega)
      · rw [q152, if_pos (by omega)]
      · rw [q153, if_pos (by omega)]
      · rw [q154, if_pos (by omega)]
      · rw [q152, if_neg (by omega)]
        exact ek p (by omega)
    | succ h ih =>
      intro t L Y tm fr bt sk hL en ef ek h26 h27
      have hle := zoSk_le pl (h + 1) t tm sk
      obtain ⟨t0, ⟨u, u1, u2, u3, u4, u5, u6⟩, sk2⟩ := sk
      have bb := tr.1 t tm
      have bt1 := bt t0
      have zl := zocl_len (g := zGl2 X1 o b) pl t tm
      have len : L = (m - 1 - t) + (zocl (zGl2 X1 o b) a t).length := by
        have z := congrArg List.length en
        rw [zEn_len, List.length_append, zmr_len, zLs_len] at z
        exact z
      have p := pa t t0 tm
      refine M_opens_f295 hG ⟨fun _ => ?_, fun z => absurd z (by omega)⟩
      rw [show ((h + 1 : Nat) : Int) - 1 = h by omega, u2]
      refine ⟨by rw [zw_id (by omega) (by omega)]; omega, by omega, by omega, cls Y u L t (m - 1) h _ fr u1 u3 u4 u5 u6 t0 (by omega) (by omega) (by omega) hL (by omega) en ef ek (fun Z z1 z2 z3 z4 z5 z6 => ⟨rfl, ?_⟩)⟩
      refine ih (a t) (L + 1) Z (by omega) z1 (fun at0 => ?_) (zoSk_c h (a t) (fun i hi => by rw [z2 149 (by omega) (by omega) (by omega) (by omega)]) (fun u hu => by rw [z2 150 (by omega) (by omega) (by omega) (by omega)]) (Nat.le_refl _) sk2) (by rw [z3]; omega) z4 z5 z6 (by rw [z2 139 (by omega) (by omega) (by omega) (by omega)]; exact h26) (by rw [z2 139 (by omega) (by omega) (by omega) (by omega)]; exact h27)
      have n := tr.2 (a t) t p.1 p.2.1 (by omega)
      omega
  -- box after box
  have lp : ∀ (d k h L : Nat) (Y : zX), k + d = cnt → zFr Y0 Y s → (∀ j : Nat, j < k → (Y 147 j ≠ 0 ↔ X1 (o + 5) j ≠ -1)) → (∀ j : Nat, j < k → X1 (o + 5) j ≠ -1 → (Y 148 j = -1 ∧ zPr r (X1 (o + 5)) j = 0) ∨ (∃ u : Nat, u < j ∧ Y 148 j = u ∧ X1 (o + 5) u ≠ -1 ∧ r (5 * u) ≠ 8 ∧ (zCt r (X1 (o + 5)) u : Int) = zPr r (X1 (o + 5)) j)) → zoSk Y r (X1 (o + 5)) a k (fun t => (zocl (zGl2 X1 o b) a t).length) h (zCt r (X1 (o + 5)) k - 1) → Y 151 s = L → zEn Y s L = zocl (zGl2 X1 o b) a (zCt r (X1 (o + 5)) k - 1) → (∀ p : Nat, p < L → 0 ≤ Y 154 (16 * s + p) ∧ Y 154 (16 * s + p) ≤ p) → (∀ p : Nat, p < L → 0 ≤ Y 152 (16 * s + p)) → Y 139 26 = (zCt r (X1 (o + 5)) k : Int) - 1 → Y 139 27 = zoAs (X1 (o + 1)) w (zCt r (X1 (o + 5)) k - 1) → 0 ≤ Y 139 27 ∧ Y 139 27 ≤ 99 * (k : Int) → M_opens_W Q 23 [zR 139, zI s, zI land, zI day, zI (h : Int), zI (k : Int), zT, zT] [] G Y := by
    intro d
    induction d with
    | zero =>
      intro k h L Y ek fr i1 i2 i4 i5 i6 i7 i8 i9 i10 i11
      have kc : k = cnt := by omega
      subst kc
      rw [hm] at i4 i6 i9 i10
      refine M_opens_f23 hG ?_
      rw [fr.2.1 15 (by omega) (by omega), tr0, fr.1 140 (by omega) (by omega), tcn]
      refine ⟨T00, by omega, fun z => absurd z (by omega), fun _ => last h (m - 1) L Y (by omega) fr (fun t0 => by have := tr.1 (m - 1) (by omega); omega) i4 i5 ?_ i7 i8 i9 i10⟩
      rw [Nat.sub_self, i6]
      rfl
    | succ d ih =>
      intro k h L Y ek fr i1 i2 i4 i5 i6 i7 i8 i9 i10 i11
      have kc : k < cnt := by omega
      have f139 : Y 139 15 = T0 := by rw [fr.2.1 15 (by omega) (by omega)]; exact tr0
      have f140 : Y 140 = Y0 140 := fr.1 140 (by omega) (by omega)
      have f145 : Y 145 = Y0 145 := fr.1 145 (by omega) (by omega)
      have t := tk k kc
      have wk := (x5 k kc).1
      have tb := (x5 k kc).2
      have cl := zCt_le r (X1 (o + 5)) k
      have cm1 := zCt_m (r := r) (N := X1 (o + 5)) (show k ≤ cnt by omega)
      unfold zOtb at tb
      -- shown or not is told, and over
      have st164 : ∀ (sh ov : Int), (sh = 0 ∨ sh = 1) → (sh ≠ 0 ↔ X1 (o + 5) k ≠ -1) → (X1 (o + 5) k ≠ -1 → (ov = -1 ∧ zPr r (X1 (o + 5)) k = 0) ∨ (∃ u : Nat, u < k ∧ ov = u ∧ X1 (o + 5) u ≠ -1 ∧ r (5 * u) ≠ 8 ∧ (zCt r (X1 (o + 5)) u : Int) = zPr r (X1 (o + 5)) k)) → M_opens_W Q 164 [zR 139, zI s, zI land, zI day, zI (h : Int), zI (k : Int), zT, zT] [zI ov, zI (k : Int), zR 148] G (zst Y 147 k sh) := fun sh ov sh01 sh1 ov1 => by
        generalize hZ : zst (zst Y 147 (k : Int) sh) 148 (k : Int) ov = Z
        have zfr : zFr Y0 Z s := by rw [← hZ]; exact zFr_w (zFr_w fr (by omega)) (by omega)
        have z147 : Z 147 k = sh := by rw [← hZ, zrd_n (by omega), zrd_s]
        have z145 : Z 145 k = Y0 145 k := by rw [zfr.1 145 (by omega) (by omega)]
        have zo : ∀ c : Int, c ≠ 147 → c ≠ 148 → Z c = Y c := fun c c1 c2 => by rw [← hZ, zrd_r c2, zrd_r c1]
        have j1 : ∀ j : Nat, j < k + 1 → (Z 147 j ≠ 0 ↔ X1 (o + 5) j ≠ -1) := fun j hj => by
          by_cases c : j = k
          · rw [c, z147]
            exact sh1
          · have e : Z 147 j = Y 147 j := by rw [← hZ, zrd_n (by omega), zrd_n (by omega)]
            rw [e]
            exact i1 j (by omega)
        have j2 : ∀ j : Nat, j < k + 1 → X1 (o + 5) j ≠ -1 → (Z 148 j = -1 ∧ zPr r (X1 (o + 5)) j = 0) ∨ (∃ u : Nat, u < j ∧ Z 148 j = u ∧ X1 (o + 5) u ≠ -1 ∧ r (5 * u) ≠ 8 ∧ (zCt r (X1 (o + 5)) u : Int) = zPr r (X1 (o + 5)) j) := fun j hj hn => by
          by_cases c : j = k
          · have e : Z 148 j = ov := by rw [← hZ, c, zrd_s]
            rw [e]
            subst c
            exact ov1 hn
          · have e : Z 148 j = Y 148 j := by rw [← hZ, zrd_n (by omega), zrd_n (by omega)]
            rw [e]
            exact i2 j (by omega) hn
        have skip : ¬(X1 (o + 5) k ≠ -1 ∧ r (5 * k) ≠ 8) → M_opens_W Q 23 [zR 139, zI s, zI land, zI day, zI (h : Int), zI ((k : Int) + 1), zT, zT] [] G Z := fun ns => by
          have ce := zCt_n ns
          have r2 := ih (k + 1) h L Z (by omega) zfr j1 j2 (by rw [ce]; exact zoSk_c h _ (fun i _ => by rw [zo 149 (by omega) (by omega)]) (fun u _ => by rw [zo 150 (by omega) (by omega)]) (by omega) i4) (by rw [zo 151 (by omega) (by omega)]; exact i5) (by rw [ce, zEn_c L (fun p _ => ⟨by rw [zo 152 (by omega) (by omega)], by rw [zo 153 (by omega) (by omega)], by rw [zo 154 (by omega) (by omega)]⟩)]; exact i6) (fun p hp => by rw [zo 154 (by omega) (by omega)]; exact i7 p hp) (fun p hp => by rw [zo 152 (by omega) (by omega)]; exact i8 p hp) (by rw [ce, zo 139 (by omega) (by omega)]; exact i9) (by rw [ce, zo 139 (by omega) (by omega)]; exact i10) (by rw [zo 139 (by omega) (by omega)]; omega)
          exact r2
        refine M_opens_f164 hG rfl ?_
        rw [hZ, z147, z145]
        refine ⟨by omega, show (k : Int) < 14 by omega, by omega, by omega, fun c => ⟨zw_id (by omega) (by omega), skip (fun z => (sh1.2 z.1) c)⟩, fun c => ⟨fun g => ?_, fun g => ⟨zw_id (by omega) (by omega), skip (fun z => z.2 (t.1.1 g))⟩⟩⟩
        -- a box that is shown
        have kn : X1 (o + 5) k ≠ -1 := sh1.1 c
        have kg : r (5 * k) ≠ 8 := fun z => (t.1.2 z) g
        have ak := ad k kc kn kg
        have ce := zCt_p (r := r) (N := X1 (o + 5)) (k := k) ⟨kn, kg⟩
        have tkk := t.2.1 kg
        have pk := pa (zCt r (X1 (o + 5)) k) (by omega) ak.2.2.2.2.2.2
        -- it is put on the stack
        have push : ∀ (h2 L2 : Nat) (V : zX), zFr Y0 V s → (∀ c : Int, c < 149 → V c = Z c) → zoSk V r (X1 (o + 5)) a k (fun t => (zocl (zGl2 X1 o b) a t).length) h2 (a (zCt r (X1 (o + 5)) k)) → V 151 s = L2 → zEn V s L2 = zocl (zGl2 X1 o b) a (zCt r (X1 (o + 5)) k) → (∀ p : Nat, p < L2 → 0 ≤ V 154 (16 * s + p) ∧ V 154 (16 * s + p) ≤ p) → (∀ p : Nat, p < L2 → 0 ≤ V 152 (16 * s + p)) → M_opens_W Q 230 [zR 139, zI s, zI land, zI day, zI (h2 : Int), zI (k : Int), zT, zT] [] G V := fun h2 L2 V vf vz vs v5 v6 v7 v8 => by
          have hl2 := zoSk_le pl h2 _ (by omega) vs
          have v139 : V 139 = Z 139 := vz 139 (by omega)
          have zz139 : Z 139 = Y 139 := zo 139 (by omega) (by omega)
          have len : L2 = (zocl (zGl2 X1 o b) a (zCt r (X1 (o + 5)) k)).length := by
            have z := congrArg List.length v6
            rw [zEn_len] at z
            exact z
          refine M_opens_f230 hG ?_
          rw [v5, zrd_r (b := 139) (by omega), zrd_r (b := 139) (by omega), v139, zz139, i9]
          refine ⟨s0, s1, by omega, by omega, by omega, by omega, zw_id (by omega) (by omega), zw_id (by omega) (by omega), fun U e1 => ?_⟩
          have uf : zFr Y0 U s := by rw [e1]; exact zFr_w (zFr_w (zFr_w vf (by omega)) (by omega)) (by omega)
          have u15 : U 139 15 = T0 := by rw [uf.2.1 15 (by omega) (by omega)]; exact tr0
          have u27 : U 139 27 = Y 139 27 := by rw [e1, zrd_n (by omega), zrd_n (by omega), zrd_n (by omega), v139, zz139]
          have u140 : U 140 = Y0 140 := uf.1 140 (by omega) (by omega)
          refine boxOf_M hG u15 T00 T01 (by omega) (by omega) (by omega) (by omega) ⟨_, rfl, ?_⟩
          rw [u140, tkk.1]
          have hw2 := hww (r (5 * k)) tkk.2.1 (by omega)
          rw [hw2.1, u27]
          refine ⟨zw_id (by omega) (by omega), by omega, by omega, zw_id (by omega) (by omega), zw_id (by omega) (by omega), ?_⟩
          generalize hT : zst U 139 27 (Y 139 27 + w (r (5 * k))) = T
          have tf : zFr Y0 T s := by rw [← hT]; exact zFr_w uf (by omega)
          have tc : ∀ c : Int, c < 149 → c ≠ 139 → T c = Z c := fun c c1 c2 => by rw [← hT, zrd_r (by omega), e1, zrd_r (by omega), zrd_r (by omega), zrd_r (by omega)]; exact vz c c1
          have t15 : ∀ c : Int, 151 ≤ c → T c = V c := fun c c1 => by rw [← hT, zrd_r (by omega), e1, zrd_r (by omega), zrd_r (by omega), zrd_r (by omega)]
          have r2 := ih (k + 1) (h2 + 1) L2 T (by omega) tf (fun j hj => by rw [tc 147 (by omega) (by omega)]; exact j1 j hj) (fun j hj hn => by rw [tc 148 (by omega) (by omega)]; exact j2 j hj hn) (by
              rw [ce, Nat.add_sub_cancel]
              refine ⟨by omega, ⟨k, by omega, ?_, kn, kg, rfl, ?_⟩, zoSk_c h2 _ (fun i hi => ?_) (fun u hu => ?_) (by omega) vs⟩
              · rw [← hT, zrd_n (by omega), e1, zrd_n (by omega), zrd_s]
              · rw [← hT, zrd_n (by omega), e1, zrd_n (by omega), zrd_n (by omega), zrd_s]
                show (L2 : Int) = ((zocl (zGl2 X1 o b) a (zCt r (X1 (o + 5)) k)).length : Int)
                rw [← len]
              · rw [← hT, zrd_n (by omega), e1, zrd_n (by omega), zrd_n (by omega), zrd_n (by omega)]
              · rw [← hT, zrd_n (by omega), e1, zrd_n (by omega), zrd_n (by omega)]
                have uk : (u : Int) ≠ (k : Int) := fun c => absurd hu (by rw [Int.ofNat_inj.1 c]; exact Nat.lt_irrefl _)
                rw [zrd_n (Or.inr uk)]) (by rw [t15 151 (by omega)]; exact v5) (by rw [ce, Nat.add_sub_cancel, zEn_c L2 (fun p _ => ⟨by rw [t15 152 (by omega)], by rw [t15 153 (by omega)], by rw [t15 154 (by omega)]⟩)]; exact v6) (fun p hp => by rw [t15 154 (by omega)]; exact v7 p hp) (fun p hp => by rw [t15 152 (by omega)]; exact v8 p hp) (by rw [ce, ← hT, zrd_n (by omega), e1, zrd_s]; omega) (by
              rw [ce, Nat.add_sub_cancel, ← hT, zrd_s, i10]
              obtain ⟨n, hn⟩ : ∃ n, zCt r (X1 (o + 5)) k = n + 1 := ⟨zCt r (X1 (o + 5)) k - 1, by omega⟩
              rw [hn] at ak ⊢
              rw [Nat.add_sub_cancel]
              show _ = zoAs (X1 (o + 1)) w n + w (X1 (o + 1) ((n + 1 : Nat) : Int))
              rw [ak.2.2.2.2.1]) (by rw [← hT, zrd_s]; omega)
          exact r2
        -- those that it isn't in are closed
        have pops : ∀ (h2 t2 L2 : Nat) (V : zX), zFr Y0 V s → (∀ c : Int, c < 149 → V c = Z c) → t2 < zCt r (X1 (o + 5)) k → a (zCt r (X1 (o + 5)) k) ≤ t2 → (0 < t2 → zCt r (X1 (o + 5)) k - 1 < b t2) → zoSk V r (X1 (o + 5)) a k (fun t => (zocl (zGl2 X1 o b) a t).length) h2 t2 → V 151 s = L2 → zEn V s L2 = zmr (zLs (zGl2 X1 o b) (t2 + 1) (zCt r (X1 (o + 5)) k - 1 - t2)) ++ zocl (zGl2 X1 o b) a t2 → (∀ p : Nat, p < L2 → 0 ≤ V 154 (16 * s + p) ∧ V 154 (16 * s + p) ≤ p) → (∀ p : Nat, p < L2 → 0 ≤ V 152 (16 * s + p)) → M_opens_W Q 188 [zR 139, zI s, zI land, zI day, zI (h2 : Int), zI (k : Int), zT, zT] [] G V := by
          intro h2
          have done : ∀ (h2 t2 L2 : Nat) (V : zX), zFr Y0 V s → (∀ c : Int, c < 149 → V c = Z c) → a (zCt r (X1 (o + 5)) k) = t2 → zoSk V r (X1 (o + 5)) a k (fun t => (zocl (zGl2 X1 o b) a t).length) h2 t2 → V 151 s = L2 → zEn V s L2 = zmr (zLs (zGl2 X1 o b) (t2 + 1) (zCt r (X1 (o + 5)) k - 1 - t2)) ++ zocl (zGl2 X1 o b) a t2 → (∀ p : Nat, p < L2 → 0 ≤ V 154 (16 * s + p) ∧ V 154 (16 * s + p) ≤ p) → (∀ p : Nat, p < L2 → 0 ≤ V 152 (16 * s + p)) → M_opens_W Q 230 [zR 139, zI s, zI land, zI day, zI (h2 : Int), zI (k : Int), zT, zT] [] G V := fun h2 t2 L2 V vf vz e vs v5 v6 v7 v8 => by
            refine push h2 L2 V vf vz (by rw [e]; exact vs) v5 ?_ v7 v8
            rw [v6, zocl_s pl (by omega) ak.2.2.2.2.2.2, e, show zCt r (X1 (o + 5)) k - t2 - 1 = zCt r (X1 (o + 5)) k - 1 - t2 by omega]
          induction h2 with
          | zero =>
            intro t2 L2 V vf vz t21 t22 t23 vs v5 v6 v7 v8
            have t0 : t2 = 0 := vs
            exact M_opens_f188 hG ⟨fun z => absurd z (by omega), fun _ => done 0 t2 L2 V vf vz (by omega) vs v5 v6 v7 v8⟩
          | succ h2 ih2 =>
            intro t2 L2 V vf vz t21 t22 t23 vs v5 v6 v7 v8
            have hle := zoSk_le pl (h2 + 1) t2 (by omega) vs
            have vs' := vs
            obtain ⟨t0, ⟨u, u1, u2, u3, u4, u5, u6⟩, vs2⟩ := vs
            have ov := j2 k (by omega) kn
            have v148 : V 148 = Z 148 := vz 148 (by omega)
            refine M_opens_f188 hG ⟨fun _ => ?_, fun z => absurd z (by omega)⟩
            rw [show ((h2 + 1 : Nat) : Int) - 1 = h2 by omega, u2, v148]
            refine ⟨zw_id (by omega) (by omega), by omega, by omega, by omega, by omega, fun eq => ?_, fun ne => ?_⟩
            · have e : a (zCt r (X1 (o + 5)) k) = t2 := by
                rcases ov with ov | ⟨v, w1, w2, w3, w4, w5⟩
                · omega
                · have uv : u = v := by omega
                  subst uv
                  have := ak.2.2.2.1
                  omega
              exact done (h2 + 1) t2 L2 V vf vz e vs' v5 v6 v7 v8
            · have nt : a (zCt r (X1 (o + 5)) k) ≠ t2 := fun e => by
                have ak4 := ak.2.2.2.1
                rcases ov with ov | ⟨v, w1, w2, w3, w4, w5⟩
                · omega
                · -- the same number: the same box
                  have uv : u = v := by
                    have cu := zCt_p (r := r) (N := X1 (o + 5)) (k := u) ⟨u3, u4⟩
                    have cv := zCt_p (r := r) (N := X1 (o + 5)) (k := v) ⟨w3, w4⟩
                    rcases Nat.lt_trichotomy u v with c | c | c
                    · have := zCt_m (r := r) (N := X1 (o + 5)) (show u + 1 ≤ v by omega)
                      omega
                    · exact c
                    · have := zCt_m (r := r) (N := X1 (o + 5)) (show v + 1 ≤ u by omega)
                      omega
                  exact ne (by rw [w2, uv])
              have t2m : t2 < m := by omega
              have p2 := pa t2 t0 t2m
              have bt : b t2 = zCt r (X1 (o + 5)) k - 1 + 1 := by
                have := t23 t0
                by_cases c : zCt r (X1 (o + 5)) k < b t2
                · have := pk.2.2 t2 t21 c
                  omega
                · omega
              have na : a (zCt r (X1 (o + 5)) k) ≤ a t2 := p2.2.2 _ (by omega) (by omega)
              have len : L2 = (zCt r (X1 (o + 5)) k - 1 - t2) + (zocl (zGl2 X1 o b) a t2).length := by
                have z := congrArg List.length v6
                rw [zEn_len, List.length_append, zmr_len, zLs_len] at z
                exact z
              have zl := zocl_len (g := zGl2 X1 o b) pl t2 t2m
              refine ⟨by rw [zw_id (by omega) (by omega)]; omega, cls V u L2 t2 (zCt r (X1 (o + 5)) k - 1) h2 _ vf (by omega) u3 u4 u5 u6 t0 (by omega) (by omega) bt v5 (by omega) v6 v7 v8 (fun U z1 z2 z3 z4 z5 z6 => ⟨rfl, ?_⟩)⟩
              refine ih2 (a t2) (L2 + 1) U z1 (fun c c1 => by rw [z2 c (by omega) (by omega) (by omega) (by omega)]; exact vz c c1) (by omega) na (fun at0 => ?_) (zoSk_c h2 (a t2) (fun i hi => by rw [z2 149 (by omega) (by omega) (by omega) (by omega)]) (fun u hu => by rw [z2 150 (by omega) (by omega) (by omega) (by omega)]) (Nat.le_refl _) vs2) (by rw [z3]; omega) z4 z5 z6
              have n := tr.2 (a t2) t2 p2.1 p2.2.1 (by omega)
              omega
        refine pops h (zCt r (X1 (o + 5)) k - 1) L Z zfr (fun c _ => rfl) (by omega) (by omega) (fun t0 => by have := tr.1 (zCt r (X1 (o + 5)) k - 1) (by omega); omega) (zoSk_c h _ (fun i _ => by rw [zo 149 (by omega) (by omega)]) (fun u _ => by rw [zo 150 (by omega) (by omega)]) (Nat.le_refl _) i4) (by rw [zo 151 (by omega) (by omega)]; exact i5) ?_ (fun p hp => by rw [zo 154 (by omega) (by omega)]; exact i7 p hp) (fun p hp => by rw [zo 152 (by omega) (by omega)]; exact i8 p hp)
        rw [zEn_c L (fun p _ => ⟨by rw [zo 152 (by omega) (by omega)], by rw [zo 153 (by omega) (by omega)], by rw [zo 154 (by omega) (by omega)]⟩), i6, Nat.sub_self]
        rfl
      -- over
      have st126 : ∀ (sh : Int), (sh = 0 ∨ sh = 1) → (sh ≠ 0 ↔ X1 (o + 5) k ≠ -1) → M_opens_W Q 126 [zR 139, zI s, zI land, zI day, zI (h : Int), zI (k : Int), zI (r (5 * k + 2)), zT] [zI sh, zI (k : Int), zR 147] G Y := fun sh sh01 sh1 => by
        refine M_opens_f126 hG rfl ?_
        rw [zrd_r (b := 145) (by omega), zrd_r (b := 148) (by omega), f145]
        refine ⟨by omega, show (k : Int) < 14 by omega, sh01, fun neg => ?_, fun pos => ?_⟩
        · exact st164 sh (-1) sh01 sh1 (fun _ => Or.inl ⟨rfl, by unfold zPr; rw [if_pos (by omega)]⟩)
        · obtain ⟨u, hu⟩ : ∃ u : Nat, r (5 * k + 2) = u := ⟨(r (5 * k + 2)).toNat, by omega⟩
          have ep : zPr r (X1 (o + 5)) k = X1 (o + 5) u := by unfold zPr; rw [if_neg (by omega), hu]
          have tu := tk u (by omega)
          have un : X1 (o + 5) k ≠ -1 → X1 (o + 5) u ≠ -1 := fun kn c => kn (tb.1 (by rw [ep]; exact c))
          rw [hu]
          refine ⟨by omega, by omega, fun g0 => ?_, fun g1 => ?_⟩
          · refine st164 sh u sh01 sh1 (fun kn => Or.inr ⟨u, by omega, rfl, un kn, fun c => (tu.1.2 c) g0, ?_⟩)
            have au := ad u (by omega) (un kn) (fun c => (tu.1.2 c) g0)
            rw [ep, au.2.2.1]
          · refine st164 sh (Y 148 u) sh01 sh1 (fun kn => ?_)
            have gu : r (5 * u) = 8 := tu.1.1 g1
            have tbu := (x5 u (by omega)).2
            unfold zOtb at tbu
            have pu : zPr r (X1 (o + 5)) u ≠ -1 := fun c => un kn (tbu.1 c)
            have eu : zPr r (X1 (o + 5)) k = zPr r (X1 (o + 5)) u := by rw [ep]; exact tbu.2.1 pu gu
            rw [eu]
            rcases i2 u (by omega) (un kn) with z | ⟨v, w1, w2⟩
            · exact Or.inl z
            · exact Or.inr ⟨v, by omega, w2⟩
      have st66 : ∀ s9 : Int, (s9 ≠ 0 ↔ zPr r (X1 (o + 5)) k ≠ -1) → M_opens_W Q 66 [zR 139, zI s, zI land, zI day, zI (h : Int), zI (k : Int), zI (r (5 * k + 2)), zT] [zI s9] G Y := fun s9 hs9 => by
        have no : X1 (o + 5) k = -1 → M_opens_W Q 125 [zR 139, zI s, zI land, zI day, zI (h : Int), zI (k : Int), zI (r (5 * k + 2)), zT] [zI (k : Int), zR 147] G Y := fun c => M_opens_f125 hG rfl (st126 0 (Or.inl rfl) ⟨fun z => absurd rfl z, fun z => absurd c z⟩)
        have f110 : zPr r (X1 (o + 5)) k ≠ -1 → r (5 * k) ≠ 8 → (r (5 * k + 3) = -1 ∨ r (5 * k + 3) = land) → M_opens_W Q 110 [zR 139, zI s, zI land, zI day, zI (h : Int), zI (k : Int), zI (r (5 * k + 2)), zT] [zI (k : Int), zR 147] G Y := fun pn kg c => by
          refine M_opens_f110 hG rfl (boxOf_M hG f139 T00 T01 (by omega) (by omega) (by omega) (by omega) ⟨_, rfl, ?_⟩)
          rw [f140, t.2.2.2.2]
          refine ⟨fun lt => no (tb.2.2.2 pn kg (fun sw => by have := sw.2; omega)), fun ge => st126 1 (Or.inr rfl) ⟨fun _ => ?_, fun _ => by omega⟩⟩
          have y := (tb.2.2.1 pn kg ⟨c, ge⟩).1
          omega
        refine M_opens_f66 hG ⟨fun z => no (tb.1 (by
          by_cases c : zPr r (X1 (o + 5)) k = -1
          · exact c
          · exact absurd z (hs9.2 c))), fun z => ⟨by omega, by omega, ?_⟩⟩
        have pn := hs9.1 z
        rw [f145]
        refine ⟨fun g0 => ?_, fun g1 => ?_⟩
        · have kg : r (5 * k) ≠ 8 := fun c => (t.1.2 c) g0
          refine boxOf_M hG f139 T00 T01 (by omega) (by omega) (by omega) (by omega) ⟨_, rfl, ?_⟩
          rw [f140, t.2.2.2.1]
          by_cases c : r (5 * k + 3) = -1
          · refine ⟨fun _ => f110 pn kg (Or.inl c), fun pos => absurd pos (by omega)⟩
          · refine ⟨fun neg => ?_, fun pos => boxOf_M hG f139 T00 T01 (by omega) (by omega) (by omega) (by omega) ⟨_, rfl, ?_⟩⟩
            · exact absurd neg (by have := x9 k kc; omega)
            · rw [f140, t.2.2.2.1]
              exact ⟨fun e => f110 pn kg (Or.inr e), fun ne => no (tb.2.2.2 pn kg (fun sw => by rcases sw.1 with y | y; exact c y; exact ne y))⟩
        · have g8 := t.1.1 g1
          have e := tb.2.1 pn g8
          exact st126 1 (Or.inr rfl) ⟨fun _ => by rw [e]; exact pn, fun _ => by omega⟩
      refine M_opens_f23 hG ?_
      rw [f139, f140, tcn]
      refine ⟨T00, by omega, fun _ => boxOf_M hG f139 T00 T01 (by omega) (by omega) (by omega) (by omega) ⟨_, rfl, ?_⟩, fun z => absurd z (by omega)⟩
      rw [f140, t.2.2.1]
      refine ⟨fun neg => st66 1 ⟨fun _ => by unfold zPr; rw [if_pos (by omega)]; omega, fun _ => by omega⟩, fun pos => ?_⟩
      obtain ⟨u, hu⟩ : ∃ u : Nat, r (5 * k + 2) = u := ⟨(r (5 * k + 2)).toNat, by omega⟩
      have ep : zPr r (X1 (o + 5)) k = X1 (o + 5) u := by unfold zPr; rw [if_neg (by omega), hu]
      have iu := i1 u (by omega)
      have st66u := fun s9 hs => st66 s9 hs
      rw [hu] at st66u ⊢
      rw [ep] at st66u
      refine ⟨by omega, by omega, fun c => st66u 0 ⟨fun z => absurd rfl z, fun z => absurd c (iu.2 z)⟩, fun c => st66u 1 ⟨fun _ => iu.1 c, fun _ => by omega⟩⟩
  refine M_opens_f0 hG ⟨s0, s1, lp cnt 0 0 0 _ (by omega) (zFr_w (zFr_w (zFr_w (zFr_r Y0 s) (by omega)) (by omega)) (by omega)) (fun j hj => absurd hj (by omega)) (fun j hj => absurd hj (by omega)) rfl ?_ rfl (fun p hp => absurd hp (by omega)) (fun p hp => absurd hp (by omega)) ?_ ?_ ?_⟩
  · rw [zrd_n (by omega), zrd_n (by omega), zrd_s]
    rfl
  · rw [zrd_n (by omega), zrd_s]
    rfl
  · rw [zrd_s]
    rfl
  · rw [zrd_s]
    omega
