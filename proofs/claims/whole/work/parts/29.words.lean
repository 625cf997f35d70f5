/-! ===== words and sentences ===== -/
noncomputable def zFst (P : Int → Prop) : Nat → Int → Int
  | 0, _ => -1
  | d + 1, k => @ite Int (P k) (Classical.propDecidable _) k (zFst P d (k + 1))
theorem zFst_p {P : Int → Prop} {d : Nat} {k : Int} (h : P k) : zFst P (d + 1) k = k := @if_pos _ (Classical.propDecidable _) h _ _ _
theorem zFst_n {P : Int → Prop} {d : Nat} {k : Int} (h : ¬P k) : zFst P (d + 1) k = zFst P d (k + 1) := @if_neg _ (Classical.propDecidable _) h _ _ _
theorem zFst_c {P P2 : Int → Prop} : ∀ (d : Nat) (k : Int), (∀ j : Int, k ≤ j → j < k + d → (P j ↔ P2 j)) → zFst P d k = zFst P2 d k
  | 0, _, _ => rfl
  | d + 1, k, h => by
    have hk := h k (by omega) (by omega)
    have ih := zFst_c (P := P) (P2 := P2) d (k + 1) (fun j a b => h j (by omega) (by omega))
    by_cases c : P k
    · rw [zFst_p c, zFst_p (hk.1 c)]
    · rw [zFst_n c, zFst_n (fun z => c (hk.2 z)), ih]
theorem zFst_in {P : Int → Prop} : ∀ (d : Nat) (k : Int), 0 ≤ k → -1 ≤ zFst P d k ∧ zFst P d k < k + d
  | 0, k, h => by unfold zFst; omega
  | d + 1, k, h => by
    have ih := zFst_in (P := P) d (k + 1) (by omega)
    by_cases c : P k
    · rw [zFst_p c]; omega
    · rw [zFst_n c]; omega
/-- is word k of the class that of n signs from fr on in a row -/
def zPw (X : zX) (L : Int → Int) (fr n k : Int) : Prop := X 11 k = n ∧ ∀ i : Int, 0 ≤ i → i < n → L (fr + i) = X 10 (8 * k + i)
def zPm (X : zX) (fr n k : Int) : Prop := X 140 (4790 + 10 * k) = n ∧ ∀ i : Int, 0 ≤ i → i < n → X 140 (fr + i) = X 140 (4791 + 10 * k + i)
theorem isWord_D {Q : List zV → zX → Prop} {G : zG} {X : zX} {a k fr t : Int} (hG : SH G) (h : zRT X 1 0) (hk : zk0 a = 51) (hl : zl0 a = 500) (k0 : 0 ≤ k) (k1 : k < 20) (f0 : 0 ≤ fr) (f1 : fr ≤ t) (t1 : t ≤ 500) (q1 : zPw X (X a) fr (t - fr) k → Q [zI 1] X) (q0 : ¬zPw X (X a) fr (t - fr) k → Q [zI 0] X) : Sp_isWord [zR 9, zI k, zR a, zI fr, zI t] G X Q := by
  have wl : X 140 (0 + 4790 + 10 * k) = X 11 k ∧ 0 ≤ X 11 k ∧ X 11 k ≤ 8 := zR_wln h k k0 k1
  refine Sp_isWord_f0 hG hk ⟨k0, k1, zw_id (by omega) (by omega), fun e => ?_, fun e => q0 (fun p => e p.1)⟩
  have lp : ∀ (d : Nat) (j : Int), j + d = t → fr ≤ j → (∀ i : Int, 0 ≤ i → i < j - fr → X a (fr + i) = X 10 (8 * k + i)) → Sp_isWord_W Q 18 [zR 9, zI k, zR a, zI fr, zI t, zI j] [] G X := by
    intro d
    induction d with
    | zero =>
      intro j ej j0 hj
      exact Sp_isWord_f18 hG hk ⟨fun z => absurd z (by omega), fun _ => q1 ⟨e, fun i i0 i1 => hj i i0 (by omega)⟩⟩
    | succ d ih =>
      intro j ej j0 hj
      refine Sp_isWord_f18 hG hk ⟨fun _ => ?_, fun z => absurd z (by omega)⟩
      rw [hl, show k * 8 + j - fr = 8 * k + (j - fr) by omega]
      refine ⟨by omega, by omega, zw_id (by omega) (by omega), zw_id (by omega) (by omega), zw_id (by omega) (by omega), by omega, by omega, fun c => ⟨zw_id (by omega) (by omega), ?_⟩, fun c => q0 (fun p => ?_)⟩
      · refine ih (j + 1) (by omega) (by omega) (fun i i0 i1 => ?_)
        by_cases hi : i = j - fr
        · rw [hi, ← c, show fr + (j - fr) = j by omega]
        · exact hj i i0 (by omega)
      · have z := p.2 (j - fr) (by omega) (by omega)
        rw [show fr + (j - fr) = j by omega] at z
        exact c z
  exact lp (t - fr).toNat fr (by omega) (by omega) (fun i _ _ => by omega)
theorem isSaid_M {Q : List zV → zX → Prop} {G : zG} {X : zX} {k fr n : Int} (hG : SH G) (k0 : 0 ≤ k) (k1 : k < 20) (f0 : 0 ≤ fr) (f1 : fr ≤ 5511) (n0 : 0 ≤ n) (n1 : n ≤ 500) (q1 : zPm X fr n k → Q [zI 1] X) (q0 : ¬zPm X fr n k → Q [zI 0] X) : M_isSaid [zR 139, zI (4790 + 10 * k), zI fr, zI n] G X Q := by
  have l0 : ¬zPm X fr n k → ∀ j : Int, M_isSaid_W Q 20 [zR 139, zI (4790 + 10 * k), zI fr, zI n, zI 0, zI j] [] G X := fun np j =>
    M_isSaid_f20 hG ⟨fun _ => ⟨fun _ => ⟨Or.inl rfl, q0 np⟩, fun z => absurd rfl z⟩, fun _ => ⟨Or.inl rfl, q0 np⟩⟩
  refine M_isSaid_f0 hG ⟨by omega, by omega, fun e => M_isSaid_f15 hG ?_, fun e => M_isSaid_f15 hG (l0 (fun p => e p.1) 0)⟩
  have lp : ∀ (d : Nat) (j : Int), j + d = n → 0 ≤ j → (∀ i : Int, 0 ≤ i → i < j → X 140 (fr + i) = X 140 (4791 + 10 * k + i)) → M_isSaid_W Q 20 [zR 139, zI (4790 + 10 * k), zI fr, zI n, zI 1, zI j] [] G X := by
    intro d
    induction d with
    | zero =>
      intro j ej j0 hj
      exact M_isSaid_f20 hG ⟨fun z => absurd z (by omega), fun _ => ⟨Or.inr rfl, q1 ⟨e, fun i i0 i1 => hj i i0 (by omega)⟩⟩⟩
    | succ d ih =>
      intro j ej j0 hj
      refine M_isSaid_f20 hG ⟨fun _ => ⟨fun z => absurd z (by omega), fun _ => ?_⟩, fun z => absurd z (by omega)⟩
      rw [show 4790 + 10 * k + 1 = 4791 + 10 * k by omega]
      refine ⟨zw_id (by omega) (by omega), zw_id (by omega) (by omega), by omega, by omega, zw_id (by omega) (by omega), by omega, by omega, fun c => ⟨zw_id (by omega) (by omega), ?_⟩, fun c => ⟨zw_id (by omega) (by omega), l0 (fun p => c (p.2 j (by omega) (by omega)).symm) _⟩⟩
      refine ih (j + 1) (by omega) (by omega) (fun i i0 i1 => ?_)
      by_cases hi : i = j
      · rw [hi]; exact c.symm
      · exact hj i i0 (by omega)
  exact lp n.toNat 0 (by omega) (by omega) (fun i _ _ => by omega)
theorem word_same {X : zX} {L : Int → Int} {fr fr2 n k : Int} (h : zRT X 1 0) (k0 : 0 ≤ k) (k1 : k < 20) (e : ∀ i : Int, 0 ≤ i → i < n → X 140 (fr2 + i) = L (fr + i)) : zPm X fr2 n k ↔ zPw X L fr n k := by
  have wl : X 140 (0 + 4790 + 10 * k) = X 11 k ∧ 0 ≤ X 11 k ∧ X 11 k ≤ 8 := zR_wln h k k0 k1
  rw [show (0 : Int) + 4790 + 10 * k = 4790 + 10 * k by omega] at wl
  unfold zPm zPw
  rw [wl.1]
  refine ⟨fun p => ⟨p.1, fun i i0 i1 => ?_⟩, fun p => ⟨p.1, fun i i0 i1 => ?_⟩⟩
  · have z : X 140 (0 + 4791 + 10 * k + i) = X 10 (8 * k + i) := (zR_wrd h k i k0 k1 i0 (by omega)).1
    rw [← e i i0 i1, p.2 i i0 i1, ← z]
    rw [show (0 : Int) + 4791 + 10 * k = 4791 + 10 * k by omega]
  · have z : X 140 (0 + 4791 + 10 * k + i) = X 10 (8 * k + i) := (zR_wrd h k i k0 k1 i0 (by omega)).1
    rw [show (0 : Int) + 4791 + 10 * k = 4791 + 10 * k by omega] at z
    rw [e i i0 i1, p.2 i i0 i1, ← z]
noncomputable def zWd (X : zX) (L : Int → Int) (fr n : Int) : Int := zFst (zPw X L fr n) (X 9 6).toNat 0
theorem wordAt_M {Q : List zV → zX → Prop} {G : zG} {X : zX} {fr fr2 n : Int} {L : Int → Int} (hG : SH G) (h : zRT X 1 0) (f0 : 0 ≤ fr2) (f1 : fr2 ≤ 5511) (n0 : 0 ≤ n) (n1 : n ≤ 500) (e : ∀ i : Int, 0 ≤ i → i < n → X 140 (fr2 + i) = L (fr + i)) (q : Q [zI (zWd X L fr n)] X) : M_wordAt [zR 139, zI fr2, zI n] G X Q := by
  have hw : X 140 5006 = X 9 6 ∧ 0 ≤ X 9 6 ∧ X 9 6 ≤ 20 := zR_wcn h
  have lp : ∀ (d : Nat) (k : Int), k + d = X 9 6 → 0 ≤ k → zFst (zPw X L fr n) d k = zWd X L fr n → M_wordAt_W Q 2 [zR 139, zI fr2, zI n, zI k] [] G X := by
    intro d
    induction d with
    | zero =>
      intro k ek k0 z
      rw [← z] at q
      exact M_wordAt_f2 hG ⟨fun z => absurd z (by omega), fun _ => q⟩
    | succ d ih =>
      intro k ek k0 z
      refine M_wordAt_f2 hG ⟨fun _ => ⟨by rw [zw_id (x := 10 * k) (by omega) (by omega)]; exact zw_id (by omega) (by omega), isSaid_M hG k0 (by omega) f0 f1 n0 n1 (fun p => ⟨1, rfl, fun y => absurd y (by omega), fun _ => ?_⟩) (fun p => ⟨0, rfl, fun _ => ⟨zw_id (by omega) (by omega), ?_⟩, fun y => absurd rfl y⟩)⟩, fun y => absurd y (by omega)⟩
      · rw [zFst_p ((word_same h k0 (by omega) e).1 p)] at z
        rw [← z] at q
        exact q
      · rw [zFst_n (fun y => p ((word_same h k0 (by omega) e).2 y))] at z
        exact ih (k + 1) (by omega) (by omega) z
  exact M_wordAt_f0 hG (lp (X 9 6).toNat 0 (by omega) (by omega) rfl)
noncomputable def zMw (X : zX) (fr t : Int) : Int := if zWd X (X 15) fr (t - fr) < 0 then 0 else zshl 1 (X 12 (zWd X (X 15) fr (t - fr)))
theorem meaning_D {Q : List zV → zX → Prop} {G : zG} {X : zX} {fr t : Int} (hG : SH G) (h : zRT X 1 0) (f0 : 0 ≤ fr) (f1 : fr ≤ t) (t1 : t ≤ 500) (q : Q [zI (zMw X fr t)] X) : Sp_meaningOf [zR 9, zI fr, zI t] G X Q := by
  have hw : X 140 5006 = X 9 6 ∧ 0 ≤ X 9 6 ∧ X 9 6 ≤ 20 := zR_wcn h
  have lp : ∀ (d : Nat) (k : Int), k + d = X 9 6 → 0 ≤ k → zFst (zPw X (X 15) fr (t - fr)) d k = zWd X (X 15) fr (t - fr) → Sp_meaningOf_W Q 2 [zR 9, zI fr, zI t, zI k] [] G X := by
    intro d
    induction d with
    | zero =>
      intro k ek k0 z
      refine Sp_meaningOf_f2 hG ⟨fun z => absurd z (by omega), fun _ => ?_⟩
      unfold zMw at q
      rw [← z, if_pos (by unfold zFst; omega)] at q
      exact q
    | succ d ih =>
      intro k ek k0 z
      refine Sp_meaningOf_f2 hG ⟨fun _ => isWord_D hG h rfl rfl k0 (by omega) f0 f1 t1 (fun p => ⟨1, rfl, fun y => absurd y (by omega), fun _ => ⟨by omega, by omega, ?_⟩⟩) (fun p => ⟨0, rfl, fun _ => ⟨zw_id (by omega) (by omega), ?_⟩, fun y => absurd rfl y⟩), fun y => absurd y (by omega)⟩
      · rw [zFst_p p] at z
        unfold zMw at q
        rw [← z, if_neg (by omega)] at q
        exact q
      · rw [zFst_n p] at z
        exact ih (k + 1) (by omega) (by omega) z
  exact Sp_meaningOf_f0 hG (lp (X 9 6).toNat 0 (by omega) (by omega) rfl)
/-! sentences -/
theorem q_dLetter {Q : List zV → zX → Prop} {G : zG} {X : zX} {x : Int} (hG : SH G) (h1 : 97 ≤ x ∧ x ≤ 122 → Q [zI 1] X) (h0 : ¬(97 ≤ x ∧ x ≤ 122) → Q [zI 0] X) : D_isLetter [zI x] G X Q :=
  D_isLetter_f0 hG ⟨fun a => h0 (by omega), fun a => ⟨fun b => h0 (by omega), fun b => h1 ⟨a, b⟩⟩⟩
def zHr (L : Int → Int) (len : Int) (mw : Int → Int → Int) : Nat → Int → Int → Int → Int → Int → (Int → Int) → Int × (Int → Int)
  | 0, n, _, _, _, _, F => (n, F)
  | f + 1, n, fr, hd, hs, i, F =>
    if 97 ≤ (if i < len then L i else 46) ∧ (if i < len then L i else 46) ≤ 122 then zHr L len mw f n fr hd hs (i + 1) F
    else if (if i < len then L i else 46) = 46 ∧ (if fr < i then 1 else hs) ≠ 0 then zHr L len mw f (n + 1) (i + 1) 0 0 (i + 1) (zup F n (if fr < i then zor hd (mw fr i) else hd))
    else zHr L len mw f n (i + 1) (if fr < i then zor hd (mw fr i) else hd) (if fr < i then 1 else hs) (i + 1) F
theorem hear_D {Q : List zV → zX → Prop} {G : zG} {X0 : zX} (hG : SH G) (h : zRT X0 1 0) : ∀ (f : Nat) (n fr hd hs i : Int) (X : zX), i + f = X0 9 8 + 1 → 0 ≤ i → 0 ≤ fr → fr ≤ i → 0 ≤ n → 2 * n ≤ i → (hs ≠ 0 ∨ fr < i → 2 * n + 1 ≤ i) → zWk X0 X →
    (∀ X2 : zX, zWk X0 X2 → X2 138 = (zHr (X0 15) (X0 9 8) (zMw X0) f n fr hd hs i (X 138)).2 → Q [zI (zHr (X0 15) (X0 9 8) (zMw X0) f n fr hd hs i (X 138)).1] X2) → Sp_hear_W Q 13 [zR 9, zR 138, zI n, zI fr, zI hd, zI hs, zI i, zT] [] G X := by
  have hl : X0 140 5010 = X0 9 8 ∧ 0 ≤ X0 9 8 ∧ X0 9 8 ≤ 500 := zR_lcn h
  intro f
  induction f with
  | zero =>
    intro n fr hd hs i X e i0 fr0 fr1 n0 n2 n3 wk q
    refine Sp_hear_f13 hG ?_
    rw [wk 9 (by omega)]
    exact ⟨fun _ => q X wk rfl, fun z => absurd z (by omega)⟩
  | succ f ih =>
    intro n fr hd hs i X e i0 fr0 fr1 n0 n2 n3 wk q
    have st : ∀ c : Int, c = (if i < X0 9 8 then X0 15 i else 46) → Sp_hear_W Q 43 [zR 9, zR 138, zI n, zI fr, zI hd, zI hs, zI i, zT] [zI c] G X := fun c hc => by
      unfold zHr at q
      rw [← hc] at q
      have hX := zWk_RT wk h
      have mw : zMw X = zMw X0 := by
        unfold zMw zWd zPw
        rw [wk 9 (by omega), wk 10 (by omega), wk 11 (by omega), wk 12 (by omega), wk 15 (by omega)]
      refine Sp_hear_f43 hG (q_dLetter hG (fun cl => ⟨1, rfl, fun z => absurd z (by omega), fun _ => ⟨zw_id (by omega) (by omega), ?_⟩⟩) (fun cl => ⟨0, rfl, fun _ => ?_, fun z => absurd rfl z⟩))
      · rw [if_pos cl] at q
        exact ih n fr hd hs (i + 1) X (by omega) (by omega) fr0 (by omega) n0 (by omega) (by omega) wk q
      · rw [if_neg cl] at q
        have tl : ∀ hd2 hs2 : Int, hd2 = (if fr < i then zor hd (zMw X0 fr i) else hd) → hs2 = (if fr < i then 1 else hs) → (hs2 ≠ 0 → 2 * n + 1 ≤ i) → Sp_hear_W Q 77 [zR 9, zR 138, zI n, zT, zI hd2, zI hs2, zI i, zI c] [] G X := fun hd2 hs2 eh es hb => by
          rw [← eh, ← es] at q
          refine Sp_hear_f77 hG ⟨zw_id (by omega) (by omega), fun c46 => ⟨fun s0 => ⟨zw_id (by omega) (by omega), ?_⟩, fun s1 => ⟨fun n251 => ⟨n0, n251, zw_id (by omega) (by omega), zw_id (by omega) (by omega), ?_⟩, fun n251 => absurd n251 (by have := hb s1; omega)⟩⟩, fun c46 => ⟨zw_id (by omega) (by omega), ?_⟩⟩
          · rw [if_neg (fun z => z.2 s0)] at q
            exact ih n (i + 1) hd2 hs2 (i + 1) X (by omega) (by omega) (by omega) (by omega) n0 (by omega) (by omega) wk q
          · rw [if_pos ⟨c46, s1⟩] at q
            have b1 := hb s1
            refine ih (n + 1) (i + 1) 0 0 (i + 1) _ (by omega) (by omega) (by omega) (by omega) (by omega) (by omega) (by omega) (zWk_w wk (by omega)) ?_
            rw [zst_a]
            exact q
          · rw [if_neg (fun z => c46 z.1)] at q
            exact ih n (i + 1) hd2 hs2 (i + 1) X (by omega) (by omega) (by omega) (by omega) n0 (by omega) (by omega) wk q
        refine ⟨fun lt => meaning_D hG hX fr0 (by omega) (by omega) ⟨_, rfl, ?_⟩, fun ge => ?_⟩
        · rw [mw]
          exact tl _ _ (by rw [if_pos lt]) (by rw [if_pos lt]) (by omega)
        · exact tl _ _ (by rw [if_neg (by omega)]) (by rw [if_neg (by omega)]) (by omega)
    refine Sp_hear_f13 hG ?_
    rw [wk 9 (by omega), wk 15 (by omega)]
    exact ⟨fun z => absurd z (by omega), fun _ => ⟨fun lt => ⟨i0, by omega, st _ (by rw [if_pos lt])⟩, fun ge => st _ (by rw [if_neg (by omega)])⟩⟩
theorem zor_0 {x : Int} (h : zin x) : zor x 0 = x := by
  unfold zor
  have e : Int32.ofInt x ||| Int32.ofInt 0 = Int32.ofInt x := by
    show Int32.ofInt x ||| 0 = Int32.ofInt x
    exact Int32.or_zero
  rw [e]
  unfold zin at h
  rw [Int32.toInt_ofInt]
  have e2 : (Int32.size : Int) = 4294967296 := rfl
  exact Int.bmod_eq_of_le (by omega) (by omega)
theorem zor_in (x y : Int) : zin (zor x y) := ⟨Int32.le_toInt _, Int32.toInt_le _⟩
