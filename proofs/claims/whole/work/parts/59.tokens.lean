/-! ===== tokens ===== -/
def zBlk (c : Int) : Bool := c == 10 || c == 32
def zDgt (c : Int) : Bool := decide (48 ≤ c) && decide (c ≤ 57)
def zLet (c : Int) : Bool := decide (97 ≤ c) && decide (c ≤ 122)
theorem zBlk_e {c : Int} : zBlk c = true ↔ (c = 10 ∨ c = 32) := by
  unfold zBlk
  rw [Bool.or_eq_true, beq_iff_eq, beq_iff_eq]
theorem zDgt_e {c : Int} : zDgt c = true ↔ (48 ≤ c ∧ c ≤ 57) := by
  unfold zDgt
  rw [Bool.and_eq_true, decide_eq_true_eq, decide_eq_true_eq]
theorem zLet_e {c : Int} : zLet c = true ↔ (97 ≤ c ∧ c ≤ 122) := by
  unfold zLet
  rw [Bool.and_eq_true, decide_eq_true_eq, decide_eq_true_eq]
/-- how far a run of signs goes -/
def zRun (C : Int → Bool) (L : Int → Int) : Nat → Int → Int
  | 0, a => a
  | d + 1, a => if C (L a) = true then zRun C L d (a + 1) else a
theorem zRun_p {C : Int → Bool} {L : Int → Int} {d : Nat} {a : Int} (h : C (L a) = true) : zRun C L (d + 1) a = zRun C L d (a + 1) := if_pos h
theorem zRun_n {C : Int → Bool} {L : Int → Int} {d : Nat} {a : Int} (h : ¬C (L a) = true) : zRun C L (d + 1) a = a := if_neg h
theorem zRun_in {C : Int → Bool} {L : Int → Int} : ∀ (d : Nat) (a : Int), a ≤ zRun C L d a ∧ zRun C L d a ≤ a + d ∧ (∀ j : Int, a ≤ j → j < zRun C L d a → C (L j) = true)
  | 0, a => ⟨Int.le_refl _, by show a ≤ a + ((0 : Nat) : Int); omega, fun j j0 j1 => by
    have j2 : j < a := j1
    omega⟩
  | d + 1, a => by
    by_cases c : C (L a) = true
    · have z := zRun_in (C := C) (L := L) d (a + 1)
      rw [zRun_p c]
      refine ⟨by omega, by omega, fun j j0 j1 => ?_⟩
      by_cases e : j = a
      · rw [e]
        exact c
      · exact z.2.2 j (by omega) j1
    · rw [zRun_n c]
      exact ⟨Int.le_refl _, by omega, fun j j0 j1 => absurd j1 (by omega)⟩
/-- the number that k digits tell -/
def zNmb (L : Int → Int) (p : Int) : Nat → Int
  | 0 => 0
  | k + 1 => 10 * zNmb L p k + L (p + k) - 48
/-- letters as one number -/
def zLtv (L : Int → Int) (p : Int) : Nat → Int
  | 0 => 0
  | k + 1 => 32 * zLtv L p k + L (p + k) - 96
def zWst (w : Int) : Int := ([0, 4, 9, 14, 19, 23, 28, 33, 38, 43, 47, 50, 55, 59, 63, 68, 71, 74] : List Int).getD w.toNat 0
def zWln (w : Int) : Int := ([3, 4, 4, 4, 3, 4, 4, 4, 4, 3, 2, 4, 3, 3, 4, 2, 2, 4] : List Int).getD w.toNat 0
def zWcd (w : Int) : Int := ([2552, 212557, 525939, 99908, 16686, 408815, 661268, 402891, 394692, 4153, 655, 594980, 13624, 17076, 628164, 294, 239, 643568] : List Int).getD w.toNat 0
/-- the letters p .. e are word w -/
def zWmt (L : Int → Int) (p e w : Int) : Prop := zWln w = e - p ∧ ∀ j : Int, 0 ≤ j → j < zWln w → L (p + j) = zWt (zWst w + j)
/-- the token of the letters p .. e, looking at the first k words -/
noncomputable def zWtk (L : Int → Int) (p e : Int) : Nat → Int
  | 0 => 2
  | w + 1 => @ite _ (zWmt L p e w) (Classical.propDecidable _) (256 + w) (zWtk L p e w)
theorem zWtk_p {L : Int → Int} {p e : Int} {w : Nat} (h : zWmt L p e w) : zWtk L p e (w + 1) = 256 + w := @if_pos _ (Classical.propDecidable _) h _ _ _
theorem zWtk_n {L : Int → Int} {p e : Int} {w : Nat} (h : ¬zWmt L p e w) : zWtk L p e (w + 1) = zWtk L p e w := @if_neg _ (Classical.propDecidable _) h _ _ _
theorem zWtk_in {L : Int → Int} {p e : Int} : ∀ k : Nat, zWtk L p e k = 2 ∨ (256 ≤ zWtk L p e k ∧ zWtk L p e k < 256 + k)
  | 0 => Or.inl rfl
  | k + 1 => by
    have z := zWtk_in (L := L) (p := p) (e := e) k
    by_cases c : zWmt L p e k
    · rw [zWtk_p c]
      omega
    · rw [zWtk_n c]
      omega
/-- the token behind a, blanks gone over: what it is, its number, its place, where it ends -/
noncomputable def zTkn0 (L : Int → Int) (n p : Int) : Int × Int × Int × Int :=
  if n ≤ p then (0, 0, p, p)
  else if zDgt (L p) = true then (if zRun zDgt L (n - p).toNat p - p ≤ 4 then 1 else 2, zNmb L p (zRun zDgt L (n - p).toNat p - p).toNat, p, zRun zDgt L (n - p).toNat p)
  else if zLet (L p) = true then (zWtk L p (zRun zLet L (n - p).toNat p) 18, 0, p, zRun zLet L (n - p).toNat p)
  else (if L p = 40 ∨ L p = 41 ∨ L p = 59 ∨ L p = 60 then L p else 2, 0, p, p + 1)
noncomputable def zTkn (L : Int → Int) (n a : Int) : Int × Int × Int × Int := zTkn0 L n (zRun zBlk L (n - a).toNat a)
/-- what a token can be -/
def zTok (t : Int) : Prop := t = 0 ∨ t = 1 ∨ t = 2 ∨ t = 40 ∨ t = 41 ∨ t = 59 ∨ t = 60 ∨ (256 ≤ t ∧ t < 274)
theorem zNmb_in {L : Int → Int} {p : Int} : ∀ k : Nat, (∀ j : Int, 0 ≤ j → j < k → 48 ≤ L (p + j) ∧ L (p + j) ≤ 57) → k ≤ 4 → 0 ≤ zNmb L p k ∧ (k ≤ 3 → zNmb L p k ≤ 999) ∧ (k ≤ 2 → zNmb L p k ≤ 99) ∧ (k ≤ 1 → zNmb L p k ≤ 9) ∧ zNmb L p k ≤ 9999 ∧ (k = 0 → zNmb L p k = 0)
  | 0, _, _ => by
    show (0 : Int) ≤ 0 ∧ _ ∧ _ ∧ _ ∧ (0 : Int) ≤ 9999 ∧ _
    exact ⟨by omega, fun _ => by show (0 : Int) ≤ 999; omega, fun _ => by show (0 : Int) ≤ 99; omega, fun _ => by show (0 : Int) ≤ 9; omega, by omega, fun _ => rfl⟩
  | k + 1, h, k4 => by
    have z := zNmb_in k (fun j j0 j1 => h j j0 (by omega)) (by omega)
    have y := h k (by omega) (by omega)
    unfold zNmb
    omega
theorem zTkn_p {L : Int → Int} {n a : Int} (a0 : 0 ≤ a) (a1 : a ≤ n) : a ≤ (zTkn L n a).2.2.1 ∧ (zTkn L n a).2.2.1 ≤ (zTkn L n a).2.2.2 ∧ (zTkn L n a).2.2.2 ≤ n ∧ ((zTkn L n a).1 ≠ 0 → (zTkn L n a).2.2.1 < (zTkn L n a).2.2.2) ∧ ((zTkn L n a).1 = 0 → (zTkn L n a).2.2.1 = n ∧ (zTkn L n a).2.2.2 = n) ∧ zTok (zTkn L n a).1 ∧ ((zTkn L n a).1 = 1 → 0 ≤ (zTkn L n a).2.1 ∧ (zTkn L n a).2.1 ≤ 9999) := by
  have r := zRun_in (C := zBlk) (L := L) (n - a).toNat a
  unfold zTkn
  generalize zRun zBlk L (n - a).toNat a = p at r
  unfold zTkn0
  by_cases c0 : n ≤ p
  · rw [if_pos c0]
    refine ⟨r.1, Int.le_refl _, by show p ≤ n; omega, fun z => absurd rfl z, fun _ => ⟨by show p = n; omega, by show p = n; omega⟩, Or.inl rfl, fun z => absurd z (by show (0 : Int) ≠ 1; omega)⟩
  · rw [if_neg c0]
    by_cases c1 : zDgt (L p) = true
    · rw [if_pos c1]
      have e := zRun_in (C := zDgt) (L := L) (n - p).toNat p
      have e1 : p < zRun zDgt L (n - p).toNat p := by
        rw [show (n - p).toNat = (n - p - 1).toNat + 1 by omega, zRun_p c1]
        have z := zRun_in (C := zDgt) (L := L) (n - p - 1).toNat (p + 1)
        omega
      generalize zRun zDgt L (n - p).toNat p = q at e e1 ⊢
      refine ⟨r.1, e.1, by show q ≤ n; omega, fun _ => e1, fun z => ?_, ?_, fun z => ?_⟩
      · by_cases c4 : q - p ≤ 4
        · rw [if_pos c4] at z
          exact absurd z (by show (1 : Int) ≠ 0; omega)
        · rw [if_neg c4] at z
          exact absurd z (by show (2 : Int) ≠ 0; omega)
      · by_cases c4 : q - p ≤ 4
        · rw [if_pos c4]
          exact Or.inr (Or.inl rfl)
        · rw [if_neg c4]
          exact Or.inr (Or.inr (Or.inl rfl))
      · by_cases c4 : q - p ≤ 4
        · have y := zNmb_in (L := L) (p := p) (q - p).toNat (fun j j0 j1 => zDgt_e.1 (e.2.2 (p + j) (by omega) (by omega))) (by omega)
          exact ⟨y.1, y.2.2.2.2.1⟩
        · rw [if_neg c4] at z
          exact absurd z (by show (2 : Int) ≠ 1; omega)
    · rw [if_neg c1]
      by_cases c2 : zLet (L p) = true
      · rw [if_pos c2]
        have e := zRun_in (C := zLet) (L := L) (n - p).toNat p
        have e1 : p < zRun zLet L (n - p).toNat p := by
          rw [show (n - p).toNat = (n - p - 1).toNat + 1 by omega, zRun_p c2]
          have z := zRun_in (C := zLet) (L := L) (n - p - 1).toNat (p + 1)
          omega
        generalize zRun zLet L (n - p).toNat p = q at e e1 ⊢
        have t := zWtk_in (L := L) (p := p) (e := q) 18
        refine ⟨r.1, e.1, by show q ≤ n; omega, fun _ => e1, fun z => ?_, ?_, fun z => ?_⟩
        · have z2 : zWtk L p q 18 = 0 := z
          omega
        · show zTok (zWtk L p q 18)
          unfold zTok
          omega
        · have z2 : zWtk L p q 18 = 1 := z
          omega
      · rw [if_neg c2]
        refine ⟨r.1, by show p ≤ p + 1; omega, by show p + 1 ≤ n; omega, fun _ => by show p < p + 1; omega, fun z => ?_, ?_, fun z => ?_⟩
        · by_cases c4 : L p = 40 ∨ L p = 41 ∨ L p = 59 ∨ L p = 60
          · rw [if_pos c4] at z
            have z2 : L p = 0 := z
            omega
          · rw [if_neg c4] at z
            exact absurd z (by show (2 : Int) ≠ 0; omega)
        · by_cases c4 : L p = 40 ∨ L p = 41 ∨ L p = 59 ∨ L p = 60
          · rw [if_pos c4]
            show zTok (L p)
            unfold zTok
            omega
          · rw [if_neg c4]
            exact Or.inr (Or.inr (Or.inl rfl))
        · by_cases c4 : L p = 40 ∨ L p = 41 ∨ L p = 59 ∨ L p = 60
          · rw [if_pos c4] at z
            have z2 : L p = 1 := z
            omega
          · rw [if_neg c4] at z
            exact absurd z (by show (2 : Int) ≠ 1; omega)
/-! words by their numbers -/
theorem zLtv_in {L : Int → Int} {p : Int} : ∀ k : Nat, (∀ j : Int, 0 ≤ j → j < k → 97 ≤ L (p + j) ∧ L (p + j) ≤ 122) → k ≤ 4 → (k = 0 → zLtv L p k = 0) ∧ (k = 1 → 1 ≤ zLtv L p k ∧ zLtv L p k ≤ 26) ∧ (k = 2 → 33 ≤ zLtv L p k ∧ zLtv L p k ≤ 858) ∧ (k = 3 → 1057 ≤ zLtv L p k ∧ zLtv L p k ≤ 27482) ∧ (k = 4 → 33825 ≤ zLtv L p k ∧ zLtv L p k ≤ 879450)
  | 0, _, _ => ⟨fun _ => rfl, fun z => absurd z (by omega), fun z => absurd z (by omega), fun z => absurd z (by omega), fun z => absurd z (by omega)⟩
  | k + 1, h, k4 => by
    have z := zLtv_in k (fun j j0 j1 => h j j0 (by omega)) (by omega)
    have y := h k (by omega) (by omega)
    unfold zLtv
    omega
theorem zLtv_i {L M : Int → Int} {p q : Int} : ∀ k : Nat, (∀ j : Int, 0 ≤ j → j < k → 97 ≤ L (p + j) ∧ L (p + j) ≤ 122) → (∀ j : Int, 0 ≤ j → j < k → 97 ≤ M (q + j) ∧ M (q + j) ≤ 122) → zLtv L p k = zLtv M q k → ∀ j : Int, 0 ≤ j → j < k → L (p + j) = M (q + j)
  | 0, _, _, _, j, j0, j1 => absurd j1 (by omega)
  | k + 1, h1, h2, e, j, j0, j1 => by
    have y1 := h1 k (by omega) (by omega)
    have y2 := h2 k (by omega) (by omega)
    unfold zLtv at e
    by_cases c : j = k
    · rw [c]
      omega
    · exact zLtv_i k (fun i i0 i1 => h1 i i0 (by omega)) (fun i i0 i1 => h2 i i0 (by omega)) (by omega) j j0 (by omega)
theorem zLtv_c {L M : Int → Int} {p q : Int} : ∀ k : Nat, (∀ j : Int, 0 ≤ j → j < k → L (p + j) = M (q + j)) → zLtv L p k = zLtv M q k
  | 0, _ => rfl
  | k + 1, h => by
    unfold zLtv
    rw [zLtv_c k (fun j j0 j1 => h j j0 (by omega)), h k (by omega) (by omega)]
theorem zW_tab : ∀ w : Fin 18, 2 ≤ zWln (w.val : Int) ∧ zWln (w.val : Int) ≤ 4 ∧ 0 ≤ zWst (w.val : Int) ∧ zWst (w.val : Int) + zWln (w.val : Int) < 79 ∧ zWt (zWst (w.val : Int) + zWln (w.val : Int)) = 32 ∧ (w.val < 17 → zWst ((w.val : Int) + 1) = zWst (w.val : Int) + zWln (w.val : Int) + 1) ∧ (w.val = 17 → zWst (w.val : Int) + zWln (w.val : Int) + 1 = 79) ∧ zLtv zWt (zWst (w.val : Int)) (zWln (w.val : Int)).toNat = zWcd (w.val : Int) := by decide +kernel
theorem zW_let : ∀ w : Fin 18, ∀ j : Fin 4, (j.val : Int) < zWln (w.val : Int) → 97 ≤ zWt (zWst (w.val : Int) + (j.val : Int)) ∧ zWt (zWst (w.val : Int) + (j.val : Int)) ≤ 122 := by decide +kernel
theorem zW_inj : ∀ w u : Fin 18, zWcd (w.val : Int) = zWcd (u.val : Int) → w = u := by decide +kernel
theorem zWmt_v {L : Int → Int} {p e : Int} {w : Nat} (hw : w < 18) (pe : p < e) (e4 : e - p ≤ 4) (hl : ∀ j : Int, 0 ≤ j → j < e - p → 97 ≤ L (p + j) ∧ L (p + j) ≤ 122) : zWmt L p e w ↔ zLtv L p (e - p).toNat = zWcd w := by
  have t := zW_tab ⟨w, hw⟩
  simp only at t
  have m := zLtv_in (L := zWt) (p := zWst w) (zWln w).toNat (fun j j0 j1 => by
    have z := zW_let ⟨w, hw⟩ ⟨j.toNat, by omega⟩
    simp only at z
    rw [show ((j.toNat : Nat) : Int) = j by omega] at z
    exact z (by omega)) (by omega)
  have v := zLtv_in (L := L) (p := p) (e - p).toNat (fun j j0 j1 => hl j j0 (by omega)) (by omega)
  rw [t.2.2.2.2.2.2.2] at m
  constructor
  · intro h
    obtain ⟨h1, h2⟩ := h
    rw [← t.2.2.2.2.2.2.2, h1]
    exact zLtv_c _ (fun j j0 j1 => h2 j j0 (by omega))
  · intro h
    rw [h] at v
    have ln : zWln w = e - p := by omega
    refine ⟨ln, fun j j0 j1 => ?_⟩
    rw [← t.2.2.2.2.2.2.2, ← ln] at h
    exact zLtv_i _ (fun i i0 i1 => hl i i0 (by omega)) (fun i i0 i1 => by
      have z := zW_let ⟨w, hw⟩ ⟨i.toNat, by omega⟩
      simp only at z
      rw [show ((i.toNat : Nat) : Int) = i by omega] at z
      exact z (by omega)) h j j0 (by omega)
theorem zWtk_y {L : Int → Int} {p e : Int} {w : Nat} : ∀ k : Nat, w < k → zWmt L p e w → (∀ u : Nat, u < k → zWmt L p e u → u = w) → zWtk L p e k = 256 + w
  | 0, h, _, _ => absurd h (Nat.not_lt_zero w)
  | k + 1, h, m, un => by
    by_cases c : w = k
    · rw [← c]
      exact zWtk_p m
    · rw [zWtk_n (fun z => c (un k (by omega) z).symm)]
      exact zWtk_y k (by omega) m (fun u hu z => un u (by omega) z)
theorem zWtk_z {L : Int → Int} {p e : Int} : ∀ k : Nat, (∀ u : Nat, u < k → ¬zWmt L p e u) → zWtk L p e k = 2
  | 0, _ => rfl
  | k + 1, h => by
    rw [zWtk_n (h k (by omega))]
    exact zWtk_z k (fun u hu => h u (by omega))
/-- what the reference makes of a number of letters -/
def zRes (v r : Int) : Prop := (v = 2552 ∧ r = 0) ∨ (v = 212557 ∧ r = 1) ∨ (v = 525939 ∧ r = 2) ∨ (v = 99908 ∧ r = 3) ∨ (v = 16686 ∧ r = 4) ∨ (v = 408815 ∧ r = 5) ∨ (v = 661268 ∧ r = 6) ∨ (v = 402891 ∧ r = 7) ∨ (v = 394692 ∧ r = 8) ∨ (v = 4153 ∧ r = 9) ∨ (v = 594980 ∧ r = 10) ∨ (v = 655 ∧ r = 11) ∨ (v = 13624 ∧ r = 12) ∨ (v = 17076 ∧ r = 13) ∨ (v = 628164 ∧ r = 14) ∨ (v = 294 ∧ r = 15) ∨ (v = 239 ∧ r = 16) ∨ (v = 643568 ∧ r = 17) ∨ (v ≠ 2552 ∧ v ≠ 212557 ∧ v ≠ 525939 ∧ v ≠ 99908 ∧ v ≠ 16686 ∧ v ≠ 408815 ∧ v ≠ 661268 ∧ v ≠ 402891 ∧ v ≠ 394692 ∧ v ≠ 4153 ∧ v ≠ 594980 ∧ v ≠ 655 ∧ v ≠ 13624 ∧ v ≠ 17076 ∧ v ≠ 628164 ∧ v ≠ 294 ∧ v ≠ 239 ∧ v ≠ 643568 ∧ r = 99)
def zWo (w : Int) : Int := if w = 10 then 11 else if w = 11 then 10 else w
theorem zRes_t {L : Int → Int} {p e r : Int} (pe : p < e) (e4 : e - p ≤ 4) (hl : ∀ j : Int, 0 ≤ j → j < e - p → 97 ≤ L (p + j) ∧ L (p + j) ≤ 122) (h : zRes (zLtv L p (e - p).toNat) r) : (zWtk L p e 18 = 2 ∧ r = 99) ∨ (256 ≤ zWtk L p e 18 ∧ zWtk L p e 18 < 274 ∧ r = zWo (zWtk L p e 18 - 256)) := by
  have mv := fun (w : Nat) (hw : w < 18) => zWmt_v (L := L) (p := p) (e := e) (w := w) hw pe e4 hl
  generalize zLtv L p (e - p).toNat = v at mv h
  have yes : ∀ w : Nat, w < 18 → v = zWcd w → r = zWo w → (zWtk L p e 18 = 2 ∧ r = 99) ∨ (256 ≤ zWtk L p e 18 ∧ zWtk L p e 18 < 274 ∧ r = zWo (zWtk L p e 18 - 256)) := fun w hw ev er => by
    have t := zWtk_y (L := L) (p := p) (e := e) (w := w) 18 hw ((mv w hw).2 ev) (fun u hu m => by
      have z := (mv u hu).1 m
      have y := zW_inj ⟨u, hu⟩ ⟨w, hw⟩ (by show zWcd u = zWcd w; rw [← z, ← ev])
      exact congrArg Fin.val y)
    rw [t]
    exact Or.inr ⟨by omega, by omega, by rw [show (256 : Int) + w - 256 = w by omega]; exact er⟩
  unfold zRes at h
  rcases h with h | h | h | h | h | h | h | h | h | h | h | h | h | h | h | h | h | h | h
  · exact yes 0 (by omega) (by rw [h.1]; decide +kernel) (by rw [h.2]; decide +kernel)
  · exact yes 1 (by omega) (by rw [h.1]; decide +kernel) (by rw [h.2]; decide +kernel)
  · exact yes 2 (by omega) (by rw [h.1]; decide +kernel) (by rw [h.2]; decide +kernel)
  · exact yes 3 (by omega) (by rw [h.1]; decide +kernel) (by rw [h.2]; decide +kernel)
  · exact yes 4 (by omega) (by rw [h.1]; decide +kernel) (by rw [h.2]; decide +kernel)
  · exact yes 5 (by omega) (by rw [h.1]; decide +kernel) (by rw [h.2]; decide +kernel)
  · exact yes 6 (by omega) (by rw [h.1]; decide +kernel) (by rw [h.2]; decide +kernel)
  · exact yes 7 (by omega) (by rw [h.1]; decide +kernel) (by rw [h.2]; decide +kernel)
  · exact yes 8 (by omega) (by rw [h.1]; decide +kernel) (by rw [h.2]; decide +kernel)
  · exact yes 9 (by omega) (by rw [h.1]; decide +kernel) (by rw [h.2]; decide +kernel)
  · exact yes 11 (by omega) (by rw [h.1]; decide +kernel) (by rw [h.2]; decide +kernel)
  · exact yes 10 (by omega) (by rw [h.1]; decide +kernel) (by rw [h.2]; decide +kernel)
  · exact yes 12 (by omega) (by rw [h.1]; decide +kernel) (by rw [h.2]; decide +kernel)
  · exact yes 13 (by omega) (by rw [h.1]; decide +kernel) (by rw [h.2]; decide +kernel)
  · exact yes 14 (by omega) (by rw [h.1]; decide +kernel) (by rw [h.2]; decide +kernel)
  · exact yes 15 (by omega) (by rw [h.1]; decide +kernel) (by rw [h.2]; decide +kernel)
  · exact yes 16 (by omega) (by rw [h.1]; decide +kernel) (by rw [h.2]; decide +kernel)
  · exact yes 17 (by omega) (by rw [h.1]; decide +kernel) (by rw [h.2]; decide +kernel)
  · refine Or.inl ⟨zWtk_z 18 (fun u hu m => ?_), by omega⟩
    have z := (mv u hu).1 m
    have key : ∀ u : Fin 18, zWcd (u.val : Int) = 2552 ∨ zWcd (u.val : Int) = 212557 ∨ zWcd (u.val : Int) = 525939 ∨ zWcd (u.val : Int) = 99908 ∨ zWcd (u.val : Int) = 16686 ∨ zWcd (u.val : Int) = 408815 ∨ zWcd (u.val : Int) = 661268 ∨ zWcd (u.val : Int) = 402891 ∨ zWcd (u.val : Int) = 394692 ∨ zWcd (u.val : Int) = 4153 ∨ zWcd (u.val : Int) = 594980 ∨ zWcd (u.val : Int) = 655 ∨ zWcd (u.val : Int) = 13624 ∨ zWcd (u.val : Int) = 17076 ∨ zWcd (u.val : Int) = 628164 ∨ zWcd (u.val : Int) = 294 ∨ zWcd (u.val : Int) = 239 ∨ zWcd (u.val : Int) = 643568 := by decide +kernel
    have y := key ⟨u, hu⟩
    simp only at y
    rw [← z] at y
    omega
