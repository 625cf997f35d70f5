/-! ===== LINES read: what both do; the class ===== -/
noncomputable def zLkd (L : Int → Int) (n : Int) (s : zPst) : Int × zPst := if 256 ≤ zqt s ∧ zqt s < 264 then (zqt s - 256, zNx L n s) else (0, zSu s)
/-- a number behind a token -/
noncomputable def zLbh (L : Int → Int) (n w most : Int) (s : zPst) : Int × zPst := zRdn L n most (zXp L n w s)
def zLm1 (o : Int) : Int := if o = 269 then 99 else 5
def zLm2 (o : Int) : Int := if o = 270 then 9 else 5
abbrev zLvv : Type := Int × Int × Int × zPst
/-- what a line tells behind its order -/
noncomputable def zLf (L : Int → Int) (n o : Int) (s : zPst) : zLvv :=
  if o = 267 then ((zLkd L n s).1, (zLbh L n 266 5 (zLkd L n s).2).1, 0, (zLbh L n 266 5 (zLkd L n s).2).2)
  else if o = 271 then ((zRdn L n 5 s).1, (zLbh L n 60 99 (zRdn L n 5 s).2).1, (zLbh L n 272 20 (zLbh L n 60 99 (zRdn L n 5 s).2).2).1, (zLbh L n 272 20 (zLbh L n 60 99 (zRdn L n 5 s).2).2).2)
  else if o = 272 then (0, 0, (zRdn L n 20 s).1, (zRdn L n 20 s).2)
  else if o = 273 then (0, 0, 0, s)
  else ((zRdn L n (zLm1 o) s).1, (zLbh L n 266 (zLm2 o) (zRdn L n (zLm1 o) s).2).1, 0, (zLbh L n 266 (zLm2 o) (zRdn L n (zLm1 o) s).2).2)
def zLw (c : Int) (s : zPst) : zPst := if 20 ≤ c then zWg 3 s else s
abbrev zLss : Type := zPst × Int × (Int → Int)
noncomputable def zLe (L : Int → Int) (n c : Int) (s : zPst) : zPst := zXp L n 59 (zLf L n (zqt s) (zNx L n (zLw c s))).2.2.2
noncomputable def zLp (L : Int → Int) (n c : Int) (P : Int → Int) (s : zPst) : Int → Int :=
  zup (zup (zup (zup P (c * 4) (zqt s)) (c * 4 + 1) (zLf L n (zqt s) (zNx L n (zLw c s))).1) (c * 4 + 2) (zLf L n (zqt s) (zNx L n (zLw c s))).2.1) (c * 4 + 3) (zLf L n (zqt s) (zNx L n (zLw c s))).2.2.1
noncomputable def zLn (L : Int → Int) (n : Int) (A : zLss) : zLss :=
  if 267 ≤ zqt A.1 ∧ zqt A.1 ≤ 273 then (zLe L n A.2.1 A.1, A.2.1 + 1, if zqf (zLe L n A.2.1 A.1) = 0 ∧ A.2.1 < 20 then zLp L n A.2.1 A.2.2 A.1 else A.2.2)
  else (zSu (zLw A.2.1 A.1), A.2.1 + 1, A.2.2)
noncomputable def zLgl (L : Int → Int) (n : Int) : Nat → zLss → zLss
  | 0, A => A
  | k + 1, A => if zqt A.1 ≠ 0 ∧ zqf A.1 ≠ 1 then zLgl L n k (zLn L n A) else A
noncomputable def zLg0 (L : Int → Int) (n : Int) (P : Int → Int) : zLss := zLgl L n n.toNat (zNx L n (0, 0, 0, 0, 0, -1), 0, P)
theorem zLkd_k {L : Int → Int} {n : Int} {s : zPst} (h : zOk n s) : zOk n (zLkd L n s).2 := by
  unfold zLkd
  by_cases c : 256 ≤ zqt s ∧ zqt s < 264
  · rw [if_pos c]
    exact (zNx_k h).1
  · rw [if_neg c]
    exact zSu_k h
theorem zLbh_k {L : Int → Int} {n w most : Int} {s : zPst} (h : zOk n s) : zOk n (zLbh L n w most s).2 := zRdn_k (zXp_k h)
theorem zLf_k {L : Int → Int} {n o : Int} {s : zPst} (h : zOk n s) : zOk n (zLf L n o s).2.2.2 := by
  unfold zLf
  by_cases c1 : o = 267
  · rw [if_pos c1]
    exact zLbh_k (zLkd_k h)
  · rw [if_neg c1]
    by_cases c2 : o = 271
    · rw [if_pos c2]
      exact zLbh_k (zLbh_k (zRdn_k h))
    · rw [if_neg c2]
      by_cases c3 : o = 272
      · rw [if_pos c3]
        exact zRdn_k h
      · rw [if_neg c3]
        by_cases c4 : o = 273
        · rw [if_pos c4]
          exact h
        · rw [if_neg c4]
          exact zLbh_k (zRdn_k h)
theorem zLw_k {n c : Int} {s : zPst} (h : zOk n s) : zOk n (zLw c s) := by
  unfold zLw
  by_cases c1 : 20 ≤ c
  · rw [if_pos c1]
    exact zWg_k h (by omega) (by omega)
  · rw [if_neg c1]
    exact h
theorem zLw_t {c : Int} {s : zPst} : zqt (zLw c s) = zqt s ∧ zqp (zLw c s) = zqp s ∧ zqa (zLw c s) = zqa s := by
  unfold zLw
  by_cases c1 : 20 ≤ c
  · rw [if_pos c1]
    exact ⟨zWg_t.1, zWg_t.2.1, zWg_t.2.2.1⟩
  · rw [if_neg c1]
    exact ⟨rfl, rfl, rfl⟩
theorem zLn_k {L : Int → Int} {n : Int} {A : zLss} (h : zOk n A.1) : zOk n (zLn L n A).1 := by
  unfold zLn
  by_cases c : 267 ≤ zqt A.1 ∧ zqt A.1 ≤ 273
  · rw [if_pos c]
    exact zXp_k (zLf_k (zNx_k (zLw_k h)).1)
  · rw [if_neg c]
    exact zSu_k (zLw_k h)
theorem zLgl_k {L : Int → Int} {n : Int} : ∀ (k : Nat) (A : zLss), zOk n A.1 → zOk n (zLgl L n k A).1 := by
  intro k
  induction k with
  | zero => exact fun A h => h
  | succ k ih =>
    intro A h
    by_cases c : zqt A.1 ≠ 0 ∧ zqf A.1 ≠ 1
    · have e : zLgl L n (k + 1) A = zLgl L n k (zLn L n A) := if_pos c
      rw [e]
      exact ih _ (zLn_k h)
    · have e : zLgl L n (k + 1) A = A := if_neg c
      rw [e]
      exact h
/-! places do not go back -/
theorem zSu_p {s : zPst} : zqp (zSu s) = zqp s := by
  unfold zSu
  by_cases c3 : zqf s = 1
  · rw [if_pos c3]
  · rw [if_neg c3]
theorem zRdn_p {L : Int → Int} {n most : Int} {u : zPst} (hu : zOk n u) : zqp u ≤ zqp (zRdn L n most u).2 := by
  unfold zRdn
  by_cases c1 : zqt u = 1
  · rw [if_pos c1]
    by_cases c2 : most < zqv u
    · rw [if_pos c2]
      have z := zNx_k (L := L) (zWg_k hu (by omega : (0 : Int) ≤ 2) (by omega))
      have y := zWg_t (w := 2) (s := u)
      have x := z.2
      rw [y.2.2.1] at x
      exact Int.le_trans hu.2.1 x
    · rw [if_neg c2]
      exact Int.le_trans hu.2.1 (zNx_k (L := L) hu).2
  · rw [if_neg c1]
    exact Int.le_of_eq zSu_p.symm
theorem zXp_p {L : Int → Int} {n w : Int} {u : zPst} (hu : zOk n u) : zqp u ≤ zqp (zXp L n w u) := by
  unfold zXp
  by_cases c1 : zqt u = w
  · rw [if_pos c1]
    exact Int.le_trans hu.2.1 (zNx_k (L := L) hu).2
  · rw [if_neg c1]
    exact Int.le_of_eq zSu_p.symm
theorem zLbh_p {L : Int → Int} {n w most : Int} {u : zPst} (hu : zOk n u) : zqp u ≤ zqp (zLbh L n w most u).2 := Int.le_trans (zXp_p (L := L) (w := w) hu) (zRdn_p (zXp_k hu))
theorem zLkd_p {L : Int → Int} {n : Int} {u : zPst} (hu : zOk n u) : zqp u ≤ zqp (zLkd L n u).2 := by
  unfold zLkd
  by_cases c : 256 ≤ zqt u ∧ zqt u < 264
  · rw [if_pos c]
    exact Int.le_trans hu.2.1 (zNx_k (L := L) hu).2
  · rw [if_neg c]
    exact Int.le_of_eq zSu_p.symm
theorem zLf_p {L : Int → Int} {n o : Int} {s : zPst} (h : zOk n s) : zqp s ≤ zqp (zLf L n o s).2.2.2 := by
  unfold zLf
  by_cases c1 : o = 267
  · rw [if_pos c1]
    exact Int.le_trans (zLkd_p (L := L) h) (zLbh_p (zLkd_k h))
  · rw [if_neg c1]
    by_cases c2 : o = 271
    · rw [if_pos c2]
      exact Int.le_trans (Int.le_trans (zRdn_p (L := L) (most := 5) h) (zLbh_p (L := L) (w := 60) (most := 99) (zRdn_k h))) (zLbh_p (zLbh_k (zRdn_k h)))
    · rw [if_neg c2]
      by_cases c3 : o = 272
      · rw [if_pos c3]
        exact zRdn_p h
      · rw [if_neg c3]
        by_cases c4 : o = 273
        · rw [if_pos c4]
          exact Int.le_refl _
        · rw [if_neg c4]
          exact Int.le_trans (zRdn_p (L := L) (most := zLm1 o) h) (zLbh_p (zRdn_k h))
/-- a line goes over a token -/
theorem zLn_p {L : Int → Int} {n : Int} {A : zLss} (h : zOk n A.1) (t0 : zqt A.1 ≠ 0) (f1 : zqf (zLn L n A).1 ≠ 1) : zqp A.1 < zqp (zLn L n A).1 := by
  unfold zLn at f1 ⊢
  by_cases c : 267 ≤ zqt A.1 ∧ zqt A.1 ≤ 273
  · rw [if_pos c]
    have w := zLw_t (c := A.2.1) (s := A.1)
    have ok1 := zLw_k (c := A.2.1) h
    have x := zNx_k (L := L) ok1
    have x2 := x.2
    rw [w.2.2] at x2
    have y := h.2.2.2.1 t0
    have z := zLf_p (L := L) (o := zqt A.1) x.1
    have v : zqp (zLf L n (zqt A.1) (zNx L n (zLw A.2.1 A.1))).2.2.2 ≤ zqp (zLe L n A.2.1 A.1) := zXp_p (zLf_k x.1)
    show zqp A.1 < zqp (zLe L n A.2.1 A.1)
    omega
  · rw [if_neg c] at f1
    exact absurd zSu_f f1
/-! without a FAULT -/
theorem zXp_0 {L : Int → Int} {n w : Int} {s : zPst} (h : zqf (zXp L n w s) = 0) : zqf s = 0 ∧ zqt s = w := by
  unfold zXp at h
  by_cases c : zqt s = w
  · rw [if_pos c] at h
    exact ⟨h, c⟩
  · rw [if_neg c, zSu_f] at h
    omega
theorem zLbh_0 {L : Int → Int} {n w most : Int} {s : zPst} (ok : zOk n s) (h : zqf (zLbh L n w most s).2 = 0) : zqf s = 0 ∧ 0 ≤ (zLbh L n w most s).1 ∧ (zLbh L n w most s).1 ≤ most := by
  have z := zRdn_0 h
  have y := zXp_0 z.1
  have x := ((zXp_k (L := L) (w := w) ok).2.2.2.2.2.2.1 z.2.1).1
  refine ⟨y.1, ?_, ?_⟩
  · show 0 ≤ (zRdn L n most (zXp L n w s)).1
    rw [z.2.2.2]
    exact x
  · show (zRdn L n most (zXp L n w s)).1 ≤ most
    rw [z.2.2.2]
    exact z.2.2.1
theorem zLrd_0 {L : Int → Int} {n most : Int} {s : zPst} (ok : zOk n s) (h : zqf (zRdn L n most s).2 = 0) : zqf s = 0 ∧ 0 ≤ (zRdn L n most s).1 ∧ (zRdn L n most s).1 ≤ most := by
  have z := zRdn_0 h
  have x := (ok.2.2.2.2.2.2.1 z.2.1).1
  rw [z.2.2.2]
  exact ⟨z.1, x, z.2.2.1⟩
theorem zLkd_0 {L : Int → Int} {n : Int} {s : zPst} (h : zqf (zLkd L n s).2 = 0) : zqf s = 0 ∧ 0 ≤ (zLkd L n s).1 ∧ (zLkd L n s).1 ≤ 7 := by
  unfold zLkd at h ⊢
  by_cases c : 256 ≤ zqt s ∧ zqt s < 264
  · rw [if_pos c] at h ⊢
    exact ⟨h, by show 0 ≤ zqt s - 256; omega, by show zqt s - 256 ≤ 7; omega⟩
  · rw [if_neg c] at h
    have z : zqf (zSu s) = 0 := h
    rw [zSu_f] at z
    omega
/-- the bounds of a line's numbers -/
def zLok (o a b c : Int) : Prop := (0 ≤ a ∧ a ≤ 99) ∧ (0 ≤ b ∧ b ≤ 99) ∧ (0 ≤ c ∧ c ≤ 20) ∧ (o = 267 → a ≤ 7) ∧ (o = 268 ∨ o = 270 ∨ o = 271 → a ≤ 5) ∧ (o = 267 ∨ o = 268 ∨ o = 269 → b ≤ 5) ∧ (o = 270 → b ≤ 9)
theorem zLf_0 {L : Int → Int} {n o : Int} {s : zPst} (ok : zOk n s) (h : zqf (zLf L n o s).2.2.2 = 0) : zqf s = 0 ∧ zLok o (zLf L n o s).1 (zLf L n o s).2.1 (zLf L n o s).2.2.1 := by
  unfold zLf at h ⊢
  by_cases c1 : o = 267
  · rw [if_pos c1] at h ⊢
    have z := zLbh_0 (zLkd_k ok) h
    have y := zLkd_0 z.1
    refine ⟨y.1, ?_⟩
    show zLok o (zLkd L n s).1 (zLbh L n 266 5 (zLkd L n s).2).1 0
    unfold zLok
    omega
  · rw [if_neg c1] at h ⊢
    by_cases c2 : o = 271
    · rw [if_pos c2] at h ⊢
      have z := zLbh_0 (zLbh_k (zRdn_k ok)) h
      have y := zLbh_0 (zRdn_k ok) z.1
      have x := zLrd_0 ok y.1
      refine ⟨x.1, ?_⟩
      show zLok o (zRdn L n 5 s).1 (zLbh L n 60 99 (zRdn L n 5 s).2).1 (zLbh L n 272 20 (zLbh L n 60 99 (zRdn L n 5 s).2).2).1
      unfold zLok
      omega
    · rw [if_neg c2] at h ⊢
      by_cases c3 : o = 272
      · rw [if_pos c3] at h ⊢
        have x := zLrd_0 ok h
        refine ⟨x.1, ?_⟩
        show zLok o 0 0 (zRdn L n 20 s).1
        unfold zLok
        omega
      · rw [if_neg c3] at h ⊢
        by_cases c4 : o = 273
        · rw [if_pos c4] at h ⊢
          refine ⟨h, ?_⟩
          show zLok o 0 0 0
          unfold zLok
          omega
        · rw [if_neg c4] at h ⊢
          have y := zLbh_0 (zRdn_k ok) h
          have x := zLrd_0 ok y.1
          refine ⟨x.1, ?_⟩
          show zLok o (zRdn L n (zLm1 o) s).1 (zLbh L n 266 (zLm2 o) (zRdn L n (zLm1 o) s).2).1 0
          have m1 : zLm1 o ≤ 99 ∧ (o ≠ 269 → zLm1 o = 5) := by
            unfold zLm1
            by_cases d : o = 269
            · rw [if_pos d]
              omega
            · rw [if_neg d]
              omega
          have m2 : zLm2 o ≤ 9 ∧ (o ≠ 270 → zLm2 o = 5) := by
            unfold zLm2
            by_cases d : o = 270
            · rw [if_pos d]
              omega
            · rw [if_neg d]
              omega
          unfold zLok
          omega
/-! the class's side -/
theorem lkd_D {Q : List zV → zX → Prop} {G : zG} {X : zX} {L : Int → Int} {n : Int} {s : zPst} (hG : SH G) (n5 : n ≤ 500) (h : zCr G L n X s) (ok : zOk n s) (q : ∀ Y : zX, zFrx X Y → zCr G L n Y (zLkd L n s).2 → Q [zI (zLkd L n s).1] Y) : Ta_readKind [zR 2] G X Q := by
  have h8 := h.2.1
  have tk : 0 ≤ zqt s ∧ zqt s < 274 := by
    have := ok.2.2.2.2.2.1
    unfold zTok at this
    omega
  unfold zLkd at q
  refine Ta_readKind_f0 hG ?_
  rw [h8]
  refine ⟨zw_id (by omega) (by omega), fun lt => Ta_readKind_f19 hG ?_, fun ge => ⟨fun lt => ?_, fun ge2 => Ta_readKind_f19 hG ?_⟩⟩
  · rw [if_neg (by omega)] at q
    exact su_D hG h (fun Y f r => ⟨rfl, q Y f r⟩)
  · rw [if_pos (by omega)] at q
    exact nx_D hG n5 h (by have := ok.1; have := ok.2.1; omega) ok.2.2.1 (fun Z f2 r2 => ⟨rfl, q Z f2 r2⟩)
  · rw [if_neg (by omega)] at q
    exact su_D hG h (fun Y f r => ⟨rfl, q Y f r⟩)
theorem lbh_D {Q : List zV → zX → Prop} {G : zG} {X : zX} {L : Int → Int} {n w most : Int} {s : zPst} (hG : SH G) (n5 : n ≤ 500) (h : zCr G L n X s) (ok : zOk n s) (q : ∀ Y : zX, zFrx X Y → zCr G L n Y (zLbh L n w most s).2 → Q [zI (zLbh L n w most s).1] Y) : Ta_readBehind [zR 2, zI w, zI most] G X Q :=
  Ta_readBehind_f0 hG (xp_D hG n5 h ok (fun Y f r => ⟨rfl, rdn_D hG n5 r (zXp_k ok) (fun Z f2 r2 => ⟨_, rfl, q Z (zFrx_t f f2) r2⟩)⟩))
theorem line_D {Q : List zV → zX → Prop} {G : zG} {X : zX} {L P : Int → Int} {n c : Int} {s : zPst} (hG : SH G) (n5 : n ≤ 500) (h : zCr G L n X (zLw c s)) (ok : zOk n s) (c0 : 0 ≤ c) (c5 : c ≤ 500) (hP : X 136 = P) (q : ∀ Y : zX, (∀ b : Int, b ≠ 2 → b ≠ 136 → Y b = X b) → zCr G L n Y (zLn L n (s, c, P)).1 → Y 136 = (zLn L n (s, c, P)).2.2 → Q [] Y) : Ta_readLine [zR 2, zR 136, zI c] G X Q := by
  have h8 := h.2.1
  rw [zLw_t.1] at h8
  have ok1 := zLw_k (c := c) ok
  refine Ta_readLine_f0 hG ?_
  rw [h8]
  by_cases od : 267 ≤ zqt s ∧ zqt s ≤ 273
  · have eL : zLn L n (s, c, P) = (zLe L n c s, c + 1, if zqf (zLe L n c s) = 0 ∧ c < 20 then zLp L n c P s else P) := if_pos od
    rw [eL] at q
    have ok2 := (zNx_k (L := L) ok1).1
    obtain ⟨o, eo⟩ : ∃ o : Int, zqt s = o := ⟨_, rfl⟩
    obtain ⟨u, eu⟩ : ∃ u : zPst, zNx L n (zLw c s) = u := ⟨_, rfl⟩
    rw [eu] at ok2
    -- the end
    have f203 : ∀ (Y : zX) (a b d : Int) (e : zPst), zLf L n o u = (a, b, d, e) → zFrx X Y → zCr G L n Y e → Ta_readLine_W Q 203 [zR 2, zR 136, zI c, zI o, zI a, zI b, zI d, zT] [] G Y := fun Y a b d e ef f r => by
      have oke : zOk n e := by
        have z := zLf_k (L := L) (o := o) ok2
        rw [ef] at z
        exact z
      have ee : zLe L n c s = zXp L n 59 e := by
        unfold zLe
        rw [eo, eu, ef]
      have ep : zLp L n c P s = zup (zup (zup (zup P (c * 4) o) (c * 4 + 1) a) (c * 4 + 2) b) (c * 4 + 3) d := by
        unfold zLp
        rw [eo, eu, ef]
      rw [ee, ep] at q
      refine Ta_readLine_f203 hG (xp_D hG n5 r oke (fun Z f2 r2 => ⟨rfl, zw_id (by omega) (by omega), ?_⟩))
      have z136 : Z 136 = P := (f2 136 (by omega)).trans ((f 136 (by omega)).trans hP)
      rw [r2.2.2.2.2.1]
      refine ⟨fun f0 => ⟨zw_id (by omega) (by omega), fun gt => ?_, fun le => ⟨by omega, by omega, zw_id (by omega) (by omega), by omega, by omega, zw_id (by omega) (by omega), by omega, by omega, zw_id (by omega) (by omega), by omega, by omega, fun X5 e5 => ?_⟩⟩, fun f0 => ?_⟩
      · refine q Z (fun b b2 b3 => (f2 b b2).trans (f b b2)) r2 ?_
        show Z 136 = if zqf (zXp L n 59 e) = 0 ∧ c < 20 then _ else P
        rw [if_neg (by omega)]
        exact z136
      · refine q X5 (fun b b2 b3 => ?_) (zCr_c r2 ?_ ?_ ?_ ?_) ?_
        · rw [e5, zrd_r b3, zrd_r b3, zrd_r b3, zrd_r b3]
          exact (f2 b b2).trans (f b b2)
        · rw [e5, zrd_r (by omega), zrd_r (by omega), zrd_r (by omega), zrd_r (by omega)]
        · rw [e5, zrd_r (by omega), zrd_r (by omega), zrd_r (by omega), zrd_r (by omega)]
        · rw [e5, zrd_r (by omega), zrd_r (by omega), zrd_r (by omega), zrd_r (by omega)]
        · rw [e5, zrd_r (by omega), zrd_r (by omega), zrd_r (by omega), zrd_r (by omega)]
        · show X5 136 = if zqf (zXp L n 59 e) = 0 ∧ c < 20 then _ else P
          rw [if_pos ⟨f0, by omega⟩, e5, zst_a, zst_a, zst_a, zst_a, z136]
      · refine q Z (fun b b2 b3 => (f2 b b2).trans (f b b2)) r2 ?_
        show Z 136 = if zqf (zXp L n 59 e) = 0 ∧ c < 20 then _ else P
        rw [if_neg (fun z => f0 z.1)]
        exact z136
    -- the orders with two numbers
    have two : ∀ (Z : zX) (m1 m2 : Int), zFrx X Z → zCr G L n Z u → zLf L n o u = ((zRdn L n m1 u).1, (zLbh L n 266 m2 (zRdn L n m1 u).2).1, 0, (zLbh L n 266 m2 (zRdn L n m1 u).2).2) → Ta_readNumber [zR 2, zI m1] G Z (fun v1 X2 => ∃ r4, v1 = [zI r4] ∧ Ta_readBehind [zR 2, zI 266, zI m2] G X2 (fun v5 X6 => ∃ r8, v5 = [zI r8] ∧ Ta_readLine_W Q 203 [zR 2, zR 136, zI c, zI o, zI r4, zI r8, zI 0, zT] [] G X6)) := fun Z m1 m2 f r ef =>
      rdn_D hG n5 r ok2 (fun Y f2 r2 => ⟨_, rfl, lbh_D hG n5 r2 (zRdn_k ok2) (fun V f3 r3 => ⟨_, rfl, f203 V _ _ _ _ ef (zFrx_t f (zFrx_t f2 f3)) r3⟩)⟩)
    rw [eo] at od ⊢
    refine ⟨fun z => absurd z (by omega), fun _ => ⟨fun z => absurd z (by omega), fun _ => nx_D hG n5 h (by have := ok1.1; have := ok1.2.1; omega) ok1.2.2.1 (fun Z f r => ⟨rfl, ?_⟩)⟩⟩
    rw [eu] at r
    refine ⟨fun o1 => ?_, fun n1 => ⟨fun o2 => ?_, fun n2 => ⟨fun o3 => ?_, fun n3 => ⟨fun o4 => ?_, fun n4 => ⟨fun o5 => ?_, fun n5' => ⟨fun o6 => ?_, fun n6 => ?_⟩⟩⟩⟩⟩⟩
    · have ef : zLf L n o u = ((zLkd L n u).1, (zLbh L n 266 5 (zLkd L n u).2).1, 0, (zLbh L n 266 5 (zLkd L n u).2).2) := if_pos o1
      exact Ta_readLine_f80 hG (lkd_D hG n5 r ok2 (fun Y f2 r2 => ⟨_, rfl, lbh_D hG n5 r2 (zLkd_k ok2) (fun V f3 r3 => ⟨_, rfl, f203 V _ _ _ _ ef (zFrx_t f (zFrx_t f2 f3)) r3⟩)⟩))
    · have ef : zLf L n o u = ((zRdn L n 5 u).1, (zLbh L n 266 5 (zRdn L n 5 u).2).1, 0, (zLbh L n 266 5 (zRdn L n 5 u).2).2) := by rw [o2]; rfl
      exact Ta_readLine_f99 hG (two Z 5 5 f r ef)
    · have ef : zLf L n o u = ((zRdn L n 99 u).1, (zLbh L n 266 5 (zRdn L n 99 u).2).1, 0, (zLbh L n 266 5 (zRdn L n 99 u).2).2) := by rw [o3]; rfl
      exact Ta_readLine_f119 hG (two Z 99 5 f r ef)
    · have ef : zLf L n o u = ((zRdn L n 5 u).1, (zLbh L n 266 9 (zRdn L n 5 u).2).1, 0, (zLbh L n 266 9 (zRdn L n 5 u).2).2) := by rw [o4]; rfl
      exact Ta_readLine_f140 hG (two Z 5 9 f r ef)
    · have ef : zLf L n o u = ((zRdn L n 5 u).1, (zLbh L n 60 99 (zRdn L n 5 u).2).1, (zLbh L n 272 20 (zLbh L n 60 99 (zRdn L n 5 u).2).2).1, (zLbh L n 272 20 (zLbh L n 60 99 (zRdn L n 5 u).2).2).2) := by rw [o5]; rfl
      exact Ta_readLine_f161 hG (rdn_D hG n5 r ok2 (fun Y f2 r2 => ⟨_, rfl, lbh_D hG n5 r2 (zRdn_k ok2) (fun V f3 r3 => ⟨_, rfl, lbh_D hG n5 r3 (zLbh_k (zRdn_k ok2)) (fun W f4 r4 => ⟨_, rfl, f203 W _ _ _ _ ef (zFrx_t f (zFrx_t f2 (zFrx_t f3 f4))) r4⟩)⟩)⟩))
    · have ef : zLf L n o u = (0, 0, (zRdn L n 20 u).1, (zRdn L n 20 u).2) := by rw [o6]; rfl
      exact Ta_readLine_f192 hG (rdn_D hG n5 r ok2 (fun Y f2 r2 => ⟨_, rfl, f203 Y _ _ _ _ ef (zFrx_t f f2) r2⟩))
    · have o7 : o = 273 := by omega
      have ef : zLf L n o u = (0, 0, 0, u) := by rw [o7]; rfl
      exact f203 Z _ _ _ _ ef f r
  · have eL : zLn L n (s, c, P) = (zSu (zLw c s), c + 1, P) := if_neg od
    rw [eL] at q
    have f19 : Ta_readLine_W Q 19 [zR 2, zT, zT, zT, zT, zT, zT, zT] [] G X := Ta_readLine_f19 hG (su_D hG h (fun Y f r => ⟨rfl, q Y (fun b b2 _ => f b b2) r ((f 136 (by omega)).trans hP)⟩))
    exact ⟨fun _ => f19, fun _ => ⟨fun _ => f19, fun _ => absurd ⟨by omega, by omega⟩ od⟩⟩
theorem lgl_D {Q : List zV → zX → Prop} {G : zG} {X : zX} {L : Int → Int} {n : Int} {E : zLss} (hG : SH G) (n5 : n ≤ 500) (q : ∀ (Y : zX) (r : Int), zCr G L n Y E.1 → Y 136 = E.2.2 → (∀ b : Int, b ≠ 2 → b ≠ 136 → Y b = X b) → ((zqf E.1 = 0 ∧ r = E.2.1) ∨ (zqf E.1 ≠ 0 ∧ r = -1)) → Q [zI r] Y) : ∀ (k : Nat) (i : Int) (A : zLss) (Y : zX), i + k = n → 0 ≤ i → zCr G L n Y A.1 → zOk n A.1 → Y 136 = A.2.2 → 0 ≤ A.2.1 → A.2.1 ≤ i → (∀ b : Int, b ≠ 2 → b ≠ 136 → Y b = X b) → zLgl L n k A = E → Ta_takeProgram_W Q 17 [zR 2, zR 136, zI A.2.1, zI i] [] G Y := by
  have fin : ∀ (A : zLss) (Y : zX), zCr G L n Y A.1 → Y 136 = A.2.2 → (∀ b : Int, b ≠ 2 → b ≠ 136 → Y b = X b) → A = E → Ta_takeProgram_W Q 70 [zR 2, zT, zI A.2.1, zT] [] G Y := fun A Y r p f e => by
    subst e
    refine Ta_takeProgram_f70 hG ?_
    rw [r.2.2.2.2.1]
    exact ⟨fun z => q Y _ r p f (Or.inl ⟨z, rfl⟩), fun z => q Y _ r p f (Or.inr ⟨z, rfl⟩)⟩
  intro k
  induction k with
  | zero =>
    intro i A Y e i0 r ok p c0 ci f eE
    refine Ta_takeProgram_f17 hG ?_
    rw [r.2.2.2.2.2.2.1]
    exact ⟨fun z => absurd z (by omega), fun _ => fin A Y r p f eE⟩
  | succ k ih =>
    intro i A Y e i0 r ok p c0 ci f eE
    refine Ta_takeProgram_f17 hG ?_
    rw [r.2.2.2.2.2.2.1, r.2.1, r.2.2.2.2.1]
    refine ⟨fun _ => ?_, fun z => absurd z (by omega)⟩
    by_cases go : zqt A.1 ≠ 0 ∧ zqf A.1 ≠ 1
    · have e2 : zLgl L n (k + 1) A = zLgl L n k (zLn L n A) := if_pos go
      rw [e2] at eE
      have c1 : (zLn L n A).2.1 = A.2.1 + 1 := by
        unfold zLn
        by_cases c : 267 ≤ zqt A.1 ∧ zqt A.1 ≤ 273
        · rw [if_pos c]
        · rw [if_neg c]
      have f55 : ∀ Z : zX, zCr G L n Z (zLw A.2.1 A.1) → Z 136 = A.2.2 → (∀ b : Int, b ≠ 2 → b ≠ 136 → Z b = X b) → Ta_takeProgram_W Q 55 [zR 2, zR 136, zI A.2.1, zI i] [] G Z := fun Z rz pz fz => by
        refine Ta_takeProgram_f55 hG (line_D hG n5 rz ok c0 (by omega) pz (fun V fv rv pv => ⟨rfl, zw_id (by omega) (by omega), zw_id (by omega) (by omega), ?_⟩))
        have z := ih (i + 1) (zLn L n A) V (by omega) (by omega) rv (zLn_k ok) pv (by omega) (by omega) (fun b b2 b3 => (fv b b2 b3).trans (fz b b2 b3)) eE
        rw [c1] at z
        exact z
      refine ⟨fun z => absurd z go.1, fun _ => ⟨fun z => absurd z go.2, fun _ => ⟨fun lt => f55 Y ?_ p f, fun ge => wg_D hG r (fun Z f2 r2 => ⟨rfl, f55 Z ?_ ((f2 136 (by omega)).trans p) (fun b b2 b3 => (f2 b b2).trans (f b b2 b3))⟩)⟩⟩⟩
      · unfold zLw
        rw [if_neg (by omega)]
        exact r
      · unfold zLw
        rw [if_pos ge]
        exact r2
    · have e2 : zLgl L n (k + 1) A = A := if_neg go
      rw [e2] at eE
      have g := fin A Y r p f eE
      refine ⟨fun _ => g, fun t0 => ⟨fun _ => g, fun f1 => absurd ⟨t0, f1⟩ go⟩⟩
theorem takeProgram_D {Q : List zV → zX → Prop} {G : zG} {X : zX} (hG : SH G) (kt : zKtx G X) (n0 : 0 ≤ X 2 1) (n5 : X 2 1 ≤ 500)
    (q : ∀ (Y : zX) (r : Int), zCr G (X 3) (X 2 1) Y (zLg0 (X 3) (X 2 1) (X 136)).1 → Y 136 = (zLg0 (X 3) (X 2 1) (X 136)).2.2 → (∀ b : Int, b ≠ 2 → b ≠ 136 → Y b = X b) → ((zqf (zLg0 (X 3) (X 2 1) (X 136)).1 = 0 ∧ r = (zLg0 (X 3) (X 2 1) (X 136)).2.1) ∨ (zqf (zLg0 (X 3) (X 2 1) (X 136)).1 ≠ 0 ∧ r = -1)) → Q [zI r] Y) : Ta_takeProgram [zR 2, zR 136] G X Q := by
  obtain ⟨n, en⟩ : ∃ n : Int, X 2 1 = n := ⟨_, rfl⟩
  rw [en] at n0 n5 q
  have s0 : ∀ Y : zX, zTp X Y 0 (-1) → zCr G (X 3) n (zst Y 2 7 0) (0, Y 2 8, Y 2 10, Y 2 9, 0, -1) := fun Y t => by
    refine ⟨zrd_s _ _ _ _, ?_, ?_, fun z => ?_, ?_, ?_, ?_, ?_, ?_, zKtx_c kt ?_ ?_⟩
    · rw [zrd_n (by omega)]
    · rw [zrd_n (by omega)]
    · rw [zrd_n (by omega)]
    · rw [zrd_n (by omega)]
      exact t.2.2.2.1
    · rw [zrd_n (by omega)]
      exact t.2.2.2.2
    · rw [zrd_n (by omega)]
      exact t.2.2.1.trans en
    · rw [zrd_n (by omega)]
      exact t.2.1
    · rw [zrd_r (by omega)]
      exact t.1 3 (by omega)
    · rw [zrd_r (by omega)]
      exact t.1 (-3) (by omega)
    · rw [zrd_r (by omega)]
      exact t.1 (-4) (by omega)
  refine Ta_takeProgram_f0 hG (take_D hG (fun Y t => ⟨rfl, nx_D hG n5 (s0 Y t) (Int.le_refl _) n0 (fun Z f rz => ⟨rfl, ?_⟩)⟩))
  have rz' : zCr G (X 3) n Z (zNx (X 3) n (0, 0, 0, 0, 0, -1)) := rz
  have ok : zOk n (zNx (X 3) n (0, 0, 0, 0, 0, -1)) := (zNx_ok (Int.le_refl _) n0 (by show (0 : Int) ≤ 0; omega) (by show (0 : Int) ≤ 4; omega) (by show (-1 : Int) ≤ -1; omega) (by show (-1 : Int) ≤ n; omega)).1
  exact lgl_D hG n5 q n.toNat 0 (zNx (X 3) n (0, 0, 0, 0, 0, -1), 0, X 136) Z (by omega) (Int.le_refl _) rz' ok (by rw [f 136 (by omega), zrd_r (by omega)]; exact t.1 136 (by omega)) (Int.le_refl _) (Int.le_refl _) (fun b b2 b3 => by rw [f b b2, zrd_r b2]; exact t.1 b b2) rfl
