/-! ===== sentences: the reference's side ===== -/
theorem zHr_let {L : Int → Int} {len : Int} {mw : Int → Int → Int} {f : Nat} {n fr hd hs i : Int} {F : Int → Int} (h : i < len) (c : 97 ≤ L i ∧ L i ≤ 122) : zHr L len mw (f + 1) n fr hd hs i F = zHr L len mw f n fr hd hs (i + 1) F := by
  show (if 97 ≤ (if i < len then L i else 46) ∧ (if i < len then L i else 46) ≤ 122 then _ else _) = _
  rw [if_pos h, if_pos c]
theorem zHr_lets {L : Int → Int} {len : Int} {mw : Int → Int → Int} {n fr hd hs i : Int} {F : Int → Int} : ∀ (m f : Nat), i + m ≤ len → (∀ j : Int, i ≤ j → j < i + m → 97 ≤ L j ∧ L j ≤ 122) → zHr L len mw (f + m) n fr hd hs i F = zHr L len mw f n fr hd hs (i + m) F
  | 0, f, _, _ => by rw [show i + ((0 : Nat) : Int) = i by omega]; rfl
  | m + 1, f, h, c => by
    rw [show f + (m + 1) = (f + 1) + m by omega, zHr_lets m (f + 1) (by omega) (fun j a b => c j a (by omega)), zHr_let (by omega) (c _ (by omega) (by omega)), show i + (m : Int) + 1 = i + ((m + 1 : Nat) : Int) by omega]
theorem sent_M {Q : List zV → zX → Prop} {G : zG} {X0 : zX} {k : Int} {F0 : Int → Int} (hG : SH G) (h : zRT X0 1 0) : ∀ (f : Nat) (n fr hd hs i bits some : Int) (X : zX) (F : Int → Int), i + f = X0 9 8 + 1 → 0 ≤ i → 0 ≤ fr → fr ≤ i → 0 ≤ n → n ≤ i → zin hd → (fr = i → bits = hd ∧ some = hs) → (fr < i → bits = zor hd (zMw X0 fr i) ∧ some = 1 ∧ (i < X0 9 8 → ¬(97 ≤ X0 15 i ∧ X0 15 i ≤ 122))) → zWk X0 X → X 139 48 = (if 0 ≤ k ∧ k < n then F k else -1) →
    (∀ X2 : zX, zWk X0 X2 → X2 139 48 = (if 0 ≤ k ∧ k < (zHr (X0 15) (X0 9 8) (zMw X0) f n fr hd hs i F).1 then (zHr (X0 15) (X0 9 8) (zMw X0) f n fr hd hs i F).2 k else -1) → Q [zI (zHr (X0 15) (X0 9 8) (zMw X0) f n fr hd hs i F).1] X2) → M_sentences_W Q 15 [zR 139, zI k, zI n, zI bits, zI some, zI i, zT, zT, zT, zT] [] G X := by
  have hl : X0 140 5010 = X0 9 8 ∧ 0 ≤ X0 9 8 ∧ X0 9 8 ≤ 500 := zR_lcn h
  have ht : ∀ j : Int, 0 ≤ j → j < 500 → X0 140 (5011 + j) = X0 15 j := fun j a b => by
    have z : X0 140 (0 + 5011 + j) = X0 15 j := (zR_ltr h j a b).1
    rw [show (0 : Int) + 5011 + j = 5011 + j by omega] at z
    exact z
  intro f
  induction f using Nat.strongRecOn with
  | _ f ih =>
    intro n fr hd hs i bits some X F e i0 fr0 fr1 n0 n1 zh b1 b2 wk em q
    have w140 : X 140 = X0 140 := wk _ (by omega)
    cases f with
    | zero =>
      refine M_sentences_f15 hG ?_
      rw [w140, hl.1]
      exact ⟨fun _ => q X wk em, fun z => absurd z (by omega)⟩
    | succ f =>
      have st : ∀ c : Int, c = (if i < X0 9 8 then X0 15 i else 46) → M_sentences_W Q 61 [zR 139, zI k, zI n, zI bits, zI some, zI i, zI (5011 + i), zT, zT, zT] [zI c] G X := fun c hc => by
        refine M_sentences_f61 hG (q_isLetter hG (fun cl => ⟨1, rfl, fun z => absurd z (by omega), fun _ => ?_⟩) (fun cl => ⟨0, rfl, fun _ => ?_, fun z => absurd rfl z⟩))
        · have il : i < X0 9 8 := by
            by_cases il : i < X0 9 8
            · exact il
            · rw [if_neg il] at hc
              omega
          rw [if_pos il] at hc
          have fi : fr = i := by
            by_cases fi : fr < i
            · exact absurd (by rw [← hc]; exact cl) ((b2 fi).2.2 il)
            · omega
          have b3 := b1 fi
          subst fi
          have lp : ∀ (d m : Nat), fr + m + d = X0 9 8 → 1 ≤ m → (∀ j : Int, fr ≤ j → j < fr + m → 97 ≤ X0 15 j ∧ X0 15 j ≤ 122) → M_sentences_W Q 74 [zR 139, zI k, zI n, zI bits, zT, zI fr, zI (5011 + fr), zT, zI m, zT] [] G X := by
            intro d
            have wd : ∀ m : Nat, 1 ≤ m → fr + m ≤ X0 9 8 → (∀ j : Int, fr ≤ j → j < fr + m → 97 ≤ X0 15 j ∧ X0 15 j ≤ 122) → (fr + m < X0 9 8 → ¬(97 ≤ X0 15 (fr + m) ∧ X0 15 (fr + m) ≤ 122)) → M_sentences_W Q 112 [zR 139, zI k, zI n, zI bits, zT, zI fr, zI (5011 + fr), zT, zI m, zT] [] G X := fun m m1 m2 hm hn => by
              have hX := zWk_RT wk h
              have ew : zWd X (X 15) fr m = zWd X0 (X0 15) fr m := by
                unfold zWd zPw
                rw [wk 9 (by omega), wk 10 (by omega), wk 11 (by omega), wk 15 (by omega)]
              have wcn : X0 140 5006 = X0 9 6 ∧ 0 ≤ X0 9 6 ∧ X0 9 6 ≤ 20 := zR_wcn h
              have wi := zFst_in (P := zPw X0 (X0 15) fr m) (X0 9 6).toNat 0 (by omega)
              have wi2 : -1 ≤ zWd X0 (X0 15) fr m ∧ zWd X0 (X0 15) fr m < 0 + ((X0 9 6).toNat : Int) := wi
              have ez := zHr_lets (L := X0 15) (len := X0 9 8) (mw := zMw X0) (n := n) (fr := fr) (hd := hd) (hs := hs) (i := fr) (F := F) m (f + 1 - m) m2 hm
              rw [show f + 1 - m + m = f + 1 by omega] at ez
              refine M_sentences_f112 hG (wordAt_M (L := X 15) (fr := fr) hG hX (by omega) (by omega) (by omega) (by omega) (fun j j0 j1 => ?_) ⟨_, rfl, ?_, ?_⟩)
              · rw [w140, wk 15 (by omega), show 5011 + fr + j = 5011 + (fr + j) by omega]
                exact ht _ (by omega) (by omega)
              · rw [ew]
                intro neg
                refine ⟨zw_id (by omega) (by omega), ih (f + 1 - m) (by omega) n fr hd hs (fr + m) bits 1 X F (by omega) (by omega) fr0 (by omega) n0 (by omega) zh (fun z => absurd z (by omega)) (fun _ => ⟨?_, rfl, hn⟩) wk em ?_⟩
                · unfold zMw
                  rw [show fr + (m : Int) - fr = m by omega, if_pos neg, zor_0 zh]
                  exact b3.1
                · rw [← ez]
                  exact q
              · rw [ew]
                intro pos
                have mn := zR_wmn h (zWd X0 (X0 15) fr m) pos (by omega)
                rw [show (0 : Int) + 4799 + 10 * zWd X0 (X0 15) fr m = 4790 + 10 * zWd X0 (X0 15) fr m + 9 by omega, show (1 : Int) + 11 = 12 by omega] at mn
                rw [w140, mn.1]
                refine ⟨by rw [zw_id (x := 10 * zWd X0 (X0 15) fr m) (by omega) (by omega)]; exact zw_id (by omega) (by omega), zw_id (by omega) (by omega), by omega, by omega, zw_id (by omega) (by omega), ih (f + 1 - m) (by omega) n fr hd hs (fr + m) _ 1 X F (by omega) (by omega) fr0 (by omega) n0 (by omega) zh (fun z => absurd z (by omega)) (fun _ => ⟨?_, rfl, hn⟩) wk em ?_⟩
                · unfold zMw
                  rw [show fr + (m : Int) - fr = m by omega, if_neg (by omega), b3.1]
                · rw [← ez]
                  exact q
            induction d with
            | zero =>
              intro m em2 m1 hm
              refine M_sentences_f74 hG ⟨zw_id (by omega) (by omega), ?_⟩
              rw [w140, hl.1]
              exact ⟨fun z => absurd z (by omega), fun _ => wd m m1 (by omega) hm (fun z => absurd z (by omega))⟩
            | succ d ih2 =>
              intro m em2 m1 hm
              refine M_sentences_f74 hG ⟨zw_id (by omega) (by omega), ?_⟩
              rw [w140, hl.1, show 5011 + fr + (m : Int) = 5011 + (fr + m) by omega, ht _ (by omega) (by omega)]
              refine ⟨fun _ => ⟨zw_id (by omega) (by omega), by omega, by omega, q_isLetter hG (fun c2 => ⟨1, rfl, fun z => absurd z (by omega), fun _ => ⟨zw_id (by omega) (by omega), ?_⟩⟩) (fun c2 => ⟨0, rfl, fun _ => wd m m1 (by omega) hm (fun _ => c2), fun z => absurd rfl z⟩)⟩, fun z => absurd z (by omega)⟩
              have r := ih2 (m + 1) (by omega) (by omega) (fun j j0 j1 => by
                by_cases hj : j = fr + m
                · rw [hj]; exact c2
                · exact hm j j0 (by omega))
              exact r
          exact lp (X0 9 8 - fr - 1).toNat 1 (by omega) (by omega) (fun j j0 j1 => by
            have : j = fr := by omega
            rw [this, ← hc]; exact cl)
        · -- not a letter
          have eb : bits = (if fr < i then zor hd (zMw X0 fr i) else hd) := by
            by_cases fi : fr < i
            · rw [if_pos fi]; exact (b2 fi).1
            · rw [if_neg fi]; exact (b1 (by omega)).1
          have es : some = (if fr < i then 1 else hs) := by
            by_cases fi : fr < i
            · rw [if_pos fi]; exact (b2 fi).2.1
            · rw [if_neg fi]; exact (b1 (by omega)).2
          have zb : zin bits := by
            rw [eb]
            split
            · exact zor_in _ _
            · exact zh
          unfold zHr at q
          rw [← hc, ← eb, ← es, if_neg cl] at q
          have pl : ¬(c = 46 ∧ some ≠ 0) → M_sentences_W Q 15 [zR 139, zI k, zI n, zI bits, zI some, zI (i + 1), zT, zT, zT, zT] [] G X := fun np => by
            rw [if_neg np] at q
            exact ih f (by omega) n (i + 1) bits some (i + 1) bits some X F (by omega) (by omega) (by omega) (by omega) n0 (by omega) zb (fun _ => ⟨rfl, rfl⟩) (fun z => absurd z (by omega)) wk em q
          refine ⟨zw_id (by omega) (by omega), fun c46 => ⟨fun s0 => pl (fun z => z.2 s0), fun s1 => ?_⟩, fun c46 => pl (fun z => c46 z.1)⟩
          rw [if_pos (show c = 46 ∧ some ≠ 0 from ⟨c46, s1⟩)] at q
          have fin : ∀ Y : zX, zWk X0 Y → Y 139 48 = (if 0 ≤ k ∧ k < n + 1 then zup F n bits k else -1) → M_sentences_W Q 190 [zR 139, zI k, zI n, zT, zT, zI (i + 1), zT, zT, zT, zT] [] G Y := fun Y wy ey =>
            M_sentences_f190 hG ⟨zw_id (by omega) (by omega), ih f (by omega) (n + 1) (i + 1) 0 0 (i + 1) 0 0 Y (zup F n bits) (by omega) (by omega) (by omega) (by omega) (by omega) (by omega) (by unfold zin; omega) (fun _ => ⟨rfl, rfl⟩) (fun z => absurd z (by omega)) wy ey q⟩
          refine ⟨fun nk => fin _ (zWk_w wk (by omega)) ?_, fun nk => fin X wk ?_⟩
          · rw [zrd_s, if_pos (by omega), ← nk]
            exact (zup_s _ _ _).symm
          · rw [em, zup_n (by omega)]
            by_cases ck : 0 ≤ k ∧ k < n
            · rw [if_pos ck, if_pos (by omega)]
            · rw [if_neg ck, if_neg (by omega)]
      refine M_sentences_f15 hG ?_
      rw [w140, hl.1]
      refine ⟨fun z => absurd z (by omega), fun _ => ⟨zw_id (by omega) (by omega), fun lt => ⟨by omega, by omega, ?_⟩, fun ge => st _ (by rw [if_neg (by omega)])⟩⟩
      rw [ht i i0 (by omega)]
      exact st _ (by rw [if_pos lt])
/-! both from their starts -/
theorem zHr_F {L : Int → Int} {len : Int} {mw : Int → Int → Int} : ∀ (f : Nat) (n fr hd hs i : Int) (F F2 : Int → Int), (∀ j : Int, 0 ≤ j → j < n → F j = F2 j) → (zHr L len mw f n fr hd hs i F).1 = (zHr L len mw f n fr hd hs i F2).1 ∧ ∀ j : Int, 0 ≤ j → j < (zHr L len mw f n fr hd hs i F).1 → (zHr L len mw f n fr hd hs i F).2 j = (zHr L len mw f n fr hd hs i F2).2 j
  | 0, n, fr, hd, hs, i, F, F2, h => ⟨rfl, h⟩
  | f + 1, n, fr, hd, hs, i, F, F2, h => by
    unfold zHr
    generalize (if i < len then L i else 46) = c
    by_cases c1 : 97 ≤ c ∧ c ≤ 122
    · simp only [if_pos c1]
      exact zHr_F f _ _ _ _ _ F F2 h
    · simp only [if_neg c1]
      by_cases c2 : c = 46 ∧ (if fr < i then 1 else hs) ≠ 0
      · simp only [if_pos c2]
        refine zHr_F f _ _ _ _ _ _ _ (fun j j0 j1 => ?_)
        by_cases jn : j = n
        · rw [jn, zup_s, zup_s]
        · rw [zup_n jn, zup_n jn]
          exact h j j0 (by omega)
      · simp only [if_neg c2]
        exact zHr_F f _ _ _ _ _ F F2 h
theorem zHr_le {L : Int → Int} {len : Int} {mw : Int → Int → Int} : ∀ (f : Nat) (n fr hd hs i : Int) (F : Int → Int), i + f = len + 1 → 0 ≤ n → fr ≤ i → 2 * n ≤ i → (hs ≠ 0 ∨ fr < i → 2 * n + 1 ≤ i) → 0 ≤ (zHr L len mw f n fr hd hs i F).1 ∧ 2 * (zHr L len mw f n fr hd hs i F).1 ≤ len + 1
  | 0, n, fr, hd, hs, i, F, e, n0, g, a, b => by
    show 0 ≤ n ∧ 2 * n ≤ len + 1
    omega
  | f + 1, n, fr, hd, hs, i, F, e, n0, g, a, b => by
    have hb : (if fr < i then 1 else hs) ≠ 0 → 2 * n + 1 ≤ i := fun z => by
      apply b
      by_cases fi : fr < i
      · exact Or.inr fi
      · rw [if_neg fi] at z
        exact Or.inl z
    unfold zHr
    generalize (if i < len then L i else 46) = c
    by_cases c1 : 97 ≤ c ∧ c ≤ 122
    · simp only [if_pos c1]
      exact zHr_le f _ _ _ _ _ _ (by omega) n0 (by omega) (by omega) (fun _ => by omega)
    · simp only [if_neg c1]
      by_cases c2 : c = 46 ∧ (if fr < i then 1 else hs) ≠ 0
      · simp only [if_pos c2]
        have hb2 := hb c2.2
        exact zHr_le f _ _ _ _ _ _ (by omega) (by omega) (by omega) (by omega) (fun _ => by omega)
      · simp only [if_neg c2]
        refine zHr_le f _ _ _ _ _ _ (by omega) n0 (by omega) (by omega) (fun z => ?_)
        have hb3 := hb (by rcases z with z | z; exact z; omega)
        omega
noncomputable def zSe (X : zX) : Int × (Int → Int) := zHr (X 15) (X 9 8) (zMw X) (X 9 8 + 1).toNat 0 0 0 0 0 (fun _ => 0)
theorem zSe_w {X X2 : zX} (w : zWk X X2) : zSe X2 = zSe X := by
  unfold zSe zMw zWd zPw
  rw [w 9 (by omega), w 10 (by omega), w 11 (by omega), w 12 (by omega), w 15 (by omega)]
theorem zSe_in {X : zX} (h : zRT X 1 0) : 0 ≤ (zSe X).1 ∧ (zSe X).1 ≤ 250 := by
  have hl : X 140 5010 = X 9 8 ∧ 0 ≤ X 9 8 ∧ X 9 8 ≤ 500 := zR_lcn h
  have z := zHr_le (L := X 15) (len := X 9 8) (mw := zMw X) (X 9 8 + 1).toNat 0 0 0 0 0 (fun _ => 0) (by omega) (by omega) (by omega) (by omega) (by omega)
  unfold zSe
  omega
theorem hear_S {Q : List zV → zX → Prop} {G : zG} {X : zX} (hG : SH G) (h : zRT X 1 0) (q : ∀ X2 : zX, zWk X X2 → (∀ j : Int, 0 ≤ j → j < (zSe X).1 → X2 138 j = (zSe X).2 j) → Q [zI (zSe X).1] X2) : Sp_hear [zR 9, zR 138] G X Q := by
  have hl : X 140 5010 = X 9 8 ∧ 0 ≤ X 9 8 ∧ X 9 8 ≤ 500 := zR_lcn h
  have c := zHr_F (L := X 15) (len := X 9 8) (mw := zMw X) (X 9 8 + 1).toNat 0 0 0 0 0 (X 138) (fun _ => 0) (fun j a b => by omega)
  refine Sp_hear_f0 hG (hear_D hG h (X 9 8 + 1).toNat 0 0 0 0 0 X (by omega) (by omega) (by omega) (by omega) (by omega) (by omega) (by omega) (zWk_r X) (fun X2 w2 e2 => ?_))
  rw [c.1]
  exact q X2 w2 (fun j j0 j1 => by rw [e2]; exact c.2 j j0 (by rw [c.1]; exact j1))
theorem sent_S {Q : List zV → zX → Prop} {G : zG} {X : zX} {k : Int} (hG : SH G) (h : zRT X 1 0) (q : ∀ X2 : zX, zWk X X2 → X2 139 48 = (if 0 ≤ k ∧ k < (zSe X).1 then (zSe X).2 k else -1) → Q [zI (zSe X).1] X2) : M_sentences [zR 139, zI k] G X Q := by
  have hl : X 140 5010 = X 9 8 ∧ 0 ≤ X 9 8 ∧ X 9 8 ≤ 500 := zR_lcn h
  refine M_sentences_f0 hG (sent_M (F0 := fun _ => 0) hG h (X 9 8 + 1).toNat 0 0 0 0 0 0 0 (zst X 139 48 (-1)) (fun _ => 0) (by omega) (by omega) (by omega) (by omega) (by omega) (by omega) (by unfold zin; omega) (fun _ => ⟨rfl, rfl⟩) (fun z => absurd z (by omega)) (zWk_w (zWk_r X) (by omega)) (by rw [zrd_s, if_neg (by omega)]) q)
theorem op_sentence {G : zG} {X : zX} {a : Int} (hG : SH G) (h : zRT X 1 0) : zOp D_sentence M_sentence [zI a] [zI a] G X := by
  have mm : ∀ {X1 : zX} {v : Int}, zWk X X1 → v = (if 0 ≤ a ∧ a < (zSe X).1 then (zSe X).2 a else -1) → M_sentence [zR 139, zI a] G X1 (fun w X2 => w = [zI v] ∧ zRT X2 1 0 ∧ zKp X X2) := fun w1 ev =>
    M_sentence_f0 hG (sent_S hG (zWk_RT w1 h) (fun X2 w2 e2 => ⟨_, rfl, by rw [e2, zSe_w w1, ev], zWk_RT (zWk_t w1 w2) h, zWk_Kp (zWk_t w1 w2)⟩))
  have hi := zSe_in h
  refine D_sentence_f0 hG ⟨fun a0 => mm (zWk_r X) (by rw [if_neg (by omega)]), fun a0 => hear_S hG h (fun X2 w2 e2 => ⟨_, rfl, fun lt => ⟨a0, by omega, mm w2 (by rw [if_pos ⟨a0, lt⟩]; exact e2 a a0 lt)⟩, fun ge => mm w2 (by rw [if_neg (by omega)])⟩)⟩
