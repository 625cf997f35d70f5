/-! ===== rings, the loops ===== -/
def zDi (X : zX) (q : Int) (p : Nat) (f s : Int) : Prop := zin f ∧ zin s ∧ zbt f p = true ∧ (∀ k, k < 32 → zbt f k = true → zCl X q p k) ∧ (∀ k, k < 32 → zbt s k = true → zbt f k = true) ∧ (∀ k b : Nat, k < 32 → zbt s k = true → (b : Int) < X 1 12 → zHn X q k b → zbt f b = true)
theorem ring_D {Q : List zV → zX → Prop} {G : zG} {X : zX} {q : Int} {p : Nat} (hG : SH G) (h : zRT X 1 0) (p1 : (p : Int) < X 1 12) (q0 : 1 ≤ q) (q1 : q ≤ 9999) (qq : ∀ v : Int, zin v → (∀ k, k < 32 → (zbt v k = true ↔ zCl X q p k)) → Q [zI v] X) :
    ∀ (d r : Nat) (f s : Int), r + d = 10 → zDi X q p f s → r ≤ zct s 10 → D_ring_W Q 32 [zR 0, zT, zI q, zI f, zI s, zI (r : Int), zT] [] G X := by
  have hp := q_pages h
  -- when all found have been asked
  have fin : ∀ f s : Int, zDi X q p f s → (∀ k, k < 32 → zbt f k = true → zbt s k = true) → Q [zI f] X := fun f s I al => by
    obtain ⟨i1, i2, i3, i4, i5, i6⟩ := I
    refine qq f i1 (fun k hk => ⟨i4 k hk, fun c => ?_⟩)
    have z := zCl_in (S := fun b => zbt f b = true) i3 (fun a b sa ca hb hr => by
      have al2 : (a : Int) < X 1 12 := by
        obtain ⟨n, hn⟩ := ca
        exact zRe_lt p1 n a hn
      exact i6 a b (by omega) (al a (by omega) sa) hb hr) k c
    exact z
  intro d
  induction d with
  | zero =>
    intro r f s e I hc
    have al := zct_all (v := s) 10 (by omega)
    have fk : ∀ k, k < 32 → zbt f k = true → zbt s k = true := fun k hk c => by
      obtain ⟨n, hn⟩ := I.2.2.2.1 k hk c
      have := zRe_lt p1 n k hn
      exact al k (by omega)
    exact D_ring_f32 hG ⟨fun z => absurd z (by omega), fun _ => fin f s I fk⟩
  | succ d ih =>
    intro r f s e I hc
    refine D_ring_f32 hG ⟨fun _ => ⟨fun eq => fin f s I (fun k _ c => by rw [eq]; exact c), fun ne => ?_⟩, fun z => absurd z (by omega)⟩
    -- one that is found and not asked yet
    have ex : ∃ j, j < 10 ∧ zbt f j = true ∧ ¬(zbt s j = true) := by
      refine Classical.byContradiction (fun no => ne ?_)
      refine zbt_ext I.2.1 I.1 (fun k hk => ?_)
      cases hs : zbt s k
      · cases hf : zbt f k
        · rfl
        · obtain ⟨n, hn⟩ := I.2.2.2.1 k hk hf
          have := zRe_lt p1 n k hn
          exact absurd ⟨k, by omega, hf, by rw [hs]; decide⟩ no
      · rw [I.2.2.2.2.1 k hk hs]
    obtain ⟨j, j10, jf, js⟩ := ex
    have rd : ∀ (d2 a : Nat) (f2 s2 : Int), (a : Int) + d2 = X 1 12 → zDi X q p f2 s2 → (∀ k, k < 32 → zbt f k = true → zbt f2 k = true) → (∀ k, k < 32 → zbt s k = true → zbt s2 k = true) → (∀ k, k < a → zbt f k = true → zbt s2 k = true) → D_ring_W Q 48 [zR 0, zT, zI q, zI f2, zI s2, zI (r : Int), zI (a : Int)] [] G X := by
      intro d2
      induction d2 with
      | zero =>
        intro a f2 s2 ea J g1 g2 g3
        refine D_ring_f48 hG ⟨fun z => absurd z (by omega), fun _ => ⟨zw_id (by omega) (by omega), ?_⟩⟩
        have jl : (j : Int) < X 1 12 := by
          obtain ⟨n, hn⟩ := I.2.2.2.1 j (by omega) jf
          exact zRe_lt p1 n j hn
        have ct := zct_lt (v := s) (w := s2) (j := j) 10 (fun k hk => g2 k (by omega)) j10 (g3 j (by omega) jf) js
        have r2 := ih (r + 1) f2 s2 (by omega) J (by omega)
        exact r2
      | succ d2 ih2 =>
        intro a f2 s2 ea J g1 g2 g3
        have zt := zbt_t (zand f2 (zxor s2 (-1))) (a := a) (by omega)
        rw [zbt_and, zbt_not _ (by omega)] at zt
        refine D_ring_f48 hG ⟨fun _ => ⟨fun z0 => ⟨zw_id (by omega) (by omega), ?_⟩, fun z1 => ?_⟩, fun z => absurd z (by omega)⟩
        · refine ih2 (a + 1) f2 s2 (by omega) J g1 g2 (fun k hk c => ?_)
          by_cases ka : k = a
          · subst ka
            cases hs : zbt s2 k
            · have z1 := zt.1 (by rw [hs, g1 k (by omega) c]; rfl)
              omega
            · rfl
          · exact g3 k (by omega) c
        · have fa : zbt f2 a = true ∧ zbt s2 a = false := by
            cases hf : zbt f2 a <;> cases hs : zbt s2 a
            · exact absurd (zt.2 (by rw [hf, hs]; rfl)) z1
            · exact absurd (zt.2 (by rw [hf, hs]; rfl)) z1
            · exact ⟨rfl, rfl⟩
            · exact absurd (zt.2 (by rw [hf, hs]; rfl)) z1
          obtain ⟨i1, i2, i3, i4, i5, i6⟩ := J
          refine hand_D hG h (by omega) q0 q1 (fun v hv bv => ⟨_, rfl, zw_id (by omega) (by omega), ?_⟩)
          have ba : ∀ k, k < 32 → (zbt (zor s2 (zshl 1 (a : Int))) k = true ↔ zbt s2 k = true ∨ k = a) := fun k hk => by
            rw [zbt_or, zbt_one (by omega) hk]
            simp
          have bf : ∀ k, k < 32 → (zbt (zor f2 v) k = true ↔ zbt f2 k = true ∨ ((k : Int) < X 1 12 ∧ zHn X q a k)) := fun k hk => by
            rw [zbt_or, ← bv k hk]
            simp
          refine ih2 (a + 1) _ _ (by omega) ⟨zor_in _ _, zor_in _ _, (bf p (by omega)).2 (Or.inl i3), fun k hk c => ?_, fun k hk c => ?_, fun k b hk c hb hr => ?_⟩ (fun k hk c => (bf k hk).2 (Or.inl (g1 k hk c))) (fun k hk c => (ba k hk).2 (Or.inl (g2 k hk c))) (fun k hk c => ?_)
          · rcases (bf k hk).1 c with c | c
            · exact i4 k hk c
            · exact zCl_st (i4 a (by omega) fa.1) c.1 c.2
          · refine (bf k hk).2 ?_
            rcases (ba k hk).1 c with c | c
            · exact Or.inl (i5 k hk c)
            · rw [c]
              exact Or.inl fa.1
          · refine (bf b (by omega)).2 ?_
            rcases (ba k hk).1 c with c | c
            · exact Or.inl (i6 k b hk c hb hr)
            · rw [c] at hr
              exact Or.inr ⟨hb, hr⟩
          · by_cases ka : k = a
            · exact (ba k (by omega)).2 (Or.inr ka)
            · exact (ba k (by omega)).2 (Or.inl (g3 k (by omega) c))
    exact rd (X 1 12).toNat 0 f s (by omega) I (fun k _ c => c) (fun k _ c => c) (fun k hk _ => absurd hk (by omega))
def zMi (X : zX) (q : Int) (p : Nat) (f s : Int) : Prop := zin f ∧ zin s ∧ zbt f p = true ∧ (∀ k, k < 32 → zbt f k = true → zCl X q p k) ∧ (∀ k, k < 32 → zbt s k = true → zbt f k = true) ∧ (∀ k b : Nat, k < 32 → zbt s k = true → (b : Int) < X 1 12 → zHn X q k b → zbt f b = true)
theorem ring_M {Q : List zV → zX → Prop} {G : zG} {X : zX} {q : Int} {p : Nat} (hG : SH G) (h : zRT X 1 0) (p1 : (p : Int) < X 1 12) (q0 : 1 ≤ q) (q1 : q ≤ 9999) (qq : ∀ v : Int, zin v → (∀ k, k < 32 → (zbt v k = true ↔ zCl X q p k)) → Q [zI v] X) :
    ∀ (d : Nat) (f s : Int), 11 ≤ d + zct s 10 → zMi X q p f s → M_ring_W Q 28 [zR 139, zT, zI q, zI f, zI s, zT, zT] [] G X := by
  have hp := q_pages h
  intro d
  induction d with
  | zero =>
    intro f s e I
    have := zct_le s 10
    omega
  | succ d ih =>
    intro f s e I
    obtain ⟨i1, i2, i3, i4, i5, i6⟩ := I
    refine M_ring_f28 hG ⟨fun eq => ?_, fun ne => ?_⟩
    · refine qq f i1 (fun k hk => ⟨i4 k hk, fun c => ?_⟩)
      have z := zCl_in (S := fun b => zbt f b = true) i3 (fun a b sa ca hb hr => by
        have al2 : (a : Int) < X 1 12 := by
          obtain ⟨n, hn⟩ := ca
          exact zRe_lt p1 n a hn
        exact i6 a b (by omega) (by rw [← eq]; exact sa) hb hr) k c
      exact z
    · have ex : ∃ j, j < 10 ∧ zbt f j = true ∧ ¬(zbt s j = true) := by
        refine Classical.byContradiction (fun no => ne ?_)
        refine zbt_ext i1 i2 (fun k hk => ?_)
        cases hs : zbt s k
        · cases hf : zbt f k
          · rfl
          · obtain ⟨n, hn⟩ := i4 k hk hf
            have := zRe_lt p1 n k hn
            exact absurd ⟨k, by omega, hf, by rw [hs]; decide⟩ no
        · rw [i5 k hk hs]
      obtain ⟨j, j10, jf, js⟩ := ex
      have ct := zct_lt (v := s) (w := f) (j := j) 10 (fun k hk => i5 k (by omega)) j10 jf js
      -- one round, a after a, b after b
      have go : ∀ f2 : Int, zin f2 ∧ zbt f2 p = true ∧ (∀ k, k < 32 → zbt f2 k = true → zCl X q p k) ∧ (∀ k, k < 32 → zbt f k = true → zbt f2 k = true) ∧ (∀ k b : Nat, k < 32 → zbt f k = true → (b : Int) < X 1 12 → zHn X q k b → zbt f2 b = true) → M_ring_W Q 28 [zR 139, zT, zI q, zI f2, zI f, zT, zT] [] G X := fun f2 J =>
        ih f2 f (by omega) ⟨J.1, i1, J.2.1, J.2.2.1, J.2.2.2.1, J.2.2.2.2⟩
      have al : ∀ (d2 a : Nat) (f2 : Int), (a : Int) + d2 = X 1 12 → zin f2 ∧ zbt f2 p = true ∧ (∀ k, k < 32 → zbt f2 k = true → zCl X q p k) ∧ (∀ k, k < 32 → zbt f k = true → zbt f2 k = true) → (∀ k b : Nat, k < a → zbt f k = true → (b : Int) < X 1 12 → zHn X q k b → zbt f2 b = true) → M_ring_W Q 40 [zR 139, zT, zI q, zI f2, zI f, zI (a : Int), zT] [] G X := by
        intro d2
        induction d2 with
        | zero =>
          intro a f2 ea J g
          refine M_ring_f40 hG ⟨fun z => absurd z (by omega), fun _ => go f2 ⟨J.1, J.2.1, J.2.2.1, J.2.2.2, fun k b hk c hb hr => ?_⟩⟩
          have kl : (k : Int) < X 1 12 := by
            obtain ⟨n, hn⟩ := i4 k hk c
            exact zRe_lt p1 n k hn
          exact g k b (by omega) c hb hr
        | succ d2 ih2 =>
          intro a f2 ea J g
          have zt := zbt_t f (a := a) (by omega)
          have bl : ∀ (d3 b : Nat) (f3 : Int), (b : Int) + d3 = X 1 12 → zin f3 ∧ zbt f3 p = true ∧ (∀ k, k < 32 → zbt f3 k = true → zCl X q p k) ∧ (∀ k, k < 32 → zbt f k = true → zbt f3 k = true) → (∀ k b : Nat, k < a → zbt f k = true → (b : Int) < X 1 12 → zHn X q k b → zbt f3 b = true) → (∀ k : Nat, k < b → zbt f a = true → zHn X q a k → zbt f3 k = true) → M_ring_W Q 54 [zR 139, zT, zI q, zI f3, zI f, zI (a : Int), zI (b : Int)] [] G X := by
            intro d3
            induction d3 with
            | zero =>
              intro b f3 eb K g1 g2
              refine M_ring_f54 hG ⟨fun z => absurd z (by omega), fun _ => ⟨zw_id (by omega) (by omega), ?_⟩⟩
              refine ih2 (a + 1) f3 (by omega) K (fun k b2 hk c hb hr => ?_)
              by_cases ka : k = a
              · subst ka
                exact g2 b2 (by omega) c hr
              · exact g1 k b2 (by omega) c hb hr
            | succ d3 ih3 =>
              intro b f3 eb K g1 g2
              have same : (zbt f a = true → ¬zHn X q a b) → zw ((b : Int) + 1) = (b : Int) + 1 ∧ M_ring_W Q 54 [zR 139, zT, zI q, zI f3, zI f, zI (a : Int), zI ((b : Int) + 1)] [] G X := fun n => by
                have r := ih3 (b + 1) f3 (by omega) K g1 (fun k hk c hr => by
                  by_cases kb : k = b
                  · subst kb
                    exact absurd hr (n c)
                  · exact g2 k (by omega) c hr)
                exact ⟨zw_id (by omega) (by omega), r⟩
              refine M_ring_f54 hG ⟨fun _ => ⟨fun z1 => ⟨fun ab => same (fun _ z => z.1 (by omega)), fun ab => hand_M hG h (by omega) (by omega) (by omega) q0 q1 (fun y => ⟨1, rfl, fun z => absurd z (by omega), fun _ => ⟨zw_id (by omega) (by omega), ?_⟩⟩) (fun n => ⟨0, rfl, fun _ => same (fun _ => n), fun z => absurd rfl z⟩)⟩, fun z0 => same (fun c => absurd (zt.1 c) z0)⟩, fun z => absurd z (by omega)⟩
              have fa : zbt f a = true := by
                cases c : zbt f a
                · have := zt.2 c
                  omega
                · rfl
              have bf : ∀ k, k < 32 → (zbt (zor f3 (zshl 1 (b : Int))) k = true ↔ zbt f3 k = true ∨ k = b) := fun k hk => by
                rw [zbt_or, zbt_one (by omega) hk]
                simp
              have r := ih3 (b + 1) (zor f3 (zshl 1 (b : Int))) (by omega) ⟨zor_in _ _, (bf p (by omega)).2 (Or.inl K.2.1), fun k hk c => by
                  rcases (bf k hk).1 c with c | c
                  · exact K.2.2.1 k hk c
                  · rw [c]
                    exact zCl_st (i4 a (by omega) fa) (by omega) y, fun k hk c => (bf k hk).2 (Or.inl (K.2.2.2 k hk c))⟩ (fun k b2 hk c hb hr => (bf b2 (by omega)).2 (Or.inl (g1 k b2 hk c hb hr))) (fun k hk c hr => by
                  by_cases kb : k = b
                  · exact (bf k (by omega)).2 (Or.inr kb)
                  · exact (bf k (by omega)).2 (Or.inl (g2 k (by omega) c hr)))
              exact r
          exact M_ring_f40 hG ⟨fun _ => bl (X 1 12).toNat 0 f2 (by omega) J g (fun k hk => absurd hk (by omega)), fun z => absurd z (by omega)⟩
      exact al (X 1 12).toNat 0 f (by omega) ⟨i1, i3, i4, fun k _ c => c⟩ (fun k b hk => absurd hk (by omega))
theorem ring_start {X : zX} {q : Int} {p : Nat} (hp : X 1 12 ≤ 10) (p1 : (p : Int) < X 1 12) : zDi X q p (zshl 1 (p : Int)) 0 := by
  have b : ∀ k, k < 32 → (zbt (zshl 1 (p : Int)) k = true ↔ k = p) := fun k hk => by
    rw [zbt_one (by omega) hk]
    simp
  have s := z_shl1 (n := (p : Int)) (by omega) (by omega)
  refine ⟨by unfold zin; omega, by unfold zin; omega, (b p (by omega)).2 rfl, fun k hk c => ?_, fun k hk c => ?_, fun k b hk c => ?_⟩
  · rw [(b k hk).1 c]
    exact ⟨0, rfl⟩
  · rw [zbt_0] at c
    exact absurd c (by decide)
  · rw [zbt_0] at c
    exact absurd c (by decide)
theorem op_ring {G : zG} {X : zX} {a b : Int} (hG : SH G) (h : zRT X 1 0) : zOp D_ring M_ring [zI a, zI b] [zI a, zI b] G X := by
  have hp := q_pages h
  have no : ¬(0 ≤ a ∧ a < X 1 12 ∧ 1 ≤ b ∧ b ≤ 9999) → M_ring [zR 139, zI a, zI b] G X (fun w X2 => w = [zI (-1)] ∧ zRT X2 1 0 ∧ zKp X X2) := fun n => by
    refine M_ring_f0 hG ?_
    (repeat' (first | (exact ⟨rfl, h, zKp_r X⟩) | (with_reducible exact rfl) | (with_reducible apply And.intro) | (with_reducible refine ⟨_, rfl, ?_⟩) | (with_reducible refine q_isIn hG (fun _ _ => ?_) (fun _ => ?_)) | (with_reducible refine q_isAddress hG (fun _ _ => ?_) (fun _ => ?_)) | (with_reducible refine q_isMade hG (fun _ _ => ?_) (fun _ => ?_)) | (with_reducible refine q_isPage hG (by assumption) (fun _ _ => ?_) (fun _ => ?_)) | (with_reducible refine q_isHouse hG (by assumption) (fun _ _ => ?_) (fun _ => ?_)) | (with_reducible refine q_dPage hG (fun _ _ => ?_) (fun _ => ?_)) | (with_reducible refine q_dHouse hG (fun _ _ => ?_) (fun _ => ?_)) | (with_reducible refine q_dDay hG (fun _ _ => ?_) (fun _ => ?_)) | (with_reducible refine q_dLand hG (fun _ _ => ?_) (fun _ => ?_)) | (with_reducible refine q_dPerson hG (fun _ => ?_) (fun _ => ?_)) | (with_reducible refine q_mPerson hG (fun _ => ?_) (fun _ => ?_)) | (with_reducible refine q_pageAt hG (by omega) (by omega) ?_) | (with_reducible refine q_houseAt hG (by omega) (by omega) ?_) | (with_reducible refine q_treeOf hG (by omega) (by omega) ?_) | (with_reducible intro hz; exfalso; omega) | (with_reducible intro _) | (with_reducible refine zw_id ?_ ?_) | omega | (simp only [zw]; omega)))
  refine D_ring_f0 hG ?_
  (repeat' (first | (with_reducible exact no (by omega)) | (with_reducible exact rfl) | (with_reducible apply And.intro) | (with_reducible refine ⟨_, rfl, ?_⟩) | (with_reducible refine q_isIn hG (fun _ _ => ?_) (fun _ => ?_)) | (with_reducible refine q_isAddress hG (fun _ _ => ?_) (fun _ => ?_)) | (with_reducible refine q_isMade hG (fun _ _ => ?_) (fun _ => ?_)) | (with_reducible refine q_isPage hG (by assumption) (fun _ _ => ?_) (fun _ => ?_)) | (with_reducible refine q_isHouse hG (by assumption) (fun _ _ => ?_) (fun _ => ?_)) | (with_reducible refine q_dPage hG (fun _ _ => ?_) (fun _ => ?_)) | (with_reducible refine q_dHouse hG (fun _ _ => ?_) (fun _ => ?_)) | (with_reducible refine q_dDay hG (fun _ _ => ?_) (fun _ => ?_)) | (with_reducible refine q_dLand hG (fun _ _ => ?_) (fun _ => ?_)) | (with_reducible refine q_dPerson hG (fun _ => ?_) (fun _ => ?_)) | (with_reducible refine q_mPerson hG (fun _ => ?_) (fun _ => ?_)) | (with_reducible refine q_pageAt hG (by omega) (by omega) ?_) | (with_reducible refine q_houseAt hG (by omega) (by omega) ?_) | (with_reducible refine q_treeOf hG (by omega) (by omega) ?_) | (with_reducible intro hz; exfalso; omega) | (with_reducible intro _) | (with_reducible refine zw_id ?_ ?_) | omega | (simp only [zw]; omega)))
  obtain ⟨p, rfl⟩ : ∃ p : Nat, a = p := ⟨a.toNat, by omega⟩
  have p1 : (p : Int) < X 1 12 := by omega
  refine ring_D hG h p1 (by omega) (by omega) (fun v hv bv => ?_) 10 0 _ 0 (by omega) (ring_start hp.2.2 p1) (by omega)
  refine M_ring_f0 hG ?_
  (repeat' (first | (exact ⟨rfl, h, zKp_r X⟩) | (with_reducible exact rfl) | (with_reducible apply And.intro) | (with_reducible refine ⟨_, rfl, ?_⟩) | (with_reducible refine q_isIn hG (fun _ _ => ?_) (fun _ => ?_)) | (with_reducible refine q_isAddress hG (fun _ _ => ?_) (fun _ => ?_)) | (with_reducible refine q_isMade hG (fun _ _ => ?_) (fun _ => ?_)) | (with_reducible refine q_isPage hG (by assumption) (fun _ _ => ?_) (fun _ => ?_)) | (with_reducible refine q_isHouse hG (by assumption) (fun _ _ => ?_) (fun _ => ?_)) | (with_reducible refine q_dPage hG (fun _ _ => ?_) (fun _ => ?_)) | (with_reducible refine q_dHouse hG (fun _ _ => ?_) (fun _ => ?_)) | (with_reducible refine q_dDay hG (fun _ _ => ?_) (fun _ => ?_)) | (with_reducible refine q_dLand hG (fun _ _ => ?_) (fun _ => ?_)) | (with_reducible refine q_dPerson hG (fun _ => ?_) (fun _ => ?_)) | (with_reducible refine q_mPerson hG (fun _ => ?_) (fun _ => ?_)) | (with_reducible refine q_pageAt hG (by omega) (by omega) ?_) | (with_reducible refine q_houseAt hG (by omega) (by omega) ?_) | (with_reducible refine q_treeOf hG (by omega) (by omega) ?_) | (with_reducible intro hz; exfalso; omega) | (with_reducible intro _) | (with_reducible refine zw_id ?_ ?_) | omega | (simp only [zw]; omega)))
  refine ring_M hG h p1 (by omega) (by omega) (fun w hw bw => ?_) 11 _ 0 (by omega) (ring_start hp.2.2 p1)
  have e : w = v := zbt_ext hw hv (fun k hk => by
    cases c : zbt w k
    · cases c2 : zbt v k
      · rfl
      · have := (bw k hk).2 ((bv k hk).1 c2)
        rw [c] at this
        exact absurd this (by decide)
    · exact ((bv k hk).2 ((bw k hk).1 c)).symm)
  exact ⟨by rw [e], h, zKp_r X⟩
