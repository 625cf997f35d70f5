/-! ===== what is told, copied: the class's methods at any two bases ===== -/
/-- a Told's cells stand from 1 + d on -/
def zBw (G : zG) (d : Int) : Prop := ∀ b : Int, 1 ≤ b → b < 103 → zkd G (b + d) = zk0 b ∧ zln G (b + d) = zl0 b ∧ ∀ j : Int, 0 ≤ j → zd0 b j = false → zrx G (b + d) j = (if zr0 b j = -1 then -1 else zr0 b j + d)
theorem zBw_k {G : zG} {d b c : Int} (h : zBw G d) (b0 : 1 ≤ b) (b1 : b < 103) (e : zk0 b = c) : zkd G (b + d) = c := (h b b0 b1).1.trans e
theorem zBw_l {G : zG} {d b c : Int} (h : zBw G d) (b0 : 1 ≤ b) (b1 : b < 103) (e : zl0 b = c) : zln G (b + d) = c := (h b b0 b1).2.1.trans e
theorem zBw_r {G : zG} {d b j r : Int} (h : zBw G d) (b0 : 1 ≤ b) (b1 : b < 103) (hd : zd0 b j = false) (e : zr0 b j = r) (n : r ≠ -1) (j0 : 0 ≤ j := by omega) : zrx G (b + d) j = r + d := by
  rw [(h b b0 b1).2.2 j j0 hd, e, if_neg n]
theorem zBw_1 {G : zG} (h : SH G) : zBw G 0 := fun b b0 b1 => by
  rw [Int.add_zero]
  have z := h.1 b (by omega) (by omega)
  refine ⟨z.1, z.2, fun j j0 hd => ?_⟩
  rw [h.2.1 b j (by omega) (by omega) hd]
  by_cases c : zr0 b j = -1
  · rw [if_pos c, c]
  · rw [if_neg c, Int.add_zero]
theorem zBw_t {G : zG} {t : Int} (h : zTs G t) : zBw G (t - 1) := fun b b0 b1 => by
  have z := h.2.2 (b - 1) (by omega) (by omega)
  rw [show t + (b - 1) = b + (t - 1) by omega, show 1 + (b - 1) = b by omega] at z
  exact z
theorem zTs_b {G : zG} {t : Int} (h : zBw G (t - 1)) (t0 : 166 ≤ t) (t1 : t + 102 ≤ (zsz G : Int)) : zTs G t := ⟨t0, t1, fun i i0 i1 => by
  have z := h (1 + i) (by omega) (by omega)
  rw [show 1 + i + (t - 1) = t + i by omega] at z
  exact z⟩
theorem zBw_ref {G : zG} {d a j v : Int} (h : zBw G d) (c : ∀ b : Int, 1 ≤ b → b < 103 → b + d = a → zd0 b j = true) : zBw (zrs G a j v) d := fun b b0 b1 => by
  have z := h b b0 b1
  refine ⟨z.1, z.2.1, fun k k0 hd => ?_⟩
  have ne : b + d ≠ a ∨ k ≠ j := by
    by_cases e : b + d = a
    · refine Or.inr (fun ek => ?_)
      have y := c b b0 b1 e
      rw [← ek, hd] at y
      cases y
    · exact Or.inl e
  rw [zrs_n ne]
  exact z.2.2 k k0 hd
theorem zBw_same {G G2 : zG} {d : Int} (h : zBw G d) (hk : zkd G2 = zkd G) (hl : zln G2 = zln G) (hr : ∀ b j : Int, 1 ≤ b → b < 103 → zrx G2 (b + d) j = zrx G (b + d) j) : zBw G2 d := fun b b0 b1 => by
  have z := h b b0 b1
  rw [hk, hl]
  refine ⟨z.1, z.2.1, fun k k0 hd => ?_⟩
  rw [hr b k b0 b1]
  exact z.2.2 k k0 hd
theorem zcpy_0 {f g : Int → Int} {n j : Int} (j0 : 0 ≤ j) (j1 : j < n) : zcpy f g 0 0 n j = f j := by
  unfold zcpy
  rw [if_pos (by omega), show (0 : Int) + (j - 0) = j by omega]
theorem pgd {Q : List zV → zX → Prop} {G : zG} {X : zX} {d e c : Int} (hd : zBw G d) (he : zBw G e) (d0 : 0 ≤ d) (e0 : 0 ≤ e) (dj : d + 102 ≤ e ∨ e + 102 ≤ d) (k : zk0 c = 5) (c1 : 1 ≤ c) (c2 : c + 1 < 103) (q : ∀ Y : zX, (∀ x : Int, x ≠ c + d → x ≠ c + 1 + d → Y x = X x) → Y (c + d) 1 = X (c + e) 1 → (∀ j : Int, 0 ≤ j → j ≤ 69 → Y (c + 1 + d) j = X (c + 1 + e) j) → Q [] Y) : Pg_copy [zR (c + d), zR (c + e)] G X Q := by
  have pa := zPg_a k
  have ra := zBw_r hd c1 (by omega) (zd0_of k rfl) pa.1 (by omega)
  have rb := zBw_r he c1 (by omega) (zd0_of k rfl) pa.1 (by omega)
  refine Pg_copy_e0 ?_
  rw [ra, rb, zBw_k hd c1 (by omega) k, zBw_k he c1 (by omega) k, zBw_k hd (by omega) c2 pa.2.1, zBw_k he (by omega) c2 pa.2.1, zBw_l hd (by omega) c2 pa.2.2, zBw_l he (by omega) c2 pa.2.2]
  refine ⟨rfl, rfl, by omega, by omega, rfl, rfl, by omega, by omega, by omega, by omega, by omega, by omega, fun r1 h1 X2 h2 => ?_⟩
  have h1' : r1 = X (c + e) 1 := by rw [h1, zsa_n (by omega)]
  rw [h2]
  refine q _ (fun x x1 x2 => by rw [zrd_r x1, zsa_n x2]) (by rw [zrd_s]; exact h1') (fun j j0 j1 => ?_)
  rw [zrd_r (by omega), zsa_s]
  exact zcpy_0 j0 (by omega)
theorem hod {LC LS : Nat} {Q : List zV → zG → zX → Prop} {G : zG} {X : zX} {d e b : Int} (hd : zBw G d) (he : zBw G e) (d0 : 0 ≤ d) (e0 : 0 ≤ e) (dj : d + 102 ≤ e ∨ e + 102 ≤ d) (k : zk0 b = 3) (b1 : 1 ≤ b) (b2 : b + 5 < 103) (q : ∀ Y : zX, (∀ x : Int, ¬(b + d ≤ x ∧ x ≤ b + 5 + d) → Y x = X x) → (∀ i : Int, 2 ≤ i → i ≤ 3 → Y (b + d) i = X (b + e) i) → Y (b + 2 + d) 1 = X (b + 2 + e) 1 → Y (b + 4 + d) 1 = X (b + 4 + e) 1 → (∀ j : Int, 0 ≤ j → j ≤ 69 → Y (b + 2 + 1 + d) j = X (b + 2 + 1 + e) j) → (∀ j : Int, 0 ≤ j → j ≤ 69 → Y (b + 4 + 1 + d) j = X (b + 4 + 1 + e) j) → Q [] (zrs G (b + d) 1 (zrx G (b + e) 1)) Y) : Ho_copy LC LS [zR (b + d), zR (b + e)] G X Q := by
  have ha := zHo_a k
  have ra := zBw_r hd b1 (by omega) (zd0_of k rfl) ha.1.1 (by omega)
  have rb := zBw_r he b1 (by omega) (zd0_of k rfl) ha.1.1 (by omega)
  have kd := zBw_k hd b1 (by omega) k
  have ke := zBw_k he b1 (by omega) k
  have k1d := zBw_k hd (b := b + 1) (by omega) (by omega) ha.1.2.1
  have k1e := zBw_k he (b := b + 1) (by omega) (by omega) ha.1.2.1
  have l1d := zBw_l hd (b := b + 1) (by omega) (by omega) ha.1.2.2
  have l1e := zBw_l he (b := b + 1) (by omega) (by omega) ha.1.2.2
  have st : ∀ (i c : Int) (Y : zX), 0 ≤ i → i < 2 → zr0 (b + 1) i = c → zk0 c = 5 → 1 ≤ c → c + 1 < 103 → (∀ Z : zX, (∀ x : Int, x ≠ c + d → x ≠ c + 1 + d → Z x = Y x) → Z (c + d) 1 = Y (c + e) 1 → (∀ j : Int, 0 ≤ j → j ≤ 69 → Z (c + 1 + d) j = Y (c + 1 + e) j) → Ho_copy_W LC LS Q 2 [zR (b + d), zR (b + e), zI (i + 1)] [] G Z) → Ho_copy_W LC LS Q 2 [zR (b + d), zR (b + e), zI i] [] G Y := fun i c Y i0 i1 hr hk c1 c2 h => by
    have rd := zBw_r hd (b := b + 1) (j := i) (by omega) (by omega) (zd0_of ha.1.2.1 rfl) hr (by omega)
    have re := zBw_r he (b := b + 1) (j := i) (by omega) (by omega) (zd0_of ha.1.2.1 rfl) hr (by omega)
    refine Ho_copy_e2 ?_
    rw [ra, rb, kd, ke, k1d, k1e, l1d, l1e, rd, re, zBw_k hd c1 (by omega) hk, zw_id (by omega) (by omega)]
    exact ⟨rfl, by omega, by omega, fun _ => ⟨rfl, i0, i1, rfl, rfl, i1, rfl, pgd hd he d0 e0 dj hk c1 c2 (fun Z f z1 zr => ⟨rfl, h Z f z1 zr⟩)⟩, fun z => absurd z (by omega)⟩
  refine Ho_copy_e0 (st 0 (b + 2) X (by omega) (by omega) ha.2.1.1 ha.2.1.2 (by omega) (by omega) (fun Z f z1 zr => st 1 (b + 4) Z (by omega) (by omega) ha.2.2.1 ha.2.2.2 (by omega) (by omega) (fun Y g y1 yr => Ho_copy_e2 ?_)))
  rw [ra, kd, ke, k1d, l1d]
  refine ⟨rfl, by omega, by omega, fun z => absurd z (by omega), fun _ => ⟨rfl, ke, kd, q _ (fun x hx => ?_) (fun i i0 i1 => ?_) ?_ ?_ (fun j j0 j1 => ?_) (fun j j0 j1 => ?_)⟩⟩
  · rw [zrd_r (by omega), zrd_r (by omega), g x (by omega) (by omega), f x (by omega) (by omega)]
  · by_cases c : i = 3
    · rw [c, zrd_s, zrd_r (by omega), g _ (by omega) (by omega), f _ (by omega) (by omega)]
    · rw [zrd_n (by omega), show i = 2 by omega, zrd_s, g _ (by omega) (by omega), f _ (by omega) (by omega)]
  · rw [zrd_r (by omega), zrd_r (by omega), g _ (by omega) (by omega)]
    exact z1
  · rw [zrd_r (by omega), zrd_r (by omega), y1, f _ (by omega) (by omega)]
  · rw [zrd_r (by omega), zrd_r (by omega), g _ (by omega) (by omega)]
    exact zr j j0 j1
  · rw [zrd_r (by omega), zrd_r (by omega), yr j j0 j1, f _ (by omega) (by omega)]
theorem cad {LC LS : Nat} {Q : List zV → zG → zX → Prop} {G : zG} {X : zX} {d e b : Int} (hd : zBw G d) (he : zBw G e) (d0 : 0 ≤ d) (e0 : 0 ≤ e) (dj : d + 102 ≤ e ∨ e + 102 ≤ d) (k : zk0 b = 4) (b1 : 1 ≤ b) (b2 : b + 4 < 103) (q : ∀ Y : zX, (∀ x : Int, ¬(b + d ≤ x ∧ x ≤ b + 4 + d) → Y x = X x) → (∀ i : Int, 4 ≤ i → i ≤ 8 → Y (b + d) i = X (b + e) i) → Y (b + 1 + d) 1 = X (b + 1 + e) 1 → (∀ j : Int, 0 ≤ j → j ≤ 69 → Y (b + 1 + 1 + d) j = X (b + 1 + 1 + e) j) → (∀ j : Int, 0 ≤ j → j ≤ 23 → Y (b + 3 + d) j = X (b + 3 + e) j) → (∀ j : Int, 0 ≤ j → j ≤ 79 → Y (b + 4 + d) j = X (b + 4 + e) j) → Q [] (zrs G (b + d) 3 (zrx G (b + e) 3)) Y) : Ca_copy LC LS [zR (b + d), zR (b + e)] G X Q := by
  have ha := zCa_a k
  have ra := zBw_r hd b1 (by omega) (zd0_of k rfl) ha.1.1 (by omega)
  have rb := zBw_r he b1 (by omega) (zd0_of k rfl) ha.1.1 (by omega)
  have sa := zBw_r hd b1 (by omega) (zd0_of k rfl) ha.2.1.1 (by omega)
  have sb := zBw_r he b1 (by omega) (zd0_of k rfl) ha.2.1.1 (by omega)
  have ta := zBw_r hd b1 (by omega) (zd0_of k rfl) ha.2.2.1 (by omega)
  have tb := zBw_r he b1 (by omega) (zd0_of k rfl) ha.2.2.1 (by omega)
  have kd := zBw_k hd b1 (by omega) k
  have ke := zBw_k he b1 (by omega) k
  have k1 := zBw_k hd (b := b + 1) (by omega) (by omega) ha.1.2
  have k3d := zBw_k hd (b := b + 3) (by omega) (by omega) ha.2.1.2.1
  have k3e := zBw_k he (b := b + 3) (by omega) (by omega) ha.2.1.2.1
  have l3d := zBw_l hd (b := b + 3) (by omega) (by omega) ha.2.1.2.2
  have l3e := zBw_l he (b := b + 3) (by omega) (by omega) ha.2.1.2.2
  have k4d := zBw_k hd (b := b + 4) (by omega) (by omega) ha.2.2.2.1
  have k4e := zBw_k he (b := b + 4) (by omega) (by omega) ha.2.2.2.1
  have l4d := zBw_l hd (b := b + 4) (by omega) (by omega) ha.2.2.2.2
  have l4e := zBw_l he (b := b + 4) (by omega) (by omega) ha.2.2.2.2
  refine Ca_copy_e0 ?_
  rw [ra, rb, sa, sb, tb, kd, ke, k1, k3d, k3e, l3d, l3e]
  refine ⟨rfl, rfl, rfl, pgd hd he d0 e0 dj ha.1.2 (by omega) (by omega) (fun Z f z1 zr => ⟨rfl, by omega, by omega, rfl, rfl, by omega, by omega, by omega, by omega, by omega, by omega, fun r5 h5 => Ca_tellLines_e0 ?_⟩)⟩
  rw [ta, kd, k4d, k4e, l4d, l4e]
  have h5' : r5 = X (b + e) 8 := by rw [h5, zsa_n (by omega), f _ (by omega) (by omega)]
  refine ⟨rfl, by omega, by omega, rfl, rfl, by omega, by omega, by omega, by omega, by omega, by omega, rfl, ke, kd, fun X10 h10 => q _ (fun x hx => ?_) (fun i i0 i1 => ?_) ?_ (fun j j0 j1 => ?_) (fun j j0 j1 => ?_) (fun j j0 j1 => ?_)⟩
  · rw [zrd_r (by omega), h10, zrd_r (by omega), zrd_r (by omega), zrd_r (by omega), zrd_r (by omega), zsa_n (by omega), zsa_n (by omega), f x (by omega) (by omega)]
  · have xe : ∀ W : zX, W = X10 → W (b + e) = X (b + e) := fun W hW => by
      rw [hW, h10, zrd_r (by omega), zrd_r (by omega), zrd_r (by omega), zrd_r (by omega), zsa_n (by omega), zsa_n (by omega), f _ (by omega) (by omega)]
    by_cases c7 : i = 7
    · rw [c7, zrd_s, xe X10 rfl]
    · rw [zrd_n (by omega), h10]
      by_cases c6 : i = 6
      · rw [c6, zrd_s, zrd_r (by omega), zrd_r (by omega), zrd_r (by omega), zsa_n (by omega), zsa_n (by omega), f _ (by omega) (by omega)]
      · rw [zrd_n (by omega)]
        by_cases c5 : i = 5
        · rw [c5, zrd_s, zrd_r (by omega), zrd_r (by omega), zsa_n (by omega), zsa_n (by omega), f _ (by omega) (by omega)]
        · rw [zrd_n (by omega)]
          by_cases c4 : i = 4
          · rw [c4, zrd_s, zrd_r (by omega), zsa_n (by omega), zsa_n (by omega), f _ (by omega) (by omega)]
          · rw [zrd_n (by omega), show i = 8 by omega, zrd_s]
            exact h5'
  · rw [zrd_r (by omega), h10, zrd_r (by omega), zrd_r (by omega), zrd_r (by omega), zrd_r (by omega), zsa_n (by omega), zsa_n (by omega)]
    exact z1
  · rw [zrd_r (by omega), h10, zrd_r (by omega), zrd_r (by omega), zrd_r (by omega), zrd_r (by omega), zsa_n (by omega), zsa_n (by omega)]
    exact zr j j0 j1
  · rw [zrd_r (by omega), h10, zrd_r (by omega), zrd_r (by omega), zrd_r (by omega), zrd_r (by omega), zsa_n (by omega), zsa_s, zcpy_0 j0 (by omega), f _ (by omega) (by omega)]
  · rw [zrd_r (by omega), h10, zrd_r (by omega), zrd_r (by omega), zrd_r (by omega), zrd_r (by omega), zsa_s, zcpy_0 j0 (by omega), zsa_n (by omega), f _ (by omega) (by omega)]
theorem tad {Q : List zV → zX → Prop} {G : zG} {X : zX} {d e : Int} (hd : zBw G d) (he : zBw G e) (d0 : 0 ≤ d) (e0 : 0 ≤ e) (dj : d + 102 ≤ e ∨ e + 102 ≤ d) (q : ∀ Y : zX, (∀ x : Int, x ≠ 2 + d → x ≠ 3 + d → Y x = X x) → (∀ i : Int, 1 ≤ i → i ≤ 3 → Y (2 + d) i = X (2 + e) i) → (∀ j : Int, 0 ≤ j → j ≤ 499 → Y (3 + d) j = X (3 + e) j) → Q [] Y) : Ta_copy [zR (2 + d), zR (2 + e)] G X Q := by
  have ra := zBw_r hd (b := 2) (j := 0) (r := 3) (by omega) (by omega) (by decide +kernel) (by decide +kernel) (by omega)
  have rb := zBw_r he (b := 2) (j := 0) (r := 3) (by omega) (by omega) (by decide +kernel) (by decide +kernel) (by omega)
  refine Ta_copy_e0 ?_
  rw [ra, rb, zBw_k hd (b := 2) (c := 2) (by omega) (by omega) (by decide +kernel), zBw_k he (b := 2) (c := 2) (by omega) (by omega) (by decide +kernel), zBw_k hd (b := 3) (c := 51) (by omega) (by omega) (by decide +kernel), zBw_k he (b := 3) (c := 51) (by omega) (by omega) (by decide +kernel), zBw_l hd (b := 3) (c := 500) (by omega) (by omega) (by decide +kernel), zBw_l he (b := 3) (c := 500) (by omega) (by omega) (by decide +kernel)]
  refine ⟨rfl, rfl, by omega, by omega, rfl, rfl, by omega, by omega, by omega, by omega, by omega, by omega, fun r1 h1 X2 h2 => ?_⟩
  have h1' : r1 = X (2 + e) 1 := by rw [h1, zsa_n (by omega)]
  have x2e : X2 (2 + e) = X (2 + e) := by rw [h2, zrd_r (by omega), zsa_n (by omega)]
  refine q _ (fun x x1 x2 => by rw [zrd_r x1, zrd_r x1, h2, zrd_r x1, zsa_n x2]) (fun i i0 i1 => ?_) (fun j j0 j1 => ?_)
  · by_cases c3 : i = 3
    · rw [c3, zrd_s, zrd_r (by omega), x2e]
    · rw [zrd_n (by omega)]
      by_cases c2 : i = 2
      · rw [c2, zrd_s, x2e]
      · rw [zrd_n (by omega), h2, show i = 1 by omega, zrd_s]
        exact h1'
  · rw [zrd_r (by omega), zrd_r (by omega), h2, zrd_r (by omega), zsa_s]
    exact zcpy_0 j0 (by omega)
