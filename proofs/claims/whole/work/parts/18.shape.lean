/-! ===== the shape behind the constructors (wip/whole/gen_shape.py): kinds, lengths, references ===== -/
def zk0 (a : Int) : Int := ([0, 1, 2, 51, 50, 14, 53, 55, 56, 6, 51, 50, 50, 50, 50, 51, 50, 50, 52, 50, 50, 50, 50, 3, 57, 5, 50, 5, 50, 3, 57, 5, 50, 5, 50, 3, 57, 5, 50, 5, 50, 3, 57, 5, 50, 5, 50, 3, 57, 5, 50, 5, 50, 4, 5, 50, 50, 50, 4, 5, 50, 50, 50, 4, 5, 50, 50, 50, 4, 5, 50, 50, 50, 4, 5, 50, 50, 50, 4, 5, 50, 50, 50, 4, 5, 50, 50, 50, 4, 5, 50, 50, 50, 4, 5, 50, 50, 50, 4, 5, 50, 50, 50, 54, 8, 7, 50, 50, 50, 50, 50, 7, 50, 50, 50, 50, 50, 50, 50, 9, 5, 50, 10, 50, 50, 50, 52, 52, 52, 52, 11, 50, 50, 50, 5, 50, 50, 50, 50, 12, 50, 52, 50, 50, 50, 52, 50, 52, 50, 50, 50, 50, 50, 50, 50, 50, 50, 50, 50, 50, 50, 50, 50, 50, 50, 50] : List Int).getD a.toNat (-1)
def zl0 (a : Int) : Int := ([0, 0, 0, 500, 6, 0, 16, 5, 10, 0, 160, 20, 20, 8, 8, 500, 16, 16, 16, 8, 1296, 10, 10, 0, 2, 0, 70, 0, 70, 0, 2, 0, 70, 0, 70, 0, 2, 0, 70, 0, 70, 0, 2, 0, 70, 0, 70, 0, 2, 0, 70, 0, 70, 0, 0, 70, 24, 80, 0, 0, 70, 24, 80, 0, 0, 70, 24, 80, 0, 0, 70, 24, 80, 0, 0, 70, 24, 80, 0, 0, 70, 24, 80, 0, 0, 70, 24, 80, 0, 0, 70, 24, 80, 0, 0, 70, 24, 80, 0, 0, 70, 24, 80, 3, 0, 0, 15, 15, 15, 15, 14, 0, 15, 15, 15, 15, 14, 256, 256, 0, 0, 70, 0, 16, 16, 16, 16, 61, 201, 100, 0, 6, 6, 10, 0, 70, 80, 169, 251, 0, 22080, 3, 8, 72, 169, 14, 14, 14, 14, 14, 14, 2, 32, 32, 32, 256, 289, 16, 16, 16, 3, 5, 80, 6, 6, 10] : List Int).getD a.toNat 0
def zr0 (a j : Int) : Int := (([[1, 103, 104, 119, 122, 130, 134, 136, 137, 138], [2, 7, 8, 9, 16, 17, 18, 19, 20, 21, 22, -1, -1, -1, -1, -1, -1], [3, -1, -1, -1, -1, 4, 5, -1, -1, -1, -1], [], [], [6, -1, -1, -1], [], [23, 29, 35, 41, 47], [53, 58, 63, 68, 73, 78, 83, 88, 93, 98], [10, 11, 12, 13, 14, 15, -1, -1, -1], [], [], [], [], [], [], [], [], [], [], [], [], [], [24, -1, -1, -1], [25, 27], [26, -1], [], [28, -1], [], [30, -1, -1, -1], [31, 33], [32, -1], [], [34, -1], [], [36, -1, -1, -1], [37, 39], [38, -1], [], [40, -1], [], [42, -1, -1, -1], [43, 45], [44, -1], [], [46, -1], [], [48, -1, -1, -1], [49, 51], [50, -1], [], [52, -1], [], [54, 56, 57, -1, -1, -1, -1, -1, -1], [55, -1], [], [], [], [59, 61, 62, -1, -1, -1, -1, -1, -1], [60, -1], [], [], [], [64, 66, 67, -1, -1, -1, -1, -1, -1], [65, -1], [], [], [], [69, 71, 72, -1, -1, -1, -1, -1, -1], [70, -1], [], [], [], [74, 76, 77, -1, -1, -1, -1, -1, -1], [75, -1], [], [], [], [79, 81, 82, -1, -1, -1, -1, -1, -1], [80, -1], [], [], [], [84, 86, 87, -1, -1, -1, -1, -1, -1], [85, -1], [], [], [], [89, 91, 92, -1, -1, -1, -1, -1, -1], [90, -1], [], [], [], [94, 96, 97, -1, -1, -1, -1, -1, -1], [95, -1], [], [], [], [99, 101, 102, -1, -1, -1, -1, -1, -1], [100, -1], [], [], [], [-1, -1, -1], [105, 111, 117, 118, 1, -1, -1], [106, 107, 108, 109, 110, -1], [], [], [], [], [], [112, 113, 114, 115, 116, -1], [], [], [], [], [], [], [], [120, 1, 104, -1, -1, -1, -1], [121, -1], [], [123, 124, 125, 126, 127, 128, 129, -1, -1, -1, -1, -1, -1, -1], [], [], [], [], [], [], [], [131, 132, 133, -1], [], [], [], [135, -1], [], [], [], [], [140, 141, -1, -1, -1, -1, -1, -1, -1, -1, -1, -1, 142, 143, 144, -1, 145, 146, 147, 148, 149, 150, 151, 152, 153, 154, -1, -1, 155, 156, -1, -1, -1, -1, -1, 157, 158, 159, 160, 161, -1, -1, -1, 162, 163, 164, 165, -1, -1], [], [], [], [], [], [], [], [], [], [], [], [], [], [], [], [], [], [], [], [], [], [], [], [], [], []] : List (List Int)).getD a.toNat []).getD j.toNat (-1)
/-- places whose reference changes: a house's name, a page's name, an image -/
def zd0 (a j : Int) : Bool := (zk0 a == 3 && j == 1) || (zk0 a == 4 && j == 3) || a == 103
def SH (G : zG) : Prop := (∀ a : Int, 0 ≤ a → a < 166 → zkd G a = zk0 a ∧ zln G a = zl0 a) ∧ (∀ a j : Int, 0 ≤ a → a < 166 → zd0 a j = false → zrx G a j = zr0 a j) ∧ 166 ≤ zsz G
theorem zSk {G : zG} (h : SH G) (a k : Int) (e : (decide (0 ≤ a) && decide (a < 166) && decide (zk0 a = k)) = true) : zkd G a = k := by
  simp only [Bool.and_eq_true, decide_eq_true_eq] at e
  rw [(h.1 a e.1.1 e.1.2).1, e.2]
theorem zSl {G : zG} (h : SH G) (a k : Int) (e : (decide (0 ≤ a) && decide (a < 166) && decide (zl0 a = k)) = true) : zln G a = k := by
  simp only [Bool.and_eq_true, decide_eq_true_eq] at e
  rw [(h.1 a e.1.1 e.1.2).2, e.2]
theorem zSr {G : zG} (h : SH G) (a j r : Int) (e : (decide (0 ≤ a) && decide (a < 166) && (zd0 a j == false) && decide (zr0 a j = r)) = true) : zrx G a j = r := by
  simp only [Bool.and_eq_true, decide_eq_true_eq, beq_iff_eq] at e
  rw [h.2.1 a j e.1.1.1 e.1.1.2 e.1.2, e.2]
theorem zk0_in {b c : Int} (h : zk0 b = c) (hc : 0 < c) : 0 ≤ b ∧ b < 166 := by
  constructor
  · by_cases h0 : 0 ≤ b
    · exact h0
    · have e : b.toNat = 0 := by omega
      unfold zk0 at h
      rw [e] at h
      have : (0 : Int) = c := h
      omega
  · by_cases h0 : b < 166
    · exact h0
    · unfold zk0 at h
      rw [List.getD_eq_getElem?_getD, List.getElem?_eq_none (by show 166 ≤ b.toNat; omega)] at h
      have : (-1 : Int) = c := h
      omega
theorem zSK {G : zG} (h : SH G) {b c : Int} (hb : zk0 b = c) (hc : 0 < c) : zkd G b = c := by
  rw [(h.1 b (zk0_in hb hc).1 (zk0_in hb hc).2).1, hb]
theorem zSL {G : zG} (h : SH G) {b c : Int} (hb : zk0 b = c) (hc : 0 < c) : zln G b = zl0 b := (h.1 b (zk0_in hb hc).1 (zk0_in hb hc).2).2
theorem zSR {G : zG} (h : SH G) {b c j : Int} (hb : zk0 b = c) (hc : 0 < c) (hd : zd0 b j = false) : zrx G b j = zr0 b j := h.2.1 b j (zk0_in hb hc).1 (zk0_in hb hc).2 hd
theorem zHo_or {b : Int} (h : zk0 b = 3) : b = 23 ∨ b = 29 ∨ b = 35 ∨ b = 41 ∨ b = 47 := by
  have hi := zk0_in h (by decide)
  have key : ∀ n : Fin 166, zk0 (n.val : Int) = 3 → (n.val : Int) = 23 ∨ (n.val : Int) = 29 ∨ (n.val : Int) = 35 ∨ (n.val : Int) = 41 ∨ (n.val : Int) = 47 := by decide +kernel
  have := key ⟨b.toNat, by omega⟩
  simp only [Int.toNat_of_nonneg hi.1] at this
  exact this h
theorem zCa_or {b : Int} (h : zk0 b = 4) : b = 53 ∨ b = 58 ∨ b = 63 ∨ b = 68 ∨ b = 73 ∨ b = 78 ∨ b = 83 ∨ b = 88 ∨ b = 93 ∨ b = 98 := by
  have hi := zk0_in h (by decide)
  have key : ∀ n : Fin 166, zk0 (n.val : Int) = 4 → (n.val : Int) = 53 ∨ (n.val : Int) = 58 ∨ (n.val : Int) = 63 ∨ (n.val : Int) = 68 ∨ (n.val : Int) = 73 ∨ (n.val : Int) = 78 ∨ (n.val : Int) = 83 ∨ (n.val : Int) = 88 ∨ (n.val : Int) = 93 ∨ (n.val : Int) = 98 := by decide +kernel
  have := key ⟨b.toNat, by omega⟩
  simp only [Int.toNat_of_nonneg hi.1] at this
  exact this h
theorem zPg_or {b : Int} (h : zk0 b = 5) : b = 25 ∨ b = 27 ∨ b = 31 ∨ b = 33 ∨ b = 37 ∨ b = 39 ∨ b = 43 ∨ b = 45 ∨ b = 49 ∨ b = 51 ∨ b = 54 ∨ b = 59 ∨ b = 64 ∨ b = 69 ∨ b = 74 ∨ b = 79 ∨ b = 84 ∨ b = 89 ∨ b = 94 ∨ b = 99 ∨ b = 120 ∨ b = 134 := by
  have hi := zk0_in h (by decide)
  have key : ∀ n : Fin 166, zk0 (n.val : Int) = 5 → (n.val : Int) = 25 ∨ (n.val : Int) = 27 ∨ (n.val : Int) = 31 ∨ (n.val : Int) = 33 ∨ (n.val : Int) = 37 ∨ (n.val : Int) = 39 ∨ (n.val : Int) = 43 ∨ (n.val : Int) = 45 ∨ (n.val : Int) = 49 ∨ (n.val : Int) = 51 ∨ (n.val : Int) = 54 ∨ (n.val : Int) = 59 ∨ (n.val : Int) = 64 ∨ (n.val : Int) = 69 ∨ (n.val : Int) = 74 ∨ (n.val : Int) = 79 ∨ (n.val : Int) = 84 ∨ (n.val : Int) = 89 ∨ (n.val : Int) = 94 ∨ (n.val : Int) = 99 ∨ (n.val : Int) = 120 ∨ (n.val : Int) = 134 := by decide +kernel
  have := key ⟨b.toNat, by omega⟩
  simp only [Int.toNat_of_nonneg hi.1] at this
  exact this h
theorem zPg_a {b : Int} (h : zk0 b = 5) : zr0 b 0 = b + 1 ∧ zk0 (b + 1) = 50 ∧ zl0 (b + 1) = 70 := by
  rcases zPg_or h with rfl | rfl | rfl | rfl | rfl | rfl | rfl | rfl | rfl | rfl | rfl | rfl | rfl | rfl | rfl | rfl | rfl | rfl | rfl | rfl | rfl | rfl <;> decide +kernel
theorem zCa_a {b : Int} (h : zk0 b = 4) : (zr0 b 0 = b + 1 ∧ zk0 (b + 1) = 5) ∧ (zr0 b 1 = b + 3 ∧ zk0 (b + 3) = 50 ∧ zl0 (b + 3) = 24) ∧ (zr0 b 2 = b + 4 ∧ zk0 (b + 4) = 50 ∧ zl0 (b + 4) = 80) := by
  rcases zCa_or h with rfl | rfl | rfl | rfl | rfl | rfl | rfl | rfl | rfl | rfl <;> decide +kernel
theorem zHo_a {b : Int} (h : zk0 b = 3) : (zr0 b 0 = b + 1 ∧ zk0 (b + 1) = 57 ∧ zl0 (b + 1) = 2) ∧ (zr0 (b + 1) 0 = b + 2 ∧ zk0 (b + 2) = 5) ∧ (zr0 (b + 1) 1 = b + 4 ∧ zk0 (b + 4) = 5) := by
  rcases zHo_or h with rfl | rfl | rfl | rfl | rfl <;> decide +kernel
theorem zCa_at {p : Int} (h0 : 0 ≤ p) (h1 : p < 10) : zr0 8 p = 53 + 5 * p ∧ zk0 (53 + 5 * p) = 4 := by
  obtain rfl | rfl | rfl | rfl | rfl | rfl | rfl | rfl | rfl | rfl : p = 0 ∨ p = 1 ∨ p = 2 ∨ p = 3 ∨ p = 4 ∨ p = 5 ∨ p = 6 ∨ p = 7 ∨ p = 8 ∨ p = 9 := by omega
  all_goals decide +kernel
theorem zHo_at {p : Int} (h0 : 0 ≤ p) (h1 : p < 5) : zr0 7 p = 23 + 6 * p ∧ zk0 (23 + 6 * p) = 3 := by
  obtain rfl | rfl | rfl | rfl | rfl : p = 0 ∨ p = 1 ∨ p = 2 ∨ p = 3 ∨ p = 4 := by omega
  all_goals decide +kernel
theorem zHo_pg {b k : Int} (hb : zk0 b = 3) (h0 : 0 ≤ k) (h1 : k < 2) : zr0 (b + 1) k = b + 2 + 2 * k ∧ zk0 (b + 2 + 2 * k) = 5 := by
  have h := zHo_a hb
  obtain rfl | rfl : k = 0 ∨ k = 1 := by omega
  · exact ⟨by rw [h.2.1.1]; omega, by rw [show b + 2 + 2 * 0 = b + 2 by omega]; exact h.2.1.2⟩
  · exact ⟨by rw [h.2.2.1]; omega, by rw [show b + 2 + 2 * 1 = b + 4 by omega]; exact h.2.2.2⟩
/-! what is read, with what is known -/
theorem zSRe {G : zG} (h : SH G) {b c j r : Int} (hb : zk0 b = c) (hc : 0 < c) (hd : zd0 b j = false) (hr : zr0 b j = r) : zrx G b j = r := by rw [zSR h hb hc hd, hr]
theorem zd0_of {b c j : Int} (hb : zk0 b = c) (h : (decide (c ≠ 3 ∨ j ≠ 1) && decide (c ≠ 4 ∨ j ≠ 3) && decide (c ≠ 54)) = true) : zd0 b j = false := by
  simp only [Bool.and_eq_true, decide_eq_true_eq] at h
  have h103 : b ≠ 103 := fun z => by
    subst z
    have : (54 : Int) = c := hb
    omega
  unfold zd0
  rw [hb]
  simp only [Bool.or_eq_false_iff, Bool.and_eq_false_iff, beq_eq_false_iff_ne, ne_eq]
  refine ⟨⟨?_, ?_⟩, h103⟩
  · rcases h.1.1 with z | z
    · exact Or.inl z
    · exact Or.inr z
  · rcases h.1.2 with z | z
    · exact Or.inl z
    · exact Or.inr z
theorem zk0e {x r c : Int} (h : zk0 x = c) (e : r = x) : zk0 r = c := by rw [e]; exact h
theorem zl0e {x r c : Int} (h : zl0 x = c) (e : r = x) : zl0 r = c := by rw [e]; exact h
theorem zr0e {x r j c : Int} (e : r = x) (h : zr0 x j = c) : zr0 r j = c := by rw [e]; exact h
theorem f_getR {c j a r : Int} {K : zK} {ls st : List zV} {G : zG} {X : zX} (hk : zkd G a = c) (hr : zrx G a j = r) (k : K ls (zR r :: st) G X) : o_getR c j K ls (zR a :: st) G X := And.intro hk (by rw [hr]; exact k)
theorem f_getI {c j a : Int} {K : zK} {ls st : List zV} {G : zG} {X : zX} (hk : zkd G a = c) (k : K ls (zI (X a j) :: st) G X) : o_getI c j K ls (zR a :: st) G X := And.intro hk k
theorem f_putI {c j a v : Int} {K : zK} {ls st : List zV} {G : zG} {X : zX} (hk : zkd G a = c) (k : K ls st G (zst X a j v)) : o_putI c j K ls (zI v :: zR a :: st) G X := And.intro hk k
theorem f_putZ {c j a v : Int} {K : zK} {ls st : List zV} {G : zG} {X : zX} (hk : zkd G a = c) (hv : v = 0 ∨ v = 1) (k : K ls st G (zst X a j v)) : o_putZ c j K ls (zI v :: zR a :: st) G X := And.intro hk (And.intro hv k)
theorem f_ald {t a i n : Int} {K : zK} {ls st : List zV} {G : zG} {X : zX} (hk : zkd G a = t) (hl : zln G a = n) (h0 : 0 ≤ i) (h1 : i < n) (k : K ls (zI (X a i) :: st) G X) : o_ald t K ls (zI i :: zR a :: st) G X := And.intro hk (And.intro h0 (And.intro (by rw [hl]; exact h1) k))
theorem f_aldR {t a i n r : Int} {K : zK} {ls st : List zV} {G : zG} {X : zX} (hk : zkd G a = t) (hl : zln G a = n) (h0 : 0 ≤ i) (h1 : i < n) (hr : zrx G a i = r) (k : K ls (zR r :: st) G X) : o_aldR t K ls (zI i :: zR a :: st) G X := And.intro hk (And.intro h0 (And.intro (by rw [hl]; exact h1) (by rw [hr]; exact k)))
theorem f_alen {a t n : Int} {K : zK} {ls st : List zV} {G : zG} {X : zX} (hk : zkd G a = t) (ht : 50 ≤ t ∧ t < 58) (hl : zln G a = n) (k : K ls (zI n :: st) G X) : o_alen K ls (zR a :: st) G X := And.intro (by rw [hk]; exact ht.1) (And.intro (by rw [hk]; exact ht.2) (by rw [hl]; exact k))
theorem f_ast {t a i n v : Int} {K : zK} {ls st : List zV} {G : zG} {X : zX} (hk : zkd G a = t) (hl : zln G a = n) (h0 : 0 ≤ i) (h1 : i < n) (k : K ls st G (zst X a i v)) : o_ast t K ls (zI v :: zI i :: zR a :: st) G X := And.intro hk (And.intro h0 (And.intro (by rw [hl]; exact h1) k))
theorem f_cast {a i n v : Int} {K : zK} {ls st : List zV} {G : zG} {X : zX} (hk : zkd G a = 51) (hl : zln G a = n) (h0 : 0 ≤ i) (h1 : i < n) (k : K ls st G (zst X a i (v % 65536))) : o_castore K ls (zI v :: zI i :: zR a :: st) G X := And.intro hk (And.intro h0 (And.intro (by rw [hl]; exact h1) k))
theorem f_zast {a i n v : Int} {K : zK} {ls st : List zV} {G : zG} {X : zX} (hk : zkd G a = 52) (hl : zln G a = n) (h0 : 0 ≤ i) (h1 : i < n) (hv : v = 0 ∨ v = 1) (k : K ls st G (zst X a i v)) : o_zastore K ls (zI v :: zI i :: zR a :: st) G X := And.intro hk (And.intro h0 (And.intro (by rw [hl]; exact h1) (And.intro hv k)))
theorem f_copy {t a b sp dp n la lb : Int} {K : zK} {ls st : List zV} {G : zG} {X : zX} (ka : zkd G a = t) (kb : zkd G b = t) (a0 : 0 ≤ a) (b0 : 0 ≤ b) (hla : zln G a = la) (hlb : zln G b = lb) (h1 : 0 ≤ sp) (h2 : 0 ≤ dp) (h3 : 0 ≤ n) (h4 : sp + n ≤ la) (h5 : dp + n ≤ lb) (hs : (st.map zcat).sum ≤ 8) (k : K ls st G (zsa X b (zcpy (X a) (X b) sp dp n))) : o_copy t K ls (zI n :: zI dp :: zR b :: zI sp :: zR a :: st) G X :=
  And.intro ka (And.intro kb (And.intro a0 (And.intro b0 (And.intro h1 (And.intro h2 (And.intro h3 (And.intro (by rw [hla]; exact h4) (And.intro (by rw [hlb]; exact h5) (And.intro hs k)))))))))
theorem f_top {x e : Int} {K : zK} {ls st : List zV} {G : zG} {X : zX} (h : x = e) (k : K ls (zI e :: st) G X) : K ls (zI x :: st) G X := by rw [h]; exact k
theorem f_topL {x e : Int} {K : zK} {ls st : List zV} {G : zG} {X : zX} (h : x = e) (k : K ls (zL e :: st) G X) : K ls (zL x :: st) G X := by rw [h]; exact k
theorem f_iincN {i : Nat} {n x e : Int} {l : List zV} {K : zK} {ls st : List zV} {G : zG} {X : zX} (hx : ls[i]? = some (zI x)) (h : zw (x + n) = e) (e2 : zls ls i (zI e) = l) (k : K l st G X) : o_iinc i n K ls st G X := s_iinc hx (by rw [h, e2]; exact k)
theorem f_iinc {i : Nat} {n x e : Int} {K : zK} {ls st : List zV} {G : zG} {X : zX} (hx : ls[i]? = some (zI x)) (h : zw (x + n) = e) (k : K (zls ls i (zI e)) st G X) : o_iinc i n K ls st G X := by
  unfold o_iinc
  rw [hx]
  show K (zls ls i (zI (zw (x + n)))) st G X
  rw [h]
  exact k
