/-! ===== the abstract heap: kinds, lengths, references, size, slots in all; and the numbers ===== -/
abbrev zG : Type := (Int → Int) × (Int → Int) × (Int → Int → Int) × Nat × Nat
abbrev zX : Type := Int → Int → Int
abbrev zkd (G : zG) : Int → Int := G.1
abbrev zln (G : zG) : Int → Int := G.2.1
abbrev zrx (G : zG) : Int → Int → Int := G.2.2.1
abbrev zsz (G : zG) : Nat := G.2.2.2.1
abbrev ztt (G : zG) : Nat := G.2.2.2.2
def zup {α : Type} (f : Int → α) (j : Int) (v : α) : Int → α := fun i => if i = j then v else f i
/-- a row anew -/
abbrev zsa (X : zX) (a : Int) (f : Int → Int) : zX := zup X a f
/-- a place anew -/
def zst (X : zX) (a j v : Int) : zX := zsa X a (zup (X a) j v)
theorem zup_s {α : Type} (f : Int → α) (j : Int) (v : α) : zup f j v j = v := if_pos rfl
theorem zup_n {α : Type} {f : Int → α} {j i : Int} {v : α} (h : i ≠ j) : zup f j v i = f i := if_neg h
/-- objects' fields: true: a reference -/
abbrev zTab : Type := List (List Bool)
def zrf (ad : Int → Nat) (a : Int) : Value := if a = -1 then .null else .ref (ad a)
def zv (ad : Int → Nat) : zV → Value
  | .inl x => .int (Int32.ofInt x)
  | .inr (.inl a) => zrf ad a
  | .inr (.inr (.inl x)) => .long (Int64.ofInt x)
  | .inr (.inr (.inr _)) => .null
/-- a value that stands for one of the machine's -/
def zok (n : Nat) : zV → Prop
  | .inl x => zin x
  | .inr (.inl a) => a < n
  | .inr (.inr (.inl x)) => zinl x
  | .inr (.inr (.inr _)) => False
def zcat : zV → Nat
  | .inr (.inr (.inl _)) => 2
  | _ => 1
theorem zcat_v (ad : Int → Nat) (v : zV) : (zv ad v).category = zcat v := by
  rcases v with x | a | x | x
  · rfl
  · show (zrf ad a).category = 1
    unfold zrf
    split <;> rfl
  · rfl
  · rfl
theorem zcat_sum (ad : Int → Nat) (st : List zV) : ((st.map (zv ad)).map fun v => v.category).sum = (st.map zcat).sum := by
  rw [List.map_map]
  congr 1
  exact List.map_congr_left fun v _ => zcat_v ad v
abbrev zVM : Type := va_G × (Nat → ClassId)
/-- what an object's places hold -/
def zfs (ad : Int → Nat) (fl : List Bool) (r x : Int → Int) : List Value := (List.range fl.length).map fun j => if fl.getD j false = true then zrf ad (r j) else .int (Int32.ofInt (x j))
/-- a cell, by its kind: below 50 an object of that class, 50 .. 53 rows of ints, chars, booleans, bytes, from 54 on rows of references -/
def zcell (ft : zTab) (V : zVM) (ad : Int → Nat) (kd ln : Int) (r x : Int → Int) : va_E :=
  if kd < 50 then .inr (kd.toNat, zfs ad (ft.getD kd.toNat []) r x)
  else if kd < 54 then .inl (V.2 (kd - 50).toNat, ln.toNat, .inl (fun i => Int32.ofInt (x i)))
  else .inl (V.2 (kd - 50).toNat, ln.toNat, .inr (.inr (.inr (.inr (fun i => if r i = -1 then none else some (ad (r i)))))))
abbrev zce (ft : zTab) (V : zVM) (ad : Int → Nat) (G : zG) (X : zX) (k : Int) : va_E := zcell ft V ad (zkd G k) (zln G k) (zrx G k) (X k)
/-- the world's cells -/
def zws (ft : zTab) (V : zVM) (ad : Int → Nat) (G : zG) (X : zX) : va_W := (List.range (zsz G)).map fun k : Nat => (ad (k : Int), zce ft V ad G X (k : Int))
/-- what stood before: a constant text (-3), its bytes (-4) -/
def zxs (ft : zTab) (V : zVM) (ad : Int → Nat) (G : zG) (X : zX) : va_W := [(ad (-3), zce ft V ad G X (-3)), (ad (-4), zce ft V ad G X (-4))]
/-- numbers within, kinds of cells that there are, references that are given -/
def zokH (G : zG) (X : zX) : Prop :=
  (∀ a j, zin (X a j)) ∧ (∀ a j, zkd G a = 51 → 0 ≤ X a j ∧ X a j ≤ 65535) ∧ (∀ a j, zkd G a = 52 → X a j = 0 ∨ X a j = 1) ∧ (∀ a j, zkd G a = 53 → -128 ≤ X a j ∧ X a j ≤ 127) ∧
  (∀ a, 0 ≤ zkd G a → (0 ≤ a ∧ a < zsz G) ∨ (a = -3 ∧ zkd G a = 15) ∨ (a = -4 ∧ zkd G a = 53)) ∧ (∀ a, 0 ≤ zln G a ∧ zln G a ≤ 100000) ∧ (∀ a j, zrx G a j < zsz G)
theorem zws_at {ft : zTab} {V : zVM} {ad : Int → Nat} {G : zG} {X : zX} {a : Int} (h0 : 0 ≤ a) (h : a < zsz G) : (zws ft V ad G X)[a.toNat]? = some (ad a, zce ft V ad G X a) := by
  unfold zws
  have hl : a.toNat < zsz G := by omega
  rw [List.getElem?_map, List.getElem?_range hl]
  simp only [Option.map_some]
  rw [Int.toNat_of_nonneg h0]
theorem zws_len {ft : zTab} {V : zVM} {ad : Int → Nat} {G : zG} {X : zX} : (zws ft V ad G X).length = zsz G := by unfold zws; rw [List.length_map, List.length_range]
/-- one cell anew -/
theorem zws_set {ft : zTab} {V : zVM} {ad : Int → Nat} {G G' : zG} {X X' : zX} {a : Int} {e : va_E} (h0 : 0 ≤ a) (h : a < zsz G) (hs : zsz G' = zsz G) (ho : ∀ k : Int, k ≠ a → zce ft V ad G' X' k = zce ft V ad G X k) (he : zce ft V ad G' X' a = e) :
    (zws ft V ad G X).set a.toNat (ad a, e) = zws ft V ad G' X' := by
  apply List.ext_getElem?
  intro k
  by_cases hk : k < zsz G
  · have h1 := zws_at (ft := ft) (V := V) (ad := ad) (G := G) (X := X) (a := (k : Int)) (by omega) (by omega)
    have h2 := zws_at (ft := ft) (V := V) (ad := ad) (G := G') (X := X') (a := (k : Int)) (by omega) (by omega)
    rw [Int.toNat_natCast] at h1 h2
    rw [h2]
    by_cases hka : k = a.toNat
    · subst hka
      rw [List.getElem?_set_self (by rw [zws_len]; omega)]
      rw [Int.toNat_of_nonneg h0, he]
    · rw [List.getElem?_set_ne (Ne.symm hka), h1, ho (k : Int) (by omega)]
  · rw [List.getElem?_eq_none (by rw [List.length_set, zws_len]; omega), List.getElem?_eq_none (by rw [zws_len]; omega)]
/-- one cell more -/
theorem zws_push {ft : zTab} {V : zVM} {ad ad' : Int → Nat} {G G' : zG} {X X' : zX} {q : Nat} {e : va_E} (hs : zsz G' = zsz G + 1) (ha : ∀ k : Int, k < zsz G → ad' k = ad k) (ho : ∀ k : Int, 0 ≤ k → k < zsz G → zce ft V ad' G' X' k = zce ft V ad G X k) (hq : ad' (zsz G : Int) = q) (he : zce ft V ad' G' X' (zsz G : Int) = e) :
    zws ft V ad G X ++ [(q, e)] = zws ft V ad' G' X' := by
  unfold zws
  rw [hs, List.range_succ, List.map_append]
  congr 1
  · apply List.map_congr_left
    intro k hk
    have hk' := List.mem_range.mp hk
    rw [ha k (by omega), ho k (by omega) (by omega)]
  · simp only [List.map_cons, List.map_nil]
    rw [hq, he]
/-- what a cell is depends on the addresses of what it names alone -/
theorem zcell_ad {ft : zTab} {V : zVM} {ad ad' : Int → Nat} {kd ln : Int} {r x : Int → Int} {n : Nat} (hr : ∀ j, r j < n) (ha : ∀ k : Int, k < n → ad' k = ad k) : zcell ft V ad' kd ln r x = zcell ft V ad kd ln r x := by
  have e : ∀ j, zrf ad' (r j) = zrf ad (r j) := fun j => by unfold zrf; rw [ha _ (hr j)]
  unfold zcell zfs
  simp only [e, ha _ (hr _)]
/-! ===== continuations and the least closed predicate over a method's labels ===== -/
abbrev zK : Type := List zV → List zV → zG → zX → Prop
/-- some locals are forgotten -/
def zfg (ls ls' : List zV) : Prop := ls'.length = ls.length ∧ ∀ (i : Nat) (v : zV), ls'[i]? = some v → v = zT ∨ ls[i]? = some v
def zWP (B : (Nat → zK) → Nat → zK) (Q : List zV → zG → zX → Prop) (lbl : Nat) : zK := fun ls st G X =>
  ∀ P : Nat → zK, (∀ Y : Nat → zK, (∀ (n : Nat) (ls st : List zV) (G : zG) (X : zX), Y n ls st G X → P n ls st G X) → ∀ (n : Nat) (ls st : List zV) (G : zG) (X : zX), B Y n ls st G X → P n ls st G X) →
    (∀ (n : Nat) (ls ls' st : List zV) (G : zG) (X : zX), zfg ls ls' → P n ls' st G X → P n ls st G X) →
    (∀ (ls st : List zV) (G : zG) (X : zX), Q st G X → P 65535 ls st G X) → P lbl ls st G X
theorem zWP_go {B : (Nat → zK) → Nat → zK} {Q : List zV → zG → zX → Prop} {n : Nat} {ls st : List zV} {G : zG} {X : zX} (h : B (zWP B Q) n ls st G X) : zWP B Q n ls st G X :=
  fun P h1 h2 h3 => h1 (zWP B Q) (fun _ _ _ _ _ z => z P h1 h2 h3) n ls st G X h
theorem zWP_fg {B : (Nat → zK) → Nat → zK} {Q : List zV → zG → zX → Prop} {n : Nat} {ls ls' st : List zV} {G : zG} {X : zX} (hf : zfg ls ls') (h : zWP B Q n ls' st G X) : zWP B Q n ls st G X :=
  fun P h1 h2 h3 => h2 n ls ls' st G X hf (h P h1 h2 h3)
theorem zWP_ret {B : (Nat → zK) → Nat → zK} {Q : List zV → zG → zX → Prop} {ls st : List zV} {G : zG} {X : zX} (h : Q st G X) : zWP B Q 65535 ls st G X :=
  fun _ _ _ h3 => h3 ls st G X h
theorem zWP_mono {B : (Nat → zK) → Nat → zK} {Q Q' : List zV → zG → zX → Prop} {n : Nat} {ls st : List zV} {G : zG} {X : zX} (hq : ∀ st G X, Q st G X → Q' st G X) (h : zWP B Q n ls st G X) : zWP B Q' n ls st G X :=
  fun P h1 h2 h3 => h P h1 h2 (fun ls st G X z => h3 ls st G X (hq st G X z))
/-- a method: its arguments, then what isn't yet a local -/
def zC (B : (Nat → zK) → Nat → zK) (nL : Nat) (vs : List zV) (G : zG) (X : zX) (Q : List zV → zG → zX → Prop) : Prop := zWP B Q 0 (vs ++ List.replicate (nL - vs.length) zT) [] G X
abbrev zCo : Type := Nat → Nat → List zV → zG → zX → (List zV → zG → zX → Prop) → Prop
