/-! ===== plain steps, one lemma each (wip/whole/gen_steps.py) ===== -/
theorem s_iload {i : Nat} {x : Int} {K : zK} {ls st : List zV} {G : zG} {X : zX} (h : ls[i]? = some (zI x)) (k : K ls (zI x :: st) G X) : o_iload i K ls st G X := by
  unfold o_iload
  rw [h]
  exact k
theorem s_aload {i : Nat} {x : Int} {K : zK} {ls st : List zV} {G : zG} {X : zX} (h : ls[i]? = some (zR x)) (k : K ls (zR x :: st) G X) : o_aload i K ls st G X := by
  unfold o_aload
  rw [h]
  exact k
theorem s_lload {i : Nat} {x : Int} {K : zK} {ls st : List zV} {G : zG} {X : zX} (h : ls[i]? = some (zL x)) (k : K ls (zL x :: st) G X) : o_lload i K ls st G X := by
  unfold o_lload
  rw [h]
  exact k
theorem s_istore {i : Nat} {x : Int} {K : zK} {ls st : List zV} {G : zG} {X : zX} (k : K (zls ls i (zI x)) st G X) : o_istore i K ls (zI x :: st) G X := k
theorem s_astore {i : Nat} {x : Int} {K : zK} {ls st : List zV} {G : zG} {X : zX} (k : K (zls ls i (zR x)) st G X) : o_astore i K ls (zR x :: st) G X := k
theorem s_lstore {i : Nat} {x : Int} {K : zK} {ls st : List zV} {G : zG} {X : zX} (k : K (zlsL ls i x) st G X) : o_lstore i K ls (zL x :: st) G X := k
theorem s_ipush {n : Int} {K : zK} {ls st : List zV} {G : zG} {X : zX} (k : K ls (zI n :: st) G X) : o_ipush n K ls st G X := k
theorem s_lconst {n : Int} {K : zK} {ls st : List zV} {G : zG} {X : zX} (k : K ls (zL n :: st) G X) : o_lconst n K ls st G X := k
theorem s_null {K : zK} {ls st : List zV} {G : zG} {X : zX} (k : K ls (zR (-1) :: st) G X) : o_null K ls st G X := k
theorem s_null2 {K : zK} {ls st : List zV} {G : zG} {X : zX} (k : ∀ r : Int, K ls (zR r :: st) G X) : o_null2 K ls st G X := fun r _ => k r
theorem s_text {K : zK} {ls st : List zV} {G : zG} {X : zX} (k : K ls (zR (-3) :: st) G X) : o_text K ls st G X := k
theorem s_goto {K : zK} {ls st : List zV} {G : zG} {X : zX} (k : K ls st G X) : o_goto K ls st G X := k
theorem s_iadd {x y : Int} {K : zK} {ls st : List zV} {G : zG} {X : zX} (k : K ls (zI (zw (x + y)) :: st) G X) : o_iadd K ls (zI y :: zI x :: st) G X := k
theorem s_isub {x y : Int} {K : zK} {ls st : List zV} {G : zG} {X : zX} (k : K ls (zI (zw (x - y)) :: st) G X) : o_isub K ls (zI y :: zI x :: st) G X := k
theorem s_imul {x y : Int} {K : zK} {ls st : List zV} {G : zG} {X : zX} (k : K ls (zI (zw (x * y)) :: st) G X) : o_imul K ls (zI y :: zI x :: st) G X := k
theorem s_iand {x y : Int} {K : zK} {ls st : List zV} {G : zG} {X : zX} (k : K ls (zI (zand x y) :: st) G X) : o_iand K ls (zI y :: zI x :: st) G X := k
theorem s_ior {x y : Int} {K : zK} {ls st : List zV} {G : zG} {X : zX} (k : K ls (zI (zor x y) :: st) G X) : o_ior K ls (zI y :: zI x :: st) G X := k
theorem s_ixor {x y : Int} {K : zK} {ls st : List zV} {G : zG} {X : zX} (k : K ls (zI (zxor x y) :: st) G X) : o_ixor K ls (zI y :: zI x :: st) G X := k
theorem s_ishl {x y : Int} {K : zK} {ls st : List zV} {G : zG} {X : zX} (k : K ls (zI (zshl x y) :: st) G X) : o_ishl K ls (zI y :: zI x :: st) G X := k
theorem s_ishr {x y : Int} {K : zK} {ls st : List zV} {G : zG} {X : zX} (k : K ls (zI (zshr x y) :: st) G X) : o_ishr K ls (zI y :: zI x :: st) G X := k
theorem s_iushr {x y : Int} {K : zK} {ls st : List zV} {G : zG} {X : zX} (k : K ls (zI (zushr x y) :: st) G X) : o_iushr K ls (zI y :: zI x :: st) G X := k
theorem s_ladd {x y : Int} {K : zK} {ls st : List zV} {G : zG} {X : zX} (k : K ls (zL (zwl (x + y)) :: st) G X) : o_ladd K ls (zL y :: zL x :: st) G X := k
theorem s_lmul {x y : Int} {K : zK} {ls st : List zV} {G : zG} {X : zX} (k : K ls (zL (zwl (x * y)) :: st) G X) : o_lmul K ls (zL y :: zL x :: st) G X := k
theorem s_lcmp {x y : Int} {K : zK} {ls st : List zV} {G : zG} {X : zX} (k : K ls (zI (zcmp x y) :: st) G X) : o_lcmp K ls (zL y :: zL x :: st) G X := k
theorem s_ineg {x : Int} {K : zK} {ls st : List zV} {G : zG} {X : zX} (k : K ls (zI (zw (-x)) :: st) G X) : o_ineg K ls (zI x :: st) G X := k
theorem s_i2c {x : Int} {K : zK} {ls st : List zV} {G : zG} {X : zX} (k : K ls (zI (x % 65536) :: st) G X) : o_i2c K ls (zI x :: st) G X := k
theorem s_i2b {x : Int} {K : zK} {ls st : List zV} {G : zG} {X : zX} (k : K ls (zI ((x + 128) % 256 - 128) :: st) G X) : o_i2b K ls (zI x :: st) G X := k
theorem s_i2l {x : Int} {K : zK} {ls st : List zV} {G : zG} {X : zX} (k : K ls (zL (x) :: st) G X) : o_i2l K ls (zI x :: st) G X := k
theorem s_l2i {x : Int} {K : zK} {ls st : List zV} {G : zG} {X : zX} (k : K ls (zI (zw x) :: st) G X) : o_l2i K ls (zL x :: st) G X := k
theorem s_iinc {i : Nat} {n x : Int} {K : zK} {ls st : List zV} {G : zG} {X : zX} (hx : ls[i]? = some (zI x)) (k : K (zls ls i (zI (zw (x + n)))) st G X) : o_iinc i n K ls st G X := by
  unfold o_iinc
  rw [hx]
  exact k
theorem s_sw0 {x : Int} {D : zK} {ls st : List zV} {G : zG} {X : zX} (k : D ls st G X) : o_sw [] D ls (zI x :: st) G X := k
theorem s_istoreN {i : Nat} {x : Int} {l : List zV} {K : zK} {ls st : List zV} {G : zG} {X : zX} (e : zls ls i (zI x) = l) (k : K l st G X) : o_istore i K ls (zI x :: st) G X := by
  subst e
  exact k
theorem s_astoreN {i : Nat} {x : Int} {l : List zV} {K : zK} {ls st : List zV} {G : zG} {X : zX} (e : zls ls i (zR x) = l) (k : K l st G X) : o_astore i K ls (zR x :: st) G X := by
  subst e
  exact k
theorem s_lstoreN {i : Nat} {x : Int} {l : List zV} {K : zK} {ls st : List zV} {G : zG} {X : zX} (e : zlsL ls i x = l) (k : K l st G X) : o_lstore i K ls (zL x :: st) G X := by
  subst e
  exact k
theorem s_iincN {i : Nat} {n x : Int} {l : List zV} {K : zK} {ls st : List zV} {G : zG} {X : zX} (hx : ls[i]? = some (zI x)) (e : zls ls i (zI (zw (x + n))) = l) (k : K l st G X) : o_iinc i n K ls st G X := s_iinc hx (by subst e; exact k)
theorem s_norm {l : List zV} {K : zK} {ls st : List zV} {G : zG} {X : zX} (e : st = l) (k : K ls l G X) : K ls st G X := by
  subst e
  exact k
theorem s_sw {v x : Int} {A D : zK} {r : List (Int × zK)} {ls st : List zV} {G : zG} {X : zX} (a : x = v → A ls st G X) (b : x ≠ v → o_sw r D ls (zI x :: st) G X) : o_sw ((v, A) :: r) D ls (zI x :: st) G X := And.intro a b
theorem s_lt {x y : Int} {A B : zK} {ls st : List zV} {G : zG} {X : zX} (a : x < y → A ls st G X) (b : y ≤ x → B ls st G X) : o_lt A B ls (zI y :: zI x :: st) G X := And.intro a b
theorem s_ltz {x : Int} {A B : zK} {ls st : List zV} {G : zG} {X : zX} (a : x < 0 → A ls st G X) (b : 0 ≤ x → B ls st G X) : o_ltz A B ls (zI x :: st) G X := And.intro a b
theorem s_gt {x y : Int} {A B : zK} {ls st : List zV} {G : zG} {X : zX} (a : y < x → A ls st G X) (b : x ≤ y → B ls st G X) : o_gt A B ls (zI y :: zI x :: st) G X := And.intro a b
theorem s_gtz {x : Int} {A B : zK} {ls st : List zV} {G : zG} {X : zX} (a : 0 < x → A ls st G X) (b : x ≤ 0 → B ls st G X) : o_gtz A B ls (zI x :: st) G X := And.intro a b
theorem s_eq {x y : Int} {A B : zK} {ls st : List zV} {G : zG} {X : zX} (a : x = y → A ls st G X) (b : x ≠ y → B ls st G X) : o_eq A B ls (zI y :: zI x :: st) G X := And.intro a b
theorem s_eqz {x : Int} {A B : zK} {ls st : List zV} {G : zG} {X : zX} (a : x = 0 → A ls st G X) (b : x ≠ 0 → B ls st G X) : o_eqz A B ls (zI x :: st) G X := And.intro a b
theorem s_isnull {x : Int} {A B : zK} {ls st : List zV} {G : zG} {X : zX} (a : x = -1 → A ls st G X) (b : x ≠ -1 → B ls st G X) : o_isnull A B ls (zR x :: st) G X := And.intro a b
