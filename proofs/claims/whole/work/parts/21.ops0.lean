/-! ===== the simple operations ===== -/
theorem q_isIn {Q : List zV → zX → Prop} {G : zG} {X : zX} {x a b : Int} (hG : SH G) (h1 : a ≤ x → x ≤ b → Q [zI 1] X) (h0 : x < a ∨ b < x → Q [zI 0] X) : M_isIn [zI x, zI a, zI b] G X Q :=
  M_isIn_f0 hG ⟨fun c => h0 (Or.inl c), fun c => ⟨fun d => h0 (Or.inr d), fun d => h1 c d⟩⟩
theorem q_isAddress {Q : List zV → zX → Prop} {G : zG} {X : zX} {x : Int} (hG : SH G) (h1 : 0 ≤ x → x ≤ 9 → Q [zI 1] X) (h0 : x < 0 ∨ 9 < x → Q [zI 0] X) : M_isAddress [zI x] G X Q :=
  M_isAddress_f0 hG (q_isIn hG (fun a b => ⟨1, rfl, Or.inr rfl, h1 a b⟩) (fun a => ⟨0, rfl, Or.inl rfl, h0 a⟩))
theorem q_isMade {Q : List zV → zX → Prop} {G : zG} {X : zX} {x : Int} (hG : SH G) (h1 : 0 ≤ x → x ≤ 9 → Q [zI 1] X) (h0 : x < 0 ∨ 9 < x → Q [zI 0] X) : D_isAddress [zI x] G X Q :=
  D_isAddress_f0 hG ⟨fun a => h0 (Or.inl a), fun a => ⟨fun b => h1 a (by omega), fun b => h0 (by omega)⟩⟩
theorem q_houses {X : zX} (h : zRT X 1 0) : X 140 0 = X 1 11 ∧ 0 ≤ X 1 11 ∧ X 1 11 ≤ 5 := by
  have z := h.1 0 (by omega) (by omega)
  exact ⟨z.1, z.2.1, z.2.2.1 rfl⟩
theorem q_pages {X : zX} (h : zRT X 1 0) : X 140 1 = X 1 12 ∧ 0 ≤ X 1 12 ∧ X 1 12 ≤ 10 := by
  have z := h.1 1 (by omega) (by omega)
  exact ⟨z.1, z.2.1, z.2.2.2.1 rfl⟩
theorem q_cases {X : zX} (h : zRT X 1 0) : X 140 2 = X 1 13 ∧ 0 ≤ X 1 13 ∧ X 1 13 ≤ 16 := by
  have z := h.1 2 (by omega) (by omega)
  exact ⟨z.1, z.2.1, z.2.2.2.2 rfl⟩
theorem q_isPage {Q : List zV → zX → Prop} {G : zG} {X : zX} {x : Int} (hG : SH G) (hp : X 140 1 = X 1 12 ∧ 0 ≤ X 1 12 ∧ X 1 12 ≤ 10) (h1 : 0 ≤ x → x < X 1 12 → Q [zI 1] X) (h0 : x < 0 ∨ X 1 12 ≤ x → Q [zI 0] X) : M_isPage [zR 139, zI x] G X Q :=
  M_isPage_f0 hG ⟨by rw [zw_id (by omega) (by omega)], q_isIn hG (fun a b => ⟨1, rfl, Or.inr rfl, h1 a (by omega)⟩) (fun a => ⟨0, rfl, Or.inl rfl, h0 (by omega)⟩)⟩
theorem q_isHouse {Q : List zV → zX → Prop} {G : zG} {X : zX} {x : Int} (hG : SH G) (hp : X 140 0 = X 1 11 ∧ 0 ≤ X 1 11 ∧ X 1 11 ≤ 5) (h1 : 0 ≤ x → x < X 1 11 → Q [zI 1] X) (h0 : x < 0 ∨ X 1 11 ≤ x → Q [zI 0] X) : M_isHouse [zR 139, zI x] G X Q :=
  M_isHouse_f0 hG ⟨by rw [zw_id (by omega) (by omega)], q_isIn hG (fun a b => ⟨1, rfl, Or.inr rfl, h1 a (by omega)⟩) (fun a => ⟨0, rfl, Or.inl rfl, h0 (by omega)⟩)⟩
theorem q_dPage {Q : List zV → zX → Prop} {G : zG} {X : zX} {x : Int} (hG : SH G) (h1 : 0 ≤ x → x < X 1 12 → Q [zI 1] X) (h0 : x < 0 ∨ X 1 12 ≤ x → Q [zI 0] X) : D_isPage [zR 0, zI x] G X Q :=
  D_isPage_f0 hG ⟨fun a => h0 (Or.inl a), fun a => ⟨fun b => h1 a b, fun b => h0 (Or.inr b)⟩⟩
theorem q_dHouse {Q : List zV → zX → Prop} {G : zG} {X : zX} {x : Int} (hG : SH G) (h1 : 0 ≤ x → x < X 1 11 → Q [zI 1] X) (h0 : x < 0 ∨ X 1 11 ≤ x → Q [zI 0] X) : D_isHouse [zR 0, zI x] G X Q :=
  D_isHouse_f0 hG ⟨fun a => h0 (Or.inl a), fun a => ⟨fun b => h1 a b, fun b => h0 (Or.inr b)⟩⟩
theorem q_dDay {Q : List zV → zX → Prop} {G : zG} {X : zX} {x : Int} (hG : SH G) (h1 : 0 ≤ x → x ≤ 99 → Q [zI 1] X) (h0 : x < 0 ∨ 99 < x → Q [zI 0] X) : D_isDay [zI x] G X Q :=
  D_isDay_f0 hG ⟨fun a => h0 (Or.inl a), fun a => ⟨fun b => h1 a (by omega), fun b => h0 (by omega)⟩⟩
/-! the calls -/
theorem op_worth {G : zG} {X : zX} {a b : Int} (hG : SH G) (h : zRT X 1 0) : zOp D_worth M_worth [zI a, zI b] [zI a, zI b] G X := by
  have no : (a < 0 ∨ 7 < a ∨ b < 0 ∨ 99 < b) → M_worth [zR 139, zI a, zI b] G X (fun w X2 => w = [zI 0] ∧ zRT X2 1 0 ∧ zKp X X2) := fun n =>
    M_worth_f0 hG (q_isIn hG (fun c d => ⟨1, rfl, fun z => absurd z (by omega), fun _ => q_isIn hG (fun e f => absurd n (by omega)) (fun e => ⟨0, rfl, fun _ => ⟨rfl, h, zKp_r X⟩, fun z => absurd rfl z⟩)⟩)
      (fun c => ⟨0, rfl, fun _ => ⟨rfl, h, zKp_r X⟩, fun z => absurd rfl z⟩))
  refine D_worth_f0 hG ⟨fun c => no (by omega), fun c => ⟨fun d => ⟨fun e => no (by omega), fun e => ⟨fun f => no (by omega), fun f => ⟨by omega, d, ?_⟩⟩⟩, fun d => no (by omega)⟩⟩
  refine M_worth_f0 hG (q_isIn hG (fun c2 d2 => ⟨1, rfl, fun z => absurd z (by omega), fun _ => q_isIn hG (fun e2 f2 => ⟨1, rfl, fun z => absurd z (by omega), fun _ => ⟨zw_id (by omega) (by omega), by omega, by omega, rfl, ?_, ?_⟩⟩) (fun e2 => absurd e2 (by omega))⟩) (fun c2 => absurd c2 (by omega)))
  · exact zP_wor h (by omega) (by omega) ⟨rfl, by omega, by omega⟩
  · exact (by repeat' (first | (with_reducible exact zKp_r _) | (with_reducible refine zKp_v ?_ (by omega) (by omega) (by omega)) | (with_reducible refine zKp_w ?_ (by omega) (by omega) (by omega) (by omega))))
theorem op_end {G : zG} {X : zX} {a : Int} (hG : SH G) (h : zRT X 1 0) : zOp D_end M_end [zI a] [zI a] G X := by
  have z := h.2.2.1
  have z1 : X 140 6 = X 2 1 := z.1
  have z3 : X 2 1 ≤ 500 := z.2.2
  have no : (a < 0 ∨ X 140 6 < a) → M_end [zR 139, zI a] G X (fun w X2 => w = [zI (-1)] ∧ zRT X2 1 0 ∧ zKp X X2) := fun n =>
    M_end_f0 hG ⟨fun _ => ⟨rfl, h, zKp_r X⟩, fun c => ⟨fun _ => ⟨rfl, h, zKp_r X⟩, fun d => absurd n (by omega)⟩⟩
  refine D_end_f0 hG ⟨fun c => no (by omega), fun c => ⟨fun d => no (by omega), fun d => M_end_f0 hG ⟨fun e => absurd e (by omega), fun e => ?_⟩⟩⟩
  rw [zrd_n (a := 2) (by omega)]
  refine ⟨fun f => absurd f (by omega), fun f => ⟨rfl, ?_, ?_⟩⟩
  · exact zP_len h ⟨rfl, by omega, by omega⟩
  · exact (by repeat' (first | (with_reducible exact zKp_r _) | (with_reducible refine zKp_v ?_ (by omega) (by omega) (by omega)) | (with_reducible refine zKp_w ?_ (by omega) (by omega) (by omega) (by omega))))
theorem op_fault {G : zG} {X : zX} {a : Int} (hG : SH G) (h : zRT X 1 0) : zOp D_fault M_fault [zI a] [zI a] G X := by
  have z7 : X 140 7 = X 2 2 := h.2.2.2.1.1
  have z8 : X 140 8 = X 2 3 := h.2.2.2.2.1.1
  refine D_fault_f0 hG ⟨fun c => M_fault_f0 hG ⟨fun d => ⟨by rw [z7], h, zKp_r X⟩, fun d => absurd c d⟩, fun c => ⟨fun d => M_fault_f0 hG ⟨fun e => absurd e c, fun e => ⟨fun f => ⟨by rw [z8], h, zKp_r X⟩, fun f => absurd d f⟩⟩, fun d => M_fault_f0 hG ⟨fun e => absurd e c, fun e => ⟨fun f => absurd f d, fun f => ⟨rfl, h, zKp_r X⟩⟩⟩⟩⟩
theorem op_relay {G : zG} {X : zX} {a b : Int} (hG : SH G) (h : zRT X 1 0) : zOp D_relay M_relay [zI a, zI b] [zI a, zI b] G X := by
  have no : (a < 0 ∨ 9 < a ∨ (b ≠ -1 ∧ (b < 0 ∨ 9 < b)) ∨ a = b) → M_relay [zR 139, zI a, zI b] G X (fun w X2 => w = [zI 0] ∧ zRT X2 1 0 ∧ zKp X X2) := fun n =>
    M_relay_f0 hG (q_isAddress hG (fun c d => ⟨1, rfl, fun z => absurd z (by omega), fun _ => ⟨fun e => absurd n (by omega), fun e => q_isAddress hG (fun f g => ⟨1, rfl, fun z => absurd z (by omega), fun _ => M_relay_f19 hG ⟨fun _ => ⟨rfl, h, zKp_r X⟩, fun k => absurd n (by omega)⟩⟩)
      (fun f => ⟨0, rfl, fun _ => ⟨rfl, h, zKp_r X⟩, fun z => absurd rfl z⟩)⟩⟩) (fun c => ⟨0, rfl, fun _ => ⟨rfl, h, zKp_r X⟩, fun z => absurd rfl z⟩))
  have yes : 0 ≤ a → a ≤ 9 → (b = -1 ∨ (0 ≤ b ∧ b ≤ 9)) → a ≠ b → M_relay [zR 139, zI a, zI b] G (zst X 21 a b) (fun w X2 => w = [zI 1] ∧ zRT X2 1 0 ∧ zKp X X2) := fun n1 n2 n3 n4 => by
    have fin : M_relay_W (fun w X2 => w = [zI 1] ∧ zRT X2 1 0 ∧ zKp X X2) 19 [zR 139, zI a, zI b] [] G (zst X 21 a b) :=
      M_relay_f19 hG ⟨fun k => absurd k n4, fun _ => ⟨zw_id (by omega) (by omega), zw_id (by omega) (by omega), by omega, by omega, rfl, zP_rel h (by omega) (by omega) ⟨rfl, by omega, by omega⟩, (by repeat' (first | (with_reducible exact zKp_r _) | (with_reducible refine zKp_v ?_ (by omega) (by omega) (by omega)) | (with_reducible refine zKp_w ?_ (by omega) (by omega) (by omega) (by omega))))⟩⟩
    exact M_relay_f0 hG (q_isAddress hG (fun c d => ⟨1, rfl, fun z => absurd z (by omega), fun _ => ⟨fun e => fin, fun e => q_isAddress hG (fun f g => ⟨1, rfl, fun z => absurd z (by omega), fun _ => fin⟩) (fun f => absurd f (by omega))⟩⟩) (fun c => absurd c (by omega)))
  have fin2 : 0 ≤ a → a ≤ 9 → (b = -1 ∨ (0 ≤ b ∧ b ≤ 9)) → D_relay_W (fun v X1 => M_relay [zR 139, zI a, zI b] G X1 (fun w X2 => w = v ∧ zRT X2 1 0 ∧ zKp X X2)) 19 [zR 0, zI a, zI b] [] G X := fun n1 n2 n3 =>
    D_relay_f19 hG ⟨fun k => no (by omega), fun k => ⟨n1, by omega, yes n1 n2 n3 k⟩⟩
  exact D_relay_f0 hG (q_isMade hG (fun c d => ⟨1, rfl, fun z => absurd z (by omega), fun _ => ⟨fun e => fin2 c d (by omega), fun e => q_isMade hG (fun f g => ⟨1, rfl, fun z => absurd z (by omega), fun _ => fin2 c d (by omega)⟩) (fun f => ⟨0, rfl, fun _ => no (by omega), fun z => absurd rfl z⟩)⟩⟩) (fun c => ⟨0, rfl, fun _ => no (by omega), fun z => absurd rfl z⟩))
theorem zrd_c {X : zX} {a j v i u : Int} (h : a ≠ 140) : zst (zst X 140 i u) a j v = zst (zst X a j v) 140 i u := by
  funext b k
  rw [zrd_e, zrd_e, zrd_e, zrd_e]
  by_cases h1 : b = a ∧ k = j
  · rw [if_pos h1, if_neg (by omega), if_pos h1]
  · rw [if_neg h1, if_neg h1]
theorem op_owner {G : zG} {X : zX} {a b : Int} (hG : SH G) (h : zRT X 1 0) : zOp D_owner M_owner [zI a, zI b] [zI a, zI b] G X := by
  have hp := q_houses h
  have no : (a < 0 ∨ 9 < a ∨ (b ≠ -1 ∧ (b < 0 ∨ X 1 11 ≤ b))) → M_owner [zR 139, zI a, zI b] G X (fun w X2 => w = [zI 0] ∧ zRT X2 1 0 ∧ zKp X X2) := fun n =>
    M_owner_f0 hG (q_isAddress hG (fun c d => ⟨1, rfl, fun z => absurd z (by omega), fun _ => ⟨fun e => absurd n (by omega), fun e => q_isHouse hG hp (fun f g => absurd n (by omega))
      (fun f => ⟨0, rfl, fun _ => ⟨rfl, h, zKp_r X⟩, fun z => absurd rfl z⟩)⟩⟩) (fun c => ⟨0, rfl, fun _ => ⟨rfl, h, zKp_r X⟩, fun z => absurd rfl z⟩))
  have yes : 0 ≤ a → a ≤ 9 → (b = -1 ∨ (0 ≤ b ∧ b < X 1 11)) → M_owner [zR 139, zI a, zI b] G (zst X 22 a b) (fun w X2 => w = [zI 1] ∧ zRT X2 1 0 ∧ zKp X X2) := fun n1 n2 n3 => by
    have fin : M_owner_W (fun w X2 => w = [zI 1] ∧ zRT X2 1 0 ∧ zKp X X2) 22 [zR 139, zI a, zI b] [] G (zst X 22 a b) :=
      M_owner_f22 hG ⟨zw_id (by omega) (by omega), zw_id (by omega) (by omega), by omega, by omega, rfl, zP_own h (by omega) (by omega) ⟨rfl, by omega, by omega⟩, (by repeat' (first | (with_reducible exact zKp_r _) | (with_reducible refine zKp_v ?_ (by omega) (by omega) (by omega)) | (with_reducible refine zKp_w ?_ (by omega) (by omega) (by omega) (by omega))))⟩
    have e1 : zst X 22 a b 1 11 = X 1 11 := zrd_n (by omega)
    have e2 : zst X 22 a b 140 0 = X 140 0 := zrd_n (by omega)
    exact M_owner_f0 hG (q_isAddress hG (fun c d => ⟨1, rfl, fun z => absurd z (by omega), fun _ => ⟨fun e => fin, fun e => q_isHouse hG (by rw [e1, e2]; exact hp) (fun f g => ⟨1, rfl, fun z => absurd z (by omega), fun _ => fin⟩) (fun f => absurd f (by omega))⟩⟩) (fun c => absurd c (by omega)))
  have fin2 : 0 ≤ a → a ≤ 9 → (b = -1 ∨ (0 ≤ b ∧ b < X 1 11)) → D_owner_W (fun v X1 => M_owner [zR 139, zI a, zI b] G X1 (fun w X2 => w = v ∧ zRT X2 1 0 ∧ zKp X X2)) 22 [zR 0, zI a, zI b] [] G X := fun n1 n2 n3 =>
    D_owner_f22 hG ⟨n1, by omega, yes n1 n2 n3⟩
  exact D_owner_f0 hG (q_isMade hG (fun c d => ⟨1, rfl, fun z => absurd z (by omega), fun _ => ⟨fun e => fin2 c d (by omega), fun e => q_dHouse hG (fun f g => ⟨1, rfl, fun z => absurd z (by omega), fun _ => fin2 c d (by omega)⟩) (fun f => ⟨0, rfl, fun _ => no (by omega), fun z => absurd rfl z⟩)⟩⟩) (fun c => ⟨0, rfl, fun _ => no (by omega), fun z => absurd rfl z⟩))
theorem op_marks {G : zG} {X : zX} {a b c : Int} (hG : SH G) (h : zRT X 1 0) : zOp D_marks M_marks [zI a, zI b, zI c] [zI a, zI b, zI c] G X := by
  have no : (a < 0 ∨ 60 < a ∨ b < 0 ∨ 200 < b ∨ c < 0 ∨ 99 < c) → M_marks [zR 139, zI a, zI b, zI c] G X (fun w X2 => w = [zI 0] ∧ zRT X2 1 0 ∧ zKp X X2) := fun n =>
    M_marks_f0 hG (q_isIn hG (fun _ _ => ⟨1, rfl, fun z => absurd z (by omega), fun _ => q_isIn hG (fun _ _ => ⟨1, rfl, fun z => absurd z (by omega), fun _ => q_isIn hG (fun _ _ => absurd n (by omega)) (fun _ => ⟨0, rfl, fun _ => ⟨rfl, h, zKp_r X⟩, fun z => absurd rfl z⟩)⟩)
      (fun _ => ⟨0, rfl, fun _ => ⟨rfl, h, zKp_r X⟩, fun z => absurd rfl z⟩)⟩) (fun _ => ⟨0, rfl, fun _ => ⟨rfl, h, zKp_r X⟩, fun z => absurd rfl z⟩))
  refine D_marks_f0 hG ⟨fun _ => no (by omega), fun n1 => ⟨fun _ => no (by omega), fun n2 => ⟨fun _ => no (by omega), fun n3 => ⟨fun _ => no (by omega), fun n4 => ⟨fun _ => no (by omega), fun n5 => ⟨fun _ => no (by omega), fun n6 => ?_⟩⟩⟩⟩⟩⟩
  refine M_marks_f0 hG (q_isIn hG (fun _ _ => ⟨1, rfl, fun z => absurd z (by omega), fun _ => q_isIn hG (fun _ _ => ⟨1, rfl, fun z => absurd z (by omega), fun _ => q_isIn hG (fun _ _ => ⟨1, rfl, fun z => absurd z (by omega), fun _ => ⟨rfl, ?_⟩⟩) (fun n => absurd n (by omega))⟩) (fun n => absurd n (by omega))⟩) (fun n => absurd n (by omega)))
  have k1 := zP_mrk (p0 := 0) (v := a) (u := a) h (by omega) (by omega) ⟨rfl, by omega, by omega, by omega, by omega⟩
  have k2 := zP_mrk (p0 := 1) (v := b) (u := b) k1 (by omega) (by omega) ⟨rfl, by omega, by omega, by omega, by omega⟩
  have k3 := zP_mrk (p0 := 2) (v := c) (u := c) k2 (by omega) (by omega) ⟨rfl, by omega, by omega, by omega, by omega⟩
  have n1 : (1 : Int) ≠ 140 := by omega
  simp only [zrd_c n1] at k3
  exact ⟨k3, (by repeat' (first | (with_reducible exact zKp_r _) | (with_reducible refine zKp_v ?_ (by omega) (by omega) (by omega)) | (with_reducible refine zKp_w ?_ (by omega) (by omega) (by omega) (by omega))))⟩
theorem q_pageAt {Q : List zV → zX → Prop} {G : zG} {X : zX} {x : Int} (hG : SH G) (h0 : 0 ≤ x) (h1 : x < 10) (k : Q [zI (2670 + 210 * x)] X) : M_pageAt [zI x] G X Q :=
  M_pageAt_f0 hG ⟨by rw [zw_id (x := 210 * x) (by omega) (by omega), zw_id (by omega) (by omega)], k⟩
theorem q_houseAt {Q : List zV → zX → Prop} {G : zG} {X : zX} {x : Int} (hG : SH G) (h0 : 0 ≤ x) (h1 : x < 5) (k : Q [zI (1870 + 160 * x)] X) : M_houseAt [zI x] G X Q :=
  M_houseAt_f0 hG ⟨by rw [zw_id (x := 160 * x) (by omega) (by omega), zw_id (by omega) (by omega)], k⟩
theorem op_stands {G : zG} {X : zX} {a b c : Int} (hG : SH G) (h : zRT X 1 0) : zOp D_stands M_stands [zI a, zI b, zI c] [zI a, zI b, zI c] G X := by
  have hp := q_pages h
  have no : (a < 0 ∨ X 1 12 ≤ a ∨ b < 0 ∨ 99 < b ∨ c < 0 ∨ 1048575 < c) → M_stands [zR 139, zI a, zI b, zI c] G X (fun w X2 => w = [zI 0] ∧ zRT X2 1 0 ∧ zKp X X2) := fun n =>
    M_stands_f0 hG (q_isPage hG hp (fun _ _ => ⟨1, rfl, fun z => absurd z (by omega), fun _ => q_isIn hG (fun _ _ => ⟨1, rfl, fun z => absurd z (by omega), fun _ => q_isIn hG (fun _ _ => absurd n (by omega)) (fun _ => ⟨0, rfl, fun _ => ⟨rfl, h, zKp_r X⟩, fun z => absurd rfl z⟩)⟩)
      (fun _ => ⟨0, rfl, fun _ => ⟨rfl, h, zKp_r X⟩, fun z => absurd rfl z⟩)⟩) (fun _ => ⟨0, rfl, fun _ => ⟨rfl, h, zKp_r X⟩, fun z => absurd rfl z⟩))
  refine D_stands_f0 hG (q_dPage hG (fun n1 n2 => ⟨1, rfl, fun z => absurd z (by omega), fun _ => q_dDay hG (fun n3 n4 => ⟨1, rfl, fun z => absurd z (by omega), fun _ => ⟨fun _ => no (by omega), fun n5 => ⟨fun n6 => ⟨n1, by omega, ?_⟩, fun _ => no (by omega)⟩⟩⟩)
      (fun _ => ⟨0, rfl, fun _ => no (by omega), fun z => absurd rfl z⟩)⟩) (fun _ => ⟨0, rfl, fun _ => no (by omega), fun z => absurd rfl z⟩))
  have e1 : (zst (zst X (53 + 5 * a) 4 b) (53 + 5 * a) 5 c) 1 12 = X 1 12 := by rw [zrd_n (by omega), zrd_n (by omega)]
  have e2 : (zst (zst X (53 + 5 * a) 4 b) (53 + 5 * a) 5 c) 140 1 = X 140 1 := by rw [zrd_n (by omega), zrd_n (by omega)]
  refine M_stands_f0 hG (q_isPage hG (by rw [e1, e2]; exact hp) (fun _ _ => ⟨1, rfl, fun z => absurd z (by omega), fun _ => q_isIn hG (fun _ _ => ⟨1, rfl, fun z => absurd z (by omega), fun _ => q_isIn hG (fun _ _ => ⟨1, rfl, fun z => absurd z (by omega), fun _ =>
    q_pageAt hG n1 (by omega) ⟨_, rfl, zw_id (by omega) (by omega), by omega, by omega, q_pageAt hG n1 (by omega) ⟨_, rfl, zw_id (by omega) (by omega), by omega, by omega, rfl, ?_⟩⟩⟩) (fun n => absurd n (by omega))⟩) (fun n => absurd n (by omega))⟩) (fun n => absurd n (by omega)))
  have k1 := zP_sin (p0 := a) (v := b) (u := b) h (by omega) (by omega) ⟨rfl, by omega, by omega⟩
  have k2 := zP_pcs (p0 := a) (v := c) (u := c) k1 (by omega) (by omega) ⟨rfl, by omega, by omega⟩
  have n1 : 53 + 5 * a ≠ 140 := by omega
  have i1 : 2670 + 210 * a + 13 = 2683 + 210 * a := by omega
  have i2 : 2670 + 210 * a + 14 = 2684 + 210 * a := by omega
  have c1 : 52 + 1 + 5 * a = 53 + 5 * a := by omega
  rw [i1, i2]
  simp only [zrd_c n1] at k2
  exact ⟨k2, (by repeat' (first | (with_reducible exact zKp_r _) | (with_reducible refine zKp_v ?_ (by omega) (by omega) (by omega)) | (with_reducible refine zKp_w ?_ (by omega) (by omega) (by omega) (by omega))))⟩
theorem op_picture {G : zG} {X : zX} {a b c : Int} (hG : SH G) (h : zRT X 1 0) : zOp D_picture M_picture [zI a, zI b, zI c] [zI a, zI b, zI c] G X := by
  have hp := q_pages h
  have hh := q_houses h
  have no : (c < 0 ∨ 33554431 < c ∨ (a = 0 ∧ (b < 0 ∨ X 1 11 ≤ b)) ∨ (a ≠ 0 ∧ (b < 0 ∨ X 1 12 ≤ b))) → M_picture [zR 139, zI a, zI b, zI c] G X (fun w X2 => w = [zI 0] ∧ zRT X2 1 0 ∧ zKp X X2) := fun n => by
    have n23 : (c < 0 ∨ 33554431 < c) → M_picture_W (fun w X2 => w = [zI 0] ∧ zRT X2 1 0 ∧ zKp X X2) 23 [zR 139, zI a, zI b, zI c] [] G X := fun n =>
      M_picture_f23 hG (q_isIn hG (fun _ _ => absurd n (by omega)) (fun _ => ⟨0, rfl, fun _ => ⟨rfl, h, zKp_r X⟩, fun z => absurd rfl z⟩))
    exact M_picture_f0 hG ⟨fun ha => q_isHouse hG hh (fun _ _ => ⟨1, rfl, fun z => absurd z (by omega), fun _ => n23 (by omega)⟩) (fun _ => ⟨0, rfl, fun _ => ⟨rfl, h, zKp_r X⟩, fun z => absurd rfl z⟩),
      fun ha => q_isPage hG hp (fun _ _ => ⟨1, rfl, fun z => absurd z (by omega), fun _ => n23 (by omega)⟩) (fun _ => ⟨0, rfl, fun _ => ⟨rfl, h, zKp_r X⟩, fun z => absurd rfl z⟩)⟩
  have d0 : ((a = 0 ∧ (b < 0 ∨ X 1 11 ≤ b)) ∨ (a ≠ 0 ∧ (b < 0 ∨ X 1 12 ≤ b))) → D_picture_W (fun v X1 => M_picture [zR 139, zI a, zI b, zI c] G X1 (fun w X2 => w = v ∧ zRT X2 1 0 ∧ zKp X X2)) 17 [zR 0, zI a, zI b, zI c, zT] [zI 0] G X := fun n =>
    D_picture_f17 hG ⟨fun _ => no (by omega), fun z => absurd rfl z⟩
  have d1 : ((a = 0 ∧ 0 ≤ b ∧ b < X 1 11) ∨ (a ≠ 0 ∧ 0 ≤ b ∧ b < X 1 12)) → D_picture_W (fun v X1 => M_picture [zR 139, zI a, zI b, zI c] G X1 (fun w X2 => w = v ∧ zRT X2 1 0 ∧ zKp X X2)) 17 [zR 0, zI a, zI b, zI c, zT] [zI 1] G X := fun n => by
    refine D_picture_f17 hG ⟨fun z => absurd z (by omega), fun _ => ⟨fun _ => no (by omega), fun n3 => ⟨fun n4 => ⟨fun ha => ⟨by omega, by omega, ?_⟩, fun ha => ⟨by omega, by omega, ?_⟩⟩, fun _ => no (by omega)⟩⟩⟩
    · have e1 : (zst X (23 + 6 * b) 3 c) 1 11 = X 1 11 := zrd_n (by omega)
      have e2 : (zst X (23 + 6 * b) 3 c) 140 0 = X 140 0 := zrd_n (by omega)
      refine M_picture_f0 hG ⟨fun _ => q_isHouse hG (by rw [e1, e2]; exact hh) (fun _ _ => ⟨1, rfl, fun z => absurd z (by omega), fun _ => M_picture_f23 hG (q_isIn hG (fun _ _ => ⟨1, rfl, fun z => absurd z (by omega), fun _ => ⟨fun _ => q_houseAt hG (by omega) (by omega) ⟨_, rfl, zw_id (by omega) (by omega), ?_⟩, fun z => absurd ha z⟩⟩) (fun n => absurd n (by omega)))⟩)
        (fun n => absurd n (by omega)), fun z => absurd ha z⟩
      refine M_picture_f63 hG rfl ⟨by omega, show 1870 + 160 * b + 159 < 22080 by omega, rfl, ?_⟩
      rw [show 1870 + 160 * b + 159 = 2029 + 160 * b by omega]
      exact ⟨zP_hpic (p0 := b) h (by omega) (by omega) ⟨rfl, by omega, by omega⟩, (by repeat' (first | (with_reducible exact zKp_r _) | (with_reducible refine zKp_v ?_ (by omega) (by omega) (by omega)) | (with_reducible refine zKp_w ?_ (by omega) (by omega) (by omega) (by omega))))⟩
    · have e1 : (zst X (53 + 5 * b) 6 c) 1 12 = X 1 12 := zrd_n (by omega)
      have e2 : (zst X (53 + 5 * b) 6 c) 140 1 = X 140 1 := zrd_n (by omega)
      refine M_picture_f0 hG ⟨fun z => absurd z ha, fun _ => q_isPage hG (by rw [e1, e2]; exact hp) (fun _ _ => ⟨1, rfl, fun z => absurd z (by omega), fun _ => M_picture_f23 hG (q_isIn hG (fun _ _ => ⟨1, rfl, fun z => absurd z (by omega), fun _ => ⟨fun z => absurd z ha, fun _ => q_pageAt hG (by omega) (by omega) ⟨_, rfl, zw_id (by omega) (by omega), ?_⟩⟩⟩) (fun n => absurd n (by omega)))⟩)
        (fun n => absurd n (by omega))⟩
      refine M_picture_f63 hG rfl ⟨by omega, show 2670 + 210 * b + 202 < 22080 by omega, rfl, ?_⟩
      rw [show 2670 + 210 * b + 202 = 2872 + 210 * b by omega]
      exact ⟨zP_cpic (p0 := b) h (by omega) (by omega) ⟨rfl, by omega, by omega⟩, (by repeat' (first | (with_reducible exact zKp_r _) | (with_reducible refine zKp_v ?_ (by omega) (by omega) (by omega)) | (with_reducible refine zKp_w ?_ (by omega) (by omega) (by omega) (by omega))))⟩
  exact D_picture_f0 hG ⟨fun ha => q_dHouse hG (fun _ _ => ⟨1, rfl, d1 (by omega)⟩) (fun _ => ⟨0, rfl, d0 (by omega)⟩), fun ha => q_dPage hG (fun _ _ => ⟨1, rfl, d1 (by omega)⟩) (fun _ => ⟨0, rfl, d0 (by omega)⟩)⟩
/-- a sign's number, 0 .. 35, or -1 -/
def zsg (x : Int) : Int := if 97 ≤ x ∧ x ≤ 122 then x - 97 else if 48 ≤ x ∧ x ≤ 57 then x - 22 else -1
theorem zsg_l {x : Int} (h : 97 ≤ x ∧ x ≤ 122) : zsg x = x - 97 := if_pos h
theorem zsg_d {x : Int} (h : 48 ≤ x ∧ x ≤ 57) : zsg x = x - 22 := by
  unfold zsg
  rw [if_neg (by omega), if_pos h]
theorem zsg_n {x : Int} (h : ¬(97 ≤ x ∧ x ≤ 122)) (h2 : ¬(48 ≤ x ∧ x ≤ 57)) : zsg x = -1 := by
  unfold zsg
  rw [if_neg h, if_neg h2]
theorem zsg_in (x : Int) : -1 ≤ zsg x ∧ zsg x ≤ 35 := by
  unfold zsg
  split
  · omega
  · split <;> omega
theorem zsg_inj {x y : Int} (h : 0 ≤ zsg x) (e : zsg x = zsg y) : x = y := by
  unfold zsg at h e
  split at e <;> split at e <;> (try split at e) <;> (try split at h) <;> (try split at h) <;> omega
theorem q_dSign {Q : List zV → zX → Prop} {G : zG} {X : zX} {x : Int} (hG : SH G) (k : Q [zI (zsg x)] X) : D_signNumber [zI x] G X Q := by
  have n17 : ¬(97 ≤ x ∧ x ≤ 122) → D_signNumber_W Q 17 [zI x] [] G X := fun n =>
    D_signNumber_f17 hG ⟨fun a => by rw [zsg_n n (by omega)] at k; exact k, fun a => ⟨fun b => by rw [zsg_n n (by omega)] at k; exact k, fun b => ⟨zw_id (by omega) (by omega), zw_id (by omega) (by omega), by
      rw [zsg_d ⟨a, b⟩, show x - 22 = x - 48 + 26 by omega] at k
      exact k⟩⟩⟩
  exact D_signNumber_f0 hG ⟨fun a => n17 (by omega), fun a => ⟨fun b => n17 (by omega), fun b => ⟨zw_id (by omega) (by omega), by rw [zsg_l ⟨a, b⟩] at k; exact k⟩⟩⟩
theorem q_isLetter {Q : List zV → zX → Prop} {G : zG} {X : zX} {x : Int} (hG : SH G) (h1 : 97 ≤ x ∧ x ≤ 122 → Q [zI 1] X) (h0 : ¬(97 ≤ x ∧ x ≤ 122) → Q [zI 0] X) : M_isLetter [zI x] G X Q :=
  M_isLetter_f0 hG ⟨fun a => h0 (by omega), fun a => ⟨fun b => h0 (by omega), fun b => h1 ⟨a, b⟩⟩⟩
theorem q_isDigit {Q : List zV → zX → Prop} {G : zG} {X : zX} {x : Int} (hG : SH G) (h1 : 48 ≤ x ∧ x ≤ 57 → Q [zI 1] X) (h0 : ¬(48 ≤ x ∧ x ≤ 57) → Q [zI 0] X) : M_isDigit [zI x] G X Q :=
  M_isDigit_f0 hG ⟨fun a => h0 (by omega), fun a => ⟨fun b => h0 (by omega), fun b => h1 ⟨a, b⟩⟩⟩
theorem q_mSign {Q : List zV → zX → Prop} {G : zG} {X : zX} {x : Int} (hG : SH G) (k : Q [zI (zsg x)] X) : M_signOf [zI x] G X Q := by
  refine M_signOf_f0 hG (q_isLetter hG (fun a => ⟨1, rfl, fun z => absurd z (by omega), fun _ => ⟨zw_id (by omega) (by omega), by rw [zsg_l a] at k; exact k⟩⟩) (fun a => ⟨0, rfl, fun _ => q_isDigit hG (fun b => ⟨1, rfl, fun z => absurd z (by omega), fun _ => ⟨zw_id (by omega) (by omega), zw_id (by omega) (by omega), ?_⟩⟩) (fun b => ⟨0, rfl, fun _ => ?_, fun z => absurd rfl z⟩), fun z => absurd rfl z⟩))
  · rw [zsg_d b, show x - 22 = 26 + x - 48 by omega] at k
    exact k
  · rw [zsg_n a b] at k
    exact k
theorem op_alike {G : zG} {X : zX} {a b c : Int} (hG : SH G) (h : zRT X 1 0) : zOp D_alike M_alike [zI a, zI b, zI c] [zI a, zI b, zI c] G X := by
  have ia := zsg_in a
  have ib := zsg_in b
  have no : (zsg a < 0 ∨ zsg b < 0 ∨ zsg a = zsg b ∨ c < 1 ∨ 6 < c) → M_alike [zR 139, zI a, zI b, zI c] G X (fun w X2 => w = [zI 0] ∧ zRT X2 1 0 ∧ zKp X X2) := fun n =>
    M_alike_f0 hG (q_mSign hG ⟨_, rfl, fun _ => ⟨rfl, h, zKp_r X⟩, fun n1 => q_mSign hG ⟨_, rfl, fun _ => ⟨rfl, h, zKp_r X⟩, fun n2 => ⟨fun _ => ⟨rfl, h, zKp_r X⟩, fun n3 =>
      q_isIn hG (fun _ _ => absurd n (fun n => by
        have q : ¬(zsg a = zsg b) := fun e => n3 (zsg_inj n1 e)
        omega)) (fun _ => ⟨0, rfl, fun _ => ⟨rfl, h, zKp_r X⟩, fun z => absurd rfl z⟩)⟩⟩⟩)
  refine D_alike_f0 hG (q_dSign hG ⟨_, rfl, q_dSign hG ⟨_, rfl, fun _ => no (by omega), fun n1 => ⟨fun _ => no (by omega), fun n2 => ⟨fun _ => no (by omega), fun n3 => ⟨fun _ => no (by omega), fun n4 => ⟨fun _ => no (by omega), fun n5 =>
    ⟨zw_id (by omega) (by omega), zw_id (by omega) (by omega), by omega, by omega, zw_id (by omega) (by omega), zw_id (by omega) (by omega), by omega, by omega, ?_⟩⟩⟩⟩⟩⟩⟩)
  have n6 : a ≠ b := fun z => n3 (by rw [z])
  have o (s t : Int) (hs : 0 ≤ s ∧ s ≤ 35) (ht : 0 ≤ t ∧ t ≤ 35) : zw (570 + zw (36 * s)) = 570 + 36 * s ∧ zw (570 + 36 * s + t) = 570 + 36 * s + t := by
    rw [zw_id (x := 36 * s) (by omega) (by omega)]
    exact ⟨zw_id (by omega) (by omega), zw_id (by omega) (by omega)⟩
  have oa := o (zsg a) (zsg b) (by omega) (by omega)
  have ob := o (zsg b) (zsg a) (by omega) (by omega)
  refine M_alike_f0 hG (q_mSign hG ⟨_, rfl, fun z => absurd z (by omega), fun _ => q_mSign hG ⟨_, rfl, fun z => absurd z (by omega), fun _ => ⟨fun z => absurd z n6, fun _ => q_isIn hG (fun _ _ => ⟨1, rfl, fun z => absurd z (by omega), fun _ =>
    q_mSign hG ⟨_, rfl, oa.1, q_mSign hG ⟨_, rfl, oa.2, by omega, by omega, q_mSign hG ⟨_, rfl, ob.1, q_mSign hG ⟨_, rfl, ob.2, by omega, by omega, rfl, ?_⟩⟩⟩⟩⟩) (fun z => absurd z (by omega))⟩⟩⟩)
  have k1 := zP_alk (j0 := zsg a * 36 + zsg b) (v := c) (u := c) h (by omega) (by omega) ⟨by omega, by omega, Or.inl rfl⟩
  have k2 := zP_alk (j0 := zsg b * 36 + zsg a) (v := c) (u := c) k1 (by omega) (by omega) ⟨by omega, by omega, Or.inl rfl⟩
  have m1 : (20 : Int) ≠ 140 := by omega
  simp only [zrd_c m1] at k2
  rw [show 570 + 36 * zsg a + zsg b = 570 + (zsg a * 36 + zsg b) by omega, show 570 + 36 * zsg b + zsg a = 570 + (zsg b * 36 + zsg a) by omega]
  exact ⟨k2, (by repeat' (first | (with_reducible exact zKp_r _) | (with_reducible refine zKp_v ?_ (by omega) (by omega) (by omega)) | (with_reducible refine zKp_w ?_ (by omega) (by omega) (by omega) (by omega))))⟩
