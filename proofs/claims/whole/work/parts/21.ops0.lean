/-! ===== the simple operations ===== -/
theorem q_isIn {Q : List zV → zX → Prop} {G : zG} {X : zX} {x a b : Int} (hG : SH G) (h1 : a ≤ x → x ≤ b → Q [zI 1] X) (h0 : x < a ∨ b < x → Q [zI 0] X) : M_isIn [zI x, zI a, zI b] G X Q :=
  M_isIn_f0 hG ⟨fun c => h0 (Or.inl c), fun c => ⟨fun d => h0 (Or.inr d), fun d => h1 c d⟩⟩
theorem q_isAddress {Q : List zV → zX → Prop} {G : zG} {X : zX} {x : Int} (hG : SH G) (h1 : 0 ≤ x → x ≤ 9 → Q [zI 1] X) (h0 : x < 0 ∨ 9 < x → Q [zI 0] X) : M_isAddress [zI x] G X Q :=
  M_isAddress_f0 hG (q_isIn hG (fun a b => ⟨1, rfl, Or.inr rfl, h1 a b⟩) (fun a => ⟨0, rfl, Or.inl rfl, h0 a⟩))
theorem q_isMade {Q : List zV → zX → Prop} {G : zG} {X : zX} {x : Int} (hG : SH G) (h1 : 0 ≤ x → x ≤ 9 → Q [zI 1] X) (h0 : x < 0 ∨ 9 < x → Q [zI 0] X) : D_isAddress [zI x] G X Q :=
  D_isAddress_f0 hG ⟨fun a => h0 (Or.inl a), fun a => ⟨fun b => h1 a (by omega), fun b => h0 (by omega)⟩⟩
theorem q_houses {X : zX} (h : zRT X 1 0) : X 140 0 = X 1 11 ∧ 0 ≤ X 1 11 ∧ X 1 11 ≤ 5 := by
  have z := h.1 0 (by omega) (by omega)
  exact ⟨z.1, z.2.1, z.2.2.1 rfl⟩
theorem q_pages {X : zX} (h : zRT X 1 0) : X 140 1 = X 1 12 ∧ 0 ≤ X 1 12 ∧ X 1 12 ≤ 10 := by
  have z := h.1 1 (by omega) (by omega)
  exact ⟨z.1, z.2.1, z.2.2.2.1 rfl⟩
theorem q_cases {X : zX} (h : zRT X 1 0) : X 140 2 = X 1 13 ∧ 0 ≤ X 1 13 ∧ X 1 13 ≤ 16 := by
  have z := h.1 2 (by omega) (by omega)
  exact ⟨z.1, z.2.1, z.2.2.2.2 rfl⟩
theorem q_isPage {Q : List zV → zX → Prop} {G : zG} {X : zX} {x : Int} (hG : SH G) (hp : X 140 1 = X 1 12 ∧ 0 ≤ X 1 12 ∧ X 1 12 ≤ 10) (h1 : 0 ≤ x → x < X 1 12 → Q [zI 1] X) (h0 : x < 0 ∨ X 1 12 ≤ x → Q [zI 0] X) : M_isPage [zR 139, zI x] G X Q :=
  M_isPage_f0 hG ⟨by rw [zw_id (by omega) (by omega)], q_isIn hG (fun a b => ⟨1, rfl, Or.inr rfl, h1 a (by omega)⟩) (fun a => ⟨0, rfl, Or.inl rfl, h0 (by omega)⟩)⟩
theorem q_isHouse {Q : List zV → zX → Prop} {G : zG} {X : zX} {x : Int} (hG : SH G) (hp : X 140 0 = X 1 11 ∧ 0 ≤ X 1 11 ∧ X 1 11 ≤ 5) (h1 : 0 ≤ x → x < X 1 11 → Q [zI 1] X) (h0 : x < 0 ∨ X 1 11 ≤ x → Q [zI 0] X) : M_isHouse [zR 139, zI x] G X Q :=
  M_isHouse_f0 hG ⟨by rw [zw_id (by omega) (by omega)], q_isIn hG (fun a b => ⟨1, rfl, Or.inr rfl, h1 a (by omega)⟩) (fun a => ⟨0, rfl, Or.inl rfl, h0 (by omega)⟩)⟩
theorem q_dPage {Q : List zV → zX → Prop} {G : zG} {X : zX} {x : Int} (hG : SH G) (h1 : 0 ≤ x → x < X 1 12 → Q [zI 1] X) (h0 : x < 0 ∨ X 1 12 ≤ x → Q [zI 0] X) : D_isPage [zR 0, zI x] G X Q :=
  D_isPage_f0 hG ⟨fun a => h0 (Or.inl a), fun a => ⟨fun b => h1 a b, fun b => h0 (Or.inr b)⟩⟩
theorem q_dHouse {Q : List zV → zX → Prop} {G : zG} {X : zX} {x : Int} (hG : SH G) (h1 : 0 ≤ x → x < X 1 11 → Q [zI 1] X) (h0 : x < 0 ∨ X 1 11 ≤ x → Q [zI 0] X) : D_isHouse [zR 0, zI x] G X Q :=
  D_isHouse_f0 hG ⟨fun a => h0 (Or.inl a), fun a => ⟨fun b => h1 a b, fun b => h0 (Or.inr b)⟩⟩
theorem q_dDay {Q : List zV → zX → Prop} {G : zG} {X : zX} {x : Int} (hG : SH G) (h1 : 0 ≤ x → x ≤ 99 → Q [zI 1] X) (h0 : x < 0 ∨ 99 < x → Q [zI 0] X) : D_isDay [zI x] G X Q :=
  D_isDay_f0 hG ⟨fun a => h0 (Or.inl a), fun a => ⟨fun b => h1 a (by omega), fun b => h0 (by omega)⟩⟩
/-! the calls -/
theorem op_worth {G : zG} {X : zX} {a b : Int} (hG : SH G) (h : zRT X 1 0) : zOp D_worth M_worth [zI a, zI b] [zI a, zI b] G X := by
  have no : (a < 0 ∨ 7 < a ∨ b < 0 ∨ 99 < b) → M_worth [zR 139, zI a, zI b] G X (fun w X2 => w = [zI 0] ∧ zRT X2 1 0 ∧ zKp X X2) := fun n =>
    M_worth_f0 hG (q_isIn hG (fun c d => ⟨1, rfl, fun z => absurd z (by omega), fun _ => q_isIn hG (fun e f => absurd n (by omega)) (fun e => ⟨0, rfl, fun _ => ⟨rfl, h, zKp_r X⟩, fun z => absurd rfl z⟩)⟩)
      (fun c => ⟨0, rfl, fun _ => ⟨rfl, h, zKp_r X⟩, fun z => absurd rfl z⟩))
  refine D_worth_f0 hG ⟨fun c => no (by omega), fun c => ⟨fun d => ⟨fun e => no (by omega), fun e => ⟨fun f => no (by omega), fun f => ⟨by omega, d, ?_⟩⟩⟩, fun d => no (by omega)⟩⟩
  refine M_worth_f0 hG (q_isIn hG (fun c2 d2 => ⟨1, rfl, fun z => absurd z (by omega), fun _ => q_isIn hG (fun e2 f2 => ⟨1, rfl, fun z => absurd z (by omega), fun _ => ⟨zw_id (by omega) (by omega), by omega, by omega, rfl, ?_, ?_⟩⟩) (fun e2 => absurd e2 (by omega))⟩) (fun c2 => absurd c2 (by omega)))
  · exact zP_wor h (by omega) (by omega) ⟨rfl, by omega, by omega⟩
  · exact zKp_p (by omega) (by omega) (by omega) (by omega)
theorem op_end {G : zG} {X : zX} {a : Int} (hG : SH G) (h : zRT X 1 0) : zOp D_end M_end [zI a] [zI a] G X := by
  have z := h.2.2.1
  have z1 : X 140 6 = X 2 1 := z.1
  have z3 : X 2 1 ≤ 500 := z.2.2
  have no : (a < 0 ∨ X 140 6 < a) → M_end [zR 139, zI a] G X (fun w X2 => w = [zI (-1)] ∧ zRT X2 1 0 ∧ zKp X X2) := fun n =>
    M_end_f0 hG ⟨fun _ => ⟨rfl, h, zKp_r X⟩, fun c => ⟨fun _ => ⟨rfl, h, zKp_r X⟩, fun d => absurd n (by omega)⟩⟩
  refine D_end_f0 hG ⟨fun c => no (by omega), fun c => ⟨fun d => no (by omega), fun d => M_end_f0 hG ⟨fun e => absurd e (by omega), fun e => ?_⟩⟩⟩
  rw [zrd_n (a := 2) (by omega)]
  refine ⟨fun f => absurd f (by omega), fun f => ⟨rfl, ?_, ?_⟩⟩
  · exact zP_len h ⟨rfl, by omega, by omega⟩
  · exact zKp_p (by omega) (by omega) (by omega) (by omega)
theorem op_fault {G : zG} {X : zX} {a : Int} (hG : SH G) (h : zRT X 1 0) : zOp D_fault M_fault [zI a] [zI a] G X := by
  have z7 : X 140 7 = X 2 2 := h.2.2.2.1.1
  have z8 : X 140 8 = X 2 3 := h.2.2.2.2.1.1
  refine D_fault_f0 hG ⟨fun c => M_fault_f0 hG ⟨fun d => ⟨by rw [z7], h, zKp_r X⟩, fun d => absurd c d⟩, fun c => ⟨fun d => M_fault_f0 hG ⟨fun e => absurd e c, fun e => ⟨fun f => ⟨by rw [z8], h, zKp_r X⟩, fun f => absurd d f⟩⟩, fun d => M_fault_f0 hG ⟨fun e => absurd e c, fun e => ⟨fun f => absurd f d, fun f => ⟨rfl, h, zKp_r X⟩⟩⟩⟩⟩
theorem op_relay {G : zG} {X : zX} {a b : Int} (hG : SH G) (h : zRT X 1 0) : zOp D_relay M_relay [zI a, zI b] [zI a, zI b] G X := by
  have no : (a < 0 ∨ 9 < a ∨ (b ≠ -1 ∧ (b < 0 ∨ 9 < b)) ∨ a = b) → M_relay [zR 139, zI a, zI b] G X (fun w X2 => w = [zI 0] ∧ zRT X2 1 0 ∧ zKp X X2) := fun n =>
    M_relay_f0 hG (q_isAddress hG (fun c d => ⟨1, rfl, fun z => absurd z (by omega), fun _ => ⟨fun e => absurd n (by omega), fun e => q_isAddress hG (fun f g => ⟨1, rfl, fun z => absurd z (by omega), fun _ => M_relay_f19 hG ⟨fun _ => ⟨rfl, h, zKp_r X⟩, fun k => absurd n (by omega)⟩⟩)
      (fun f => ⟨0, rfl, fun _ => ⟨rfl, h, zKp_r X⟩, fun z => absurd rfl z⟩)⟩⟩) (fun c => ⟨0, rfl, fun _ => ⟨rfl, h, zKp_r X⟩, fun z => absurd rfl z⟩))
  have yes : 0 ≤ a → a ≤ 9 → (b = -1 ∨ (0 ≤ b ∧ b ≤ 9)) → a ≠ b → M_relay [zR 139, zI a, zI b] G (zst X 21 a b) (fun w X2 => w = [zI 1] ∧ zRT X2 1 0 ∧ zKp X X2) := fun n1 n2 n3 n4 => by
    have fin : M_relay_W (fun w X2 => w = [zI 1] ∧ zRT X2 1 0 ∧ zKp X X2) 19 [zR 139, zI a, zI b] [] G (zst X 21 a b) :=
      M_relay_f19 hG ⟨fun k => absurd k n4, fun _ => ⟨zw_id (by omega) (by omega), zw_id (by omega) (by omega), by omega, by omega, rfl, zP_rel h (by omega) (by omega) ⟨rfl, by omega, by omega⟩, zKp_p (by omega) (by omega) (by omega) (by omega)⟩⟩
    exact M_relay_f0 hG (q_isAddress hG (fun c d => ⟨1, rfl, fun z => absurd z (by omega), fun _ => ⟨fun e => fin, fun e => q_isAddress hG (fun f g => ⟨1, rfl, fun z => absurd z (by omega), fun _ => fin⟩) (fun f => absurd f (by omega))⟩⟩) (fun c => absurd c (by omega)))
  have fin2 : 0 ≤ a → a ≤ 9 → (b = -1 ∨ (0 ≤ b ∧ b ≤ 9)) → D_relay_W (fun v X1 => M_relay [zR 139, zI a, zI b] G X1 (fun w X2 => w = v ∧ zRT X2 1 0 ∧ zKp X X2)) 19 [zR 0, zI a, zI b] [] G X := fun n1 n2 n3 =>
    D_relay_f19 hG ⟨fun k => no (by omega), fun k => ⟨n1, by omega, yes n1 n2 n3 k⟩⟩
  exact D_relay_f0 hG (q_isMade hG (fun c d => ⟨1, rfl, fun z => absurd z (by omega), fun _ => ⟨fun e => fin2 c d (by omega), fun e => q_isMade hG (fun f g => ⟨1, rfl, fun z => absurd z (by omega), fun _ => fin2 c d (by omega)⟩) (fun f => ⟨0, rfl, fun _ => no (by omega), fun z => absurd rfl z⟩)⟩⟩) (fun c => ⟨0, rfl, fun _ => no (by omega), fun z => absurd rfl z⟩))
