/-! ===== what is told, made anew: all of it (wip/whole/gen_init.py) ===== -/
theorem zFn_X {G0 G : zG} {X0 X Y : zX} {t n m : Int} {s : Nat} (h : zFn G0 X0 G X t n s m) (f : ∀ b : Int, b < t → Y b = X b) : zFn G0 X0 G Y t n s m := by
  obtain ⟨h1, h2, h3, h4⟩ := h
  exact ⟨h1, h2, fun b hb => ⟨(h3 b hb).1, (h3 b hb).2.1, (h3 b hb).2.2.1, (f b hb).trans (h3 b hb).2.2.2⟩, h4⟩
theorem zFn_nx {G0 G : zG} {X0 X : zX} {t n m k l : Int} {s c : Nat} (h : zFn G0 X0 G X t n s m) (n0 : 0 ≤ n) (mn : m ≤ n) (hk : zk0 (1 + n) = k) (hl : zl0 (1 + n) = l) : zFn G0 X0 (znG G k l c) X t (n + 1) (s + c) m :=
  zFn_X (zFn_new h n0 mn hk hl) (fun b hb => by have := h.1; rw [znX_r (by omega)])
set_option maxHeartbeats 4000000 in
theorem to157 {LC LS : Nat} {Q : List zV → zG → zX → Prop} {G0 G : zG} {X0 X : zX} {t : Int} {s : Nat} (h : zFn G0 X0 G X t 1 s 1) (t0 : 0 ≤ t) (fr : zrx G (t + 0) = fun _ => -1) (hC : zsz G + 101 = LC) (hS : ztt G + 5249 = LS) (q : ∀ (G2 : zG) (X2 : zX), zFn G0 X0 G2 X2 t 22 (s + 2649) 22 → zrx G2 (t + 0) = (zup (zup (zup (zup (zup (zup (zup (zup (zup (zup (zup (fun _ => -1) 0 (t + 1)) 1 (t + 6)) 2 (t + 7)) 3 (t + 8)) 4 (t + 15)) 5 (t + 16)) 6 (t + 17)) 7 (t + 18)) 8 (t + 19)) 9 (t + 20)) 10 (t + 21)) → zrx G2 (t + 6) = (fun _ => -1) → zrx G2 (t + 7) = (fun _ => -1) → To_init_W LC LS Q 157 [zR (t + 0), zI 0] [] G2 X2) : To_init LC LS [zR (t + 0)] G X Q := by
  have h1 := h.1
  have h2 := h.2.1
  have k0 : zk0 (1 + 0) = 1 := by decide +kernel
  refine To_init_e0 ?_
  rw [show Int.toNat 5 = 5 from rfl, show Int.toNat 10 = 10 from rfl, show Int.toNat 16 = 16 from rfl, show Int.toNat 8 = 8 from rfl, show Int.toNat 1296 = 1296 from rfl, h1]
  obtain ⟨T1, eT1⟩ : ∃ H : zG, H = znG G 2 0 11 := ⟨_, rfl⟩
  have fT1 : zFn G0 X0 T1 (znX G X) t 2 (s + 11) 1 := by rw [eT1]; exact zFn_new h (by omega) (by omega) (by decide +kernel) (by decide +kernel)
  have gT1 := fT1.1
  have kT1 := fT1.2.1
  rw [← eT1]
  have nT1 : zrx T1 (t + 1) = fun _ => -1 := by rw [eT1, ← h1, znG_rs]
  refine ⟨by omega, by omega, by omega, zFn_k fT1 (by omega) (by omega) (by decide +kernel), zsz T1 + 4, ztt T1 + 526, by omega, by omega, by omega, by omega, taI fT1 t0 nT1 rfl rfl (fun G5 X2 c5 s5 f5 r5 => ?_)⟩
  have gG5 := f5.1
  have kG5 := f5.2.1
  have fG5 := f5
  have a5 : zrx G5 (t + 0) = fun _ => -1 := by rw [r5 _ (by omega), eT1, znG_r (by omega), fr]
  obtain ⟨U1, eU1⟩ : ∃ HH : zG, HH = zrs G5 (t + 0) 0 (t + 1) := ⟨_, rfl⟩
  have fU1 : zFn G0 X0 U1 X2 t 6 (s + 11 + 526) 6 := by rw [eU1]; exact zFn_ref (i := 0) fG5 rfl (by omega) (by omega)
  have gU1 := fU1.1
  have kU1 := fU1.2.1
  rw [← eU1]
  have zU1 : (zsz U1 : Int) = t + 6 := by have := fU1.1; omega
  rw [zU1]
  obtain ⟨U2, eU2⟩ : ∃ HH : zG, HH = znG U1 55 5 5 := ⟨_, rfl⟩
  have fU2 : zFn G0 X0 U2 X2 t 7 (s + 11 + 526 + 5) 6 := by rw [eU2]; exact zFn_nx fU1 (by omega) (by omega) (by decide +kernel) (by decide +kernel)
  have gU2 := fU2.1
  have kU2 := fU2.2.1
  rw [← eU2]
  refine ⟨c5, s5, rfl, zFn_k fG5 (by omega) (by omega) k0, by omega, by omega, by omega, by omega, zFn_k fU2 (by omega) (by omega) k0, fun G6 eG6 => ?_⟩
  have fG6 : zFn G0 X0 G6 X2 t 7 (s + 11 + 526 + 5) 6 := by rw [eG6]; exact zFn_ref (i := 0) fU2 rfl (by omega) (by omega)
  have gG6 := fG6.1
  have kG6 := fG6.2.1
  have zG6 : (zsz G6 : Int) = t + 7 := by have := fG6.1; omega
  rw [zG6]
  obtain ⟨U3, eU3⟩ : ∃ HH : zG, HH = znG G6 56 10 10 := ⟨_, rfl⟩
  have fU3 : zFn G0 X0 U3 X2 t 8 (s + 11 + 526 + 5 + 10) 6 := by rw [eU3]; exact zFn_nx fG6 (by omega) (by omega) (by decide +kernel) (by decide +kernel)
  have gU3 := fU3.1
  have kU3 := fU3.2.1
  rw [← eU3]
  obtain ⟨U4, eU4⟩ : ∃ HH : zG, HH = zrs U3 (t + 0) 2 (t + 7) := ⟨_, rfl⟩
  have fU4 : zFn G0 X0 U4 X2 t 8 (s + 11 + 526 + 5 + 10) 6 := by rw [eU4]; exact zFn_ref (i := 0) fU3 rfl (by omega) (by omega)
  have gU4 := fU4.1
  have kU4 := fU4.2.1
  rw [← eU4]
  refine ⟨by omega, by omega, by omega, by omega, zFn_k fU3 (by omega) (by omega) k0, by omega, by omega, fun X7 eX7 => ?_⟩
  have zU4 : (zsz U4 : Int) = t + 8 := by have := fU4.1; omega
  rw [zU4]
  obtain ⟨V1, eV1⟩ : ∃ H : zG, H = znG U4 6 0 9 := ⟨_, rfl⟩
  have fV1 : zFn G0 X0 V1 X7 t 9 (s + 11 + 526 + 5 + 10 + 9) 8 := by rw [eV1]; exact zFn_fin (zFn_X (zFn_nx fU4 (by omega) (by omega) (by decide +kernel) (by decide +kernel)) (fun b hb => by rw [eX7, znX_r (by omega), znX_r (by omega), znX_r (by omega)])) (fun x x0 x6 x7 x1 x2 x3 x4 => absurd x3 (by omega))
  have gV1 := fV1.1
  have kV1 := fV1.2.1
  rw [← eV1]
  have nV1 : zrx V1 (t + 8) = fun _ => -1 := by rw [eV1, ← zU4, znG_rs]
  have b0 : zrx V1 (t + 0) = (zup (zup (zup (fun _ => -1) 0 (t + 1)) 1 (t + 6)) 2 (t + 7)) := by rw [eV1, znG_r (by omega), eU4, zrs_f, eU3, znG_rn zG6 (by decide), eG6, zrs_f, eU2, znG_rn zU1 (by decide), eU1, zrs_f, a5]
  have b6 : zrx V1 (t + 6) = fun _ => -1 := by rw [eV1, znG_r (by omega), eU4, zrs_gn (by decide), eU3, znG_rn zG6 (by decide), eG6, zrs_gn (by decide), eU2, ← zU1, znG_rs]
  have b7 : zrx V1 (t + 7) = fun _ => -1 := by rw [eV1, znG_r (by omega), eU4, zrs_gn (by decide), eU3, ← zG6, znG_rs]
  refine ⟨zFn_k fV1 (by omega) (by omega) (by decide +kernel), zsz V1 + 6, ztt V1 + 716, by omega, by omega, by omega, by omega, spI fV1 t0 nV1 rfl rfl (fun G12 X9 c12 s12 f12 r12 => ?_)⟩
  have gG12 := f12.1
  have kG12 := f12.2.1
  have fG12 := f12
  have d0 : zrx G12 (t + 0) = (zup (zup (zup (fun _ => -1) 0 (t + 1)) 1 (t + 6)) 2 (t + 7)) := (r12 _ (by omega)).trans b0
  have d6 : zrx G12 (t + 6) = fun _ => -1 := (r12 _ (by omega)).trans b6
  have d7 : zrx G12 (t + 7) = fun _ => -1 := (r12 _ (by omega)).trans b7
  obtain ⟨W1, eW1⟩ : ∃ HH : zG, HH = zrs G12 (t + 0) 3 (t + 8) := ⟨_, rfl⟩
  have fW1 : zFn G0 X0 W1 X9 t 15 (s + 11 + 526 + 5 + 10 + 9 + 716) 15 := by rw [eW1]; exact zFn_ref (i := 0) fG12 rfl (by omega) (by omega)
  have gW1 := fW1.1
  have kW1 := fW1.2.1
  rw [← eW1]
  have zW1 : (zsz W1 : Int) = t + 15 := by have := fW1.1; omega
  rw [zW1]
  refine ⟨c12, s12, rfl, zFn_k fG12 (by omega) (by omega) k0, by omega, by omega, by omega, by omega, fun X13 eX13 G14 eG14 r15 er15 => ?_⟩
  subst er15
  have fG14 : zFn G0 X0 G14 X9 t 16 (s + 11 + 526 + 5 + 10 + 9 + 716 + 16) 15 := by rw [eG14]; exact zFn_nx fW1 (by omega) (by omega) (by decide +kernel) (by decide +kernel)
  have gG14 := fG14.1
  have kG14 := fG14.2.1
  obtain ⟨W2, eW2⟩ : ∃ HH : zG, HH = zrs G14 (t + 0) 4 (t + 15) := ⟨_, rfl⟩
  have fW2 : zFn G0 X0 W2 X9 t 16 (s + 11 + 526 + 5 + 10 + 9 + 716 + 16) 15 := by rw [eW2]; exact zFn_ref (i := 0) fG14 rfl (by omega) (by omega)
  have gW2 := fW2.1
  have kW2 := fW2.2.1
  rw [← eW2]
  have zW2 : (zsz W2 : Int) = t + 16 := by have := fW2.1; omega
  rw [zW2]
  obtain ⟨W3, eW3⟩ : ∃ HH : zG, HH = znG W2 50 16 16 := ⟨_, rfl⟩
  have fW3 : zFn G0 X0 W3 X9 t 17 (s + 11 + 526 + 5 + 10 + 9 + 716 + 16 + 16) 15 := by rw [eW3]; exact zFn_nx fW2 (by omega) (by omega) (by decide +kernel) (by decide +kernel)
  have gW3 := fW3.1
  have kW3 := fW3.2.1
  rw [← eW3]
  obtain ⟨W4, eW4⟩ : ∃ HH : zG, HH = zrs W3 (t + 0) 5 (t + 16) := ⟨_, rfl⟩
  have fW4 : zFn G0 X0 W4 X9 t 17 (s + 11 + 526 + 5 + 10 + 9 + 716 + 16 + 16) 15 := by rw [eW4]; exact zFn_ref (i := 0) fW3 rfl (by omega) (by omega)
  have gW4 := fW4.1
  have kW4 := fW4.2.1
  rw [← eW4]
  have zW4 : (zsz W4 : Int) = t + 17 := by have := fW4.1; omega
  rw [zW4]
  refine ⟨zFn_k fG14 (by omega) (by omega) k0, by omega, by omega, zFn_k fW3 (by omega) (by omega) k0, by omega, by omega, fun X16 eX16 G17 eG17 r18 er18 => ?_⟩
  subst er18
  have fG17 : zFn G0 X0 G17 X9 t 18 (s + 11 + 526 + 5 + 10 + 9 + 716 + 16 + 16 + 16) 15 := by rw [eG17]; exact zFn_nx fW4 (by omega) (by omega) (by decide +kernel) (by decide +kernel)
  have gG17 := fG17.1
  have kG17 := fG17.2.1
  obtain ⟨W5, eW5⟩ : ∃ HH : zG, HH = zrs G17 (t + 0) 6 (t + 17) := ⟨_, rfl⟩
  have fW5 : zFn G0 X0 W5 X9 t 18 (s + 11 + 526 + 5 + 10 + 9 + 716 + 16 + 16 + 16) 15 := by rw [eW5]; exact zFn_ref (i := 0) fG17 rfl (by omega) (by omega)
  have gW5 := fW5.1
  have kW5 := fW5.2.1
  rw [← eW5]
  have zW5 : (zsz W5 : Int) = t + 18 := by have := fW5.1; omega
  rw [zW5]
  obtain ⟨W6, eW6⟩ : ∃ HH : zG, HH = znG W5 50 8 8 := ⟨_, rfl⟩
  have fW6 : zFn G0 X0 W6 X9 t 19 (s + 11 + 526 + 5 + 10 + 9 + 716 + 16 + 16 + 16 + 8) 15 := by rw [eW6]; exact zFn_nx fW5 (by omega) (by omega) (by decide +kernel) (by decide +kernel)
  have gW6 := fW6.1
  have kW6 := fW6.2.1
  rw [← eW6]
  have l18 : zln W6 (t + 18) = 8 := zFn_l fW6 (by omega) (by omega) (by decide +kernel)
  rw [l18]
  refine ⟨zFn_k fG17 (by omega) (by omega) k0, by omega, by omega, by omega, by omega, zFn_k fW6 (by omega) (by omega) (by decide +kernel), by omega, by omega, by omega, by omega, fun X19 eX19 => ⟨by omega, by omega, by omega, by omega, by omega, by omega, fun X20 eX20 => ⟨by omega, by omega, by omega, by omega, by omega, fun X21 eX21 => ?_⟩⟩⟩
  obtain ⟨W7, eW7⟩ : ∃ HH : zG, HH = zrs W6 (t + 0) 7 (t + 18) := ⟨_, rfl⟩
  have fW7 : zFn G0 X0 W7 X9 t 19 (s + 11 + 526 + 5 + 10 + 9 + 716 + 16 + 16 + 16 + 8) 15 := by rw [eW7]; exact zFn_ref (i := 0) fW6 rfl (by omega) (by omega)
  have gW7 := fW7.1
  have kW7 := fW7.2.1
  rw [← eW7]
  have zW7 : (zsz W7 : Int) = t + 19 := by have := fW7.1; omega
  rw [zW7]
  refine ⟨zFn_k fW6 (by omega) (by omega) k0, by omega, by omega, by omega, by omega, fun X22 eX22 G23 eG23 r24 er24 => ?_⟩
  subst er24
  have fG23 : zFn G0 X0 G23 X9 t 20 (s + 11 + 526 + 5 + 10 + 9 + 716 + 16 + 16 + 16 + 8 + 1296) 15 := by rw [eG23]; exact zFn_nx fW7 (by omega) (by omega) (by decide +kernel) (by decide +kernel)
  have gG23 := fG23.1
  have kG23 := fG23.2.1
  obtain ⟨W8, eW8⟩ : ∃ HH : zG, HH = zrs G23 (t + 0) 8 (t + 19) := ⟨_, rfl⟩
  have fW8 : zFn G0 X0 W8 X9 t 20 (s + 11 + 526 + 5 + 10 + 9 + 716 + 16 + 16 + 16 + 8 + 1296) 15 := by rw [eW8]; exact zFn_ref (i := 0) fG23 rfl (by omega) (by omega)
  have gW8 := fW8.1
  have kW8 := fW8.2.1
  rw [← eW8]
  have zW8 : (zsz W8 : Int) = t + 20 := by have := fW8.1; omega
  rw [zW8]
  obtain ⟨W9, eW9⟩ : ∃ HH : zG, HH = znG W8 50 10 10 := ⟨_, rfl⟩
  have fW9 : zFn G0 X0 W9 X9 t 21 (s + 11 + 526 + 5 + 10 + 9 + 716 + 16 + 16 + 16 + 8 + 1296 + 10) 15 := by rw [eW9]; exact zFn_nx fW8 (by omega) (by omega) (by decide +kernel) (by decide +kernel)
  have gW9 := fW9.1
  have kW9 := fW9.2.1
  rw [← eW9]
  obtain ⟨W10, eW10⟩ : ∃ HH : zG, HH = zrs W9 (t + 0) 9 (t + 20) := ⟨_, rfl⟩
  have fW10 : zFn G0 X0 W10 X9 t 21 (s + 11 + 526 + 5 + 10 + 9 + 716 + 16 + 16 + 16 + 8 + 1296 + 10) 15 := by rw [eW10]; exact zFn_ref (i := 0) fW9 rfl (by omega) (by omega)
  have gW10 := fW10.1
  have kW10 := fW10.2.1
  rw [← eW10]
  have zW10 : (zsz W10 : Int) = t + 21 := by have := fW10.1; omega
  rw [zW10]
  refine ⟨zFn_k fG23 (by omega) (by omega) k0, by omega, by omega, zFn_k fW9 (by omega) (by omega) k0, by omega, by omega, fun X25 eX25 G26 eG26 r27 er27 => ?_⟩
  subst er27
  have fG26 : zFn G0 X0 G26 X9 t 22 (s + 11 + 526 + 5 + 10 + 9 + 716 + 16 + 16 + 16 + 8 + 1296 + 10 + 10) 15 := by rw [eG26]; exact zFn_nx fW10 (by omega) (by omega) (by decide +kernel) (by decide +kernel)
  have gG26 := fG26.1
  have kG26 := fG26.2.1
  obtain ⟨W11, eW11⟩ : ∃ HH : zG, HH = zrs G26 (t + 0) 10 (t + 21) := ⟨_, rfl⟩
  have fW11 : zFn G0 X0 W11 X9 t 22 (s + 11 + 526 + 5 + 10 + 9 + 716 + 16 + 16 + 16 + 8 + 1296 + 10 + 10) 15 := by rw [eW11]; exact zFn_ref (i := 0) fG26 rfl (by omega) (by omega)
  have gW11 := fW11.1
  have kW11 := fW11.2.1
  rw [← eW11]
  refine ⟨zFn_k fG26 (by omega) (by omega) k0, zFn_k fW11 (by omega) (by omega) k0, ?_⟩
  have f9 := zFn_fin (m2 := 22) fW11 (fun x x0 x6 x7 x1 x2 x3 x4 j j0 hd => ?_)
  · refine q _ _ (zFn_X (X := X9) ?_ (fun b hb => ?_)) ?_ ?_ ?_
    · rw [show s + 2649 = s + 11 + 526 + 5 + 10 + 9 + 716 + 16 + 16 + 16 + 8 + 1296 + 10 + 10 by omega]
      exact f9
    · rw [zrd_r (by omega), zrd_r (by omega), zrd_r (by omega), eX25, znX_r (by omega), znX_r (by omega), eX22, znX_r (by omega), eX21, zrd_r (by omega), zrd_r (by omega), zrd_r (by omega), eX20, zrd_r (by omega), zrd_r (by omega), zrd_r (by omega), eX19, zrd_r (by omega), zrd_r (by omega), znX_r (by omega), eX16, znX_r (by omega), znX_r (by omega), eX13, znX_r (by omega)]
    · rw [eW11, zrs_f, eG26, znG_rn zW10 (by decide), eW10, zrs_f, eW9, znG_rn zW8 (by decide), eW8, zrs_f, eG23, znG_rn zW7 (by decide), eW7, zrs_f, eW6, znG_rn zW5 (by decide), eW5, zrs_f, eG17, znG_rn zW4 (by decide), eW4, zrs_f, eW3, znG_rn zW2 (by decide), eW2, zrs_f, eG14, znG_rn zW1 (by decide), eW1, zrs_f, d0]
    · rw [eW11, zrs_gn (by decide), eG26, znG_rn zW10 (by decide), eW10, zrs_gn (by decide), eW9, znG_rn zW8 (by decide), eW8, zrs_gn (by decide), eG23, znG_rn zW7 (by decide), eW7, zrs_gn (by decide), eW6, znG_rn zW5 (by decide), eW5, zrs_gn (by decide), eG17, znG_rn zW4 (by decide), eW4, zrs_gn (by decide), eW3, znG_rn zW2 (by decide), eW2, zrs_gn (by decide), eG14, znG_rn zW1 (by decide), eW1, zrs_gn (by decide), d6]
    · rw [eW11, zrs_gn (by decide), eG26, znG_rn zW10 (by decide), eW10, zrs_gn (by decide), eW9, znG_rn zW8 (by decide), eW8, zrs_gn (by decide), eG23, znG_rn zW7 (by decide), eW7, zrs_gn (by decide), eW6, znG_rn zW5 (by decide), eW5, zrs_gn (by decide), eG17, znG_rn zW4 (by decide), eW4, zrs_gn (by decide), eW3, znG_rn zW2 (by decide), eW2, zrs_gn (by decide), eG14, znG_rn zW1 (by decide), eW1, zrs_gn (by decide), d7]
  · rcases (by omega : x = 15 ∨ x = 16 ∨ x = 17 ∨ x = 18 ∨ x = 19 ∨ x = 20 ∨ x = 21) with c | c | c | c | c | c | c
    · rw [c, eW11, zrs_gn (by decide), eG26, znG_rn zW10 (by decide), eW10, zrs_gn (by decide), eW9, znG_rn zW8 (by decide), eW8, zrs_gn (by decide), eG23, znG_rn zW7 (by decide), eW7, zrs_gn (by decide), eW6, znG_rn zW5 (by decide), eW5, zrs_gn (by decide), eG17, znG_rn zW4 (by decide), eW4, zrs_gn (by decide), eW3, znG_rn zW2 (by decide), eW2, zrs_gn (by decide), eG14, ← zW1, znG_rs]
      exact zIa (zr0_ar (by omega) (by omega) (by decide +kernel)) rfl
    · rw [c, eW11, zrs_gn (by decide), eG26, znG_rn zW10 (by decide), eW10, zrs_gn (by decide), eW9, znG_rn zW8 (by decide), eW8, zrs_gn (by decide), eG23, znG_rn zW7 (by decide), eW7, zrs_gn (by decide), eW6, znG_rn zW5 (by decide), eW5, zrs_gn (by decide), eG17, znG_rn zW4 (by decide), eW4, zrs_gn (by decide), eW3, ← zW2, znG_rs]
      exact zIa (zr0_ar (by omega) (by omega) (by decide +kernel)) rfl
    · rw [c, eW11, zrs_gn (by decide), eG26, znG_rn zW10 (by decide), eW10, zrs_gn (by decide), eW9, znG_rn zW8 (by decide), eW8, zrs_gn (by decide), eG23, znG_rn zW7 (by decide), eW7, zrs_gn (by decide), eW6, znG_rn zW5 (by decide), eW5, zrs_gn (by decide), eG17, ← zW4, znG_rs]
      exact zIa (zr0_ar (by omega) (by omega) (by decide +kernel)) rfl
    · rw [c, eW11, zrs_gn (by decide), eG26, znG_rn zW10 (by decide), eW10, zrs_gn (by decide), eW9, znG_rn zW8 (by decide), eW8, zrs_gn (by decide), eG23, znG_rn zW7 (by decide), eW7, zrs_gn (by decide), eW6, ← zW5, znG_rs]
      exact zIa (zr0_ar (by omega) (by omega) (by decide +kernel)) rfl
    · rw [c, eW11, zrs_gn (by decide), eG26, znG_rn zW10 (by decide), eW10, zrs_gn (by decide), eW9, znG_rn zW8 (by decide), eW8, zrs_gn (by decide), eG23, ← zW7, znG_rs]
      exact zIa (zr0_ar (by omega) (by omega) (by decide +kernel)) rfl
    · rw [c, eW11, zrs_gn (by decide), eG26, znG_rn zW10 (by decide), eW10, zrs_gn (by decide), eW9, ← zW8, znG_rs]
      exact zIa (zr0_ar (by omega) (by omega) (by decide +kernel)) rfl
    · rw [c, eW11, zrs_gn (by decide), eG26, ← zW10, znG_rs]
      exact zIa (zr0_ar (by omega) (by omega) (by decide +kernel)) rfl
