/-! ===== what is told, made anew: all of it (wip/whole/gen_init.py) ===== -/
theorem zFn_X {G0 G : zG} {X0 X Y : zX} {t n m : Int} {s : Nat} (h : zFn G0 X0 G X t n s m) (f : ∀ b : Int, b < t → Y b = X b) : zFn G0 X0 G Y t n s m := by
  obtain ⟨h1, h2, h3, h4⟩ := h
  exact ⟨h1, h2, fun b hb => ⟨(h3 b hb).1, (h3 b hb).2.1, (h3 b hb).2.2.1, (f b hb).trans (h3 b hb).2.2.2⟩, h4⟩
theorem zFn_nx {G0 G : zG} {X0 X : zX} {t n m k l : Int} {s c : Nat} (h : zFn G0 X0 G X t n s m) (n0 : 0 ≤ n) (mn : m ≤ n) (hk : zk0 (1 + n) = k) (hl : zl0 (1 + n) = l) : zFn G0 X0 (znG G k l c) X t (n + 1) (s + c) m :=
  zFn_X (zFn_new h n0 mn hk hl) (fun b hb => by have := h.1; rw [znX_r (by omega)])
set_option maxHeartbeats 4000000 in
theorem to157 {LC LS : Nat} {Q : List zV → zG → zX → Prop} {G0 G : zG} {X0 X : zX} {t : Int} {s : Nat} (h : zFn G0 X0 G X t 1 s 1) (t0 : 0 ≤ t) (fr : zrx G (t + 0) = fun _ => -1) (hC : zsz G + 101 = LC) (hS : ztt G + 5249 = LS) (q : ∀ (G2 : zG) (X2 : zX), zFn G0 X0 G2 X2 t 22 (s + 2649) 22 → zrx G2 (t + 0) = (zup (zup (zup (zup (zup (zup (zup (zup (zup (zup (zup (fun _ => -1) 0 (t + 1)) 1 (t + 6)) 2 (t + 7)) 3 (t + 8)) 4 (t + 15)) 5 (t + 16)) 6 (t + 17)) 7 (t + 18)) 8 (t + 19)) 9 (t + 20)) 10 (t + 21)) → zrx G2 (t + 6) = (fun _ => -1) → zrx G2 (t + 7) = (fun _ => -1) → To_init_W LC LS Q 157 [zR (t + 0), zI 0] [] G2 X2) : To_init LC LS [zR (t + 0)] G X Q := by
  have h1 : (zsz G : Int) = t + 1 := h.1
  have h2 := h.2.1
  have k0 : zk0 (1 + 0) = 1 := by decide +kernel
  have fT1 : zFn G0 X0 (znG G 2 0 11) (znX G X) t 2 (s + 11) 1 := zFn_new h (by omega) (by omega) (by decide +kernel) (by decide +kernel)
  have gT1 := fT1.1
  have kT1 := fT1.2.1
  have nT1 : zrx (znG G 2 0 11) (t + 1) = fun _ => -1 := by rw [← h1, znG_rs]
  have kk1 : zkd (znG G 2 0 11) (zsz G : Int) = 2 := by rw [h1]; exact zFn_k fT1 (by omega) (by omega) (by decide +kernel)
  refine To_init_e0 ⟨by omega, by omega, by omega, kk1, zsz (znG G 2 0 11) + 4, ztt (znG G 2 0 11) + 526, by omega, by omega, by omega, by omega, ?_⟩
  rw [show Ta_init (zsz (znG G 2 0 11) + 4) (ztt (znG G 2 0 11) + 526) [zR (zsz G : Int)] = Ta_init (zsz (znG G 2 0 11) + 4) (ztt (znG G 2 0 11) + 526) [zR (t + 1)] by rw [h1]]
  refine taI fT1 t0 nT1 rfl rfl (fun G5 X2 c5 s5 f5 r5 => ?_)
  have gG5 := f5.1
  have kG5 := f5.2.1
  have fG5 := f5
  have a5 : zrx G5 (t + 0) = fun _ => -1 := by rw [r5 _ (by omega), znG_r (by omega), fr]
  have fU1 : zFn G0 X0 (zrs G5 (t + 0) 0 (zsz G : Int)) X2 t 6 (s + 11 + 526) 6 := zFn_ref (i := 0) fG5 rfl (by omega) (by omega)
  have gU1 := fU1.1
  have kU1 := fU1.2.1
  have zU1 : (zsz (zrs G5 (t + 0) 0 (zsz G : Int)) : Int) = t + 6 := by have := fU1.1; omega
  have fU2 : zFn G0 X0 (znG (zrs G5 (t + 0) 0 (zsz G : Int)) 55 5 (Int.toNat 5)) X2 t 7 (s + 11 + 526 + 5) 6 := zFn_nx fU1 (by omega) (by omega) (by decide +kernel) (by decide +kernel)
  have gU2 := fU2.1
  have kU2 := fU2.2.1
  refine ⟨c5, s5, rfl, zFn_k fG5 (by omega) (by omega) k0, by omega, by omega, by omega, by rw [show Int.toNat 5 = 5 from rfl]; omega, zFn_k fU2 (by omega) (by omega) k0, fun G6 eG6 => ?_⟩
  have fU3 : zFn G0 X0 G6 X2 t 7 (s + 11 + 526 + 5) 6 := by rw [eG6]; exact zFn_ref (i := 0) fU2 rfl (by omega) (by omega)
  have gU3 := fU3.1
  have kU3 := fU3.2.1
  have zU3 : (zsz G6 : Int) = t + 7 := by have := fU3.1; omega
  have fU4 : zFn G0 X0 (znG G6 56 10 (Int.toNat 10)) X2 t 8 (s + 11 + 526 + 5 + 10) 6 := zFn_nx fU3 (by omega) (by omega) (by decide +kernel) (by decide +kernel)
  have gU4 := fU4.1
  have kU4 := fU4.2.1
  have fU5 : zFn G0 X0 (zrs (znG G6 56 10 (Int.toNat 10)) (t + 0) 2 (zsz G6 : Int)) X2 t 8 (s + 11 + 526 + 5 + 10) 6 := zFn_ref (i := 0) fU4 rfl (by omega) (by omega)
  have gU5 := fU5.1
  have kU5 := fU5.2.1
  refine ⟨by omega, by omega, by omega, by rw [show Int.toNat 10 = 10 from rfl]; omega, zFn_k fU4 (by omega) (by omega) k0, by omega, by omega, fun X7 eX7 => ?_⟩
  have zU5 : (zsz (zrs (znG G6 56 10 (Int.toNat 10)) (t + 0) 2 (zsz G6 : Int)) : Int) = t + 8 := by have := fU5.1; omega
  have fV1 : zFn G0 X0 (znG (zrs (znG G6 56 10 (Int.toNat 10)) (t + 0) 2 (zsz G6 : Int)) 6 0 9) X7 t 9 (s + 11 + 526 + 5 + 10 + 9) 8 := zFn_fin (zFn_X (zFn_nx fU5 (by omega) (by omega) (by decide +kernel) (by decide +kernel)) (fun b hb => by rw [eX7, znX_r (by omega), znX_r (by omega), znX_r (by omega)])) (fun x x0 x6 x7 x1 x2 x3 x4 => absurd x3 (by omega))
  have gV1 := fV1.1
  have kV1 := fV1.2.1
  have nV1 : zrx (znG (zrs (znG G6 56 10 (Int.toNat 10)) (t + 0) 2 (zsz G6 : Int)) 6 0 9) (t + 8) = fun _ => -1 := by rw [← zU5, znG_rs]
  have b0 : zrx (znG (zrs (znG G6 56 10 (Int.toNat 10)) (t + 0) 2 (zsz G6 : Int)) 6 0 9) (t + 0) = (zup (zup (zup (fun _ => -1) 0 (t + 1)) 1 (t + 6)) 2 (t + 7)) := by rw [znG_rn zU5 (by decide), zrs_f, zU3, znG_rn zU3 (by decide), eG6, zrs_f, zU1, znG_rn zU1 (by decide), zrs_f, h1, a5]
  have b6 : zrx (znG (zrs (znG G6 56 10 (Int.toNat 10)) (t + 0) 2 (zsz G6 : Int)) 6 0 9) (t + 6) = fun _ => -1 := by rw [znG_rn zU5 (by decide), zrs_gn (by decide), znG_rn zU3 (by decide), eG6, zrs_gn (by decide), ← zU1, znG_rs]
  have b7 : zrx (znG (zrs (znG G6 56 10 (Int.toNat 10)) (t + 0) 2 (zsz G6 : Int)) 6 0 9) (t + 7) = fun _ => -1 := by rw [znG_rn zU5 (by decide), zrs_gn (by decide), ← zU3, znG_rs]
  have kk8 : zkd (znG (zrs (znG G6 56 10 (Int.toNat 10)) (t + 0) 2 (zsz G6 : Int)) 6 0 9) (zsz (zrs (znG G6 56 10 (Int.toNat 10)) (t + 0) 2 (zsz G6 : Int)) : Int) = 6 := by rw [zU5]; exact zFn_k fV1 (by omega) (by omega) (by decide +kernel)
  refine ⟨kk8, zsz (znG (zrs (znG G6 56 10 (Int.toNat 10)) (t + 0) 2 (zsz G6 : Int)) 6 0 9) + 6, ztt (znG (zrs (znG G6 56 10 (Int.toNat 10)) (t + 0) 2 (zsz G6 : Int)) 6 0 9) + 716, by omega, by omega, by omega, by omega, ?_⟩
  rw [show Sp_init (zsz (znG (zrs (znG G6 56 10 (Int.toNat 10)) (t + 0) 2 (zsz G6 : Int)) 6 0 9) + 6) (ztt (znG (zrs (znG G6 56 10 (Int.toNat 10)) (t + 0) 2 (zsz G6 : Int)) 6 0 9) + 716) [zR (zsz (zrs (znG G6 56 10 (Int.toNat 10)) (t + 0) 2 (zsz G6 : Int)) : Int)] = Sp_init (zsz (znG (zrs (znG G6 56 10 (Int.toNat 10)) (t + 0) 2 (zsz G6 : Int)) 6 0 9) + 6) (ztt (znG (zrs (znG G6 56 10 (Int.toNat 10)) (t + 0) 2 (zsz G6 : Int)) 6 0 9) + 716) [zR (t + 8)] by rw [zU5]]
  refine spI fV1 t0 nV1 rfl rfl (fun G12 X9 c12 s12 f12 r12 => ?_)
  have gG12 := f12.1
  have kG12 := f12.2.1
  have fG12 := f12
  have d0 : zrx G12 (t + 0) = (zup (zup (zup (fun _ => -1) 0 (t + 1)) 1 (t + 6)) 2 (t + 7)) := (r12 _ (by omega)).trans b0
  have d6 : zrx G12 (t + 6) = fun _ => -1 := (r12 _ (by omega)).trans b6
  have d7 : zrx G12 (t + 7) = fun _ => -1 := (r12 _ (by omega)).trans b7
  clear b0 b6 b7 nV1 a5 r5 r12 nT1
  have fW1 : zFn G0 X0 (zrs G12 (t + 0) 3 (zsz (zrs (znG G6 56 10 (Int.toNat 10)) (t + 0) 2 (zsz G6 : Int)) : Int)) X9 t 15 (s + 11 + 526 + 5 + 10 + 9 + 716) 15 := zFn_ref (i := 0) fG12 rfl (by omega) (by omega)
  have gW1 := fW1.1
  have kW1 := fW1.2.1
  have zW1 : (zsz (zrs G12 (t + 0) 3 (zsz (zrs (znG G6 56 10 (Int.toNat 10)) (t + 0) 2 (zsz G6 : Int)) : Int)) : Int) = t + 15 := by have := fW1.1; omega
  refine ⟨c12, s12, rfl, zFn_k fG12 (by omega) (by omega) k0, by omega, by omega, by omega, by rw [show Int.toNat 16 = 16 from rfl]; omega, fun X13 eX13 G14 eG14 r15 er15 => ?_⟩
  have zW1 : (zsz (zrs G12 (t + 0) 3 (zsz (zrs (znG G6 56 10 (Int.toNat 10)) (t + 0) 2 (zsz G6 : Int)) : Int)) : Int) = t + 15 := by have := fW1.1; omega
  have fW2 : zFn G0 X0 G14 X9 t 16 (s + 11 + 526 + 5 + 10 + 9 + 716 + 16) 15 := by rw [eG14]; exact zFn_nx fW1 (by omega) (by omega) (by decide +kernel) (by decide +kernel)
  have gW2 := fW2.1
  have kW2 := fW2.2.1
  have er15b : r15 = t + 15 := er15.trans zW1
  have fW3 : zFn G0 X0 (zrs G14 (t + 0) 4 r15) X9 t 16 (s + 11 + 526 + 5 + 10 + 9 + 716 + 16) 15 := zFn_ref (i := 0) fW2 rfl (by omega) (by omega)
  have gW3 := fW3.1
  have kW3 := fW3.2.1
  have zW3 : (zsz (zrs G14 (t + 0) 4 r15) : Int) = t + 16 := by have := fW3.1; omega
  have fW4 : zFn G0 X0 (znG (zrs G14 (t + 0) 4 r15) 50 16 (Int.toNat 16)) X9 t 17 (s + 11 + 526 + 5 + 10 + 9 + 716 + 16 + 16) 15 := zFn_nx fW3 (by omega) (by omega) (by decide +kernel) (by decide +kernel)
  have gW4 := fW4.1
  have kW4 := fW4.2.1
  have fW5 : zFn G0 X0 (zrs (znG (zrs G14 (t + 0) 4 r15) 50 16 (Int.toNat 16)) (t + 0) 5 (zsz (zrs G14 (t + 0) 4 r15) : Int)) X9 t 17 (s + 11 + 526 + 5 + 10 + 9 + 716 + 16 + 16) 15 := zFn_ref (i := 0) fW4 rfl (by omega) (by omega)
  have gW5 := fW5.1
  have kW5 := fW5.2.1
  have zW5 : (zsz (zrs (znG (zrs G14 (t + 0) 4 r15) 50 16 (Int.toNat 16)) (t + 0) 5 (zsz (zrs G14 (t + 0) 4 r15) : Int)) : Int) = t + 17 := by have := fW5.1; omega
  refine ⟨zFn_k fW2 (by omega) (by omega) k0, by omega, by rw [show Int.toNat 16 = 16 from rfl]; omega, zFn_k fW4 (by omega) (by omega) k0, by omega, by rw [show Int.toNat 16 = 16 from rfl]; omega, fun X16 eX16 G17 eG17 r18 er18 => ?_⟩
  have zW5 : (zsz (zrs (znG (zrs G14 (t + 0) 4 r15) 50 16 (Int.toNat 16)) (t + 0) 5 (zsz (zrs G14 (t + 0) 4 r15) : Int)) : Int) = t + 17 := by have := fW5.1; omega
  have fW6 : zFn G0 X0 G17 X9 t 18 (s + 11 + 526 + 5 + 10 + 9 + 716 + 16 + 16 + 16) 15 := by rw [eG17]; exact zFn_nx fW5 (by omega) (by omega) (by decide +kernel) (by decide +kernel)
  have gW6 := fW6.1
  have kW6 := fW6.2.1
  have er18b : r18 = t + 17 := er18.trans zW5
  have fW7 : zFn G0 X0 (zrs G17 (t + 0) 6 r18) X9 t 18 (s + 11 + 526 + 5 + 10 + 9 + 716 + 16 + 16 + 16) 15 := zFn_ref (i := 0) fW6 rfl (by omega) (by omega)
  have gW7 := fW7.1
  have kW7 := fW7.2.1
  have zW7 : (zsz (zrs G17 (t + 0) 6 r18) : Int) = t + 18 := by have := fW7.1; omega
  have fW8 : zFn G0 X0 (znG (zrs G17 (t + 0) 6 r18) 50 8 (Int.toNat 8)) X9 t 19 (s + 11 + 526 + 5 + 10 + 9 + 716 + 16 + 16 + 16 + 8) 15 := zFn_nx fW7 (by omega) (by omega) (by decide +kernel) (by decide +kernel)
  have gW8 := fW8.1
  have kW8 := fW8.2.1
  have kk18 : zkd (znG (zrs G17 (t + 0) 6 r18) 50 8 (Int.toNat 8)) (zsz (zrs G17 (t + 0) 6 r18) : Int) = 50 := by rw [zW7]; exact zFn_k fW8 (by omega) (by omega) (by decide +kernel)
  have l18 : zln (znG (zrs G17 (t + 0) 6 r18) 50 8 (Int.toNat 8)) (zsz (zrs G17 (t + 0) 6 r18) : Int) = 8 := by rw [zW7]; exact zFn_l fW8 (by omega) (by omega) (by decide +kernel)
  refine ⟨zFn_k fW6 (by omega) (by omega) k0, by omega, by omega, by omega, by rw [show Int.toNat 8 = 8 from rfl]; omega, kk18, by omega, by rw [l18]; omega, by omega, by rw [l18]; omega, fun X19 eX19 => ⟨by omega, by rw [l18]; omega, by omega, by rw [l18]; omega, by omega, by rw [l18]; omega, fun X20 eX20 => ⟨by rw [l18]; omega, by omega, by rw [l18]; omega, by omega, by rw [l18]; omega, fun X21 eX21 => ?_⟩⟩⟩
  have fW9 : zFn G0 X0 (zrs (znG (zrs G17 (t + 0) 6 r18) 50 8 (Int.toNat 8)) (t + 0) 7 (zsz (zrs G17 (t + 0) 6 r18) : Int)) X9 t 19 (s + 11 + 526 + 5 + 10 + 9 + 716 + 16 + 16 + 16 + 8) 15 := zFn_ref (i := 0) fW8 rfl (by omega) (by omega)
  have gW9 := fW9.1
  have kW9 := fW9.2.1
  have zW9 : (zsz (zrs (znG (zrs G17 (t + 0) 6 r18) 50 8 (Int.toNat 8)) (t + 0) 7 (zsz (zrs G17 (t + 0) 6 r18) : Int)) : Int) = t + 19 := by have := fW9.1; omega
  refine ⟨zFn_k fW8 (by omega) (by omega) k0, by omega, by omega, by omega, by rw [show Int.toNat 1296 = 1296 from rfl]; omega, fun X22 eX22 G23 eG23 r24 er24 => ?_⟩
  have zW9 : (zsz (zrs (znG (zrs G17 (t + 0) 6 r18) 50 8 (Int.toNat 8)) (t + 0) 7 (zsz (zrs G17 (t + 0) 6 r18) : Int)) : Int) = t + 19 := by have := fW9.1; omega
  have fW10 : zFn G0 X0 G23 X9 t 20 (s + 11 + 526 + 5 + 10 + 9 + 716 + 16 + 16 + 16 + 8 + 1296) 15 := by rw [eG23]; exact zFn_nx fW9 (by omega) (by omega) (by decide +kernel) (by decide +kernel)
  have gW10 := fW10.1
  have kW10 := fW10.2.1
  have er24b : r24 = t + 19 := er24.trans zW9
  have fW11 : zFn G0 X0 (zrs G23 (t + 0) 8 r24) X9 t 20 (s + 11 + 526 + 5 + 10 + 9 + 716 + 16 + 16 + 16 + 8 + 1296) 15 := zFn_ref (i := 0) fW10 rfl (by omega) (by omega)
  have gW11 := fW11.1
  have kW11 := fW11.2.1
  have zW11 : (zsz (zrs G23 (t + 0) 8 r24) : Int) = t + 20 := by have := fW11.1; omega
  have fW12 : zFn G0 X0 (znG (zrs G23 (t + 0) 8 r24) 50 10 (Int.toNat 10)) X9 t 21 (s + 11 + 526 + 5 + 10 + 9 + 716 + 16 + 16 + 16 + 8 + 1296 + 10) 15 := zFn_nx fW11 (by omega) (by omega) (by decide +kernel) (by decide +kernel)
  have gW12 := fW12.1
  have kW12 := fW12.2.1
  have fW13 : zFn G0 X0 (zrs (znG (zrs G23 (t + 0) 8 r24) 50 10 (Int.toNat 10)) (t + 0) 9 (zsz (zrs G23 (t + 0) 8 r24) : Int)) X9 t 21 (s + 11 + 526 + 5 + 10 + 9 + 716 + 16 + 16 + 16 + 8 + 1296 + 10) 15 := zFn_ref (i := 0) fW12 rfl (by omega) (by omega)
  have gW13 := fW13.1
  have kW13 := fW13.2.1
  have zW13 : (zsz (zrs (znG (zrs G23 (t + 0) 8 r24) 50 10 (Int.toNat 10)) (t + 0) 9 (zsz (zrs G23 (t + 0) 8 r24) : Int)) : Int) = t + 21 := by have := fW13.1; omega
  refine ⟨zFn_k fW10 (by omega) (by omega) k0, by omega, by rw [show Int.toNat 10 = 10 from rfl]; omega, zFn_k fW12 (by omega) (by omega) k0, by omega, by rw [show Int.toNat 10 = 10 from rfl]; omega, fun X25 eX25 G26 eG26 r27 er27 => ?_⟩
  have zW13 : (zsz (zrs (znG (zrs G23 (t + 0) 8 r24) 50 10 (Int.toNat 10)) (t + 0) 9 (zsz (zrs G23 (t + 0) 8 r24) : Int)) : Int) = t + 21 := by have := fW13.1; omega
  have fW14 : zFn G0 X0 G26 X9 t 22 (s + 11 + 526 + 5 + 10 + 9 + 716 + 16 + 16 + 16 + 8 + 1296 + 10 + 10) 15 := by rw [eG26]; exact zFn_nx fW13 (by omega) (by omega) (by decide +kernel) (by decide +kernel)
  have gW14 := fW14.1
  have kW14 := fW14.2.1
  have er27b : r27 = t + 21 := er27.trans zW13
  have fW15 : zFn G0 X0 (zrs G26 (t + 0) 10 r27) X9 t 22 (s + 11 + 526 + 5 + 10 + 9 + 716 + 16 + 16 + 16 + 8 + 1296 + 10 + 10) 15 := zFn_ref (i := 0) fW14 rfl (by omega) (by omega)
  have gW15 := fW15.1
  have kW15 := fW15.2.1
  refine ⟨zFn_k fW14 (by omega) (by omega) k0, zFn_k fW15 (by omega) (by omega) k0, ?_⟩
  have f9 := zFn_fin (m2 := 22) fW15 (fun x x0 x6 x7 x1 x2 x3 x4 j j0 hd => ?_)
  · refine q _ _ (zFn_X (X := X9) ?_ (fun b hb => ?_)) ?_ ?_ ?_
    · rw [show s + 2649 = s + 11 + 526 + 5 + 10 + 9 + 716 + 16 + 16 + 16 + 8 + 1296 + 10 + 10 by omega]
      exact f9
    · rw [zrd_r (by omega), zrd_r (by omega), zrd_r (by omega), eX25, znX_r (by omega), znX_r (by omega), eX22, znX_r (by omega), eX21, zrd_r (by omega), zrd_r (by omega), zrd_r (by omega), eX20, zrd_r (by omega), zrd_r (by omega), zrd_r (by omega), eX19, zrd_r (by omega), zrd_r (by omega), znX_r (by omega), eX16, znX_r (by omega), znX_r (by omega), eX13, znX_r (by omega)]
    · rw [zrs_f, er27b, eG26, znG_rn zW13 (by decide), zrs_f, zW11, znG_rn zW11 (by decide), zrs_f, er24b, eG23, znG_rn zW9 (by decide), zrs_f, zW7, znG_rn zW7 (by decide), zrs_f, er18b, eG17, znG_rn zW5 (by decide), zrs_f, zW3, znG_rn zW3 (by decide), zrs_f, er15b, eG14, znG_rn zW1 (by decide), zrs_f, zU5, d0]
    · rw [zrs_gn (by decide), eG26, znG_rn zW13 (by decide), zrs_gn (by decide), znG_rn zW11 (by decide), zrs_gn (by decide), eG23, znG_rn zW9 (by decide), zrs_gn (by decide), znG_rn zW7 (by decide), zrs_gn (by decide), eG17, znG_rn zW5 (by decide), zrs_gn (by decide), znG_rn zW3 (by decide), zrs_gn (by decide), eG14, znG_rn zW1 (by decide), zrs_gn (by decide), d6]
    · rw [zrs_gn (by decide), eG26, znG_rn zW13 (by decide), zrs_gn (by decide), znG_rn zW11 (by decide), zrs_gn (by decide), eG23, znG_rn zW9 (by decide), zrs_gn (by decide), znG_rn zW7 (by decide), zrs_gn (by decide), eG17, znG_rn zW5 (by decide), zrs_gn (by decide), znG_rn zW3 (by decide), zrs_gn (by decide), eG14, znG_rn zW1 (by decide), zrs_gn (by decide), d7]
  · rcases (by omega : x = 15 ∨ x = 16 ∨ x = 17 ∨ x = 18 ∨ x = 19 ∨ x = 20 ∨ x = 21) with c | c | c | c | c | c | c
    · rw [c, zrs_gn (by decide), eG26, znG_rn zW13 (by decide), zrs_gn (by decide), znG_rn zW11 (by decide), zrs_gn (by decide), eG23, znG_rn zW9 (by decide), zrs_gn (by decide), znG_rn zW7 (by decide), zrs_gn (by decide), eG17, znG_rn zW5 (by decide), zrs_gn (by decide), znG_rn zW3 (by decide), zrs_gn (by decide), eG14, ← zW1, znG_rs]
      exact zIa (zr0_ar (by omega) (by omega) (by decide +kernel)) rfl
    · rw [c, zrs_gn (by decide), eG26, znG_rn zW13 (by decide), zrs_gn (by decide), znG_rn zW11 (by decide), zrs_gn (by decide), eG23, znG_rn zW9 (by decide), zrs_gn (by decide), znG_rn zW7 (by decide), zrs_gn (by decide), eG17, znG_rn zW5 (by decide), zrs_gn (by decide), ← zW3, znG_rs]
      exact zIa (zr0_ar (by omega) (by omega) (by decide +kernel)) rfl
    · rw [c, zrs_gn (by decide), eG26, znG_rn zW13 (by decide), zrs_gn (by decide), znG_rn zW11 (by decide), zrs_gn (by decide), eG23, znG_rn zW9 (by decide), zrs_gn (by decide), znG_rn zW7 (by decide), zrs_gn (by decide), eG17, ← zW5, znG_rs]
      exact zIa (zr0_ar (by omega) (by omega) (by decide +kernel)) rfl
    · rw [c, zrs_gn (by decide), eG26, znG_rn zW13 (by decide), zrs_gn (by decide), znG_rn zW11 (by decide), zrs_gn (by decide), eG23, znG_rn zW9 (by decide), zrs_gn (by decide), ← zW7, znG_rs]
      exact zIa (zr0_ar (by omega) (by omega) (by decide +kernel)) rfl
    · rw [c, zrs_gn (by decide), eG26, znG_rn zW13 (by decide), zrs_gn (by decide), znG_rn zW11 (by decide), zrs_gn (by decide), eG23, ← zW9, znG_rs]
      exact zIa (zr0_ar (by omega) (by omega) (by decide +kernel)) rfl
    · rw [c, zrs_gn (by decide), eG26, znG_rn zW13 (by decide), zrs_gn (by decide), ← zW11, znG_rs]
      exact zIa (zr0_ar (by omega) (by omega) (by decide +kernel)) rfl
    · rw [c, zrs_gn (by decide), eG26, ← zW13, znG_rs]
      exact zIa (zr0_ar (by omega) (by omega) (by decide +kernel)) rfl
