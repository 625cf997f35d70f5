/-! ===== the law: its loop, its start (wip/whole/gen_walk.py) ===== -/
theorem zlt1_25 : Cond.classLink "PretendDeskLaw" 7 "PretendDesk" ∈ zTb := zTb_in (zT1 (List.mem_of_getElem? (i := 25) (by decide +kernel))) rfl
theorem zlt1_26 : Cond.instantiable "PretendDesk" 10 ∈ zTb := zTb_in (zT1 (List.mem_of_getElem? (i := 26) (by decide +kernel))) rfl
theorem zlt1_27 : Cond.methodLink "PretendDeskLaw" 9 (⟨"PretendDesk", "<init>", "()V"⟩ : MethodName) ∈ zTb := zTb_in (zT1 (List.mem_of_getElem? (i := 27) (by decide +kernel))) rfl
theorem zlt1_28 : Cond.instanceMethod (⟨"PretendDesk", "<init>", "()V"⟩ : MethodName) ∈ zTb := zTb_in (zT1 (List.mem_of_getElem? (i := 28) (by decide +kernel))) rfl
theorem zlt1_29 : Cond.code (⟨"PretendDesk", "<init>", "()V"⟩ : MethodName) prog_1_method_1_code 1 none ∈ zTb := zTb_in (zT1 (List.mem_of_getElem? (i := 29) (by decide +kernel))) rfl
theorem zlt6_179 : Cond.classLink "PretendDeskLaw" 10 "PretendDeskModel" ∈ zTb := zTb_in (zT6 (List.mem_of_getElem? (i := 179) (by decide +kernel))) rfl
theorem zlt6_180 : Cond.instantiable "PretendDeskModel" 49 ∈ zTb := zTb_in (zT6 (List.mem_of_getElem? (i := 180) (by decide +kernel))) rfl
theorem zlt6_181 : Cond.methodLink "PretendDeskLaw" 12 (⟨"PretendDeskModel", "<init>", "()V"⟩ : MethodName) ∈ zTb := zTb_in (zT6 (List.mem_of_getElem? (i := 181) (by decide +kernel))) rfl
theorem zlt6_182 : Cond.instanceMethod (⟨"PretendDeskModel", "<init>", "()V"⟩ : MethodName) ∈ zTb := zTb_in (zT6 (List.mem_of_getElem? (i := 182) (by decide +kernel))) rfl
theorem zlt6_183 : Cond.code (⟨"PretendDeskModel", "<init>", "()V"⟩ : MethodName) prog_14_method_1_code 1 none ∈ zTb := zTb_in (zT6 (List.mem_of_getElem? (i := 183) (by decide +kernel))) rfl
theorem lwLen {E : zE} {b L pc : Nat} {xs : Nat → Int32} (hc : lwC E) (hs : lwS E b L xs) {i : Int} {st : List zV} {G : zG} {X : zX} (d0 : decode code pc = .ok (.aload_n 0, 1)) (d1 : decode code (pc + 1) = .ok (.arraylength, 1)) (kk : zAt E 4 (pc + 2) (lwL i) (zI (L : Int) :: st) G X) : zAt E 4 pc (lwL i) st G X := by
  refine z_aload_n (i := 0) hc rfl d0 lwk _ _ _ _ (s_aload (x := -5) rfl ?_)
  intro ad H locs lsr hH hL hS
  obtain ⟨-, hS⟩ := List.forall_mem_cons.mp hS
  obtain ⟨hX, hb, hA, he, hl⟩ := hs
  have e5 : ad (-5) = b := (hH.1 (-5) (by omega)).trans he
  rw [List.map_cons, show zv ad (zR (-5)) = .ref (ad (-5)) from rfl, e5]
  refine va_slen hc.1 hc.2.1 hX hb hA hH.2.2.2.2.2.2.2.1 d1 ?_
  have hv : Int32.ofNat L = Int32.ofInt (L : Int) := by
    apply z32i
    rw [show Int32.ofNat L = nI L from rfl, nI_toInt (by omega)]
  have := kk ad H locs lsr hH hL (List.forall_mem_cons.mpr ⟨by show zin (L : Int); unfold zin; omega, hS⟩)
  rw [List.map_cons, show zv ad (zI (L : Int)) = .int (Int32.ofInt (L : Int)) from rfl, ← hv] at this
  exact this
theorem lwPick {d : zK} {ls st : List zV} {G : zG} {X : zX} {x : Int} : ∀ (l : List (Int × zK)), (∀ p ∈ l, x = p.1 → p.2 ls st G X) → d ls st G X → o_sw l d ls (zI x :: st) G X
  | [], h, hd => hd
  | (v, K) :: r, h, hd => ⟨fun e => h (v, K) List.mem_cons_self e, fun _ => lwPick r (fun p hp => h p (List.mem_cons_of_mem _ hp)) hd⟩
def lwTab (E : zE) : List (Int × zK) := [((0 : Int), zAt E 4 260), ((1 : Int), zAt E 4 323), ((2 : Int), zAt E 4 346), ((3 : Int), zAt E 4 359), ((4 : Int), zAt E 4 382), ((5 : Int), zAt E 4 405), ((6 : Int), zAt E 4 418), ((7 : Int), zAt E 4 441), ((8 : Int), zAt E 4 484), ((9 : Int), zAt E 4 517), ((10 : Int), zAt E 4 560), ((11 : Int), zAt E 4 593), ((12 : Int), zAt E 4 636), ((13 : Int), zAt E 4 679), ((14 : Int), zAt E 4 732), ((15 : Int), zAt E 4 785), ((16 : Int), zAt E 4 828), ((17 : Int), zAt E 4 871), ((18 : Int), zAt E 4 884), ((19 : Int), zAt E 4 927), ((20 : Int), zAt E 4 970), ((21 : Int), zAt E 4 1013), ((22 : Int), zAt E 4 1076), ((23 : Int), zAt E 4 1109), ((24 : Int), zAt E 4 1142), ((25 : Int), zAt E 4 1201), ((26 : Int), zAt E 4 1234), ((27 : Int), zAt E 4 1297), ((28 : Int), zAt E 4 1360), ((29 : Int), zAt E 4 1413), ((30 : Int), zAt E 4 1456), ((31 : Int), zAt E 4 1489), ((32 : Int), zAt E 4 1522), ((33 : Int), zAt E 4 1555), ((34 : Int), zAt E 4 1598), ((35 : Int), zAt E 4 1621), ((36 : Int), zAt E 4 1654), ((37 : Int), zAt E 4 1687), ((38 : Int), zAt E 4 1736), ((39 : Int), zAt E 4 1779), ((40 : Int), zAt E 4 1812), ((41 : Int), zAt E 4 1845), ((42 : Int), zAt E 4 1868), ((43 : Int), zAt E 4 1901), ((44 : Int), zAt E 4 1914), ((45 : Int), zAt E 4 1937), ((46 : Int), zAt E 4 1960), ((47 : Int), zAt E 4 1973), ((48 : Int), zAt E 4 2032), ((49 : Int), zAt E 4 2065), ((50 : Int), zAt E 4 2088), ((51 : Int), zAt E 4 2111), ((52 : Int), zAt E 4 2134)]
theorem lwTab_1 (E : zE) : (lwTab E).map (·.1) = (List.range 53).map (fun n : Nat => (n : Int)) := rfl
set_option maxRecDepth 100000 in
theorem lwSw {E : zE} {b L : Nat} {xs : Nat → Int32} {i x : Int} {G : zG} {X : zX} (hh : lwH E b L xs i G X) : zAt E 4 33 (lwL i) [zI x] G X := by
  have hc := hh.1
  refine z_tsw (l := lwTab E) (d := zAt E 4 2157) (lw := 0) (hi := 52) (tgd := 2157) hc (show decode code 33 = .ok (.tableswitch 2124 0 52 #[227, 290, 313, 326, 349, 372, 385, 408, 451, 484, 527, 560, 603, 646, 699, 752, 795, 838, 851, 894, 937, 980, 1043, 1076, 1109, 1168, 1201, 1264, 1327, 1380, 1423, 1456, 1489, 1522, 1565, 1588, 1621, 1654, 1703, 1746, 1779, 1812, 1835, 1868, 1881, 1904, 1927, 1940, 1999, 2032, 2055, 2078, 2101], 227) by decide +kernel) ?_ ?_ (by omega) lwk _ _ _ _ ?_
  · intro y y0 y1
    rw [lwTab_1]
    exact List.mem_map.mpr ⟨y.toNat, List.mem_range.mpr (by omega), by omega⟩
  · exact (List.forall_mem_cons.mpr ⟨⟨by dsimp only; omega, by dsimp only; omega, 227, 260, rfl, by omega, lwk⟩, (List.forall_mem_cons.mpr ⟨⟨by dsimp only; omega, by dsimp only; omega, 290, 323, rfl, by omega, lwk⟩, (List.forall_mem_cons.mpr ⟨⟨by dsimp only; omega, by dsimp only; omega, 313, 346, rfl, by omega, lwk⟩, (List.forall_mem_cons.mpr ⟨⟨by dsimp only; omega, by dsimp only; omega, 326, 359, rfl, by omega, lwk⟩, (List.forall_mem_cons.mpr ⟨⟨by dsimp only; omega, by dsimp only; omega, 349, 382, rfl, by omega, lwk⟩, (List.forall_mem_cons.mpr ⟨⟨by dsimp only; omega, by dsimp only; omega, 372, 405, rfl, by omega, lwk⟩, (List.forall_mem_cons.mpr ⟨⟨by dsimp only; omega, by dsimp only; omega, 385, 418, rfl, by omega, lwk⟩, (List.forall_mem_cons.mpr ⟨⟨by dsimp only; omega, by dsimp only; omega, 408, 441, rfl, by omega, lwk⟩, (List.forall_mem_cons.mpr ⟨⟨by dsimp only; omega, by dsimp only; omega, 451, 484, rfl, by omega, lwk⟩, (List.forall_mem_cons.mpr ⟨⟨by dsimp only; omega, by dsimp only; omega, 484, 517, rfl, by omega, lwk⟩, (List.forall_mem_cons.mpr ⟨⟨by dsimp only; omega, by dsimp only; omega, 527, 560, rfl, by omega, lwk⟩, (List.forall_mem_cons.mpr ⟨⟨by dsimp only; omega, by dsimp only; omega, 560, 593, rfl, by omega, lwk⟩, (List.forall_mem_cons.mpr ⟨⟨by dsimp only; omega, by dsimp only; omega, 603, 636, rfl, by omega, lwk⟩, (List.forall_mem_cons.mpr ⟨⟨by dsimp only; omega, by dsimp only; omega, 646, 679, rfl, by omega, lwk⟩, (List.forall_mem_cons.mpr ⟨⟨by dsimp only; omega, by dsimp only; omega, 699, 732, rfl, by omega, lwk⟩, (List.forall_mem_cons.mpr ⟨⟨by dsimp only; omega, by dsimp only; omega, 752, 785, rfl, by omega, lwk⟩, (List.forall_mem_cons.mpr ⟨⟨by dsimp only; omega, by dsimp only; omega, 795, 828, rfl, by omega, lwk⟩, (List.forall_mem_cons.mpr ⟨⟨by dsimp only; omega, by dsimp only; omega, 838, 871, rfl, by omega, lwk⟩, (List.forall_mem_cons.mpr ⟨⟨by dsimp only; omega, by dsimp only; omega, 851, 884, rfl, by omega, lwk⟩, (List.forall_mem_cons.mpr ⟨⟨by dsimp only; omega, by dsimp only; omega, 894, 927, rfl, by omega, lwk⟩, (List.forall_mem_cons.mpr ⟨⟨by dsimp only; omega, by dsimp only; omega, 937, 970, rfl, by omega, lwk⟩, (List.forall_mem_cons.mpr ⟨⟨by dsimp only; omega, by dsimp only; omega, 980, 1013, rfl, by omega, lwk⟩, (List.forall_mem_cons.mpr ⟨⟨by dsimp only; omega, by dsimp only; omega, 1043, 1076, rfl, by omega, lwk⟩, (List.forall_mem_cons.mpr ⟨⟨by dsimp only; omega, by dsimp only; omega, 1076, 1109, rfl, by omega, lwk⟩, (List.forall_mem_cons.mpr ⟨⟨by dsimp only; omega, by dsimp only; omega, 1109, 1142, rfl, by omega, lwk⟩, (List.forall_mem_cons.mpr ⟨⟨by dsimp only; omega, by dsimp only; omega, 1168, 1201, rfl, by omega, lwk⟩, (List.forall_mem_cons.mpr ⟨⟨by dsimp only; omega, by dsimp only; omega, 1201, 1234, rfl, by omega, lwk⟩, (List.forall_mem_cons.mpr ⟨⟨by dsimp only; omega, by dsimp only; omega, 1264, 1297, rfl, by omega, lwk⟩, (List.forall_mem_cons.mpr ⟨⟨by dsimp only; omega, by dsimp only; omega, 1327, 1360, rfl, by omega, lwk⟩, (List.forall_mem_cons.mpr ⟨⟨by dsimp only; omega, by dsimp only; omega, 1380, 1413, rfl, by omega, lwk⟩, (List.forall_mem_cons.mpr ⟨⟨by dsimp only; omega, by dsimp only; omega, 1423, 1456, rfl, by omega, lwk⟩, (List.forall_mem_cons.mpr ⟨⟨by dsimp only; omega, by dsimp only; omega, 1456, 1489, rfl, by omega, lwk⟩, (List.forall_mem_cons.mpr ⟨⟨by dsimp only; omega, by dsimp only; omega, 1489, 1522, rfl, by omega, lwk⟩, (List.forall_mem_cons.mpr ⟨⟨by dsimp only; omega, by dsimp only; omega, 1522, 1555, rfl, by omega, lwk⟩, (List.forall_mem_cons.mpr ⟨⟨by dsimp only; omega, by dsimp only; omega, 1565, 1598, rfl, by omega, lwk⟩, (List.forall_mem_cons.mpr ⟨⟨by dsimp only; omega, by dsimp only; omega, 1588, 1621, rfl, by omega, lwk⟩, (List.forall_mem_cons.mpr ⟨⟨by dsimp only; omega, by dsimp only; omega, 1621, 1654, rfl, by omega, lwk⟩, (List.forall_mem_cons.mpr ⟨⟨by dsimp only; omega, by dsimp only; omega, 1654, 1687, rfl, by omega, lwk⟩, (List.forall_mem_cons.mpr ⟨⟨by dsimp only; omega, by dsimp only; omega, 1703, 1736, rfl, by omega, lwk⟩, (List.forall_mem_cons.mpr ⟨⟨by dsimp only; omega, by dsimp only; omega, 1746, 1779, rfl, by omega, lwk⟩, (List.forall_mem_cons.mpr ⟨⟨by dsimp only; omega, by dsimp only; omega, 1779, 1812, rfl, by omega, lwk⟩, (List.forall_mem_cons.mpr ⟨⟨by dsimp only; omega, by dsimp only; omega, 1812, 1845, rfl, by omega, lwk⟩, (List.forall_mem_cons.mpr ⟨⟨by dsimp only; omega, by dsimp only; omega, 1835, 1868, rfl, by omega, lwk⟩, (List.forall_mem_cons.mpr ⟨⟨by dsimp only; omega, by dsimp only; omega, 1868, 1901, rfl, by omega, lwk⟩, (List.forall_mem_cons.mpr ⟨⟨by dsimp only; omega, by dsimp only; omega, 1881, 1914, rfl, by omega, lwk⟩, (List.forall_mem_cons.mpr ⟨⟨by dsimp only; omega, by dsimp only; omega, 1904, 1937, rfl, by omega, lwk⟩, (List.forall_mem_cons.mpr ⟨⟨by dsimp only; omega, by dsimp only; omega, 1927, 1960, rfl, by omega, lwk⟩, (List.forall_mem_cons.mpr ⟨⟨by dsimp only; omega, by dsimp only; omega, 1940, 1973, rfl, by omega, lwk⟩, (List.forall_mem_cons.mpr ⟨⟨by dsimp only; omega, by dsimp only; omega, 1999, 2032, rfl, by omega, lwk⟩, (List.forall_mem_cons.mpr ⟨⟨by dsimp only; omega, by dsimp only; omega, 2032, 2065, rfl, by omega, lwk⟩, (List.forall_mem_cons.mpr ⟨⟨by dsimp only; omega, by dsimp only; omega, 2055, 2088, rfl, by omega, lwk⟩, (List.forall_mem_cons.mpr ⟨⟨by dsimp only; omega, by dsimp only; omega, 2078, 2111, rfl, by omega, lwk⟩, (List.forall_mem_cons.mpr ⟨⟨by dsimp only; omega, by dsimp only; omega, 2101, 2134, rfl, by omega, lwk⟩, (fun _ h => nomatch h)⟩)⟩)⟩)⟩)⟩)⟩)⟩)⟩)⟩)⟩)⟩)⟩)⟩)⟩)⟩)⟩)⟩)⟩)⟩)⟩)⟩)⟩)⟩)⟩)⟩)⟩)⟩)⟩)⟩)⟩)⟩)⟩)⟩)⟩)⟩)⟩)⟩)⟩)⟩)⟩)⟩)⟩)⟩)⟩)⟩)⟩)⟩)⟩)⟩)⟩)⟩)⟩)⟩)
  · refine lwPick (lwTab E) ?_ (hh.2.2.2.2.2.2.2.2 G X hh.2.2.2.2.2.1 (by omega) (by omega))
    exact (List.forall_mem_cons.mpr ⟨fun _ => lw_feed hh (eq_feed), (List.forall_mem_cons.mpr ⟨fun _ => lw_end hh (eq_end), (List.forall_mem_cons.mpr ⟨fun _ => lw_house hh (eq_house), (List.forall_mem_cons.mpr ⟨fun _ => lw_name hh (eq_name), (List.forall_mem_cons.mpr ⟨fun _ => lw_own hh (eq_own), (List.forall_mem_cons.mpr ⟨fun _ => lw_page hh (eq_page), (List.forall_mem_cons.mpr ⟨fun _ => lw_fault hh (eq_fault), (List.forall_mem_cons.mpr ⟨fun _ => lw_alike hh (eq_alike), (List.forall_mem_cons.mpr ⟨fun _ => lw_spell hh (eq_spell), (List.forall_mem_cons.mpr ⟨fun _ => lw_stands hh (eq_stands), (List.forall_mem_cons.mpr ⟨fun _ => lw_worth hh (eq_worth), (List.forall_mem_cons.mpr ⟨fun _ => lw_boxes hh (eq_boxes), (List.forall_mem_cons.mpr ⟨fun _ => lw_box hh (eq_box), (List.forall_mem_cons.mpr ⟨fun _ => lw_far hh (eq_far), (List.forall_mem_cons.mpr ⟨fun _ => lw_look hh (eq_look), (List.forall_mem_cons.mpr ⟨fun _ => lw_like hh (eq_like), (List.forall_mem_cons.mpr ⟨fun _ => lw_asks hh (eq_asks), (List.forall_mem_cons.mpr ⟨fun _ => lw_strange hh (eq_strange), (List.forall_mem_cons.mpr ⟨fun _ => lw_marks hh (eq_marks), (List.forall_mem_cons.mpr ⟨fun _ => lw_signs hh (eq_signs), (List.forall_mem_cons.mpr ⟨fun _ => lw_say hh (eq_say), (List.forall_mem_cons.mpr ⟨fun _ => lw_differs hh (eq_differs), (List.forall_mem_cons.mpr ⟨fun _ => lw_hides hh (eq_hides), (List.forall_mem_cons.mpr ⟨fun _ => lw_late hh (eq_late), (List.forall_mem_cons.mpr ⟨fun _ => lw_keep hh (eq_keep (lwb_or _)), (List.forall_mem_cons.mpr ⟨fun _ => lw_fit hh (eq_fit), (List.forall_mem_cons.mpr ⟨fun _ => lw_change hh (eq_change), (List.forall_mem_cons.mpr ⟨fun _ => lw_pass hh (eq_pass), (List.forall_mem_cons.mpr ⟨fun _ => lw_met hh (eq_met), (List.forall_mem_cons.mpr ⟨fun _ => lw_odds hh (eq_odds), (List.forall_mem_cons.mpr ⟨fun _ => lw_ring hh (eq_ring), (List.forall_mem_cons.mpr ⟨fun _ => lw_sketch hh (eq_sketch), (List.forall_mem_cons.mpr ⟨fun _ => lw_leaves hh (eq_leaves), (List.forall_mem_cons.mpr ⟨fun _ => lw_warn hh (eq_warn), (List.forall_mem_cons.mpr ⟨fun _ => lw_program hh (eq_program), (List.forall_mem_cons.mpr ⟨fun _ => lw_relay hh (eq_relay), (List.forall_mem_cons.mpr ⟨fun _ => lw_owner hh (eq_owner), (List.forall_mem_cons.mpr ⟨fun _ => lw_goes hh (eq_goes), (List.forall_mem_cons.mpr ⟨fun _ => lw_sent hh (eq_sent), (List.forall_mem_cons.mpr ⟨fun _ => lw_steps hh (eq_steps), (List.forall_mem_cons.mpr ⟨fun _ => lw_taken hh (eq_taken), (List.forall_mem_cons.mpr ⟨fun _ => lw_word hh (eq_word), (List.forall_mem_cons.mpr ⟨fun _ => lw_pattern hh (eq_pattern), (List.forall_mem_cons.mpr ⟨fun _ => lw_letter hh (eq_letter), (List.forall_mem_cons.mpr ⟨fun _ => lw_sentence hh (eq_sentence), (List.forall_mem_cons.mpr ⟨fun _ => lw_holds hh (eq_holds), (List.forall_mem_cons.mpr ⟨fun _ => lw_presses hh (eq_presses), (List.forall_mem_cons.mpr ⟨fun _ => lw_picture hh (eq_picture), (List.forall_mem_cons.mpr ⟨fun _ => lw_unlike hh (eq_unlike), (List.forall_mem_cons.mpr ⟨fun _ => lw_near hh (eq_near), (List.forall_mem_cons.mpr ⟨fun _ => lw_count hh (eq_count (lwv_in _ _)), (List.forall_mem_cons.mpr ⟨fun _ => lw_image hh (eq_image), (List.forall_mem_cons.mpr ⟨fun _ => lw_again hh (eq_again), (fun _ h => nomatch h)⟩)⟩)⟩)⟩)⟩)⟩)⟩)⟩)⟩)⟩)⟩)⟩)⟩)⟩)⟩)⟩)⟩)⟩)⟩)⟩)⟩)⟩)⟩)⟩)⟩)⟩)⟩)⟩)⟩)⟩)⟩)⟩)⟩)⟩)⟩)⟩)⟩)⟩)⟩)⟩)⟩)⟩)⟩)⟩)⟩)⟩)⟩)⟩)⟩)⟩)⟩)⟩)⟩)
/-- the loop, from its head: n rounds at most are left */ -/
theorem lwLoop {E : zE} {b L : Nat} {xs : Nat → Int32} (hc : lwC E) (hx : zXt (ead E) (eA E) (es E)) (hs : lwS E b L xs) (hE : esz E = 0 ∧ ett E = 0 ∧ (eR E).cells = 969211 ∧ (eR E).slots = 6194615) (hend : ∀ (i : Int) (G : zG) (X : zX), zAt E 4 2163 (lwL i) [] G X) :
    ∀ (n : Nat) (i : Int) (G : zG) (X : zX), 0 ≤ i → i ≤ L → (L : Int) + 1 ≤ i + 6 * n → zRela G X → zsz G + 102 * n ≤ 60000 → ztt G + 5266 * n ≤ 3000000 → zAt E 4 18 (lwL i) [] G X := by
  have hl := hs.2.2.2.2
  obtain ⟨E1, E2, E3, E4⟩ := hE
  intro n
  induction n with
  | zero =>
    intro i G X i0 i1 i2
    omega
  | succ n ih =>
    intro i G X i0 i1 i2 hg b1 b2
    refine z_iload_n (i := 3) hc rfl (show decode code 18 = .ok (.iload_n 3, 1) by decide +kernel) lwk _ _ _ _ (s_iload (x := i) rfl ?_)
    refine lwLen (pc := 19) hc hs (show decode code 19 = .ok (.aload_n 0, 1) by decide +kernel) (show decode code 20 = .ok (.arraylength, 1) by decide +kernel) ?_
    refine z_bipush hc (by omega) (show decode code 21 = .ok (.bipush 6, 2) by decide +kernel) lwk _ _ _ _ (s_ipush ?_)
    refine z_isub hc (show decode code 23 = .ok (.isub, 1) by decide +kernel) lwk _ _ _ _ (s_isub ?_)
    rw [zw_id (by omega) (by omega)]
    refine z_icmp_gt (tgt := 2163) hc (by omega) (show decode code 24 = .ok (.if_icmp .gt 2139, 3) by decide +kernel) lwk lwk _ _ _ _ (s_gt (fun c => hend i G X) (fun c => ?_))
    refine z_aload_n (i := 0) hc rfl (show decode code 27 = .ok (.aload_n 0, 1) by decide +kernel) lwk _ _ _ _ (s_aload (x := -5) rfl ?_)
    refine z_iload_n (i := 3) hc rfl (show decode code 28 = .ok (.iload_n 3, 1) by decide +kernel) lwk _ _ _ _ (s_iload (x := i) rfl ?_)
    refine lwLd (pc := 29) hc hs i0 (by omega) (show decode code 29 = .ok (.iaload, 1) by decide +kernel) ?_
    refine z_bipush hc (by omega) (show decode code 30 = .ok (.bipush 63, 2) by decide +kernel) lwk _ _ _ _ (s_ipush ?_)
    refine z_iand hc (show decode code 32 = .ok (.iand, 1) by decide +kernel) lwk _ _ _ _ (s_iand ?_)
    refine lwSw (b := b) (L := L) (xs := xs) ⟨hc, hx, hs, i0, by omega, hg, by omega, by omega, fun G2 X2 hg2 e1 e2 => ?_⟩
    refine z_iinc (i := 3) (n := 6) hc (by omega) (by omega) (show decode code 2157 = .ok (.iinc 3 6, 3) by decide +kernel) lwk _ _ _ _ (s_iincN (l := lwL (i + 6)) (x := i) rfl (by rw [zw_id (by omega) (by omega)]; rfl) ?_)
    refine z_goto (tgt := 18) hc (by omega) (show decode code 2160 = .ok (.goto (-2142), 3) by decide +kernel) lwk _ _ _ _ (s_goto ?_)
    exact ih (i + 6) G2 X2 (by omega) (by omega) (by omega) hg2 (by omega) (by omega)
theorem zFz_0 : zFz (fun _ _ => -1) (fun _ _ => 0) wsG wsX 0 0 := ⟨rfl, rfl, fun a a0 a1 => by omega, fun a a0 a1 => by omega, fun a a0 a1 => by omega, fun a _ => ⟨rfl, rfl⟩, fun a _ => ⟨rfl, rfl, rfl, rfl⟩⟩
/-- from the entry: both objects are made */ -/
theorem lwStart {E : zE} {b L : Nat} {xs : Nat → Int32} (hc : lwC E) (hx : zXt (ead E) (eA E) (es E)) (hs : lwS E b L xs) (hE : esz E = 0 ∧ ett E = 0 ∧ (eR E).cells = 969211 ∧ (eR E).slots = 6194615) (hend : ∀ (i : Int) (G : zG) (X : zX), zAt E 4 2163 (lwL i) [] G X) : zAt E 4 0 [zR (-5), zT, zT, zT] [] wsG wsX := by
  have hl := hs.2.2.2.2
  obtain ⟨E1, E2, E3, E4⟩ := id hE
  have f1 : zFz (fun _ _ => -1) (fun _ _ => 0) (znG wsG 0 0 10) (znX wsG wsX) 1 10 := zFz_new zFz_0 (by decide +kernel) (by decide +kernel) rfl rfl
  refine z_new (LC := 200) (LS := 100000) (c := 0) (N := 10) hc zcf0 rfl (by omega) (by omega) (by omega) zdf0 zlt1_25 zlt1_26 zmt1_1 (show decode code 0 = .ok (.new 7, 3) by decide +kernel) lwk _ _ _ _ ⟨by decide, by decide, ?_⟩
  refine z_dup hc (show decode code 3 = .ok (.dup, 1) by decide +kernel) lwk _ _ _ _ ⟨rfl, ?_⟩
  refine z_callIA (LC := 200) (LS := 100000) (c := 0) (c0 := 0) (n := 1) hc hx D_init_P zlt1_27 (by omega) (by omega) zlt1_28 zmt1_1 rfl rfl (by omega) zlt1_29 (by decide +kernel) (by omega) (by omega) (by omega) (show decode code 4 = .ok (.invokespecial 9, 3) by decide +kernel) lwk _ _ _ _ ?_
  refine ⟨⟨by decide, by decide, rfl⟩, zFz_k f1 (a := 0) (by decide) (by decide) (by decide +kernel), 139, 7075, by decide, by decide, by decide, by decide, ?_⟩
  refine zDini f1 rfl (fun G2 X2 R0 U0 f2 told => ⟨f2.1, f2.2.1, ?_⟩)
  refine z_astore_n (i := 1) hc (by omega) rfl (show decode code 7 = .ok (.astore_n 1, 1) by decide +kernel) lwk _ _ _ _ (s_astoreN (l := [zR (-5), zR 0, zT, zT]) rfl ?_)
  have e2 : (zsz G2 : Int) = 139 := by rw [f2.1]; rfl
  have f3 := zFz_new (k := 12) (l := 0) (c := 49) (n2 := 140) (s2 := 7124) f2 (by decide +kernel) (by decide +kernel) rfl rfl
  refine z_new (LC := 200) (LS := 100000) (c := 12) (N := 49) hc zcf12 rfl (by omega) (by omega) (by omega) zdf12 zlt6_179 zlt6_180 zmt1_17 (show decode code 8 = .ok (.new 10, 3) by decide +kernel) lwk _ _ _ _ ⟨by rw [f2.1]; decide, by rw [f2.2.1]; decide, ?_⟩
  rw [e2]
  refine z_dup hc (show decode code 11 = .ok (.dup, 1) by decide +kernel) lwk _ _ _ _ ⟨rfl, ?_⟩
  refine z_callIA (LC := 200) (LS := 100000) (c := 12) (c0 := 12) (n := 1) hc hx M_init_P zlt6_181 (by omega) (by omega) zlt6_182 zmt1_17 rfl rfl (by omega) zlt6_183 (by decide +kernel) (by omega) (by omega) (by omega) (show decode code 12 = .ok (.invokespecial 12, 3) by decide +kernel) lwk _ _ _ _ ?_
  refine ⟨⟨by decide, by decide, rfl⟩, zFz_k f3 (a := 139) (by decide) (by decide) (by decide +kernel), 166, 30341, Nat.le_trans (Nat.le_of_eq f3.1) (by decide), Nat.le_trans (Nat.le_of_eq f3.2.1) (by decide), by decide, by decide, ?_⟩
  refine zMini f3 (fun G4 X4 f4 => ⟨f4.1, f4.2.1, ?_⟩)
  refine z_astore_n (i := 2) hc (by omega) rfl (show decode code 15 = .ok (.astore_n 2, 1) by decide +kernel) lwk _ _ _ _ (s_astoreN (l := [zR (-5), zR 0, zR 139, zT]) rfl ?_)
  refine z_iconst hc (by omega) (show decode code 16 = .ok (.iconst 0, 1) by decide +kernel) lwk _ _ _ _ (s_ipush ?_)
  refine z_istore_n (i := 3) hc (by omega) rfl (show decode code 17 = .ok (.istore_n 3, 1) by decide +kernel) lwk _ _ _ _ (s_istoreN (l := lwL 0) rfl ?_)
  refine zAt_n (by rw [f4.1]; exact Nat.le_refl _) ?_
  have hr : zRela (zGnn G4) X4 := zBg_Rela f4 rfl told rfl rfl
  have z1 : zsz (zGnn G4) = 166 := f4.1
  have z2 : ztt (zGnn G4) = 30341 := f4.2.1
  exact lwLoop hc hx hs hE hend 513 0 _ X4 (by omega) (by omega) (by omega) hr (by omega) (by omega)
/-- from the entry, for every script of at most 3072 ints, the law comes to its end with true -/
theorem whole_start {p : Program} {e : Env} {s : State} {m : MethodId} {below : List Frame} {meth : Method} {c : Code} (l : Launch) (hflags : l.flags = flags0) {b L : Nat} {xs : Nat → Int32} (hL : L ≤ 3072) (C0 : lw_At p s m meth c b L xs) : W p l e room_1 s m #[Value.ref b] below meth c s.heap [] 0 0 (lw_Z below #[Value.ref b] s) (entryFrame m ([Value.ref b] : List Value).toArray 4) := by
  obtain ⟨hx, hb, hr, hml, hown, hts, hX, hbl, hlocks, hgv⟩ := C0
  obtain ⟨V, ad, hK, hz, hXt, h5⟩ := ws_all hts hgv
  let E : zE := (p, l, e, room_1, s, m, #[Value.ref b], below, meth, c, lw_Z below #[Value.ref b] s, V, (fun q => s.heap.size ≤ q), ad, 0, 0)
  have hc : lwC E := ⟨hx, hb, hml, hown, hz, rfl, rfl, hK, fun q hq => hq, hXt.1⟩
  have hs : lwS E b L xs := ⟨hX, hbl, Nat.not_le.mpr hbl, h5, hL⟩
  have hend : ∀ (i : Int) (G : zG) (X : zX), zAt E 4 2163 (lwL i) [] G X := by
    intro i G X
    refine z_iconst hc (by omega) (show decode code 2163 = .ok (.iconst 1, 1) by decide +kernel) lwk _ _ _ _ (s_ipush ?_)
    intro ad2 H locs lsr hH hLc hS
    have c1 : zsz G - 0 ≤ 969211 := hH.2.2.2.1
    have c2 : ztt G - 0 ≤ 6194615 := hH.2.2.2.2.1
    refine va_forget (fun q hq => hH.2.2.2.2.2.2.2.1.2.2 q hq) ?_
    exact W.widen c1 c2 (lw_ret hx hb hr hlocks (show decode code 2164 = .ok (.ireturn, 1) by decide +kernel))
  have main := lwStart hc hXt hs ⟨rfl, rfl, rfl, rfl⟩ hend
  have hH : zHp E ad wsG wsX s.heap [] := ⟨fun _ _ => rfl, Nat.le_refl _, Nat.le_refl _, Nat.zero_le _, Nat.zero_le _, fun k q h => (by cases h), ⟨fun i j p q h => (by cases h), fun k q h => (by cases h)⟩, va_S.rf, ws_ok, ws_x0 V ad⟩
  have hent := lv_entry ([.ref b]) (n := 4) (Nat.le_of_ble_eq_true rfl)
  rw [lg_entry_eq]
  have hLc : zLc ad (zsz wsG) 4 [zR (-5), zT, zT, zT] ((lg_sl ([Value.ref b]) ++ List.replicate (4 - (lg_sl ([Value.ref b])).length) Slot.unset).toArray) := by
    refine ⟨hent.1, hent.2.1, rfl, fun i v hi => ?_⟩
    match i, hi with
    | 0, hi =>
      cases hi
      refine Or.inr ⟨by show (-5 : Int) < _; omega, ?_⟩
      rw [show zv ad (zR (-5)) = .ref (ad (-5)) from rfl, h5]
      exact hent.2.2 (0, .ref b) List.mem_cons_self
    | 1, hi => cases hi; exact Or.inl rfl
    | 2, hi => cases hi; exact Or.inl rfl
    | 3, hi => cases hi; exact Or.inl rfl
    | k + 4, hi => cases hi
  exact main ad s.heap [] _ hH hLc (fun v hv => (by cases hv))
