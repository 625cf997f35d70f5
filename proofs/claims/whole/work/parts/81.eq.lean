/-! ===== every call answers alike, and the relation stays (wip/whole/gen_eq.py) ===== -/
theorem zEq_o {bD bM : Nat → Nat → (Nat → zK) → Nat → zK} {nD nM : Nat} {l : List zV} (op : ∀ (G : zG) (X : zX), zRela G X → zOp (zPu bD nD) (zPu bM nM) l l G X) : zEq (zUp (zPu bD nD)) (zPu bM nM) l := fun G X h =>
  ⟨zsz G, ztt G, Nat.le_refl _, by omega, Nat.le_refl _, by omega, rfl, rfl, zPu_mono _ _ _ _ _ _ _ (fun _ _ hm => ⟨rfl, rfl, zSk h.1 139 12 (by decide +kernel), zPu_mono _ _ _ _ _ _ _ (fun _ _ z => ⟨z.1, zRela_k h z.2.1 z.2.2⟩) hm⟩) (op G X h)⟩
theorem recv_house {Q : List zV → zX → Prop} {G : zG} {X : zX} (h : M_house [zR 139] G X Q) : zkd G 139 = 12 := zC_recv (fun Y ls st G X hb => o_recv (C := M_begins) hb) h
theorem recv_name {Q : List zV → zX → Prop} {G : zG} {X : zX} {a : Int} (h : M_name [zR 139, zI a] G X Q) : zkd G 139 = 12 := zC_recv (fun Y ls st G X hb => o_recv (C := M_begins) hb) h
theorem eq_worth {a b : Int} : zEq (zUp D_worth) M_worth [zI a, zI b] := zEq_o (fun _ _ h => op_worth h.1 h.2.1)
theorem eq_end {a : Int} : zEq (zUp D_end) M_end [zI a] := zEq_o (fun _ _ h => op_end h.1 h.2.1)
theorem eq_fault {a : Int} : zEq (zUp D_fault) M_fault [zI a] := zEq_o (fun _ _ h => op_fault h.1 h.2.1)
theorem eq_relay {a b : Int} : zEq (zUp D_relay) M_relay [zI a, zI b] := zEq_o (fun _ _ h => op_relay h.1 h.2.1)
theorem eq_owner {a b : Int} : zEq (zUp D_owner) M_owner [zI a, zI b] := zEq_o (fun _ _ h => op_owner h.1 h.2.1)
theorem eq_marks {a b c : Int} : zEq (zUp D_marks) M_marks [zI a, zI b, zI c] := zEq_o (fun _ _ h => op_marks h.1 h.2.1)
theorem eq_stands {a b c : Int} : zEq (zUp D_stands) M_stands [zI a, zI b, zI c] := zEq_o (fun _ _ h => op_stands h.1 h.2.1)
theorem eq_picture {a b c : Int} : zEq (zUp D_picture) M_picture [zI a, zI b, zI c] := zEq_o (fun _ _ h => op_picture h.1 h.2.1)
theorem eq_alike {a b c : Int} : zEq (zUp D_alike) M_alike [zI a, zI b, zI c] := zEq_o (fun _ _ h => op_alike h.1 h.2.1)
theorem eq_keep {a b c : Int} (hc : c = 0 ∨ c = 1) : zEq (zUp D_keep) M_keep [zI a, zI b, zI c] := zEq_o (fun _ _ h => op_keep h.1 h.2.1 hc)
theorem eq_box {a b c : Int} : zEq (zUp D_box) M_box [zI a, zI b, zI c] := zEq_o (fun _ _ h => op_box h.1 h.2.1)
theorem eq_pattern {a b : Int} : zEq (zUp D_pattern) M_pattern [zI a, zI b] := zEq_o (fun _ _ h => op_pattern h.1 h.2.1)
theorem eq_goes {a b : Int} : zEq (zUp D_goes) M_goes [zI a, zI b] := zEq_o (fun _ _ h => op_goes h.1 h.2.1)
theorem eq_change {a b c d e : Int} : zEq (zUp D_change) M_change [zI a, zI b, zI c, zI d, zI e] := zEq_o (fun _ _ h => op_change h.1 h.2.1)
theorem eq_feed {a b c d e : Int} : zEq (zUp D_feed) M_feed [zI a, zI b, zI c, zI d, zI e] := zEq_o (fun _ _ h => op_feed h.1 h.2.1)
theorem eq_sketch {a b : Int} : zEq (zUp D_sketch) M_sketch [zI a, zI b] := zEq_o (fun _ _ h => op_sketch h.1 h.2.1)
theorem eq_leaves {a b : Int} : zEq (zUp D_leaves) M_leaves [zI a, zI b] := zEq_o (fun _ _ h => op_leaves h.1 h.2.1)
theorem eq_steps {a b : Int} : zEq (zUp D_steps) M_steps [zI a, zI b] := zEq_o (fun _ _ h => op_steps h.1 h.2.1)
theorem eq_sent {a b c : Int} : zEq (zUp D_sent) M_sent [zI a, zI b, zI c] := zEq_o (fun _ _ h => op_sent h.1 h.2.1)
theorem eq_sentence {a : Int} : zEq (zUp D_sentence) M_sentence [zI a] := zEq_o (fun _ _ h => op_sentence h.1 h.2.1)
theorem eq_holds {a : Int} : zEq (zUp D_holds) M_holds [zI a] := zEq_o (fun _ _ h => op_holds h.1 h.2.1)
theorem eq_presses : zEq (zUp D_presses) M_presses [] := zEq_o (fun _ _ h => op_presses h.1 h.2.1)
theorem eq_count {a : Int} (ha : zin a) : zEq (zUp D_count) M_count [zI a] := zEq_o (fun _ _ h => op_count h.1 h.2.1 ha)
theorem eq_unlike {a b : Int} : zEq (zUp D_unlike) M_unlike [zI a, zI b] := zEq_o (fun _ _ h => op_unlike h.1 h.2.1)
theorem eq_near {a : Int} : zEq (zUp D_near) M_near [zI a] := zEq_o (fun _ _ h => op_near h.1 h.2.1)
theorem eq_odds {a b c : Int} : zEq (zUp D_odds) M_odds [zI a, zI b, zI c] := zEq_o (fun _ _ h => op_odds h.1 h.2.1)
theorem eq_ring {a b : Int} : zEq (zUp D_ring) M_ring [zI a, zI b] := zEq_o (fun _ _ h => op_ring h.1 h.2.1)
theorem eq_boxes {a b c : Int} : zEq (zUp D_boxes) M_boxes [zI a, zI b, zI c] := zEq_o (fun _ _ h => op_boxes h.1 h.2.1)
theorem eq_asks {a b c : Int} : zEq (zUp D_asks) M_asks [zI a, zI b, zI c] := zEq_o (fun _ _ h => op_asks h.1 h.2.1)
theorem eq_late {a b : Int} : zEq (zUp D_late) M_late [zI a, zI b] := zEq_o (fun _ _ h => op_late h.1 h.2.1)
theorem eq_far {a b c d : Int} : zEq (zUp D_far) M_far [zI a, zI b, zI c, zI d] := zEq_o (fun _ _ h => op_far h.1 h.2.1)
theorem eq_differs {a b c d e : Int} : zEq (zUp D_differs) M_differs [zI a, zI b, zI c, zI d, zI e] := zEq_o (fun _ _ h => op_differs h.1 h.2.1)
theorem eq_look {a b c d : Int} : zEq (zUp D_look) M_look [zI a, zI b, zI c, zI d] := zEq_o (fun _ _ h => op_look h.1 h.2.1)
theorem eq_like {a b c : Int} : zEq (zUp D_like) M_like [zI a, zI b, zI c] := zEq_o (fun _ _ h => op_like h.1 h.2.1)
theorem eq_hides {a b : Int} : zEq (zUp D_hides) M_hides [zI a, zI b] := zEq_o (fun _ _ h => op_hides h.1 h.2.1)
theorem eq_taken {a b : Int} : zEq (zUp D_taken) M_taken [zI a, zI b] := zEq_o (fun _ _ h => op_taken h.1 h.2.1)
theorem eq_strange : zEq (zUp D_strange) M_strange [] := zEq_o (fun _ _ h => op_strange h.1 h.2.1)
theorem eq_letter : zEq (zUp D_letter) M_letter [] := zEq_o (fun _ _ h => op_letter h.1 h.2.1)
theorem eq_word {a : Int} : zEq (zUp D_word) M_word [zI a] := zEq_o (fun _ _ h => op_word h.1 h.2.1)
theorem eq_house : zEq D_house M_house [] := fun G X h => by
  obtain ⟨LC, LS, h1, h2, h3, h4, h5⟩ := op_house h
  exact ⟨LC, LS, h1, by omega, h3, by omega, (show zMo D_house from zMo_c) _ _ _ _ _ _ _ (fun v G1 X1 z => ⟨z.1, z.2.1, recv_house z.2.2, z.2.2⟩) h5⟩
theorem eq_name {a : Int} : zEq D_name M_name [zI a] := fun G X h => by
  obtain ⟨LC, LS, h1, h2, h3, h4, h5⟩ := op_name h (a := a)
  exact ⟨LC, LS, h1, by omega, h3, by omega, (show zMo D_name from zMo_c) _ _ _ _ _ _ _ (fun v G1 X1 z => ⟨z.1, z.2.1, recv_name z.2.2, z.2.2⟩) h5⟩
theorem eq_spell {a b : Int} : zEq (zUp D_spell) M_spell [zI a, zI b] := zEq_o (fun _ _ h => op_spell h.1 h.2.1 h.2.2.1)
theorem eq_signs {a b c : Int} : zEq (zUp D_signs) M_signs [zI a, zI b, zI c] := zEq_o (fun _ _ h => op_signs h.1 h.2.1 h.2.2.1)
theorem eq_say {a b c : Int} : zEq (zUp D_say) M_say [zI a, zI b, zI c] := zEq_o (fun _ _ h => op_say h.1 h.2.1 h.2.2.1)
theorem eq_warn {a b c : Int} : zEq (zUp D_warn) M_warn [zI a, zI b, zI c] := zEq_o (fun _ _ h => op_warn h.1 h.2.1 h.2.2.1)
theorem eq_fit {a b : Int} : zEq (zUp D_fit) M_fit [zI a, zI b] := zEq_o (fun _ _ h => op_fit h.1 h.2.1 h.2.2.1)
theorem eq_pass {a b c d e : Int} : zEq (zUp D_pass) M_pass [zI a, zI b, zI c, zI d, zI e] := zEq_o (fun _ _ h => op_pass h.1 h.2.1 h.2.2.1)
theorem eq_met {a b c d : Int} : zEq (zUp D_met) M_met [zI a, zI b, zI c, zI d] := zEq_o (fun _ _ h => op_met h.1 h.2.1 h.2.2.1)
theorem eq_own {a : Int} : zEq (zUp D_own) M_own [zI a] := zEq_o (fun _ _ h => op_own h.1 h.2.1 h.2.2.2.2.2)
theorem eq_page : zEq (zUp D_page) M_page [] := fun G X h => ⟨zsz G, ztt G, Nat.le_refl _, by omega, Nat.le_refl _, by omega, rfl, rfl, zPu_mono _ _ _ _ _ _ _ (fun _ _ hm => ⟨rfl, rfl, zSk h.1 139 12 (by decide +kernel), hm⟩) (op_page h)⟩
theorem eq_program {a : Int} : zEq (zUp D_program) M_program [zI a] := zEq_o (fun _ _ h => op_program h.1 h.2.1 h.2.2.2.2.2)
theorem eq_again {a : Int} : zEq D_again M_again [zI a] := fun G X h => ⟨zsz G, ztt G, Nat.le_refl _, by omega, Nat.le_refl _, by omega, op_again h⟩
theorem eq_image {a : Int} : zEq D_image M_image [zI a] := fun G X h => by
  obtain ⟨LC, LS, h1, h2, h3, h4, h5⟩ := op_image h (a := a)
  exact ⟨LC, LS, h1, by omega, h3, by omega, h5⟩
