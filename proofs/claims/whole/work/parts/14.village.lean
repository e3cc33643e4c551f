def X3_empty_J35 (r_4 : (Nat → Int32)) (z_eats_35 : Nat → Int32) (z_barred_35 : Nat → Int32) : Option (Int32 × Int32 × Int32 × Int32 × (Nat → Int32) × (Nat → Int32) × (Nat → Int32)) := some ((0 : Int32), (0 : Int32), (0 : Int32), (1 : Int32), r_4, z_eats_35, z_barred_35)
def X3_empty_S9 (r_4 : (Nat → Int32)) (self_9 : Int32 → (Nat → Int32) → (Nat → Int32) → Option (Int32 × Int32 × Int32 × Int32 × (Nat → Int32) × (Nat → Int32) × (Nat → Int32))) (x1_9 : Int32) (z_eats_9 : Nat → Int32) (z_barred_9 : Nat → Int32) : Option (Int32 × Int32 × Int32 × Int32 × (Nat → Int32) × (Nat → Int32) × (Nat → Int32)) := if (6 : Int32) ≤ x1_9 then (X3_empty_J35 r_4 z_eats_9 z_barred_9) else (gd (okx x1_9 6) (lets (upd z_eats_9 x1_9.toNatClampNeg (0 : Int32)) (fun z_eats_21 => gd (okx x1_9 6) (lets (upd z_barred_9 x1_9.toNatClampNeg (0 : Int32)) (fun z_barred_28 => lets (x1_9 + (1 : Int32)) (fun x1_29 => self_9 x1_29 z_eats_21 z_barred_28))))))
def fX3_empty (z_weights_cells : Nat → Int32) (z_eats : Nat → Int32) (z_barred : Nat → Int32) : Option (Int32 × Int32 × Int32 × Int32 × (Nat → Int32) × (Nat → Int32) × (Nat → Int32)) := (fX4_empty z_weights_cells).bind (fun r_4 => it3 (X3_empty_S9 r_4) 100000 (0 : Int32) z_eats z_barred)
abbrev rmX3_empty : Room := { frames := 1, cells := 0, slots := 0, locals := 21 }
set_option maxHeartbeats 4000000 in
set_option maxRecDepth 100000 in
theorem ktX3_empty (l : Launch) (D : va_G) (cy : Nat → ClassId) (q0 : Nat) (q_weights : Nat) (q_eats : Nat) (q_barred : Nat) (q_weights_cells : Nat) (z_houses : Int32) (z_law : Int32) (z_pride : Int32) (z_memory : Int32) (z_weights_cells : Nat → Int32) (z_eats : Nat → Int32) (z_barred : Nat → Int32) (r : Int32 × Int32 × Int32 × Int32 × (Nat → Int32) × (Nat → Int32) × (Nat → Int32)) (hf : fX3_empty z_weights_cells z_eats z_barred = some r) : CtV l yX3_empty wsX3_empty rmX3_empty D cy [.ref q0] [(q0, oB 3 [.ref q_weights, .ref q_eats, .ref q_barred, .int z_houses, .int z_law, .int z_pride, .int z_memory]), (q_weights, oB 4 [.ref q_weights_cells]), (q_weights_cells, aI cy 24 z_weights_cells), (q_eats, aI cy 6 z_eats), (q_barred, aI cy 6 z_barred)] [(q0, oB 3 [.ref q_weights, .ref q_eats, .ref q_barred, .int r.1, .int r.2.1, .int r.2.2.1, .int r.2.2.2.1]), (q_weights, oB 4 [.ref q_weights_cells]), (q_weights_cells, aI cy 24 r.2.2.2.2.1), (q_eats, aI cy 6 r.2.2.2.2.2.1), (q_barred, aI cy 6 r.2.2.2.2.2.2)] := by
  refine Ct_ofV (cc := cX3_empty) (nL := 2) (by decide) rfl (Nat.le_of_ble_eq_true rfl) ?_
  intro p e s m args below meth c A Q hM hret hP hD hS ls hl
  obtain ⟨hx, hb, hml, hown, hts, hcx, hA, hsx⟩ := hM
  have hown : s.vm.findClass RX3 = some m.cls := hown
  have hK := hcx.1
  have hN := hcx.2
  have kw0 := hts (.fieldLink RX3 12 "EachBrings$Village" "weights" "LEachBrings$Weights;") (List.mem_of_getElem? (i := 1) rfl)
  have kc1 : ∀ w ∈ wsX30, w ∈ wsX3_empty := fun _ h => List.mem_cons_of_mem _ (List.mem_append_left _ (List.mem_append_right _ h))
  have kw2 := hts (.initialized RX4) (List.mem_of_getElem? (i := 9) rfl)
  have kw3 := hts (.instanceMethod yX4_empty) (List.mem_of_getElem? (i := 8) rfl)
  have kw4 := hts (.selects RX4 yX4_empty yX4_empty) (List.mem_of_getElem? (i := 10) rfl)
  have kw5 := hts (.fieldLink RX3 25 "EachBrings$Village" "houses" "I") (List.mem_of_getElem? (i := 4) rfl)
  have kw6 := hts (.fieldLink RX3 29 "EachBrings$Village" "law" "I") (List.mem_of_getElem? (i := 5) rfl)
  have kw7 := hts (.fieldLink RX3 32 "EachBrings$Village" "pride" "I") (List.mem_of_getElem? (i := 6) rfl)
  have kw8 := hts (.fieldLink RX3 35 "EachBrings$Village" "memory" "I") (List.mem_of_getElem? (i := 7) rfl)
  have kw9 := hts (.fieldLink RX3 18 "EachBrings$Village" "eats" "[I") (List.mem_of_getElem? (i := 2) rfl)
  have kw10 := hts (.fieldLink RX3 22 "EachBrings$Village" "barred" "[I") (List.mem_of_getElem? (i := 3) rfl)
  have hl : lv_has ls 2 [(0, .ref q0)] := hl
  have hret' : ∀ (pc : Nat) (ls : Array Slot) (H : Heap) (locs : List Loc) (w0 : Int32) (w1 : Int32) (w2 : Int32) (w3 : Int32) (w4 : Nat → Int32) (w5 : Nat → Int32) (w6 : Nat → Int32), decode cX3_empty pc = .ok (.return_, 1) → some (w0, w1, w2, w3, w4, w5, w6) = some r → va_P D vwCl [(q0, oB 3 [.ref q_weights, .ref q_eats, .ref q_barred, .int w0, .int w1, .int w2, .int w3]), (q_weights, oB 4 [.ref q_weights_cells]), (q_weights_cells, aI cy 24 w4), (q_eats, aI cy 6 w5), (q_barred, aI cy 6 w6)] H → va_D A [(q0, oB 3 [.ref q_weights, .ref q_eats, .ref q_barred, .int w0, .int w1, .int w2, .int w3]), (q_weights, oB 4 [.ref q_weights_cells]), (q_weights_cells, aI cy 24 w4), (q_eats, aI cy 6 w5), (q_barred, aI cy 6 w6)] → va_S A s.heap H locs → W p l e rmX3_empty s m args below meth c H locs 0 0 Q (F0 m pc ls []) := by
    intro pc ls H locs w0 w1 w2 w3 w4 w5 w6 hd he hP hD hS
    cases he
    exact hret _ _ _ _ hd hP hD hS
  unfold fX3_empty at hf
  refine lv_aload_n hx hb dX3_empty_0 rfl (lv_at hl 0 rfl) ?_
  refine va_get (D := D) (ci := 3) (v := .ref q_weights) (C := RX3) (T := TX3) (N := 7) hx hb hts kc1 hown hK hP 0 rfl rfl 0 (by decide) kw0 (fun _ h9 => h9) rfl dX3_empty_1 ?_
  obtain ⟨r_4, hr_4, hf⟩ := bd_some hf
  refine cl_v (wc := [(q_weights, oB 4 [.ref q_weights_cells]), (q_weights_cells, aI cy 24 z_weights_cells)]) (w1 := [(q_weights, oB 4 [.ref q_weights_cells]), (q_weights_cells, aI cy 24 r_4)]) (wr := [(q0, oB 3 [.ref q_weights, .ref q_eats, .ref q_barred, .int z_houses, .int z_law, .int z_pride, .int z_memory]), (q_eats, aI cy 6 z_eats), (q_barred, aI cy 6 z_barred)]) (w2 := [(q0, oB 3 [.ref q_weights, .ref q_eats, .ref q_barred, .int z_houses, .int z_law, .int z_pride, .int z_memory]), (q_weights, oB 4 [.ref q_weights_cells]), (q_weights_cells, aI cy 24 r_4), (q_eats, aI cy 6 z_eats), (q_barred, aI cy 6 z_barred)]) (va_runVN (C := RX4) (host := "EachBrings") (As := []) (rest := []) ⟨hx, hb, hml, hown, hts⟩ (ktX4_empty l D cy q_weights q_weights_cells z_weights_cells r_4 hr_4 _) ⟨va_cnB 0 hts gX3_empty_X4_empty_n38 rfl rfl rfl (hN.at 35 rfl) kw2 (by decide +kernel) ⟨Nat.le_of_ble_eq_true rfl, Nat.le_of_ble_eq_true rfl⟩, kw3, kw4⟩ (pre_V (wc := [(q_weights, oB 4 [.ref q_weights_cells]), (q_weights_cells, aI cy 24 z_weights_cells)]) (ci := 4) hcx hsx hS hA hP hD [1, 2] rfl (by decide) rfl rfl) rfl rfl hl.1 rfl (lv_room (Nat.le_of_ble_eq_true rfl)) dX3_empty_4 ⟨Nat.zero_le _, Nat.zero_le _⟩) hP hD hS hA [1, 2] [0, 3, 4] [0, 3, 4, 1, 2] rfl rfl (by decide) (by decide) (by decide) rfl (fun H locs hP hD hS => ?_)
  refine lv_iconst (v := 0) hx hb dX3_empty_7 (by decide) ?_
  refine lv_istore_n (lv' := [(1, .int (0 : Int32)), (0, .ref q0)]) hx hb dX3_empty_8 rfl hl (by decide) rfl (fun ls hl => ?_)
  have hJ35 : ∀ (z_eats_35 : Nat → Int32) (z_barred_35 : Nat → Int32) (H : Heap) (locs : List Loc) (ls : Array Slot), X3_empty_J35 r_4 z_eats_35 z_barred_35 = some r → va_P D vwCl [(q0, oB 3 [.ref q_weights, .ref q_eats, .ref q_barred, .int z_houses, .int z_law, .int z_pride, .int z_memory]), (q_weights, oB 4 [.ref q_weights_cells]), (q_weights_cells, aI cy 24 r_4), (q_eats, aI cy 6 z_eats_35), (q_barred, aI cy 6 z_barred_35)] H → va_D A [(q0, oB 3 [.ref q_weights, .ref q_eats, .ref q_barred, .int z_houses, .int z_law, .int z_pride, .int z_memory]), (q_weights, oB 4 [.ref q_weights_cells]), (q_weights_cells, aI cy 24 r_4), (q_eats, aI cy 6 z_eats_35), (q_barred, aI cy 6 z_barred_35)] → va_S A s.heap H locs → lv_has ls 2 [(0, .ref q0)] → W p l e rmX3_empty s m args below meth c H locs 0 0 Q (F0 m 35 ls []) := by
    intro z_eats_35 z_barred_35 H locs ls hf hP hD hS hl
    unfold X3_empty_J35 at hf
    refine lv_aload_n hx hb dX3_empty_35 rfl (lv_at hl 0 rfl) ?_
    refine lv_iconst (v := 0) hx hb dX3_empty_36 (by decide) ?_
    refine va_put (D := D) (ci := 3) (v := .int (0 : Int32)) (ty := .int) (C := RX3) (T := TX3) (N := 7) hx hb hts kc1 tyX3 tyX3_ok nmX3 hown hK hP hD hS 0 rfl rfl 3 (by decide) kw5 (fun _ h9 => h9) rfl pfI rfl rfl (Nat.le_of_ble_eq_true rfl) dX3_empty_37 (fun H locs hP hD hS => ?_)
    have hP : va_P D vwCl [(q0, oB 3 [.ref q_weights, .ref q_eats, .ref q_barred, .int (0 : Int32), .int z_law, .int z_pride, .int z_memory]), (q_weights, oB 4 [.ref q_weights_cells]), (q_weights_cells, aI cy 24 r_4), (q_eats, aI cy 6 z_eats_35), (q_barred, aI cy 6 z_barred_35)] H := hP
    have hD : va_D A [(q0, oB 3 [.ref q_weights, .ref q_eats, .ref q_barred, .int (0 : Int32), .int z_law, .int z_pride, .int z_memory]), (q_weights, oB 4 [.ref q_weights_cells]), (q_weights_cells, aI cy 24 r_4), (q_eats, aI cy 6 z_eats_35), (q_barred, aI cy 6 z_barred_35)] := hD
    refine lv_aload_n hx hb dX3_empty_40 rfl (lv_at hl 0 rfl) ?_
    refine lv_iconst (v := 0) hx hb dX3_empty_41 (by decide) ?_
    refine va_put (D := D) (ci := 3) (v := .int (0 : Int32)) (ty := .int) (C := RX3) (T := TX3) (N := 7) hx hb hts kc1 tyX3 tyX3_ok nmX3 hown hK hP hD hS 0 rfl rfl 4 (by decide) kw6 (fun _ h9 => h9) rfl pfI rfl rfl (Nat.le_of_ble_eq_true rfl) dX3_empty_42 (fun H locs hP hD hS => ?_)
    have hP : va_P D vwCl [(q0, oB 3 [.ref q_weights, .ref q_eats, .ref q_barred, .int (0 : Int32), .int (0 : Int32), .int z_pride, .int z_memory]), (q_weights, oB 4 [.ref q_weights_cells]), (q_weights_cells, aI cy 24 r_4), (q_eats, aI cy 6 z_eats_35), (q_barred, aI cy 6 z_barred_35)] H := hP
    have hD : va_D A [(q0, oB 3 [.ref q_weights, .ref q_eats, .ref q_barred, .int (0 : Int32), .int (0 : Int32), .int z_pride, .int z_memory]), (q_weights, oB 4 [.ref q_weights_cells]), (q_weights_cells, aI cy 24 r_4), (q_eats, aI cy 6 z_eats_35), (q_barred, aI cy 6 z_barred_35)] := hD
    refine lv_aload_n hx hb dX3_empty_45 rfl (lv_at hl 0 rfl) ?_
    refine lv_iconst (v := 0) hx hb dX3_empty_46 (by decide) ?_
    refine va_put (D := D) (ci := 3) (v := .int (0 : Int32)) (ty := .int) (C := RX3) (T := TX3) (N := 7) hx hb hts kc1 tyX3 tyX3_ok nmX3 hown hK hP hD hS 0 rfl rfl 5 (by decide) kw7 (fun _ h9 => h9) rfl pfI rfl rfl (Nat.le_of_ble_eq_true rfl) dX3_empty_47 (fun H locs hP hD hS => ?_)
    have hP : va_P D vwCl [(q0, oB 3 [.ref q_weights, .ref q_eats, .ref q_barred, .int (0 : Int32), .int (0 : Int32), .int (0 : Int32), .int z_memory]), (q_weights, oB 4 [.ref q_weights_cells]), (q_weights_cells, aI cy 24 r_4), (q_eats, aI cy 6 z_eats_35), (q_barred, aI cy 6 z_barred_35)] H := hP
    have hD : va_D A [(q0, oB 3 [.ref q_weights, .ref q_eats, .ref q_barred, .int (0 : Int32), .int (0 : Int32), .int (0 : Int32), .int z_memory]), (q_weights, oB 4 [.ref q_weights_cells]), (q_weights_cells, aI cy 24 r_4), (q_eats, aI cy 6 z_eats_35), (q_barred, aI cy 6 z_barred_35)] := hD
    refine lv_aload_n hx hb dX3_empty_50 rfl (lv_at hl 0 rfl) ?_
    refine lv_iconst (v := 1) hx hb dX3_empty_51 (by decide) ?_
    refine va_put (D := D) (ci := 3) (v := .int (1 : Int32)) (ty := .int) (C := RX3) (T := TX3) (N := 7) hx hb hts kc1 tyX3 tyX3_ok nmX3 hown hK hP hD hS 0 rfl rfl 6 (by decide) kw8 (fun _ h9 => h9) rfl pfI rfl rfl (Nat.le_of_ble_eq_true rfl) dX3_empty_52 (fun H locs hP hD hS => ?_)
    have hP : va_P D vwCl [(q0, oB 3 [.ref q_weights, .ref q_eats, .ref q_barred, .int (0 : Int32), .int (0 : Int32), .int (0 : Int32), .int (1 : Int32)]), (q_weights, oB 4 [.ref q_weights_cells]), (q_weights_cells, aI cy 24 r_4), (q_eats, aI cy 6 z_eats_35), (q_barred, aI cy 6 z_barred_35)] H := hP
    have hD : va_D A [(q0, oB 3 [.ref q_weights, .ref q_eats, .ref q_barred, .int (0 : Int32), .int (0 : Int32), .int (0 : Int32), .int (1 : Int32)]), (q_weights, oB 4 [.ref q_weights_cells]), (q_weights_cells, aI cy 24 r_4), (q_eats, aI cy 6 z_eats_35), (q_barred, aI cy 6 z_barred_35)] := hD
    exact hret' _ _ _ _ _ _ _ _ _ _ _ dX3_empty_55 hf hP hD hS
  have hL9 : ∀ (n : Nat) (x1_9 : Int32) (z_eats_9 : Nat → Int32) (z_barred_9 : Nat → Int32) (H : Heap) (locs : List Loc) (ls : Array Slot), it3 (X3_empty_S9 r_4) n x1_9 z_eats_9 z_barred_9 = some r → va_P D vwCl [(q0, oB 3 [.ref q_weights, .ref q_eats, .ref q_barred, .int z_houses, .int z_law, .int z_pride, .int z_memory]), (q_weights, oB 4 [.ref q_weights_cells]), (q_weights_cells, aI cy 24 r_4), (q_eats, aI cy 6 z_eats_9), (q_barred, aI cy 6 z_barred_9)] H → va_D A [(q0, oB 3 [.ref q_weights, .ref q_eats, .ref q_barred, .int z_houses, .int z_law, .int z_pride, .int z_memory]), (q_weights, oB 4 [.ref q_weights_cells]), (q_weights_cells, aI cy 24 r_4), (q_eats, aI cy 6 z_eats_9), (q_barred, aI cy 6 z_barred_9)] → va_S A s.heap H locs → lv_has ls 2 [(0, .ref q0), (1, .int x1_9)] → W p l e rmX3_empty s m args below meth c H locs 0 0 Q (F0 m 9 ls []) := by
    intro n
    induction n with
    | zero => intro x1_9 z_eats_9 z_barred_9 H locs ls hf; exact absurd hf (by simp [it3])
    | succ n ih9 =>
      intro x1_9 z_eats_9 z_barred_9 H locs ls hf hP hD hS hl
      have hf : X3_empty_S9 r_4 (it3 (X3_empty_S9 r_4) n) x1_9 z_eats_9 z_barred_9 = some r := hf
      generalize it3 (X3_empty_S9 r_4) n = self_9 at hf ih9
      unfold X3_empty_S9 at hf
      refine lv_iload_n hx hb dX3_empty_9 rfl (lv_at hl 1 rfl) ?_
      refine lv_bipush (v := 6) hx hb dX3_empty_10 (by decide) ?_
      refine lv_icmp_ge (tgt := 35) hx hb dX3_empty_12 (by decide) (fun hc_12 => ?_) (fun hc_12 => ?_)
      · have hf := it_t hf hc_12
        exact hJ35 z_eats_9 z_barred_9 _ _ _ hf hP hD hS (lv_sub hl [0] rfl)
      · have hf := it_f hf hc_12
        refine lv_aload_n hx hb dX3_empty_15 rfl (lv_at hl 0 rfl) ?_
        refine va_get (D := D) (ci := 3) (v := .ref q_eats) (C := RX3) (T := TX3) (N := 7) hx hb hts kc1 hown hK hP 0 rfl rfl 1 (by decide) kw9 (fun _ h9 => h9) rfl dX3_empty_16 ?_
        refine lv_iload_n hx hb dX3_empty_19 rfl (lv_at hl 1 rfl) ?_
        refine lv_iconst (v := 0) hx hb dX3_empty_20 (by decide) ?_
        obtain ⟨hg_21, hf⟩ := gd_some hf
        refine va_iast hx hb hK hP hD hS 3 0 rfl rfl hg_21 dX3_empty_21 (fun H locs hP hD hS => ?_)
        obtain ⟨z_eats_21, ez_eats_21⟩ : ∃ y : Nat → Int32, y = upd z_eats_9 x1_9.toNatClampNeg (0 : Int32) := ⟨_, rfl⟩
        have hf := lets_at hf ez_eats_21
        rw [← ez_eats_21] at hP hD
        have hP : va_P D vwCl [(q0, oB 3 [.ref q_weights, .ref q_eats, .ref q_barred, .int z_houses, .int z_law, .int z_pride, .int z_memory]), (q_weights, oB 4 [.ref q_weights_cells]), (q_weights_cells, aI cy 24 r_4), (q_eats, aI cy 6 z_eats_21), (q_barred, aI cy 6 z_barred_9)] H := hP
        have hD : va_D A [(q0, oB 3 [.ref q_weights, .ref q_eats, .ref q_barred, .int z_houses, .int z_law, .int z_pride, .int z_memory]), (q_weights, oB 4 [.ref q_weights_cells]), (q_weights_cells, aI cy 24 r_4), (q_eats, aI cy 6 z_eats_21), (q_barred, aI cy 6 z_barred_9)] := hD
        refine lv_aload_n hx hb dX3_empty_22 rfl (lv_at hl 0 rfl) ?_
        refine va_get (D := D) (ci := 3) (v := .ref q_barred) (C := RX3) (T := TX3) (N := 7) hx hb hts kc1 hown hK hP 0 rfl rfl 2 (by decide) kw10 (fun _ h9 => h9) rfl dX3_empty_23 ?_
        refine lv_iload_n hx hb dX3_empty_26 rfl (lv_at hl 1 rfl) ?_
        refine lv_iconst (v := 0) hx hb dX3_empty_27 (by decide) ?_
        obtain ⟨hg_28, hf⟩ := gd_some hf
        refine va_iast hx hb hK hP hD hS 4 0 rfl rfl hg_28 dX3_empty_28 (fun H locs hP hD hS => ?_)
        obtain ⟨z_barred_28, ez_barred_28⟩ : ∃ y : Nat → Int32, y = upd z_barred_9 x1_9.toNatClampNeg (0 : Int32) := ⟨_, rfl⟩
        have hf := lets_at hf ez_barred_28
        rw [← ez_barred_28] at hP hD
        have hP : va_P D vwCl [(q0, oB 3 [.ref q_weights, .ref q_eats, .ref q_barred, .int z_houses, .int z_law, .int z_pride, .int z_memory]), (q_weights, oB 4 [.ref q_weights_cells]), (q_weights_cells, aI cy 24 r_4), (q_eats, aI cy 6 z_eats_21), (q_barred, aI cy 6 z_barred_28)] H := hP
        have hD : va_D A [(q0, oB 3 [.ref q_weights, .ref q_eats, .ref q_barred, .int z_houses, .int z_law, .int z_pride, .int z_memory]), (q_weights, oB 4 [.ref q_weights_cells]), (q_weights_cells, aI cy 24 r_4), (q_eats, aI cy 6 z_eats_21), (q_barred, aI cy 6 z_barred_28)] := hD
        obtain ⟨x1_29, ex1_29⟩ : ∃ y : Int32, y = x1_9 + (1 : Int32) := ⟨_, rfl⟩
        have hf := lets_at hf ex1_29
        refine lv_iinc (v := x1_29) (lv' := [(1, .int x1_29), (0, .ref q0)]) hx hb dX3_empty_29 hl (k := 1) rfl (by rw [ex1_29]; rfl) (by decide) rfl (fun ls hl => ?_)
        refine lv_goto (tgt := 9) hx hb dX3_empty_32 (by decide) ?_
        exact ih9 x1_29 z_eats_21 z_barred_28 _ _ _ hf hP hD hS (lv_sub hl [1, 0] rfl)
  exact hL9 _ (0 : Int32) z_eats z_barred _ _ _ hf hP hD hS (lv_sub hl [1, 0] rfl)

def X3_addHouse_J44 (z_houses : Int32) (z_eats : Nat → Int32) (zb_ : Nat → Int32) (z_weights_cells_44 : Nat → Int32) : Option (Int32 × (Nat → Int32) × (Nat → Int32)) := gd (okx z_houses 6) (lets (upd z_eats z_houses.toNatClampNeg (zb_ (4 : Int32).toNatClampNeg)) (fun z_eats_55 => lets (z_houses + (1 : Int32)) (fun z_houses_63 => some (z_houses_63, z_weights_cells_44, z_eats_55))))
def X3_addHouse_S18 (z_houses : Int32) (z_eats : Nat → Int32) (zb_ : Nat → Int32) (self_18 : Int32 → (Nat → Int32) → Option (Int32 × (Nat → Int32) × (Nat → Int32))) (x2_18 : Int32) (z_weights_cells_18 : Nat → Int32) : Option (Int32 × (Nat → Int32) × (Nat → Int32)) := if (4 : Int32) ≤ x2_18 then (X3_addHouse_J44 z_houses z_eats zb_ z_weights_cells_18) else (gd (okx x2_18 5) ((fX4_put z_weights_cells_18 z_houses x2_18 (zb_ x2_18.toNatClampNeg)).bind (fun r_35 => lets (x2_18 + (1 : Int32)) (fun x2_38 => self_18 x2_38 r_35))))
def fX3_addHouse (z_houses : Int32) (z_weights_cells : Nat → Int32) (z_eats : Nat → Int32) (zb_ : Nat → Int32) : Option (Int32 × (Nat → Int32) × (Nat → Int32)) := if (6 : Int32) ≤ z_houses then (some (z_houses, z_weights_cells, z_eats)) else (if (4 : Int32) < (5 : Int32) then (it2 (X3_addHouse_S18 z_houses z_eats zb_) 100000 (0 : Int32) z_weights_cells) else (some (z_houses, z_weights_cells, z_eats)))
abbrev rmX3_addHouse : Room := { frames := 1, cells := 0, slots := 0, locals := 23 }
set_option maxHeartbeats 4000000 in
set_option maxRecDepth 100000 in
theorem ktX3_addHouse (l : Launch) (D : va_G) (cy : Nat → ClassId) (q0 : Nat) (q_weights : Nat) (q_eats : Nat) (q_barred : Nat) (q_weights_cells : Nat) (qb : Nat) (z_houses : Int32) (z_law : Int32) (z_pride : Int32) (z_memory : Int32) (z_weights_cells : Nat → Int32) (z_eats : Nat → Int32) (zb_ : Nat → Int32) (r : Int32 × (Nat → Int32) × (Nat → Int32)) (hf : fX3_addHouse z_houses z_weights_cells z_eats zb_ = some r) : CtV l yX3_addHouse wsX3_addHouse rmX3_addHouse D cy [.ref q0, .ref qb] [(q0, oB 3 [.ref q_weights, .ref q_eats, .ref q_barred, .int z_houses, .int z_law, .int z_pride, .int z_memory]), (q_weights, oB 4 [.ref q_weights_cells]), (q_weights_cells, aI cy 24 z_weights_cells), (q_eats, aI cy 6 z_eats), (qb, aI cy 5 zb_)] [(q0, oB 3 [.ref q_weights, .ref q_eats, .ref q_barred, .int r.1, .int z_law, .int z_pride, .int z_memory]), (q_weights, oB 4 [.ref q_weights_cells]), (q_weights_cells, aI cy 24 r.2.1), (q_eats, aI cy 6 r.2.2), (qb, aI cy 5 zb_)] := by
  refine Ct_ofV (cc := cX3_addHouse) (nL := 3) (by decide) rfl (Nat.le_of_ble_eq_true rfl) ?_
  intro p e s m args below meth c A Q hM hret hP hD hS ls hl
  obtain ⟨hx, hb, hml, hown, hts, hcx, hA, hsx⟩ := hM
  have hown : s.vm.findClass RX3 = some m.cls := hown
  have hK := hcx.1
  have hN := hcx.2
  have kw0 := hts (.fieldLink RX3 25 "EachBrings$Village" "houses" "I") (List.mem_of_getElem? (i := 1) rfl)
  have kc1 : ∀ w ∈ wsX30, w ∈ wsX3_addHouse := fun _ h => List.mem_cons_of_mem _ (List.mem_append_left _ (List.mem_append_right _ h))
  have kw2 := hts (.fieldLink RX3 18 "EachBrings$Village" "eats" "[I") (List.mem_of_getElem? (i := 3) rfl)
  have kw3 := hts (.fieldLink RX3 12 "EachBrings$Village" "weights" "LEachBrings$Weights;") (List.mem_of_getElem? (i := 2) rfl)
  have kw4 := hts (.initialized RX4) (List.mem_of_getElem? (i := 5) rfl)
  have kw5 := hts (.instanceMethod yX4_put) (List.mem_of_getElem? (i := 4) rfl)
  have kw6 := hts (.selects RX4 yX4_put yX4_put) (List.mem_of_getElem? (i := 6) rfl)
  have hl : lv_has ls 3 [(0, .ref q0), (1, .ref qb)] := hl
  have hret' : ∀ (pc : Nat) (ls : Array Slot) (H : Heap) (locs : List Loc) (w0 : Int32) (w1 : Nat → Int32) (w2 : Nat → Int32), decode cX3_addHouse pc = .ok (.return_, 1) → some (w0, w1, w2) = some r → va_P D vwCl [(q0, oB 3 [.ref q_weights, .ref q_eats, .ref q_barred, .int w0, .int z_law, .int z_pride, .int z_memory]), (q_weights, oB 4 [.ref q_weights_cells]), (q_weights_cells, aI cy 24 w1), (q_eats, aI cy 6 w2), (qb, aI cy 5 zb_)] H → va_D A [(q0, oB 3 [.ref q_weights, .ref q_eats, .ref q_barred, .int w0, .int z_law, .int z_pride, .int z_memory]), (q_weights, oB 4 [.ref q_weights_cells]), (q_weights_cells, aI cy 24 w1), (q_eats, aI cy 6 w2), (qb, aI cy 5 zb_)] → va_S A s.heap H locs → W p l e rmX3_addHouse s m args below meth c H locs 0 0 Q (F0 m pc ls []) := by
    intro pc ls H locs w0 w1 w2 hd he hP hD hS
    cases he
    exact hret _ _ _ _ hd hP hD hS
  unfold fX3_addHouse at hf
  refine lv_aload_n hx hb dX3_addHouse_0 rfl (lv_at hl 0 rfl) ?_
  refine va_get (D := D) (ci := 3) (v := .int z_houses) (C := RX3) (T := TX3) (N := 7) hx hb hts kc1 hown hK hP 0 rfl rfl 3 (by decide) kw0 (fun _ h9 => h9) rfl dX3_addHouse_1 ?_
  refine lv_bipush (v := 6) hx hb dX3_addHouse_4 (by decide) ?_
  refine lv_icmp_ge (tgt := 15) hx hb dX3_addHouse_6 (by decide) (fun hc_6 => ?_) (fun hc_6 => ?_)
  · have hf := it_t hf hc_6
    exact hret' _ _ _ _ _ _ _ dX3_addHouse_15 hf hP hD hS
  · have hf := it_f hf hc_6
    refine lv_aload_n hx hb dX3_addHouse_9 rfl (lv_at hl 1 rfl) ?_
    refine va_alen (v := 5) hx hb hK hP 4 0 rfl rfl rfl dX3_addHouse_10 ?_
    refine lv_iconst (v := 4) hx hb dX3_addHouse_11 (by decide) ?_
    refine lv_icmp_gt (tgt := 16) hx hb dX3_addHouse_12 (by decide) (fun hc_12 => ?_) (fun hc_12 => ?_)
    · have hf := it_t hf hc_12
      refine lv_iconst (v := 0) hx hb dX3_addHouse_16 (by decide) ?_
      refine lv_istore_n (lv' := [(2, .int (0 : Int32)), (0, .ref q0), (1, .ref qb)]) hx hb dX3_addHouse_17 rfl hl (by decide) rfl (fun ls hl => ?_)
      have hJ44 : ∀ (z_weights_cells_44 : Nat → Int32) (H : Heap) (locs : List Loc) (ls : Array Slot), X3_addHouse_J44 z_houses z_eats zb_ z_weights_cells_44 = some r → va_P D vwCl [(q0, oB 3 [.ref q_weights, .ref q_eats, .ref q_barred, .int z_houses, .int z_law, .int z_pride, .int z_memory]), (q_weights, oB 4 [.ref q_weights_cells]), (q_weights_cells, aI cy 24 z_weights_cells_44), (q_eats, aI cy 6 z_eats), (qb, aI cy 5 zb_)] H → va_D A [(q0, oB 3 [.ref q_weights, .ref q_eats, .ref q_barred, .int z_houses, .int z_law, .int z_pride, .int z_memory]), (q_weights, oB 4 [.ref q_weights_cells]), (q_weights_cells, aI cy 24 z_weights_cells_44), (q_eats, aI cy 6 z_eats), (qb, aI cy 5 zb_)] → va_S A s.heap H locs → lv_has ls 3 [(0, .ref q0), (1, .ref qb)] → W p l e rmX3_addHouse s m args below meth c H locs 0 0 Q (F0 m 44 ls []) := by
        intro z_weights_cells_44 H locs ls hf hP hD hS hl
        unfold X3_addHouse_J44 at hf
        refine lv_aload_n hx hb dX3_addHouse_44 rfl (lv_at hl 0 rfl) ?_
        refine va_get (D := D) (ci := 3) (v := .ref q_eats) (C := RX3) (T := TX3) (N := 7) hx hb hts kc1 hown hK hP 0 rfl rfl 1 (by decide) kw2 (fun _ h9 => h9) rfl dX3_addHouse_45 ?_
        refine lv_aload_n hx hb dX3_addHouse_48 rfl (lv_at hl 0 rfl) ?_
        refine va_get (D := D) (ci := 3) (v := .int z_houses) (C := RX3) (T := TX3) (N := 7) hx hb hts kc1 hown hK hP 0 rfl rfl 3 (by decide) kw0 (fun _ h9 => h9) rfl dX3_addHouse_49 ?_
        refine lv_aload_n hx hb dX3_addHouse_52 rfl (lv_at hl 1 rfl) ?_
        refine lv_iconst (v := 4) hx hb dX3_addHouse_53 (by decide) ?_
        refine va_iald hx hb hK hP 4 0 rfl rfl (by decide : okx (4 : Int32) 5) dX3_addHouse_54 ?_
        obtain ⟨hg_55, hf⟩ := gd_some hf
        refine va_iast hx hb hK hP hD hS 3 0 rfl rfl hg_55 dX3_addHouse_55 (fun H locs hP hD hS => ?_)
        obtain ⟨z_eats_55, ez_eats_55⟩ : ∃ y : Nat → Int32, y = upd z_eats z_houses.toNatClampNeg (zb_ (4 : Int32).toNatClampNeg) := ⟨_, rfl⟩
        have hf := lets_at hf ez_eats_55
        rw [← ez_eats_55] at hP hD
        have hP : va_P D vwCl [(q0, oB 3 [.ref q_weights, .ref q_eats, .ref q_barred, .int z_houses, .int z_law, .int z_pride, .int z_memory]), (q_weights, oB 4 [.ref q_weights_cells]), (q_weights_cells, aI cy 24 z_weights_cells_44), (q_eats, aI cy 6 z_eats_55), (qb, aI cy 5 zb_)] H := hP
        have hD : va_D A [(q0, oB 3 [.ref q_weights, .ref q_eats, .ref q_barred, .int z_houses, .int z_law, .int z_pride, .int z_memory]), (q_weights, oB 4 [.ref q_weights_cells]), (q_weights_cells, aI cy 24 z_weights_cells_44), (q_eats, aI cy 6 z_eats_55), (qb, aI cy 5 zb_)] := hD
        refine lv_aload_n hx hb dX3_addHouse_56 rfl (lv_at hl 0 rfl) ?_
        refine lv_dup hx hb dX3_addHouse_57 rfl ?_
        refine va_get (D := D) (ci := 3) (v := .int z_houses) (C := RX3) (T := TX3) (N := 7) hx hb hts kc1 hown hK hP 0 rfl rfl 3 (by decide) kw0 (fun _ h9 => h9) rfl dX3_addHouse_58 ?_
        refine lv_iconst (v := 1) hx hb dX3_addHouse_61 (by decide) ?_
        refine lv_iadd hx hb dX3_addHouse_62 ?_
        refine lv_topi (fun z_houses_63 ez_houses_63 => ?_)
        have hf := lets_at hf ez_houses_63
        refine va_put (D := D) (ci := 3) (v := .int z_houses_63) (ty := .int) (C := RX3) (T := TX3) (N := 7) hx hb hts kc1 tyX3 tyX3_ok nmX3 hown hK hP hD hS 0 rfl rfl 3 (by decide) kw0 (fun _ h9 => h9) rfl pfI rfl rfl (Nat.le_of_ble_eq_true rfl) dX3_addHouse_63 (fun H locs hP hD hS => ?_)
        have hP : va_P D vwCl [(q0, oB 3 [.ref q_weights, .ref q_eats, .ref q_barred, .int z_houses_63, .int z_law, .int z_pride, .int z_memory]), (q_weights, oB 4 [.ref q_weights_cells]), (q_weights_cells, aI cy 24 z_weights_cells_44), (q_eats, aI cy 6 z_eats_55), (qb, aI cy 5 zb_)] H := hP
        have hD : va_D A [(q0, oB 3 [.ref q_weights, .ref q_eats, .ref q_barred, .int z_houses_63, .int z_law, .int z_pride, .int z_memory]), (q_weights, oB 4 [.ref q_weights_cells]), (q_weights_cells, aI cy 24 z_weights_cells_44), (q_eats, aI cy 6 z_eats_55), (qb, aI cy 5 zb_)] := hD
        exact hret' _ _ _ _ _ _ _ dX3_addHouse_66 hf hP hD hS
      have hL18 : ∀ (n : Nat) (x2_18 : Int32) (z_weights_cells_18 : Nat → Int32) (H : Heap) (locs : List Loc) (ls : Array Slot), it2 (X3_addHouse_S18 z_houses z_eats zb_) n x2_18 z_weights_cells_18 = some r → va_P D vwCl [(q0, oB 3 [.ref q_weights, .ref q_eats, .ref q_barred, .int z_houses, .int z_law, .int z_pride, .int z_memory]), (q_weights, oB 4 [.ref q_weights_cells]), (q_weights_cells, aI cy 24 z_weights_cells_18), (q_eats, aI cy 6 z_eats), (qb, aI cy 5 zb_)] H → va_D A [(q0, oB 3 [.ref q_weights, .ref q_eats, .ref q_barred, .int z_houses, .int z_law, .int z_pride, .int z_memory]), (q_weights, oB 4 [.ref q_weights_cells]), (q_weights_cells, aI cy 24 z_weights_cells_18), (q_eats, aI cy 6 z_eats), (qb, aI cy 5 zb_)] → va_S A s.heap H locs → lv_has ls 3 [(0, .ref q0), (1, .ref qb), (2, .int x2_18)] → W p l e rmX3_addHouse s m args below meth c H locs 0 0 Q (F0 m 18 ls []) := by
        intro n
        induction n with
        | zero => intro x2_18 z_weights_cells_18 H locs ls hf; exact absurd hf (by simp [it2])
        | succ n ih18 =>
          intro x2_18 z_weights_cells_18 H locs ls hf hP hD hS hl
          have hf : X3_addHouse_S18 z_houses z_eats zb_ (it2 (X3_addHouse_S18 z_houses z_eats zb_) n) x2_18 z_weights_cells_18 = some r := hf
          generalize it2 (X3_addHouse_S18 z_houses z_eats zb_) n = self_18 at hf ih18
          unfold X3_addHouse_S18 at hf
          refine lv_iload_n hx hb dX3_addHouse_18 rfl (lv_at hl 2 rfl) ?_
          refine lv_iconst (v := 4) hx hb dX3_addHouse_19 (by decide) ?_
          refine lv_icmp_ge (tgt := 44) hx hb dX3_addHouse_20 (by decide) (fun hc_20 => ?_) (fun hc_20 => ?_)
          · have hf := it_t hf hc_20
            exact hJ44 z_weights_cells_18 _ _ _ hf hP hD hS (lv_sub hl [0, 1] rfl)
          · have hf := it_f hf hc_20
            refine lv_aload_n hx hb dX3_addHouse_23 rfl (lv_at hl 0 rfl) ?_
            refine va_get (D := D) (ci := 3) (v := .ref q_weights) (C := RX3) (T := TX3) (N := 7) hx hb hts kc1 hown hK hP 0 rfl rfl 0 (by decide) kw3 (fun _ h9 => h9) rfl dX3_addHouse_24 ?_
            refine lv_aload_n hx hb dX3_addHouse_27 rfl (lv_at hl 0 rfl) ?_
            refine va_get (D := D) (ci := 3) (v := .int z_houses) (C := RX3) (T := TX3) (N := 7) hx hb hts kc1 hown hK hP 0 rfl rfl 3 (by decide) kw0 (fun _ h9 => h9) rfl dX3_addHouse_28 ?_
            refine lv_iload_n hx hb dX3_addHouse_31 rfl (lv_at hl 2 rfl) ?_
            refine lv_aload_n hx hb dX3_addHouse_32 rfl (lv_at hl 1 rfl) ?_
            refine lv_iload_n hx hb dX3_addHouse_33 rfl (lv_at hl 2 rfl) ?_
            obtain ⟨hg_34, hf⟩ := gd_some hf
            refine va_iald hx hb hK hP 4 0 rfl rfl hg_34 dX3_addHouse_34 ?_
            obtain ⟨r_35, hr_35, hf⟩ := bd_some hf
            refine cl_v (wc := [(q_weights, oB 4 [.ref q_weights_cells]), (q_weights_cells, aI cy 24 z_weights_cells_18)]) (w1 := [(q_weights, oB 4 [.ref q_weights_cells]), (q_weights_cells, aI cy 24 r_35)]) (wr := [(q0, oB 3 [.ref q_weights, .ref q_eats, .ref q_barred, .int z_houses, .int z_law, .int z_pride, .int z_memory]), (q_eats, aI cy 6 z_eats), (qb, aI cy 5 zb_)]) (w2 := [(q0, oB 3 [.ref q_weights, .ref q_eats, .ref q_barred, .int z_houses, .int z_law, .int z_pride, .int z_memory]), (q_weights, oB 4 [.ref q_weights_cells]), (q_weights_cells, aI cy 24 r_35), (q_eats, aI cy 6 z_eats), (qb, aI cy 5 zb_)]) (va_runVN (C := RX4) (host := "EachBrings") (As := [.int z_houses, .int x2_18, .int (zb_ x2_18.toNatClampNeg)]) (rest := []) ⟨hx, hb, hml, hown, hts⟩ (ktX4_put l D cy q_weights q_weights_cells z_weights_cells_18 z_houses x2_18 (zb_ x2_18.toNatClampNeg) r_35 hr_35 _) ⟨va_cnB 3 hts gX3_addHouse_X4_put_n41 rfl rfl rfl (hN.at 37 rfl) kw4 (by decide +kernel) ⟨Nat.le_of_ble_eq_true rfl, Nat.le_of_ble_eq_true rfl⟩, kw5, kw6⟩ (pre_V (wc := [(q_weights, oB 4 [.ref q_weights_cells]), (q_weights_cells, aI cy 24 z_weights_cells_18)]) (ci := 4) hcx hsx hS hA hP hD [1, 2] rfl (by decide) rfl rfl) rfl rfl hl.1 rfl (lv_room (Nat.le_of_ble_eq_true rfl)) dX3_addHouse_35 ⟨Nat.zero_le _, Nat.zero_le _⟩) hP hD hS hA [1, 2] [0, 3, 4] [0, 3, 4, 1, 2] rfl rfl (by decide) (by decide) (by decide) rfl (fun H locs hP hD hS => ?_)
            obtain ⟨x2_38, ex2_38⟩ : ∃ y : Int32, y = x2_18 + (1 : Int32) := ⟨_, rfl⟩
            have hf := lets_at hf ex2_38
            refine lv_iinc (v := x2_38) (lv' := [(2, .int x2_38), (0, .ref q0), (1, .ref qb)]) hx hb dX3_addHouse_38 hl (k := 2) rfl (by rw [ex2_38]; rfl) (by decide) rfl (fun ls hl => ?_)
            refine lv_goto (tgt := 18) hx hb dX3_addHouse_41 (by decide) ?_
            exact ih18 x2_38 r_35 _ _ _ hf hP hD hS (lv_sub hl [1, 2, 0] rfl)
      exact hL18 _ (0 : Int32) z_weights_cells _ _ _ hf hP hD hS (lv_sub hl [1, 2, 0] rfl)
    · have hf := it_f hf hc_12
      exact hret' _ _ _ _ _ _ _ dX3_addHouse_15 hf hP hD hS

def fX3_bar (z_barred : Nat → Int32) (x1 : Int32) (x2 : Int32) : Option ((Nat → Int32)) := gd (okx x1 6) (gd (okx x1 6) (lets (upd z_barred x1.toNatClampNeg ((z_barred x1.toNatClampNeg) ||| ((1 : Int32) <<< (x2 &&& 31)))) (fun z_barred_11 => some z_barred_11)))
abbrev rmX3_bar : Room := { frames := 0, cells := 0, slots := 0, locals := 0 }
set_option maxHeartbeats 4000000 in
set_option maxRecDepth 100000 in
theorem ktX3_bar (l : Launch) (D : va_G) (cy : Nat → ClassId) (q0 : Nat) (q_weights : Nat) (q_eats : Nat) (q_barred : Nat) (z_houses : Int32) (z_law : Int32) (z_pride : Int32) (z_memory : Int32) (z_barred : Nat → Int32) (x1 : Int32) (x2 : Int32) (r : (Nat → Int32)) (hf : fX3_bar z_barred x1 x2 = some r) : CtV l yX3_bar wsX3_bar rmX3_bar D cy [.ref q0, .int x1, .int x2] [(q0, oB 3 [.ref q_weights, .ref q_eats, .ref q_barred, .int z_houses, .int z_law, .int z_pride, .int z_memory]), (q_barred, aI cy 6 z_barred)] [(q0, oB 3 [.ref q_weights, .ref q_eats, .ref q_barred, .int z_houses, .int z_law, .int z_pride, .int z_memory]), (q_barred, aI cy 6 r)] := by
  refine Ct_ofV (cc := cX3_bar) (nL := 3) (by decide) rfl (Nat.le_of_ble_eq_true rfl) ?_
  intro p e s m args below meth c A Q hM hret hP hD hS ls hl
  obtain ⟨hx, hb, hml, hown, hts, hcx, hA, hsx⟩ := hM
  have hown : s.vm.findClass RX3 = some m.cls := hown
  have hK := hcx.1
  have hN := hcx.2
  have kw0 := hts (.fieldLink RX3 22 "EachBrings$Village" "barred" "[I") (List.mem_of_getElem? (i := 1) rfl)
  have kc1 : ∀ w ∈ wsX30, w ∈ wsX3_bar := fun _ h => List.mem_cons_of_mem _ (List.mem_append_right _ h)
  have hl : lv_has ls 3 [(0, .ref q0), (1, .int x1), (2, .int x2)] := hl
  have hret' : ∀ (pc : Nat) (ls : Array Slot) (H : Heap) (locs : List Loc) (w0 : Nat → Int32), decode cX3_bar pc = .ok (.return_, 1) → some w0 = some r → va_P D vwCl [(q0, oB 3 [.ref q_weights, .ref q_eats, .ref q_barred, .int z_houses, .int z_law, .int z_pride, .int z_memory]), (q_barred, aI cy 6 w0)] H → va_D A [(q0, oB 3 [.ref q_weights, .ref q_eats, .ref q_barred, .int z_houses, .int z_law, .int z_pride, .int z_memory]), (q_barred, aI cy 6 w0)] → va_S A s.heap H locs → W p l e rmX3_bar s m args below meth c H locs 0 0 Q (F0 m pc ls []) := by
    intro pc ls H locs w0 hd he hP hD hS
    cases he
    exact hret _ _ _ _ hd hP hD hS
  unfold fX3_bar at hf
  refine lv_aload_n hx hb dX3_bar_0 rfl (lv_at hl 0 rfl) ?_
  refine va_get (D := D) (ci := 3) (v := .ref q_barred) (C := RX3) (T := TX3) (N := 7) hx hb hts kc1 hown hK hP 0 rfl rfl 2 (by decide) kw0 (fun _ h9 => h9) rfl dX3_bar_1 ?_
  refine lv_iload_n hx hb dX3_bar_4 rfl (lv_at hl 1 rfl) ?_
  refine lv_dup2_11 hx hb dX3_bar_5 rfl rfl ?_
  obtain ⟨hg_6, hf⟩ := gd_some hf
  refine va_iald hx hb hK hP 1 0 rfl rfl hg_6 dX3_bar_6 ?_
  refine lv_iconst (v := 1) hx hb dX3_bar_7 (by decide) ?_
  refine lv_iload_n hx hb dX3_bar_8 rfl (lv_at hl 2 rfl) ?_
  refine lv_ishl hx hb dX3_bar_9 ?_
  refine lv_ior hx hb dX3_bar_10 ?_
  obtain ⟨hg_11, hf⟩ := gd_some hf
  refine va_iast hx hb hK hP hD hS 1 0 rfl rfl hg_11 dX3_bar_11 (fun H locs hP hD hS => ?_)
  obtain ⟨z_barred_11, ez_barred_11⟩ : ∃ y : Nat → Int32, y = upd z_barred x1.toNatClampNeg ((z_barred x1.toNatClampNeg) ||| ((1 : Int32) <<< (x2 &&& 31))) := ⟨_, rfl⟩
  have hf := lets_at hf ez_barred_11
  rw [← ez_barred_11] at hP hD
  have hP : va_P D vwCl [(q0, oB 3 [.ref q_weights, .ref q_eats, .ref q_barred, .int z_houses, .int z_law, .int z_pride, .int z_memory]), (q_barred, aI cy 6 z_barred_11)] H := hP
  have hD : va_D A [(q0, oB 3 [.ref q_weights, .ref q_eats, .ref q_barred, .int z_houses, .int z_law, .int z_pride, .int z_memory]), (q_barred, aI cy 6 z_barred_11)] := hD
  exact hret' _ _ _ _ _ dX3_bar_12 hf hP hD hS

def fX3_copyFrom (z_weights_cells : Nat → Int32) (z_eats : Nat → Int32) (z_barred : Nat → Int32) (zb_houses : Int32) (zb_law : Int32) (zb_pride : Int32) (zb_memory : Int32) (zb_weights_cells : Nat → Int32) (zb_eats : Nat → Int32) (zb_barred : Nat → Int32) : Option (Int32 × Int32 × Int32 × Int32 × (Nat → Int32) × (Nat → Int32) × (Nat → Int32)) := (fX4_copyFrom z_weights_cells zb_weights_cells).bind (fun r_8 => lets (va_cpy zb_eats z_eats 0 0 6) (fun z_eats_23 => lets (va_cpy zb_barred z_barred 0 0 6) (fun z_barred_38 => some (zb_houses, zb_law, zb_pride, zb_memory, r_8, z_eats_23, z_barred_38))))
abbrev rmX3_copyFrom : Room := { frames := 2, cells := 0, slots := 0, locals := 81 }
set_option maxHeartbeats 4000000 in
set_option maxRecDepth 100000 in
theorem ktX3_copyFrom (l : Launch) (D : va_G) (cy : Nat → ClassId) (q0 : Nat) (q_weights : Nat) (q_eats : Nat) (q_barred : Nat) (q_weights_cells : Nat) (qb : Nat) (qb_weights : Nat) (qb_eats : Nat) (qb_barred : Nat) (qb_weights_cells : Nat) (z_houses : Int32) (z_law : Int32) (z_pride : Int32) (z_memory : Int32) (z_weights_cells : Nat → Int32) (z_eats : Nat → Int32) (z_barred : Nat → Int32) (zb_houses : Int32) (zb_law : Int32) (zb_pride : Int32) (zb_memory : Int32) (zb_weights_cells : Nat → Int32) (zb_eats : Nat → Int32) (zb_barred : Nat → Int32) (r : Int32 × Int32 × Int32 × Int32 × (Nat → Int32) × (Nat → Int32) × (Nat → Int32)) (hf : fX3_copyFrom z_weights_cells z_eats z_barred zb_houses zb_law zb_pride zb_memory zb_weights_cells zb_eats zb_barred = some r) : CtV l yX3_copyFrom wsX3_copyFrom rmX3_copyFrom D cy [.ref q0, .ref qb] [(q0, oB 3 [.ref q_weights, .ref q_eats, .ref q_barred, .int z_houses, .int z_law, .int z_pride, .int z_memory]), (q_weights, oB 4 [.ref q_weights_cells]), (q_weights_cells, aI cy 24 z_weights_cells), (q_eats, aI cy 6 z_eats), (q_barred, aI cy 6 z_barred), (qb, oB 3 [.ref qb_weights, .ref qb_eats, .ref qb_barred, .int zb_houses, .int zb_law, .int zb_pride, .int zb_memory]), (qb_weights, oB 4 [.ref qb_weights_cells]), (qb_weights_cells, aI cy 24 zb_weights_cells), (qb_eats, aI cy 6 zb_eats), (qb_barred, aI cy 6 zb_barred)] [(q0, oB 3 [.ref q_weights, .ref q_eats, .ref q_barred, .int r.1, .int r.2.1, .int r.2.2.1, .int r.2.2.2.1]), (q_weights, oB 4 [.ref q_weights_cells]), (q_weights_cells, aI cy 24 r.2.2.2.2.1), (q_eats, aI cy 6 r.2.2.2.2.2.1), (q_barred, aI cy 6 r.2.2.2.2.2.2), (qb, oB 3 [.ref qb_weights, .ref qb_eats, .ref qb_barred, .int zb_houses, .int zb_law, .int zb_pride, .int zb_memory]), (qb_weights, oB 4 [.ref qb_weights_cells]), (qb_weights_cells, aI cy 24 zb_weights_cells), (qb_eats, aI cy 6 zb_eats), (qb_barred, aI cy 6 zb_barred)] := by
  refine Ct_ofV (cc := cX3_copyFrom) (nL := 2) (by decide) rfl (Nat.le_of_ble_eq_true rfl) ?_
  intro p e s m args below meth c A Q hM hret hP hD hS ls hl
  obtain ⟨hx, hb, hml, hown, hts, hcx, hA, hsx⟩ := hM
  have hown : s.vm.findClass RX3 = some m.cls := hown
  have hK := hcx.1
  have hN := hcx.2
  have kw0 := hts (.fieldLink RX3 12 "EachBrings$Village" "weights" "LEachBrings$Weights;") (List.mem_of_getElem? (i := 1) rfl)
  have kc1 : ∀ w ∈ wsX30, w ∈ wsX3_copyFrom := fun _ h => List.mem_cons_of_mem _ (List.mem_append_left _ (List.mem_append_right _ h))
  have kw2 := hts (.initialized RX4) (List.mem_of_getElem? (i := 13) rfl)
  have kw3 := hts (.instanceMethod yX4_copyFrom) (List.mem_of_getElem? (i := 12) rfl)
  have kw4 := hts (.selects RX4 yX4_copyFrom yX4_copyFrom) (List.mem_of_getElem? (i := 14) rfl)
  have kw5 := hts (.fieldLink RX3 18 "EachBrings$Village" "eats" "[I") (List.mem_of_getElem? (i := 2) rfl)
  have kw6 := hts (.methodLink RX3 49 arraycopyName) (List.mem_of_getElem? (i := 3) rfl)
  have kw7 := hts (.native arraycopyName) (List.mem_of_getElem? (i := 4) rfl)
  have kw8 := hts (.static arraycopyName) (List.mem_of_getElem? (i := 5) rfl)
  have kw9 := hts (.initialized "java/lang/System") (List.mem_of_getElem? (i := 6) rfl)
  have kw10 := hts (.fieldLink RX3 22 "EachBrings$Village" "barred" "[I") (List.mem_of_getElem? (i := 7) rfl)
  have kw11 := hts (.fieldLink RX3 25 "EachBrings$Village" "houses" "I") (List.mem_of_getElem? (i := 8) rfl)
  have kw12 := hts (.fieldLink RX3 29 "EachBrings$Village" "law" "I") (List.mem_of_getElem? (i := 9) rfl)
  have kw13 := hts (.fieldLink RX3 32 "EachBrings$Village" "pride" "I") (List.mem_of_getElem? (i := 10) rfl)
  have kw14 := hts (.fieldLink RX3 35 "EachBrings$Village" "memory" "I") (List.mem_of_getElem? (i := 11) rfl)
  have hl : lv_has ls 2 [(0, .ref q0), (1, .ref qb)] := hl
  have hret' : ∀ (pc : Nat) (ls : Array Slot) (H : Heap) (locs : List Loc) (w0 : Int32) (w1 : Int32) (w2 : Int32) (w3 : Int32) (w4 : Nat → Int32) (w5 : Nat → Int32) (w6 : Nat → Int32), decode cX3_copyFrom pc = .ok (.return_, 1) → some (w0, w1, w2, w3, w4, w5, w6) = some r → va_P D vwCl [(q0, oB 3 [.ref q_weights, .ref q_eats, .ref q_barred, .int w0, .int w1, .int w2, .int w3]), (q_weights, oB 4 [.ref q_weights_cells]), (q_weights_cells, aI cy 24 w4), (q_eats, aI cy 6 w5), (q_barred, aI cy 6 w6), (qb, oB 3 [.ref qb_weights, .ref qb_eats, .ref qb_barred, .int zb_houses, .int zb_law, .int zb_pride, .int zb_memory]), (qb_weights, oB 4 [.ref qb_weights_cells]), (qb_weights_cells, aI cy 24 zb_weights_cells), (qb_eats, aI cy 6 zb_eats), (qb_barred, aI cy 6 zb_barred)] H → va_D A [(q0, oB 3 [.ref q_weights, .ref q_eats, .ref q_barred, .int w0, .int w1, .int w2, .int w3]), (q_weights, oB 4 [.ref q_weights_cells]), (q_weights_cells, aI cy 24 w4), (q_eats, aI cy 6 w5), (q_barred, aI cy 6 w6), (qb, oB 3 [.ref qb_weights, .ref qb_eats, .ref qb_barred, .int zb_houses, .int zb_law, .int zb_pride, .int zb_memory]), (qb_weights, oB 4 [.ref qb_weights_cells]), (qb_weights_cells, aI cy 24 zb_weights_cells), (qb_eats, aI cy 6 zb_eats), (qb_barred, aI cy 6 zb_barred)] → va_S A s.heap H locs → W p l e rmX3_copyFrom s m args below meth c H locs 0 0 Q (F0 m pc ls []) := by
    intro pc ls H locs w0 w1 w2 w3 w4 w5 w6 hd he hP hD hS
    cases he
    exact hret _ _ _ _ hd hP hD hS
  unfold fX3_copyFrom at hf
  refine lv_aload_n hx hb dX3_copyFrom_0 rfl (lv_at hl 0 rfl) ?_
  refine va_get (D := D) (ci := 3) (v := .ref q_weights) (C := RX3) (T := TX3) (N := 7) hx hb hts kc1 hown hK hP 0 rfl rfl 0 (by decide) kw0 (fun _ h9 => h9) rfl dX3_copyFrom_1 ?_
  refine lv_aload_n hx hb dX3_copyFrom_4 rfl (lv_at hl 1 rfl) ?_
  refine va_get (D := D) (ci := 3) (v := .ref qb_weights) (C := RX3) (T := TX3) (N := 7) hx hb hts kc1 hown hK hP 5 rfl rfl 0 (by decide) kw0 (fun _ h9 => h9) rfl dX3_copyFrom_5 ?_
  obtain ⟨r_8, hr_8, hf⟩ := bd_some hf
  refine cl_v (wc := [(q_weights, oB 4 [.ref q_weights_cells]), (q_weights_cells, aI cy 24 z_weights_cells), (qb_weights, oB 4 [.ref qb_weights_cells]), (qb_weights_cells, aI cy 24 zb_weights_cells)]) (w1 := [(q_weights, oB 4 [.ref q_weights_cells]), (q_weights_cells, aI cy 24 r_8), (qb_weights, oB 4 [.ref qb_weights_cells]), (qb_weights_cells, aI cy 24 zb_weights_cells)]) (wr := [(q0, oB 3 [.ref q_weights, .ref q_eats, .ref q_barred, .int z_houses, .int z_law, .int z_pride, .int z_memory]), (q_eats, aI cy 6 z_eats), (q_barred, aI cy 6 z_barred), (qb, oB 3 [.ref qb_weights, .ref qb_eats, .ref qb_barred, .int zb_houses, .int zb_law, .int zb_pride, .int zb_memory]), (qb_eats, aI cy 6 zb_eats), (qb_barred, aI cy 6 zb_barred)]) (w2 := [(q0, oB 3 [.ref q_weights, .ref q_eats, .ref q_barred, .int z_houses, .int z_law, .int z_pride, .int z_memory]), (q_weights, oB 4 [.ref q_weights_cells]), (q_weights_cells, aI cy 24 r_8), (q_eats, aI cy 6 z_eats), (q_barred, aI cy 6 z_barred), (qb, oB 3 [.ref qb_weights, .ref qb_eats, .ref qb_barred, .int zb_houses, .int zb_law, .int zb_pride, .int zb_memory]), (qb_weights, oB 4 [.ref qb_weights_cells]), (qb_weights_cells, aI cy 24 zb_weights_cells), (qb_eats, aI cy 6 zb_eats), (qb_barred, aI cy 6 zb_barred)]) (va_runVN (C := RX4) (host := "EachBrings") (As := [.ref qb_weights]) (rest := []) ⟨hx, hb, hml, hown, hts⟩ (ktX4_copyFrom l D cy q_weights q_weights_cells qb_weights qb_weights_cells z_weights_cells zb_weights_cells r_8 hr_8 _) ⟨va_cnB 1 hts gX3_copyFrom_X4_copyFrom_n45 rfl rfl rfl (hN.at 40 rfl) kw2 (by decide +kernel) ⟨Nat.le_of_ble_eq_true rfl, Nat.le_of_ble_eq_true rfl⟩, kw3, kw4⟩ (pre_V (wc := [(q_weights, oB 4 [.ref q_weights_cells]), (q_weights_cells, aI cy 24 z_weights_cells), (qb_weights, oB 4 [.ref qb_weights_cells]), (qb_weights_cells, aI cy 24 zb_weights_cells)]) (ci := 4) hcx hsx hS hA hP hD [1, 2, 6, 7] rfl (by decide) rfl rfl) rfl rfl hl.1 rfl (lv_room (Nat.le_of_ble_eq_true rfl)) dX3_copyFrom_8 ⟨Nat.zero_le _, Nat.zero_le _⟩) hP hD hS hA [1, 2, 6, 7] [0, 3, 4, 5, 8, 9] [0, 6, 7, 1, 2, 3, 8, 9, 4, 5] rfl rfl (by decide) (by decide) (by decide) rfl (fun H locs hP hD hS => ?_)
  refine lv_aload_n hx hb dX3_copyFrom_11 rfl (lv_at hl 1 rfl) ?_
  refine va_get (D := D) (ci := 3) (v := .ref qb_eats) (C := RX3) (T := TX3) (N := 7) hx hb hts kc1 hown hK hP 5 rfl rfl 1 (by decide) kw5 (fun _ h9 => h9) rfl dX3_copyFrom_12 ?_
  refine lv_iconst (v := 0) hx hb dX3_copyFrom_15 (by decide) ?_
  refine lv_aload_n hx hb dX3_copyFrom_16 rfl (lv_at hl 0 rfl) ?_
  refine va_get (D := D) (ci := 3) (v := .ref q_eats) (C := RX3) (T := TX3) (N := 7) hx hb hts kc1 hown hK hP 0 rfl rfl 1 (by decide) kw5 (fun _ h9 => h9) rfl dX3_copyFrom_17 ?_
  refine lv_iconst (v := 0) hx hb dX3_copyFrom_20 (by decide) ?_
  refine lv_bipush (v := 6) hx hb dX3_copyFrom_21 (by decide) ?_
  refine va_copyi (ty := .int) hx hb (hml.trans hl.1.symm) hown kw6 kw7 kw8 kw9 hK hP hD hS 8 3 0 0 rfl rfl rfl rfl rfl (by decide) (by decide) (by decide) (by decide) (by decide) (fun _ _ => rfl) (Nat.le_of_ble_eq_true rfl) (by decide) dX3_copyFrom_23 (fun H locs hP hD hS => ?_)
  obtain ⟨z_eats_23, ez_eats_23⟩ : ∃ y : Nat → Int32, y = va_cpy zb_eats z_eats 0 0 6 := ⟨_, rfl⟩
  have hf := lets_at hf ez_eats_23
  have hP : va_P D vwCl [(q0, oB 3 [.ref q_weights, .ref q_eats, .ref q_barred, .int z_houses, .int z_law, .int z_pride, .int z_memory]), (q_weights, oB 4 [.ref q_weights_cells]), (q_weights_cells, aI cy 24 r_8), (q_eats, aI cy 6 z_eats_23), (q_barred, aI cy 6 z_barred), (qb, oB 3 [.ref qb_weights, .ref qb_eats, .ref qb_barred, .int zb_houses, .int zb_law, .int zb_pride, .int zb_memory]), (qb_weights, oB 4 [.ref qb_weights_cells]), (qb_weights_cells, aI cy 24 zb_weights_cells), (qb_eats, aI cy 6 zb_eats), (qb_barred, aI cy 6 zb_barred)] H := by rw [ez_eats_23]; exact hP
  have hD : va_D A [(q0, oB 3 [.ref q_weights, .ref q_eats, .ref q_barred, .int z_houses, .int z_law, .int z_pride, .int z_memory]), (q_weights, oB 4 [.ref q_weights_cells]), (q_weights_cells, aI cy 24 r_8), (q_eats, aI cy 6 z_eats_23), (q_barred, aI cy 6 z_barred), (qb, oB 3 [.ref qb_weights, .ref qb_eats, .ref qb_barred, .int zb_houses, .int zb_law, .int zb_pride, .int zb_memory]), (qb_weights, oB 4 [.ref qb_weights_cells]), (qb_weights_cells, aI cy 24 zb_weights_cells), (qb_eats, aI cy 6 zb_eats), (qb_barred, aI cy 6 zb_barred)] := by rw [ez_eats_23]; exact hD
  refine lv_aload_n hx hb dX3_copyFrom_26 rfl (lv_at hl 1 rfl) ?_
  refine va_get (D := D) (ci := 3) (v := .ref qb_barred) (C := RX3) (T := TX3) (N := 7) hx hb hts kc1 hown hK hP 5 rfl rfl 2 (by decide) kw10 (fun _ h9 => h9) rfl dX3_copyFrom_27 ?_
  refine lv_iconst (v := 0) hx hb dX3_copyFrom_30 (by decide) ?_
  refine lv_aload_n hx hb dX3_copyFrom_31 rfl (lv_at hl 0 rfl) ?_
  refine va_get (D := D) (ci := 3) (v := .ref q_barred) (C := RX3) (T := TX3) (N := 7) hx hb hts kc1 hown hK hP 0 rfl rfl 2 (by decide) kw10 (fun _ h9 => h9) rfl dX3_copyFrom_32 ?_
  refine lv_iconst (v := 0) hx hb dX3_copyFrom_35 (by decide) ?_
  refine lv_bipush (v := 6) hx hb dX3_copyFrom_36 (by decide) ?_
  refine va_copyi (ty := .int) hx hb (hml.trans hl.1.symm) hown kw6 kw7 kw8 kw9 hK hP hD hS 9 4 0 0 rfl rfl rfl rfl rfl (by decide) (by decide) (by decide) (by decide) (by decide) (fun _ _ => rfl) (Nat.le_of_ble_eq_true rfl) (by decide) dX3_copyFrom_38 (fun H locs hP hD hS => ?_)
  obtain ⟨z_barred_38, ez_barred_38⟩ : ∃ y : Nat → Int32, y = va_cpy zb_barred z_barred 0 0 6 := ⟨_, rfl⟩
  have hf := lets_at hf ez_barred_38
  have hP : va_P D vwCl [(q0, oB 3 [.ref q_weights, .ref q_eats, .ref q_barred, .int z_houses, .int z_law, .int z_pride, .int z_memory]), (q_weights, oB 4 [.ref q_weights_cells]), (q_weights_cells, aI cy 24 r_8), (q_eats, aI cy 6 z_eats_23), (q_barred, aI cy 6 z_barred_38), (qb, oB 3 [.ref qb_weights, .ref qb_eats, .ref qb_barred, .int zb_houses, .int zb_law, .int zb_pride, .int zb_memory]), (qb_weights, oB 4 [.ref qb_weights_cells]), (qb_weights_cells, aI cy 24 zb_weights_cells), (qb_eats, aI cy 6 zb_eats), (qb_barred, aI cy 6 zb_barred)] H := by rw [ez_barred_38]; exact hP
  have hD : va_D A [(q0, oB 3 [.ref q_weights, .ref q_eats, .ref q_barred, .int z_houses, .int z_law, .int z_pride, .int z_memory]), (q_weights, oB 4 [.ref q_weights_cells]), (q_weights_cells, aI cy 24 r_8), (q_eats, aI cy 6 z_eats_23), (q_barred, aI cy 6 z_barred_38), (qb, oB 3 [.ref qb_weights, .ref qb_eats, .ref qb_barred, .int zb_houses, .int zb_law, .int zb_pride, .int zb_memory]), (qb_weights, oB 4 [.ref qb_weights_cells]), (qb_weights_cells, aI cy 24 zb_weights_cells), (qb_eats, aI cy 6 zb_eats), (qb_barred, aI cy 6 zb_barred)] := by rw [ez_barred_38]; exact hD
  refine lv_aload_n hx hb dX3_copyFrom_41 rfl (lv_at hl 0 rfl) ?_
  refine lv_aload_n hx hb dX3_copyFrom_42 rfl (lv_at hl 1 rfl) ?_
  refine va_get (D := D) (ci := 3) (v := .int zb_houses) (C := RX3) (T := TX3) (N := 7) hx hb hts kc1 hown hK hP 5 rfl rfl 3 (by decide) kw11 (fun _ h9 => h9) rfl dX3_copyFrom_43 ?_
  refine va_put (D := D) (ci := 3) (v := .int zb_houses) (ty := .int) (C := RX3) (T := TX3) (N := 7) hx hb hts kc1 tyX3 tyX3_ok nmX3 hown hK hP hD hS 0 rfl rfl 3 (by decide) kw11 (fun _ h9 => h9) rfl pfI rfl rfl (Nat.le_of_ble_eq_true rfl) dX3_copyFrom_46 (fun H locs hP hD hS => ?_)
  have hP : va_P D vwCl [(q0, oB 3 [.ref q_weights, .ref q_eats, .ref q_barred, .int zb_houses, .int z_law, .int z_pride, .int z_memory]), (q_weights, oB 4 [.ref q_weights_cells]), (q_weights_cells, aI cy 24 r_8), (q_eats, aI cy 6 z_eats_23), (q_barred, aI cy 6 z_barred_38), (qb, oB 3 [.ref qb_weights, .ref qb_eats, .ref qb_barred, .int zb_houses, .int zb_law, .int zb_pride, .int zb_memory]), (qb_weights, oB 4 [.ref qb_weights_cells]), (qb_weights_cells, aI cy 24 zb_weights_cells), (qb_eats, aI cy 6 zb_eats), (qb_barred, aI cy 6 zb_barred)] H := hP
  have hD : va_D A [(q0, oB 3 [.ref q_weights, .ref q_eats, .ref q_barred, .int zb_houses, .int z_law, .int z_pride, .int z_memory]), (q_weights, oB 4 [.ref q_weights_cells]), (q_weights_cells, aI cy 24 r_8), (q_eats, aI cy 6 z_eats_23), (q_barred, aI cy 6 z_barred_38), (qb, oB 3 [.ref qb_weights, .ref qb_eats, .ref qb_barred, .int zb_houses, .int zb_law, .int zb_pride, .int zb_memory]), (qb_weights, oB 4 [.ref qb_weights_cells]), (qb_weights_cells, aI cy 24 zb_weights_cells), (qb_eats, aI cy 6 zb_eats), (qb_barred, aI cy 6 zb_barred)] := hD
  refine lv_aload_n hx hb dX3_copyFrom_49 rfl (lv_at hl 0 rfl) ?_
  refine lv_aload_n hx hb dX3_copyFrom_50 rfl (lv_at hl 1 rfl) ?_
  refine va_get (D := D) (ci := 3) (v := .int zb_law) (C := RX3) (T := TX3) (N := 7) hx hb hts kc1 hown hK hP 5 rfl rfl 4 (by decide) kw12 (fun _ h9 => h9) rfl dX3_copyFrom_51 ?_
  refine va_put (D := D) (ci := 3) (v := .int zb_law) (ty := .int) (C := RX3) (T := TX3) (N := 7) hx hb hts kc1 tyX3 tyX3_ok nmX3 hown hK hP hD hS 0 rfl rfl 4 (by decide) kw12 (fun _ h9 => h9) rfl pfI rfl rfl (Nat.le_of_ble_eq_true rfl) dX3_copyFrom_54 (fun H locs hP hD hS => ?_)
  have hP : va_P D vwCl [(q0, oB 3 [.ref q_weights, .ref q_eats, .ref q_barred, .int zb_houses, .int zb_law, .int z_pride, .int z_memory]), (q_weights, oB 4 [.ref q_weights_cells]), (q_weights_cells, aI cy 24 r_8), (q_eats, aI cy 6 z_eats_23), (q_barred, aI cy 6 z_barred_38), (qb, oB 3 [.ref qb_weights, .ref qb_eats, .ref qb_barred, .int zb_houses, .int zb_law, .int zb_pride, .int zb_memory]), (qb_weights, oB 4 [.ref qb_weights_cells]), (qb_weights_cells, aI cy 24 zb_weights_cells), (qb_eats, aI cy 6 zb_eats), (qb_barred, aI cy 6 zb_barred)] H := hP
  have hD : va_D A [(q0, oB 3 [.ref q_weights, .ref q_eats, .ref q_barred, .int zb_houses, .int zb_law, .int z_pride, .int z_memory]), (q_weights, oB 4 [.ref q_weights_cells]), (q_weights_cells, aI cy 24 r_8), (q_eats, aI cy 6 z_eats_23), (q_barred, aI cy 6 z_barred_38), (qb, oB 3 [.ref qb_weights, .ref qb_eats, .ref qb_barred, .int zb_houses, .int zb_law, .int zb_pride, .int zb_memory]), (qb_weights, oB 4 [.ref qb_weights_cells]), (qb_weights_cells, aI cy 24 zb_weights_cells), (qb_eats, aI cy 6 zb_eats), (qb_barred, aI cy 6 zb_barred)] := hD
  refine lv_aload_n hx hb dX3_copyFrom_57 rfl (lv_at hl 0 rfl) ?_
  refine lv_aload_n hx hb dX3_copyFrom_58 rfl (lv_at hl 1 rfl) ?_
  refine va_get (D := D) (ci := 3) (v := .int zb_pride) (C := RX3) (T := TX3) (N := 7) hx hb hts kc1 hown hK hP 5 rfl rfl 5 (by decide) kw13 (fun _ h9 => h9) rfl dX3_copyFrom_59 ?_
  refine va_put (D := D) (ci := 3) (v := .int zb_pride) (ty := .int) (C := RX3) (T := TX3) (N := 7) hx hb hts kc1 tyX3 tyX3_ok nmX3 hown hK hP hD hS 0 rfl rfl 5 (by decide) kw13 (fun _ h9 => h9) rfl pfI rfl rfl (Nat.le_of_ble_eq_true rfl) dX3_copyFrom_62 (fun H locs hP hD hS => ?_)
  have hP : va_P D vwCl [(q0, oB 3 [.ref q_weights, .ref q_eats, .ref q_barred, .int zb_houses, .int zb_law, .int zb_pride, .int z_memory]), (q_weights, oB 4 [.ref q_weights_cells]), (q_weights_cells, aI cy 24 r_8), (q_eats, aI cy 6 z_eats_23), (q_barred, aI cy 6 z_barred_38), (qb, oB 3 [.ref qb_weights, .ref qb_eats, .ref qb_barred, .int zb_houses, .int zb_law, .int zb_pride, .int zb_memory]), (qb_weights, oB 4 [.ref qb_weights_cells]), (qb_weights_cells, aI cy 24 zb_weights_cells), (qb_eats, aI cy 6 zb_eats), (qb_barred, aI cy 6 zb_barred)] H := hP
  have hD : va_D A [(q0, oB 3 [.ref q_weights, .ref q_eats, .ref q_barred, .int zb_houses, .int zb_law, .int zb_pride, .int z_memory]), (q_weights, oB 4 [.ref q_weights_cells]), (q_weights_cells, aI cy 24 r_8), (q_eats, aI cy 6 z_eats_23), (q_barred, aI cy 6 z_barred_38), (qb, oB 3 [.ref qb_weights, .ref qb_eats, .ref qb_barred, .int zb_houses, .int zb_law, .int zb_pride, .int zb_memory]), (qb_weights, oB 4 [.ref qb_weights_cells]), (qb_weights_cells, aI cy 24 zb_weights_cells), (qb_eats, aI cy 6 zb_eats), (qb_barred, aI cy 6 zb_barred)] := hD
  refine lv_aload_n hx hb dX3_copyFrom_65 rfl (lv_at hl 0 rfl) ?_
  refine lv_aload_n hx hb dX3_copyFrom_66 rfl (lv_at hl 1 rfl) ?_
  refine va_get (D := D) (ci := 3) (v := .int zb_memory) (C := RX3) (T := TX3) (N := 7) hx hb hts kc1 hown hK hP 5 rfl rfl 6 (by decide) kw14 (fun _ h9 => h9) rfl dX3_copyFrom_67 ?_
  refine va_put (D := D) (ci := 3) (v := .int zb_memory) (ty := .int) (C := RX3) (T := TX3) (N := 7) hx hb hts kc1 tyX3 tyX3_ok nmX3 hown hK hP hD hS 0 rfl rfl 6 (by decide) kw14 (fun _ h9 => h9) rfl pfI rfl rfl (Nat.le_of_ble_eq_true rfl) dX3_copyFrom_70 (fun H locs hP hD hS => ?_)
  have hP : va_P D vwCl [(q0, oB 3 [.ref q_weights, .ref q_eats, .ref q_barred, .int zb_houses, .int zb_law, .int zb_pride, .int zb_memory]), (q_weights, oB 4 [.ref q_weights_cells]), (q_weights_cells, aI cy 24 r_8), (q_eats, aI cy 6 z_eats_23), (q_barred, aI cy 6 z_barred_38), (qb, oB 3 [.ref qb_weights, .ref qb_eats, .ref qb_barred, .int zb_houses, .int zb_law, .int zb_pride, .int zb_memory]), (qb_weights, oB 4 [.ref qb_weights_cells]), (qb_weights_cells, aI cy 24 zb_weights_cells), (qb_eats, aI cy 6 zb_eats), (qb_barred, aI cy 6 zb_barred)] H := hP
  have hD : va_D A [(q0, oB 3 [.ref q_weights, .ref q_eats, .ref q_barred, .int zb_houses, .int zb_law, .int zb_pride, .int zb_memory]), (q_weights, oB 4 [.ref q_weights_cells]), (q_weights_cells, aI cy 24 r_8), (q_eats, aI cy 6 z_eats_23), (q_barred, aI cy 6 z_barred_38), (qb, oB 3 [.ref qb_weights, .ref qb_eats, .ref qb_barred, .int zb_houses, .int zb_law, .int zb_pride, .int zb_memory]), (qb_weights, oB 4 [.ref qb_weights_cells]), (qb_weights_cells, aI cy 24 zb_weights_cells), (qb_eats, aI cy 6 zb_eats), (qb_barred, aI cy 6 zb_barred)] := hD
  exact hret' _ _ _ _ _ _ _ _ _ _ _ dX3_copyFrom_73 hf hP hD hS
