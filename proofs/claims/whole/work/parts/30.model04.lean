def fX7_table (z_houses : Int32) (z_eats : Nat → Int32) (z_laws : Nat → Int32) (z_s : Nat → Int32) (x1 : Int32) (x2 : Int32) : Option (Int32 × Int32) := (fX7_isSort x1).bind (fun r_6 => if r_6 = 0 then (some ((-1 : Int32), (0 : Int32))) else ((fX7_in x2 (0 : Int32) (2 : Int32)).bind (fun r_15 => if r_15 = 0 then (some ((-1 : Int32), (0 : Int32))) else (if x2 = 0 then ((fX7_spoonsOf z_houses z_eats z_laws z_s x1).bind (fun r_29 => some (r_29, (0 : Int32)))) else (if x2 = (1 : Int32) then (gd (okx ((54 : Int32) + x1) 67) (some (z_s ((54 : Int32) + x1).toNatClampNeg, (0 : Int32)))) else ((fX7_broughtBy z_houses z_s x1).bind (fun r_54 => some (r_54, (0 : Int32)))))))))
abbrev rmX7_table : Room := { frames := 2, cells := 0, slots := 0, locals := 42 }
set_option maxHeartbeats 4000000 in
set_option maxRecDepth 100000 in
theorem ktX7_table (l : Launch) (D : va_G) (cy : Nat → ClassId) (q0 : Nat) (q_text : Nat) (q_weight : Nat) (q_eats : Nat) (q_barred : Nat) (q_laws : Nat) (q_s : Nat) (q_kept : Nat) (q_isKept : Nat) (q_years : Nat) (q_likely : Nat) (q_then : Nat) (q_row : Nat) (q_best : Nat) (z_thrown : Int32) (z_trace : Int64) (z_typed : Int32) (z_next : Int32) (z_token : Int32) (z_place : Int32) (z_value : Int32) (z_fault : Int32) (z_houses : Int32) (z_draftHouses : Int32) (z_all : Int64) (z_eats : Nat → Int32) (z_laws : Nat → Int32) (z_s : Nat → Int32) (x1 : Int32) (x2 : Int32) (r : Int32 × Int32) (hf : fX7_table z_houses z_eats z_laws z_s x1 x2 = some r) : CtI l yX7_table wsX7_table rmX7_table D cy [.ref q0, .int x1, .int x2] [(q0, oB 7 [.int z_thrown, .long z_trace, .ref q_text, .int z_typed, .int z_next, .int z_token, .int z_place, .int z_value, .int z_fault, .ref q_weight, .ref q_eats, .ref q_barred, .ref q_laws, .int z_houses, .int z_draftHouses, .ref q_s, .ref q_kept, .ref q_isKept, .ref q_years, .ref q_likely, .ref q_then, .long z_all, .ref q_row, .ref q_best]), (q_eats, aI cy 12 z_eats), (q_laws, aI cy 6 z_laws), (q_s, aI cy 67 z_s)] [(q0, oB 7 [.int r.2, .long z_trace, .ref q_text, .int z_typed, .int z_next, .int z_token, .int z_place, .int z_value, .int z_fault, .ref q_weight, .ref q_eats, .ref q_barred, .ref q_laws, .int z_houses, .int z_draftHouses, .ref q_s, .ref q_kept, .ref q_isKept, .ref q_years, .ref q_likely, .ref q_then, .long z_all, .ref q_row, .ref q_best]), (q_eats, aI cy 12 z_eats), (q_laws, aI cy 6 z_laws), (q_s, aI cy 67 z_s)] r.1 := by
  refine Ct_ofI (cc := cX7_table) (nL := 3) (by decide) rfl (Nat.le_of_ble_eq_true rfl) ?_
  intro p e s m args below meth c A Q hM hret hP hD hS ls hl
  obtain ⟨hx, hb, hml, hown, hts, hcx, hA, hsx⟩ := hM
  have hown : s.vm.findClass RX7 = some m.cls := hown
  have hK := hcx.1
  have hN := hcx.2
  have kw0 := hts (.fieldLink RX7 54 "EachBringsModel" "thrown" "I") (List.mem_of_getElem? (i := 1) rfl)
  have kc1 : ∀ w ∈ wsX70, w ∈ wsX7_table := fun _ h => List.mem_cons_of_mem _ (List.mem_append_right _ h)
  have kw2 := hts (.fieldLink RX7 25 "EachBringsModel" "s" "[I") (List.mem_of_getElem? (i := 2) rfl)
  have hl : lv_has ls 3 [(0, .ref q0), (1, .int x1), (2, .int x2)] := hl
  have hret' : ∀ (pc : Nat) (ls : Array Slot) (H : Heap) (locs : List Loc) (v : Int32) (w0 : Int32), decode cX7_table pc = .ok (.ireturn, 1) → some (v, w0) = some r → va_P D vwCl [(q0, oB 7 [.int w0, .long z_trace, .ref q_text, .int z_typed, .int z_next, .int z_token, .int z_place, .int z_value, .int z_fault, .ref q_weight, .ref q_eats, .ref q_barred, .ref q_laws, .int z_houses, .int z_draftHouses, .ref q_s, .ref q_kept, .ref q_isKept, .ref q_years, .ref q_likely, .ref q_then, .long z_all, .ref q_row, .ref q_best]), (q_eats, aI cy 12 z_eats), (q_laws, aI cy 6 z_laws), (q_s, aI cy 67 z_s)] H → va_D A [(q0, oB 7 [.int w0, .long z_trace, .ref q_text, .int z_typed, .int z_next, .int z_token, .int z_place, .int z_value, .int z_fault, .ref q_weight, .ref q_eats, .ref q_barred, .ref q_laws, .int z_houses, .int z_draftHouses, .ref q_s, .ref q_kept, .ref q_isKept, .ref q_years, .ref q_likely, .ref q_then, .long z_all, .ref q_row, .ref q_best]), (q_eats, aI cy 12 z_eats), (q_laws, aI cy 6 z_laws), (q_s, aI cy 67 z_s)] → va_S A s.heap H locs → W p l e rmX7_table s m args below meth c H locs 0 0 Q (F0 m pc ls [.int v]) := by
    intro pc ls H locs v w0 hd he hP hD hS
    cases he
    exact hret _ _ _ _ _ hd rfl hP hD hS
  unfold fX7_table at hf
  refine lv_aload_n hx hb dX7_table_0 rfl (lv_at hl 0 rfl) ?_
  refine lv_iconst (v := 0) hx hb dX7_table_1 (by decide) ?_
  refine va_put (D := D) (ci := 7) (v := .int (0 : Int32)) (ty := .int) (C := RX7) (T := TX7) (N := 24) hx hb hts kc1 tyX7 tyX7_ok nmX7 hown hK hP hD hS 0 rfl rfl 0 (by decide) kw0 (fun _ h9 => h9) rfl pfI rfl rfl (Nat.le_of_ble_eq_true rfl) dX7_table_2 (fun H locs hP hD hS => ?_)
  have hP : va_P D vwCl [(q0, oB 7 [.int (0 : Int32), .long z_trace, .ref q_text, .int z_typed, .int z_next, .int z_token, .int z_place, .int z_value, .int z_fault, .ref q_weight, .ref q_eats, .ref q_barred, .ref q_laws, .int z_houses, .int z_draftHouses, .ref q_s, .ref q_kept, .ref q_isKept, .ref q_years, .ref q_likely, .ref q_then, .long z_all, .ref q_row, .ref q_best]), (q_eats, aI cy 12 z_eats), (q_laws, aI cy 6 z_laws), (q_s, aI cy 67 z_s)] H := hP
  have hD : va_D A [(q0, oB 7 [.int (0 : Int32), .long z_trace, .ref q_text, .int z_typed, .int z_next, .int z_token, .int z_place, .int z_value, .int z_fault, .ref q_weight, .ref q_eats, .ref q_barred, .ref q_laws, .int z_houses, .int z_draftHouses, .ref q_s, .ref q_kept, .ref q_isKept, .ref q_years, .ref q_likely, .ref q_then, .long z_all, .ref q_row, .ref q_best]), (q_eats, aI cy 12 z_eats), (q_laws, aI cy 6 z_laws), (q_s, aI cy 67 z_s)] := hD
  refine lv_iload_n hx hb dX7_table_5 rfl (lv_at hl 1 rfl) ?_
  obtain ⟨r_6, hr_6, hf⟩ := bd_some hf
  refine cl_i (wc := []) (w1 := []) (wr := [(q0, oB 7 [.int (0 : Int32), .long z_trace, .ref q_text, .int z_typed, .int z_next, .int z_token, .int z_place, .int z_value, .int z_fault, .ref q_weight, .ref q_eats, .ref q_barred, .ref q_laws, .int z_houses, .int z_draftHouses, .ref q_s, .ref q_kept, .ref q_isKept, .ref q_years, .ref q_likely, .ref q_then, .long z_all, .ref q_row, .ref q_best]), (q_eats, aI cy 12 z_eats), (q_laws, aI cy 6 z_laws), (q_s, aI cy 67 z_s)]) (w2 := [(q0, oB 7 [.int (0 : Int32), .long z_trace, .ref q_text, .int z_typed, .int z_next, .int z_token, .int z_place, .int z_value, .int z_fault, .ref q_weight, .ref q_eats, .ref q_barred, .ref q_laws, .int z_houses, .int z_draftHouses, .ref q_s, .ref q_kept, .ref q_isKept, .ref q_years, .ref q_likely, .ref q_then, .long z_all, .ref q_row, .ref q_best]), (q_eats, aI cy 12 z_eats), (q_laws, aI cy 6 z_laws), (q_s, aI cy 67 z_s)]) (va_runS (As := [.int x1]) (rest := []) ⟨hx, hb, hml, hown, hts⟩ (ktX7_isSort l D cy x1 r_6 hr_6 _) (va_cwS 1 hts gX7_table_X7_isSort rfl rfl rfl (by decide +kernel) ⟨Nat.le_of_ble_eq_true rfl, Nat.le_of_ble_eq_true rfl⟩) (pre_S (wc := []) hcx hsx hS hA hP hD [] rfl (by decide)) rfl rfl hl.1 rfl (lv_room (Nat.le_of_ble_eq_true rfl)) dX7_table_6 ⟨Nat.zero_le _, Nat.zero_le _⟩) hP hD hS hA [] [0, 1, 2, 3] [0, 1, 2, 3] rfl rfl (by decide) (by decide) (by decide) rfl (fun H locs hP hD hS => ?_)
  refine lv_if_eq (tgt := 21) hx hb dX7_table_9 (by decide) (fun hc_9 => ?_) (fun hc_9 => ?_)
  · have hf := it_t hf hc_9
    refine lv_iconst (v := -1) hx hb dX7_table_21 (by decide) ?_
    exact hret' _ _ _ _ _ _ dX7_table_22 hf hP hD hS
  · have hf := it_f hf hc_9
    refine lv_iload_n hx hb dX7_table_12 rfl (lv_at hl 2 rfl) ?_
    refine lv_iconst (v := 0) hx hb dX7_table_13 (by decide) ?_
    refine lv_iconst (v := 2) hx hb dX7_table_14 (by decide) ?_
    obtain ⟨r_15, hr_15, hf⟩ := bd_some hf
    refine cl_i (wc := []) (w1 := []) (wr := [(q0, oB 7 [.int (0 : Int32), .long z_trace, .ref q_text, .int z_typed, .int z_next, .int z_token, .int z_place, .int z_value, .int z_fault, .ref q_weight, .ref q_eats, .ref q_barred, .ref q_laws, .int z_houses, .int z_draftHouses, .ref q_s, .ref q_kept, .ref q_isKept, .ref q_years, .ref q_likely, .ref q_then, .long z_all, .ref q_row, .ref q_best]), (q_eats, aI cy 12 z_eats), (q_laws, aI cy 6 z_laws), (q_s, aI cy 67 z_s)]) (w2 := [(q0, oB 7 [.int (0 : Int32), .long z_trace, .ref q_text, .int z_typed, .int z_next, .int z_token, .int z_place, .int z_value, .int z_fault, .ref q_weight, .ref q_eats, .ref q_barred, .ref q_laws, .int z_houses, .int z_draftHouses, .ref q_s, .ref q_kept, .ref q_isKept, .ref q_years, .ref q_likely, .ref q_then, .long z_all, .ref q_row, .ref q_best]), (q_eats, aI cy 12 z_eats), (q_laws, aI cy 6 z_laws), (q_s, aI cy 67 z_s)]) (va_runS (As := [.int x2, .int (0 : Int32), .int (2 : Int32)]) (rest := []) ⟨hx, hb, hml, hown, hts⟩ (ktX7_in l D cy x2 (0 : Int32) (2 : Int32) r_15 hr_15 _) (va_cwS 3 hts gX7_table_X7_in rfl rfl rfl (by decide +kernel) ⟨Nat.le_of_ble_eq_true rfl, Nat.le_of_ble_eq_true rfl⟩) (pre_S (wc := []) hcx hsx hS hA hP hD [] rfl (by decide)) rfl rfl hl.1 rfl (lv_room (Nat.le_of_ble_eq_true rfl)) dX7_table_15 ⟨Nat.zero_le _, Nat.zero_le _⟩) hP hD hS hA [] [0, 1, 2, 3] [0, 1, 2, 3] rfl rfl (by decide) (by decide) (by decide) rfl (fun H locs hP hD hS => ?_)
    refine lv_if_ne (tgt := 23) hx hb dX7_table_18 (by decide) (fun hc_18 => ?_) (fun hc_18 => ?_)
    · have hf := it_f hf hc_18
      refine lv_iload_n hx hb dX7_table_23 rfl (lv_at hl 2 rfl) ?_
      refine lv_if_ne (tgt := 35) hx hb dX7_table_24 (by decide) (fun hc_24 => ?_) (fun hc_24 => ?_)
      · have hf := it_f hf hc_24
        refine lv_iload_n hx hb dX7_table_35 rfl (lv_at hl 2 rfl) ?_
        refine lv_iconst (v := 1) hx hb dX7_table_36 (by decide) ?_
        refine lv_icmp_ne (tgt := 52) hx hb dX7_table_37 (by decide) (fun hc_37 => ?_) (fun hc_37 => ?_)
        · have hf := it_f hf hc_37
          refine lv_aload_n hx hb dX7_table_52 rfl (lv_at hl 0 rfl) ?_
          refine lv_iload_n hx hb dX7_table_53 rfl (lv_at hl 1 rfl) ?_
          obtain ⟨r_54, hr_54, hf⟩ := bd_some hf
          refine cl_i (wc := [(q0, oB 7 [.int (0 : Int32), .long z_trace, .ref q_text, .int z_typed, .int z_next, .int z_token, .int z_place, .int z_value, .int z_fault, .ref q_weight, .ref q_eats, .ref q_barred, .ref q_laws, .int z_houses, .int z_draftHouses, .ref q_s, .ref q_kept, .ref q_isKept, .ref q_years, .ref q_likely, .ref q_then, .long z_all, .ref q_row, .ref q_best]), (q_s, aI cy 67 z_s)]) (w1 := [(q0, oB 7 [.int (0 : Int32), .long z_trace, .ref q_text, .int z_typed, .int z_next, .int z_token, .int z_place, .int z_value, .int z_fault, .ref q_weight, .ref q_eats, .ref q_barred, .ref q_laws, .int z_houses, .int z_draftHouses, .ref q_s, .ref q_kept, .ref q_isKept, .ref q_years, .ref q_likely, .ref q_then, .long z_all, .ref q_row, .ref q_best]), (q_s, aI cy 67 z_s)]) (wr := [(q_eats, aI cy 12 z_eats), (q_laws, aI cy 6 z_laws)]) (w2 := [(q0, oB 7 [.int (0 : Int32), .long z_trace, .ref q_text, .int z_typed, .int z_next, .int z_token, .int z_place, .int z_value, .int z_fault, .ref q_weight, .ref q_eats, .ref q_barred, .ref q_laws, .int z_houses, .int z_draftHouses, .ref q_s, .ref q_kept, .ref q_isKept, .ref q_years, .ref q_likely, .ref q_then, .long z_all, .ref q_row, .ref q_best]), (q_eats, aI cy 12 z_eats), (q_laws, aI cy 6 z_laws), (q_s, aI cy 67 z_s)]) (va_runV (As := [.int x1]) (rest := []) ⟨hx, hb, hml, hown, hts⟩ (ktX7_broughtBy l D cy q0 q_text q_weight q_eats q_barred q_laws q_s q_kept q_isKept q_years q_likely q_then q_row q_best (0 : Int32) z_trace z_typed z_next z_token z_place z_value z_fault z_houses z_draftHouses z_all z_s x1 r_54 hr_54 _) (cwV 1 hts gX7_table_X7_broughtBy rfl rfl rfl (by decide +kernel) ⟨Nat.le_of_ble_eq_true rfl, Nat.le_of_ble_eq_true rfl⟩) (pre_V (wc := [(q0, oB 7 [.int (0 : Int32), .long z_trace, .ref q_text, .int z_typed, .int z_next, .int z_token, .int z_place, .int z_value, .int z_fault, .ref q_weight, .ref q_eats, .ref q_barred, .ref q_laws, .int z_houses, .int z_draftHouses, .ref q_s, .ref q_kept, .ref q_isKept, .ref q_years, .ref q_likely, .ref q_then, .long z_all, .ref q_row, .ref q_best]), (q_s, aI cy 67 z_s)]) (ci := 7) hcx hsx hS hA hP hD [0, 3] rfl (by decide) rfl rfl) rfl rfl hl.1 rfl (lv_room (Nat.le_of_ble_eq_true rfl)) dX7_table_54 ⟨Nat.zero_le _, Nat.zero_le _⟩) hP hD hS hA [0, 3] [1, 2] [2, 0, 1, 3] rfl rfl (by decide) (by decide) (by decide) rfl (fun H locs hP hD hS => ?_)
          exact hret' _ _ _ _ _ _ dX7_table_57 hf hP hD hS
        · have hf := it_t hf hc_37
          refine lv_aload_n hx hb dX7_table_40 rfl (lv_at hl 0 rfl) ?_
          refine va_get (D := D) (ci := 7) (v := .ref q_s) (C := RX7) (T := TX7) (N := 24) hx hb hts kc1 hown hK hP 0 rfl rfl 15 (by decide) kw2 (fun _ h9 => h9) rfl dX7_table_41 ?_
          refine lv_bipush (v := 54) hx hb dX7_table_44 (by decide) ?_
          refine lv_iload_n hx hb dX7_table_46 rfl (lv_at hl 1 rfl) ?_
          refine lv_iadd hx hb dX7_table_47 ?_
          obtain ⟨hg_48, hf⟩ := gd_some hf
          refine va_iald hx hb hK hP 3 0 rfl rfl hg_48 dX7_table_48 ?_
          refine lv_goto (tgt := 57) hx hb dX7_table_49 (by decide) ?_
          exact hret' _ _ _ _ _ _ dX7_table_57 hf hP hD hS
      · have hf := it_t hf hc_24
        refine lv_aload_n hx hb dX7_table_27 rfl (lv_at hl 0 rfl) ?_
        refine lv_iload_n hx hb dX7_table_28 rfl (lv_at hl 1 rfl) ?_
        obtain ⟨r_29, hr_29, hf⟩ := bd_some hf
        refine cl_i (wc := [(q0, oB 7 [.int (0 : Int32), .long z_trace, .ref q_text, .int z_typed, .int z_next, .int z_token, .int z_place, .int z_value, .int z_fault, .ref q_weight, .ref q_eats, .ref q_barred, .ref q_laws, .int z_houses, .int z_draftHouses, .ref q_s, .ref q_kept, .ref q_isKept, .ref q_years, .ref q_likely, .ref q_then, .long z_all, .ref q_row, .ref q_best]), (q_eats, aI cy 12 z_eats), (q_laws, aI cy 6 z_laws), (q_s, aI cy 67 z_s)]) (w1 := [(q0, oB 7 [.int (0 : Int32), .long z_trace, .ref q_text, .int z_typed, .int z_next, .int z_token, .int z_place, .int z_value, .int z_fault, .ref q_weight, .ref q_eats, .ref q_barred, .ref q_laws, .int z_houses, .int z_draftHouses, .ref q_s, .ref q_kept, .ref q_isKept, .ref q_years, .ref q_likely, .ref q_then, .long z_all, .ref q_row, .ref q_best]), (q_eats, aI cy 12 z_eats), (q_laws, aI cy 6 z_laws), (q_s, aI cy 67 z_s)]) (wr := []) (w2 := [(q0, oB 7 [.int (0 : Int32), .long z_trace, .ref q_text, .int z_typed, .int z_next, .int z_token, .int z_place, .int z_value, .int z_fault, .ref q_weight, .ref q_eats, .ref q_barred, .ref q_laws, .int z_houses, .int z_draftHouses, .ref q_s, .ref q_kept, .ref q_isKept, .ref q_years, .ref q_likely, .ref q_then, .long z_all, .ref q_row, .ref q_best]), (q_eats, aI cy 12 z_eats), (q_laws, aI cy 6 z_laws), (q_s, aI cy 67 z_s)]) (va_runV (As := [.int x1]) (rest := []) ⟨hx, hb, hml, hown, hts⟩ (ktX7_spoonsOf l D cy q0 q_text q_weight q_eats q_barred q_laws q_s q_kept q_isKept q_years q_likely q_then q_row q_best (0 : Int32) z_trace z_typed z_next z_token z_place z_value z_fault z_houses z_draftHouses z_all z_eats z_laws z_s x1 r_29 hr_29 _) (cwV 1 hts gX7_table_X7_spoonsOf rfl rfl rfl (by decide +kernel) ⟨Nat.le_of_ble_eq_true rfl, Nat.le_of_ble_eq_true rfl⟩) (pre_V (wc := [(q0, oB 7 [.int (0 : Int32), .long z_trace, .ref q_text, .int z_typed, .int z_next, .int z_token, .int z_place, .int z_value, .int z_fault, .ref q_weight, .ref q_eats, .ref q_barred, .ref q_laws, .int z_houses, .int z_draftHouses, .ref q_s, .ref q_kept, .ref q_isKept, .ref q_years, .ref q_likely, .ref q_then, .long z_all, .ref q_row, .ref q_best]), (q_eats, aI cy 12 z_eats), (q_laws, aI cy 6 z_laws), (q_s, aI cy 67 z_s)]) (ci := 7) hcx hsx hS hA hP hD [0, 1, 2, 3] rfl (by decide) rfl rfl) rfl rfl hl.1 rfl (lv_room (Nat.le_of_ble_eq_true rfl)) dX7_table_29 ⟨Nat.zero_le _, Nat.zero_le _⟩) hP hD hS hA [0, 1, 2, 3] [] [0, 1, 2, 3] rfl rfl (by decide) (by decide) (by decide) rfl (fun H locs hP hD hS => ?_)
        refine lv_goto (tgt := 57) hx hb dX7_table_32 (by decide) ?_
        exact hret' _ _ _ _ _ _ dX7_table_57 hf hP hD hS
    · have hf := it_t hf hc_18
      refine lv_iconst (v := -1) hx hb dX7_table_21 (by decide) ?_
      exact hret' _ _ _ _ _ _ dX7_table_22 hf hP hD hS

def X7_meal_J166 (self_4 : Int32 → Int32 → (Nat → Int32) → Option (Int32 × (Nat → Int32))) (t0_126 : Int32) (x2_166 : Int32) (z_s_166 : Nat → Int32) : Option (Int32 × (Nat → Int32)) := self_4 x2_166 t0_126 z_s_166
def X7_meal_J126 (x1 : Int32) (x2_4 : Int32) (z_s_4 : Nat → Int32) (self_4 : Int32 → Int32 → (Nat → Int32) → Option (Int32 × (Nat → Int32))) (x4_114 : Int32) (t0_126 : Int32) : Option (Int32 × (Nat → Int32)) := if t0_126 = 0 then (X7_meal_J166 self_4 t0_126 x2_4 z_s_4) else (gd (okx ((54 : Int32) + x4_114) 67) (gd (okx ((54 : Int32) + x4_114) 67) (lets (upd z_s_4 ((54 : Int32) + x4_114).toNatClampNeg ((z_s_4 ((54 : Int32) + x4_114).toNatClampNeg) - (1 : Int32))) (fun z_s_144 => gd (okx (((30 : Int32) + ((4 : Int32) * x1)) + x4_114) 67) (gd (okx (((30 : Int32) + ((4 : Int32) * x1)) + x4_114) 67) (lets (upd z_s_144 (((30 : Int32) + ((4 : Int32) * x1)) + x4_114).toNatClampNeg ((z_s_144 (((30 : Int32) + ((4 : Int32) * x1)) + x4_114).toNatClampNeg) + (1 : Int32))) (fun z_s_162 => lets (x2_4 + (1 : Int32)) (fun x2_163 => X7_meal_J166 self_4 t0_126 x2_163 z_s_162))))))))
def X7_meal_J114 (x1 : Int32) (x2_4 : Int32) (z_s_4 : Nat → Int32) (self_4 : Int32 → Int32 → (Nat → Int32) → Option (Int32 × (Nat → Int32))) (x4_114 : Int32) : Option (Int32 × (Nat → Int32)) := if x4_114 = (-9 : Int32) then (X7_meal_J126 x1 x2_4 z_s_4 self_4 x4_114 (0 : Int32)) else (X7_meal_J126 x1 x2_4 z_s_4 self_4 x4_114 (1 : Int32))
def X7_meal_J106 (x5_25 : Int32) (self_25 : Int32 → Int32 → Option (Int32 × (Nat → Int32))) (t0_106 : Int32) : Option (Int32 × (Nat → Int32)) := lets (x5_25 + (-1 : Int32)) (fun x5_108 => self_25 t0_106 x5_108)
def X7_meal_J104 (x4_25 : Int32) (x5_25 : Int32) (self_25 : Int32 → Int32 → Option (Int32 × (Nat → Int32))) : Option (Int32 × (Nat → Int32)) := X7_meal_J106 x5_25 self_25 x4_25
def X7_meal_J99 (x5_25 : Int32) (self_25 : Int32 → Int32 → Option (Int32 × (Nat → Int32))) : Option (Int32 × (Nat → Int32)) := X7_meal_J106 x5_25 self_25 x5_25
def X7_meal_J62 (z_s_4 : Nat → Int32) (x4_25 : Int32) (x5_25 : Int32) (self_25 : Int32 → Int32 → Option (Int32 × (Nat → Int32))) (t0_62 : Int32) : Option (Int32 × (Nat → Int32)) := if t0_62 = 0 then (X7_meal_J104 x4_25 x5_25 self_25) else (if x4_25 = (-9 : Int32) then (X7_meal_J99 x5_25 self_25) else (gd (okx ((54 : Int32) + x5_25) 67) (gd (okx ((54 : Int32) + x4_25) 67) (if (z_s_4 ((54 : Int32) + x5_25).toNatClampNeg) < (z_s_4 ((54 : Int32) + x4_25).toNatClampNeg) then (X7_meal_J104 x4_25 x5_25 self_25) else (X7_meal_J99 x5_25 self_25)))))
def X7_meal_J61 (z_s_4 : Nat → Int32) (x4_25 : Int32) (x5_25 : Int32) (self_25 : Int32 → Int32 → Option (Int32 × (Nat → Int32))) : Option (Int32 × (Nat → Int32)) := X7_meal_J62 z_s_4 x4_25 x5_25 self_25 (0 : Int32)
def X7_meal_S25 (z_barred : Nat → Int32) (x1 : Int32) (x2_4 : Int32) (z_s_4 : Nat → Int32) (self_4 : Int32 → Int32 → (Nat → Int32) → Option (Int32 × (Nat → Int32))) (self_25 : Int32 → Int32 → Option (Int32 × (Nat → Int32))) (x4_25 : Int32) (x5_25 : Int32) : Option (Int32 × (Nat → Int32)) := if x5_25 < 0 then (X7_meal_J114 x1 x2_4 z_s_4 self_4 x4_25) else (gd (okx ((54 : Int32) + x5_25) 67) (if (z_s_4 ((54 : Int32) + x5_25).toNatClampNeg) ≤ 0 then (X7_meal_J61 z_s_4 x4_25 x5_25 self_25) else (gd (okx x1 12) (if (((z_barred x1.toNatClampNeg) >>> (x5_25 &&& 31)) &&& (1 : Int32)) = 0 then (X7_meal_J62 z_s_4 x4_25 x5_25 self_25 (1 : Int32)) else (X7_meal_J61 z_s_4 x4_25 x5_25 self_25)))))
def X7_meal_S4 (z_eats : Nat → Int32) (z_barred : Nat → Int32) (x1 : Int32) (self_4 : Int32 → Int32 → (Nat → Int32) → Option (Int32 × (Nat → Int32))) (x2_4 : Int32) (x3_4 : Int32) (z_s_4 : Nat → Int32) : Option (Int32 × (Nat → Int32)) := if x3_4 = 0 then (some (x2_4, z_s_4)) else (gd (okx x1 12) (if (z_eats x1.toNatClampNeg) ≤ x2_4 then (some (x2_4, z_s_4)) else (it2 (X7_meal_S25 z_barred x1 x2_4 z_s_4 self_4) 100000 (-9 : Int32) (3 : Int32))))
def fX7_meal (z_eats : Nat → Int32) (z_barred : Nat → Int32) (z_s : Nat → Int32) (x1 : Int32) : Option (Int32 × (Nat → Int32)) := it3 (X7_meal_S4 z_eats z_barred x1) 100000 (0 : Int32) (1 : Int32) z_s
abbrev rmX7_meal : Room := { frames := 0, cells := 0, slots := 0, locals := 0 }
set_option maxHeartbeats 4000000 in
set_option maxRecDepth 100000 in
theorem ktX7_meal (l : Launch) (D : va_G) (cy : Nat → ClassId) (q0 : Nat) (q_text : Nat) (q_weight : Nat) (q_eats : Nat) (q_barred : Nat) (q_laws : Nat) (q_s : Nat) (q_kept : Nat) (q_isKept : Nat) (q_years : Nat) (q_likely : Nat) (q_then : Nat) (q_row : Nat) (q_best : Nat) (z_thrown : Int32) (z_trace : Int64) (z_typed : Int32) (z_next : Int32) (z_token : Int32) (z_place : Int32) (z_value : Int32) (z_fault : Int32) (z_houses : Int32) (z_draftHouses : Int32) (z_all : Int64) (z_eats : Nat → Int32) (z_barred : Nat → Int32) (z_s : Nat → Int32) (x1 : Int32) (r : Int32 × (Nat → Int32)) (hf : fX7_meal z_eats z_barred z_s x1 = some r) : CtI l yX7_meal wsX7_meal rmX7_meal D cy [.ref q0, .int x1] [(q0, oB 7 [.int z_thrown, .long z_trace, .ref q_text, .int z_typed, .int z_next, .int z_token, .int z_place, .int z_value, .int z_fault, .ref q_weight, .ref q_eats, .ref q_barred, .ref q_laws, .int z_houses, .int z_draftHouses, .ref q_s, .ref q_kept, .ref q_isKept, .ref q_years, .ref q_likely, .ref q_then, .long z_all, .ref q_row, .ref q_best]), (q_eats, aI cy 12 z_eats), (q_barred, aI cy 12 z_barred), (q_s, aI cy 67 z_s)] [(q0, oB 7 [.int z_thrown, .long z_trace, .ref q_text, .int z_typed, .int z_next, .int z_token, .int z_place, .int z_value, .int z_fault, .ref q_weight, .ref q_eats, .ref q_barred, .ref q_laws, .int z_houses, .int z_draftHouses, .ref q_s, .ref q_kept, .ref q_isKept, .ref q_years, .ref q_likely, .ref q_then, .long z_all, .ref q_row, .ref q_best]), (q_eats, aI cy 12 z_eats), (q_barred, aI cy 12 z_barred), (q_s, aI cy 67 r.2)] r.1 := by
  refine Ct_ofI (cc := cX7_meal) (nL := 7) (by decide) rfl (Nat.le_of_ble_eq_true rfl) ?_
  intro p e s m args below meth c A Q hM hret hP hD hS ls hl
  obtain ⟨hx, hb, hml, hown, hts, hcx, hA, hsx⟩ := hM
  have hown : s.vm.findClass RX7 = some m.cls := hown
  have hK := hcx.1
  have hN := hcx.2
  have kw0 := hts (.fieldLink RX7 16 "EachBringsModel" "eats" "[I") (List.mem_of_getElem? (i := 1) rfl)
  have kc1 : ∀ w ∈ wsX70, w ∈ wsX7_meal := fun _ h => List.mem_cons_of_mem _ (List.mem_append_right _ h)
  have kw2 := hts (.fieldLink RX7 25 "EachBringsModel" "s" "[I") (List.mem_of_getElem? (i := 2) rfl)
  have kw3 := hts (.fieldLink RX7 19 "EachBringsModel" "barred" "[I") (List.mem_of_getElem? (i := 3) rfl)
  have hl : lv_has ls 7 [(0, .ref q0), (1, .int x1)] := hl
  have hret' : ∀ (pc : Nat) (ls : Array Slot) (H : Heap) (locs : List Loc) (v : Int32) (w0 : Nat → Int32), decode cX7_meal pc = .ok (.ireturn, 1) → some (v, w0) = some r → va_P D vwCl [(q0, oB 7 [.int z_thrown, .long z_trace, .ref q_text, .int z_typed, .int z_next, .int z_token, .int z_place, .int z_value, .int z_fault, .ref q_weight, .ref q_eats, .ref q_barred, .ref q_laws, .int z_houses, .int z_draftHouses, .ref q_s, .ref q_kept, .ref q_isKept, .ref q_years, .ref q_likely, .ref q_then, .long z_all, .ref q_row, .ref q_best]), (q_eats, aI cy 12 z_eats), (q_barred, aI cy 12 z_barred), (q_s, aI cy 67 w0)] H → va_D A [(q0, oB 7 [.int z_thrown, .long z_trace, .ref q_text, .int z_typed, .int z_next, .int z_token, .int z_place, .int z_value, .int z_fault, .ref q_weight, .ref q_eats, .ref q_barred, .ref q_laws, .int z_houses, .int z_draftHouses, .ref q_s, .ref q_kept, .ref q_isKept, .ref q_years, .ref q_likely, .ref q_then, .long z_all, .ref q_row, .ref q_best]), (q_eats, aI cy 12 z_eats), (q_barred, aI cy 12 z_barred), (q_s, aI cy 67 w0)] → va_S A s.heap H locs → W p l e rmX7_meal s m args below meth c H locs 0 0 Q (F0 m pc ls [.int v]) := by
    intro pc ls H locs v w0 hd he hP hD hS
    cases he
    exact hret _ _ _ _ _ hd rfl hP hD hS
  unfold fX7_meal at hf
  refine lv_iconst (v := 0) hx hb dX7_meal_0 (by decide) ?_
  refine lv_istore_n (lv' := [(2, .int (0 : Int32)), (0, .ref q0), (1, .int x1)]) hx hb dX7_meal_1 rfl hl (by decide) rfl (fun ls hl => ?_)
  refine lv_iconst (v := 1) hx hb dX7_meal_2 (by decide) ?_
  refine lv_istore_n (lv' := [(3, .int (1 : Int32)), (2, .int (0 : Int32)), (0, .ref q0), (1, .int x1)]) hx hb dX7_meal_3 rfl hl (by decide) rfl (fun ls hl => ?_)
  have hL4 : ∀ (n : Nat) (x2_4 : Int32) (x3_4 : Int32) (z_s_4 : Nat → Int32) (H : Heap) (locs : List Loc) (ls : Array Slot), it3 (X7_meal_S4 z_eats z_barred x1) n x2_4 x3_4 z_s_4 = some r → va_P D vwCl [(q0, oB 7 [.int z_thrown, .long z_trace, .ref q_text, .int z_typed, .int z_next, .int z_token, .int z_place, .int z_value, .int z_fault, .ref q_weight, .ref q_eats, .ref q_barred, .ref q_laws, .int z_houses, .int z_draftHouses, .ref q_s, .ref q_kept, .ref q_isKept, .ref q_years, .ref q_likely, .ref q_then, .long z_all, .ref q_row, .ref q_best]), (q_eats, aI cy 12 z_eats), (q_barred, aI cy 12 z_barred), (q_s, aI cy 67 z_s_4)] H → va_D A [(q0, oB 7 [.int z_thrown, .long z_trace, .ref q_text, .int z_typed, .int z_next, .int z_token, .int z_place, .int z_value, .int z_fault, .ref q_weight, .ref q_eats, .ref q_barred, .ref q_laws, .int z_houses, .int z_draftHouses, .ref q_s, .ref q_kept, .ref q_isKept, .ref q_years, .ref q_likely, .ref q_then, .long z_all, .ref q_row, .ref q_best]), (q_eats, aI cy 12 z_eats), (q_barred, aI cy 12 z_barred), (q_s, aI cy 67 z_s_4)] → va_S A s.heap H locs → lv_has ls 7 [(0, .ref q0), (1, .int x1), (2, .int x2_4), (3, .int x3_4)] → W p l e rmX7_meal s m args below meth c H locs 0 0 Q (F0 m 4 ls []) := by
    intro n
    induction n with
    | zero => intro x2_4 x3_4 z_s_4 H locs ls hf; exact absurd hf (by simp [it3])
    | succ n ih4 =>
      intro x2_4 x3_4 z_s_4 H locs ls hf hP hD hS hl
      have hf : X7_meal_S4 z_eats z_barred x1 (it3 (X7_meal_S4 z_eats z_barred x1) n) x2_4 x3_4 z_s_4 = some r := hf
      generalize it3 (X7_meal_S4 z_eats z_barred x1) n = self_4 at hf ih4
      unfold X7_meal_S4 at hf
      refine lv_iload_n hx hb dX7_meal_4 rfl (lv_at hl 3 rfl) ?_
      refine lv_if_eq (tgt := 169) hx hb dX7_meal_5 (by decide) (fun hc_5 => ?_) (fun hc_5 => ?_)
      · have hf := it_t hf hc_5
        refine lv_iload_n hx hb dX7_meal_169 rfl (lv_at hl 2 rfl) ?_
        exact hret' _ _ _ _ _ _ dX7_meal_170 hf hP hD hS
      · have hf := it_f hf hc_5
        refine lv_iload_n hx hb dX7_meal_8 rfl (lv_at hl 2 rfl) ?_
        refine lv_aload_n hx hb dX7_meal_9 rfl (lv_at hl 0 rfl) ?_
        refine va_get (D := D) (ci := 7) (v := .ref q_eats) (C := RX7) (T := TX7) (N := 24) hx hb hts kc1 hown hK hP 0 rfl rfl 10 (by decide) kw0 (fun _ h9 => h9) rfl dX7_meal_10 ?_
        refine lv_iload_n hx hb dX7_meal_13 rfl (lv_at hl 1 rfl) ?_
        obtain ⟨hg_14, hf⟩ := gd_some hf
        refine va_iald hx hb hK hP 1 0 rfl rfl hg_14 dX7_meal_14 ?_
        refine lv_icmp_ge (tgt := 169) hx hb dX7_meal_15 (by decide) (fun hc_15 => ?_) (fun hc_15 => ?_)
        · have hf := it_t hf hc_15
          refine lv_iload_n hx hb dX7_meal_169 rfl (lv_at hl 2 rfl) ?_
          exact hret' _ _ _ _ _ _ dX7_meal_170 hf hP hD hS
        · have hf := it_f hf hc_15
          refine lv_bipush (v := -9) hx hb dX7_meal_18 (by decide) ?_
          refine lv_istore (lv' := [(4, .int (-9 : Int32)), (0, .ref q0), (1, .int x1), (2, .int x2_4), (3, .int x3_4)]) hx hb dX7_meal_20 hl (by decide) rfl (fun ls hl => ?_)
          refine lv_iconst (v := 3) hx hb dX7_meal_22 (by decide) ?_
          refine lv_istore (lv' := [(5, .int (3 : Int32)), (4, .int (-9 : Int32)), (0, .ref q0), (1, .int x1), (2, .int x2_4), (3, .int x3_4)]) hx hb dX7_meal_23 hl (by decide) rfl (fun ls hl => ?_)
          have hJ114 : ∀ (x4_114 : Int32) (H : Heap) (locs : List Loc) (ls : Array Slot), X7_meal_J114 x1 x2_4 z_s_4 self_4 x4_114 = some r → va_P D vwCl [(q0, oB 7 [.int z_thrown, .long z_trace, .ref q_text, .int z_typed, .int z_next, .int z_token, .int z_place, .int z_value, .int z_fault, .ref q_weight, .ref q_eats, .ref q_barred, .ref q_laws, .int z_houses, .int z_draftHouses, .ref q_s, .ref q_kept, .ref q_isKept, .ref q_years, .ref q_likely, .ref q_then, .long z_all, .ref q_row, .ref q_best]), (q_eats, aI cy 12 z_eats), (q_barred, aI cy 12 z_barred), (q_s, aI cy 67 z_s_4)] H → va_D A [(q0, oB 7 [.int z_thrown, .long z_trace, .ref q_text, .int z_typed, .int z_next, .int z_token, .int z_place, .int z_value, .int z_fault, .ref q_weight, .ref q_eats, .ref q_barred, .ref q_laws, .int z_houses, .int z_draftHouses, .ref q_s, .ref q_kept, .ref q_isKept, .ref q_years, .ref q_likely, .ref q_then, .long z_all, .ref q_row, .ref q_best]), (q_eats, aI cy 12 z_eats), (q_barred, aI cy 12 z_barred), (q_s, aI cy 67 z_s_4)] → va_S A s.heap H locs → lv_has ls 7 [(0, .ref q0), (1, .int x1), (2, .int x2_4), (4, .int x4_114)] → W p l e rmX7_meal s m args below meth c H locs 0 0 Q (F0 m 114 ls []) := by
            intro x4_114 H locs ls hf hP hD hS hl
            unfold X7_meal_J114 at hf
            refine lv_iload hx hb dX7_meal_114 (lv_at hl 3 rfl) ?_
            refine lv_bipush (v := -9) hx hb dX7_meal_116 (by decide) ?_
            have hJ126 : ∀ (t0_126 : Int32) (H : Heap) (locs : List Loc) (ls : Array Slot), X7_meal_J126 x1 x2_4 z_s_4 self_4 x4_114 t0_126 = some r → va_P D vwCl [(q0, oB 7 [.int z_thrown, .long z_trace, .ref q_text, .int z_typed, .int z_next, .int z_token, .int z_place, .int z_value, .int z_fault, .ref q_weight, .ref q_eats, .ref q_barred, .ref q_laws, .int z_houses, .int z_draftHouses, .ref q_s, .ref q_kept, .ref q_isKept, .ref q_years, .ref q_likely, .ref q_then, .long z_all, .ref q_row, .ref q_best]), (q_eats, aI cy 12 z_eats), (q_barred, aI cy 12 z_barred), (q_s, aI cy 67 z_s_4)] H → va_D A [(q0, oB 7 [.int z_thrown, .long z_trace, .ref q_text, .int z_typed, .int z_next, .int z_token, .int z_place, .int z_value, .int z_fault, .ref q_weight, .ref q_eats, .ref q_barred, .ref q_laws, .int z_houses, .int z_draftHouses, .ref q_s, .ref q_kept, .ref q_isKept, .ref q_years, .ref q_likely, .ref q_then, .long z_all, .ref q_row, .ref q_best]), (q_eats, aI cy 12 z_eats), (q_barred, aI cy 12 z_barred), (q_s, aI cy 67 z_s_4)] → va_S A s.heap H locs → lv_has ls 7 [(0, .ref q0), (1, .int x1), (2, .int x2_4), (4, .int x4_114)] → W p l e rmX7_meal s m args below meth c H locs 0 0 Q (F0 m 126 ls [.int t0_126]) := by
              intro t0_126 H locs ls hf hP hD hS hl
              unfold X7_meal_J126 at hf
              refine lv_istore_n (lv' := [(3, .int t0_126), (0, .ref q0), (1, .int x1), (2, .int x2_4), (4, .int x4_114)]) hx hb dX7_meal_126 rfl hl (by decide) rfl (fun ls hl => ?_)
              refine lv_iload_n hx hb dX7_meal_127 rfl (lv_at hl 0 rfl) ?_
              have hJ166 : ∀ (x2_166 : Int32) (z_s_166 : Nat → Int32) (H : Heap) (locs : List Loc) (ls : Array Slot), X7_meal_J166 self_4 t0_126 x2_166 z_s_166 = some r → va_P D vwCl [(q0, oB 7 [.int z_thrown, .long z_trace, .ref q_text, .int z_typed, .int z_next, .int z_token, .int z_place, .int z_value, .int z_fault, .ref q_weight, .ref q_eats, .ref q_barred, .ref q_laws, .int z_houses, .int z_draftHouses, .ref q_s, .ref q_kept, .ref q_isKept, .ref q_years, .ref q_likely, .ref q_then, .long z_all, .ref q_row, .ref q_best]), (q_eats, aI cy 12 z_eats), (q_barred, aI cy 12 z_barred), (q_s, aI cy 67 z_s_166)] H → va_D A [(q0, oB 7 [.int z_thrown, .long z_trace, .ref q_text, .int z_typed, .int z_next, .int z_token, .int z_place, .int z_value, .int z_fault, .ref q_weight, .ref q_eats, .ref q_barred, .ref q_laws, .int z_houses, .int z_draftHouses, .ref q_s, .ref q_kept, .ref q_isKept, .ref q_years, .ref q_likely, .ref q_then, .long z_all, .ref q_row, .ref q_best]), (q_eats, aI cy 12 z_eats), (q_barred, aI cy 12 z_barred), (q_s, aI cy 67 z_s_166)] → va_S A s.heap H locs → lv_has ls 7 [(0, .ref q0), (1, .int x1), (2, .int x2_166), (3, .int t0_126)] → W p l e rmX7_meal s m args below meth c H locs 0 0 Q (F0 m 166 ls []) := by
                intro x2_166 z_s_166 H locs ls hf hP hD hS hl
                unfold X7_meal_J166 at hf
                refine lv_goto (tgt := 4) hx hb dX7_meal_166 (by decide) ?_
                exact ih4 x2_166 t0_126 z_s_166 _ _ _ hf hP hD hS (lv_sub hl [0, 1, 2, 3] rfl)
              refine lv_if_eq (tgt := 166) hx hb dX7_meal_128 (by decide) (fun hc_128 => ?_) (fun hc_128 => ?_)
              · have hf := it_t hf hc_128
                exact hJ166 x2_4 z_s_4 _ _ _ hf hP hD hS (lv_sub hl [1, 2, 3, 0] rfl)
              · have hf := it_f hf hc_128
                refine lv_aload_n hx hb dX7_meal_131 rfl (lv_at hl 1 rfl) ?_
                refine va_get (D := D) (ci := 7) (v := .ref q_s) (C := RX7) (T := TX7) (N := 24) hx hb hts kc1 hown hK hP 0 rfl rfl 15 (by decide) kw2 (fun _ h9 => h9) rfl dX7_meal_132 ?_
                refine lv_bipush (v := 54) hx hb dX7_meal_135 (by decide) ?_
                refine lv_iload hx hb dX7_meal_137 (lv_at hl 4 rfl) ?_
                refine lv_iadd hx hb dX7_meal_139 ?_
                refine lv_dup2_11 hx hb dX7_meal_140 rfl rfl ?_
                obtain ⟨hg_141, hf⟩ := gd_some hf
                refine va_iald hx hb hK hP 3 0 rfl rfl hg_141 dX7_meal_141 ?_
                refine lv_iconst (v := 1) hx hb dX7_meal_142 (by decide) ?_
                refine lv_isub hx hb dX7_meal_143 ?_
                obtain ⟨hg_144, hf⟩ := gd_some hf
                refine va_iast hx hb hK hP hD hS 3 0 rfl rfl hg_144 dX7_meal_144 (fun H locs hP hD hS => ?_)
                obtain ⟨z_s_144, ez_s_144⟩ : ∃ y : Nat → Int32, y = upd z_s_4 ((54 : Int32) + x4_114).toNatClampNeg ((z_s_4 ((54 : Int32) + x4_114).toNatClampNeg) - (1 : Int32)) := ⟨_, rfl⟩
                have hf := lets_at hf ez_s_144
                rw [← ez_s_144] at hP hD
                have hP : va_P D vwCl [(q0, oB 7 [.int z_thrown, .long z_trace, .ref q_text, .int z_typed, .int z_next, .int z_token, .int z_place, .int z_value, .int z_fault, .ref q_weight, .ref q_eats, .ref q_barred, .ref q_laws, .int z_houses, .int z_draftHouses, .ref q_s, .ref q_kept, .ref q_isKept, .ref q_years, .ref q_likely, .ref q_then, .long z_all, .ref q_row, .ref q_best]), (q_eats, aI cy 12 z_eats), (q_barred, aI cy 12 z_barred), (q_s, aI cy 67 z_s_144)] H := hP
                have hD : va_D A [(q0, oB 7 [.int z_thrown, .long z_trace, .ref q_text, .int z_typed, .int z_next, .int z_token, .int z_place, .int z_value, .int z_fault, .ref q_weight, .ref q_eats, .ref q_barred, .ref q_laws, .int z_houses, .int z_draftHouses, .ref q_s, .ref q_kept, .ref q_isKept, .ref q_years, .ref q_likely, .ref q_then, .long z_all, .ref q_row, .ref q_best]), (q_eats, aI cy 12 z_eats), (q_barred, aI cy 12 z_barred), (q_s, aI cy 67 z_s_144)] := hD
                refine lv_aload_n hx hb dX7_meal_145 rfl (lv_at hl 1 rfl) ?_
                refine va_get (D := D) (ci := 7) (v := .ref q_s) (C := RX7) (T := TX7) (N := 24) hx hb hts kc1 hown hK hP 0 rfl rfl 15 (by decide) kw2 (fun _ h9 => h9) rfl dX7_meal_146 ?_
                refine lv_bipush (v := 30) hx hb dX7_meal_149 (by decide) ?_
                refine lv_iconst (v := 4) hx hb dX7_meal_151 (by decide) ?_
                refine lv_iload_n hx hb dX7_meal_152 rfl (lv_at hl 2 rfl) ?_
                refine lv_imul hx hb dX7_meal_153 ?_
                refine lv_iadd hx hb dX7_meal_154 ?_
                refine lv_iload hx hb dX7_meal_155 (lv_at hl 4 rfl) ?_
                refine lv_iadd hx hb dX7_meal_157 ?_
                refine lv_dup2_11 hx hb dX7_meal_158 rfl rfl ?_
                obtain ⟨hg_159, hf⟩ := gd_some hf
                refine va_iald hx hb hK hP 3 0 rfl rfl hg_159 dX7_meal_159 ?_
                refine lv_iconst (v := 1) hx hb dX7_meal_160 (by decide) ?_
                refine lv_iadd hx hb dX7_meal_161 ?_
                obtain ⟨hg_162, hf⟩ := gd_some hf
                refine va_iast hx hb hK hP hD hS 3 0 rfl rfl hg_162 dX7_meal_162 (fun H locs hP hD hS => ?_)
                obtain ⟨z_s_162, ez_s_162⟩ : ∃ y : Nat → Int32, y = upd z_s_144 (((30 : Int32) + ((4 : Int32) * x1)) + x4_114).toNatClampNeg ((z_s_144 (((30 : Int32) + ((4 : Int32) * x1)) + x4_114).toNatClampNeg) + (1 : Int32)) := ⟨_, rfl⟩
                have hf := lets_at hf ez_s_162
                rw [← ez_s_162] at hP hD
                have hP : va_P D vwCl [(q0, oB 7 [.int z_thrown, .long z_trace, .ref q_text, .int z_typed, .int z_next, .int z_token, .int z_place, .int z_value, .int z_fault, .ref q_weight, .ref q_eats, .ref q_barred, .ref q_laws, .int z_houses, .int z_draftHouses, .ref q_s, .ref q_kept, .ref q_isKept, .ref q_years, .ref q_likely, .ref q_then, .long z_all, .ref q_row, .ref q_best]), (q_eats, aI cy 12 z_eats), (q_barred, aI cy 12 z_barred), (q_s, aI cy 67 z_s_162)] H := hP
                have hD : va_D A [(q0, oB 7 [.int z_thrown, .long z_trace, .ref q_text, .int z_typed, .int z_next, .int z_token, .int z_place, .int z_value, .int z_fault, .ref q_weight, .ref q_eats, .ref q_barred, .ref q_laws, .int z_houses, .int z_draftHouses, .ref q_s, .ref q_kept, .ref q_isKept, .ref q_years, .ref q_likely, .ref q_then, .long z_all, .ref q_row, .ref q_best]), (q_eats, aI cy 12 z_eats), (q_barred, aI cy 12 z_barred), (q_s, aI cy 67 z_s_162)] := hD
                obtain ⟨x2_163, ex2_163⟩ : ∃ y : Int32, y = x2_4 + (1 : Int32) := ⟨_, rfl⟩
                have hf := lets_at hf ex2_163
                refine lv_iinc (v := x2_163) (lv' := [(2, .int x2_163), (3, .int t0_126), (0, .ref q0), (1, .int x1), (4, .int x4_114)]) hx hb dX7_meal_163 hl (k := 3) rfl (by rw [ex2_163]; rfl) (by decide) rfl (fun ls hl => ?_)
                exact hJ166 x2_163 z_s_162 _ _ _ hf hP hD hS (lv_sub hl [2, 3, 0, 1] rfl)
            refine lv_icmp_eq (tgt := 125) hx hb dX7_meal_118 (by decide) (fun hc_118 => ?_) (fun hc_118 => ?_)
            · have hf := it_t hf hc_118
              refine lv_iconst (v := 0) hx hb dX7_meal_125 (by decide) ?_
              exact hJ126 (0 : Int32) _ _ _ hf hP hD hS (lv_sub hl [0, 1, 2, 3] rfl)
            · have hf := it_f hf hc_118
              refine lv_iconst (v := 1) hx hb dX7_meal_121 (by decide) ?_
              refine lv_goto (tgt := 126) hx hb dX7_meal_122 (by decide) ?_
              exact hJ126 (1 : Int32) _ _ _ hf hP hD hS (lv_sub hl [0, 1, 2, 3] rfl)
          have hL25 : ∀ (n : Nat) (x4_25 : Int32) (x5_25 : Int32) (H : Heap) (locs : List Loc) (ls : Array Slot), it2 (X7_meal_S25 z_barred x1 x2_4 z_s_4 self_4) n x4_25 x5_25 = some r → va_P D vwCl [(q0, oB 7 [.int z_thrown, .long z_trace, .ref q_text, .int z_typed, .int z_next, .int z_token, .int z_place, .int z_value, .int z_fault, .ref q_weight, .ref q_eats, .ref q_barred, .ref q_laws, .int z_houses, .int z_draftHouses, .ref q_s, .ref q_kept, .ref q_isKept, .ref q_years, .ref q_likely, .ref q_then, .long z_all, .ref q_row, .ref q_best]), (q_eats, aI cy 12 z_eats), (q_barred, aI cy 12 z_barred), (q_s, aI cy 67 z_s_4)] H → va_D A [(q0, oB 7 [.int z_thrown, .long z_trace, .ref q_text, .int z_typed, .int z_next, .int z_token, .int z_place, .int z_value, .int z_fault, .ref q_weight, .ref q_eats, .ref q_barred, .ref q_laws, .int z_houses, .int z_draftHouses, .ref q_s, .ref q_kept, .ref q_isKept, .ref q_years, .ref q_likely, .ref q_then, .long z_all, .ref q_row, .ref q_best]), (q_eats, aI cy 12 z_eats), (q_barred, aI cy 12 z_barred), (q_s, aI cy 67 z_s_4)] → va_S A s.heap H locs → lv_has ls 7 [(0, .ref q0), (1, .int x1), (2, .int x2_4), (4, .int x4_25), (5, .int x5_25)] → W p l e rmX7_meal s m args below meth c H locs 0 0 Q (F0 m 25 ls []) := by
            intro n
            induction n with
            | zero => intro x4_25 x5_25 H locs ls hf; exact absurd hf (by simp [it2])
            | succ n ih25 =>
              intro x4_25 x5_25 H locs ls hf hP hD hS hl
              have hf : X7_meal_S25 z_barred x1 x2_4 z_s_4 self_4 (it2 (X7_meal_S25 z_barred x1 x2_4 z_s_4 self_4) n) x4_25 x5_25 = some r := hf
              generalize it2 (X7_meal_S25 z_barred x1 x2_4 z_s_4 self_4) n = self_25 at hf ih25
              unfold X7_meal_S25 at hf
              refine lv_iload hx hb dX7_meal_25 (lv_at hl 4 rfl) ?_
              refine lv_if_lt (tgt := 114) hx hb dX7_meal_27 (by decide) (fun hc_27 => ?_) (fun hc_27 => ?_)
              · have hf := it_t hf hc_27
                exact hJ114 x4_25 _ _ _ hf hP hD hS (lv_sub hl [0, 1, 2, 3] rfl)
              · have hf := it_f hf hc_27
                refine lv_aload_n hx hb dX7_meal_30 rfl (lv_at hl 0 rfl) ?_
                refine va_get (D := D) (ci := 7) (v := .ref q_s) (C := RX7) (T := TX7) (N := 24) hx hb hts kc1 hown hK hP 0 rfl rfl 15 (by decide) kw2 (fun _ h9 => h9) rfl dX7_meal_31 ?_
                refine lv_bipush (v := 54) hx hb dX7_meal_34 (by decide) ?_
                refine lv_iload hx hb dX7_meal_36 (lv_at hl 4 rfl) ?_
                refine lv_iadd hx hb dX7_meal_38 ?_
                obtain ⟨hg_39, hf⟩ := gd_some hf
                refine va_iald hx hb hK hP 3 0 rfl rfl hg_39 dX7_meal_39 ?_
                have hJ62 : ∀ (t0_62 : Int32) (H : Heap) (locs : List Loc) (ls : Array Slot), X7_meal_J62 z_s_4 x4_25 x5_25 self_25 t0_62 = some r → va_P D vwCl [(q0, oB 7 [.int z_thrown, .long z_trace, .ref q_text, .int z_typed, .int z_next, .int z_token, .int z_place, .int z_value, .int z_fault, .ref q_weight, .ref q_eats, .ref q_barred, .ref q_laws, .int z_houses, .int z_draftHouses, .ref q_s, .ref q_kept, .ref q_isKept, .ref q_years, .ref q_likely, .ref q_then, .long z_all, .ref q_row, .ref q_best]), (q_eats, aI cy 12 z_eats), (q_barred, aI cy 12 z_barred), (q_s, aI cy 67 z_s_4)] H → va_D A [(q0, oB 7 [.int z_thrown, .long z_trace, .ref q_text, .int z_typed, .int z_next, .int z_token, .int z_place, .int z_value, .int z_fault, .ref q_weight, .ref q_eats, .ref q_barred, .ref q_laws, .int z_houses, .int z_draftHouses, .ref q_s, .ref q_kept, .ref q_isKept, .ref q_years, .ref q_likely, .ref q_then, .long z_all, .ref q_row, .ref q_best]), (q_eats, aI cy 12 z_eats), (q_barred, aI cy 12 z_barred), (q_s, aI cy 67 z_s_4)] → va_S A s.heap H locs → lv_has ls 7 [(0, .ref q0), (1, .int x1), (2, .int x2_4), (4, .int x4_25), (5, .int x5_25)] → W p l e rmX7_meal s m args below meth c H locs 0 0 Q (F0 m 62 ls [.int t0_62]) := by
                  intro t0_62 H locs ls hf hP hD hS hl
                  unfold X7_meal_J62 at hf
                  refine lv_istore (lv' := [(6, .int t0_62), (0, .ref q0), (1, .int x1), (2, .int x2_4), (4, .int x4_25), (5, .int x5_25)]) hx hb dX7_meal_62 hl (by decide) rfl (fun ls hl => ?_)
                  refine lv_iload hx hb dX7_meal_64 (lv_at hl 0 rfl) ?_
                  have hJ106 : ∀ (t0_106 : Int32) (H : Heap) (locs : List Loc) (ls : Array Slot), X7_meal_J106 x5_25 self_25 t0_106 = some r → va_P D vwCl [(q0, oB 7 [.int z_thrown, .long z_trace, .ref q_text, .int z_typed, .int z_next, .int z_token, .int z_place, .int z_value, .int z_fault, .ref q_weight, .ref q_eats, .ref q_barred, .ref q_laws, .int z_houses, .int z_draftHouses, .ref q_s, .ref q_kept, .ref q_isKept, .ref q_years, .ref q_likely, .ref q_then, .long z_all, .ref q_row, .ref q_best]), (q_eats, aI cy 12 z_eats), (q_barred, aI cy 12 z_barred), (q_s, aI cy 67 z_s_4)] H → va_D A [(q0, oB 7 [.int z_thrown, .long z_trace, .ref q_text, .int z_typed, .int z_next, .int z_token, .int z_place, .int z_value, .int z_fault, .ref q_weight, .ref q_eats, .ref q_barred, .ref q_laws, .int z_houses, .int z_draftHouses, .ref q_s, .ref q_kept, .ref q_isKept, .ref q_years, .ref q_likely, .ref q_then, .long z_all, .ref q_row, .ref q_best]), (q_eats, aI cy 12 z_eats), (q_barred, aI cy 12 z_barred), (q_s, aI cy 67 z_s_4)] → va_S A s.heap H locs → lv_has ls 7 [(0, .ref q0), (1, .int x1), (2, .int x2_4), (5, .int x5_25)] → W p l e rmX7_meal s m args below meth c H locs 0 0 Q (F0 m 106 ls [.int t0_106]) := by
                    intro t0_106 H locs ls hf hP hD hS hl
                    unfold X7_meal_J106 at hf
                    refine lv_istore (lv' := [(4, .int t0_106), (0, .ref q0), (1, .int x1), (2, .int x2_4), (5, .int x5_25)]) hx hb dX7_meal_106 hl (by decide) rfl (fun ls hl => ?_)
                    obtain ⟨x5_108, ex5_108⟩ : ∃ y : Int32, y = x5_25 + (-1 : Int32) := ⟨_, rfl⟩
                    have hf := lets_at hf ex5_108
                    refine lv_iinc (v := x5_108) (lv' := [(5, .int x5_108), (4, .int t0_106), (0, .ref q0), (1, .int x1), (2, .int x2_4)]) hx hb dX7_meal_108 hl (k := 4) rfl (by rw [ex5_108]; rfl) (by decide) rfl (fun ls hl => ?_)
                    refine lv_goto (tgt := 25) hx hb dX7_meal_111 (by decide) ?_
                    exact ih25 t0_106 x5_108 _ _ _ hf hP hD hS (lv_sub hl [2, 3, 4, 1, 0] rfl)
                  have hJ104 : ∀ (H : Heap) (locs : List Loc) (ls : Array Slot), X7_meal_J104 x4_25 x5_25 self_25 = some r → va_P D vwCl [(q0, oB 7 [.int z_thrown, .long z_trace, .ref q_text, .int z_typed, .int z_next, .int z_token, .int z_place, .int z_value, .int z_fault, .ref q_weight, .ref q_eats, .ref q_barred, .ref q_laws, .int z_houses, .int z_draftHouses, .ref q_s, .ref q_kept, .ref q_isKept, .ref q_years, .ref q_likely, .ref q_then, .long z_all, .ref q_row, .ref q_best]), (q_eats, aI cy 12 z_eats), (q_barred, aI cy 12 z_barred), (q_s, aI cy 67 z_s_4)] H → va_D A [(q0, oB 7 [.int z_thrown, .long z_trace, .ref q_text, .int z_typed, .int z_next, .int z_token, .int z_place, .int z_value, .int z_fault, .ref q_weight, .ref q_eats, .ref q_barred, .ref q_laws, .int z_houses, .int z_draftHouses, .ref q_s, .ref q_kept, .ref q_isKept, .ref q_years, .ref q_likely, .ref q_then, .long z_all, .ref q_row, .ref q_best]), (q_eats, aI cy 12 z_eats), (q_barred, aI cy 12 z_barred), (q_s, aI cy 67 z_s_4)] → va_S A s.heap H locs → lv_has ls 7 [(0, .ref q0), (1, .int x1), (2, .int x2_4), (4, .int x4_25), (5, .int x5_25)] → W p l e rmX7_meal s m args below meth c H locs 0 0 Q (F0 m 104 ls []) := by
                    intro H locs ls hf hP hD hS hl
                    unfold X7_meal_J104 at hf
                    refine lv_iload hx hb dX7_meal_104 (lv_at hl 3 rfl) ?_
                    exact hJ106 x4_25 _ _ _ hf hP hD hS (lv_sub hl [0, 1, 2, 4] rfl)
                  refine lv_if_eq (tgt := 104) hx hb dX7_meal_66 (by decide) (fun hc_66 => ?_) (fun hc_66 => ?_)
                  · have hf := it_t hf hc_66
                    exact hJ104 _ _ _ hf hP hD hS (lv_sub hl [1, 2, 3, 4, 5] rfl)
                  · have hf := it_f hf hc_66
                    refine lv_iload hx hb dX7_meal_69 (lv_at hl 4 rfl) ?_
                    refine lv_bipush (v := -9) hx hb dX7_meal_71 (by decide) ?_
                    have hJ99 : ∀ (H : Heap) (locs : List Loc) (ls : Array Slot), X7_meal_J99 x5_25 self_25 = some r → va_P D vwCl [(q0, oB 7 [.int z_thrown, .long z_trace, .ref q_text, .int z_typed, .int z_next, .int z_token, .int z_place, .int z_value, .int z_fault, .ref q_weight, .ref q_eats, .ref q_barred, .ref q_laws, .int z_houses, .int z_draftHouses, .ref q_s, .ref q_kept, .ref q_isKept, .ref q_years, .ref q_likely, .ref q_then, .long z_all, .ref q_row, .ref q_best]), (q_eats, aI cy 12 z_eats), (q_barred, aI cy 12 z_barred), (q_s, aI cy 67 z_s_4)] H → va_D A [(q0, oB 7 [.int z_thrown, .long z_trace, .ref q_text, .int z_typed, .int z_next, .int z_token, .int z_place, .int z_value, .int z_fault, .ref q_weight, .ref q_eats, .ref q_barred, .ref q_laws, .int z_houses, .int z_draftHouses, .ref q_s, .ref q_kept, .ref q_isKept, .ref q_years, .ref q_likely, .ref q_then, .long z_all, .ref q_row, .ref q_best]), (q_eats, aI cy 12 z_eats), (q_barred, aI cy 12 z_barred), (q_s, aI cy 67 z_s_4)] → va_S A s.heap H locs → lv_has ls 7 [(0, .ref q0), (1, .int x1), (2, .int x2_4), (5, .int x5_25)] → W p l e rmX7_meal s m args below meth c H locs 0 0 Q (F0 m 99 ls []) := by
                      intro H locs ls hf hP hD hS hl
                      unfold X7_meal_J99 at hf
                      refine lv_iload hx hb dX7_meal_99 (lv_at hl 3 rfl) ?_
                      refine lv_goto (tgt := 106) hx hb dX7_meal_101 (by decide) ?_
                      exact hJ106 x5_25 _ _ _ hf hP hD hS (lv_sub hl [0, 1, 2, 3] rfl)
                    refine lv_icmp_eq (tgt := 99) hx hb dX7_meal_73 (by decide) (fun hc_73 => ?_) (fun hc_73 => ?_)
                    · have hf := it_t hf hc_73
                      exact hJ99 _ _ _ hf hP hD hS (lv_sub hl [1, 2, 3, 5] rfl)
                    · have hf := it_f hf hc_73
                      refine lv_aload_n hx hb dX7_meal_76 rfl (lv_at hl 1 rfl) ?_
                      refine va_get (D := D) (ci := 7) (v := .ref q_s) (C := RX7) (T := TX7) (N := 24) hx hb hts kc1 hown hK hP 0 rfl rfl 15 (by decide) kw2 (fun _ h9 => h9) rfl dX7_meal_77 ?_
                      refine lv_bipush (v := 54) hx hb dX7_meal_80 (by decide) ?_
                      refine lv_iload hx hb dX7_meal_82 (lv_at hl 5 rfl) ?_
                      refine lv_iadd hx hb dX7_meal_84 ?_
                      obtain ⟨hg_85, hf⟩ := gd_some hf
                      refine va_iald hx hb hK hP 3 0 rfl rfl hg_85 dX7_meal_85 ?_
                      refine lv_aload_n hx hb dX7_meal_86 rfl (lv_at hl 1 rfl) ?_
                      refine va_get (D := D) (ci := 7) (v := .ref q_s) (C := RX7) (T := TX7) (N := 24) hx hb hts kc1 hown hK hP 0 rfl rfl 15 (by decide) kw2 (fun _ h9 => h9) rfl dX7_meal_87 ?_
                      refine lv_bipush (v := 54) hx hb dX7_meal_90 (by decide) ?_
                      refine lv_iload hx hb dX7_meal_92 (lv_at hl 4 rfl) ?_
                      refine lv_iadd hx hb dX7_meal_94 ?_
                      obtain ⟨hg_95, hf⟩ := gd_some hf
                      refine va_iald hx hb hK hP 3 0 rfl rfl hg_95 dX7_meal_95 ?_
                      refine lv_icmp_lt (tgt := 104) hx hb dX7_meal_96 (by decide) (fun hc_96 => ?_) (fun hc_96 => ?_)
                      · have hf := it_t hf hc_96
                        exact hJ104 _ _ _ hf hP hD hS (lv_sub hl [1, 2, 3, 4, 5] rfl)
                      · have hf := it_f hf hc_96
                        exact hJ99 _ _ _ hf hP hD hS (lv_sub hl [1, 2, 3, 5] rfl)
                have hJ61 : ∀ (H : Heap) (locs : List Loc) (ls : Array Slot), X7_meal_J61 z_s_4 x4_25 x5_25 self_25 = some r → va_P D vwCl [(q0, oB 7 [.int z_thrown, .long z_trace, .ref q_text, .int z_typed, .int z_next, .int z_token, .int z_place, .int z_value, .int z_fault, .ref q_weight, .ref q_eats, .ref q_barred, .ref q_laws, .int z_houses, .int z_draftHouses, .ref q_s, .ref q_kept, .ref q_isKept, .ref q_years, .ref q_likely, .ref q_then, .long z_all, .ref q_row, .ref q_best]), (q_eats, aI cy 12 z_eats), (q_barred, aI cy 12 z_barred), (q_s, aI cy 67 z_s_4)] H → va_D A [(q0, oB 7 [.int z_thrown, .long z_trace, .ref q_text, .int z_typed, .int z_next, .int z_token, .int z_place, .int z_value, .int z_fault, .ref q_weight, .ref q_eats, .ref q_barred, .ref q_laws, .int z_houses, .int z_draftHouses, .ref q_s, .ref q_kept, .ref q_isKept, .ref q_years, .ref q_likely, .ref q_then, .long z_all, .ref q_row, .ref q_best]), (q_eats, aI cy 12 z_eats), (q_barred, aI cy 12 z_barred), (q_s, aI cy 67 z_s_4)] → va_S A s.heap H locs → lv_has ls 7 [(0, .ref q0), (1, .int x1), (2, .int x2_4), (4, .int x4_25), (5, .int x5_25)] → W p l e rmX7_meal s m args below meth c H locs 0 0 Q (F0 m 61 ls []) := by
                  intro H locs ls hf hP hD hS hl
                  unfold X7_meal_J61 at hf
                  refine lv_iconst (v := 0) hx hb dX7_meal_61 (by decide) ?_
                  exact hJ62 (0 : Int32) _ _ _ hf hP hD hS (lv_sub hl [0, 1, 2, 3, 4] rfl)
                refine lv_if_le (tgt := 61) hx hb dX7_meal_40 (by decide) (fun hc_40 => ?_) (fun hc_40 => ?_)
                · have hf := it_t hf hc_40
                  exact hJ61 _ _ _ hf hP hD hS (lv_sub hl [0, 1, 2, 3, 4] rfl)
                · have hf := it_f hf hc_40
                  refine lv_aload_n hx hb dX7_meal_43 rfl (lv_at hl 0 rfl) ?_
                  refine va_get (D := D) (ci := 7) (v := .ref q_barred) (C := RX7) (T := TX7) (N := 24) hx hb hts kc1 hown hK hP 0 rfl rfl 11 (by decide) kw3 (fun _ h9 => h9) rfl dX7_meal_44 ?_
                  refine lv_iload_n hx hb dX7_meal_47 rfl (lv_at hl 1 rfl) ?_
                  obtain ⟨hg_48, hf⟩ := gd_some hf
                  refine va_iald hx hb hK hP 2 0 rfl rfl hg_48 dX7_meal_48 ?_
                  refine lv_iload hx hb dX7_meal_49 (lv_at hl 4 rfl) ?_
                  refine lv_ishr hx hb dX7_meal_51 ?_
                  refine lv_iconst (v := 1) hx hb dX7_meal_52 (by decide) ?_
                  refine lv_iand hx hb dX7_meal_53 ?_
                  refine lv_if_ne (tgt := 61) hx hb dX7_meal_54 (by decide) (fun hc_54 => ?_) (fun hc_54 => ?_)
                  · have hf := it_f hf hc_54
                    exact hJ61 _ _ _ hf hP hD hS (lv_sub hl [0, 1, 2, 3, 4] rfl)
                  · have hf := it_t hf hc_54
                    refine lv_iconst (v := 1) hx hb dX7_meal_57 (by decide) ?_
                    refine lv_goto (tgt := 62) hx hb dX7_meal_58 (by decide) ?_
                    exact hJ62 (1 : Int32) _ _ _ hf hP hD hS (lv_sub hl [0, 1, 2, 3, 4] rfl)
          exact hL25 _ (-9 : Int32) (3 : Int32) _ _ _ hf hP hD hS (lv_sub hl [2, 3, 4, 1, 0] rfl)
  exact hL4 _ (0 : Int32) (1 : Int32) z_s _ _ _ hf hP hD hS (lv_sub hl [2, 3, 1, 0] rfl)

def X7_eat_J68 (z_eats : Nat → Int32) (z_barred : Nat → Int32) (x2_42 : Int32) (x3_42 : Int32) (z_s_42 : Nat → Int32) (self_42 : Int32 → Int32 → (Nat → Int32) → Option (Int32 × Int32 × (Nat → Int32))) (t2_68 : Int32) : Option (Int32 × Int32 × (Nat → Int32)) := (fX7_meal z_eats z_barred z_s_42 t2_68).bind (fun r_68 => lets (x2_42 + r_68.1) (fun x2_72 => lets (x3_42 + (1 : Int32)) (fun x3_73 => self_42 x2_72 x3_73 r_68.2)))
def X7_eat_S42 (z_houses : Int32) (z_eats : Nat → Int32) (z_barred : Nat → Int32) (x1 : Int32) (self_42 : Int32 → Int32 → (Nat → Int32) → Option (Int32 × Int32 × (Nat → Int32))) (x2_42 : Int32) (x3_42 : Int32) (z_s_42 : Nat → Int32) : Option (Int32 × Int32 × (Nat → Int32)) := if z_houses ≤ x3_42 then (some (x2_42, (0 : Int32), z_s_42)) else (if x1 = 0 then (X7_eat_J68 z_eats z_barred x2_42 x3_42 z_s_42 self_42 x3_42) else (X7_eat_J68 z_eats z_barred x2_42 x3_42 z_s_42 self_42 ((z_houses - (1 : Int32)) - x3_42)))
def fX7_eat (z_houses : Int32) (z_eats : Nat → Int32) (z_barred : Nat → Int32) (z_s : Nat → Int32) (x1 : Int32) : Option (Int32 × Int32 × (Nat → Int32)) := (fX7_in x1 (0 : Int32) (1 : Int32)).bind (fun r_8 => if r_8 = 0 then (some ((-1 : Int32), (0 : Int32), z_s)) else (if (z_s (58 : Int32).toNatClampNeg) = (1 : Int32) then (some ((-2 : Int32), (0 : Int32), z_s)) else (lets (upd z_s (58 : Int32).toNatClampNeg (1 : Int32)) (fun z_s_37 => it3 (X7_eat_S42 z_houses z_eats z_barred x1) 100000 (0 : Int32) (0 : Int32) z_s_37))))
abbrev rmX7_eat : Room := { frames := 1, cells := 0, slots := 0, locals := 26 }
set_option maxHeartbeats 4000000 in
set_option maxRecDepth 100000 in
theorem ktX7_eat (l : Launch) (D : va_G) (cy : Nat → ClassId) (q0 : Nat) (q_text : Nat) (q_weight : Nat) (q_eats : Nat) (q_barred : Nat) (q_laws : Nat) (q_s : Nat) (q_kept : Nat) (q_isKept : Nat) (q_years : Nat) (q_likely : Nat) (q_then : Nat) (q_row : Nat) (q_best : Nat) (z_thrown : Int32) (z_trace : Int64) (z_typed : Int32) (z_next : Int32) (z_token : Int32) (z_place : Int32) (z_value : Int32) (z_fault : Int32) (z_houses : Int32) (z_draftHouses : Int32) (z_all : Int64) (z_eats : Nat → Int32) (z_barred : Nat → Int32) (z_s : Nat → Int32) (x1 : Int32) (r : Int32 × Int32 × (Nat → Int32)) (hf : fX7_eat z_houses z_eats z_barred z_s x1 = some r) : CtI l yX7_eat wsX7_eat rmX7_eat D cy [.ref q0, .int x1] [(q0, oB 7 [.int z_thrown, .long z_trace, .ref q_text, .int z_typed, .int z_next, .int z_token, .int z_place, .int z_value, .int z_fault, .ref q_weight, .ref q_eats, .ref q_barred, .ref q_laws, .int z_houses, .int z_draftHouses, .ref q_s, .ref q_kept, .ref q_isKept, .ref q_years, .ref q_likely, .ref q_then, .long z_all, .ref q_row, .ref q_best]), (q_eats, aI cy 12 z_eats), (q_barred, aI cy 12 z_barred), (q_s, aI cy 67 z_s)] [(q0, oB 7 [.int r.2.1, .long z_trace, .ref q_text, .int z_typed, .int z_next, .int z_token, .int z_place, .int z_value, .int z_fault, .ref q_weight, .ref q_eats, .ref q_barred, .ref q_laws, .int z_houses, .int z_draftHouses, .ref q_s, .ref q_kept, .ref q_isKept, .ref q_years, .ref q_likely, .ref q_then, .long z_all, .ref q_row, .ref q_best]), (q_eats, aI cy 12 z_eats), (q_barred, aI cy 12 z_barred), (q_s, aI cy 67 r.2.2)] r.1 := by
  refine Ct_ofI (cc := cX7_eat) (nL := 4) (by decide) rfl (Nat.le_of_ble_eq_true rfl) ?_
  intro p e s m args below meth c A Q hM hret hP hD hS ls hl
  obtain ⟨hx, hb, hml, hown, hts, hcx, hA, hsx⟩ := hM
  have hown : s.vm.findClass RX7 = some m.cls := hown
  have hK := hcx.1
  have hN := hcx.2
  have kw0 := hts (.fieldLink RX7 54 "EachBringsModel" "thrown" "I") (List.mem_of_getElem? (i := 1) rfl)
  have kc1 : ∀ w ∈ wsX70, w ∈ wsX7_eat := fun _ h => List.mem_cons_of_mem _ (List.mem_append_right _ h)
  have kw2 := hts (.fieldLink RX7 25 "EachBringsModel" "s" "[I") (List.mem_of_getElem? (i := 2) rfl)
  have kw3 := hts (.fieldLink RX7 122 "EachBringsModel" "houses" "I") (List.mem_of_getElem? (i := 3) rfl)
  have hl : lv_has ls 4 [(0, .ref q0), (1, .int x1)] := hl
  have hret' : ∀ (pc : Nat) (ls : Array Slot) (H : Heap) (locs : List Loc) (v : Int32) (w0 : Int32) (w1 : Nat → Int32), decode cX7_eat pc = .ok (.ireturn, 1) → some (v, w0, w1) = some r → va_P D vwCl [(q0, oB 7 [.int w0, .long z_trace, .ref q_text, .int z_typed, .int z_next, .int z_token, .int z_place, .int z_value, .int z_fault, .ref q_weight, .ref q_eats, .ref q_barred, .ref q_laws, .int z_houses, .int z_draftHouses, .ref q_s, .ref q_kept, .ref q_isKept, .ref q_years, .ref q_likely, .ref q_then, .long z_all, .ref q_row, .ref q_best]), (q_eats, aI cy 12 z_eats), (q_barred, aI cy 12 z_barred), (q_s, aI cy 67 w1)] H → va_D A [(q0, oB 7 [.int w0, .long z_trace, .ref q_text, .int z_typed, .int z_next, .int z_token, .int z_place, .int z_value, .int z_fault, .ref q_weight, .ref q_eats, .ref q_barred, .ref q_laws, .int z_houses, .int z_draftHouses, .ref q_s, .ref q_kept, .ref q_isKept, .ref q_years, .ref q_likely, .ref q_then, .long z_all, .ref q_row, .ref q_best]), (q_eats, aI cy 12 z_eats), (q_barred, aI cy 12 z_barred), (q_s, aI cy 67 w1)] → va_S A s.heap H locs → W p l e rmX7_eat s m args below meth c H locs 0 0 Q (F0 m pc ls [.int v]) := by
    intro pc ls H locs v w0 w1 hd he hP hD hS
    cases he
    exact hret _ _ _ _ _ hd rfl hP hD hS
  unfold fX7_eat at hf
  refine lv_aload_n hx hb dX7_eat_0 rfl (lv_at hl 0 rfl) ?_
  refine lv_iconst (v := 0) hx hb dX7_eat_1 (by decide) ?_
  refine va_put (D := D) (ci := 7) (v := .int (0 : Int32)) (ty := .int) (C := RX7) (T := TX7) (N := 24) hx hb hts kc1 tyX7 tyX7_ok nmX7 hown hK hP hD hS 0 rfl rfl 0 (by decide) kw0 (fun _ h9 => h9) rfl pfI rfl rfl (Nat.le_of_ble_eq_true rfl) dX7_eat_2 (fun H locs hP hD hS => ?_)
  have hP : va_P D vwCl [(q0, oB 7 [.int (0 : Int32), .long z_trace, .ref q_text, .int z_typed, .int z_next, .int z_token, .int z_place, .int z_value, .int z_fault, .ref q_weight, .ref q_eats, .ref q_barred, .ref q_laws, .int z_houses, .int z_draftHouses, .ref q_s, .ref q_kept, .ref q_isKept, .ref q_years, .ref q_likely, .ref q_then, .long z_all, .ref q_row, .ref q_best]), (q_eats, aI cy 12 z_eats), (q_barred, aI cy 12 z_barred), (q_s, aI cy 67 z_s)] H := hP
  have hD : va_D A [(q0, oB 7 [.int (0 : Int32), .long z_trace, .ref q_text, .int z_typed, .int z_next, .int z_token, .int z_place, .int z_value, .int z_fault, .ref q_weight, .ref q_eats, .ref q_barred, .ref q_laws, .int z_houses, .int z_draftHouses, .ref q_s, .ref q_kept, .ref q_isKept, .ref q_years, .ref q_likely, .ref q_then, .long z_all, .ref q_row, .ref q_best]), (q_eats, aI cy 12 z_eats), (q_barred, aI cy 12 z_barred), (q_s, aI cy 67 z_s)] := hD
  refine lv_iload_n hx hb dX7_eat_5 rfl (lv_at hl 1 rfl) ?_
  refine lv_iconst (v := 0) hx hb dX7_eat_6 (by decide) ?_
  refine lv_iconst (v := 1) hx hb dX7_eat_7 (by decide) ?_
  obtain ⟨r_8, hr_8, hf⟩ := bd_some hf
  refine cl_i (wc := []) (w1 := []) (wr := [(q0, oB 7 [.int (0 : Int32), .long z_trace, .ref q_text, .int z_typed, .int z_next, .int z_token, .int z_place, .int z_value, .int z_fault, .ref q_weight, .ref q_eats, .ref q_barred, .ref q_laws, .int z_houses, .int z_draftHouses, .ref q_s, .ref q_kept, .ref q_isKept, .ref q_years, .ref q_likely, .ref q_then, .long z_all, .ref q_row, .ref q_best]), (q_eats, aI cy 12 z_eats), (q_barred, aI cy 12 z_barred), (q_s, aI cy 67 z_s)]) (w2 := [(q0, oB 7 [.int (0 : Int32), .long z_trace, .ref q_text, .int z_typed, .int z_next, .int z_token, .int z_place, .int z_value, .int z_fault, .ref q_weight, .ref q_eats, .ref q_barred, .ref q_laws, .int z_houses, .int z_draftHouses, .ref q_s, .ref q_kept, .ref q_isKept, .ref q_years, .ref q_likely, .ref q_then, .long z_all, .ref q_row, .ref q_best]), (q_eats, aI cy 12 z_eats), (q_barred, aI cy 12 z_barred), (q_s, aI cy 67 z_s)]) (va_runS (As := [.int x1, .int (0 : Int32), .int (1 : Int32)]) (rest := []) ⟨hx, hb, hml, hown, hts⟩ (ktX7_in l D cy x1 (0 : Int32) (1 : Int32) r_8 hr_8 _) (va_cwS 3 hts gX7_eat_X7_in rfl rfl rfl (by decide +kernel) ⟨Nat.le_of_ble_eq_true rfl, Nat.le_of_ble_eq_true rfl⟩) (pre_S (wc := []) hcx hsx hS hA hP hD [] rfl (by decide)) rfl rfl hl.1 rfl (lv_room (Nat.le_of_ble_eq_true rfl)) dX7_eat_8 ⟨Nat.zero_le _, Nat.zero_le _⟩) hP hD hS hA [] [0, 1, 2, 3] [0, 1, 2, 3] rfl rfl (by decide) (by decide) (by decide) rfl (fun H locs hP hD hS => ?_)
  refine lv_if_ne (tgt := 16) hx hb dX7_eat_11 (by decide) (fun hc_11 => ?_) (fun hc_11 => ?_)
  · have hf := it_f hf hc_11
    refine lv_aload_n hx hb dX7_eat_16 rfl (lv_at hl 0 rfl) ?_
    refine va_get (D := D) (ci := 7) (v := .ref q_s) (C := RX7) (T := TX7) (N := 24) hx hb hts kc1 hown hK hP 0 rfl rfl 15 (by decide) kw2 (fun _ h9 => h9) rfl dX7_eat_17 ?_
    refine lv_bipush (v := 58) hx hb dX7_eat_20 (by decide) ?_
    refine va_iald hx hb hK hP 3 0 rfl rfl (by decide : okx (58 : Int32) 67) dX7_eat_22 ?_
    refine lv_iconst (v := 1) hx hb dX7_eat_23 (by decide) ?_
    refine lv_icmp_ne (tgt := 30) hx hb dX7_eat_24 (by decide) (fun hc_24 => ?_) (fun hc_24 => ?_)
    · have hf := it_f hf hc_24
      refine lv_aload_n hx hb dX7_eat_30 rfl (lv_at hl 0 rfl) ?_
      refine va_get (D := D) (ci := 7) (v := .ref q_s) (C := RX7) (T := TX7) (N := 24) hx hb hts kc1 hown hK hP 0 rfl rfl 15 (by decide) kw2 (fun _ h9 => h9) rfl dX7_eat_31 ?_
      refine lv_bipush (v := 58) hx hb dX7_eat_34 (by decide) ?_
      refine lv_iconst (v := 1) hx hb dX7_eat_36 (by decide) ?_
      refine va_iast hx hb hK hP hD hS 3 0 rfl rfl (by decide : okx (58 : Int32) 67) dX7_eat_37 (fun H locs hP hD hS => ?_)
      obtain ⟨z_s_37, ez_s_37⟩ : ∃ y : Nat → Int32, y = upd z_s (58 : Int32).toNatClampNeg (1 : Int32) := ⟨_, rfl⟩
      have hf := lets_at hf ez_s_37
      rw [← ez_s_37] at hP hD
      have hP : va_P D vwCl [(q0, oB 7 [.int (0 : Int32), .long z_trace, .ref q_text, .int z_typed, .int z_next, .int z_token, .int z_place, .int z_value, .int z_fault, .ref q_weight, .ref q_eats, .ref q_barred, .ref q_laws, .int z_houses, .int z_draftHouses, .ref q_s, .ref q_kept, .ref q_isKept, .ref q_years, .ref q_likely, .ref q_then, .long z_all, .ref q_row, .ref q_best]), (q_eats, aI cy 12 z_eats), (q_barred, aI cy 12 z_barred), (q_s, aI cy 67 z_s_37)] H := hP
      have hD : va_D A [(q0, oB 7 [.int (0 : Int32), .long z_trace, .ref q_text, .int z_typed, .int z_next, .int z_token, .int z_place, .int z_value, .int z_fault, .ref q_weight, .ref q_eats, .ref q_barred, .ref q_laws, .int z_houses, .int z_draftHouses, .ref q_s, .ref q_kept, .ref q_isKept, .ref q_years, .ref q_likely, .ref q_then, .long z_all, .ref q_row, .ref q_best]), (q_eats, aI cy 12 z_eats), (q_barred, aI cy 12 z_barred), (q_s, aI cy 67 z_s_37)] := hD
      refine lv_iconst (v := 0) hx hb dX7_eat_38 (by decide) ?_
      refine lv_istore_n (lv' := [(2, .int (0 : Int32)), (0, .ref q0), (1, .int x1)]) hx hb dX7_eat_39 rfl hl (by decide) rfl (fun ls hl => ?_)
      refine lv_iconst (v := 0) hx hb dX7_eat_40 (by decide) ?_
      refine lv_istore_n (lv' := [(3, .int (0 : Int32)), (2, .int (0 : Int32)), (0, .ref q0), (1, .int x1)]) hx hb dX7_eat_41 rfl hl (by decide) rfl (fun ls hl => ?_)
      have hL42 : ∀ (n : Nat) (x2_42 : Int32) (x3_42 : Int32) (z_s_42 : Nat → Int32) (H : Heap) (locs : List Loc) (ls : Array Slot), it3 (X7_eat_S42 z_houses z_eats z_barred x1) n x2_42 x3_42 z_s_42 = some r → va_P D vwCl [(q0, oB 7 [.int (0 : Int32), .long z_trace, .ref q_text, .int z_typed, .int z_next, .int z_token, .int z_place, .int z_value, .int z_fault, .ref q_weight, .ref q_eats, .ref q_barred, .ref q_laws, .int z_houses, .int z_draftHouses, .ref q_s, .ref q_kept, .ref q_isKept, .ref q_years, .ref q_likely, .ref q_then, .long z_all, .ref q_row, .ref q_best]), (q_eats, aI cy 12 z_eats), (q_barred, aI cy 12 z_barred), (q_s, aI cy 67 z_s_42)] H → va_D A [(q0, oB 7 [.int (0 : Int32), .long z_trace, .ref q_text, .int z_typed, .int z_next, .int z_token, .int z_place, .int z_value, .int z_fault, .ref q_weight, .ref q_eats, .ref q_barred, .ref q_laws, .int z_houses, .int z_draftHouses, .ref q_s, .ref q_kept, .ref q_isKept, .ref q_years, .ref q_likely, .ref q_then, .long z_all, .ref q_row, .ref q_best]), (q_eats, aI cy 12 z_eats), (q_barred, aI cy 12 z_barred), (q_s, aI cy 67 z_s_42)] → va_S A s.heap H locs → lv_has ls 4 [(0, .ref q0), (1, .int x1), (2, .int x2_42), (3, .int x3_42)] → W p l e rmX7_eat s m args below meth c H locs 0 0 Q (F0 m 42 ls []) := by
        intro n
        induction n with
        | zero => intro x2_42 x3_42 z_s_42 H locs ls hf; exact absurd hf (by simp [it3])
        | succ n ih42 =>
          intro x2_42 x3_42 z_s_42 H locs ls hf hP hD hS hl
          have hf : X7_eat_S42 z_houses z_eats z_barred x1 (it3 (X7_eat_S42 z_houses z_eats z_barred x1) n) x2_42 x3_42 z_s_42 = some r := hf
          generalize it3 (X7_eat_S42 z_houses z_eats z_barred x1) n = self_42 at hf ih42
          unfold X7_eat_S42 at hf
          refine lv_iload_n hx hb dX7_eat_42 rfl (lv_at hl 3 rfl) ?_
          refine lv_aload_n hx hb dX7_eat_43 rfl (lv_at hl 0 rfl) ?_
          refine va_get (D := D) (ci := 7) (v := .int z_houses) (C := RX7) (T := TX7) (N := 24) hx hb hts kc1 hown hK hP 0 rfl rfl 13 (by decide) kw3 (fun _ h9 => h9) rfl dX7_eat_44 ?_
          refine lv_icmp_ge (tgt := 79) hx hb dX7_eat_47 (by decide) (fun hc_47 => ?_) (fun hc_47 => ?_)
          · have hf := it_t hf hc_47
            refine lv_iload_n hx hb dX7_eat_79 rfl (lv_at hl 2 rfl) ?_
            exact hret' _ _ _ _ _ _ _ dX7_eat_80 hf hP hD hS
          · have hf := it_f hf hc_47
            refine lv_iload_n hx hb dX7_eat_50 rfl (lv_at hl 2 rfl) ?_
            refine lv_aload_n hx hb dX7_eat_51 rfl (lv_at hl 0 rfl) ?_
            refine lv_iload_n hx hb dX7_eat_52 rfl (lv_at hl 1 rfl) ?_
            have hJ68 : ∀ (t2_68 : Int32) (H : Heap) (locs : List Loc) (ls : Array Slot), X7_eat_J68 z_eats z_barred x2_42 x3_42 z_s_42 self_42 t2_68 = some r → va_P D vwCl [(q0, oB 7 [.int (0 : Int32), .long z_trace, .ref q_text, .int z_typed, .int z_next, .int z_token, .int z_place, .int z_value, .int z_fault, .ref q_weight, .ref q_eats, .ref q_barred, .ref q_laws, .int z_houses, .int z_draftHouses, .ref q_s, .ref q_kept, .ref q_isKept, .ref q_years, .ref q_likely, .ref q_then, .long z_all, .ref q_row, .ref q_best]), (q_eats, aI cy 12 z_eats), (q_barred, aI cy 12 z_barred), (q_s, aI cy 67 z_s_42)] H → va_D A [(q0, oB 7 [.int (0 : Int32), .long z_trace, .ref q_text, .int z_typed, .int z_next, .int z_token, .int z_place, .int z_value, .int z_fault, .ref q_weight, .ref q_eats, .ref q_barred, .ref q_laws, .int z_houses, .int z_draftHouses, .ref q_s, .ref q_kept, .ref q_isKept, .ref q_years, .ref q_likely, .ref q_then, .long z_all, .ref q_row, .ref q_best]), (q_eats, aI cy 12 z_eats), (q_barred, aI cy 12 z_barred), (q_s, aI cy 67 z_s_42)] → va_S A s.heap H locs → lv_has ls 4 [(0, .ref q0), (1, .int x1), (3, .int x3_42)] → W p l e rmX7_eat s m args below meth c H locs 0 0 Q (F0 m 68 ls [.int t2_68, .ref q0, .int x2_42]) := by
              intro t2_68 H locs ls hf hP hD hS hl
              unfold X7_eat_J68 at hf
              obtain ⟨r_68, hr_68, hf⟩ := bd_some hf
              refine cl_i (wc := [(q0, oB 7 [.int (0 : Int32), .long z_trace, .ref q_text, .int z_typed, .int z_next, .int z_token, .int z_place, .int z_value, .int z_fault, .ref q_weight, .ref q_eats, .ref q_barred, .ref q_laws, .int z_houses, .int z_draftHouses, .ref q_s, .ref q_kept, .ref q_isKept, .ref q_years, .ref q_likely, .ref q_then, .long z_all, .ref q_row, .ref q_best]), (q_eats, aI cy 12 z_eats), (q_barred, aI cy 12 z_barred), (q_s, aI cy 67 z_s_42)]) (w1 := [(q0, oB 7 [.int (0 : Int32), .long z_trace, .ref q_text, .int z_typed, .int z_next, .int z_token, .int z_place, .int z_value, .int z_fault, .ref q_weight, .ref q_eats, .ref q_barred, .ref q_laws, .int z_houses, .int z_draftHouses, .ref q_s, .ref q_kept, .ref q_isKept, .ref q_years, .ref q_likely, .ref q_then, .long z_all, .ref q_row, .ref q_best]), (q_eats, aI cy 12 z_eats), (q_barred, aI cy 12 z_barred), (q_s, aI cy 67 r_68.2)]) (wr := []) (w2 := [(q0, oB 7 [.int (0 : Int32), .long z_trace, .ref q_text, .int z_typed, .int z_next, .int z_token, .int z_place, .int z_value, .int z_fault, .ref q_weight, .ref q_eats, .ref q_barred, .ref q_laws, .int z_houses, .int z_draftHouses, .ref q_s, .ref q_kept, .ref q_isKept, .ref q_years, .ref q_likely, .ref q_then, .long z_all, .ref q_row, .ref q_best]), (q_eats, aI cy 12 z_eats), (q_barred, aI cy 12 z_barred), (q_s, aI cy 67 r_68.2)]) (va_runV (As := [.int t2_68]) (rest := [.int x2_42]) ⟨hx, hb, hml, hown, hts⟩ (ktX7_meal l D cy q0 q_text q_weight q_eats q_barred q_laws q_s q_kept q_isKept q_years q_likely q_then q_row q_best (0 : Int32) z_trace z_typed z_next z_token z_place z_value z_fault z_houses z_draftHouses z_all z_eats z_barred z_s_42 t2_68 r_68 hr_68 _) (cwV 1 hts gX7_eat_X7_meal rfl rfl rfl (by decide +kernel) ⟨Nat.le_of_ble_eq_true rfl, Nat.le_of_ble_eq_true rfl⟩) (pre_V (wc := [(q0, oB 7 [.int (0 : Int32), .long z_trace, .ref q_text, .int z_typed, .int z_next, .int z_token, .int z_place, .int z_value, .int z_fault, .ref q_weight, .ref q_eats, .ref q_barred, .ref q_laws, .int z_houses, .int z_draftHouses, .ref q_s, .ref q_kept, .ref q_isKept, .ref q_years, .ref q_likely, .ref q_then, .long z_all, .ref q_row, .ref q_best]), (q_eats, aI cy 12 z_eats), (q_barred, aI cy 12 z_barred), (q_s, aI cy 67 z_s_42)]) (ci := 7) hcx hsx hS hA hP hD [0, 1, 2, 3] rfl (by decide) rfl rfl) rfl rfl hl.1 rfl (lv_room (Nat.le_of_ble_eq_true rfl)) dX7_eat_68 ⟨Nat.zero_le _, Nat.zero_le _⟩) hP hD hS hA [0, 1, 2, 3] [] [0, 1, 2, 3] rfl rfl (by decide) (by decide) (by decide) rfl (fun H locs hP hD hS => ?_)
              refine lv_iadd hx hb dX7_eat_71 ?_
              refine lv_topi (fun x2_72 ex2_72 => ?_)
              have hf := lets_at hf ex2_72
              refine lv_istore_n (lv' := [(2, .int x2_72), (0, .ref q0), (1, .int x1), (3, .int x3_42)]) hx hb dX7_eat_72 rfl hl (by decide) rfl (fun ls hl => ?_)
              obtain ⟨x3_73, ex3_73⟩ : ∃ y : Int32, y = x3_42 + (1 : Int32) := ⟨_, rfl⟩
              have hf := lets_at hf ex3_73
              refine lv_iinc (v := x3_73) (lv' := [(3, .int x3_73), (2, .int x2_72), (0, .ref q0), (1, .int x1)]) hx hb dX7_eat_73 hl (k := 3) rfl (by rw [ex3_73]; rfl) (by decide) rfl (fun ls hl => ?_)
              refine lv_goto (tgt := 42) hx hb dX7_eat_76 (by decide) ?_
              exact ih42 x2_72 x3_73 r_68.2 _ _ _ hf hP hD hS (lv_sub hl [2, 3, 1, 0] rfl)
            refine lv_if_ne (tgt := 60) hx hb dX7_eat_53 (by decide) (fun hc_53 => ?_) (fun hc_53 => ?_)
            · have hf := it_f hf hc_53
              refine lv_aload_n hx hb dX7_eat_60 rfl (lv_at hl 0 rfl) ?_
              refine va_get (D := D) (ci := 7) (v := .int z_houses) (C := RX7) (T := TX7) (N := 24) hx hb hts kc1 hown hK hP 0 rfl rfl 13 (by decide) kw3 (fun _ h9 => h9) rfl dX7_eat_61 ?_
              refine lv_iconst (v := 1) hx hb dX7_eat_64 (by decide) ?_
              refine lv_isub hx hb dX7_eat_65 ?_
              refine lv_iload_n hx hb dX7_eat_66 rfl (lv_at hl 3 rfl) ?_
              refine lv_isub hx hb dX7_eat_67 ?_
              exact hJ68 ((z_houses - (1 : Int32)) - x3_42) _ _ _ hf hP hD hS (lv_sub hl [0, 1, 3] rfl)
            · have hf := it_t hf hc_53
              refine lv_iload_n hx hb dX7_eat_56 rfl (lv_at hl 3 rfl) ?_
              refine lv_goto (tgt := 68) hx hb dX7_eat_57 (by decide) ?_
              exact hJ68 x3_42 _ _ _ hf hP hD hS (lv_sub hl [0, 1, 3] rfl)
      exact hL42 _ (0 : Int32) (0 : Int32) z_s_37 _ _ _ hf hP hD hS (lv_sub hl [2, 3, 1, 0] rfl)
    · have hf := it_t hf hc_24
      refine lv_bipush (v := -2) hx hb dX7_eat_27 (by decide) ?_
      exact hret' _ _ _ _ _ _ _ dX7_eat_29 hf hP hD hS
  · have hf := it_t hf hc_11
    refine lv_iconst (v := -1) hx hb dX7_eat_14 (by decide) ?_
    exact hret' _ _ _ _ _ _ _ dX7_eat_15 hf hP hD hS

def fX7_ate (z_houses : Int32) (z_s : Nat → Int32) (x1 : Int32) (x2 : Int32) : Option (Int32 × Int32) := (fX7_isHouse z_houses x1).bind (fun r_7 => if r_7 = 0 then (some ((-1 : Int32), (0 : Int32))) else ((fX7_isSort x2).bind (fun r_14 => if r_14 = 0 then (some ((-1 : Int32), (0 : Int32))) else (gd (okx (((30 : Int32) + ((4 : Int32) * x1)) + x2) 67) (some (z_s (((30 : Int32) + ((4 : Int32) * x1)) + x2).toNatClampNeg, (0 : Int32)))))))
abbrev rmX7_ate : Room := { frames := 2, cells := 0, slots := 0, locals := 43 }
set_option maxHeartbeats 4000000 in
set_option maxRecDepth 100000 in
theorem ktX7_ate (l : Launch) (D : va_G) (cy : Nat → ClassId) (q0 : Nat) (q_text : Nat) (q_weight : Nat) (q_eats : Nat) (q_barred : Nat) (q_laws : Nat) (q_s : Nat) (q_kept : Nat) (q_isKept : Nat) (q_years : Nat) (q_likely : Nat) (q_then : Nat) (q_row : Nat) (q_best : Nat) (z_thrown : Int32) (z_trace : Int64) (z_typed : Int32) (z_next : Int32) (z_token : Int32) (z_place : Int32) (z_value : Int32) (z_fault : Int32) (z_houses : Int32) (z_draftHouses : Int32) (z_all : Int64) (z_s : Nat → Int32) (x1 : Int32) (x2 : Int32) (r : Int32 × Int32) (hf : fX7_ate z_houses z_s x1 x2 = some r) : CtI l yX7_ate wsX7_ate rmX7_ate D cy [.ref q0, .int x1, .int x2] [(q0, oB 7 [.int z_thrown, .long z_trace, .ref q_text, .int z_typed, .int z_next, .int z_token, .int z_place, .int z_value, .int z_fault, .ref q_weight, .ref q_eats, .ref q_barred, .ref q_laws, .int z_houses, .int z_draftHouses, .ref q_s, .ref q_kept, .ref q_isKept, .ref q_years, .ref q_likely, .ref q_then, .long z_all, .ref q_row, .ref q_best]), (q_s, aI cy 67 z_s)] [(q0, oB 7 [.int r.2, .long z_trace, .ref q_text, .int z_typed, .int z_next, .int z_token, .int z_place, .int z_value, .int z_fault, .ref q_weight, .ref q_eats, .ref q_barred, .ref q_laws, .int z_houses, .int z_draftHouses, .ref q_s, .ref q_kept, .ref q_isKept, .ref q_years, .ref q_likely, .ref q_then, .long z_all, .ref q_row, .ref q_best]), (q_s, aI cy 67 z_s)] r.1 := by
  refine Ct_ofI (cc := cX7_ate) (nL := 3) (by decide) rfl (Nat.le_of_ble_eq_true rfl) ?_
  intro p e s m args below meth c A Q hM hret hP hD hS ls hl
  obtain ⟨hx, hb, hml, hown, hts, hcx, hA, hsx⟩ := hM
  have hown : s.vm.findClass RX7 = some m.cls := hown
  have hK := hcx.1
  have hN := hcx.2
  have kw0 := hts (.fieldLink RX7 54 "EachBringsModel" "thrown" "I") (List.mem_of_getElem? (i := 1) rfl)
  have kc1 : ∀ w ∈ wsX70, w ∈ wsX7_ate := fun _ h => List.mem_cons_of_mem _ (List.mem_append_right _ h)
  have kw2 := hts (.fieldLink RX7 25 "EachBringsModel" "s" "[I") (List.mem_of_getElem? (i := 2) rfl)
  have hl : lv_has ls 3 [(0, .ref q0), (1, .int x1), (2, .int x2)] := hl
  have hret' : ∀ (pc : Nat) (ls : Array Slot) (H : Heap) (locs : List Loc) (v : Int32) (w0 : Int32), decode cX7_ate pc = .ok (.ireturn, 1) → some (v, w0) = some r → va_P D vwCl [(q0, oB 7 [.int w0, .long z_trace, .ref q_text, .int z_typed, .int z_next, .int z_token, .int z_place, .int z_value, .int z_fault, .ref q_weight, .ref q_eats, .ref q_barred, .ref q_laws, .int z_houses, .int z_draftHouses, .ref q_s, .ref q_kept, .ref q_isKept, .ref q_years, .ref q_likely, .ref q_then, .long z_all, .ref q_row, .ref q_best]), (q_s, aI cy 67 z_s)] H → va_D A [(q0, oB 7 [.int w0, .long z_trace, .ref q_text, .int z_typed, .int z_next, .int z_token, .int z_place, .int z_value, .int z_fault, .ref q_weight, .ref q_eats, .ref q_barred, .ref q_laws, .int z_houses, .int z_draftHouses, .ref q_s, .ref q_kept, .ref q_isKept, .ref q_years, .ref q_likely, .ref q_then, .long z_all, .ref q_row, .ref q_best]), (q_s, aI cy 67 z_s)] → va_S A s.heap H locs → W p l e rmX7_ate s m args below meth c H locs 0 0 Q (F0 m pc ls [.int v]) := by
    intro pc ls H locs v w0 hd he hP hD hS
    cases he
    exact hret _ _ _ _ _ hd rfl hP hD hS
  unfold fX7_ate at hf
  refine lv_aload_n hx hb dX7_ate_0 rfl (lv_at hl 0 rfl) ?_
  refine lv_iconst (v := 0) hx hb dX7_ate_1 (by decide) ?_
  refine va_put (D := D) (ci := 7) (v := .int (0 : Int32)) (ty := .int) (C := RX7) (T := TX7) (N := 24) hx hb hts kc1 tyX7 tyX7_ok nmX7 hown hK hP hD hS 0 rfl rfl 0 (by decide) kw0 (fun _ h9 => h9) rfl pfI rfl rfl (Nat.le_of_ble_eq_true rfl) dX7_ate_2 (fun H locs hP hD hS => ?_)
  have hP : va_P D vwCl [(q0, oB 7 [.int (0 : Int32), .long z_trace, .ref q_text, .int z_typed, .int z_next, .int z_token, .int z_place, .int z_value, .int z_fault, .ref q_weight, .ref q_eats, .ref q_barred, .ref q_laws, .int z_houses, .int z_draftHouses, .ref q_s, .ref q_kept, .ref q_isKept, .ref q_years, .ref q_likely, .ref q_then, .long z_all, .ref q_row, .ref q_best]), (q_s, aI cy 67 z_s)] H := hP
  have hD : va_D A [(q0, oB 7 [.int (0 : Int32), .long z_trace, .ref q_text, .int z_typed, .int z_next, .int z_token, .int z_place, .int z_value, .int z_fault, .ref q_weight, .ref q_eats, .ref q_barred, .ref q_laws, .int z_houses, .int z_draftHouses, .ref q_s, .ref q_kept, .ref q_isKept, .ref q_years, .ref q_likely, .ref q_then, .long z_all, .ref q_row, .ref q_best]), (q_s, aI cy 67 z_s)] := hD
  refine lv_aload_n hx hb dX7_ate_5 rfl (lv_at hl 0 rfl) ?_
  refine lv_iload_n hx hb dX7_ate_6 rfl (lv_at hl 1 rfl) ?_
  obtain ⟨r_7, hr_7, hf⟩ := bd_some hf
  refine cl_i (wc := [(q0, oB 7 [.int (0 : Int32), .long z_trace, .ref q_text, .int z_typed, .int z_next, .int z_token, .int z_place, .int z_value, .int z_fault, .ref q_weight, .ref q_eats, .ref q_barred, .ref q_laws, .int z_houses, .int z_draftHouses, .ref q_s, .ref q_kept, .ref q_isKept, .ref q_years, .ref q_likely, .ref q_then, .long z_all, .ref q_row, .ref q_best])]) (w1 := [(q0, oB 7 [.int (0 : Int32), .long z_trace, .ref q_text, .int z_typed, .int z_next, .int z_token, .int z_place, .int z_value, .int z_fault, .ref q_weight, .ref q_eats, .ref q_barred, .ref q_laws, .int z_houses, .int z_draftHouses, .ref q_s, .ref q_kept, .ref q_isKept, .ref q_years, .ref q_likely, .ref q_then, .long z_all, .ref q_row, .ref q_best])]) (wr := [(q_s, aI cy 67 z_s)]) (w2 := [(q0, oB 7 [.int (0 : Int32), .long z_trace, .ref q_text, .int z_typed, .int z_next, .int z_token, .int z_place, .int z_value, .int z_fault, .ref q_weight, .ref q_eats, .ref q_barred, .ref q_laws, .int z_houses, .int z_draftHouses, .ref q_s, .ref q_kept, .ref q_isKept, .ref q_years, .ref q_likely, .ref q_then, .long z_all, .ref q_row, .ref q_best]), (q_s, aI cy 67 z_s)]) (va_runV (As := [.int x1]) (rest := []) ⟨hx, hb, hml, hown, hts⟩ (ktX7_isHouse l D cy q0 q_text q_weight q_eats q_barred q_laws q_s q_kept q_isKept q_years q_likely q_then q_row q_best (0 : Int32) z_trace z_typed z_next z_token z_place z_value z_fault z_houses z_draftHouses z_all x1 r_7 hr_7 _) (cwV 1 hts gX7_ate_X7_isHouse rfl rfl rfl (by decide +kernel) ⟨Nat.le_of_ble_eq_true rfl, Nat.le_of_ble_eq_true rfl⟩) (pre_V (wc := [(q0, oB 7 [.int (0 : Int32), .long z_trace, .ref q_text, .int z_typed, .int z_next, .int z_token, .int z_place, .int z_value, .int z_fault, .ref q_weight, .ref q_eats, .ref q_barred, .ref q_laws, .int z_houses, .int z_draftHouses, .ref q_s, .ref q_kept, .ref q_isKept, .ref q_years, .ref q_likely, .ref q_then, .long z_all, .ref q_row, .ref q_best])]) (ci := 7) hcx hsx hS hA hP hD [0] rfl (by decide) rfl rfl) rfl rfl hl.1 rfl (lv_room (Nat.le_of_ble_eq_true rfl)) dX7_ate_7 ⟨Nat.zero_le _, Nat.zero_le _⟩) hP hD hS hA [0] [1] [1, 0] rfl rfl (by decide) (by decide) (by decide) rfl (fun H locs hP hD hS => ?_)
  refine lv_if_eq (tgt := 36) hx hb dX7_ate_10 (by decide) (fun hc_10 => ?_) (fun hc_10 => ?_)
  · have hf := it_t hf hc_10
    refine lv_iconst (v := -1) hx hb dX7_ate_36 (by decide) ?_
    exact hret' _ _ _ _ _ _ dX7_ate_37 hf hP hD hS
  · have hf := it_f hf hc_10
    refine lv_iload_n hx hb dX7_ate_13 rfl (lv_at hl 2 rfl) ?_
    obtain ⟨r_14, hr_14, hf⟩ := bd_some hf
    refine cl_i (wc := []) (w1 := []) (wr := [(q0, oB 7 [.int (0 : Int32), .long z_trace, .ref q_text, .int z_typed, .int z_next, .int z_token, .int z_place, .int z_value, .int z_fault, .ref q_weight, .ref q_eats, .ref q_barred, .ref q_laws, .int z_houses, .int z_draftHouses, .ref q_s, .ref q_kept, .ref q_isKept, .ref q_years, .ref q_likely, .ref q_then, .long z_all, .ref q_row, .ref q_best]), (q_s, aI cy 67 z_s)]) (w2 := [(q0, oB 7 [.int (0 : Int32), .long z_trace, .ref q_text, .int z_typed, .int z_next, .int z_token, .int z_place, .int z_value, .int z_fault, .ref q_weight, .ref q_eats, .ref q_barred, .ref q_laws, .int z_houses, .int z_draftHouses, .ref q_s, .ref q_kept, .ref q_isKept, .ref q_years, .ref q_likely, .ref q_then, .long z_all, .ref q_row, .ref q_best]), (q_s, aI cy 67 z_s)]) (va_runS (As := [.int x2]) (rest := []) ⟨hx, hb, hml, hown, hts⟩ (ktX7_isSort l D cy x2 r_14 hr_14 _) (va_cwS 1 hts gX7_ate_X7_isSort rfl rfl rfl (by decide +kernel) ⟨Nat.le_of_ble_eq_true rfl, Nat.le_of_ble_eq_true rfl⟩) (pre_S (wc := []) hcx hsx hS hA hP hD [] rfl (by decide)) rfl rfl hl.1 rfl (lv_room (Nat.le_of_ble_eq_true rfl)) dX7_ate_14 ⟨Nat.zero_le _, Nat.zero_le _⟩) hP hD hS hA [] [0, 1] [0, 1] rfl rfl (by decide) (by decide) (by decide) rfl (fun H locs hP hD hS => ?_)
    refine lv_if_eq (tgt := 36) hx hb dX7_ate_17 (by decide) (fun hc_17 => ?_) (fun hc_17 => ?_)
    · have hf := it_t hf hc_17
      refine lv_iconst (v := -1) hx hb dX7_ate_36 (by decide) ?_
      exact hret' _ _ _ _ _ _ dX7_ate_37 hf hP hD hS
    · have hf := it_f hf hc_17
      refine lv_aload_n hx hb dX7_ate_20 rfl (lv_at hl 0 rfl) ?_
      refine va_get (D := D) (ci := 7) (v := .ref q_s) (C := RX7) (T := TX7) (N := 24) hx hb hts kc1 hown hK hP 0 rfl rfl 15 (by decide) kw2 (fun _ h9 => h9) rfl dX7_ate_21 ?_
      refine lv_bipush (v := 30) hx hb dX7_ate_24 (by decide) ?_
      refine lv_iconst (v := 4) hx hb dX7_ate_26 (by decide) ?_
      refine lv_iload_n hx hb dX7_ate_27 rfl (lv_at hl 1 rfl) ?_
      refine lv_imul hx hb dX7_ate_28 ?_
      refine lv_iadd hx hb dX7_ate_29 ?_
      refine lv_iload_n hx hb dX7_ate_30 rfl (lv_at hl 2 rfl) ?_
      refine lv_iadd hx hb dX7_ate_31 ?_
      obtain ⟨hg_32, hf⟩ := gd_some hf
      refine va_iald hx hb hK hP 1 0 rfl rfl hg_32 dX7_ate_32 ?_
      refine lv_goto (tgt := 37) hx hb dX7_ate_33 (by decide) ?_
      exact hret' _ _ _ _ _ _ dX7_ate_37 hf hP hD hS

def fX7_eatenBy (z_s : Nat → Int32) (x1 : Int32) : Option Int32 := gd (okx ((30 : Int32) + ((4 : Int32) * x1)) 67) (gd (okx (((30 : Int32) + ((4 : Int32) * x1)) + (1 : Int32)) 67) (gd (okx (((30 : Int32) + ((4 : Int32) * x1)) + (2 : Int32)) 67) (gd (okx (((30 : Int32) + ((4 : Int32) * x1)) + (3 : Int32)) 67) (some ((((z_s ((30 : Int32) + ((4 : Int32) * x1)).toNatClampNeg) + (z_s (((30 : Int32) + ((4 : Int32) * x1)) + (1 : Int32)).toNatClampNeg)) + (z_s (((30 : Int32) + ((4 : Int32) * x1)) + (2 : Int32)).toNatClampNeg)) + (z_s (((30 : Int32) + ((4 : Int32) * x1)) + (3 : Int32)).toNatClampNeg))))))
abbrev rmX7_eatenBy : Room := { frames := 0, cells := 0, slots := 0, locals := 0 }
set_option maxHeartbeats 4000000 in
set_option maxRecDepth 100000 in
theorem ktX7_eatenBy (l : Launch) (D : va_G) (cy : Nat → ClassId) (q0 : Nat) (q_text : Nat) (q_weight : Nat) (q_eats : Nat) (q_barred : Nat) (q_laws : Nat) (q_s : Nat) (q_kept : Nat) (q_isKept : Nat) (q_years : Nat) (q_likely : Nat) (q_then : Nat) (q_row : Nat) (q_best : Nat) (z_thrown : Int32) (z_trace : Int64) (z_typed : Int32) (z_next : Int32) (z_token : Int32) (z_place : Int32) (z_value : Int32) (z_fault : Int32) (z_houses : Int32) (z_draftHouses : Int32) (z_all : Int64) (z_s : Nat → Int32) (x1 : Int32) (r : Int32) (hf : fX7_eatenBy z_s x1 = some r) : CtI l yX7_eatenBy wsX7_eatenBy rmX7_eatenBy D cy [.ref q0, .int x1] [(q0, oB 7 [.int z_thrown, .long z_trace, .ref q_text, .int z_typed, .int z_next, .int z_token, .int z_place, .int z_value, .int z_fault, .ref q_weight, .ref q_eats, .ref q_barred, .ref q_laws, .int z_houses, .int z_draftHouses, .ref q_s, .ref q_kept, .ref q_isKept, .ref q_years, .ref q_likely, .ref q_then, .long z_all, .ref q_row, .ref q_best]), (q_s, aI cy 67 z_s)] [(q0, oB 7 [.int z_thrown, .long z_trace, .ref q_text, .int z_typed, .int z_next, .int z_token, .int z_place, .int z_value, .int z_fault, .ref q_weight, .ref q_eats, .ref q_barred, .ref q_laws, .int z_houses, .int z_draftHouses, .ref q_s, .ref q_kept, .ref q_isKept, .ref q_years, .ref q_likely, .ref q_then, .long z_all, .ref q_row, .ref q_best]), (q_s, aI cy 67 z_s)] r := by
  refine Ct_ofI (cc := cX7_eatenBy) (nL := 2) (by decide) rfl (Nat.le_of_ble_eq_true rfl) ?_
  intro p e s m args below meth c A Q hM hret hP hD hS ls hl
  obtain ⟨hx, hb, hml, hown, hts, hcx, hA, hsx⟩ := hM
  have hown : s.vm.findClass RX7 = some m.cls := hown
  have hK := hcx.1
  have hN := hcx.2
  have kw0 := hts (.fieldLink RX7 25 "EachBringsModel" "s" "[I") (List.mem_of_getElem? (i := 1) rfl)
  have kc1 : ∀ w ∈ wsX70, w ∈ wsX7_eatenBy := fun _ h => List.mem_cons_of_mem _ (List.mem_append_right _ h)
  have hl : lv_has ls 2 [(0, .ref q0), (1, .int x1)] := hl
  have hret' : ∀ (pc : Nat) (ls : Array Slot) (H : Heap) (locs : List Loc) (v : Int32), decode cX7_eatenBy pc = .ok (.ireturn, 1) → some v = some r → va_P D vwCl [(q0, oB 7 [.int z_thrown, .long z_trace, .ref q_text, .int z_typed, .int z_next, .int z_token, .int z_place, .int z_value, .int z_fault, .ref q_weight, .ref q_eats, .ref q_barred, .ref q_laws, .int z_houses, .int z_draftHouses, .ref q_s, .ref q_kept, .ref q_isKept, .ref q_years, .ref q_likely, .ref q_then, .long z_all, .ref q_row, .ref q_best]), (q_s, aI cy 67 z_s)] H → va_D A [(q0, oB 7 [.int z_thrown, .long z_trace, .ref q_text, .int z_typed, .int z_next, .int z_token, .int z_place, .int z_value, .int z_fault, .ref q_weight, .ref q_eats, .ref q_barred, .ref q_laws, .int z_houses, .int z_draftHouses, .ref q_s, .ref q_kept, .ref q_isKept, .ref q_years, .ref q_likely, .ref q_then, .long z_all, .ref q_row, .ref q_best]), (q_s, aI cy 67 z_s)] → va_S A s.heap H locs → W p l e rmX7_eatenBy s m args below meth c H locs 0 0 Q (F0 m pc ls [.int v]) := by
    intro pc ls H locs v hd he hP hD hS
    cases he
    exact hret _ _ _ _ _ hd rfl hP hD hS
  unfold fX7_eatenBy at hf
  refine lv_aload_n hx hb dX7_eatenBy_0 rfl (lv_at hl 0 rfl) ?_
  refine va_get (D := D) (ci := 7) (v := .ref q_s) (C := RX7) (T := TX7) (N := 24) hx hb hts kc1 hown hK hP 0 rfl rfl 15 (by decide) kw0 (fun _ h9 => h9) rfl dX7_eatenBy_1 ?_
  refine lv_bipush (v := 30) hx hb dX7_eatenBy_4 (by decide) ?_
  refine lv_iconst (v := 4) hx hb dX7_eatenBy_6 (by decide) ?_
  refine lv_iload_n hx hb dX7_eatenBy_7 rfl (lv_at hl 1 rfl) ?_
  refine lv_imul hx hb dX7_eatenBy_8 ?_
  refine lv_iadd hx hb dX7_eatenBy_9 ?_
  obtain ⟨hg_10, hf⟩ := gd_some hf
  refine va_iald hx hb hK hP 1 0 rfl rfl hg_10 dX7_eatenBy_10 ?_
  refine lv_aload_n hx hb dX7_eatenBy_11 rfl (lv_at hl 0 rfl) ?_
  refine va_get (D := D) (ci := 7) (v := .ref q_s) (C := RX7) (T := TX7) (N := 24) hx hb hts kc1 hown hK hP 0 rfl rfl 15 (by decide) kw0 (fun _ h9 => h9) rfl dX7_eatenBy_12 ?_
  refine lv_bipush (v := 30) hx hb dX7_eatenBy_15 (by decide) ?_
  refine lv_iconst (v := 4) hx hb dX7_eatenBy_17 (by decide) ?_
  refine lv_iload_n hx hb dX7_eatenBy_18 rfl (lv_at hl 1 rfl) ?_
  refine lv_imul hx hb dX7_eatenBy_19 ?_
  refine lv_iadd hx hb dX7_eatenBy_20 ?_
  refine lv_iconst (v := 1) hx hb dX7_eatenBy_21 (by decide) ?_
  refine lv_iadd hx hb dX7_eatenBy_22 ?_
  obtain ⟨hg_23, hf⟩ := gd_some hf
  refine va_iald hx hb hK hP 1 0 rfl rfl hg_23 dX7_eatenBy_23 ?_
  refine lv_iadd hx hb dX7_eatenBy_24 ?_
  refine lv_aload_n hx hb dX7_eatenBy_25 rfl (lv_at hl 0 rfl) ?_
  refine va_get (D := D) (ci := 7) (v := .ref q_s) (C := RX7) (T := TX7) (N := 24) hx hb hts kc1 hown hK hP 0 rfl rfl 15 (by decide) kw0 (fun _ h9 => h9) rfl dX7_eatenBy_26 ?_
  refine lv_bipush (v := 30) hx hb dX7_eatenBy_29 (by decide) ?_
  refine lv_iconst (v := 4) hx hb dX7_eatenBy_31 (by decide) ?_
  refine lv_iload_n hx hb dX7_eatenBy_32 rfl (lv_at hl 1 rfl) ?_
  refine lv_imul hx hb dX7_eatenBy_33 ?_
  refine lv_iadd hx hb dX7_eatenBy_34 ?_
  refine lv_iconst (v := 2) hx hb dX7_eatenBy_35 (by decide) ?_
  refine lv_iadd hx hb dX7_eatenBy_36 ?_
  obtain ⟨hg_37, hf⟩ := gd_some hf
  refine va_iald hx hb hK hP 1 0 rfl rfl hg_37 dX7_eatenBy_37 ?_
  refine lv_iadd hx hb dX7_eatenBy_38 ?_
  refine lv_aload_n hx hb dX7_eatenBy_39 rfl (lv_at hl 0 rfl) ?_
  refine va_get (D := D) (ci := 7) (v := .ref q_s) (C := RX7) (T := TX7) (N := 24) hx hb hts kc1 hown hK hP 0 rfl rfl 15 (by decide) kw0 (fun _ h9 => h9) rfl dX7_eatenBy_40 ?_
  refine lv_bipush (v := 30) hx hb dX7_eatenBy_43 (by decide) ?_
  refine lv_iconst (v := 4) hx hb dX7_eatenBy_45 (by decide) ?_
  refine lv_iload_n hx hb dX7_eatenBy_46 rfl (lv_at hl 1 rfl) ?_
  refine lv_imul hx hb dX7_eatenBy_47 ?_
  refine lv_iadd hx hb dX7_eatenBy_48 ?_
  refine lv_iconst (v := 3) hx hb dX7_eatenBy_49 (by decide) ?_
  refine lv_iadd hx hb dX7_eatenBy_50 ?_
  obtain ⟨hg_51, hf⟩ := gd_some hf
  refine va_iald hx hb hK hP 1 0 rfl rfl hg_51 dX7_eatenBy_51 ?_
  refine lv_iadd hx hb dX7_eatenBy_52 ?_
  exact hret' _ _ _ _ _ dX7_eatenBy_53 hf hP hD hS

def fX7_hungry (z_houses : Int32) (z_eats : Nat → Int32) (z_s : Nat → Int32) (x1 : Int32) : Option (Int32 × Int32) := (fX7_isHouse z_houses x1).bind (fun r_7 => if r_7 = 0 then (some ((-1 : Int32), (0 : Int32))) else (if (z_s (58 : Int32).toNatClampNeg) = 0 then (some ((-2 : Int32), (0 : Int32))) else (gd (okx x1 12) ((fX7_eatenBy z_s x1).bind (fun r_40 => some ((z_eats x1.toNatClampNeg) - r_40, (0 : Int32)))))))
abbrev rmX7_hungry : Room := { frames := 2, cells := 0, slots := 0, locals := 43 }
set_option maxHeartbeats 4000000 in
set_option maxRecDepth 100000 in
theorem ktX7_hungry (l : Launch) (D : va_G) (cy : Nat → ClassId) (q0 : Nat) (q_text : Nat) (q_weight : Nat) (q_eats : Nat) (q_barred : Nat) (q_laws : Nat) (q_s : Nat) (q_kept : Nat) (q_isKept : Nat) (q_years : Nat) (q_likely : Nat) (q_then : Nat) (q_row : Nat) (q_best : Nat) (z_thrown : Int32) (z_trace : Int64) (z_typed : Int32) (z_next : Int32) (z_token : Int32) (z_place : Int32) (z_value : Int32) (z_fault : Int32) (z_houses : Int32) (z_draftHouses : Int32) (z_all : Int64) (z_eats : Nat → Int32) (z_s : Nat → Int32) (x1 : Int32) (r : Int32 × Int32) (hf : fX7_hungry z_houses z_eats z_s x1 = some r) : CtI l yX7_hungry wsX7_hungry rmX7_hungry D cy [.ref q0, .int x1] [(q0, oB 7 [.int z_thrown, .long z_trace, .ref q_text, .int z_typed, .int z_next, .int z_token, .int z_place, .int z_value, .int z_fault, .ref q_weight, .ref q_eats, .ref q_barred, .ref q_laws, .int z_houses, .int z_draftHouses, .ref q_s, .ref q_kept, .ref q_isKept, .ref q_years, .ref q_likely, .ref q_then, .long z_all, .ref q_row, .ref q_best]), (q_eats, aI cy 12 z_eats), (q_s, aI cy 67 z_s)] [(q0, oB 7 [.int r.2, .long z_trace, .ref q_text, .int z_typed, .int z_next, .int z_token, .int z_place, .int z_value, .int z_fault, .ref q_weight, .ref q_eats, .ref q_barred, .ref q_laws, .int z_houses, .int z_draftHouses, .ref q_s, .ref q_kept, .ref q_isKept, .ref q_years, .ref q_likely, .ref q_then, .long z_all, .ref q_row, .ref q_best]), (q_eats, aI cy 12 z_eats), (q_s, aI cy 67 z_s)] r.1 := by
  refine Ct_ofI (cc := cX7_hungry) (nL := 2) (by decide) rfl (Nat.le_of_ble_eq_true rfl) ?_
  intro p e s m args below meth c A Q hM hret hP hD hS ls hl
  obtain ⟨hx, hb, hml, hown, hts, hcx, hA, hsx⟩ := hM
  have hown : s.vm.findClass RX7 = some m.cls := hown
  have hK := hcx.1
  have hN := hcx.2
  have kw0 := hts (.fieldLink RX7 54 "EachBringsModel" "thrown" "I") (List.mem_of_getElem? (i := 1) rfl)
  have kc1 : ∀ w ∈ wsX70, w ∈ wsX7_hungry := fun _ h => List.mem_cons_of_mem _ (List.mem_append_right _ h)
  have kw2 := hts (.fieldLink RX7 25 "EachBringsModel" "s" "[I") (List.mem_of_getElem? (i := 2) rfl)
  have kw3 := hts (.fieldLink RX7 16 "EachBringsModel" "eats" "[I") (List.mem_of_getElem? (i := 3) rfl)
  have hl : lv_has ls 2 [(0, .ref q0), (1, .int x1)] := hl
  have hret' : ∀ (pc : Nat) (ls : Array Slot) (H : Heap) (locs : List Loc) (v : Int32) (w0 : Int32), decode cX7_hungry pc = .ok (.ireturn, 1) → some (v, w0) = some r → va_P D vwCl [(q0, oB 7 [.int w0, .long z_trace, .ref q_text, .int z_typed, .int z_next, .int z_token, .int z_place, .int z_value, .int z_fault, .ref q_weight, .ref q_eats, .ref q_barred, .ref q_laws, .int z_houses, .int z_draftHouses, .ref q_s, .ref q_kept, .ref q_isKept, .ref q_years, .ref q_likely, .ref q_then, .long z_all, .ref q_row, .ref q_best]), (q_eats, aI cy 12 z_eats), (q_s, aI cy 67 z_s)] H → va_D A [(q0, oB 7 [.int w0, .long z_trace, .ref q_text, .int z_typed, .int z_next, .int z_token, .int z_place, .int z_value, .int z_fault, .ref q_weight, .ref q_eats, .ref q_barred, .ref q_laws, .int z_houses, .int z_draftHouses, .ref q_s, .ref q_kept, .ref q_isKept, .ref q_years, .ref q_likely, .ref q_then, .long z_all, .ref q_row, .ref q_best]), (q_eats, aI cy 12 z_eats), (q_s, aI cy 67 z_s)] → va_S A s.heap H locs → W p l e rmX7_hungry s m args below meth c H locs 0 0 Q (F0 m pc ls [.int v]) := by
    intro pc ls H locs v w0 hd he hP hD hS
    cases he
    exact hret _ _ _ _ _ hd rfl hP hD hS
  unfold fX7_hungry at hf
  refine lv_aload_n hx hb dX7_hungry_0 rfl (lv_at hl 0 rfl) ?_
  refine lv_iconst (v := 0) hx hb dX7_hungry_1 (by decide) ?_
  refine va_put (D := D) (ci := 7) (v := .int (0 : Int32)) (ty := .int) (C := RX7) (T := TX7) (N := 24) hx hb hts kc1 tyX7 tyX7_ok nmX7 hown hK hP hD hS 0 rfl rfl 0 (by decide) kw0 (fun _ h9 => h9) rfl pfI rfl rfl (Nat.le_of_ble_eq_true rfl) dX7_hungry_2 (fun H locs hP hD hS => ?_)
  have hP : va_P D vwCl [(q0, oB 7 [.int (0 : Int32), .long z_trace, .ref q_text, .int z_typed, .int z_next, .int z_token, .int z_place, .int z_value, .int z_fault, .ref q_weight, .ref q_eats, .ref q_barred, .ref q_laws, .int z_houses, .int z_draftHouses, .ref q_s, .ref q_kept, .ref q_isKept, .ref q_years, .ref q_likely, .ref q_then, .long z_all, .ref q_row, .ref q_best]), (q_eats, aI cy 12 z_eats), (q_s, aI cy 67 z_s)] H := hP
  have hD : va_D A [(q0, oB 7 [.int (0 : Int32), .long z_trace, .ref q_text, .int z_typed, .int z_next, .int z_token, .int z_place, .int z_value, .int z_fault, .ref q_weight, .ref q_eats, .ref q_barred, .ref q_laws, .int z_houses, .int z_draftHouses, .ref q_s, .ref q_kept, .ref q_isKept, .ref q_years, .ref q_likely, .ref q_then, .long z_all, .ref q_row, .ref q_best]), (q_eats, aI cy 12 z_eats), (q_s, aI cy 67 z_s)] := hD
  refine lv_aload_n hx hb dX7_hungry_5 rfl (lv_at hl 0 rfl) ?_
  refine lv_iload_n hx hb dX7_hungry_6 rfl (lv_at hl 1 rfl) ?_
  obtain ⟨r_7, hr_7, hf⟩ := bd_some hf
  refine cl_i (wc := [(q0, oB 7 [.int (0 : Int32), .long z_trace, .ref q_text, .int z_typed, .int z_next, .int z_token, .int z_place, .int z_value, .int z_fault, .ref q_weight, .ref q_eats, .ref q_barred, .ref q_laws, .int z_houses, .int z_draftHouses, .ref q_s, .ref q_kept, .ref q_isKept, .ref q_years, .ref q_likely, .ref q_then, .long z_all, .ref q_row, .ref q_best])]) (w1 := [(q0, oB 7 [.int (0 : Int32), .long z_trace, .ref q_text, .int z_typed, .int z_next, .int z_token, .int z_place, .int z_value, .int z_fault, .ref q_weight, .ref q_eats, .ref q_barred, .ref q_laws, .int z_houses, .int z_draftHouses, .ref q_s, .ref q_kept, .ref q_isKept, .ref q_years, .ref q_likely, .ref q_then, .long z_all, .ref q_row, .ref q_best])]) (wr := [(q_eats, aI cy 12 z_eats), (q_s, aI cy 67 z_s)]) (w2 := [(q0, oB 7 [.int (0 : Int32), .long z_trace, .ref q_text, .int z_typed, .int z_next, .int z_token, .int z_place, .int z_value, .int z_fault, .ref q_weight, .ref q_eats, .ref q_barred, .ref q_laws, .int z_houses, .int z_draftHouses, .ref q_s, .ref q_kept, .ref q_isKept, .ref q_years, .ref q_likely, .ref q_then, .long z_all, .ref q_row, .ref q_best]), (q_eats, aI cy 12 z_eats), (q_s, aI cy 67 z_s)]) (va_runV (As := [.int x1]) (rest := []) ⟨hx, hb, hml, hown, hts⟩ (ktX7_isHouse l D cy q0 q_text q_weight q_eats q_barred q_laws q_s q_kept q_isKept q_years q_likely q_then q_row q_best (0 : Int32) z_trace z_typed z_next z_token z_place z_value z_fault z_houses z_draftHouses z_all x1 r_7 hr_7 _) (cwV 1 hts gX7_hungry_X7_isHouse rfl rfl rfl (by decide +kernel) ⟨Nat.le_of_ble_eq_true rfl, Nat.le_of_ble_eq_true rfl⟩) (pre_V (wc := [(q0, oB 7 [.int (0 : Int32), .long z_trace, .ref q_text, .int z_typed, .int z_next, .int z_token, .int z_place, .int z_value, .int z_fault, .ref q_weight, .ref q_eats, .ref q_barred, .ref q_laws, .int z_houses, .int z_draftHouses, .ref q_s, .ref q_kept, .ref q_isKept, .ref q_years, .ref q_likely, .ref q_then, .long z_all, .ref q_row, .ref q_best])]) (ci := 7) hcx hsx hS hA hP hD [0] rfl (by decide) rfl rfl) rfl rfl hl.1 rfl (lv_room (Nat.le_of_ble_eq_true rfl)) dX7_hungry_7 ⟨Nat.zero_le _, Nat.zero_le _⟩) hP hD hS hA [0] [1, 2] [2, 0, 1] rfl rfl (by decide) (by decide) (by decide) rfl (fun H locs hP hD hS => ?_)
  refine lv_if_ne (tgt := 17) hx hb dX7_hungry_10 (by decide) (fun hc_10 => ?_) (fun hc_10 => ?_)
  · have hf := it_f hf hc_10
    refine lv_aload_n hx hb dX7_hungry_17 rfl (lv_at hl 0 rfl) ?_
    refine va_get (D := D) (ci := 7) (v := .ref q_s) (C := RX7) (T := TX7) (N := 24) hx hb hts kc1 hown hK hP 0 rfl rfl 15 (by decide) kw2 (fun _ h9 => h9) rfl dX7_hungry_18 ?_
    refine lv_bipush (v := 58) hx hb dX7_hungry_21 (by decide) ?_
    refine va_iald hx hb hK hP 2 0 rfl rfl (by decide : okx (58 : Int32) 67) dX7_hungry_23 ?_
    refine lv_if_ne (tgt := 32) hx hb dX7_hungry_24 (by decide) (fun hc_24 => ?_) (fun hc_24 => ?_)
    · have hf := it_f hf hc_24
      refine lv_aload_n hx hb dX7_hungry_32 rfl (lv_at hl 0 rfl) ?_
      refine va_get (D := D) (ci := 7) (v := .ref q_eats) (C := RX7) (T := TX7) (N := 24) hx hb hts kc1 hown hK hP 0 rfl rfl 10 (by decide) kw3 (fun _ h9 => h9) rfl dX7_hungry_33 ?_
      refine lv_iload_n hx hb dX7_hungry_36 rfl (lv_at hl 1 rfl) ?_
      obtain ⟨hg_37, hf⟩ := gd_some hf
      refine va_iald hx hb hK hP 1 0 rfl rfl hg_37 dX7_hungry_37 ?_
      refine lv_aload_n hx hb dX7_hungry_38 rfl (lv_at hl 0 rfl) ?_
      refine lv_iload_n hx hb dX7_hungry_39 rfl (lv_at hl 1 rfl) ?_
      obtain ⟨r_40, hr_40, hf⟩ := bd_some hf
      refine cl_i (wc := [(q0, oB 7 [.int (0 : Int32), .long z_trace, .ref q_text, .int z_typed, .int z_next, .int z_token, .int z_place, .int z_value, .int z_fault, .ref q_weight, .ref q_eats, .ref q_barred, .ref q_laws, .int z_houses, .int z_draftHouses, .ref q_s, .ref q_kept, .ref q_isKept, .ref q_years, .ref q_likely, .ref q_then, .long z_all, .ref q_row, .ref q_best]), (q_s, aI cy 67 z_s)]) (w1 := [(q0, oB 7 [.int (0 : Int32), .long z_trace, .ref q_text, .int z_typed, .int z_next, .int z_token, .int z_place, .int z_value, .int z_fault, .ref q_weight, .ref q_eats, .ref q_barred, .ref q_laws, .int z_houses, .int z_draftHouses, .ref q_s, .ref q_kept, .ref q_isKept, .ref q_years, .ref q_likely, .ref q_then, .long z_all, .ref q_row, .ref q_best]), (q_s, aI cy 67 z_s)]) (wr := [(q_eats, aI cy 12 z_eats)]) (w2 := [(q0, oB 7 [.int (0 : Int32), .long z_trace, .ref q_text, .int z_typed, .int z_next, .int z_token, .int z_place, .int z_value, .int z_fault, .ref q_weight, .ref q_eats, .ref q_barred, .ref q_laws, .int z_houses, .int z_draftHouses, .ref q_s, .ref q_kept, .ref q_isKept, .ref q_years, .ref q_likely, .ref q_then, .long z_all, .ref q_row, .ref q_best]), (q_eats, aI cy 12 z_eats), (q_s, aI cy 67 z_s)]) (va_runV (As := [.int x1]) (rest := [.int (z_eats x1.toNatClampNeg)]) ⟨hx, hb, hml, hown, hts⟩ (ktX7_eatenBy l D cy q0 q_text q_weight q_eats q_barred q_laws q_s q_kept q_isKept q_years q_likely q_then q_row q_best (0 : Int32) z_trace z_typed z_next z_token z_place z_value z_fault z_houses z_draftHouses z_all z_s x1 r_40 hr_40 _) (cwV 1 hts gX7_hungry_X7_eatenBy rfl rfl rfl (by decide +kernel) ⟨Nat.le_of_ble_eq_true rfl, Nat.le_of_ble_eq_true rfl⟩) (pre_V (wc := [(q0, oB 7 [.int (0 : Int32), .long z_trace, .ref q_text, .int z_typed, .int z_next, .int z_token, .int z_place, .int z_value, .int z_fault, .ref q_weight, .ref q_eats, .ref q_barred, .ref q_laws, .int z_houses, .int z_draftHouses, .ref q_s, .ref q_kept, .ref q_isKept, .ref q_years, .ref q_likely, .ref q_then, .long z_all, .ref q_row, .ref q_best]), (q_s, aI cy 67 z_s)]) (ci := 7) hcx hsx hS hA hP hD [0, 2] rfl (by decide) rfl rfl) rfl rfl hl.1 rfl (lv_room (Nat.le_of_ble_eq_true rfl)) dX7_hungry_40 ⟨Nat.zero_le _, Nat.zero_le _⟩) hP hD hS hA [0, 2] [1] [1, 0, 2] rfl rfl (by decide) (by decide) (by decide) rfl (fun H locs hP hD hS => ?_)
      refine lv_isub hx hb dX7_hungry_43 ?_
      exact hret' _ _ _ _ _ _ dX7_hungry_44 hf hP hD hS
    · have hf := it_t hf hc_24
      refine lv_bipush (v := -2) hx hb dX7_hungry_27 (by decide) ?_
      refine lv_goto (tgt := 44) hx hb dX7_hungry_29 (by decide) ?_
      exact hret' _ _ _ _ _ _ dX7_hungry_44 hf hP hD hS
  · have hf := it_t hf hc_10
    refine lv_iconst (v := -1) hx hb dX7_hungry_13 (by decide) ?_
    refine lv_goto (tgt := 44) hx hb dX7_hungry_14 (by decide) ?_
    exact hret' _ _ _ _ _ _ dX7_hungry_44 hf hP hD hS

def X7_weightThen_J34 (t0_34 : Int32) : Option Int32 := if t0_34 ≤ (9 : Int32) then (if (1 : Int32) ≤ t0_34 then (some t0_34) else (some (1 : Int32))) else (some (9 : Int32))
def fX7_weightThen (z_laws : Nat → Int32) (x1 : Int32) (x2 : Int32) : Option Int32 := if x1 = 0 then (some x1) else (if x2 = (1 : Int32) then (some x1) else (if x2 = 0 then (X7_weightThen_J34 (x1 + (z_laws (2 : Int32).toNatClampNeg))) else (X7_weightThen_J34 (x1 - (z_laws (2 : Int32).toNatClampNeg)))))
abbrev rmX7_weightThen : Room := { frames := 0, cells := 0, slots := 0, locals := 0 }
set_option maxHeartbeats 4000000 in
set_option maxRecDepth 100000 in
theorem ktX7_weightThen (l : Launch) (D : va_G) (cy : Nat → ClassId) (q0 : Nat) (q_text : Nat) (q_weight : Nat) (q_eats : Nat) (q_barred : Nat) (q_laws : Nat) (q_s : Nat) (q_kept : Nat) (q_isKept : Nat) (q_years : Nat) (q_likely : Nat) (q_then : Nat) (q_row : Nat) (q_best : Nat) (z_thrown : Int32) (z_trace : Int64) (z_typed : Int32) (z_next : Int32) (z_token : Int32) (z_place : Int32) (z_value : Int32) (z_fault : Int32) (z_houses : Int32) (z_draftHouses : Int32) (z_all : Int64) (z_laws : Nat → Int32) (x1 : Int32) (x2 : Int32) (r : Int32) (hf : fX7_weightThen z_laws x1 x2 = some r) : CtI l yX7_weightThen wsX7_weightThen rmX7_weightThen D cy [.ref q0, .int x1, .int x2] [(q0, oB 7 [.int z_thrown, .long z_trace, .ref q_text, .int z_typed, .int z_next, .int z_token, .int z_place, .int z_value, .int z_fault, .ref q_weight, .ref q_eats, .ref q_barred, .ref q_laws, .int z_houses, .int z_draftHouses, .ref q_s, .ref q_kept, .ref q_isKept, .ref q_years, .ref q_likely, .ref q_then, .long z_all, .ref q_row, .ref q_best]), (q_laws, aI cy 6 z_laws)] [(q0, oB 7 [.int z_thrown, .long z_trace, .ref q_text, .int z_typed, .int z_next, .int z_token, .int z_place, .int z_value, .int z_fault, .ref q_weight, .ref q_eats, .ref q_barred, .ref q_laws, .int z_houses, .int z_draftHouses, .ref q_s, .ref q_kept, .ref q_isKept, .ref q_years, .ref q_likely, .ref q_then, .long z_all, .ref q_row, .ref q_best]), (q_laws, aI cy 6 z_laws)] r := by
  refine Ct_ofI (cc := cX7_weightThen) (nL := 4) (by decide) rfl (Nat.le_of_ble_eq_true rfl) ?_
  intro p e s m args below meth c A Q hM hret hP hD hS ls hl
  obtain ⟨hx, hb, hml, hown, hts, hcx, hA, hsx⟩ := hM
  have hown : s.vm.findClass RX7 = some m.cls := hown
  have hK := hcx.1
  have hN := hcx.2
  have kw0 := hts (.fieldLink RX7 22 "EachBringsModel" "laws" "[I") (List.mem_of_getElem? (i := 1) rfl)
  have kc1 : ∀ w ∈ wsX70, w ∈ wsX7_weightThen := fun _ h => List.mem_cons_of_mem _ (List.mem_append_right _ h)
  have hl : lv_has ls 4 [(0, .ref q0), (1, .int x1), (2, .int x2)] := hl
  have hret' : ∀ (pc : Nat) (ls : Array Slot) (H : Heap) (locs : List Loc) (v : Int32), decode cX7_weightThen pc = .ok (.ireturn, 1) → some v = some r → va_P D vwCl [(q0, oB 7 [.int z_thrown, .long z_trace, .ref q_text, .int z_typed, .int z_next, .int z_token, .int z_place, .int z_value, .int z_fault, .ref q_weight, .ref q_eats, .ref q_barred, .ref q_laws, .int z_houses, .int z_draftHouses, .ref q_s, .ref q_kept, .ref q_isKept, .ref q_years, .ref q_likely, .ref q_then, .long z_all, .ref q_row, .ref q_best]), (q_laws, aI cy 6 z_laws)] H → va_D A [(q0, oB 7 [.int z_thrown, .long z_trace, .ref q_text, .int z_typed, .int z_next, .int z_token, .int z_place, .int z_value, .int z_fault, .ref q_weight, .ref q_eats, .ref q_barred, .ref q_laws, .int z_houses, .int z_draftHouses, .ref q_s, .ref q_kept, .ref q_isKept, .ref q_years, .ref q_likely, .ref q_then, .long z_all, .ref q_row, .ref q_best]), (q_laws, aI cy 6 z_laws)] → va_S A s.heap H locs → W p l e rmX7_weightThen s m args below meth c H locs 0 0 Q (F0 m pc ls [.int v]) := by
    intro pc ls H locs v hd he hP hD hS
    cases he
    exact hret _ _ _ _ _ hd rfl hP hD hS
  unfold fX7_weightThen at hf
  refine lv_iload_n hx hb dX7_weightThen_0 rfl (lv_at hl 1 rfl) ?_
  refine lv_if_eq (tgt := 9) hx hb dX7_weightThen_1 (by decide) (fun hc_1 => ?_) (fun hc_1 => ?_)
  · have hf := it_t hf hc_1
    refine lv_iload_n hx hb dX7_weightThen_9 rfl (lv_at hl 1 rfl) ?_
    exact hret' _ _ _ _ _ dX7_weightThen_10 hf hP hD hS
  · have hf := it_f hf hc_1
    refine lv_iload_n hx hb dX7_weightThen_4 rfl (lv_at hl 2 rfl) ?_
    refine lv_iconst (v := 1) hx hb dX7_weightThen_5 (by decide) ?_
    refine lv_icmp_ne (tgt := 11) hx hb dX7_weightThen_6 (by decide) (fun hc_6 => ?_) (fun hc_6 => ?_)
    · have hf := it_f hf hc_6
      refine lv_iload_n hx hb dX7_weightThen_11 rfl (lv_at hl 2 rfl) ?_
      have hJ34 : ∀ (t0_34 : Int32) (H : Heap) (locs : List Loc) (ls : Array Slot), X7_weightThen_J34 t0_34 = some r → va_P D vwCl [(q0, oB 7 [.int z_thrown, .long z_trace, .ref q_text, .int z_typed, .int z_next, .int z_token, .int z_place, .int z_value, .int z_fault, .ref q_weight, .ref q_eats, .ref q_barred, .ref q_laws, .int z_houses, .int z_draftHouses, .ref q_s, .ref q_kept, .ref q_isKept, .ref q_years, .ref q_likely, .ref q_then, .long z_all, .ref q_row, .ref q_best]), (q_laws, aI cy 6 z_laws)] H → va_D A [(q0, oB 7 [.int z_thrown, .long z_trace, .ref q_text, .int z_typed, .int z_next, .int z_token, .int z_place, .int z_value, .int z_fault, .ref q_weight, .ref q_eats, .ref q_barred, .ref q_laws, .int z_houses, .int z_draftHouses, .ref q_s, .ref q_kept, .ref q_isKept, .ref q_years, .ref q_likely, .ref q_then, .long z_all, .ref q_row, .ref q_best]), (q_laws, aI cy 6 z_laws)] → va_S A s.heap H locs → lv_has ls 4 [] → W p l e rmX7_weightThen s m args below meth c H locs 0 0 Q (F0 m 34 ls [.int t0_34]) := by
        intro t0_34 H locs ls hf hP hD hS hl
        unfold X7_weightThen_J34 at hf
        refine lv_istore_n (lv' := [(3, .int t0_34)]) hx hb dX7_weightThen_34 rfl hl (by decide) rfl (fun ls hl => ?_)
        refine lv_iload_n hx hb dX7_weightThen_35 rfl (lv_at hl 0 rfl) ?_
        refine lv_bipush (v := 9) hx hb dX7_weightThen_36 (by decide) ?_
        refine lv_icmp_le (tgt := 46) hx hb dX7_weightThen_38 (by decide) (fun hc_38 => ?_) (fun hc_38 => ?_)
        · have hf := it_t hf hc_38
          refine lv_iload_n hx hb dX7_weightThen_46 rfl (lv_at hl 0 rfl) ?_
          refine lv_iconst (v := 1) hx hb dX7_weightThen_47 (by decide) ?_
          refine lv_icmp_ge (tgt := 55) hx hb dX7_weightThen_48 (by decide) (fun hc_48 => ?_) (fun hc_48 => ?_)
          · have hf := it_t hf hc_48
            refine lv_iload_n hx hb dX7_weightThen_55 rfl (lv_at hl 0 rfl) ?_
            exact hret' _ _ _ _ _ dX7_weightThen_56 hf hP hD hS
          · have hf := it_f hf hc_48
            refine lv_iconst (v := 1) hx hb dX7_weightThen_51 (by decide) ?_
            refine lv_goto (tgt := 56) hx hb dX7_weightThen_52 (by decide) ?_
            exact hret' _ _ _ _ _ dX7_weightThen_56 hf hP hD hS
        · have hf := it_f hf hc_38
          refine lv_bipush (v := 9) hx hb dX7_weightThen_41 (by decide) ?_
          refine lv_goto (tgt := 56) hx hb dX7_weightThen_43 (by decide) ?_
          exact hret' _ _ _ _ _ dX7_weightThen_56 hf hP hD hS
      refine lv_if_ne (tgt := 26) hx hb dX7_weightThen_12 (by decide) (fun hc_12 => ?_) (fun hc_12 => ?_)
      · have hf := it_f hf hc_12
        refine lv_iload_n hx hb dX7_weightThen_26 rfl (lv_at hl 1 rfl) ?_
        refine lv_aload_n hx hb dX7_weightThen_27 rfl (lv_at hl 0 rfl) ?_
        refine va_get (D := D) (ci := 7) (v := .ref q_laws) (C := RX7) (T := TX7) (N := 24) hx hb hts kc1 hown hK hP 0 rfl rfl 12 (by decide) kw0 (fun _ h9 => h9) rfl dX7_weightThen_28 ?_
        refine lv_iconst (v := 2) hx hb dX7_weightThen_31 (by decide) ?_
        refine va_iald hx hb hK hP 1 0 rfl rfl (by decide : okx (2 : Int32) 6) dX7_weightThen_32 ?_
        refine lv_isub hx hb dX7_weightThen_33 ?_
        exact hJ34 (x1 - (z_laws (2 : Int32).toNatClampNeg)) _ _ _ hf hP hD hS (lv_sub hl [] rfl)
      · have hf := it_t hf hc_12
        refine lv_iload_n hx hb dX7_weightThen_15 rfl (lv_at hl 1 rfl) ?_
        refine lv_aload_n hx hb dX7_weightThen_16 rfl (lv_at hl 0 rfl) ?_
        refine va_get (D := D) (ci := 7) (v := .ref q_laws) (C := RX7) (T := TX7) (N := 24) hx hb hts kc1 hown hK hP 0 rfl rfl 12 (by decide) kw0 (fun _ h9 => h9) rfl dX7_weightThen_17 ?_
        refine lv_iconst (v := 2) hx hb dX7_weightThen_20 (by decide) ?_
        refine va_iald hx hb hK hP 1 0 rfl rfl (by decide : okx (2 : Int32) 6) dX7_weightThen_21 ?_
        refine lv_iadd hx hb dX7_weightThen_22 ?_
        refine lv_goto (tgt := 34) hx hb dX7_weightThen_23 (by decide) ?_
        exact hJ34 (x1 + (z_laws (2 : Int32).toNatClampNeg)) _ _ _ hf hP hD hS (lv_sub hl [] rfl)
    · have hf := it_t hf hc_6
      refine lv_iload_n hx hb dX7_weightThen_9 rfl (lv_at hl 1 rfl) ?_
      exact hret' _ _ _ _ _ dX7_weightThen_10 hf hP hD hS

def X7_year_J65 (z_s_65 : Nat → Int32) : Option (Int32 × Int32 × (Nat → Int32)) := (fX7_clears z_s_65).bind (fun r_66 => lets (upd r_66 (65 : Int32).toNatClampNeg ((r_66 (65 : Int32).toNatClampNeg) + (1 : Int32))) (fun z_s_79 => some (z_s_79 (65 : Int32).toNatClampNeg, (0 : Int32), z_s_79)))
def X7_year_J59 (x1_7 : Int32) (self_7 : Int32 → (Nat → Int32) → Option (Int32 × Int32 × (Nat → Int32))) (z_s_59 : Nat → Int32) : Option (Int32 × Int32 × (Nat → Int32)) := lets (x1_7 + (1 : Int32)) (fun x1_59 => self_7 x1_59 z_s_59)
def X7_year_S20 (z_houses : Int32) (z_laws : Nat → Int32) (x1_7 : Int32) (self_7 : Int32 → (Nat → Int32) → Option (Int32 × Int32 × (Nat → Int32))) (r_14 : Int32) (self_20 : Int32 → (Nat → Int32) → Option (Int32 × Int32 × (Nat → Int32))) (x3_20 : Int32) (z_s_20 : Nat → Int32) : Option (Int32 × Int32 × (Nat → Int32)) := if z_houses ≤ x3_20 then (X7_year_J59 x1_7 self_7 z_s_20) else (gd (okx (((4 : Int32) * x3_20) + x1_7) 67) ((fX7_weightThen z_laws (z_s_20 (((4 : Int32) * x3_20) + x1_7).toNatClampNeg) r_14).bind (fun r_49 => gd (okx (((4 : Int32) * x3_20) + x1_7) 67) (lets (upd z_s_20 (((4 : Int32) * x3_20) + x1_7).toNatClampNeg r_49) (fun z_s_52 => lets (x3_20 + (1 : Int32)) (fun x3_53 => self_20 x3_53 z_s_52))))))
def X7_year_S7 (z_houses : Int32) (z_laws : Nat → Int32) (self_7 : Int32 → (Nat → Int32) → Option (Int32 × Int32 × (Nat → Int32))) (x1_7 : Int32) (z_s_7 : Nat → Int32) : Option (Int32 × Int32 × (Nat → Int32)) := if (4 : Int32) ≤ x1_7 then (X7_year_J65 z_s_7) else ((fX7_broughtBy z_houses z_s_7 x1_7).bind (fun r_14 => it2 (X7_year_S20 z_houses z_laws x1_7 self_7 r_14) 100000 (0 : Int32) z_s_7))
def fX7_year (z_houses : Int32) (z_laws : Nat → Int32) (z_s : Nat → Int32) : Option (Int32 × Int32 × (Nat → Int32)) := it2 (X7_year_S7 z_houses z_laws) 100000 (0 : Int32) z_s
abbrev rmX7_year : Room := { frames := 1, cells := 0, slots := 0, locals := 23 }
set_option maxHeartbeats 4000000 in
set_option maxRecDepth 100000 in
theorem ktX7_year (l : Launch) (D : va_G) (cy : Nat → ClassId) (q0 : Nat) (q_text : Nat) (q_weight : Nat) (q_eats : Nat) (q_barred : Nat) (q_laws : Nat) (q_s : Nat) (q_kept : Nat) (q_isKept : Nat) (q_years : Nat) (q_likely : Nat) (q_then : Nat) (q_row : Nat) (q_best : Nat) (z_thrown : Int32) (z_trace : Int64) (z_typed : Int32) (z_next : Int32) (z_token : Int32) (z_place : Int32) (z_value : Int32) (z_fault : Int32) (z_houses : Int32) (z_draftHouses : Int32) (z_all : Int64) (z_laws : Nat → Int32) (z_s : Nat → Int32) (r : Int32 × Int32 × (Nat → Int32)) (hf : fX7_year z_houses z_laws z_s = some r) : CtI l yX7_year wsX7_year rmX7_year D cy [.ref q0] [(q0, oB 7 [.int z_thrown, .long z_trace, .ref q_text, .int z_typed, .int z_next, .int z_token, .int z_place, .int z_value, .int z_fault, .ref q_weight, .ref q_eats, .ref q_barred, .ref q_laws, .int z_houses, .int z_draftHouses, .ref q_s, .ref q_kept, .ref q_isKept, .ref q_years, .ref q_likely, .ref q_then, .long z_all, .ref q_row, .ref q_best]), (q_laws, aI cy 6 z_laws), (q_s, aI cy 67 z_s)] [(q0, oB 7 [.int r.2.1, .long z_trace, .ref q_text, .int z_typed, .int z_next, .int z_token, .int z_place, .int z_value, .int z_fault, .ref q_weight, .ref q_eats, .ref q_barred, .ref q_laws, .int z_houses, .int z_draftHouses, .ref q_s, .ref q_kept, .ref q_isKept, .ref q_years, .ref q_likely, .ref q_then, .long z_all, .ref q_row, .ref q_best]), (q_laws, aI cy 6 z_laws), (q_s, aI cy 67 r.2.2)] r.1 := by
  refine Ct_ofI (cc := cX7_year) (nL := 4) (by decide) rfl (Nat.le_of_ble_eq_true rfl) ?_
  intro p e s m args below meth c A Q hM hret hP hD hS ls hl
  obtain ⟨hx, hb, hml, hown, hts, hcx, hA, hsx⟩ := hM
  have hown : s.vm.findClass RX7 = some m.cls := hown
  have hK := hcx.1
  have hN := hcx.2
  have kw0 := hts (.fieldLink RX7 54 "EachBringsModel" "thrown" "I") (List.mem_of_getElem? (i := 1) rfl)
  have kc1 : ∀ w ∈ wsX70, w ∈ wsX7_year := fun _ h => List.mem_cons_of_mem _ (List.mem_append_right _ h)
  have kw2 := hts (.fieldLink RX7 25 "EachBringsModel" "s" "[I") (List.mem_of_getElem? (i := 3) rfl)
  have kw3 := hts (.fieldLink RX7 122 "EachBringsModel" "houses" "I") (List.mem_of_getElem? (i := 2) rfl)
  have hl : lv_has ls 4 [(0, .ref q0)] := hl
  have hret' : ∀ (pc : Nat) (ls : Array Slot) (H : Heap) (locs : List Loc) (v : Int32) (w0 : Int32) (w1 : Nat → Int32), decode cX7_year pc = .ok (.ireturn, 1) → some (v, w0, w1) = some r → va_P D vwCl [(q0, oB 7 [.int w0, .long z_trace, .ref q_text, .int z_typed, .int z_next, .int z_token, .int z_place, .int z_value, .int z_fault, .ref q_weight, .ref q_eats, .ref q_barred, .ref q_laws, .int z_houses, .int z_draftHouses, .ref q_s, .ref q_kept, .ref q_isKept, .ref q_years, .ref q_likely, .ref q_then, .long z_all, .ref q_row, .ref q_best]), (q_laws, aI cy 6 z_laws), (q_s, aI cy 67 w1)] H → va_D A [(q0, oB 7 [.int w0, .long z_trace, .ref q_text, .int z_typed, .int z_next, .int z_token, .int z_place, .int z_value, .int z_fault, .ref q_weight, .ref q_eats, .ref q_barred, .ref q_laws, .int z_houses, .int z_draftHouses, .ref q_s, .ref q_kept, .ref q_isKept, .ref q_years, .ref q_likely, .ref q_then, .long z_all, .ref q_row, .ref q_best]), (q_laws, aI cy 6 z_laws), (q_s, aI cy 67 w1)] → va_S A s.heap H locs → W p l e rmX7_year s m args below meth c H locs 0 0 Q (F0 m pc ls [.int v]) := by
    intro pc ls H locs v w0 w1 hd he hP hD hS
    cases he
    exact hret _ _ _ _ _ hd rfl hP hD hS
  unfold fX7_year at hf
  refine lv_aload_n hx hb dX7_year_0 rfl (lv_at hl 0 rfl) ?_
  refine lv_iconst (v := 0) hx hb dX7_year_1 (by decide) ?_
  refine va_put (D := D) (ci := 7) (v := .int (0 : Int32)) (ty := .int) (C := RX7) (T := TX7) (N := 24) hx hb hts kc1 tyX7 tyX7_ok nmX7 hown hK hP hD hS 0 rfl rfl 0 (by decide) kw0 (fun _ h9 => h9) rfl pfI rfl rfl (Nat.le_of_ble_eq_true rfl) dX7_year_2 (fun H locs hP hD hS => ?_)
  have hP : va_P D vwCl [(q0, oB 7 [.int (0 : Int32), .long z_trace, .ref q_text, .int z_typed, .int z_next, .int z_token, .int z_place, .int z_value, .int z_fault, .ref q_weight, .ref q_eats, .ref q_barred, .ref q_laws, .int z_houses, .int z_draftHouses, .ref q_s, .ref q_kept, .ref q_isKept, .ref q_years, .ref q_likely, .ref q_then, .long z_all, .ref q_row, .ref q_best]), (q_laws, aI cy 6 z_laws), (q_s, aI cy 67 z_s)] H := hP
  have hD : va_D A [(q0, oB 7 [.int (0 : Int32), .long z_trace, .ref q_text, .int z_typed, .int z_next, .int z_token, .int z_place, .int z_value, .int z_fault, .ref q_weight, .ref q_eats, .ref q_barred, .ref q_laws, .int z_houses, .int z_draftHouses, .ref q_s, .ref q_kept, .ref q_isKept, .ref q_years, .ref q_likely, .ref q_then, .long z_all, .ref q_row, .ref q_best]), (q_laws, aI cy 6 z_laws), (q_s, aI cy 67 z_s)] := hD
  refine lv_iconst (v := 0) hx hb dX7_year_5 (by decide) ?_
  refine lv_istore_n (lv' := [(1, .int (0 : Int32)), (0, .ref q0)]) hx hb dX7_year_6 rfl hl (by decide) rfl (fun ls hl => ?_)
  have hJ65 : ∀ (z_s_65 : Nat → Int32) (H : Heap) (locs : List Loc) (ls : Array Slot), X7_year_J65 z_s_65 = some r → va_P D vwCl [(q0, oB 7 [.int (0 : Int32), .long z_trace, .ref q_text, .int z_typed, .int z_next, .int z_token, .int z_place, .int z_value, .int z_fault, .ref q_weight, .ref q_eats, .ref q_barred, .ref q_laws, .int z_houses, .int z_draftHouses, .ref q_s, .ref q_kept, .ref q_isKept, .ref q_years, .ref q_likely, .ref q_then, .long z_all, .ref q_row, .ref q_best]), (q_laws, aI cy 6 z_laws), (q_s, aI cy 67 z_s_65)] H → va_D A [(q0, oB 7 [.int (0 : Int32), .long z_trace, .ref q_text, .int z_typed, .int z_next, .int z_token, .int z_place, .int z_value, .int z_fault, .ref q_weight, .ref q_eats, .ref q_barred, .ref q_laws, .int z_houses, .int z_draftHouses, .ref q_s, .ref q_kept, .ref q_isKept, .ref q_years, .ref q_likely, .ref q_then, .long z_all, .ref q_row, .ref q_best]), (q_laws, aI cy 6 z_laws), (q_s, aI cy 67 z_s_65)] → va_S A s.heap H locs → lv_has ls 4 [(0, .ref q0)] → W p l e rmX7_year s m args below meth c H locs 0 0 Q (F0 m 65 ls []) := by
    intro z_s_65 H locs ls hf hP hD hS hl
    unfold X7_year_J65 at hf
    refine lv_aload_n hx hb dX7_year_65 rfl (lv_at hl 0 rfl) ?_
    obtain ⟨r_66, hr_66, hf⟩ := bd_some hf
    refine cl_v (wc := [(q0, oB 7 [.int (0 : Int32), .long z_trace, .ref q_text, .int z_typed, .int z_next, .int z_token, .int z_place, .int z_value, .int z_fault, .ref q_weight, .ref q_eats, .ref q_barred, .ref q_laws, .int z_houses, .int z_draftHouses, .ref q_s, .ref q_kept, .ref q_isKept, .ref q_years, .ref q_likely, .ref q_then, .long z_all, .ref q_row, .ref q_best]), (q_s, aI cy 67 z_s_65)]) (w1 := [(q0, oB 7 [.int (0 : Int32), .long z_trace, .ref q_text, .int z_typed, .int z_next, .int z_token, .int z_place, .int z_value, .int z_fault, .ref q_weight, .ref q_eats, .ref q_barred, .ref q_laws, .int z_houses, .int z_draftHouses, .ref q_s, .ref q_kept, .ref q_isKept, .ref q_years, .ref q_likely, .ref q_then, .long z_all, .ref q_row, .ref q_best]), (q_s, aI cy 67 r_66)]) (wr := [(q_laws, aI cy 6 z_laws)]) (w2 := [(q0, oB 7 [.int (0 : Int32), .long z_trace, .ref q_text, .int z_typed, .int z_next, .int z_token, .int z_place, .int z_value, .int z_fault, .ref q_weight, .ref q_eats, .ref q_barred, .ref q_laws, .int z_houses, .int z_draftHouses, .ref q_s, .ref q_kept, .ref q_isKept, .ref q_years, .ref q_likely, .ref q_then, .long z_all, .ref q_row, .ref q_best]), (q_laws, aI cy 6 z_laws), (q_s, aI cy 67 r_66)]) (va_runV (As := []) (rest := []) ⟨hx, hb, hml, hown, hts⟩ (ktX7_clears l D cy q0 q_text q_weight q_eats q_barred q_laws q_s q_kept q_isKept q_years q_likely q_then q_row q_best (0 : Int32) z_trace z_typed z_next z_token z_place z_value z_fault z_houses z_draftHouses z_all z_s_65 r_66 hr_66 _) (cwV 0 hts gX7_year_X7_clears rfl rfl rfl (by decide +kernel) ⟨Nat.le_of_ble_eq_true rfl, Nat.le_of_ble_eq_true rfl⟩) (pre_V (wc := [(q0, oB 7 [.int (0 : Int32), .long z_trace, .ref q_text, .int z_typed, .int z_next, .int z_token, .int z_place, .int z_value, .int z_fault, .ref q_weight, .ref q_eats, .ref q_barred, .ref q_laws, .int z_houses, .int z_draftHouses, .ref q_s, .ref q_kept, .ref q_isKept, .ref q_years, .ref q_likely, .ref q_then, .long z_all, .ref q_row, .ref q_best]), (q_s, aI cy 67 z_s_65)]) (ci := 7) hcx hsx hS hA hP hD [0, 2] rfl (by decide) rfl rfl) rfl rfl hl.1 rfl (lv_room (Nat.le_of_ble_eq_true rfl)) dX7_year_66 ⟨Nat.zero_le _, Nat.zero_le _⟩) hP hD hS hA [0, 2] [1] [1, 0, 2] rfl rfl (by decide) (by decide) (by decide) rfl (fun H locs hP hD hS => ?_)
    refine lv_aload_n hx hb dX7_year_69 rfl (lv_at hl 0 rfl) ?_
    refine va_get (D := D) (ci := 7) (v := .ref q_s) (C := RX7) (T := TX7) (N := 24) hx hb hts kc1 hown hK hP 0 rfl rfl 15 (by decide) kw2 (fun _ h9 => h9) rfl dX7_year_70 ?_
    refine lv_bipush (v := 65) hx hb dX7_year_73 (by decide) ?_
    refine lv_dup2_11 hx hb dX7_year_75 rfl rfl ?_
    refine va_iald hx hb hK hP 2 0 rfl rfl (by decide : okx (65 : Int32) 67) dX7_year_76 ?_
    refine lv_iconst (v := 1) hx hb dX7_year_77 (by decide) ?_
    refine lv_iadd hx hb dX7_year_78 ?_
    refine va_iast hx hb hK hP hD hS 2 0 rfl rfl (by decide : okx (65 : Int32) 67) dX7_year_79 (fun H locs hP hD hS => ?_)
    obtain ⟨z_s_79, ez_s_79⟩ : ∃ y : Nat → Int32, y = upd r_66 (65 : Int32).toNatClampNeg ((r_66 (65 : Int32).toNatClampNeg) + (1 : Int32)) := ⟨_, rfl⟩
    have hf := lets_at hf ez_s_79
    rw [← ez_s_79] at hP hD
    have hP : va_P D vwCl [(q0, oB 7 [.int (0 : Int32), .long z_trace, .ref q_text, .int z_typed, .int z_next, .int z_token, .int z_place, .int z_value, .int z_fault, .ref q_weight, .ref q_eats, .ref q_barred, .ref q_laws, .int z_houses, .int z_draftHouses, .ref q_s, .ref q_kept, .ref q_isKept, .ref q_years, .ref q_likely, .ref q_then, .long z_all, .ref q_row, .ref q_best]), (q_laws, aI cy 6 z_laws), (q_s, aI cy 67 z_s_79)] H := hP
    have hD : va_D A [(q0, oB 7 [.int (0 : Int32), .long z_trace, .ref q_text, .int z_typed, .int z_next, .int z_token, .int z_place, .int z_value, .int z_fault, .ref q_weight, .ref q_eats, .ref q_barred, .ref q_laws, .int z_houses, .int z_draftHouses, .ref q_s, .ref q_kept, .ref q_isKept, .ref q_years, .ref q_likely, .ref q_then, .long z_all, .ref q_row, .ref q_best]), (q_laws, aI cy 6 z_laws), (q_s, aI cy 67 z_s_79)] := hD
    refine lv_aload_n hx hb dX7_year_80 rfl (lv_at hl 0 rfl) ?_
    refine va_get (D := D) (ci := 7) (v := .ref q_s) (C := RX7) (T := TX7) (N := 24) hx hb hts kc1 hown hK hP 0 rfl rfl 15 (by decide) kw2 (fun _ h9 => h9) rfl dX7_year_81 ?_
    refine lv_bipush (v := 65) hx hb dX7_year_84 (by decide) ?_
    refine va_iald hx hb hK hP 2 0 rfl rfl (by decide : okx (65 : Int32) 67) dX7_year_86 ?_
    exact hret' _ _ _ _ _ _ _ dX7_year_87 hf hP hD hS
  have hL7 : ∀ (n : Nat) (x1_7 : Int32) (z_s_7 : Nat → Int32) (H : Heap) (locs : List Loc) (ls : Array Slot), it2 (X7_year_S7 z_houses z_laws) n x1_7 z_s_7 = some r → va_P D vwCl [(q0, oB 7 [.int (0 : Int32), .long z_trace, .ref q_text, .int z_typed, .int z_next, .int z_token, .int z_place, .int z_value, .int z_fault, .ref q_weight, .ref q_eats, .ref q_barred, .ref q_laws, .int z_houses, .int z_draftHouses, .ref q_s, .ref q_kept, .ref q_isKept, .ref q_years, .ref q_likely, .ref q_then, .long z_all, .ref q_row, .ref q_best]), (q_laws, aI cy 6 z_laws), (q_s, aI cy 67 z_s_7)] H → va_D A [(q0, oB 7 [.int (0 : Int32), .long z_trace, .ref q_text, .int z_typed, .int z_next, .int z_token, .int z_place, .int z_value, .int z_fault, .ref q_weight, .ref q_eats, .ref q_barred, .ref q_laws, .int z_houses, .int z_draftHouses, .ref q_s, .ref q_kept, .ref q_isKept, .ref q_years, .ref q_likely, .ref q_then, .long z_all, .ref q_row, .ref q_best]), (q_laws, aI cy 6 z_laws), (q_s, aI cy 67 z_s_7)] → va_S A s.heap H locs → lv_has ls 4 [(0, .ref q0), (1, .int x1_7)] → W p l e rmX7_year s m args below meth c H locs 0 0 Q (F0 m 7 ls []) := by
    intro n
    induction n with
    | zero => intro x1_7 z_s_7 H locs ls hf; exact absurd hf (by simp [it2])
    | succ n ih7 =>
      intro x1_7 z_s_7 H locs ls hf hP hD hS hl
      have hf : X7_year_S7 z_houses z_laws (it2 (X7_year_S7 z_houses z_laws) n) x1_7 z_s_7 = some r := hf
      generalize it2 (X7_year_S7 z_houses z_laws) n = self_7 at hf ih7
      unfold X7_year_S7 at hf
      refine lv_iload_n hx hb dX7_year_7 rfl (lv_at hl 1 rfl) ?_
      refine lv_iconst (v := 4) hx hb dX7_year_8 (by decide) ?_
      refine lv_icmp_ge (tgt := 65) hx hb dX7_year_9 (by decide) (fun hc_9 => ?_) (fun hc_9 => ?_)
      · have hf := it_t hf hc_9
        exact hJ65 z_s_7 _ _ _ hf hP hD hS (lv_sub hl [0] rfl)
      · have hf := it_f hf hc_9
        refine lv_aload_n hx hb dX7_year_12 rfl (lv_at hl 0 rfl) ?_
        refine lv_iload_n hx hb dX7_year_13 rfl (lv_at hl 1 rfl) ?_
        obtain ⟨r_14, hr_14, hf⟩ := bd_some hf
        refine cl_i (wc := [(q0, oB 7 [.int (0 : Int32), .long z_trace, .ref q_text, .int z_typed, .int z_next, .int z_token, .int z_place, .int z_value, .int z_fault, .ref q_weight, .ref q_eats, .ref q_barred, .ref q_laws, .int z_houses, .int z_draftHouses, .ref q_s, .ref q_kept, .ref q_isKept, .ref q_years, .ref q_likely, .ref q_then, .long z_all, .ref q_row, .ref q_best]), (q_s, aI cy 67 z_s_7)]) (w1 := [(q0, oB 7 [.int (0 : Int32), .long z_trace, .ref q_text, .int z_typed, .int z_next, .int z_token, .int z_place, .int z_value, .int z_fault, .ref q_weight, .ref q_eats, .ref q_barred, .ref q_laws, .int z_houses, .int z_draftHouses, .ref q_s, .ref q_kept, .ref q_isKept, .ref q_years, .ref q_likely, .ref q_then, .long z_all, .ref q_row, .ref q_best]), (q_s, aI cy 67 z_s_7)]) (wr := [(q_laws, aI cy 6 z_laws)]) (w2 := [(q0, oB 7 [.int (0 : Int32), .long z_trace, .ref q_text, .int z_typed, .int z_next, .int z_token, .int z_place, .int z_value, .int z_fault, .ref q_weight, .ref q_eats, .ref q_barred, .ref q_laws, .int z_houses, .int z_draftHouses, .ref q_s, .ref q_kept, .ref q_isKept, .ref q_years, .ref q_likely, .ref q_then, .long z_all, .ref q_row, .ref q_best]), (q_laws, aI cy 6 z_laws), (q_s, aI cy 67 z_s_7)]) (va_runV (As := [.int x1_7]) (rest := []) ⟨hx, hb, hml, hown, hts⟩ (ktX7_broughtBy l D cy q0 q_text q_weight q_eats q_barred q_laws q_s q_kept q_isKept q_years q_likely q_then q_row q_best (0 : Int32) z_trace z_typed z_next z_token z_place z_value z_fault z_houses z_draftHouses z_all z_s_7 x1_7 r_14 hr_14 _) (cwV 1 hts gX7_year_X7_broughtBy rfl rfl rfl (by decide +kernel) ⟨Nat.le_of_ble_eq_true rfl, Nat.le_of_ble_eq_true rfl⟩) (pre_V (wc := [(q0, oB 7 [.int (0 : Int32), .long z_trace, .ref q_text, .int z_typed, .int z_next, .int z_token, .int z_place, .int z_value, .int z_fault, .ref q_weight, .ref q_eats, .ref q_barred, .ref q_laws, .int z_houses, .int z_draftHouses, .ref q_s, .ref q_kept, .ref q_isKept, .ref q_years, .ref q_likely, .ref q_then, .long z_all, .ref q_row, .ref q_best]), (q_s, aI cy 67 z_s_7)]) (ci := 7) hcx hsx hS hA hP hD [0, 2] rfl (by decide) rfl rfl) rfl rfl hl.1 rfl (lv_room (Nat.le_of_ble_eq_true rfl)) dX7_year_14 ⟨Nat.zero_le _, Nat.zero_le _⟩) hP hD hS hA [0, 2] [1] [1, 0, 2] rfl rfl (by decide) (by decide) (by decide) rfl (fun H locs hP hD hS => ?_)
        refine lv_istore_n (lv' := [(2, .int r_14), (0, .ref q0), (1, .int x1_7)]) hx hb dX7_year_17 rfl hl (by decide) rfl (fun ls hl => ?_)
        refine lv_iconst (v := 0) hx hb dX7_year_18 (by decide) ?_
        refine lv_istore_n (lv' := [(3, .int (0 : Int32)), (2, .int r_14), (0, .ref q0), (1, .int x1_7)]) hx hb dX7_year_19 rfl hl (by decide) rfl (fun ls hl => ?_)
        have hJ59 : ∀ (z_s_59 : Nat → Int32) (H : Heap) (locs : List Loc) (ls : Array Slot), X7_year_J59 x1_7 self_7 z_s_59 = some r → va_P D vwCl [(q0, oB 7 [.int (0 : Int32), .long z_trace, .ref q_text, .int z_typed, .int z_next, .int z_token, .int z_place, .int z_value, .int z_fault, .ref q_weight, .ref q_eats, .ref q_barred, .ref q_laws, .int z_houses, .int z_draftHouses, .ref q_s, .ref q_kept, .ref q_isKept, .ref q_years, .ref q_likely, .ref q_then, .long z_all, .ref q_row, .ref q_best]), (q_laws, aI cy 6 z_laws), (q_s, aI cy 67 z_s_59)] H → va_D A [(q0, oB 7 [.int (0 : Int32), .long z_trace, .ref q_text, .int z_typed, .int z_next, .int z_token, .int z_place, .int z_value, .int z_fault, .ref q_weight, .ref q_eats, .ref q_barred, .ref q_laws, .int z_houses, .int z_draftHouses, .ref q_s, .ref q_kept, .ref q_isKept, .ref q_years, .ref q_likely, .ref q_then, .long z_all, .ref q_row, .ref q_best]), (q_laws, aI cy 6 z_laws), (q_s, aI cy 67 z_s_59)] → va_S A s.heap H locs → lv_has ls 4 [(0, .ref q0), (1, .int x1_7)] → W p l e rmX7_year s m args below meth c H locs 0 0 Q (F0 m 59 ls []) := by
          intro z_s_59 H locs ls hf hP hD hS hl
          unfold X7_year_J59 at hf
          obtain ⟨x1_59, ex1_59⟩ : ∃ y : Int32, y = x1_7 + (1 : Int32) := ⟨_, rfl⟩
          have hf := lets_at hf ex1_59
          refine lv_iinc (v := x1_59) (lv' := [(1, .int x1_59), (0, .ref q0)]) hx hb dX7_year_59 hl (k := 1) rfl (by rw [ex1_59]; rfl) (by decide) rfl (fun ls hl => ?_)
          refine lv_goto (tgt := 7) hx hb dX7_year_62 (by decide) ?_
          exact ih7 x1_59 z_s_59 _ _ _ hf hP hD hS (lv_sub hl [1, 0] rfl)
        have hL20 : ∀ (n : Nat) (x3_20 : Int32) (z_s_20 : Nat → Int32) (H : Heap) (locs : List Loc) (ls : Array Slot), it2 (X7_year_S20 z_houses z_laws x1_7 self_7 r_14) n x3_20 z_s_20 = some r → va_P D vwCl [(q0, oB 7 [.int (0 : Int32), .long z_trace, .ref q_text, .int z_typed, .int z_next, .int z_token, .int z_place, .int z_value, .int z_fault, .ref q_weight, .ref q_eats, .ref q_barred, .ref q_laws, .int z_houses, .int z_draftHouses, .ref q_s, .ref q_kept, .ref q_isKept, .ref q_years, .ref q_likely, .ref q_then, .long z_all, .ref q_row, .ref q_best]), (q_laws, aI cy 6 z_laws), (q_s, aI cy 67 z_s_20)] H → va_D A [(q0, oB 7 [.int (0 : Int32), .long z_trace, .ref q_text, .int z_typed, .int z_next, .int z_token, .int z_place, .int z_value, .int z_fault, .ref q_weight, .ref q_eats, .ref q_barred, .ref q_laws, .int z_houses, .int z_draftHouses, .ref q_s, .ref q_kept, .ref q_isKept, .ref q_years, .ref q_likely, .ref q_then, .long z_all, .ref q_row, .ref q_best]), (q_laws, aI cy 6 z_laws), (q_s, aI cy 67 z_s_20)] → va_S A s.heap H locs → lv_has ls 4 [(0, .ref q0), (1, .int x1_7), (2, .int r_14), (3, .int x3_20)] → W p l e rmX7_year s m args below meth c H locs 0 0 Q (F0 m 20 ls []) := by
          intro n
          induction n with
          | zero => intro x3_20 z_s_20 H locs ls hf; exact absurd hf (by simp [it2])
          | succ n ih20 =>
            intro x3_20 z_s_20 H locs ls hf hP hD hS hl
            have hf : X7_year_S20 z_houses z_laws x1_7 self_7 r_14 (it2 (X7_year_S20 z_houses z_laws x1_7 self_7 r_14) n) x3_20 z_s_20 = some r := hf
            generalize it2 (X7_year_S20 z_houses z_laws x1_7 self_7 r_14) n = self_20 at hf ih20
            unfold X7_year_S20 at hf
            refine lv_iload_n hx hb dX7_year_20 rfl (lv_at hl 3 rfl) ?_
            refine lv_aload_n hx hb dX7_year_21 rfl (lv_at hl 0 rfl) ?_
            refine va_get (D := D) (ci := 7) (v := .int z_houses) (C := RX7) (T := TX7) (N := 24) hx hb hts kc1 hown hK hP 0 rfl rfl 13 (by decide) kw3 (fun _ h9 => h9) rfl dX7_year_22 ?_
            refine lv_icmp_ge (tgt := 59) hx hb dX7_year_25 (by decide) (fun hc_25 => ?_) (fun hc_25 => ?_)
            · have hf := it_t hf hc_25
              exact hJ59 z_s_20 _ _ _ hf hP hD hS (lv_sub hl [0, 1] rfl)
            · have hf := it_f hf hc_25
              refine lv_aload_n hx hb dX7_year_28 rfl (lv_at hl 0 rfl) ?_
              refine va_get (D := D) (ci := 7) (v := .ref q_s) (C := RX7) (T := TX7) (N := 24) hx hb hts kc1 hown hK hP 0 rfl rfl 15 (by decide) kw2 (fun _ h9 => h9) rfl dX7_year_29 ?_
              refine lv_iconst (v := 4) hx hb dX7_year_32 (by decide) ?_
              refine lv_iload_n hx hb dX7_year_33 rfl (lv_at hl 3 rfl) ?_
              refine lv_imul hx hb dX7_year_34 ?_
              refine lv_iload_n hx hb dX7_year_35 rfl (lv_at hl 1 rfl) ?_
              refine lv_iadd hx hb dX7_year_36 ?_
              refine lv_aload_n hx hb dX7_year_37 rfl (lv_at hl 0 rfl) ?_
              refine lv_aload_n hx hb dX7_year_38 rfl (lv_at hl 0 rfl) ?_
              refine va_get (D := D) (ci := 7) (v := .ref q_s) (C := RX7) (T := TX7) (N := 24) hx hb hts kc1 hown hK hP 0 rfl rfl 15 (by decide) kw2 (fun _ h9 => h9) rfl dX7_year_39 ?_
              refine lv_iconst (v := 4) hx hb dX7_year_42 (by decide) ?_
              refine lv_iload_n hx hb dX7_year_43 rfl (lv_at hl 3 rfl) ?_
              refine lv_imul hx hb dX7_year_44 ?_
              refine lv_iload_n hx hb dX7_year_45 rfl (lv_at hl 1 rfl) ?_
              refine lv_iadd hx hb dX7_year_46 ?_
              obtain ⟨hg_47, hf⟩ := gd_some hf
              refine va_iald hx hb hK hP 2 0 rfl rfl hg_47 dX7_year_47 ?_
              refine lv_iload_n hx hb dX7_year_48 rfl (lv_at hl 2 rfl) ?_
              obtain ⟨r_49, hr_49, hf⟩ := bd_some hf
              refine cl_i (wc := [(q0, oB 7 [.int (0 : Int32), .long z_trace, .ref q_text, .int z_typed, .int z_next, .int z_token, .int z_place, .int z_value, .int z_fault, .ref q_weight, .ref q_eats, .ref q_barred, .ref q_laws, .int z_houses, .int z_draftHouses, .ref q_s, .ref q_kept, .ref q_isKept, .ref q_years, .ref q_likely, .ref q_then, .long z_all, .ref q_row, .ref q_best]), (q_laws, aI cy 6 z_laws)]) (w1 := [(q0, oB 7 [.int (0 : Int32), .long z_trace, .ref q_text, .int z_typed, .int z_next, .int z_token, .int z_place, .int z_value, .int z_fault, .ref q_weight, .ref q_eats, .ref q_barred, .ref q_laws, .int z_houses, .int z_draftHouses, .ref q_s, .ref q_kept, .ref q_isKept, .ref q_years, .ref q_likely, .ref q_then, .long z_all, .ref q_row, .ref q_best]), (q_laws, aI cy 6 z_laws)]) (wr := [(q_s, aI cy 67 z_s_20)]) (w2 := [(q0, oB 7 [.int (0 : Int32), .long z_trace, .ref q_text, .int z_typed, .int z_next, .int z_token, .int z_place, .int z_value, .int z_fault, .ref q_weight, .ref q_eats, .ref q_barred, .ref q_laws, .int z_houses, .int z_draftHouses, .ref q_s, .ref q_kept, .ref q_isKept, .ref q_years, .ref q_likely, .ref q_then, .long z_all, .ref q_row, .ref q_best]), (q_laws, aI cy 6 z_laws), (q_s, aI cy 67 z_s_20)]) (va_runV (As := [.int (z_s_20 (((4 : Int32) * x3_20) + x1_7).toNatClampNeg), .int r_14]) (rest := [.int (((4 : Int32) * x3_20) + x1_7), .ref q_s]) ⟨hx, hb, hml, hown, hts⟩ (ktX7_weightThen l D cy q0 q_text q_weight q_eats q_barred q_laws q_s q_kept q_isKept q_years q_likely q_then q_row q_best (0 : Int32) z_trace z_typed z_next z_token z_place z_value z_fault z_houses z_draftHouses z_all z_laws (z_s_20 (((4 : Int32) * x3_20) + x1_7).toNatClampNeg) r_14 r_49 hr_49 _) (cwV 2 hts gX7_year_X7_weightThen rfl rfl rfl (by decide +kernel) ⟨Nat.le_of_ble_eq_true rfl, Nat.le_of_ble_eq_true rfl⟩) (pre_V (wc := [(q0, oB 7 [.int (0 : Int32), .long z_trace, .ref q_text, .int z_typed, .int z_next, .int z_token, .int z_place, .int z_value, .int z_fault, .ref q_weight, .ref q_eats, .ref q_barred, .ref q_laws, .int z_houses, .int z_draftHouses, .ref q_s, .ref q_kept, .ref q_isKept, .ref q_years, .ref q_likely, .ref q_then, .long z_all, .ref q_row, .ref q_best]), (q_laws, aI cy 6 z_laws)]) (ci := 7) hcx hsx hS hA hP hD [0, 1] rfl (by decide) rfl rfl) rfl rfl hl.1 rfl (lv_room (Nat.le_of_ble_eq_true rfl)) dX7_year_49 ⟨Nat.zero_le _, Nat.zero_le _⟩) hP hD hS hA [0, 1] [2] [1, 2, 0] rfl rfl (by decide) (by decide) (by decide) rfl (fun H locs hP hD hS => ?_)
              obtain ⟨hg_52, hf⟩ := gd_some hf
              refine va_iast hx hb hK hP hD hS 2 0 rfl rfl hg_52 dX7_year_52 (fun H locs hP hD hS => ?_)
              obtain ⟨z_s_52, ez_s_52⟩ : ∃ y : Nat → Int32, y = upd z_s_20 (((4 : Int32) * x3_20) + x1_7).toNatClampNeg r_49 := ⟨_, rfl⟩
              have hf := lets_at hf ez_s_52
              rw [← ez_s_52] at hP hD
              have hP : va_P D vwCl [(q0, oB 7 [.int (0 : Int32), .long z_trace, .ref q_text, .int z_typed, .int z_next, .int z_token, .int z_place, .int z_value, .int z_fault, .ref q_weight, .ref q_eats, .ref q_barred, .ref q_laws, .int z_houses, .int z_draftHouses, .ref q_s, .ref q_kept, .ref q_isKept, .ref q_years, .ref q_likely, .ref q_then, .long z_all, .ref q_row, .ref q_best]), (q_laws, aI cy 6 z_laws), (q_s, aI cy 67 z_s_52)] H := hP
              have hD : va_D A [(q0, oB 7 [.int (0 : Int32), .long z_trace, .ref q_text, .int z_typed, .int z_next, .int z_token, .int z_place, .int z_value, .int z_fault, .ref q_weight, .ref q_eats, .ref q_barred, .ref q_laws, .int z_houses, .int z_draftHouses, .ref q_s, .ref q_kept, .ref q_isKept, .ref q_years, .ref q_likely, .ref q_then, .long z_all, .ref q_row, .ref q_best]), (q_laws, aI cy 6 z_laws), (q_s, aI cy 67 z_s_52)] := hD
              obtain ⟨x3_53, ex3_53⟩ : ∃ y : Int32, y = x3_20 + (1 : Int32) := ⟨_, rfl⟩
              have hf := lets_at hf ex3_53
              refine lv_iinc (v := x3_53) (lv' := [(3, .int x3_53), (0, .ref q0), (1, .int x1_7), (2, .int r_14)]) hx hb dX7_year_53 hl (k := 3) rfl (by rw [ex3_53]; rfl) (by decide) rfl (fun ls hl => ?_)
              refine lv_goto (tgt := 20) hx hb dX7_year_56 (by decide) ?_
              exact ih20 x3_53 z_s_52 _ _ _ hf hP hD hS (lv_sub hl [1, 2, 3, 0] rfl)
        exact hL20 _ (0 : Int32) z_s_7 _ _ _ hf hP hD hS (lv_sub hl [2, 3, 1, 0] rfl)
  exact hL7 _ (0 : Int32) z_s _ _ _ hf hP hD hS (lv_sub hl [1, 0] rfl)

def fX7_lot (z_s : Nat → Int32) (x1 : Int32) : Option (Int32 × Int32 × (Nat → Int32)) := lets (z_s (66 : Int32).toNatClampNeg) (fun x2_12 => lets (upd z_s (66 : Int32).toNatClampNeg x1) (fun z_s_20 => some (x2_12, (0 : Int32), z_s_20)))
abbrev rmX7_lot : Room := { frames := 0, cells := 0, slots := 0, locals := 0 }
set_option maxHeartbeats 4000000 in
set_option maxRecDepth 100000 in
theorem ktX7_lot (l : Launch) (D : va_G) (cy : Nat → ClassId) (q0 : Nat) (q_text : Nat) (q_weight : Nat) (q_eats : Nat) (q_barred : Nat) (q_laws : Nat) (q_s : Nat) (q_kept : Nat) (q_isKept : Nat) (q_years : Nat) (q_likely : Nat) (q_then : Nat) (q_row : Nat) (q_best : Nat) (z_thrown : Int32) (z_trace : Int64) (z_typed : Int32) (z_next : Int32) (z_token : Int32) (z_place : Int32) (z_value : Int32) (z_fault : Int32) (z_houses : Int32) (z_draftHouses : Int32) (z_all : Int64) (z_s : Nat → Int32) (x1 : Int32) (r : Int32 × Int32 × (Nat → Int32)) (hf : fX7_lot z_s x1 = some r) : CtI l yX7_lot wsX7_lot rmX7_lot D cy [.ref q0, .int x1] [(q0, oB 7 [.int z_thrown, .long z_trace, .ref q_text, .int z_typed, .int z_next, .int z_token, .int z_place, .int z_value, .int z_fault, .ref q_weight, .ref q_eats, .ref q_barred, .ref q_laws, .int z_houses, .int z_draftHouses, .ref q_s, .ref q_kept, .ref q_isKept, .ref q_years, .ref q_likely, .ref q_then, .long z_all, .ref q_row, .ref q_best]), (q_s, aI cy 67 z_s)] [(q0, oB 7 [.int r.2.1, .long z_trace, .ref q_text, .int z_typed, .int z_next, .int z_token, .int z_place, .int z_value, .int z_fault, .ref q_weight, .ref q_eats, .ref q_barred, .ref q_laws, .int z_houses, .int z_draftHouses, .ref q_s, .ref q_kept, .ref q_isKept, .ref q_years, .ref q_likely, .ref q_then, .long z_all, .ref q_row, .ref q_best]), (q_s, aI cy 67 r.2.2)] r.1 := by
  refine Ct_ofI (cc := cX7_lot) (nL := 3) (by decide) rfl (Nat.le_of_ble_eq_true rfl) ?_
  intro p e s m args below meth c A Q hM hret hP hD hS ls hl
  obtain ⟨hx, hb, hml, hown, hts, hcx, hA, hsx⟩ := hM
  have hown : s.vm.findClass RX7 = some m.cls := hown
  have hK := hcx.1
  have hN := hcx.2
  have kw0 := hts (.fieldLink RX7 54 "EachBringsModel" "thrown" "I") (List.mem_of_getElem? (i := 1) rfl)
  have kc1 : ∀ w ∈ wsX70, w ∈ wsX7_lot := fun _ h => List.mem_cons_of_mem _ (List.mem_append_right _ h)
  have kw2 := hts (.fieldLink RX7 25 "EachBringsModel" "s" "[I") (List.mem_of_getElem? (i := 2) rfl)
  have hl : lv_has ls 3 [(0, .ref q0), (1, .int x1)] := hl
  have hret' : ∀ (pc : Nat) (ls : Array Slot) (H : Heap) (locs : List Loc) (v : Int32) (w0 : Int32) (w1 : Nat → Int32), decode cX7_lot pc = .ok (.ireturn, 1) → some (v, w0, w1) = some r → va_P D vwCl [(q0, oB 7 [.int w0, .long z_trace, .ref q_text, .int z_typed, .int z_next, .int z_token, .int z_place, .int z_value, .int z_fault, .ref q_weight, .ref q_eats, .ref q_barred, .ref q_laws, .int z_houses, .int z_draftHouses, .ref q_s, .ref q_kept, .ref q_isKept, .ref q_years, .ref q_likely, .ref q_then, .long z_all, .ref q_row, .ref q_best]), (q_s, aI cy 67 w1)] H → va_D A [(q0, oB 7 [.int w0, .long z_trace, .ref q_text, .int z_typed, .int z_next, .int z_token, .int z_place, .int z_value, .int z_fault, .ref q_weight, .ref q_eats, .ref q_barred, .ref q_laws, .int z_houses, .int z_draftHouses, .ref q_s, .ref q_kept, .ref q_isKept, .ref q_years, .ref q_likely, .ref q_then, .long z_all, .ref q_row, .ref q_best]), (q_s, aI cy 67 w1)] → va_S A s.heap H locs → W p l e rmX7_lot s m args below meth c H locs 0 0 Q (F0 m pc ls [.int v]) := by
    intro pc ls H locs v w0 w1 hd he hP hD hS
    cases he
    exact hret _ _ _ _ _ hd rfl hP hD hS
  unfold fX7_lot at hf
  refine lv_aload_n hx hb dX7_lot_0 rfl (lv_at hl 0 rfl) ?_
  refine lv_iconst (v := 0) hx hb dX7_lot_1 (by decide) ?_
  refine va_put (D := D) (ci := 7) (v := .int (0 : Int32)) (ty := .int) (C := RX7) (T := TX7) (N := 24) hx hb hts kc1 tyX7 tyX7_ok nmX7 hown hK hP hD hS 0 rfl rfl 0 (by decide) kw0 (fun _ h9 => h9) rfl pfI rfl rfl (Nat.le_of_ble_eq_true rfl) dX7_lot_2 (fun H locs hP hD hS => ?_)
  have hP : va_P D vwCl [(q0, oB 7 [.int (0 : Int32), .long z_trace, .ref q_text, .int z_typed, .int z_next, .int z_token, .int z_place, .int z_value, .int z_fault, .ref q_weight, .ref q_eats, .ref q_barred, .ref q_laws, .int z_houses, .int z_draftHouses, .ref q_s, .ref q_kept, .ref q_isKept, .ref q_years, .ref q_likely, .ref q_then, .long z_all, .ref q_row, .ref q_best]), (q_s, aI cy 67 z_s)] H := hP
  have hD : va_D A [(q0, oB 7 [.int (0 : Int32), .long z_trace, .ref q_text, .int z_typed, .int z_next, .int z_token, .int z_place, .int z_value, .int z_fault, .ref q_weight, .ref q_eats, .ref q_barred, .ref q_laws, .int z_houses, .int z_draftHouses, .ref q_s, .ref q_kept, .ref q_isKept, .ref q_years, .ref q_likely, .ref q_then, .long z_all, .ref q_row, .ref q_best]), (q_s, aI cy 67 z_s)] := hD
  refine lv_aload_n hx hb dX7_lot_5 rfl (lv_at hl 0 rfl) ?_
  refine va_get (D := D) (ci := 7) (v := .ref q_s) (C := RX7) (T := TX7) (N := 24) hx hb hts kc1 hown hK hP 0 rfl rfl 15 (by decide) kw2 (fun _ h9 => h9) rfl dX7_lot_6 ?_
  refine lv_bipush (v := 66) hx hb dX7_lot_9 (by decide) ?_
  refine va_iald hx hb hK hP 1 0 rfl rfl (by decide : okx (66 : Int32) 67) dX7_lot_11 ?_
  refine lv_topi (fun x2_12 ex2_12 => ?_)
  have hf := lets_at hf ex2_12
  refine lv_istore_n (lv' := [(2, .int x2_12), (0, .ref q0), (1, .int x1)]) hx hb dX7_lot_12 rfl hl (by decide) rfl (fun ls hl => ?_)
  refine lv_aload_n hx hb dX7_lot_13 rfl (lv_at hl 1 rfl) ?_
  refine va_get (D := D) (ci := 7) (v := .ref q_s) (C := RX7) (T := TX7) (N := 24) hx hb hts kc1 hown hK hP 0 rfl rfl 15 (by decide) kw2 (fun _ h9 => h9) rfl dX7_lot_14 ?_
  refine lv_bipush (v := 66) hx hb dX7_lot_17 (by decide) ?_
  refine lv_iload_n hx hb dX7_lot_19 rfl (lv_at hl 2 rfl) ?_
  refine va_iast hx hb hK hP hD hS 1 0 rfl rfl (by decide : okx (66 : Int32) 67) dX7_lot_20 (fun H locs hP hD hS => ?_)
  obtain ⟨z_s_20, ez_s_20⟩ : ∃ y : Nat → Int32, y = upd z_s (66 : Int32).toNatClampNeg x1 := ⟨_, rfl⟩
  have hf := lets_at hf ez_s_20
  rw [← ez_s_20] at hP hD
  have hP : va_P D vwCl [(q0, oB 7 [.int (0 : Int32), .long z_trace, .ref q_text, .int z_typed, .int z_next, .int z_token, .int z_place, .int z_value, .int z_fault, .ref q_weight, .ref q_eats, .ref q_barred, .ref q_laws, .int z_houses, .int z_draftHouses, .ref q_s, .ref q_kept, .ref q_isKept, .ref q_years, .ref q_likely, .ref q_then, .long z_all, .ref q_row, .ref q_best]), (q_s, aI cy 67 z_s_20)] H := hP
  have hD : va_D A [(q0, oB 7 [.int (0 : Int32), .long z_trace, .ref q_text, .int z_typed, .int z_next, .int z_token, .int z_place, .int z_value, .int z_fault, .ref q_weight, .ref q_eats, .ref q_barred, .ref q_laws, .int z_houses, .int z_draftHouses, .ref q_s, .ref q_kept, .ref q_isKept, .ref q_years, .ref q_likely, .ref q_then, .long z_all, .ref q_row, .ref q_best]), (q_s, aI cy 67 z_s_20)] := hD
  refine lv_iload_n hx hb dX7_lot_21 rfl (lv_at hl 0 rfl) ?_
  exact hret' _ _ _ _ _ _ _ dX7_lot_22 hf hP hD hS

def X7_gcd_S6 (self_6 : Int64 → Int64 → Option Int64) (x4_6 : Int64) (x6_6 : Int64) : Option Int64 := if (lg_cmp x6_6 (0 : Int64)) = 0 then (some x4_6) else (gd (¬ x6_6 = 0) (lets (x4_6 - x4_6 / x6_6 * x6_6) (fun x8_18 => self_6 x6_6 x8_18)))
def fX7_gcd (x0 : Int64) (x2 : Int64) : Option Int64 := it2 (X7_gcd_S6) 100000 x0 x2
abbrev rmX7_gcd : Room := { frames := 0, cells := 0, slots := 0, locals := 0 }
set_option maxHeartbeats 4000000 in
set_option maxRecDepth 100000 in
theorem ktX7_gcd (l : Launch) (D : va_G) (cy : Nat → ClassId) (x0 : Int64) (x2 : Int64) (r : Int64) (hf : fX7_gcd x0 x2 = some r) : CtL l yX7_gcd wsX7_gcd rmX7_gcd D cy [.long x0, .long x2] [] [] r := by
  refine Ct_ofL (cc := cX7_gcd) (nL := 10) (by decide) rfl (Nat.le_of_ble_eq_true rfl) ?_
  intro p e s m args below meth c A Q hM hret hP hD hS ls hl
  obtain ⟨hx, hb, hml, hown, hts, hcx, hA, hsx⟩ := hM
  have hown : s.vm.findClass RX7 = some m.cls := hown
  have hK := hcx.1
  have hN := hcx.2
  have hl : lv_has ls 10 [(0, .long x0), (2, .long x2)] := hl
  have hret' : ∀ (pc : Nat) (ls : Array Slot) (H : Heap) (locs : List Loc) (v : Int64), decode cX7_gcd pc = .ok (.lreturn, 1) → some v = some r → va_P D vwCl [] H → va_D A [] → va_S A s.heap H locs → W p l e rmX7_gcd s m args below meth c H locs 0 0 Q (F0 m pc ls [.long v]) := by
    intro pc ls H locs v hd he hP hD hS
    cases he
    exact hret _ _ _ _ _ hd rfl hP hD hS
  unfold fX7_gcd at hf
  refine lv_lload_n hx hb dX7_gcd_0 rfl (lv_at hl 0 rfl) ?_
  refine lv_lstore (lv' := [(4, .long x0), (0, .long x0), (2, .long x2)]) hx hb dX7_gcd_1 hl (by decide) rfl (fun ls hl => ?_)
  refine lv_lload_n hx hb dX7_gcd_3 rfl (lv_at hl 2 rfl) ?_
  refine lv_lstore (lv' := [(6, .long x2), (4, .long x0), (0, .long x0), (2, .long x2)]) hx hb dX7_gcd_4 hl (by decide) rfl (fun ls hl => ?_)
  have hL6 : ∀ (n : Nat) (x4_6 : Int64) (x6_6 : Int64) (H : Heap) (locs : List Loc) (ls : Array Slot), it2 (X7_gcd_S6) n x4_6 x6_6 = some r → va_P D vwCl [] H → va_D A [] → va_S A s.heap H locs → lv_has ls 10 [(4, .long x4_6), (6, .long x6_6)] → W p l e rmX7_gcd s m args below meth c H locs 0 0 Q (F0 m 6 ls []) := by
    intro n
    induction n with
    | zero => intro x4_6 x6_6 H locs ls hf; exact absurd hf (by simp [it2])
    | succ n ih6 =>
      intro x4_6 x6_6 H locs ls hf hP hD hS hl
      have hf : X7_gcd_S6 (it2 (X7_gcd_S6) n) x4_6 x6_6 = some r := hf
      generalize it2 (X7_gcd_S6) n = self_6 at hf ih6
      unfold X7_gcd_S6 at hf
      refine lv_lload hx hb dX7_gcd_6 (lv_at hl 1 rfl) ?_
      refine lv_lconst (v := 0) hx hb dX7_gcd_8 (by decide) ?_
      refine W.lcmp hx hb dX7_gcd_9 ?_
      refine lv_if_eq (tgt := 31) hx hb dX7_gcd_10 (by decide) (fun hc_10 => ?_) (fun hc_10 => ?_)
      · have hf := it_t hf hc_10
        refine lv_lload hx hb dX7_gcd_31 (lv_at hl 0 rfl) ?_
        exact hret' _ _ _ _ _ dX7_gcd_33 hf hP hD hS
      · have hf := it_f hf hc_10
        refine lv_lload hx hb dX7_gcd_13 (lv_at hl 0 rfl) ?_
        refine lv_lload hx hb dX7_gcd_15 (lv_at hl 1 rfl) ?_
        obtain ⟨hg_17, hf⟩ := gd_some hf
        refine lv_lrem hx hb dX7_gcd_17 hg_17 ?_
        refine lv_topl (fun x8_18 ex8_18 => ?_)
        have hf := lets_at hf ex8_18
        refine lv_lstore (lv' := [(8, .long x8_18), (4, .long x4_6), (6, .long x6_6)]) hx hb dX7_gcd_18 hl (by decide) rfl (fun ls hl => ?_)
        refine lv_lload hx hb dX7_gcd_20 (lv_at hl 2 rfl) ?_
        refine lv_lstore (lv' := [(4, .long x6_6), (8, .long x8_18), (6, .long x6_6)]) hx hb dX7_gcd_22 hl (by decide) rfl (fun ls hl => ?_)
        refine lv_lload hx hb dX7_gcd_24 (lv_at hl 1 rfl) ?_
        refine lv_lstore (lv' := [(6, .long x8_18), (4, .long x6_6), (8, .long x8_18)]) hx hb dX7_gcd_26 hl (by decide) rfl (fun ls hl => ?_)
        refine lv_goto (tgt := 6) hx hb dX7_gcd_28 (by decide) ?_
        exact ih6 x6_6 x8_18 _ _ _ hf hP hD hS (lv_sub hl [1, 0] rfl)
  exact hL6 _ x0 x2 _ _ _ hf hP hD hS (lv_sub hl [1, 0] rfl)

def fX7_inLeastTerms (x0 : Int64) (x2 : Int64) (x4 : Int32) : Option Int64 := (fX7_gcd x0 x2).bind (fun r_2 => if x4 = 0 then (gd (¬ r_2 = 0) (some (x0 / r_2))) else (gd (¬ r_2 = 0) (some (x2 / r_2))))
abbrev rmX7_inLeastTerms : Room := { frames := 1, cells := 0, slots := 0, locals := 29 }
set_option maxHeartbeats 4000000 in
set_option maxRecDepth 100000 in
theorem ktX7_inLeastTerms (l : Launch) (D : va_G) (cy : Nat → ClassId) (x0 : Int64) (x2 : Int64) (x4 : Int32) (r : Int64) (hf : fX7_inLeastTerms x0 x2 x4 = some r) : CtL l yX7_inLeastTerms wsX7_inLeastTerms rmX7_inLeastTerms D cy [.long x0, .long x2, .int x4] [] [] r := by
  refine Ct_ofL (cc := cX7_inLeastTerms) (nL := 7) (by decide) rfl (Nat.le_of_ble_eq_true rfl) ?_
  intro p e s m args below meth c A Q hM hret hP hD hS ls hl
  obtain ⟨hx, hb, hml, hown, hts, hcx, hA, hsx⟩ := hM
  have hown : s.vm.findClass RX7 = some m.cls := hown
  have hK := hcx.1
  have hN := hcx.2
  have hl : lv_has ls 7 [(0, .long x0), (2, .long x2), (4, .int x4)] := hl
  have hret' : ∀ (pc : Nat) (ls : Array Slot) (H : Heap) (locs : List Loc) (v : Int64), decode cX7_inLeastTerms pc = .ok (.lreturn, 1) → some v = some r → va_P D vwCl [] H → va_D A [] → va_S A s.heap H locs → W p l e rmX7_inLeastTerms s m args below meth c H locs 0 0 Q (F0 m pc ls [.long v]) := by
    intro pc ls H locs v hd he hP hD hS
    cases he
    exact hret _ _ _ _ _ hd rfl hP hD hS
  unfold fX7_inLeastTerms at hf
  refine lv_lload_n hx hb dX7_inLeastTerms_0 rfl (lv_at hl 0 rfl) ?_
  refine lv_lload_n hx hb dX7_inLeastTerms_1 rfl (lv_at hl 1 rfl) ?_
  obtain ⟨r_2, hr_2, hf⟩ := bd_some hf
  refine cl_l (wc := []) (w1 := []) (wr := []) (w2 := []) (va_runS (As := [.long x0, .long x2]) (rest := []) ⟨hx, hb, hml, hown, hts⟩ (ktX7_gcd l D cy x0 x2 r_2 hr_2 _) (va_cwS 2 hts gX7_inLeastTerms_X7_gcd rfl rfl rfl (by decide +kernel) ⟨Nat.le_of_ble_eq_true rfl, Nat.le_of_ble_eq_true rfl⟩) (pre_S (wc := []) hcx hsx hS hA hP hD [] rfl (by decide)) rfl rfl hl.1 rfl (lv_room (Nat.le_of_ble_eq_true rfl)) dX7_inLeastTerms_2 ⟨Nat.zero_le _, Nat.zero_le _⟩) hP hD hS hA [] [] [] rfl rfl (by decide) (by decide) (by decide) rfl (fun H locs hP hD hS => ?_)
  refine lv_lstore (lv' := [(5, .long r_2), (0, .long x0), (2, .long x2), (4, .int x4)]) hx hb dX7_inLeastTerms_5 hl (by decide) rfl (fun ls hl => ?_)
  refine lv_iload hx hb dX7_inLeastTerms_7 (lv_at hl 3 rfl) ?_
  refine lv_if_ne (tgt := 19) hx hb dX7_inLeastTerms_9 (by decide) (fun hc_9 => ?_) (fun hc_9 => ?_)
  · have hf := it_f hf hc_9
    refine lv_lload_n hx hb dX7_inLeastTerms_19 rfl (lv_at hl 2 rfl) ?_
    refine lv_lload hx hb dX7_inLeastTerms_20 (lv_at hl 0 rfl) ?_
    obtain ⟨hg_22, hf⟩ := gd_some hf
    refine lv_ldiv hx hb dX7_inLeastTerms_22 hg_22 ?_
    exact hret' _ _ _ _ _ dX7_inLeastTerms_23 hf hP hD hS
  · have hf := it_t hf hc_9
    refine lv_lload_n hx hb dX7_inLeastTerms_12 rfl (lv_at hl 1 rfl) ?_
    refine lv_lload hx hb dX7_inLeastTerms_13 (lv_at hl 0 rfl) ?_
    obtain ⟨hg_15, hf⟩ := gd_some hf
    refine lv_ldiv hx hb dX7_inLeastTerms_15 hg_15 ?_
    refine lv_goto (tgt := 23) hx hb dX7_inLeastTerms_16 (by decide) ?_
    exact hret' _ _ _ _ _ dX7_inLeastTerms_23 hf hP hD hS
