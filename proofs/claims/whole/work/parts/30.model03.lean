def fX7_isHouse (z_houses : Int32) (x1 : Int32) : Option Int32 := (fX7_in x1 (0 : Int32) (z_houses - (1 : Int32))).bind (fun r_8 => gd (isB r_8) (some r_8))
abbrev rmX7_isHouse : Room := { frames := 1, cells := 0, slots := 0, locals := 22 }
set_option maxHeartbeats 4000000 in
set_option maxRecDepth 100000 in
theorem ktX7_isHouse (l : Launch) (D : va_G) (cy : Nat → ClassId) (q0 : Nat) (q_text : Nat) (q_weight : Nat) (q_eats : Nat) (q_barred : Nat) (q_laws : Nat) (q_s : Nat) (q_kept : Nat) (q_isKept : Nat) (q_years : Nat) (q_likely : Nat) (q_then : Nat) (q_row : Nat) (q_best : Nat) (z_thrown : Int32) (z_trace : Int64) (z_typed : Int32) (z_next : Int32) (z_token : Int32) (z_place : Int32) (z_value : Int32) (z_fault : Int32) (z_houses : Int32) (z_draftHouses : Int32) (z_all : Int64) (x1 : Int32) (r : Int32) (hf : fX7_isHouse z_houses x1 = some r) : CtI l yX7_isHouse wsX7_isHouse rmX7_isHouse D cy [.ref q0, .int x1] [(q0, oB 7 [.int z_thrown, .long z_trace, .ref q_text, .int z_typed, .int z_next, .int z_token, .int z_place, .int z_value, .int z_fault, .ref q_weight, .ref q_eats, .ref q_barred, .ref q_laws, .int z_houses, .int z_draftHouses, .ref q_s, .ref q_kept, .ref q_isKept, .ref q_years, .ref q_likely, .ref q_then, .long z_all, .ref q_row, .ref q_best])] [(q0, oB 7 [.int z_thrown, .long z_trace, .ref q_text, .int z_typed, .int z_next, .int z_token, .int z_place, .int z_value, .int z_fault, .ref q_weight, .ref q_eats, .ref q_barred, .ref q_laws, .int z_houses, .int z_draftHouses, .ref q_s, .ref q_kept, .ref q_isKept, .ref q_years, .ref q_likely, .ref q_then, .long z_all, .ref q_row, .ref q_best])] r := by
  refine Ct_ofZ (cc := cX7_isHouse) (nL := 2) (by decide) rfl (Nat.le_of_ble_eq_true rfl) ?_
  intro p e s m args below meth c A Q hM hret hP hD hS ls hl
  obtain ⟨hx, hb, hml, hown, hts, hcx, hA, hsx⟩ := hM
  have hown : s.vm.findClass RX7 = some m.cls := hown
  have hK := hcx.1
  have hN := hcx.2
  have kw0 := hts (.fieldLink RX7 122 "EachBringsModel" "houses" "I") (List.mem_of_getElem? (i := 1) rfl)
  have kc1 : ∀ w ∈ wsX70, w ∈ wsX7_isHouse := fun _ h => List.mem_cons_of_mem _ (List.mem_append_right _ h)
  have hl : lv_has ls 2 [(0, .ref q0), (1, .int x1)] := hl
  have hret' : ∀ (pc : Nat) (ls : Array Slot) (H : Heap) (locs : List Loc) (v : Int32), decode cX7_isHouse pc = .ok (.ireturn, 1) → isB v → some v = some r → va_P D vwCl [(q0, oB 7 [.int z_thrown, .long z_trace, .ref q_text, .int z_typed, .int z_next, .int z_token, .int z_place, .int z_value, .int z_fault, .ref q_weight, .ref q_eats, .ref q_barred, .ref q_laws, .int z_houses, .int z_draftHouses, .ref q_s, .ref q_kept, .ref q_isKept, .ref q_years, .ref q_likely, .ref q_then, .long z_all, .ref q_row, .ref q_best])] H → va_D A [(q0, oB 7 [.int z_thrown, .long z_trace, .ref q_text, .int z_typed, .int z_next, .int z_token, .int z_place, .int z_value, .int z_fault, .ref q_weight, .ref q_eats, .ref q_barred, .ref q_laws, .int z_houses, .int z_draftHouses, .ref q_s, .ref q_kept, .ref q_isKept, .ref q_years, .ref q_likely, .ref q_then, .long z_all, .ref q_row, .ref q_best])] → va_S A s.heap H locs → W p l e rmX7_isHouse s m args below meth c H locs 0 0 Q (F0 m pc ls [.int v]) := by
    intro pc ls H locs v hd hbv he hP hD hS
    cases he
    exact hret _ _ _ _ _ hd hbv rfl hP hD hS
  unfold fX7_isHouse at hf
  refine lv_iload_n hx hb dX7_isHouse_0 rfl (lv_at hl 1 rfl) ?_
  refine lv_iconst (v := 0) hx hb dX7_isHouse_1 (by decide) ?_
  refine lv_aload_n hx hb dX7_isHouse_2 rfl (lv_at hl 0 rfl) ?_
  refine va_get (D := D) (ci := 7) (v := .int z_houses) (C := RX7) (T := TX7) (N := 24) hx hb hts kc1 hown hK hP 0 rfl rfl 13 (by decide) kw0 (fun _ h9 => h9) rfl dX7_isHouse_3 ?_
  refine lv_iconst (v := 1) hx hb dX7_isHouse_6 (by decide) ?_
  refine lv_isub hx hb dX7_isHouse_7 ?_
  obtain ⟨r_8, hr_8, hf⟩ := bd_some hf
  refine cl_i (wc := []) (w1 := []) (wr := [(q0, oB 7 [.int z_thrown, .long z_trace, .ref q_text, .int z_typed, .int z_next, .int z_token, .int z_place, .int z_value, .int z_fault, .ref q_weight, .ref q_eats, .ref q_barred, .ref q_laws, .int z_houses, .int z_draftHouses, .ref q_s, .ref q_kept, .ref q_isKept, .ref q_years, .ref q_likely, .ref q_then, .long z_all, .ref q_row, .ref q_best])]) (w2 := [(q0, oB 7 [.int z_thrown, .long z_trace, .ref q_text, .int z_typed, .int z_next, .int z_token, .int z_place, .int z_value, .int z_fault, .ref q_weight, .ref q_eats, .ref q_barred, .ref q_laws, .int z_houses, .int z_draftHouses, .ref q_s, .ref q_kept, .ref q_isKept, .ref q_years, .ref q_likely, .ref q_then, .long z_all, .ref q_row, .ref q_best])]) (va_runS (As := [.int x1, .int (0 : Int32), .int (z_houses - (1 : Int32))]) (rest := []) ⟨hx, hb, hml, hown, hts⟩ (ktX7_in l D cy x1 (0 : Int32) (z_houses - (1 : Int32)) r_8 hr_8 _) (va_cwS 3 hts gX7_isHouse_X7_in rfl rfl rfl (by decide +kernel) ⟨Nat.le_of_ble_eq_true rfl, Nat.le_of_ble_eq_true rfl⟩) (pre_S (wc := []) hcx hsx hS hA hP hD [] rfl (by decide)) rfl rfl hl.1 rfl (lv_room (Nat.le_of_ble_eq_true rfl)) dX7_isHouse_8 ⟨Nat.zero_le _, Nat.zero_le _⟩) hP hD hS hA [] [0] [0] rfl rfl (by decide) (by decide) (by decide) rfl (fun H locs hP hD hS => ?_)
  obtain ⟨hg_11, hf⟩ := gd_some hf
  exact hret' _ _ _ _ _ dX7_isHouse_11 hg_11 hf hP hD hS

def fX7_isSort (x0 : Int32) : Option Int32 := (fX7_in x0 (0 : Int32) (3 : Int32)).bind (fun r_3 => gd (isB r_3) (some r_3))
abbrev rmX7_isSort : Room := { frames := 1, cells := 0, slots := 0, locals := 22 }
set_option maxHeartbeats 4000000 in
set_option maxRecDepth 100000 in
theorem ktX7_isSort (l : Launch) (D : va_G) (cy : Nat → ClassId) (x0 : Int32) (r : Int32) (hf : fX7_isSort x0 = some r) : CtI l yX7_isSort wsX7_isSort rmX7_isSort D cy [.int x0] [] [] r := by
  refine Ct_ofZ (cc := cX7_isSort) (nL := 1) (by decide) rfl (Nat.le_of_ble_eq_true rfl) ?_
  intro p e s m args below meth c A Q hM hret hP hD hS ls hl
  obtain ⟨hx, hb, hml, hown, hts, hcx, hA, hsx⟩ := hM
  have hown : s.vm.findClass RX7 = some m.cls := hown
  have hK := hcx.1
  have hN := hcx.2
  have hl : lv_has ls 1 [(0, .int x0)] := hl
  have hret' : ∀ (pc : Nat) (ls : Array Slot) (H : Heap) (locs : List Loc) (v : Int32), decode cX7_isSort pc = .ok (.ireturn, 1) → isB v → some v = some r → va_P D vwCl [] H → va_D A [] → va_S A s.heap H locs → W p l e rmX7_isSort s m args below meth c H locs 0 0 Q (F0 m pc ls [.int v]) := by
    intro pc ls H locs v hd hbv he hP hD hS
    cases he
    exact hret _ _ _ _ _ hd hbv rfl hP hD hS
  unfold fX7_isSort at hf
  refine lv_iload_n hx hb dX7_isSort_0 rfl (lv_at hl 0 rfl) ?_
  refine lv_iconst (v := 0) hx hb dX7_isSort_1 (by decide) ?_
  refine lv_iconst (v := 3) hx hb dX7_isSort_2 (by decide) ?_
  obtain ⟨r_3, hr_3, hf⟩ := bd_some hf
  refine cl_i (wc := []) (w1 := []) (wr := []) (w2 := []) (va_runS (As := [.int x0, .int (0 : Int32), .int (3 : Int32)]) (rest := []) ⟨hx, hb, hml, hown, hts⟩ (ktX7_in l D cy x0 (0 : Int32) (3 : Int32) r_3 hr_3 _) (va_cwS 3 hts gX7_isSort_X7_in rfl rfl rfl (by decide +kernel) ⟨Nat.le_of_ble_eq_true rfl, Nat.le_of_ble_eq_true rfl⟩) (pre_S (wc := []) hcx hsx hS hA hP hD [] rfl (by decide)) rfl rfl hl.1 rfl (lv_room (Nat.le_of_ble_eq_true rfl)) dX7_isSort_3 ⟨Nat.zero_le _, Nat.zero_le _⟩) hP hD hS hA [] [] [] rfl rfl (by decide) (by decide) (by decide) rfl (fun H locs hP hD hS => ?_)
  obtain ⟨hg_6, hf⟩ := gd_some hf
  exact hret' _ _ _ _ _ dX7_isSort_6 hg_6 hf hP hD hS

def fX7_house (z_houses : Int32) (z_eats : Nat → Int32) (z_barred : Nat → Int32) (z_s : Nat → Int32) (x1 : Int32) (x2 : Int32) : Option (Int32 × Int32) := (fX7_isHouse z_houses x1).bind (fun r_7 => if r_7 = 0 then (some ((-1 : Int32), (0 : Int32))) else ((fX7_in x2 (0 : Int32) (6 : Int32)).bind (fun r_17 => if r_17 = 0 then (some ((-1 : Int32), (0 : Int32))) else (if (4 : Int32) ≤ x2 then (if x2 = (4 : Int32) then (gd (okx x1 12) (some (z_eats x1.toNatClampNeg, (0 : Int32)))) else (if x2 = (5 : Int32) then (gd (okx x1 12) (some (z_barred x1.toNatClampNeg, (0 : Int32)))) else (gd (okx ((24 : Int32) + x1) 67) (some (z_s ((24 : Int32) + x1).toNatClampNeg, (0 : Int32)))))) else (gd (okx (((4 : Int32) * x1) + x2) 67) (some (z_s (((4 : Int32) * x1) + x2).toNatClampNeg, (0 : Int32))))))))
abbrev rmX7_house : Room := { frames := 2, cells := 0, slots := 0, locals := 43 }
set_option maxHeartbeats 4000000 in
set_option maxRecDepth 100000 in
theorem ktX7_house (l : Launch) (D : va_G) (cy : Nat → ClassId) (q0 : Nat) (q_text : Nat) (q_weight : Nat) (q_eats : Nat) (q_barred : Nat) (q_laws : Nat) (q_s : Nat) (q_kept : Nat) (q_isKept : Nat) (q_years : Nat) (q_likely : Nat) (q_then : Nat) (q_row : Nat) (q_best : Nat) (z_thrown : Int32) (z_trace : Int64) (z_typed : Int32) (z_next : Int32) (z_token : Int32) (z_place : Int32) (z_value : Int32) (z_fault : Int32) (z_houses : Int32) (z_draftHouses : Int32) (z_all : Int64) (z_eats : Nat → Int32) (z_barred : Nat → Int32) (z_s : Nat → Int32) (x1 : Int32) (x2 : Int32) (r : Int32 × Int32) (hf : fX7_house z_houses z_eats z_barred z_s x1 x2 = some r) : CtI l yX7_house wsX7_house rmX7_house D cy [.ref q0, .int x1, .int x2] [(q0, oB 7 [.int z_thrown, .long z_trace, .ref q_text, .int z_typed, .int z_next, .int z_token, .int z_place, .int z_value, .int z_fault, .ref q_weight, .ref q_eats, .ref q_barred, .ref q_laws, .int z_houses, .int z_draftHouses, .ref q_s, .ref q_kept, .ref q_isKept, .ref q_years, .ref q_likely, .ref q_then, .long z_all, .ref q_row, .ref q_best]), (q_eats, aI cy 12 z_eats), (q_barred, aI cy 12 z_barred), (q_s, aI cy 67 z_s)] [(q0, oB 7 [.int r.2, .long z_trace, .ref q_text, .int z_typed, .int z_next, .int z_token, .int z_place, .int z_value, .int z_fault, .ref q_weight, .ref q_eats, .ref q_barred, .ref q_laws, .int z_houses, .int z_draftHouses, .ref q_s, .ref q_kept, .ref q_isKept, .ref q_years, .ref q_likely, .ref q_then, .long z_all, .ref q_row, .ref q_best]), (q_eats, aI cy 12 z_eats), (q_barred, aI cy 12 z_barred), (q_s, aI cy 67 z_s)] r.1 := by
  refine Ct_ofI (cc := cX7_house) (nL := 3) (by decide) rfl (Nat.le_of_ble_eq_true rfl) ?_
  intro p e s m args below meth c A Q hM hret hP hD hS ls hl
  obtain ⟨hx, hb, hml, hown, hts, hcx, hA, hsx⟩ := hM
  have hown : s.vm.findClass RX7 = some m.cls := hown
  have hK := hcx.1
  have hN := hcx.2
  have kw0 := hts (.fieldLink RX7 54 "EachBringsModel" "thrown" "I") (List.mem_of_getElem? (i := 1) rfl)
  have kc1 : ∀ w ∈ wsX70, w ∈ wsX7_house := fun _ h => List.mem_cons_of_mem _ (List.mem_append_right _ h)
  have kw2 := hts (.fieldLink RX7 25 "EachBringsModel" "s" "[I") (List.mem_of_getElem? (i := 2) rfl)
  have kw3 := hts (.fieldLink RX7 19 "EachBringsModel" "barred" "[I") (List.mem_of_getElem? (i := 4) rfl)
  have kw4 := hts (.fieldLink RX7 16 "EachBringsModel" "eats" "[I") (List.mem_of_getElem? (i := 3) rfl)
  have hl : lv_has ls 3 [(0, .ref q0), (1, .int x1), (2, .int x2)] := hl
  have hret' : ∀ (pc : Nat) (ls : Array Slot) (H : Heap) (locs : List Loc) (v : Int32) (w0 : Int32), decode cX7_house pc = .ok (.ireturn, 1) → some (v, w0) = some r → va_P D vwCl [(q0, oB 7 [.int w0, .long z_trace, .ref q_text, .int z_typed, .int z_next, .int z_token, .int z_place, .int z_value, .int z_fault, .ref q_weight, .ref q_eats, .ref q_barred, .ref q_laws, .int z_houses, .int z_draftHouses, .ref q_s, .ref q_kept, .ref q_isKept, .ref q_years, .ref q_likely, .ref q_then, .long z_all, .ref q_row, .ref q_best]), (q_eats, aI cy 12 z_eats), (q_barred, aI cy 12 z_barred), (q_s, aI cy 67 z_s)] H → va_D A [(q0, oB 7 [.int w0, .long z_trace, .ref q_text, .int z_typed, .int z_next, .int z_token, .int z_place, .int z_value, .int z_fault, .ref q_weight, .ref q_eats, .ref q_barred, .ref q_laws, .int z_houses, .int z_draftHouses, .ref q_s, .ref q_kept, .ref q_isKept, .ref q_years, .ref q_likely, .ref q_then, .long z_all, .ref q_row, .ref q_best]), (q_eats, aI cy 12 z_eats), (q_barred, aI cy 12 z_barred), (q_s, aI cy 67 z_s)] → va_S A s.heap H locs → W p l e rmX7_house s m args below meth c H locs 0 0 Q (F0 m pc ls [.int v]) := by
    intro pc ls H locs v w0 hd he hP hD hS
    cases he
    exact hret _ _ _ _ _ hd rfl hP hD hS
  unfold fX7_house at hf
  refine lv_aload_n hx hb dX7_house_0 rfl (lv_at hl 0 rfl) ?_
  refine lv_iconst (v := 0) hx hb dX7_house_1 (by decide) ?_
  refine va_put (D := D) (ci := 7) (v := .int (0 : Int32)) (ty := .int) (C := RX7) (T := TX7) (N := 24) hx hb hts kc1 tyX7 tyX7_ok nmX7 hown hK hP hD hS 0 rfl rfl 0 (by decide) kw0 (fun _ h9 => h9) rfl pfI rfl rfl (Nat.le_of_ble_eq_true rfl) dX7_house_2 (fun H locs hP hD hS => ?_)
  have hP : va_P D vwCl [(q0, oB 7 [.int (0 : Int32), .long z_trace, .ref q_text, .int z_typed, .int z_next, .int z_token, .int z_place, .int z_value, .int z_fault, .ref q_weight, .ref q_eats, .ref q_barred, .ref q_laws, .int z_houses, .int z_draftHouses, .ref q_s, .ref q_kept, .ref q_isKept, .ref q_years, .ref q_likely, .ref q_then, .long z_all, .ref q_row, .ref q_best]), (q_eats, aI cy 12 z_eats), (q_barred, aI cy 12 z_barred), (q_s, aI cy 67 z_s)] H := hP
  have hD : va_D A [(q0, oB 7 [.int (0 : Int32), .long z_trace, .ref q_text, .int z_typed, .int z_next, .int z_token, .int z_place, .int z_value, .int z_fault, .ref q_weight, .ref q_eats, .ref q_barred, .ref q_laws, .int z_houses, .int z_draftHouses, .ref q_s, .ref q_kept, .ref q_isKept, .ref q_years, .ref q_likely, .ref q_then, .long z_all, .ref q_row, .ref q_best]), (q_eats, aI cy 12 z_eats), (q_barred, aI cy 12 z_barred), (q_s, aI cy 67 z_s)] := hD
  refine lv_aload_n hx hb dX7_house_5 rfl (lv_at hl 0 rfl) ?_
  refine lv_iload_n hx hb dX7_house_6 rfl (lv_at hl 1 rfl) ?_
  obtain ⟨r_7, hr_7, hf⟩ := bd_some hf
  refine cl_i (wc := [(q0, oB 7 [.int (0 : Int32), .long z_trace, .ref q_text, .int z_typed, .int z_next, .int z_token, .int z_place, .int z_value, .int z_fault, .ref q_weight, .ref q_eats, .ref q_barred, .ref q_laws, .int z_houses, .int z_draftHouses, .ref q_s, .ref q_kept, .ref q_isKept, .ref q_years, .ref q_likely, .ref q_then, .long z_all, .ref q_row, .ref q_best])]) (w1 := [(q0, oB 7 [.int (0 : Int32), .long z_trace, .ref q_text, .int z_typed, .int z_next, .int z_token, .int z_place, .int z_value, .int z_fault, .ref q_weight, .ref q_eats, .ref q_barred, .ref q_laws, .int z_houses, .int z_draftHouses, .ref q_s, .ref q_kept, .ref q_isKept, .ref q_years, .ref q_likely, .ref q_then, .long z_all, .ref q_row, .ref q_best])]) (wr := [(q_eats, aI cy 12 z_eats), (q_barred, aI cy 12 z_barred), (q_s, aI cy 67 z_s)]) (w2 := [(q0, oB 7 [.int (0 : Int32), .long z_trace, .ref q_text, .int z_typed, .int z_next, .int z_token, .int z_place, .int z_value, .int z_fault, .ref q_weight, .ref q_eats, .ref q_barred, .ref q_laws, .int z_houses, .int z_draftHouses, .ref q_s, .ref q_kept, .ref q_isKept, .ref q_years, .ref q_likely, .ref q_then, .long z_all, .ref q_row, .ref q_best]), (q_eats, aI cy 12 z_eats), (q_barred, aI cy 12 z_barred), (q_s, aI cy 67 z_s)]) (va_runV (As := [.int x1]) (rest := []) ⟨hx, hb, hml, hown, hts⟩ (ktX7_isHouse l D cy q0 q_text q_weight q_eats q_barred q_laws q_s q_kept q_isKept q_years q_likely q_then q_row q_best (0 : Int32) z_trace z_typed z_next z_token z_place z_value z_fault z_houses z_draftHouses z_all x1 r_7 hr_7 _) (cwV 1 hts gX7_house_X7_isHouse rfl rfl rfl (by decide +kernel) ⟨Nat.le_of_ble_eq_true rfl, Nat.le_of_ble_eq_true rfl⟩) (pre_V (wc := [(q0, oB 7 [.int (0 : Int32), .long z_trace, .ref q_text, .int z_typed, .int z_next, .int z_token, .int z_place, .int z_value, .int z_fault, .ref q_weight, .ref q_eats, .ref q_barred, .ref q_laws, .int z_houses, .int z_draftHouses, .ref q_s, .ref q_kept, .ref q_isKept, .ref q_years, .ref q_likely, .ref q_then, .long z_all, .ref q_row, .ref q_best])]) (ci := 7) hcx hsx hS hA hP hD [0] rfl (by decide) rfl rfl) rfl rfl hl.1 rfl (lv_room (Nat.le_of_ble_eq_true rfl)) dX7_house_7 ⟨Nat.zero_le _, Nat.zero_le _⟩) hP hD hS hA [0] [1, 2, 3] [3, 0, 1, 2] rfl rfl (by decide) (by decide) (by decide) rfl (fun H locs hP hD hS => ?_)
  refine lv_if_eq (tgt := 23) hx hb dX7_house_10 (by decide) (fun hc_10 => ?_) (fun hc_10 => ?_)
  · have hf := it_t hf hc_10
    refine lv_iconst (v := -1) hx hb dX7_house_23 (by decide) ?_
    exact hret' _ _ _ _ _ _ dX7_house_24 hf hP hD hS
  · have hf := it_f hf hc_10
    refine lv_iload_n hx hb dX7_house_13 rfl (lv_at hl 2 rfl) ?_
    refine lv_iconst (v := 0) hx hb dX7_house_14 (by decide) ?_
    refine lv_bipush (v := 6) hx hb dX7_house_15 (by decide) ?_
    obtain ⟨r_17, hr_17, hf⟩ := bd_some hf
    refine cl_i (wc := []) (w1 := []) (wr := [(q0, oB 7 [.int (0 : Int32), .long z_trace, .ref q_text, .int z_typed, .int z_next, .int z_token, .int z_place, .int z_value, .int z_fault, .ref q_weight, .ref q_eats, .ref q_barred, .ref q_laws, .int z_houses, .int z_draftHouses, .ref q_s, .ref q_kept, .ref q_isKept, .ref q_years, .ref q_likely, .ref q_then, .long z_all, .ref q_row, .ref q_best]), (q_eats, aI cy 12 z_eats), (q_barred, aI cy 12 z_barred), (q_s, aI cy 67 z_s)]) (w2 := [(q0, oB 7 [.int (0 : Int32), .long z_trace, .ref q_text, .int z_typed, .int z_next, .int z_token, .int z_place, .int z_value, .int z_fault, .ref q_weight, .ref q_eats, .ref q_barred, .ref q_laws, .int z_houses, .int z_draftHouses, .ref q_s, .ref q_kept, .ref q_isKept, .ref q_years, .ref q_likely, .ref q_then, .long z_all, .ref q_row, .ref q_best]), (q_eats, aI cy 12 z_eats), (q_barred, aI cy 12 z_barred), (q_s, aI cy 67 z_s)]) (va_runS (As := [.int x2, .int (0 : Int32), .int (6 : Int32)]) (rest := []) ⟨hx, hb, hml, hown, hts⟩ (ktX7_in l D cy x2 (0 : Int32) (6 : Int32) r_17 hr_17 _) (va_cwS 3 hts gX7_house_X7_in rfl rfl rfl (by decide +kernel) ⟨Nat.le_of_ble_eq_true rfl, Nat.le_of_ble_eq_true rfl⟩) (pre_S (wc := []) hcx hsx hS hA hP hD [] rfl (by decide)) rfl rfl hl.1 rfl (lv_room (Nat.le_of_ble_eq_true rfl)) dX7_house_17 ⟨Nat.zero_le _, Nat.zero_le _⟩) hP hD hS hA [] [0, 1, 2, 3] [0, 1, 2, 3] rfl rfl (by decide) (by decide) (by decide) rfl (fun H locs hP hD hS => ?_)
    refine lv_if_ne (tgt := 25) hx hb dX7_house_20 (by decide) (fun hc_20 => ?_) (fun hc_20 => ?_)
    · have hf := it_f hf hc_20
      refine lv_iload_n hx hb dX7_house_25 rfl (lv_at hl 2 rfl) ?_
      refine lv_iconst (v := 4) hx hb dX7_house_26 (by decide) ?_
      refine lv_icmp_ge (tgt := 43) hx hb dX7_house_27 (by decide) (fun hc_27 => ?_) (fun hc_27 => ?_)
      · have hf := it_t hf hc_27
        refine lv_iload_n hx hb dX7_house_43 rfl (lv_at hl 2 rfl) ?_
        refine lv_iconst (v := 4) hx hb dX7_house_44 (by decide) ?_
        refine lv_icmp_ne (tgt := 57) hx hb dX7_house_45 (by decide) (fun hc_45 => ?_) (fun hc_45 => ?_)
        · have hf := it_f hf hc_45
          refine lv_iload_n hx hb dX7_house_57 rfl (lv_at hl 2 rfl) ?_
          refine lv_iconst (v := 5) hx hb dX7_house_58 (by decide) ?_
          refine lv_icmp_ne (tgt := 71) hx hb dX7_house_59 (by decide) (fun hc_59 => ?_) (fun hc_59 => ?_)
          · have hf := it_f hf hc_59
            refine lv_aload_n hx hb dX7_house_71 rfl (lv_at hl 0 rfl) ?_
            refine va_get (D := D) (ci := 7) (v := .ref q_s) (C := RX7) (T := TX7) (N := 24) hx hb hts kc1 hown hK hP 0 rfl rfl 15 (by decide) kw2 (fun _ h9 => h9) rfl dX7_house_72 ?_
            refine lv_bipush (v := 24) hx hb dX7_house_75 (by decide) ?_
            refine lv_iload_n hx hb dX7_house_77 rfl (lv_at hl 1 rfl) ?_
            refine lv_iadd hx hb dX7_house_78 ?_
            obtain ⟨hg_79, hf⟩ := gd_some hf
            refine va_iald hx hb hK hP 3 0 rfl rfl hg_79 dX7_house_79 ?_
            exact hret' _ _ _ _ _ _ dX7_house_80 hf hP hD hS
          · have hf := it_t hf hc_59
            refine lv_aload_n hx hb dX7_house_62 rfl (lv_at hl 0 rfl) ?_
            refine va_get (D := D) (ci := 7) (v := .ref q_barred) (C := RX7) (T := TX7) (N := 24) hx hb hts kc1 hown hK hP 0 rfl rfl 11 (by decide) kw3 (fun _ h9 => h9) rfl dX7_house_63 ?_
            refine lv_iload_n hx hb dX7_house_66 rfl (lv_at hl 1 rfl) ?_
            obtain ⟨hg_67, hf⟩ := gd_some hf
            refine va_iald hx hb hK hP 2 0 rfl rfl hg_67 dX7_house_67 ?_
            refine lv_goto (tgt := 80) hx hb dX7_house_68 (by decide) ?_
            exact hret' _ _ _ _ _ _ dX7_house_80 hf hP hD hS
        · have hf := it_t hf hc_45
          refine lv_aload_n hx hb dX7_house_48 rfl (lv_at hl 0 rfl) ?_
          refine va_get (D := D) (ci := 7) (v := .ref q_eats) (C := RX7) (T := TX7) (N := 24) hx hb hts kc1 hown hK hP 0 rfl rfl 10 (by decide) kw4 (fun _ h9 => h9) rfl dX7_house_49 ?_
          refine lv_iload_n hx hb dX7_house_52 rfl (lv_at hl 1 rfl) ?_
          obtain ⟨hg_53, hf⟩ := gd_some hf
          refine va_iald hx hb hK hP 1 0 rfl rfl hg_53 dX7_house_53 ?_
          refine lv_goto (tgt := 80) hx hb dX7_house_54 (by decide) ?_
          exact hret' _ _ _ _ _ _ dX7_house_80 hf hP hD hS
      · have hf := it_f hf hc_27
        refine lv_aload_n hx hb dX7_house_30 rfl (lv_at hl 0 rfl) ?_
        refine va_get (D := D) (ci := 7) (v := .ref q_s) (C := RX7) (T := TX7) (N := 24) hx hb hts kc1 hown hK hP 0 rfl rfl 15 (by decide) kw2 (fun _ h9 => h9) rfl dX7_house_31 ?_
        refine lv_iconst (v := 4) hx hb dX7_house_34 (by decide) ?_
        refine lv_iload_n hx hb dX7_house_35 rfl (lv_at hl 1 rfl) ?_
        refine lv_imul hx hb dX7_house_36 ?_
        refine lv_iload_n hx hb dX7_house_37 rfl (lv_at hl 2 rfl) ?_
        refine lv_iadd hx hb dX7_house_38 ?_
        obtain ⟨hg_39, hf⟩ := gd_some hf
        refine va_iald hx hb hK hP 3 0 rfl rfl hg_39 dX7_house_39 ?_
        refine lv_goto (tgt := 80) hx hb dX7_house_40 (by decide) ?_
        exact hret' _ _ _ _ _ _ dX7_house_80 hf hP hD hS
    · have hf := it_t hf hc_20
      refine lv_iconst (v := -1) hx hb dX7_house_23 (by decide) ?_
      exact hret' _ _ _ _ _ _ dX7_house_24 hf hP hD hS

def fX7_told (z_laws : Nat → Int32) (x1 : Int32) : Option (Int32 × Int32) := (fX7_in x1 (0 : Int32) (2 : Int32)).bind (fun r_8 => if r_8 = 0 then (some ((-1 : Int32), (0 : Int32))) else (gd (okx x1 6) (some (z_laws x1.toNatClampNeg, (0 : Int32)))))
abbrev rmX7_told : Room := { frames := 1, cells := 0, slots := 0, locals := 22 }
set_option maxHeartbeats 4000000 in
set_option maxRecDepth 100000 in
theorem ktX7_told (l : Launch) (D : va_G) (cy : Nat → ClassId) (q0 : Nat) (q_text : Nat) (q_weight : Nat) (q_eats : Nat) (q_barred : Nat) (q_laws : Nat) (q_s : Nat) (q_kept : Nat) (q_isKept : Nat) (q_years : Nat) (q_likely : Nat) (q_then : Nat) (q_row : Nat) (q_best : Nat) (z_thrown : Int32) (z_trace : Int64) (z_typed : Int32) (z_next : Int32) (z_token : Int32) (z_place : Int32) (z_value : Int32) (z_fault : Int32) (z_houses : Int32) (z_draftHouses : Int32) (z_all : Int64) (z_laws : Nat → Int32) (x1 : Int32) (r : Int32 × Int32) (hf : fX7_told z_laws x1 = some r) : CtI l yX7_told wsX7_told rmX7_told D cy [.ref q0, .int x1] [(q0, oB 7 [.int z_thrown, .long z_trace, .ref q_text, .int z_typed, .int z_next, .int z_token, .int z_place, .int z_value, .int z_fault, .ref q_weight, .ref q_eats, .ref q_barred, .ref q_laws, .int z_houses, .int z_draftHouses, .ref q_s, .ref q_kept, .ref q_isKept, .ref q_years, .ref q_likely, .ref q_then, .long z_all, .ref q_row, .ref q_best]), (q_laws, aI cy 6 z_laws)] [(q0, oB 7 [.int r.2, .long z_trace, .ref q_text, .int z_typed, .int z_next, .int z_token, .int z_place, .int z_value, .int z_fault, .ref q_weight, .ref q_eats, .ref q_barred, .ref q_laws, .int z_houses, .int z_draftHouses, .ref q_s, .ref q_kept, .ref q_isKept, .ref q_years, .ref q_likely, .ref q_then, .long z_all, .ref q_row, .ref q_best]), (q_laws, aI cy 6 z_laws)] r.1 := by
  refine Ct_ofI (cc := cX7_told) (nL := 2) (by decide) rfl (Nat.le_of_ble_eq_true rfl) ?_
  intro p e s m args below meth c A Q hM hret hP hD hS ls hl
  obtain ⟨hx, hb, hml, hown, hts, hcx, hA, hsx⟩ := hM
  have hown : s.vm.findClass RX7 = some m.cls := hown
  have hK := hcx.1
  have hN := hcx.2
  have kw0 := hts (.fieldLink RX7 54 "EachBringsModel" "thrown" "I") (List.mem_of_getElem? (i := 1) rfl)
  have kc1 : ∀ w ∈ wsX70, w ∈ wsX7_told := fun _ h => List.mem_cons_of_mem _ (List.mem_append_right _ h)
  have kw2 := hts (.fieldLink RX7 22 "EachBringsModel" "laws" "[I") (List.mem_of_getElem? (i := 2) rfl)
  have hl : lv_has ls 2 [(0, .ref q0), (1, .int x1)] := hl
  have hret' : ∀ (pc : Nat) (ls : Array Slot) (H : Heap) (locs : List Loc) (v : Int32) (w0 : Int32), decode cX7_told pc = .ok (.ireturn, 1) → some (v, w0) = some r → va_P D vwCl [(q0, oB 7 [.int w0, .long z_trace, .ref q_text, .int z_typed, .int z_next, .int z_token, .int z_place, .int z_value, .int z_fault, .ref q_weight, .ref q_eats, .ref q_barred, .ref q_laws, .int z_houses, .int z_draftHouses, .ref q_s, .ref q_kept, .ref q_isKept, .ref q_years, .ref q_likely, .ref q_then, .long z_all, .ref q_row, .ref q_best]), (q_laws, aI cy 6 z_laws)] H → va_D A [(q0, oB 7 [.int w0, .long z_trace, .ref q_text, .int z_typed, .int z_next, .int z_token, .int z_place, .int z_value, .int z_fault, .ref q_weight, .ref q_eats, .ref q_barred, .ref q_laws, .int z_houses, .int z_draftHouses, .ref q_s, .ref q_kept, .ref q_isKept, .ref q_years, .ref q_likely, .ref q_then, .long z_all, .ref q_row, .ref q_best]), (q_laws, aI cy 6 z_laws)] → va_S A s.heap H locs → W p l e rmX7_told s m args below meth c H locs 0 0 Q (F0 m pc ls [.int v]) := by
    intro pc ls H locs v w0 hd he hP hD hS
    cases he
    exact hret _ _ _ _ _ hd rfl hP hD hS
  unfold fX7_told at hf
  refine lv_aload_n hx hb dX7_told_0 rfl (lv_at hl 0 rfl) ?_
  refine lv_iconst (v := 0) hx hb dX7_told_1 (by decide) ?_
  refine va_put (D := D) (ci := 7) (v := .int (0 : Int32)) (ty := .int) (C := RX7) (T := TX7) (N := 24) hx hb hts kc1 tyX7 tyX7_ok nmX7 hown hK hP hD hS 0 rfl rfl 0 (by decide) kw0 (fun _ h9 => h9) rfl pfI rfl rfl (Nat.le_of_ble_eq_true rfl) dX7_told_2 (fun H locs hP hD hS => ?_)
  have hP : va_P D vwCl [(q0, oB 7 [.int (0 : Int32), .long z_trace, .ref q_text, .int z_typed, .int z_next, .int z_token, .int z_place, .int z_value, .int z_fault, .ref q_weight, .ref q_eats, .ref q_barred, .ref q_laws, .int z_houses, .int z_draftHouses, .ref q_s, .ref q_kept, .ref q_isKept, .ref q_years, .ref q_likely, .ref q_then, .long z_all, .ref q_row, .ref q_best]), (q_laws, aI cy 6 z_laws)] H := hP
  have hD : va_D A [(q0, oB 7 [.int (0 : Int32), .long z_trace, .ref q_text, .int z_typed, .int z_next, .int z_token, .int z_place, .int z_value, .int z_fault, .ref q_weight, .ref q_eats, .ref q_barred, .ref q_laws, .int z_houses, .int z_draftHouses, .ref q_s, .ref q_kept, .ref q_isKept, .ref q_years, .ref q_likely, .ref q_then, .long z_all, .ref q_row, .ref q_best]), (q_laws, aI cy 6 z_laws)] := hD
  refine lv_iload_n hx hb dX7_told_5 rfl (lv_at hl 1 rfl) ?_
  refine lv_iconst (v := 0) hx hb dX7_told_6 (by decide) ?_
  refine lv_iconst (v := 2) hx hb dX7_told_7 (by decide) ?_
  obtain ⟨r_8, hr_8, hf⟩ := bd_some hf
  refine cl_i (wc := []) (w1 := []) (wr := [(q0, oB 7 [.int (0 : Int32), .long z_trace, .ref q_text, .int z_typed, .int z_next, .int z_token, .int z_place, .int z_value, .int z_fault, .ref q_weight, .ref q_eats, .ref q_barred, .ref q_laws, .int z_houses, .int z_draftHouses, .ref q_s, .ref q_kept, .ref q_isKept, .ref q_years, .ref q_likely, .ref q_then, .long z_all, .ref q_row, .ref q_best]), (q_laws, aI cy 6 z_laws)]) (w2 := [(q0, oB 7 [.int (0 : Int32), .long z_trace, .ref q_text, .int z_typed, .int z_next, .int z_token, .int z_place, .int z_value, .int z_fault, .ref q_weight, .ref q_eats, .ref q_barred, .ref q_laws, .int z_houses, .int z_draftHouses, .ref q_s, .ref q_kept, .ref q_isKept, .ref q_years, .ref q_likely, .ref q_then, .long z_all, .ref q_row, .ref q_best]), (q_laws, aI cy 6 z_laws)]) (va_runS (As := [.int x1, .int (0 : Int32), .int (2 : Int32)]) (rest := []) ⟨hx, hb, hml, hown, hts⟩ (ktX7_in l D cy x1 (0 : Int32) (2 : Int32) r_8 hr_8 _) (va_cwS 3 hts gX7_told_X7_in rfl rfl rfl (by decide +kernel) ⟨Nat.le_of_ble_eq_true rfl, Nat.le_of_ble_eq_true rfl⟩) (pre_S (wc := []) hcx hsx hS hA hP hD [] rfl (by decide)) rfl rfl hl.1 rfl (lv_room (Nat.le_of_ble_eq_true rfl)) dX7_told_8 ⟨Nat.zero_le _, Nat.zero_le _⟩) hP hD hS hA [] [0, 1] [0, 1] rfl rfl (by decide) (by decide) (by decide) rfl (fun H locs hP hD hS => ?_)
  refine lv_if_eq (tgt := 23) hx hb dX7_told_11 (by decide) (fun hc_11 => ?_) (fun hc_11 => ?_)
  · have hf := it_t hf hc_11
    refine lv_iconst (v := -1) hx hb dX7_told_23 (by decide) ?_
    exact hret' _ _ _ _ _ _ dX7_told_24 hf hP hD hS
  · have hf := it_f hf hc_11
    refine lv_aload_n hx hb dX7_told_14 rfl (lv_at hl 0 rfl) ?_
    refine va_get (D := D) (ci := 7) (v := .ref q_laws) (C := RX7) (T := TX7) (N := 24) hx hb hts kc1 hown hK hP 0 rfl rfl 12 (by decide) kw2 (fun _ h9 => h9) rfl dX7_told_15 ?_
    refine lv_iload_n hx hb dX7_told_18 rfl (lv_at hl 1 rfl) ?_
    obtain ⟨hg_19, hf⟩ := gd_some hf
    refine va_iald hx hb hK hP 1 0 rfl rfl hg_19 dX7_told_19 ?_
    refine lv_goto (tgt := 24) hx hb dX7_told_20 (by decide) ?_
    exact hret' _ _ _ _ _ _ dX7_told_24 hf hP hD hS

def fX7_weightsOf (z_s : Nat → Int32) (x1 : Int32) : Option Int32 := gd (okx ((4 : Int32) * x1) 67) (gd (okx (((4 : Int32) * x1) + (1 : Int32)) 67) (gd (okx (((4 : Int32) * x1) + (2 : Int32)) 67) (gd (okx (((4 : Int32) * x1) + (3 : Int32)) 67) (some ((((z_s ((4 : Int32) * x1).toNatClampNeg) + (z_s (((4 : Int32) * x1) + (1 : Int32)).toNatClampNeg)) + (z_s (((4 : Int32) * x1) + (2 : Int32)).toNatClampNeg)) + (z_s (((4 : Int32) * x1) + (3 : Int32)).toNatClampNeg))))))
abbrev rmX7_weightsOf : Room := { frames := 0, cells := 0, slots := 0, locals := 0 }
set_option maxHeartbeats 4000000 in
set_option maxRecDepth 100000 in
theorem ktX7_weightsOf (l : Launch) (D : va_G) (cy : Nat → ClassId) (q0 : Nat) (q_text : Nat) (q_weight : Nat) (q_eats : Nat) (q_barred : Nat) (q_laws : Nat) (q_s : Nat) (q_kept : Nat) (q_isKept : Nat) (q_years : Nat) (q_likely : Nat) (q_then : Nat) (q_row : Nat) (q_best : Nat) (z_thrown : Int32) (z_trace : Int64) (z_typed : Int32) (z_next : Int32) (z_token : Int32) (z_place : Int32) (z_value : Int32) (z_fault : Int32) (z_houses : Int32) (z_draftHouses : Int32) (z_all : Int64) (z_s : Nat → Int32) (x1 : Int32) (r : Int32) (hf : fX7_weightsOf z_s x1 = some r) : CtI l yX7_weightsOf wsX7_weightsOf rmX7_weightsOf D cy [.ref q0, .int x1] [(q0, oB 7 [.int z_thrown, .long z_trace, .ref q_text, .int z_typed, .int z_next, .int z_token, .int z_place, .int z_value, .int z_fault, .ref q_weight, .ref q_eats, .ref q_barred, .ref q_laws, .int z_houses, .int z_draftHouses, .ref q_s, .ref q_kept, .ref q_isKept, .ref q_years, .ref q_likely, .ref q_then, .long z_all, .ref q_row, .ref q_best]), (q_s, aI cy 67 z_s)] [(q0, oB 7 [.int z_thrown, .long z_trace, .ref q_text, .int z_typed, .int z_next, .int z_token, .int z_place, .int z_value, .int z_fault, .ref q_weight, .ref q_eats, .ref q_barred, .ref q_laws, .int z_houses, .int z_draftHouses, .ref q_s, .ref q_kept, .ref q_isKept, .ref q_years, .ref q_likely, .ref q_then, .long z_all, .ref q_row, .ref q_best]), (q_s, aI cy 67 z_s)] r := by
  refine Ct_ofI (cc := cX7_weightsOf) (nL := 2) (by decide) rfl (Nat.le_of_ble_eq_true rfl) ?_
  intro p e s m args below meth c A Q hM hret hP hD hS ls hl
  obtain ⟨hx, hb, hml, hown, hts, hcx, hA, hsx⟩ := hM
  have hown : s.vm.findClass RX7 = some m.cls := hown
  have hK := hcx.1
  have hN := hcx.2
  have kw0 := hts (.fieldLink RX7 25 "EachBringsModel" "s" "[I") (List.mem_of_getElem? (i := 1) rfl)
  have kc1 : ∀ w ∈ wsX70, w ∈ wsX7_weightsOf := fun _ h => List.mem_cons_of_mem _ (List.mem_append_right _ h)
  have hl : lv_has ls 2 [(0, .ref q0), (1, .int x1)] := hl
  have hret' : ∀ (pc : Nat) (ls : Array Slot) (H : Heap) (locs : List Loc) (v : Int32), decode cX7_weightsOf pc = .ok (.ireturn, 1) → some v = some r → va_P D vwCl [(q0, oB 7 [.int z_thrown, .long z_trace, .ref q_text, .int z_typed, .int z_next, .int z_token, .int z_place, .int z_value, .int z_fault, .ref q_weight, .ref q_eats, .ref q_barred, .ref q_laws, .int z_houses, .int z_draftHouses, .ref q_s, .ref q_kept, .ref q_isKept, .ref q_years, .ref q_likely, .ref q_then, .long z_all, .ref q_row, .ref q_best]), (q_s, aI cy 67 z_s)] H → va_D A [(q0, oB 7 [.int z_thrown, .long z_trace, .ref q_text, .int z_typed, .int z_next, .int z_token, .int z_place, .int z_value, .int z_fault, .ref q_weight, .ref q_eats, .ref q_barred, .ref q_laws, .int z_houses, .int z_draftHouses, .ref q_s, .ref q_kept, .ref q_isKept, .ref q_years, .ref q_likely, .ref q_then, .long z_all, .ref q_row, .ref q_best]), (q_s, aI cy 67 z_s)] → va_S A s.heap H locs → W p l e rmX7_weightsOf s m args below meth c H locs 0 0 Q (F0 m pc ls [.int v]) := by
    intro pc ls H locs v hd he hP hD hS
    cases he
    exact hret _ _ _ _ _ hd rfl hP hD hS
  unfold fX7_weightsOf at hf
  refine lv_aload_n hx hb dX7_weightsOf_0 rfl (lv_at hl 0 rfl) ?_
  refine va_get (D := D) (ci := 7) (v := .ref q_s) (C := RX7) (T := TX7) (N := 24) hx hb hts kc1 hown hK hP 0 rfl rfl 15 (by decide) kw0 (fun _ h9 => h9) rfl dX7_weightsOf_1 ?_
  refine lv_iconst (v := 4) hx hb dX7_weightsOf_4 (by decide) ?_
  refine lv_iload_n hx hb dX7_weightsOf_5 rfl (lv_at hl 1 rfl) ?_
  refine lv_imul hx hb dX7_weightsOf_6 ?_
  obtain ⟨hg_7, hf⟩ := gd_some hf
  refine va_iald hx hb hK hP 1 0 rfl rfl hg_7 dX7_weightsOf_7 ?_
  refine lv_aload_n hx hb dX7_weightsOf_8 rfl (lv_at hl 0 rfl) ?_
  refine va_get (D := D) (ci := 7) (v := .ref q_s) (C := RX7) (T := TX7) (N := 24) hx hb hts kc1 hown hK hP 0 rfl rfl 15 (by decide) kw0 (fun _ h9 => h9) rfl dX7_weightsOf_9 ?_
  refine lv_iconst (v := 4) hx hb dX7_weightsOf_12 (by decide) ?_
  refine lv_iload_n hx hb dX7_weightsOf_13 rfl (lv_at hl 1 rfl) ?_
  refine lv_imul hx hb dX7_weightsOf_14 ?_
  refine lv_iconst (v := 1) hx hb dX7_weightsOf_15 (by decide) ?_
  refine lv_iadd hx hb dX7_weightsOf_16 ?_
  obtain ⟨hg_17, hf⟩ := gd_some hf
  refine va_iald hx hb hK hP 1 0 rfl rfl hg_17 dX7_weightsOf_17 ?_
  refine lv_iadd hx hb dX7_weightsOf_18 ?_
  refine lv_aload_n hx hb dX7_weightsOf_19 rfl (lv_at hl 0 rfl) ?_
  refine va_get (D := D) (ci := 7) (v := .ref q_s) (C := RX7) (T := TX7) (N := 24) hx hb hts kc1 hown hK hP 0 rfl rfl 15 (by decide) kw0 (fun _ h9 => h9) rfl dX7_weightsOf_20 ?_
  refine lv_iconst (v := 4) hx hb dX7_weightsOf_23 (by decide) ?_
  refine lv_iload_n hx hb dX7_weightsOf_24 rfl (lv_at hl 1 rfl) ?_
  refine lv_imul hx hb dX7_weightsOf_25 ?_
  refine lv_iconst (v := 2) hx hb dX7_weightsOf_26 (by decide) ?_
  refine lv_iadd hx hb dX7_weightsOf_27 ?_
  obtain ⟨hg_28, hf⟩ := gd_some hf
  refine va_iald hx hb hK hP 1 0 rfl rfl hg_28 dX7_weightsOf_28 ?_
  refine lv_iadd hx hb dX7_weightsOf_29 ?_
  refine lv_aload_n hx hb dX7_weightsOf_30 rfl (lv_at hl 0 rfl) ?_
  refine va_get (D := D) (ci := 7) (v := .ref q_s) (C := RX7) (T := TX7) (N := 24) hx hb hts kc1 hown hK hP 0 rfl rfl 15 (by decide) kw0 (fun _ h9 => h9) rfl dX7_weightsOf_31 ?_
  refine lv_iconst (v := 4) hx hb dX7_weightsOf_34 (by decide) ?_
  refine lv_iload_n hx hb dX7_weightsOf_35 rfl (lv_at hl 1 rfl) ?_
  refine lv_imul hx hb dX7_weightsOf_36 ?_
  refine lv_iconst (v := 3) hx hb dX7_weightsOf_37 (by decide) ?_
  refine lv_iadd hx hb dX7_weightsOf_38 ?_
  obtain ⟨hg_39, hf⟩ := gd_some hf
  refine va_iald hx hb hK hP 1 0 rfl rfl hg_39 dX7_weightsOf_39 ?_
  refine lv_iadd hx hb dX7_weightsOf_40 ?_
  exact hret' _ _ _ _ _ dX7_weightsOf_41 hf hP hD hS

def fX7_bring (z_eats : Nat → Int32) (z_laws : Nat → Int32) (z_s : Nat → Int32) (x1 : Int32) (x2 : Int32) : Option (Int32 × (Nat → Int32)) := gd (okx ((24 : Int32) + x1) 67) (lets (upd z_s ((24 : Int32) + x1).toNatClampNeg x2) (fun z_s_9 => gd (okx ((54 : Int32) + x2) 67) (gd (okx x1 12) (gd (okx ((54 : Int32) + x2) 67) (lets (upd z_s_9 ((54 : Int32) + x2).toNatClampNeg ((z_s_9 ((54 : Int32) + x2).toNatClampNeg) + ((z_eats x1.toNatClampNeg) + (z_laws (1 : Int32).toNatClampNeg)))) (fun z_s_34 => gd (okx x1 12) (some ((z_eats x1.toNatClampNeg) + (z_laws (1 : Int32).toNatClampNeg), z_s_34))))))))
abbrev rmX7_bring : Room := { frames := 0, cells := 0, slots := 0, locals := 0 }
set_option maxHeartbeats 4000000 in
set_option maxRecDepth 100000 in
theorem ktX7_bring (l : Launch) (D : va_G) (cy : Nat → ClassId) (q0 : Nat) (q_text : Nat) (q_weight : Nat) (q_eats : Nat) (q_barred : Nat) (q_laws : Nat) (q_s : Nat) (q_kept : Nat) (q_isKept : Nat) (q_years : Nat) (q_likely : Nat) (q_then : Nat) (q_row : Nat) (q_best : Nat) (z_thrown : Int32) (z_trace : Int64) (z_typed : Int32) (z_next : Int32) (z_token : Int32) (z_place : Int32) (z_value : Int32) (z_fault : Int32) (z_houses : Int32) (z_draftHouses : Int32) (z_all : Int64) (z_eats : Nat → Int32) (z_laws : Nat → Int32) (z_s : Nat → Int32) (x1 : Int32) (x2 : Int32) (r : Int32 × (Nat → Int32)) (hf : fX7_bring z_eats z_laws z_s x1 x2 = some r) : CtI l yX7_bring wsX7_bring rmX7_bring D cy [.ref q0, .int x1, .int x2] [(q0, oB 7 [.int z_thrown, .long z_trace, .ref q_text, .int z_typed, .int z_next, .int z_token, .int z_place, .int z_value, .int z_fault, .ref q_weight, .ref q_eats, .ref q_barred, .ref q_laws, .int z_houses, .int z_draftHouses, .ref q_s, .ref q_kept, .ref q_isKept, .ref q_years, .ref q_likely, .ref q_then, .long z_all, .ref q_row, .ref q_best]), (q_eats, aI cy 12 z_eats), (q_laws, aI cy 6 z_laws), (q_s, aI cy 67 z_s)] [(q0, oB 7 [.int z_thrown, .long z_trace, .ref q_text, .int z_typed, .int z_next, .int z_token, .int z_place, .int z_value, .int z_fault, .ref q_weight, .ref q_eats, .ref q_barred, .ref q_laws, .int z_houses, .int z_draftHouses, .ref q_s, .ref q_kept, .ref q_isKept, .ref q_years, .ref q_likely, .ref q_then, .long z_all, .ref q_row, .ref q_best]), (q_eats, aI cy 12 z_eats), (q_laws, aI cy 6 z_laws), (q_s, aI cy 67 r.2)] r.1 := by
  refine Ct_ofI (cc := cX7_bring) (nL := 3) (by decide) rfl (Nat.le_of_ble_eq_true rfl) ?_
  intro p e s m args below meth c A Q hM hret hP hD hS ls hl
  obtain ⟨hx, hb, hml, hown, hts, hcx, hA, hsx⟩ := hM
  have hown : s.vm.findClass RX7 = some m.cls := hown
  have hK := hcx.1
  have hN := hcx.2
  have kw0 := hts (.fieldLink RX7 25 "EachBringsModel" "s" "[I") (List.mem_of_getElem? (i := 1) rfl)
  have kc1 : ∀ w ∈ wsX70, w ∈ wsX7_bring := fun _ h => List.mem_cons_of_mem _ (List.mem_append_right _ h)
  have kw2 := hts (.fieldLink RX7 16 "EachBringsModel" "eats" "[I") (List.mem_of_getElem? (i := 2) rfl)
  have kw3 := hts (.fieldLink RX7 22 "EachBringsModel" "laws" "[I") (List.mem_of_getElem? (i := 3) rfl)
  have hl : lv_has ls 3 [(0, .ref q0), (1, .int x1), (2, .int x2)] := hl
  have hret' : ∀ (pc : Nat) (ls : Array Slot) (H : Heap) (locs : List Loc) (v : Int32) (w0 : Nat → Int32), decode cX7_bring pc = .ok (.ireturn, 1) → some (v, w0) = some r → va_P D vwCl [(q0, oB 7 [.int z_thrown, .long z_trace, .ref q_text, .int z_typed, .int z_next, .int z_token, .int z_place, .int z_value, .int z_fault, .ref q_weight, .ref q_eats, .ref q_barred, .ref q_laws, .int z_houses, .int z_draftHouses, .ref q_s, .ref q_kept, .ref q_isKept, .ref q_years, .ref q_likely, .ref q_then, .long z_all, .ref q_row, .ref q_best]), (q_eats, aI cy 12 z_eats), (q_laws, aI cy 6 z_laws), (q_s, aI cy 67 w0)] H → va_D A [(q0, oB 7 [.int z_thrown, .long z_trace, .ref q_text, .int z_typed, .int z_next, .int z_token, .int z_place, .int z_value, .int z_fault, .ref q_weight, .ref q_eats, .ref q_barred, .ref q_laws, .int z_houses, .int z_draftHouses, .ref q_s, .ref q_kept, .ref q_isKept, .ref q_years, .ref q_likely, .ref q_then, .long z_all, .ref q_row, .ref q_best]), (q_eats, aI cy 12 z_eats), (q_laws, aI cy 6 z_laws), (q_s, aI cy 67 w0)] → va_S A s.heap H locs → W p l e rmX7_bring s m args below meth c H locs 0 0 Q (F0 m pc ls [.int v]) := by
    intro pc ls H locs v w0 hd he hP hD hS
    cases he
    exact hret _ _ _ _ _ hd rfl hP hD hS
  unfold fX7_bring at hf
  refine lv_aload_n hx hb dX7_bring_0 rfl (lv_at hl 0 rfl) ?_
  refine va_get (D := D) (ci := 7) (v := .ref q_s) (C := RX7) (T := TX7) (N := 24) hx hb hts kc1 hown hK hP 0 rfl rfl 15 (by decide) kw0 (fun _ h9 => h9) rfl dX7_bring_1 ?_
  refine lv_bipush (v := 24) hx hb dX7_bring_4 (by decide) ?_
  refine lv_iload_n hx hb dX7_bring_6 rfl (lv_at hl 1 rfl) ?_
  refine lv_iadd hx hb dX7_bring_7 ?_
  refine lv_iload_n hx hb dX7_bring_8 rfl (lv_at hl 2 rfl) ?_
  obtain ⟨hg_9, hf⟩ := gd_some hf
  refine va_iast hx hb hK hP hD hS 3 0 rfl rfl hg_9 dX7_bring_9 (fun H locs hP hD hS => ?_)
  obtain ⟨z_s_9, ez_s_9⟩ : ∃ y : Nat → Int32, y = upd z_s ((24 : Int32) + x1).toNatClampNeg x2 := ⟨_, rfl⟩
  have hf := lets_at hf ez_s_9
  rw [← ez_s_9] at hP hD
  have hP : va_P D vwCl [(q0, oB 7 [.int z_thrown, .long z_trace, .ref q_text, .int z_typed, .int z_next, .int z_token, .int z_place, .int z_value, .int z_fault, .ref q_weight, .ref q_eats, .ref q_barred, .ref q_laws, .int z_houses, .int z_draftHouses, .ref q_s, .ref q_kept, .ref q_isKept, .ref q_years, .ref q_likely, .ref q_then, .long z_all, .ref q_row, .ref q_best]), (q_eats, aI cy 12 z_eats), (q_laws, aI cy 6 z_laws), (q_s, aI cy 67 z_s_9)] H := hP
  have hD : va_D A [(q0, oB 7 [.int z_thrown, .long z_trace, .ref q_text, .int z_typed, .int z_next, .int z_token, .int z_place, .int z_value, .int z_fault, .ref q_weight, .ref q_eats, .ref q_barred, .ref q_laws, .int z_houses, .int z_draftHouses, .ref q_s, .ref q_kept, .ref q_isKept, .ref q_years, .ref q_likely, .ref q_then, .long z_all, .ref q_row, .ref q_best]), (q_eats, aI cy 12 z_eats), (q_laws, aI cy 6 z_laws), (q_s, aI cy 67 z_s_9)] := hD
  refine lv_aload_n hx hb dX7_bring_10 rfl (lv_at hl 0 rfl) ?_
  refine va_get (D := D) (ci := 7) (v := .ref q_s) (C := RX7) (T := TX7) (N := 24) hx hb hts kc1 hown hK hP 0 rfl rfl 15 (by decide) kw0 (fun _ h9 => h9) rfl dX7_bring_11 ?_
  refine lv_bipush (v := 54) hx hb dX7_bring_14 (by decide) ?_
  refine lv_iload_n hx hb dX7_bring_16 rfl (lv_at hl 2 rfl) ?_
  refine lv_iadd hx hb dX7_bring_17 ?_
  refine lv_dup2_11 hx hb dX7_bring_18 rfl rfl ?_
  obtain ⟨hg_19, hf⟩ := gd_some hf
  refine va_iald hx hb hK hP 3 0 rfl rfl hg_19 dX7_bring_19 ?_
  refine lv_aload_n hx hb dX7_bring_20 rfl (lv_at hl 0 rfl) ?_
  refine va_get (D := D) (ci := 7) (v := .ref q_eats) (C := RX7) (T := TX7) (N := 24) hx hb hts kc1 hown hK hP 0 rfl rfl 10 (by decide) kw2 (fun _ h9 => h9) rfl dX7_bring_21 ?_
  refine lv_iload_n hx hb dX7_bring_24 rfl (lv_at hl 1 rfl) ?_
  obtain ⟨hg_25, hf⟩ := gd_some hf
  refine va_iald hx hb hK hP 1 0 rfl rfl hg_25 dX7_bring_25 ?_
  refine lv_aload_n hx hb dX7_bring_26 rfl (lv_at hl 0 rfl) ?_
  refine va_get (D := D) (ci := 7) (v := .ref q_laws) (C := RX7) (T := TX7) (N := 24) hx hb hts kc1 hown hK hP 0 rfl rfl 12 (by decide) kw3 (fun _ h9 => h9) rfl dX7_bring_27 ?_
  refine lv_iconst (v := 1) hx hb dX7_bring_30 (by decide) ?_
  refine va_iald hx hb hK hP 2 0 rfl rfl (by decide : okx (1 : Int32) 6) dX7_bring_31 ?_
  refine lv_iadd hx hb dX7_bring_32 ?_
  refine lv_iadd hx hb dX7_bring_33 ?_
  obtain ⟨hg_34, hf⟩ := gd_some hf
  refine va_iast hx hb hK hP hD hS 3 0 rfl rfl hg_34 dX7_bring_34 (fun H locs hP hD hS => ?_)
  obtain ⟨z_s_34, ez_s_34⟩ : ∃ y : Nat → Int32, y = upd z_s_9 ((54 : Int32) + x2).toNatClampNeg ((z_s_9 ((54 : Int32) + x2).toNatClampNeg) + ((z_eats x1.toNatClampNeg) + (z_laws (1 : Int32).toNatClampNeg))) := ⟨_, rfl⟩
  have hf := lets_at hf ez_s_34
  rw [← ez_s_34] at hP hD
  have hP : va_P D vwCl [(q0, oB 7 [.int z_thrown, .long z_trace, .ref q_text, .int z_typed, .int z_next, .int z_token, .int z_place, .int z_value, .int z_fault, .ref q_weight, .ref q_eats, .ref q_barred, .ref q_laws, .int z_houses, .int z_draftHouses, .ref q_s, .ref q_kept, .ref q_isKept, .ref q_years, .ref q_likely, .ref q_then, .long z_all, .ref q_row, .ref q_best]), (q_eats, aI cy 12 z_eats), (q_laws, aI cy 6 z_laws), (q_s, aI cy 67 z_s_34)] H := hP
  have hD : va_D A [(q0, oB 7 [.int z_thrown, .long z_trace, .ref q_text, .int z_typed, .int z_next, .int z_token, .int z_place, .int z_value, .int z_fault, .ref q_weight, .ref q_eats, .ref q_barred, .ref q_laws, .int z_houses, .int z_draftHouses, .ref q_s, .ref q_kept, .ref q_isKept, .ref q_years, .ref q_likely, .ref q_then, .long z_all, .ref q_row, .ref q_best]), (q_eats, aI cy 12 z_eats), (q_laws, aI cy 6 z_laws), (q_s, aI cy 67 z_s_34)] := hD
  refine lv_aload_n hx hb dX7_bring_35 rfl (lv_at hl 0 rfl) ?_
  refine va_get (D := D) (ci := 7) (v := .ref q_eats) (C := RX7) (T := TX7) (N := 24) hx hb hts kc1 hown hK hP 0 rfl rfl 10 (by decide) kw2 (fun _ h9 => h9) rfl dX7_bring_36 ?_
  refine lv_iload_n hx hb dX7_bring_39 rfl (lv_at hl 1 rfl) ?_
  obtain ⟨hg_40, hf⟩ := gd_some hf
  refine va_iald hx hb hK hP 1 0 rfl rfl hg_40 dX7_bring_40 ?_
  refine lv_aload_n hx hb dX7_bring_41 rfl (lv_at hl 0 rfl) ?_
  refine va_get (D := D) (ci := 7) (v := .ref q_laws) (C := RX7) (T := TX7) (N := 24) hx hb hts kc1 hown hK hP 0 rfl rfl 12 (by decide) kw3 (fun _ h9 => h9) rfl dX7_bring_42 ?_
  refine lv_iconst (v := 1) hx hb dX7_bring_45 (by decide) ?_
  refine va_iald hx hb hK hP 2 0 rfl rfl (by decide : okx (1 : Int32) 6) dX7_bring_46 ?_
  refine lv_iadd hx hb dX7_bring_47 ?_
  exact hret' _ _ _ _ _ _ dX7_bring_48 hf hP hD hS

def X7_brings_J60 (z_s : Nat → Int32) : Option (Int32 × Int32 × (Nat → Int32)) := some ((-2 : Int32), (0 : Int32), z_s)
def fX7_brings (z_houses : Int32) (z_eats : Nat → Int32) (z_laws : Nat → Int32) (z_s : Nat → Int32) (x1 : Int32) (x2 : Int32) : Option (Int32 × Int32 × (Nat → Int32)) := (fX7_isHouse z_houses x1).bind (fun r_7 => if r_7 = 0 then (some ((-1 : Int32), (0 : Int32), z_s)) else ((fX7_isSort x2).bind (fun r_14 => if r_14 = 0 then (some ((-1 : Int32), (0 : Int32), z_s)) else (gd (okx (((4 : Int32) * x1) + x2) 67) (if (z_s (((4 : Int32) * x1) + x2).toNatClampNeg) = 0 then (X7_brings_J60 z_s) else (gd (okx ((24 : Int32) + x1) 67) (if (z_s ((24 : Int32) + x1).toNatClampNeg) = (-9 : Int32) then (if (z_s (58 : Int32).toNatClampNeg) = (1 : Int32) then (X7_brings_J60 z_s) else ((fX7_bring z_eats z_laws z_s x1 x2).bind (fun r_68 => some (r_68.1, (0 : Int32), r_68.2)))) else (X7_brings_J60 z_s))))))))
abbrev rmX7_brings : Room := { frames := 2, cells := 0, slots := 0, locals := 43 }
set_option maxHeartbeats 4000000 in
set_option maxRecDepth 100000 in
theorem ktX7_brings (l : Launch) (D : va_G) (cy : Nat → ClassId) (q0 : Nat) (q_text : Nat) (q_weight : Nat) (q_eats : Nat) (q_barred : Nat) (q_laws : Nat) (q_s : Nat) (q_kept : Nat) (q_isKept : Nat) (q_years : Nat) (q_likely : Nat) (q_then : Nat) (q_row : Nat) (q_best : Nat) (z_thrown : Int32) (z_trace : Int64) (z_typed : Int32) (z_next : Int32) (z_token : Int32) (z_place : Int32) (z_value : Int32) (z_fault : Int32) (z_houses : Int32) (z_draftHouses : Int32) (z_all : Int64) (z_eats : Nat → Int32) (z_laws : Nat → Int32) (z_s : Nat → Int32) (x1 : Int32) (x2 : Int32) (r : Int32 × Int32 × (Nat → Int32)) (hf : fX7_brings z_houses z_eats z_laws z_s x1 x2 = some r) : CtI l yX7_brings wsX7_brings rmX7_brings D cy [.ref q0, .int x1, .int x2] [(q0, oB 7 [.int z_thrown, .long z_trace, .ref q_text, .int z_typed, .int z_next, .int z_token, .int z_place, .int z_value, .int z_fault, .ref q_weight, .ref q_eats, .ref q_barred, .ref q_laws, .int z_houses, .int z_draftHouses, .ref q_s, .ref q_kept, .ref q_isKept, .ref q_years, .ref q_likely, .ref q_then, .long z_all, .ref q_row, .ref q_best]), (q_eats, aI cy 12 z_eats), (q_laws, aI cy 6 z_laws), (q_s, aI cy 67 z_s)] [(q0, oB 7 [.int r.2.1, .long z_trace, .ref q_text, .int z_typed, .int z_next, .int z_token, .int z_place, .int z_value, .int z_fault, .ref q_weight, .ref q_eats, .ref q_barred, .ref q_laws, .int z_houses, .int z_draftHouses, .ref q_s, .ref q_kept, .ref q_isKept, .ref q_years, .ref q_likely, .ref q_then, .long z_all, .ref q_row, .ref q_best]), (q_eats, aI cy 12 z_eats), (q_laws, aI cy 6 z_laws), (q_s, aI cy 67 r.2.2)] r.1 := by
  refine Ct_ofI (cc := cX7_brings) (nL := 3) (by decide) rfl (Nat.le_of_ble_eq_true rfl) ?_
  intro p e s m args below meth c A Q hM hret hP hD hS ls hl
  obtain ⟨hx, hb, hml, hown, hts, hcx, hA, hsx⟩ := hM
  have hown : s.vm.findClass RX7 = some m.cls := hown
  have hK := hcx.1
  have hN := hcx.2
  have kw0 := hts (.fieldLink RX7 54 "EachBringsModel" "thrown" "I") (List.mem_of_getElem? (i := 1) rfl)
  have kc1 : ∀ w ∈ wsX70, w ∈ wsX7_brings := fun _ h => List.mem_cons_of_mem _ (List.mem_append_right _ h)
  have kw2 := hts (.fieldLink RX7 25 "EachBringsModel" "s" "[I") (List.mem_of_getElem? (i := 2) rfl)
  have hl : lv_has ls 3 [(0, .ref q0), (1, .int x1), (2, .int x2)] := hl
  have hret' : ∀ (pc : Nat) (ls : Array Slot) (H : Heap) (locs : List Loc) (v : Int32) (w0 : Int32) (w1 : Nat → Int32), decode cX7_brings pc = .ok (.ireturn, 1) → some (v, w0, w1) = some r → va_P D vwCl [(q0, oB 7 [.int w0, .long z_trace, .ref q_text, .int z_typed, .int z_next, .int z_token, .int z_place, .int z_value, .int z_fault, .ref q_weight, .ref q_eats, .ref q_barred, .ref q_laws, .int z_houses, .int z_draftHouses, .ref q_s, .ref q_kept, .ref q_isKept, .ref q_years, .ref q_likely, .ref q_then, .long z_all, .ref q_row, .ref q_best]), (q_eats, aI cy 12 z_eats), (q_laws, aI cy 6 z_laws), (q_s, aI cy 67 w1)] H → va_D A [(q0, oB 7 [.int w0, .long z_trace, .ref q_text, .int z_typed, .int z_next, .int z_token, .int z_place, .int z_value, .int z_fault, .ref q_weight, .ref q_eats, .ref q_barred, .ref q_laws, .int z_houses, .int z_draftHouses, .ref q_s, .ref q_kept, .ref q_isKept, .ref q_years, .ref q_likely, .ref q_then, .long z_all, .ref q_row, .ref q_best]), (q_eats, aI cy 12 z_eats), (q_laws, aI cy 6 z_laws), (q_s, aI cy 67 w1)] → va_S A s.heap H locs → W p l e rmX7_brings s m args below meth c H locs 0 0 Q (F0 m pc ls [.int v]) := by
    intro pc ls H locs v w0 w1 hd he hP hD hS
    cases he
    exact hret _ _ _ _ _ hd rfl hP hD hS
  unfold fX7_brings at hf
  refine lv_aload_n hx hb dX7_brings_0 rfl (lv_at hl 0 rfl) ?_
  refine lv_iconst (v := 0) hx hb dX7_brings_1 (by decide) ?_
  refine va_put (D := D) (ci := 7) (v := .int (0 : Int32)) (ty := .int) (C := RX7) (T := TX7) (N := 24) hx hb hts kc1 tyX7 tyX7_ok nmX7 hown hK hP hD hS 0 rfl rfl 0 (by decide) kw0 (fun _ h9 => h9) rfl pfI rfl rfl (Nat.le_of_ble_eq_true rfl) dX7_brings_2 (fun H locs hP hD hS => ?_)
  have hP : va_P D vwCl [(q0, oB 7 [.int (0 : Int32), .long z_trace, .ref q_text, .int z_typed, .int z_next, .int z_token, .int z_place, .int z_value, .int z_fault, .ref q_weight, .ref q_eats, .ref q_barred, .ref q_laws, .int z_houses, .int z_draftHouses, .ref q_s, .ref q_kept, .ref q_isKept, .ref q_years, .ref q_likely, .ref q_then, .long z_all, .ref q_row, .ref q_best]), (q_eats, aI cy 12 z_eats), (q_laws, aI cy 6 z_laws), (q_s, aI cy 67 z_s)] H := hP
  have hD : va_D A [(q0, oB 7 [.int (0 : Int32), .long z_trace, .ref q_text, .int z_typed, .int z_next, .int z_token, .int z_place, .int z_value, .int z_fault, .ref q_weight, .ref q_eats, .ref q_barred, .ref q_laws, .int z_houses, .int z_draftHouses, .ref q_s, .ref q_kept, .ref q_isKept, .ref q_years, .ref q_likely, .ref q_then, .long z_all, .ref q_row, .ref q_best]), (q_eats, aI cy 12 z_eats), (q_laws, aI cy 6 z_laws), (q_s, aI cy 67 z_s)] := hD
  refine lv_aload_n hx hb dX7_brings_5 rfl (lv_at hl 0 rfl) ?_
  refine lv_iload_n hx hb dX7_brings_6 rfl (lv_at hl 1 rfl) ?_
  obtain ⟨r_7, hr_7, hf⟩ := bd_some hf
  refine cl_i (wc := [(q0, oB 7 [.int (0 : Int32), .long z_trace, .ref q_text, .int z_typed, .int z_next, .int z_token, .int z_place, .int z_value, .int z_fault, .ref q_weight, .ref q_eats, .ref q_barred, .ref q_laws, .int z_houses, .int z_draftHouses, .ref q_s, .ref q_kept, .ref q_isKept, .ref q_years, .ref q_likely, .ref q_then, .long z_all, .ref q_row, .ref q_best])]) (w1 := [(q0, oB 7 [.int (0 : Int32), .long z_trace, .ref q_text, .int z_typed, .int z_next, .int z_token, .int z_place, .int z_value, .int z_fault, .ref q_weight, .ref q_eats, .ref q_barred, .ref q_laws, .int z_houses, .int z_draftHouses, .ref q_s, .ref q_kept, .ref q_isKept, .ref q_years, .ref q_likely, .ref q_then, .long z_all, .ref q_row, .ref q_best])]) (wr := [(q_eats, aI cy 12 z_eats), (q_laws, aI cy 6 z_laws), (q_s, aI cy 67 z_s)]) (w2 := [(q0, oB 7 [.int (0 : Int32), .long z_trace, .ref q_text, .int z_typed, .int z_next, .int z_token, .int z_place, .int z_value, .int z_fault, .ref q_weight, .ref q_eats, .ref q_barred, .ref q_laws, .int z_houses, .int z_draftHouses, .ref q_s, .ref q_kept, .ref q_isKept, .ref q_years, .ref q_likely, .ref q_then, .long z_all, .ref q_row, .ref q_best]), (q_eats, aI cy 12 z_eats), (q_laws, aI cy 6 z_laws), (q_s, aI cy 67 z_s)]) (va_runV (As := [.int x1]) (rest := []) ⟨hx, hb, hml, hown, hts⟩ (ktX7_isHouse l D cy q0 q_text q_weight q_eats q_barred q_laws q_s q_kept q_isKept q_years q_likely q_then q_row q_best (0 : Int32) z_trace z_typed z_next z_token z_place z_value z_fault z_houses z_draftHouses z_all x1 r_7 hr_7 _) (cwV 1 hts gX7_brings_X7_isHouse rfl rfl rfl (by decide +kernel) ⟨Nat.le_of_ble_eq_true rfl, Nat.le_of_ble_eq_true rfl⟩) (pre_V (wc := [(q0, oB 7 [.int (0 : Int32), .long z_trace, .ref q_text, .int z_typed, .int z_next, .int z_token, .int z_place, .int z_value, .int z_fault, .ref q_weight, .ref q_eats, .ref q_barred, .ref q_laws, .int z_houses, .int z_draftHouses, .ref q_s, .ref q_kept, .ref q_isKept, .ref q_years, .ref q_likely, .ref q_then, .long z_all, .ref q_row, .ref q_best])]) (ci := 7) hcx hsx hS hA hP hD [0] rfl (by decide) rfl rfl) rfl rfl hl.1 rfl (lv_room (Nat.le_of_ble_eq_true rfl)) dX7_brings_7 ⟨Nat.zero_le _, Nat.zero_le _⟩) hP hD hS hA [0] [1, 2, 3] [3, 0, 1, 2] rfl rfl (by decide) (by decide) (by decide) rfl (fun H locs hP hD hS => ?_)
  refine lv_if_eq (tgt := 20) hx hb dX7_brings_10 (by decide) (fun hc_10 => ?_) (fun hc_10 => ?_)
  · have hf := it_t hf hc_10
    refine lv_iconst (v := -1) hx hb dX7_brings_20 (by decide) ?_
    exact hret' _ _ _ _ _ _ _ dX7_brings_21 hf hP hD hS
  · have hf := it_f hf hc_10
    refine lv_iload_n hx hb dX7_brings_13 rfl (lv_at hl 2 rfl) ?_
    obtain ⟨r_14, hr_14, hf⟩ := bd_some hf
    refine cl_i (wc := []) (w1 := []) (wr := [(q0, oB 7 [.int (0 : Int32), .long z_trace, .ref q_text, .int z_typed, .int z_next, .int z_token, .int z_place, .int z_value, .int z_fault, .ref q_weight, .ref q_eats, .ref q_barred, .ref q_laws, .int z_houses, .int z_draftHouses, .ref q_s, .ref q_kept, .ref q_isKept, .ref q_years, .ref q_likely, .ref q_then, .long z_all, .ref q_row, .ref q_best]), (q_eats, aI cy 12 z_eats), (q_laws, aI cy 6 z_laws), (q_s, aI cy 67 z_s)]) (w2 := [(q0, oB 7 [.int (0 : Int32), .long z_trace, .ref q_text, .int z_typed, .int z_next, .int z_token, .int z_place, .int z_value, .int z_fault, .ref q_weight, .ref q_eats, .ref q_barred, .ref q_laws, .int z_houses, .int z_draftHouses, .ref q_s, .ref q_kept, .ref q_isKept, .ref q_years, .ref q_likely, .ref q_then, .long z_all, .ref q_row, .ref q_best]), (q_eats, aI cy 12 z_eats), (q_laws, aI cy 6 z_laws), (q_s, aI cy 67 z_s)]) (va_runS (As := [.int x2]) (rest := []) ⟨hx, hb, hml, hown, hts⟩ (ktX7_isSort l D cy x2 r_14 hr_14 _) (va_cwS 1 hts gX7_brings_X7_isSort rfl rfl rfl (by decide +kernel) ⟨Nat.le_of_ble_eq_true rfl, Nat.le_of_ble_eq_true rfl⟩) (pre_S (wc := []) hcx hsx hS hA hP hD [] rfl (by decide)) rfl rfl hl.1 rfl (lv_room (Nat.le_of_ble_eq_true rfl)) dX7_brings_14 ⟨Nat.zero_le _, Nat.zero_le _⟩) hP hD hS hA [] [0, 1, 2, 3] [0, 1, 2, 3] rfl rfl (by decide) (by decide) (by decide) rfl (fun H locs hP hD hS => ?_)
    refine lv_if_ne (tgt := 22) hx hb dX7_brings_17 (by decide) (fun hc_17 => ?_) (fun hc_17 => ?_)
    · have hf := it_f hf hc_17
      refine lv_aload_n hx hb dX7_brings_22 rfl (lv_at hl 0 rfl) ?_
      refine va_get (D := D) (ci := 7) (v := .ref q_s) (C := RX7) (T := TX7) (N := 24) hx hb hts kc1 hown hK hP 0 rfl rfl 15 (by decide) kw2 (fun _ h9 => h9) rfl dX7_brings_23 ?_
      refine lv_iconst (v := 4) hx hb dX7_brings_26 (by decide) ?_
      refine lv_iload_n hx hb dX7_brings_27 rfl (lv_at hl 1 rfl) ?_
      refine lv_imul hx hb dX7_brings_28 ?_
      refine lv_iload_n hx hb dX7_brings_29 rfl (lv_at hl 2 rfl) ?_
      refine lv_iadd hx hb dX7_brings_30 ?_
      obtain ⟨hg_31, hf⟩ := gd_some hf
      refine va_iald hx hb hK hP 3 0 rfl rfl hg_31 dX7_brings_31 ?_
      have hJ60 : ∀ (H : Heap) (locs : List Loc) (ls : Array Slot), X7_brings_J60 z_s = some r → va_P D vwCl [(q0, oB 7 [.int (0 : Int32), .long z_trace, .ref q_text, .int z_typed, .int z_next, .int z_token, .int z_place, .int z_value, .int z_fault, .ref q_weight, .ref q_eats, .ref q_barred, .ref q_laws, .int z_houses, .int z_draftHouses, .ref q_s, .ref q_kept, .ref q_isKept, .ref q_years, .ref q_likely, .ref q_then, .long z_all, .ref q_row, .ref q_best]), (q_eats, aI cy 12 z_eats), (q_laws, aI cy 6 z_laws), (q_s, aI cy 67 z_s)] H → va_D A [(q0, oB 7 [.int (0 : Int32), .long z_trace, .ref q_text, .int z_typed, .int z_next, .int z_token, .int z_place, .int z_value, .int z_fault, .ref q_weight, .ref q_eats, .ref q_barred, .ref q_laws, .int z_houses, .int z_draftHouses, .ref q_s, .ref q_kept, .ref q_isKept, .ref q_years, .ref q_likely, .ref q_then, .long z_all, .ref q_row, .ref q_best]), (q_eats, aI cy 12 z_eats), (q_laws, aI cy 6 z_laws), (q_s, aI cy 67 z_s)] → va_S A s.heap H locs → lv_has ls 3 [] → W p l e rmX7_brings s m args below meth c H locs 0 0 Q (F0 m 60 ls []) := by
        intro H locs ls hf hP hD hS hl
        unfold X7_brings_J60 at hf
        refine lv_bipush (v := -2) hx hb dX7_brings_60 (by decide) ?_
        refine lv_goto (tgt := 71) hx hb dX7_brings_62 (by decide) ?_
        exact hret' _ _ _ _ _ _ _ dX7_brings_71 hf hP hD hS
      refine lv_if_eq (tgt := 60) hx hb dX7_brings_32 (by decide) (fun hc_32 => ?_) (fun hc_32 => ?_)
      · have hf := it_t hf hc_32
        exact hJ60 _ _ _ hf hP hD hS (lv_sub hl [] rfl)
      · have hf := it_f hf hc_32
        refine lv_aload_n hx hb dX7_brings_35 rfl (lv_at hl 0 rfl) ?_
        refine va_get (D := D) (ci := 7) (v := .ref q_s) (C := RX7) (T := TX7) (N := 24) hx hb hts kc1 hown hK hP 0 rfl rfl 15 (by decide) kw2 (fun _ h9 => h9) rfl dX7_brings_36 ?_
        refine lv_bipush (v := 24) hx hb dX7_brings_39 (by decide) ?_
        refine lv_iload_n hx hb dX7_brings_41 rfl (lv_at hl 1 rfl) ?_
        refine lv_iadd hx hb dX7_brings_42 ?_
        obtain ⟨hg_43, hf⟩ := gd_some hf
        refine va_iald hx hb hK hP 3 0 rfl rfl hg_43 dX7_brings_43 ?_
        refine lv_bipush (v := -9) hx hb dX7_brings_44 (by decide) ?_
        refine lv_icmp_ne (tgt := 60) hx hb dX7_brings_46 (by decide) (fun hc_46 => ?_) (fun hc_46 => ?_)
        · have hf := it_f hf hc_46
          exact hJ60 _ _ _ hf hP hD hS (lv_sub hl [] rfl)
        · have hf := it_t hf hc_46
          refine lv_aload_n hx hb dX7_brings_49 rfl (lv_at hl 0 rfl) ?_
          refine va_get (D := D) (ci := 7) (v := .ref q_s) (C := RX7) (T := TX7) (N := 24) hx hb hts kc1 hown hK hP 0 rfl rfl 15 (by decide) kw2 (fun _ h9 => h9) rfl dX7_brings_50 ?_
          refine lv_bipush (v := 58) hx hb dX7_brings_53 (by decide) ?_
          refine va_iald hx hb hK hP 3 0 rfl rfl (by decide : okx (58 : Int32) 67) dX7_brings_55 ?_
          refine lv_iconst (v := 1) hx hb dX7_brings_56 (by decide) ?_
          refine lv_icmp_ne (tgt := 65) hx hb dX7_brings_57 (by decide) (fun hc_57 => ?_) (fun hc_57 => ?_)
          · have hf := it_f hf hc_57
            refine lv_aload_n hx hb dX7_brings_65 rfl (lv_at hl 0 rfl) ?_
            refine lv_iload_n hx hb dX7_brings_66 rfl (lv_at hl 1 rfl) ?_
            refine lv_iload_n hx hb dX7_brings_67 rfl (lv_at hl 2 rfl) ?_
            obtain ⟨r_68, hr_68, hf⟩ := bd_some hf
            refine cl_i (wc := [(q0, oB 7 [.int (0 : Int32), .long z_trace, .ref q_text, .int z_typed, .int z_next, .int z_token, .int z_place, .int z_value, .int z_fault, .ref q_weight, .ref q_eats, .ref q_barred, .ref q_laws, .int z_houses, .int z_draftHouses, .ref q_s, .ref q_kept, .ref q_isKept, .ref q_years, .ref q_likely, .ref q_then, .long z_all, .ref q_row, .ref q_best]), (q_eats, aI cy 12 z_eats), (q_laws, aI cy 6 z_laws), (q_s, aI cy 67 z_s)]) (w1 := [(q0, oB 7 [.int (0 : Int32), .long z_trace, .ref q_text, .int z_typed, .int z_next, .int z_token, .int z_place, .int z_value, .int z_fault, .ref q_weight, .ref q_eats, .ref q_barred, .ref q_laws, .int z_houses, .int z_draftHouses, .ref q_s, .ref q_kept, .ref q_isKept, .ref q_years, .ref q_likely, .ref q_then, .long z_all, .ref q_row, .ref q_best]), (q_eats, aI cy 12 z_eats), (q_laws, aI cy 6 z_laws), (q_s, aI cy 67 r_68.2)]) (wr := []) (w2 := [(q0, oB 7 [.int (0 : Int32), .long z_trace, .ref q_text, .int z_typed, .int z_next, .int z_token, .int z_place, .int z_value, .int z_fault, .ref q_weight, .ref q_eats, .ref q_barred, .ref q_laws, .int z_houses, .int z_draftHouses, .ref q_s, .ref q_kept, .ref q_isKept, .ref q_years, .ref q_likely, .ref q_then, .long z_all, .ref q_row, .ref q_best]), (q_eats, aI cy 12 z_eats), (q_laws, aI cy 6 z_laws), (q_s, aI cy 67 r_68.2)]) (va_runV (As := [.int x1, .int x2]) (rest := []) ⟨hx, hb, hml, hown, hts⟩ (ktX7_bring l D cy q0 q_text q_weight q_eats q_barred q_laws q_s q_kept q_isKept q_years q_likely q_then q_row q_best (0 : Int32) z_trace z_typed z_next z_token z_place z_value z_fault z_houses z_draftHouses z_all z_eats z_laws z_s x1 x2 r_68 hr_68 _) (cwV 2 hts gX7_brings_X7_bring rfl rfl rfl (by decide +kernel) ⟨Nat.le_of_ble_eq_true rfl, Nat.le_of_ble_eq_true rfl⟩) (pre_V (wc := [(q0, oB 7 [.int (0 : Int32), .long z_trace, .ref q_text, .int z_typed, .int z_next, .int z_token, .int z_place, .int z_value, .int z_fault, .ref q_weight, .ref q_eats, .ref q_barred, .ref q_laws, .int z_houses, .int z_draftHouses, .ref q_s, .ref q_kept, .ref q_isKept, .ref q_years, .ref q_likely, .ref q_then, .long z_all, .ref q_row, .ref q_best]), (q_eats, aI cy 12 z_eats), (q_laws, aI cy 6 z_laws), (q_s, aI cy 67 z_s)]) (ci := 7) hcx hsx hS hA hP hD [0, 1, 2, 3] rfl (by decide) rfl rfl) rfl rfl hl.1 rfl (lv_room (Nat.le_of_ble_eq_true rfl)) dX7_brings_68 ⟨Nat.zero_le _, Nat.zero_le _⟩) hP hD hS hA [0, 1, 2, 3] [] [0, 1, 2, 3] rfl rfl (by decide) (by decide) (by decide) rfl (fun H locs hP hD hS => ?_)
            exact hret' _ _ _ _ _ _ _ dX7_brings_71 hf hP hD hS
          · have hf := it_t hf hc_57
            exact hJ60 _ _ _ hf hP hD hS (lv_sub hl [] rfl)
    · have hf := it_t hf hc_17
      refine lv_iconst (v := -1) hx hb dX7_brings_20 (by decide) ?_
      exact hret' _ _ _ _ _ _ _ dX7_brings_21 hf hP hD hS

def X7_broughtBy_J31 (x2_4 : Int32) (x3_4 : Int32) (self_4 : Int32 → Int32 → Option Int32) (t1_31 : Int32) : Option Int32 := lets (x2_4 + t1_31) (fun x2_32 => lets (x3_4 + (1 : Int32)) (fun x3_33 => self_4 x2_32 x3_33))
def X7_broughtBy_S4 (z_houses : Int32) (z_s : Nat → Int32) (x1 : Int32) (self_4 : Int32 → Int32 → Option Int32) (x2_4 : Int32) (x3_4 : Int32) : Option Int32 := if z_houses ≤ x3_4 then (some x2_4) else (gd (okx ((24 : Int32) + x3_4) 67) (if (z_s ((24 : Int32) + x3_4).toNatClampNeg) = x1 then (X7_broughtBy_J31 x2_4 x3_4 self_4 (1 : Int32)) else (X7_broughtBy_J31 x2_4 x3_4 self_4 (0 : Int32))))
def fX7_broughtBy (z_houses : Int32) (z_s : Nat → Int32) (x1 : Int32) : Option Int32 := it2 (X7_broughtBy_S4 z_houses z_s x1) 100000 (0 : Int32) (0 : Int32)
abbrev rmX7_broughtBy : Room := { frames := 0, cells := 0, slots := 0, locals := 0 }
set_option maxHeartbeats 4000000 in
set_option maxRecDepth 100000 in
theorem ktX7_broughtBy (l : Launch) (D : va_G) (cy : Nat → ClassId) (q0 : Nat) (q_text : Nat) (q_weight : Nat) (q_eats : Nat) (q_barred : Nat) (q_laws : Nat) (q_s : Nat) (q_kept : Nat) (q_isKept : Nat) (q_years : Nat) (q_likely : Nat) (q_then : Nat) (q_row : Nat) (q_best : Nat) (z_thrown : Int32) (z_trace : Int64) (z_typed : Int32) (z_next : Int32) (z_token : Int32) (z_place : Int32) (z_value : Int32) (z_fault : Int32) (z_houses : Int32) (z_draftHouses : Int32) (z_all : Int64) (z_s : Nat → Int32) (x1 : Int32) (r : Int32) (hf : fX7_broughtBy z_houses z_s x1 = some r) : CtI l yX7_broughtBy wsX7_broughtBy rmX7_broughtBy D cy [.ref q0, .int x1] [(q0, oB 7 [.int z_thrown, .long z_trace, .ref q_text, .int z_typed, .int z_next, .int z_token, .int z_place, .int z_value, .int z_fault, .ref q_weight, .ref q_eats, .ref q_barred, .ref q_laws, .int z_houses, .int z_draftHouses, .ref q_s, .ref q_kept, .ref q_isKept, .ref q_years, .ref q_likely, .ref q_then, .long z_all, .ref q_row, .ref q_best]), (q_s, aI cy 67 z_s)] [(q0, oB 7 [.int z_thrown, .long z_trace, .ref q_text, .int z_typed, .int z_next, .int z_token, .int z_place, .int z_value, .int z_fault, .ref q_weight, .ref q_eats, .ref q_barred, .ref q_laws, .int z_houses, .int z_draftHouses, .ref q_s, .ref q_kept, .ref q_isKept, .ref q_years, .ref q_likely, .ref q_then, .long z_all, .ref q_row, .ref q_best]), (q_s, aI cy 67 z_s)] r := by
  refine Ct_ofI (cc := cX7_broughtBy) (nL := 4) (by decide) rfl (Nat.le_of_ble_eq_true rfl) ?_
  intro p e s m args below meth c A Q hM hret hP hD hS ls hl
  obtain ⟨hx, hb, hml, hown, hts, hcx, hA, hsx⟩ := hM
  have hown : s.vm.findClass RX7 = some m.cls := hown
  have hK := hcx.1
  have hN := hcx.2
  have kw0 := hts (.fieldLink RX7 122 "EachBringsModel" "houses" "I") (List.mem_of_getElem? (i := 1) rfl)
  have kc1 : ∀ w ∈ wsX70, w ∈ wsX7_broughtBy := fun _ h => List.mem_cons_of_mem _ (List.mem_append_right _ h)
  have kw2 := hts (.fieldLink RX7 25 "EachBringsModel" "s" "[I") (List.mem_of_getElem? (i := 2) rfl)
  have hl : lv_has ls 4 [(0, .ref q0), (1, .int x1)] := hl
  have hret' : ∀ (pc : Nat) (ls : Array Slot) (H : Heap) (locs : List Loc) (v : Int32), decode cX7_broughtBy pc = .ok (.ireturn, 1) → some v = some r → va_P D vwCl [(q0, oB 7 [.int z_thrown, .long z_trace, .ref q_text, .int z_typed, .int z_next, .int z_token, .int z_place, .int z_value, .int z_fault, .ref q_weight, .ref q_eats, .ref q_barred, .ref q_laws, .int z_houses, .int z_draftHouses, .ref q_s, .ref q_kept, .ref q_isKept, .ref q_years, .ref q_likely, .ref q_then, .long z_all, .ref q_row, .ref q_best]), (q_s, aI cy 67 z_s)] H → va_D A [(q0, oB 7 [.int z_thrown, .long z_trace, .ref q_text, .int z_typed, .int z_next, .int z_token, .int z_place, .int z_value, .int z_fault, .ref q_weight, .ref q_eats, .ref q_barred, .ref q_laws, .int z_houses, .int z_draftHouses, .ref q_s, .ref q_kept, .ref q_isKept, .ref q_years, .ref q_likely, .ref q_then, .long z_all, .ref q_row, .ref q_best]), (q_s, aI cy 67 z_s)] → va_S A s.heap H locs → W p l e rmX7_broughtBy s m args below meth c H locs 0 0 Q (F0 m pc ls [.int v]) := by
    intro pc ls H locs v hd he hP hD hS
    cases he
    exact hret _ _ _ _ _ hd rfl hP hD hS
  unfold fX7_broughtBy at hf
  refine lv_iconst (v := 0) hx hb dX7_broughtBy_0 (by decide) ?_
  refine lv_istore_n (lv' := [(2, .int (0 : Int32)), (0, .ref q0), (1, .int x1)]) hx hb dX7_broughtBy_1 rfl hl (by decide) rfl (fun ls hl => ?_)
  refine lv_iconst (v := 0) hx hb dX7_broughtBy_2 (by decide) ?_
  refine lv_istore_n (lv' := [(3, .int (0 : Int32)), (2, .int (0 : Int32)), (0, .ref q0), (1, .int x1)]) hx hb dX7_broughtBy_3 rfl hl (by decide) rfl (fun ls hl => ?_)
  have hL4 : ∀ (n : Nat) (x2_4 : Int32) (x3_4 : Int32) (H : Heap) (locs : List Loc) (ls : Array Slot), it2 (X7_broughtBy_S4 z_houses z_s x1) n x2_4 x3_4 = some r → va_P D vwCl [(q0, oB 7 [.int z_thrown, .long z_trace, .ref q_text, .int z_typed, .int z_next, .int z_token, .int z_place, .int z_value, .int z_fault, .ref q_weight, .ref q_eats, .ref q_barred, .ref q_laws, .int z_houses, .int z_draftHouses, .ref q_s, .ref q_kept, .ref q_isKept, .ref q_years, .ref q_likely, .ref q_then, .long z_all, .ref q_row, .ref q_best]), (q_s, aI cy 67 z_s)] H → va_D A [(q0, oB 7 [.int z_thrown, .long z_trace, .ref q_text, .int z_typed, .int z_next, .int z_token, .int z_place, .int z_value, .int z_fault, .ref q_weight, .ref q_eats, .ref q_barred, .ref q_laws, .int z_houses, .int z_draftHouses, .ref q_s, .ref q_kept, .ref q_isKept, .ref q_years, .ref q_likely, .ref q_then, .long z_all, .ref q_row, .ref q_best]), (q_s, aI cy 67 z_s)] → va_S A s.heap H locs → lv_has ls 4 [(0, .ref q0), (1, .int x1), (2, .int x2_4), (3, .int x3_4)] → W p l e rmX7_broughtBy s m args below meth c H locs 0 0 Q (F0 m 4 ls []) := by
    intro n
    induction n with
    | zero => intro x2_4 x3_4 H locs ls hf; exact absurd hf (by simp [it2])
    | succ n ih4 =>
      intro x2_4 x3_4 H locs ls hf hP hD hS hl
      have hf : X7_broughtBy_S4 z_houses z_s x1 (it2 (X7_broughtBy_S4 z_houses z_s x1) n) x2_4 x3_4 = some r := hf
      generalize it2 (X7_broughtBy_S4 z_houses z_s x1) n = self_4 at hf ih4
      unfold X7_broughtBy_S4 at hf
      refine lv_iload_n hx hb dX7_broughtBy_4 rfl (lv_at hl 3 rfl) ?_
      refine lv_aload_n hx hb dX7_broughtBy_5 rfl (lv_at hl 0 rfl) ?_
      refine va_get (D := D) (ci := 7) (v := .int z_houses) (C := RX7) (T := TX7) (N := 24) hx hb hts kc1 hown hK hP 0 rfl rfl 13 (by decide) kw0 (fun _ h9 => h9) rfl dX7_broughtBy_6 ?_
      refine lv_icmp_ge (tgt := 39) hx hb dX7_broughtBy_9 (by decide) (fun hc_9 => ?_) (fun hc_9 => ?_)
      · have hf := it_t hf hc_9
        refine lv_iload_n hx hb dX7_broughtBy_39 rfl (lv_at hl 2 rfl) ?_
        exact hret' _ _ _ _ _ dX7_broughtBy_40 hf hP hD hS
      · have hf := it_f hf hc_9
        refine lv_iload_n hx hb dX7_broughtBy_12 rfl (lv_at hl 2 rfl) ?_
        refine lv_aload_n hx hb dX7_broughtBy_13 rfl (lv_at hl 0 rfl) ?_
        refine va_get (D := D) (ci := 7) (v := .ref q_s) (C := RX7) (T := TX7) (N := 24) hx hb hts kc1 hown hK hP 0 rfl rfl 15 (by decide) kw2 (fun _ h9 => h9) rfl dX7_broughtBy_14 ?_
        refine lv_bipush (v := 24) hx hb dX7_broughtBy_17 (by decide) ?_
        refine lv_iload_n hx hb dX7_broughtBy_19 rfl (lv_at hl 3 rfl) ?_
        refine lv_iadd hx hb dX7_broughtBy_20 ?_
        obtain ⟨hg_21, hf⟩ := gd_some hf
        refine va_iald hx hb hK hP 1 0 rfl rfl hg_21 dX7_broughtBy_21 ?_
        refine lv_iload_n hx hb dX7_broughtBy_22 rfl (lv_at hl 1 rfl) ?_
        have hJ31 : ∀ (t1_31 : Int32) (H : Heap) (locs : List Loc) (ls : Array Slot), X7_broughtBy_J31 x2_4 x3_4 self_4 t1_31 = some r → va_P D vwCl [(q0, oB 7 [.int z_thrown, .long z_trace, .ref q_text, .int z_typed, .int z_next, .int z_token, .int z_place, .int z_value, .int z_fault, .ref q_weight, .ref q_eats, .ref q_barred, .ref q_laws, .int z_houses, .int z_draftHouses, .ref q_s, .ref q_kept, .ref q_isKept, .ref q_years, .ref q_likely, .ref q_then, .long z_all, .ref q_row, .ref q_best]), (q_s, aI cy 67 z_s)] H → va_D A [(q0, oB 7 [.int z_thrown, .long z_trace, .ref q_text, .int z_typed, .int z_next, .int z_token, .int z_place, .int z_value, .int z_fault, .ref q_weight, .ref q_eats, .ref q_barred, .ref q_laws, .int z_houses, .int z_draftHouses, .ref q_s, .ref q_kept, .ref q_isKept, .ref q_years, .ref q_likely, .ref q_then, .long z_all, .ref q_row, .ref q_best]), (q_s, aI cy 67 z_s)] → va_S A s.heap H locs → lv_has ls 4 [(0, .ref q0), (1, .int x1), (3, .int x3_4)] → W p l e rmX7_broughtBy s m args below meth c H locs 0 0 Q (F0 m 31 ls [.int t1_31, .int x2_4]) := by
          intro t1_31 H locs ls hf hP hD hS hl
          unfold X7_broughtBy_J31 at hf
          refine lv_iadd hx hb dX7_broughtBy_31 ?_
          refine lv_topi (fun x2_32 ex2_32 => ?_)
          have hf := lets_at hf ex2_32
          refine lv_istore_n (lv' := [(2, .int x2_32), (0, .ref q0), (1, .int x1), (3, .int x3_4)]) hx hb dX7_broughtBy_32 rfl hl (by decide) rfl (fun ls hl => ?_)
          obtain ⟨x3_33, ex3_33⟩ : ∃ y : Int32, y = x3_4 + (1 : Int32) := ⟨_, rfl⟩
          have hf := lets_at hf ex3_33
          refine lv_iinc (v := x3_33) (lv' := [(3, .int x3_33), (2, .int x2_32), (0, .ref q0), (1, .int x1)]) hx hb dX7_broughtBy_33 hl (k := 3) rfl (by rw [ex3_33]; rfl) (by decide) rfl (fun ls hl => ?_)
          refine lv_goto (tgt := 4) hx hb dX7_broughtBy_36 (by decide) ?_
          exact ih4 x2_32 x3_33 _ _ _ hf hP hD hS (lv_sub hl [2, 3, 1, 0] rfl)
        refine lv_icmp_ne (tgt := 30) hx hb dX7_broughtBy_23 (by decide) (fun hc_23 => ?_) (fun hc_23 => ?_)
        · have hf := it_f hf hc_23
          refine lv_iconst (v := 0) hx hb dX7_broughtBy_30 (by decide) ?_
          exact hJ31 (0 : Int32) _ _ _ hf hP hD hS (lv_sub hl [0, 1, 3] rfl)
        · have hf := it_t hf hc_23
          refine lv_iconst (v := 1) hx hb dX7_broughtBy_26 (by decide) ?_
          refine lv_goto (tgt := 31) hx hb dX7_broughtBy_27 (by decide) ?_
          exact hJ31 (1 : Int32) _ _ _ hf hP hD hS (lv_sub hl [0, 1, 3] rfl)
  exact hL4 _ (0 : Int32) (0 : Int32) _ _ _ hf hP hD hS (lv_sub hl [2, 3, 1, 0] rfl)

def X7_drawn_S46 (x1 : Int32) (z_s_20 : Nat → Int32) (x2_40 : Int32) (self_46 : Int32 → Int32 → Option (Int32 × (Nat → Int32))) (x3_46 : Int32) (x4_46 : Int32) : Option (Int32 × (Nat → Int32)) := if (4 : Int32) ≤ x4_46 then (some ((-9 : Int32), z_s_20)) else (gd (okx (((4 : Int32) * x1) + x4_46) 67) (lets (x3_46 + (z_s_20 (((4 : Int32) * x1) + x4_46).toNatClampNeg)) (fun x3_65 => if x3_65 ≤ x2_40 then (lets (x4_46 + (1 : Int32)) (fun x4_74 => self_46 x3_65 x4_74)) else (some (x4_46, z_s_20)))))
def fX7_drawn (z_s : Nat → Int32) (x1 : Int32) : Option (Int32 × (Nat → Int32)) := lets (upd z_s (66 : Int32).toNatClampNeg (((z_s (66 : Int32).toNatClampNeg) * (1103515245 : Int32)) + (12345 : Int32))) (fun z_s_20 => (fX7_weightsOf z_s_20 x1).bind (fun r_36 => gd (¬ r_36 = 0) (lets ((((z_s_20 (66 : Int32).toNatClampNeg) >>> ((16 : Int32) &&& 31)) &&& (65535 : Int32)) - (((z_s_20 (66 : Int32).toNatClampNeg) >>> ((16 : Int32) &&& 31)) &&& (65535 : Int32)) / r_36 * r_36) (fun x2_40 => it2 (X7_drawn_S46 x1 z_s_20 x2_40) 100000 (0 : Int32) (0 : Int32)))))
abbrev rmX7_drawn : Room := { frames := 1, cells := 0, slots := 0, locals := 21 }
set_option maxHeartbeats 4000000 in
set_option maxRecDepth 100000 in
theorem ktX7_drawn (l : Launch) (D : va_G) (cy : Nat → ClassId) (q0 : Nat) (q_text : Nat) (q_weight : Nat) (q_eats : Nat) (q_barred : Nat) (q_laws : Nat) (q_s : Nat) (q_kept : Nat) (q_isKept : Nat) (q_years : Nat) (q_likely : Nat) (q_then : Nat) (q_row : Nat) (q_best : Nat) (z_thrown : Int32) (z_trace : Int64) (z_typed : Int32) (z_next : Int32) (z_token : Int32) (z_place : Int32) (z_value : Int32) (z_fault : Int32) (z_houses : Int32) (z_draftHouses : Int32) (z_all : Int64) (z_s : Nat → Int32) (x1 : Int32) (r : Int32 × (Nat → Int32)) (hf : fX7_drawn z_s x1 = some r) : CtI l yX7_drawn wsX7_drawn rmX7_drawn D cy [.ref q0, .int x1] [(q0, oB 7 [.int z_thrown, .long z_trace, .ref q_text, .int z_typed, .int z_next, .int z_token, .int z_place, .int z_value, .int z_fault, .ref q_weight, .ref q_eats, .ref q_barred, .ref q_laws, .int z_houses, .int z_draftHouses, .ref q_s, .ref q_kept, .ref q_isKept, .ref q_years, .ref q_likely, .ref q_then, .long z_all, .ref q_row, .ref q_best]), (q_s, aI cy 67 z_s)] [(q0, oB 7 [.int z_thrown, .long z_trace, .ref q_text, .int z_typed, .int z_next, .int z_token, .int z_place, .int z_value, .int z_fault, .ref q_weight, .ref q_eats, .ref q_barred, .ref q_laws, .int z_houses, .int z_draftHouses, .ref q_s, .ref q_kept, .ref q_isKept, .ref q_years, .ref q_likely, .ref q_then, .long z_all, .ref q_row, .ref q_best]), (q_s, aI cy 67 r.2)] r.1 := by
  refine Ct_ofI (cc := cX7_drawn) (nL := 5) (by decide) rfl (Nat.le_of_ble_eq_true rfl) ?_
  intro p e s m args below meth c A Q hM hret hP hD hS ls hl
  obtain ⟨hx, hb, hml, hown, hts, hcx, hA, hsx⟩ := hM
  have hown : s.vm.findClass RX7 = some m.cls := hown
  have hK := hcx.1
  have hN := hcx.2
  have kw0 := hts (.fieldLink RX7 25 "EachBringsModel" "s" "[I") (List.mem_of_getElem? (i := 1) rfl)
  have kc1 : ∀ w ∈ wsX70, w ∈ wsX7_drawn := fun _ h => List.mem_cons_of_mem _ (List.mem_append_right _ h)
  have kw2 := hts (.constant RX7 138 (1103515245)) (List.mem_of_getElem? (i := 2) rfl)
  have kw3 := hts (.constant RX7 139 (65535)) (List.mem_of_getElem? (i := 3) rfl)
  have hl : lv_has ls 5 [(0, .ref q0), (1, .int x1)] := hl
  have hret' : ∀ (pc : Nat) (ls : Array Slot) (H : Heap) (locs : List Loc) (v : Int32) (w0 : Nat → Int32), decode cX7_drawn pc = .ok (.ireturn, 1) → some (v, w0) = some r → va_P D vwCl [(q0, oB 7 [.int z_thrown, .long z_trace, .ref q_text, .int z_typed, .int z_next, .int z_token, .int z_place, .int z_value, .int z_fault, .ref q_weight, .ref q_eats, .ref q_barred, .ref q_laws, .int z_houses, .int z_draftHouses, .ref q_s, .ref q_kept, .ref q_isKept, .ref q_years, .ref q_likely, .ref q_then, .long z_all, .ref q_row, .ref q_best]), (q_s, aI cy 67 w0)] H → va_D A [(q0, oB 7 [.int z_thrown, .long z_trace, .ref q_text, .int z_typed, .int z_next, .int z_token, .int z_place, .int z_value, .int z_fault, .ref q_weight, .ref q_eats, .ref q_barred, .ref q_laws, .int z_houses, .int z_draftHouses, .ref q_s, .ref q_kept, .ref q_isKept, .ref q_years, .ref q_likely, .ref q_then, .long z_all, .ref q_row, .ref q_best]), (q_s, aI cy 67 w0)] → va_S A s.heap H locs → W p l e rmX7_drawn s m args below meth c H locs 0 0 Q (F0 m pc ls [.int v]) := by
    intro pc ls H locs v w0 hd he hP hD hS
    cases he
    exact hret _ _ _ _ _ hd rfl hP hD hS
  unfold fX7_drawn at hf
  refine lv_aload_n hx hb dX7_drawn_0 rfl (lv_at hl 0 rfl) ?_
  refine va_get (D := D) (ci := 7) (v := .ref q_s) (C := RX7) (T := TX7) (N := 24) hx hb hts kc1 hown hK hP 0 rfl rfl 15 (by decide) kw0 (fun _ h9 => h9) rfl dX7_drawn_1 ?_
  refine lv_bipush (v := 66) hx hb dX7_drawn_4 (by decide) ?_
  refine lv_aload_n hx hb dX7_drawn_6 rfl (lv_at hl 0 rfl) ?_
  refine va_get (D := D) (ci := 7) (v := .ref q_s) (C := RX7) (T := TX7) (N := 24) hx hb hts kc1 hown hK hP 0 rfl rfl 15 (by decide) kw0 (fun _ h9 => h9) rfl dX7_drawn_7 ?_
  refine lv_bipush (v := 66) hx hb dX7_drawn_10 (by decide) ?_
  refine va_iald hx hb hK hP 1 0 rfl rfl (by decide : okx (66 : Int32) 67) dX7_drawn_12 ?_
  refine lv_ldc (v := 1103515245) hx hb hown kw2 dX7_drawn_13 ?_
  refine lv_imul hx hb dX7_drawn_15 ?_
  refine lv_sipush (v := 12345) hx hb dX7_drawn_16 (by decide) ?_
  refine lv_iadd hx hb dX7_drawn_19 ?_
  refine va_iast hx hb hK hP hD hS 1 0 rfl rfl (by decide : okx (66 : Int32) 67) dX7_drawn_20 (fun H locs hP hD hS => ?_)
  obtain ⟨z_s_20, ez_s_20⟩ : ∃ y : Nat → Int32, y = upd z_s (66 : Int32).toNatClampNeg (((z_s (66 : Int32).toNatClampNeg) * (1103515245 : Int32)) + (12345 : Int32)) := ⟨_, rfl⟩
  have hf := lets_at hf ez_s_20
  rw [← ez_s_20] at hP hD
  have hP : va_P D vwCl [(q0, oB 7 [.int z_thrown, .long z_trace, .ref q_text, .int z_typed, .int z_next, .int z_token, .int z_place, .int z_value, .int z_fault, .ref q_weight, .ref q_eats, .ref q_barred, .ref q_laws, .int z_houses, .int z_draftHouses, .ref q_s, .ref q_kept, .ref q_isKept, .ref q_years, .ref q_likely, .ref q_then, .long z_all, .ref q_row, .ref q_best]), (q_s, aI cy 67 z_s_20)] H := hP
  have hD : va_D A [(q0, oB 7 [.int z_thrown, .long z_trace, .ref q_text, .int z_typed, .int z_next, .int z_token, .int z_place, .int z_value, .int z_fault, .ref q_weight, .ref q_eats, .ref q_barred, .ref q_laws, .int z_houses, .int z_draftHouses, .ref q_s, .ref q_kept, .ref q_isKept, .ref q_years, .ref q_likely, .ref q_then, .long z_all, .ref q_row, .ref q_best]), (q_s, aI cy 67 z_s_20)] := hD
  refine lv_aload_n hx hb dX7_drawn_21 rfl (lv_at hl 0 rfl) ?_
  refine va_get (D := D) (ci := 7) (v := .ref q_s) (C := RX7) (T := TX7) (N := 24) hx hb hts kc1 hown hK hP 0 rfl rfl 15 (by decide) kw0 (fun _ h9 => h9) rfl dX7_drawn_22 ?_
  refine lv_bipush (v := 66) hx hb dX7_drawn_25 (by decide) ?_
  refine va_iald hx hb hK hP 1 0 rfl rfl (by decide : okx (66 : Int32) 67) dX7_drawn_27 ?_
  refine lv_bipush (v := 16) hx hb dX7_drawn_28 (by decide) ?_
  refine lv_ishr hx hb dX7_drawn_30 ?_
  refine lv_ldc (v := 65535) hx hb hown kw3 dX7_drawn_31 ?_
  refine lv_iand hx hb dX7_drawn_33 ?_
  refine lv_aload_n hx hb dX7_drawn_34 rfl (lv_at hl 0 rfl) ?_
  refine lv_iload_n hx hb dX7_drawn_35 rfl (lv_at hl 1 rfl) ?_
  obtain ⟨r_36, hr_36, hf⟩ := bd_some hf
  refine cl_i (wc := [(q0, oB 7 [.int z_thrown, .long z_trace, .ref q_text, .int z_typed, .int z_next, .int z_token, .int z_place, .int z_value, .int z_fault, .ref q_weight, .ref q_eats, .ref q_barred, .ref q_laws, .int z_houses, .int z_draftHouses, .ref q_s, .ref q_kept, .ref q_isKept, .ref q_years, .ref q_likely, .ref q_then, .long z_all, .ref q_row, .ref q_best]), (q_s, aI cy 67 z_s_20)]) (w1 := [(q0, oB 7 [.int z_thrown, .long z_trace, .ref q_text, .int z_typed, .int z_next, .int z_token, .int z_place, .int z_value, .int z_fault, .ref q_weight, .ref q_eats, .ref q_barred, .ref q_laws, .int z_houses, .int z_draftHouses, .ref q_s, .ref q_kept, .ref q_isKept, .ref q_years, .ref q_likely, .ref q_then, .long z_all, .ref q_row, .ref q_best]), (q_s, aI cy 67 z_s_20)]) (wr := []) (w2 := [(q0, oB 7 [.int z_thrown, .long z_trace, .ref q_text, .int z_typed, .int z_next, .int z_token, .int z_place, .int z_value, .int z_fault, .ref q_weight, .ref q_eats, .ref q_barred, .ref q_laws, .int z_houses, .int z_draftHouses, .ref q_s, .ref q_kept, .ref q_isKept, .ref q_years, .ref q_likely, .ref q_then, .long z_all, .ref q_row, .ref q_best]), (q_s, aI cy 67 z_s_20)]) (va_runV (As := [.int x1]) (rest := [.int (((z_s_20 (66 : Int32).toNatClampNeg) >>> ((16 : Int32) &&& 31)) &&& (65535 : Int32))]) ⟨hx, hb, hml, hown, hts⟩ (ktX7_weightsOf l D cy q0 q_text q_weight q_eats q_barred q_laws q_s q_kept q_isKept q_years q_likely q_then q_row q_best z_thrown z_trace z_typed z_next z_token z_place z_value z_fault z_houses z_draftHouses z_all z_s_20 x1 r_36 hr_36 _) (cwV 1 hts gX7_drawn_X7_weightsOf rfl rfl rfl (by decide +kernel) ⟨Nat.le_of_ble_eq_true rfl, Nat.le_of_ble_eq_true rfl⟩) (pre_V (wc := [(q0, oB 7 [.int z_thrown, .long z_trace, .ref q_text, .int z_typed, .int z_next, .int z_token, .int z_place, .int z_value, .int z_fault, .ref q_weight, .ref q_eats, .ref q_barred, .ref q_laws, .int z_houses, .int z_draftHouses, .ref q_s, .ref q_kept, .ref q_isKept, .ref q_years, .ref q_likely, .ref q_then, .long z_all, .ref q_row, .ref q_best]), (q_s, aI cy 67 z_s_20)]) (ci := 7) hcx hsx hS hA hP hD [0, 1] rfl (by decide) rfl rfl) rfl rfl hl.1 rfl (lv_room (Nat.le_of_ble_eq_true rfl)) dX7_drawn_36 ⟨Nat.zero_le _, Nat.zero_le _⟩) hP hD hS hA [0, 1] [] [0, 1] rfl rfl (by decide) (by decide) (by decide) rfl (fun H locs hP hD hS => ?_)
  obtain ⟨hg_39, hf⟩ := gd_some hf
  refine lv_irem hx hb dX7_drawn_39 hg_39 ?_
  refine lv_topi (fun x2_40 ex2_40 => ?_)
  have hf := lets_at hf ex2_40
  refine lv_istore_n (lv' := [(2, .int x2_40), (0, .ref q0), (1, .int x1)]) hx hb dX7_drawn_40 rfl hl (by decide) rfl (fun ls hl => ?_)
  refine lv_iconst (v := 0) hx hb dX7_drawn_41 (by decide) ?_
  refine lv_istore_n (lv' := [(3, .int (0 : Int32)), (2, .int x2_40), (0, .ref q0), (1, .int x1)]) hx hb dX7_drawn_42 rfl hl (by decide) rfl (fun ls hl => ?_)
  refine lv_iconst (v := 0) hx hb dX7_drawn_43 (by decide) ?_
  refine lv_istore (lv' := [(4, .int (0 : Int32)), (3, .int (0 : Int32)), (2, .int x2_40), (0, .ref q0), (1, .int x1)]) hx hb dX7_drawn_44 hl (by decide) rfl (fun ls hl => ?_)
  have hL46 : ∀ (n : Nat) (x3_46 : Int32) (x4_46 : Int32) (H : Heap) (locs : List Loc) (ls : Array Slot), it2 (X7_drawn_S46 x1 z_s_20 x2_40) n x3_46 x4_46 = some r → va_P D vwCl [(q0, oB 7 [.int z_thrown, .long z_trace, .ref q_text, .int z_typed, .int z_next, .int z_token, .int z_place, .int z_value, .int z_fault, .ref q_weight, .ref q_eats, .ref q_barred, .ref q_laws, .int z_houses, .int z_draftHouses, .ref q_s, .ref q_kept, .ref q_isKept, .ref q_years, .ref q_likely, .ref q_then, .long z_all, .ref q_row, .ref q_best]), (q_s, aI cy 67 z_s_20)] H → va_D A [(q0, oB 7 [.int z_thrown, .long z_trace, .ref q_text, .int z_typed, .int z_next, .int z_token, .int z_place, .int z_value, .int z_fault, .ref q_weight, .ref q_eats, .ref q_barred, .ref q_laws, .int z_houses, .int z_draftHouses, .ref q_s, .ref q_kept, .ref q_isKept, .ref q_years, .ref q_likely, .ref q_then, .long z_all, .ref q_row, .ref q_best]), (q_s, aI cy 67 z_s_20)] → va_S A s.heap H locs → lv_has ls 5 [(0, .ref q0), (1, .int x1), (2, .int x2_40), (3, .int x3_46), (4, .int x4_46)] → W p l e rmX7_drawn s m args below meth c H locs 0 0 Q (F0 m 46 ls []) := by
    intro n
    induction n with
    | zero => intro x3_46 x4_46 H locs ls hf; exact absurd hf (by simp [it2])
    | succ n ih46 =>
      intro x3_46 x4_46 H locs ls hf hP hD hS hl
      have hf : X7_drawn_S46 x1 z_s_20 x2_40 (it2 (X7_drawn_S46 x1 z_s_20 x2_40) n) x3_46 x4_46 = some r := hf
      generalize it2 (X7_drawn_S46 x1 z_s_20 x2_40) n = self_46 at hf ih46
      unfold X7_drawn_S46 at hf
      refine lv_iload hx hb dX7_drawn_46 (lv_at hl 4 rfl) ?_
      refine lv_iconst (v := 4) hx hb dX7_drawn_48 (by decide) ?_
      refine lv_icmp_ge (tgt := 80) hx hb dX7_drawn_49 (by decide) (fun hc_49 => ?_) (fun hc_49 => ?_)
      · have hf := it_t hf hc_49
        refine lv_bipush (v := -9) hx hb dX7_drawn_80 (by decide) ?_
        exact hret' _ _ _ _ _ _ dX7_drawn_82 hf hP hD hS
      · have hf := it_f hf hc_49
        refine lv_iload_n hx hb dX7_drawn_52 rfl (lv_at hl 3 rfl) ?_
        refine lv_aload_n hx hb dX7_drawn_53 rfl (lv_at hl 0 rfl) ?_
        refine va_get (D := D) (ci := 7) (v := .ref q_s) (C := RX7) (T := TX7) (N := 24) hx hb hts kc1 hown hK hP 0 rfl rfl 15 (by decide) kw0 (fun _ h9 => h9) rfl dX7_drawn_54 ?_
        refine lv_iconst (v := 4) hx hb dX7_drawn_57 (by decide) ?_
        refine lv_iload_n hx hb dX7_drawn_58 rfl (lv_at hl 1 rfl) ?_
        refine lv_imul hx hb dX7_drawn_59 ?_
        refine lv_iload hx hb dX7_drawn_60 (lv_at hl 4 rfl) ?_
        refine lv_iadd hx hb dX7_drawn_62 ?_
        obtain ⟨hg_63, hf⟩ := gd_some hf
        refine va_iald hx hb hK hP 1 0 rfl rfl hg_63 dX7_drawn_63 ?_
        refine lv_iadd hx hb dX7_drawn_64 ?_
        refine lv_topi (fun x3_65 ex3_65 => ?_)
        have hf := lets_at hf ex3_65
        refine lv_istore_n (lv' := [(3, .int x3_65), (0, .ref q0), (1, .int x1), (2, .int x2_40), (4, .int x4_46)]) hx hb dX7_drawn_65 rfl hl (by decide) rfl (fun ls hl => ?_)
        refine lv_iload_n hx hb dX7_drawn_66 rfl (lv_at hl 0 rfl) ?_
        refine lv_iload_n hx hb dX7_drawn_67 rfl (lv_at hl 3 rfl) ?_
        refine lv_icmp_le (tgt := 74) hx hb dX7_drawn_68 (by decide) (fun hc_68 => ?_) (fun hc_68 => ?_)
        · have hf := it_t hf hc_68
          obtain ⟨x4_74, ex4_74⟩ : ∃ y : Int32, y = x4_46 + (1 : Int32) := ⟨_, rfl⟩
          have hf := lets_at hf ex4_74
          refine lv_iinc (v := x4_74) (lv' := [(4, .int x4_74), (3, .int x3_65), (0, .ref q0), (1, .int x1), (2, .int x2_40)]) hx hb dX7_drawn_74 hl (k := 4) rfl (by rw [ex4_74]; rfl) (by decide) rfl (fun ls hl => ?_)
          refine lv_goto (tgt := 46) hx hb dX7_drawn_77 (by decide) ?_
          exact ih46 x3_65 x4_74 _ _ _ hf hP hD hS (lv_sub hl [2, 3, 4, 1, 0] rfl)
        · have hf := it_f hf hc_68
          refine lv_iload hx hb dX7_drawn_71 (lv_at hl 4 rfl) ?_
          exact hret' _ _ _ _ _ _ dX7_drawn_73 hf hP hD hS
  exact hL46 _ (0 : Int32) (0 : Int32) _ _ _ hf hP hD hS (lv_sub hl [3, 4, 2, 1, 0] rfl)

def X7_byLetters_S4 (z_s : Nat → Int32) (x1 : Int32) (self_4 : Int32 → Option Int32) (x2_4 : Int32) : Option Int32 := gd (okx (((4 : Int32) * x1) + x2_4) 67) (if (z_s (((4 : Int32) * x1) + x2_4).toNatClampNeg) = 0 then (lets ((x2_4 + (1 : Int32)) - (x2_4 + (1 : Int32)) / (4 : Int32) * (4 : Int32)) (fun x2_22 => self_4 x2_22)) else (some x2_4))
def fX7_byLetters (z_s : Nat → Int32) (x1 : Int32) : Option Int32 := lets (x1 - x1 / (4 : Int32) * (4 : Int32)) (fun x2_3 => it1 (X7_byLetters_S4 z_s x1) 100000 x2_3)
abbrev rmX7_byLetters : Room := { frames := 0, cells := 0, slots := 0, locals := 0 }
set_option maxHeartbeats 4000000 in
set_option maxRecDepth 100000 in
theorem ktX7_byLetters (l : Launch) (D : va_G) (cy : Nat → ClassId) (q0 : Nat) (q_text : Nat) (q_weight : Nat) (q_eats : Nat) (q_barred : Nat) (q_laws : Nat) (q_s : Nat) (q_kept : Nat) (q_isKept : Nat) (q_years : Nat) (q_likely : Nat) (q_then : Nat) (q_row : Nat) (q_best : Nat) (z_thrown : Int32) (z_trace : Int64) (z_typed : Int32) (z_next : Int32) (z_token : Int32) (z_place : Int32) (z_value : Int32) (z_fault : Int32) (z_houses : Int32) (z_draftHouses : Int32) (z_all : Int64) (z_s : Nat → Int32) (x1 : Int32) (r : Int32) (hf : fX7_byLetters z_s x1 = some r) : CtI l yX7_byLetters wsX7_byLetters rmX7_byLetters D cy [.ref q0, .int x1] [(q0, oB 7 [.int z_thrown, .long z_trace, .ref q_text, .int z_typed, .int z_next, .int z_token, .int z_place, .int z_value, .int z_fault, .ref q_weight, .ref q_eats, .ref q_barred, .ref q_laws, .int z_houses, .int z_draftHouses, .ref q_s, .ref q_kept, .ref q_isKept, .ref q_years, .ref q_likely, .ref q_then, .long z_all, .ref q_row, .ref q_best]), (q_s, aI cy 67 z_s)] [(q0, oB 7 [.int z_thrown, .long z_trace, .ref q_text, .int z_typed, .int z_next, .int z_token, .int z_place, .int z_value, .int z_fault, .ref q_weight, .ref q_eats, .ref q_barred, .ref q_laws, .int z_houses, .int z_draftHouses, .ref q_s, .ref q_kept, .ref q_isKept, .ref q_years, .ref q_likely, .ref q_then, .long z_all, .ref q_row, .ref q_best]), (q_s, aI cy 67 z_s)] r := by
  refine Ct_ofI (cc := cX7_byLetters) (nL := 3) (by decide) rfl (Nat.le_of_ble_eq_true rfl) ?_
  intro p e s m args below meth c A Q hM hret hP hD hS ls hl
  obtain ⟨hx, hb, hml, hown, hts, hcx, hA, hsx⟩ := hM
  have hown : s.vm.findClass RX7 = some m.cls := hown
  have hK := hcx.1
  have hN := hcx.2
  have kw0 := hts (.fieldLink RX7 25 "EachBringsModel" "s" "[I") (List.mem_of_getElem? (i := 1) rfl)
  have kc1 : ∀ w ∈ wsX70, w ∈ wsX7_byLetters := fun _ h => List.mem_cons_of_mem _ (List.mem_append_right _ h)
  have hl : lv_has ls 3 [(0, .ref q0), (1, .int x1)] := hl
  have hret' : ∀ (pc : Nat) (ls : Array Slot) (H : Heap) (locs : List Loc) (v : Int32), decode cX7_byLetters pc = .ok (.ireturn, 1) → some v = some r → va_P D vwCl [(q0, oB 7 [.int z_thrown, .long z_trace, .ref q_text, .int z_typed, .int z_next, .int z_token, .int z_place, .int z_value, .int z_fault, .ref q_weight, .ref q_eats, .ref q_barred, .ref q_laws, .int z_houses, .int z_draftHouses, .ref q_s, .ref q_kept, .ref q_isKept, .ref q_years, .ref q_likely, .ref q_then, .long z_all, .ref q_row, .ref q_best]), (q_s, aI cy 67 z_s)] H → va_D A [(q0, oB 7 [.int z_thrown, .long z_trace, .ref q_text, .int z_typed, .int z_next, .int z_token, .int z_place, .int z_value, .int z_fault, .ref q_weight, .ref q_eats, .ref q_barred, .ref q_laws, .int z_houses, .int z_draftHouses, .ref q_s, .ref q_kept, .ref q_isKept, .ref q_years, .ref q_likely, .ref q_then, .long z_all, .ref q_row, .ref q_best]), (q_s, aI cy 67 z_s)] → va_S A s.heap H locs → W p l e rmX7_byLetters s m args below meth c H locs 0 0 Q (F0 m pc ls [.int v]) := by
    intro pc ls H locs v hd he hP hD hS
    cases he
    exact hret _ _ _ _ _ hd rfl hP hD hS
  unfold fX7_byLetters at hf
  refine lv_iload_n hx hb dX7_byLetters_0 rfl (lv_at hl 1 rfl) ?_
  refine lv_iconst (v := 4) hx hb dX7_byLetters_1 (by decide) ?_
  refine lv_irem hx hb dX7_byLetters_2 (by decide) ?_
  refine lv_topi (fun x2_3 ex2_3 => ?_)
  have hf := lets_at hf ex2_3
  refine lv_istore_n (lv' := [(2, .int x2_3), (0, .ref q0), (1, .int x1)]) hx hb dX7_byLetters_3 rfl hl (by decide) rfl (fun ls hl => ?_)
  have hL4 : ∀ (n : Nat) (x2_4 : Int32) (H : Heap) (locs : List Loc) (ls : Array Slot), it1 (X7_byLetters_S4 z_s x1) n x2_4 = some r → va_P D vwCl [(q0, oB 7 [.int z_thrown, .long z_trace, .ref q_text, .int z_typed, .int z_next, .int z_token, .int z_place, .int z_value, .int z_fault, .ref q_weight, .ref q_eats, .ref q_barred, .ref q_laws, .int z_houses, .int z_draftHouses, .ref q_s, .ref q_kept, .ref q_isKept, .ref q_years, .ref q_likely, .ref q_then, .long z_all, .ref q_row, .ref q_best]), (q_s, aI cy 67 z_s)] H → va_D A [(q0, oB 7 [.int z_thrown, .long z_trace, .ref q_text, .int z_typed, .int z_next, .int z_token, .int z_place, .int z_value, .int z_fault, .ref q_weight, .ref q_eats, .ref q_barred, .ref q_laws, .int z_houses, .int z_draftHouses, .ref q_s, .ref q_kept, .ref q_isKept, .ref q_years, .ref q_likely, .ref q_then, .long z_all, .ref q_row, .ref q_best]), (q_s, aI cy 67 z_s)] → va_S A s.heap H locs → lv_has ls 3 [(0, .ref q0), (1, .int x1), (2, .int x2_4)] → W p l e rmX7_byLetters s m args below meth c H locs 0 0 Q (F0 m 4 ls []) := by
    intro n
    induction n with
    | zero => intro x2_4 H locs ls hf; exact absurd hf (by simp [it1])
    | succ n ih4 =>
      intro x2_4 H locs ls hf hP hD hS hl
      have hf : X7_byLetters_S4 z_s x1 (it1 (X7_byLetters_S4 z_s x1) n) x2_4 = some r := hf
      generalize it1 (X7_byLetters_S4 z_s x1) n = self_4 at hf ih4
      unfold X7_byLetters_S4 at hf
      refine lv_aload_n hx hb dX7_byLetters_4 rfl (lv_at hl 0 rfl) ?_
      refine va_get (D := D) (ci := 7) (v := .ref q_s) (C := RX7) (T := TX7) (N := 24) hx hb hts kc1 hown hK hP 0 rfl rfl 15 (by decide) kw0 (fun _ h9 => h9) rfl dX7_byLetters_5 ?_
      refine lv_iconst (v := 4) hx hb dX7_byLetters_8 (by decide) ?_
      refine lv_iload_n hx hb dX7_byLetters_9 rfl (lv_at hl 1 rfl) ?_
      refine lv_imul hx hb dX7_byLetters_10 ?_
      refine lv_iload_n hx hb dX7_byLetters_11 rfl (lv_at hl 2 rfl) ?_
      refine lv_iadd hx hb dX7_byLetters_12 ?_
      obtain ⟨hg_13, hf⟩ := gd_some hf
      refine va_iald hx hb hK hP 1 0 rfl rfl hg_13 dX7_byLetters_13 ?_
      refine lv_if_ne (tgt := 26) hx hb dX7_byLetters_14 (by decide) (fun hc_14 => ?_) (fun hc_14 => ?_)
      · have hf := it_f hf hc_14
        refine lv_iload_n hx hb dX7_byLetters_26 rfl (lv_at hl 2 rfl) ?_
        exact hret' _ _ _ _ _ dX7_byLetters_27 hf hP hD hS
      · have hf := it_t hf hc_14
        refine lv_iload_n hx hb dX7_byLetters_17 rfl (lv_at hl 2 rfl) ?_
        refine lv_iconst (v := 1) hx hb dX7_byLetters_18 (by decide) ?_
        refine lv_iadd hx hb dX7_byLetters_19 ?_
        refine lv_iconst (v := 4) hx hb dX7_byLetters_20 (by decide) ?_
        refine lv_irem hx hb dX7_byLetters_21 (by decide) ?_
        refine lv_topi (fun x2_22 ex2_22 => ?_)
        have hf := lets_at hf ex2_22
        refine lv_istore_n (lv' := [(2, .int x2_22), (0, .ref q0), (1, .int x1)]) hx hb dX7_byLetters_22 rfl hl (by decide) rfl (fun ls hl => ?_)
        refine lv_goto (tgt := 4) hx hb dX7_byLetters_23 (by decide) ?_
        exact ih4 x2_22 _ _ _ hf hP hD hS (lv_sub hl [1, 2, 0] rfl)
  exact hL4 _ x2_3 _ _ _ hf hP hD hS (lv_sub hl [1, 2, 0] rfl)

def X7_byBoard_J90 (x3_5 : Int32) (self_5 : Int32 → Int32 → Option Int32) (x2_90 : Int32) : Option Int32 := lets (x3_5 + (-1 : Int32)) (fun x3_90 => self_5 x2_90 x3_90)
def X7_byBoard_J89 (x3_5 : Int32) (self_5 : Int32 → Int32 → Option Int32) (t0_89 : Int32) : Option Int32 := X7_byBoard_J90 x3_5 self_5 t0_89
def X7_byBoard_J84 (x3_5 : Int32) (self_5 : Int32 → Int32 → Option Int32) : Option Int32 := X7_byBoard_J89 x3_5 self_5 x3_5
def X7_byBoard_J88 (x2_5 : Int32) (x3_5 : Int32) (self_5 : Int32 → Int32 → Option Int32) : Option Int32 := X7_byBoard_J89 x3_5 self_5 x2_5
def X7_byBoard_J43 (z_s : Nat → Int32) (x1 : Int32) (x2_5 : Int32) (x3_5 : Int32) (self_5 : Int32 → Int32 → Option Int32) (t0_43 : Int32) : Option Int32 := if x2_5 = (-9 : Int32) then (X7_byBoard_J84 x3_5 self_5) else (if t0_43 < 0 then (X7_byBoard_J84 x3_5 self_5) else (if t0_43 = 0 then (gd (okx (((4 : Int32) * x1) + x3_5) 67) (gd (okx (((4 : Int32) * x1) + x2_5) 67) (if (z_s (((4 : Int32) * x1) + x3_5).toNatClampNeg) < (z_s (((4 : Int32) * x1) + x2_5).toNatClampNeg) then (X7_byBoard_J88 x2_5 x3_5 self_5) else (X7_byBoard_J84 x3_5 self_5)))) else (X7_byBoard_J88 x2_5 x3_5 self_5)))
def X7_byBoard_S5 (z_houses : Int32) (z_s : Nat → Int32) (x1 : Int32) (self_5 : Int32 → Int32 → Option Int32) (x2_5 : Int32) (x3_5 : Int32) : Option Int32 := if x3_5 < 0 then (some x2_5) else (gd (okx (((4 : Int32) * x1) + x3_5) 67) (if (z_s (((4 : Int32) * x1) + x3_5).toNatClampNeg) ≤ 0 then (X7_byBoard_J90 x3_5 self_5 x2_5) else (if x2_5 = (-9 : Int32) then (X7_byBoard_J43 z_s x1 x2_5 x3_5 self_5 (0 : Int32)) else ((fX7_broughtBy z_houses z_s x3_5).bind (fun r_34 => (fX7_broughtBy z_houses z_s x2_5).bind (fun r_39 => X7_byBoard_J43 z_s x1 x2_5 x3_5 self_5 (r_34 - r_39)))))))
def fX7_byBoard (z_houses : Int32) (z_s : Nat → Int32) (x1 : Int32) : Option Int32 := it2 (X7_byBoard_S5 z_houses z_s x1) 100000 (-9 : Int32) (3 : Int32)
abbrev rmX7_byBoard : Room := { frames := 1, cells := 0, slots := 0, locals := 23 }
set_option maxHeartbeats 4000000 in
set_option maxRecDepth 100000 in
theorem ktX7_byBoard (l : Launch) (D : va_G) (cy : Nat → ClassId) (q0 : Nat) (q_text : Nat) (q_weight : Nat) (q_eats : Nat) (q_barred : Nat) (q_laws : Nat) (q_s : Nat) (q_kept : Nat) (q_isKept : Nat) (q_years : Nat) (q_likely : Nat) (q_then : Nat) (q_row : Nat) (q_best : Nat) (z_thrown : Int32) (z_trace : Int64) (z_typed : Int32) (z_next : Int32) (z_token : Int32) (z_place : Int32) (z_value : Int32) (z_fault : Int32) (z_houses : Int32) (z_draftHouses : Int32) (z_all : Int64) (z_s : Nat → Int32) (x1 : Int32) (r : Int32) (hf : fX7_byBoard z_houses z_s x1 = some r) : CtI l yX7_byBoard wsX7_byBoard rmX7_byBoard D cy [.ref q0, .int x1] [(q0, oB 7 [.int z_thrown, .long z_trace, .ref q_text, .int z_typed, .int z_next, .int z_token, .int z_place, .int z_value, .int z_fault, .ref q_weight, .ref q_eats, .ref q_barred, .ref q_laws, .int z_houses, .int z_draftHouses, .ref q_s, .ref q_kept, .ref q_isKept, .ref q_years, .ref q_likely, .ref q_then, .long z_all, .ref q_row, .ref q_best]), (q_s, aI cy 67 z_s)] [(q0, oB 7 [.int z_thrown, .long z_trace, .ref q_text, .int z_typed, .int z_next, .int z_token, .int z_place, .int z_value, .int z_fault, .ref q_weight, .ref q_eats, .ref q_barred, .ref q_laws, .int z_houses, .int z_draftHouses, .ref q_s, .ref q_kept, .ref q_isKept, .ref q_years, .ref q_likely, .ref q_then, .long z_all, .ref q_row, .ref q_best]), (q_s, aI cy 67 z_s)] r := by
  refine Ct_ofI (cc := cX7_byBoard) (nL := 5) (by decide) rfl (Nat.le_of_ble_eq_true rfl) ?_
  intro p e s m args below meth c A Q hM hret hP hD hS ls hl
  obtain ⟨hx, hb, hml, hown, hts, hcx, hA, hsx⟩ := hM
  have hown : s.vm.findClass RX7 = some m.cls := hown
  have hK := hcx.1
  have hN := hcx.2
  have kw0 := hts (.fieldLink RX7 25 "EachBringsModel" "s" "[I") (List.mem_of_getElem? (i := 1) rfl)
  have kc1 : ∀ w ∈ wsX70, w ∈ wsX7_byBoard := fun _ h => List.mem_cons_of_mem _ (List.mem_append_right _ h)
  have hl : lv_has ls 5 [(0, .ref q0), (1, .int x1)] := hl
  have hret' : ∀ (pc : Nat) (ls : Array Slot) (H : Heap) (locs : List Loc) (v : Int32), decode cX7_byBoard pc = .ok (.ireturn, 1) → some v = some r → va_P D vwCl [(q0, oB 7 [.int z_thrown, .long z_trace, .ref q_text, .int z_typed, .int z_next, .int z_token, .int z_place, .int z_value, .int z_fault, .ref q_weight, .ref q_eats, .ref q_barred, .ref q_laws, .int z_houses, .int z_draftHouses, .ref q_s, .ref q_kept, .ref q_isKept, .ref q_years, .ref q_likely, .ref q_then, .long z_all, .ref q_row, .ref q_best]), (q_s, aI cy 67 z_s)] H → va_D A [(q0, oB 7 [.int z_thrown, .long z_trace, .ref q_text, .int z_typed, .int z_next, .int z_token, .int z_place, .int z_value, .int z_fault, .ref q_weight, .ref q_eats, .ref q_barred, .ref q_laws, .int z_houses, .int z_draftHouses, .ref q_s, .ref q_kept, .ref q_isKept, .ref q_years, .ref q_likely, .ref q_then, .long z_all, .ref q_row, .ref q_best]), (q_s, aI cy 67 z_s)] → va_S A s.heap H locs → W p l e rmX7_byBoard s m args below meth c H locs 0 0 Q (F0 m pc ls [.int v]) := by
    intro pc ls H locs v hd he hP hD hS
    cases he
    exact hret _ _ _ _ _ hd rfl hP hD hS
  unfold fX7_byBoard at hf
  refine lv_bipush (v := -9) hx hb dX7_byBoard_0 (by decide) ?_
  refine lv_istore_n (lv' := [(2, .int (-9 : Int32)), (0, .ref q0), (1, .int x1)]) hx hb dX7_byBoard_2 rfl hl (by decide) rfl (fun ls hl => ?_)
  refine lv_iconst (v := 3) hx hb dX7_byBoard_3 (by decide) ?_
  refine lv_istore_n (lv' := [(3, .int (3 : Int32)), (2, .int (-9 : Int32)), (0, .ref q0), (1, .int x1)]) hx hb dX7_byBoard_4 rfl hl (by decide) rfl (fun ls hl => ?_)
  have hL5 : ∀ (n : Nat) (x2_5 : Int32) (x3_5 : Int32) (H : Heap) (locs : List Loc) (ls : Array Slot), it2 (X7_byBoard_S5 z_houses z_s x1) n x2_5 x3_5 = some r → va_P D vwCl [(q0, oB 7 [.int z_thrown, .long z_trace, .ref q_text, .int z_typed, .int z_next, .int z_token, .int z_place, .int z_value, .int z_fault, .ref q_weight, .ref q_eats, .ref q_barred, .ref q_laws, .int z_houses, .int z_draftHouses, .ref q_s, .ref q_kept, .ref q_isKept, .ref q_years, .ref q_likely, .ref q_then, .long z_all, .ref q_row, .ref q_best]), (q_s, aI cy 67 z_s)] H → va_D A [(q0, oB 7 [.int z_thrown, .long z_trace, .ref q_text, .int z_typed, .int z_next, .int z_token, .int z_place, .int z_value, .int z_fault, .ref q_weight, .ref q_eats, .ref q_barred, .ref q_laws, .int z_houses, .int z_draftHouses, .ref q_s, .ref q_kept, .ref q_isKept, .ref q_years, .ref q_likely, .ref q_then, .long z_all, .ref q_row, .ref q_best]), (q_s, aI cy 67 z_s)] → va_S A s.heap H locs → lv_has ls 5 [(0, .ref q0), (1, .int x1), (2, .int x2_5), (3, .int x3_5)] → W p l e rmX7_byBoard s m args below meth c H locs 0 0 Q (F0 m 5 ls []) := by
    intro n
    induction n with
    | zero => intro x2_5 x3_5 H locs ls hf; exact absurd hf (by simp [it2])
    | succ n ih5 =>
      intro x2_5 x3_5 H locs ls hf hP hD hS hl
      have hf : X7_byBoard_S5 z_houses z_s x1 (it2 (X7_byBoard_S5 z_houses z_s x1) n) x2_5 x3_5 = some r := hf
      generalize it2 (X7_byBoard_S5 z_houses z_s x1) n = self_5 at hf ih5
      unfold X7_byBoard_S5 at hf
      refine lv_iload_n hx hb dX7_byBoard_5 rfl (lv_at hl 3 rfl) ?_
      refine lv_if_lt (tgt := 96) hx hb dX7_byBoard_6 (by decide) (fun hc_6 => ?_) (fun hc_6 => ?_)
      · have hf := it_t hf hc_6
        refine lv_iload_n hx hb dX7_byBoard_96 rfl (lv_at hl 2 rfl) ?_
        exact hret' _ _ _ _ _ dX7_byBoard_97 hf hP hD hS
      · have hf := it_f hf hc_6
        refine lv_aload_n hx hb dX7_byBoard_9 rfl (lv_at hl 0 rfl) ?_
        refine va_get (D := D) (ci := 7) (v := .ref q_s) (C := RX7) (T := TX7) (N := 24) hx hb hts kc1 hown hK hP 0 rfl rfl 15 (by decide) kw0 (fun _ h9 => h9) rfl dX7_byBoard_10 ?_
        refine lv_iconst (v := 4) hx hb dX7_byBoard_13 (by decide) ?_
        refine lv_iload_n hx hb dX7_byBoard_14 rfl (lv_at hl 1 rfl) ?_
        refine lv_imul hx hb dX7_byBoard_15 ?_
        refine lv_iload_n hx hb dX7_byBoard_16 rfl (lv_at hl 3 rfl) ?_
        refine lv_iadd hx hb dX7_byBoard_17 ?_
        obtain ⟨hg_18, hf⟩ := gd_some hf
        refine va_iald hx hb hK hP 1 0 rfl rfl hg_18 dX7_byBoard_18 ?_
        have hJ90 : ∀ (x2_90 : Int32) (H : Heap) (locs : List Loc) (ls : Array Slot), X7_byBoard_J90 x3_5 self_5 x2_90 = some r → va_P D vwCl [(q0, oB 7 [.int z_thrown, .long z_trace, .ref q_text, .int z_typed, .int z_next, .int z_token, .int z_place, .int z_value, .int z_fault, .ref q_weight, .ref q_eats, .ref q_barred, .ref q_laws, .int z_houses, .int z_draftHouses, .ref q_s, .ref q_kept, .ref q_isKept, .ref q_years, .ref q_likely, .ref q_then, .long z_all, .ref q_row, .ref q_best]), (q_s, aI cy 67 z_s)] H → va_D A [(q0, oB 7 [.int z_thrown, .long z_trace, .ref q_text, .int z_typed, .int z_next, .int z_token, .int z_place, .int z_value, .int z_fault, .ref q_weight, .ref q_eats, .ref q_barred, .ref q_laws, .int z_houses, .int z_draftHouses, .ref q_s, .ref q_kept, .ref q_isKept, .ref q_years, .ref q_likely, .ref q_then, .long z_all, .ref q_row, .ref q_best]), (q_s, aI cy 67 z_s)] → va_S A s.heap H locs → lv_has ls 5 [(0, .ref q0), (1, .int x1), (2, .int x2_90), (3, .int x3_5)] → W p l e rmX7_byBoard s m args below meth c H locs 0 0 Q (F0 m 90 ls []) := by
          intro x2_90 H locs ls hf hP hD hS hl
          unfold X7_byBoard_J90 at hf
          obtain ⟨x3_90, ex3_90⟩ : ∃ y : Int32, y = x3_5 + (-1 : Int32) := ⟨_, rfl⟩
          have hf := lets_at hf ex3_90
          refine lv_iinc (v := x3_90) (lv' := [(3, .int x3_90), (0, .ref q0), (1, .int x1), (2, .int x2_90)]) hx hb dX7_byBoard_90 hl (k := 3) rfl (by rw [ex3_90]; rfl) (by decide) rfl (fun ls hl => ?_)
          refine lv_goto (tgt := 5) hx hb dX7_byBoard_93 (by decide) ?_
          exact ih5 x2_90 x3_90 _ _ _ hf hP hD hS (lv_sub hl [1, 2, 3, 0] rfl)
        refine lv_if_le (tgt := 90) hx hb dX7_byBoard_19 (by decide) (fun hc_19 => ?_) (fun hc_19 => ?_)
        · have hf := it_t hf hc_19
          exact hJ90 x2_5 _ _ _ hf hP hD hS (lv_sub hl [0, 1, 2, 3] rfl)
        · have hf := it_f hf hc_19
          refine lv_iload_n hx hb dX7_byBoard_22 rfl (lv_at hl 2 rfl) ?_
          refine lv_bipush (v := -9) hx hb dX7_byBoard_23 (by decide) ?_
          have hJ43 : ∀ (t0_43 : Int32) (H : Heap) (locs : List Loc) (ls : Array Slot), X7_byBoard_J43 z_s x1 x2_5 x3_5 self_5 t0_43 = some r → va_P D vwCl [(q0, oB 7 [.int z_thrown, .long z_trace, .ref q_text, .int z_typed, .int z_next, .int z_token, .int z_place, .int z_value, .int z_fault, .ref q_weight, .ref q_eats, .ref q_barred, .ref q_laws, .int z_houses, .int z_draftHouses, .ref q_s, .ref q_kept, .ref q_isKept, .ref q_years, .ref q_likely, .ref q_then, .long z_all, .ref q_row, .ref q_best]), (q_s, aI cy 67 z_s)] H → va_D A [(q0, oB 7 [.int z_thrown, .long z_trace, .ref q_text, .int z_typed, .int z_next, .int z_token, .int z_place, .int z_value, .int z_fault, .ref q_weight, .ref q_eats, .ref q_barred, .ref q_laws, .int z_houses, .int z_draftHouses, .ref q_s, .ref q_kept, .ref q_isKept, .ref q_years, .ref q_likely, .ref q_then, .long z_all, .ref q_row, .ref q_best]), (q_s, aI cy 67 z_s)] → va_S A s.heap H locs → lv_has ls 5 [(0, .ref q0), (1, .int x1), (2, .int x2_5), (3, .int x3_5)] → W p l e rmX7_byBoard s m args below meth c H locs 0 0 Q (F0 m 43 ls [.int t0_43]) := by
            intro t0_43 H locs ls hf hP hD hS hl
            unfold X7_byBoard_J43 at hf
            refine lv_istore (lv' := [(4, .int t0_43), (0, .ref q0), (1, .int x1), (2, .int x2_5), (3, .int x3_5)]) hx hb dX7_byBoard_43 hl (by decide) rfl (fun ls hl => ?_)
            refine lv_iload_n hx hb dX7_byBoard_45 rfl (lv_at hl 3 rfl) ?_
            refine lv_bipush (v := -9) hx hb dX7_byBoard_46 (by decide) ?_
            have hJ89 : ∀ (t0_89 : Int32) (H : Heap) (locs : List Loc) (ls : Array Slot), X7_byBoard_J89 x3_5 self_5 t0_89 = some r → va_P D vwCl [(q0, oB 7 [.int z_thrown, .long z_trace, .ref q_text, .int z_typed, .int z_next, .int z_token, .int z_place, .int z_value, .int z_fault, .ref q_weight, .ref q_eats, .ref q_barred, .ref q_laws, .int z_houses, .int z_draftHouses, .ref q_s, .ref q_kept, .ref q_isKept, .ref q_years, .ref q_likely, .ref q_then, .long z_all, .ref q_row, .ref q_best]), (q_s, aI cy 67 z_s)] H → va_D A [(q0, oB 7 [.int z_thrown, .long z_trace, .ref q_text, .int z_typed, .int z_next, .int z_token, .int z_place, .int z_value, .int z_fault, .ref q_weight, .ref q_eats, .ref q_barred, .ref q_laws, .int z_houses, .int z_draftHouses, .ref q_s, .ref q_kept, .ref q_isKept, .ref q_years, .ref q_likely, .ref q_then, .long z_all, .ref q_row, .ref q_best]), (q_s, aI cy 67 z_s)] → va_S A s.heap H locs → lv_has ls 5 [(0, .ref q0), (1, .int x1), (3, .int x3_5)] → W p l e rmX7_byBoard s m args below meth c H locs 0 0 Q (F0 m 89 ls [.int t0_89]) := by
              intro t0_89 H locs ls hf hP hD hS hl
              unfold X7_byBoard_J89 at hf
              refine lv_istore_n (lv' := [(2, .int t0_89), (0, .ref q0), (1, .int x1), (3, .int x3_5)]) hx hb dX7_byBoard_89 rfl hl (by decide) rfl (fun ls hl => ?_)
              exact hJ90 t0_89 _ _ _ hf hP hD hS (lv_sub hl [1, 2, 0, 3] rfl)
            have hJ84 : ∀ (H : Heap) (locs : List Loc) (ls : Array Slot), X7_byBoard_J84 x3_5 self_5 = some r → va_P D vwCl [(q0, oB 7 [.int z_thrown, .long z_trace, .ref q_text, .int z_typed, .int z_next, .int z_token, .int z_place, .int z_value, .int z_fault, .ref q_weight, .ref q_eats, .ref q_barred, .ref q_laws, .int z_houses, .int z_draftHouses, .ref q_s, .ref q_kept, .ref q_isKept, .ref q_years, .ref q_likely, .ref q_then, .long z_all, .ref q_row, .ref q_best]), (q_s, aI cy 67 z_s)] H → va_D A [(q0, oB 7 [.int z_thrown, .long z_trace, .ref q_text, .int z_typed, .int z_next, .int z_token, .int z_place, .int z_value, .int z_fault, .ref q_weight, .ref q_eats, .ref q_barred, .ref q_laws, .int z_houses, .int z_draftHouses, .ref q_s, .ref q_kept, .ref q_isKept, .ref q_years, .ref q_likely, .ref q_then, .long z_all, .ref q_row, .ref q_best]), (q_s, aI cy 67 z_s)] → va_S A s.heap H locs → lv_has ls 5 [(0, .ref q0), (1, .int x1), (3, .int x3_5)] → W p l e rmX7_byBoard s m args below meth c H locs 0 0 Q (F0 m 84 ls []) := by
              intro H locs ls hf hP hD hS hl
              unfold X7_byBoard_J84 at hf
              refine lv_iload_n hx hb dX7_byBoard_84 rfl (lv_at hl 2 rfl) ?_
              refine lv_goto (tgt := 89) hx hb dX7_byBoard_85 (by decide) ?_
              exact hJ89 x3_5 _ _ _ hf hP hD hS (lv_sub hl [0, 1, 2] rfl)
            refine lv_icmp_eq (tgt := 84) hx hb dX7_byBoard_48 (by decide) (fun hc_48 => ?_) (fun hc_48 => ?_)
            · have hf := it_t hf hc_48
              exact hJ84 _ _ _ hf hP hD hS (lv_sub hl [1, 2, 4] rfl)
            · have hf := it_f hf hc_48
              refine lv_iload hx hb dX7_byBoard_51 (lv_at hl 0 rfl) ?_
              refine lv_if_lt (tgt := 84) hx hb dX7_byBoard_53 (by decide) (fun hc_53 => ?_) (fun hc_53 => ?_)
              · have hf := it_t hf hc_53
                exact hJ84 _ _ _ hf hP hD hS (lv_sub hl [1, 2, 4] rfl)
              · have hf := it_f hf hc_53
                refine lv_iload hx hb dX7_byBoard_56 (lv_at hl 0 rfl) ?_
                have hJ88 : ∀ (H : Heap) (locs : List Loc) (ls : Array Slot), X7_byBoard_J88 x2_5 x3_5 self_5 = some r → va_P D vwCl [(q0, oB 7 [.int z_thrown, .long z_trace, .ref q_text, .int z_typed, .int z_next, .int z_token, .int z_place, .int z_value, .int z_fault, .ref q_weight, .ref q_eats, .ref q_barred, .ref q_laws, .int z_houses, .int z_draftHouses, .ref q_s, .ref q_kept, .ref q_isKept, .ref q_years, .ref q_likely, .ref q_then, .long z_all, .ref q_row, .ref q_best]), (q_s, aI cy 67 z_s)] H → va_D A [(q0, oB 7 [.int z_thrown, .long z_trace, .ref q_text, .int z_typed, .int z_next, .int z_token, .int z_place, .int z_value, .int z_fault, .ref q_weight, .ref q_eats, .ref q_barred, .ref q_laws, .int z_houses, .int z_draftHouses, .ref q_s, .ref q_kept, .ref q_isKept, .ref q_years, .ref q_likely, .ref q_then, .long z_all, .ref q_row, .ref q_best]), (q_s, aI cy 67 z_s)] → va_S A s.heap H locs → lv_has ls 5 [(0, .ref q0), (1, .int x1), (2, .int x2_5), (3, .int x3_5)] → W p l e rmX7_byBoard s m args below meth c H locs 0 0 Q (F0 m 88 ls []) := by
                  intro H locs ls hf hP hD hS hl
                  unfold X7_byBoard_J88 at hf
                  refine lv_iload_n hx hb dX7_byBoard_88 rfl (lv_at hl 2 rfl) ?_
                  exact hJ89 x2_5 _ _ _ hf hP hD hS (lv_sub hl [0, 1, 3] rfl)
                refine lv_if_ne (tgt := 88) hx hb dX7_byBoard_58 (by decide) (fun hc_58 => ?_) (fun hc_58 => ?_)
                · have hf := it_f hf hc_58
                  exact hJ88 _ _ _ hf hP hD hS (lv_sub hl [1, 2, 3, 4] rfl)
                · have hf := it_t hf hc_58
                  refine lv_aload_n hx hb dX7_byBoard_61 rfl (lv_at hl 1 rfl) ?_
                  refine va_get (D := D) (ci := 7) (v := .ref q_s) (C := RX7) (T := TX7) (N := 24) hx hb hts kc1 hown hK hP 0 rfl rfl 15 (by decide) kw0 (fun _ h9 => h9) rfl dX7_byBoard_62 ?_
                  refine lv_iconst (v := 4) hx hb dX7_byBoard_65 (by decide) ?_
                  refine lv_iload_n hx hb dX7_byBoard_66 rfl (lv_at hl 2 rfl) ?_
                  refine lv_imul hx hb dX7_byBoard_67 ?_
                  refine lv_iload_n hx hb dX7_byBoard_68 rfl (lv_at hl 4 rfl) ?_
                  refine lv_iadd hx hb dX7_byBoard_69 ?_
                  obtain ⟨hg_70, hf⟩ := gd_some hf
                  refine va_iald hx hb hK hP 1 0 rfl rfl hg_70 dX7_byBoard_70 ?_
                  refine lv_aload_n hx hb dX7_byBoard_71 rfl (lv_at hl 1 rfl) ?_
                  refine va_get (D := D) (ci := 7) (v := .ref q_s) (C := RX7) (T := TX7) (N := 24) hx hb hts kc1 hown hK hP 0 rfl rfl 15 (by decide) kw0 (fun _ h9 => h9) rfl dX7_byBoard_72 ?_
                  refine lv_iconst (v := 4) hx hb dX7_byBoard_75 (by decide) ?_
                  refine lv_iload_n hx hb dX7_byBoard_76 rfl (lv_at hl 2 rfl) ?_
                  refine lv_imul hx hb dX7_byBoard_77 ?_
                  refine lv_iload_n hx hb dX7_byBoard_78 rfl (lv_at hl 3 rfl) ?_
                  refine lv_iadd hx hb dX7_byBoard_79 ?_
                  obtain ⟨hg_80, hf⟩ := gd_some hf
                  refine va_iald hx hb hK hP 1 0 rfl rfl hg_80 dX7_byBoard_80 ?_
                  refine lv_icmp_lt (tgt := 88) hx hb dX7_byBoard_81 (by decide) (fun hc_81 => ?_) (fun hc_81 => ?_)
                  · have hf := it_t hf hc_81
                    exact hJ88 _ _ _ hf hP hD hS (lv_sub hl [1, 2, 3, 4] rfl)
                  · have hf := it_f hf hc_81
                    exact hJ84 _ _ _ hf hP hD hS (lv_sub hl [1, 2, 4] rfl)
          refine lv_icmp_ne (tgt := 32) hx hb dX7_byBoard_25 (by decide) (fun hc_25 => ?_) (fun hc_25 => ?_)
          · have hf := it_f hf hc_25
            refine lv_aload_n hx hb dX7_byBoard_32 rfl (lv_at hl 0 rfl) ?_
            refine lv_iload_n hx hb dX7_byBoard_33 rfl (lv_at hl 3 rfl) ?_
            obtain ⟨r_34, hr_34, hf⟩ := bd_some hf
            refine cl_i (wc := [(q0, oB 7 [.int z_thrown, .long z_trace, .ref q_text, .int z_typed, .int z_next, .int z_token, .int z_place, .int z_value, .int z_fault, .ref q_weight, .ref q_eats, .ref q_barred, .ref q_laws, .int z_houses, .int z_draftHouses, .ref q_s, .ref q_kept, .ref q_isKept, .ref q_years, .ref q_likely, .ref q_then, .long z_all, .ref q_row, .ref q_best]), (q_s, aI cy 67 z_s)]) (w1 := [(q0, oB 7 [.int z_thrown, .long z_trace, .ref q_text, .int z_typed, .int z_next, .int z_token, .int z_place, .int z_value, .int z_fault, .ref q_weight, .ref q_eats, .ref q_barred, .ref q_laws, .int z_houses, .int z_draftHouses, .ref q_s, .ref q_kept, .ref q_isKept, .ref q_years, .ref q_likely, .ref q_then, .long z_all, .ref q_row, .ref q_best]), (q_s, aI cy 67 z_s)]) (wr := []) (w2 := [(q0, oB 7 [.int z_thrown, .long z_trace, .ref q_text, .int z_typed, .int z_next, .int z_token, .int z_place, .int z_value, .int z_fault, .ref q_weight, .ref q_eats, .ref q_barred, .ref q_laws, .int z_houses, .int z_draftHouses, .ref q_s, .ref q_kept, .ref q_isKept, .ref q_years, .ref q_likely, .ref q_then, .long z_all, .ref q_row, .ref q_best]), (q_s, aI cy 67 z_s)]) (va_runV (As := [.int x3_5]) (rest := []) ⟨hx, hb, hml, hown, hts⟩ (ktX7_broughtBy l D cy q0 q_text q_weight q_eats q_barred q_laws q_s q_kept q_isKept q_years q_likely q_then q_row q_best z_thrown z_trace z_typed z_next z_token z_place z_value z_fault z_houses z_draftHouses z_all z_s x3_5 r_34 hr_34 _) (cwV 1 hts gX7_byBoard_X7_broughtBy rfl rfl rfl (by decide +kernel) ⟨Nat.le_of_ble_eq_true rfl, Nat.le_of_ble_eq_true rfl⟩) (pre_V (wc := [(q0, oB 7 [.int z_thrown, .long z_trace, .ref q_text, .int z_typed, .int z_next, .int z_token, .int z_place, .int z_value, .int z_fault, .ref q_weight, .ref q_eats, .ref q_barred, .ref q_laws, .int z_houses, .int z_draftHouses, .ref q_s, .ref q_kept, .ref q_isKept, .ref q_years, .ref q_likely, .ref q_then, .long z_all, .ref q_row, .ref q_best]), (q_s, aI cy 67 z_s)]) (ci := 7) hcx hsx hS hA hP hD [0, 1] rfl (by decide) rfl rfl) rfl rfl hl.1 rfl (lv_room (Nat.le_of_ble_eq_true rfl)) dX7_byBoard_34 ⟨Nat.zero_le _, Nat.zero_le _⟩) hP hD hS hA [0, 1] [] [0, 1] rfl rfl (by decide) (by decide) (by decide) rfl (fun H locs hP hD hS => ?_)
            refine lv_aload_n hx hb dX7_byBoard_37 rfl (lv_at hl 0 rfl) ?_
            refine lv_iload_n hx hb dX7_byBoard_38 rfl (lv_at hl 2 rfl) ?_
            obtain ⟨r_39, hr_39, hf⟩ := bd_some hf
            refine cl_i (wc := [(q0, oB 7 [.int z_thrown, .long z_trace, .ref q_text, .int z_typed, .int z_next, .int z_token, .int z_place, .int z_value, .int z_fault, .ref q_weight, .ref q_eats, .ref q_barred, .ref q_laws, .int z_houses, .int z_draftHouses, .ref q_s, .ref q_kept, .ref q_isKept, .ref q_years, .ref q_likely, .ref q_then, .long z_all, .ref q_row, .ref q_best]), (q_s, aI cy 67 z_s)]) (w1 := [(q0, oB 7 [.int z_thrown, .long z_trace, .ref q_text, .int z_typed, .int z_next, .int z_token, .int z_place, .int z_value, .int z_fault, .ref q_weight, .ref q_eats, .ref q_barred, .ref q_laws, .int z_houses, .int z_draftHouses, .ref q_s, .ref q_kept, .ref q_isKept, .ref q_years, .ref q_likely, .ref q_then, .long z_all, .ref q_row, .ref q_best]), (q_s, aI cy 67 z_s)]) (wr := []) (w2 := [(q0, oB 7 [.int z_thrown, .long z_trace, .ref q_text, .int z_typed, .int z_next, .int z_token, .int z_place, .int z_value, .int z_fault, .ref q_weight, .ref q_eats, .ref q_barred, .ref q_laws, .int z_houses, .int z_draftHouses, .ref q_s, .ref q_kept, .ref q_isKept, .ref q_years, .ref q_likely, .ref q_then, .long z_all, .ref q_row, .ref q_best]), (q_s, aI cy 67 z_s)]) (va_runV (As := [.int x2_5]) (rest := [.int r_34]) ⟨hx, hb, hml, hown, hts⟩ (ktX7_broughtBy l D cy q0 q_text q_weight q_eats q_barred q_laws q_s q_kept q_isKept q_years q_likely q_then q_row q_best z_thrown z_trace z_typed z_next z_token z_place z_value z_fault z_houses z_draftHouses z_all z_s x2_5 r_39 hr_39 _) (cwV 1 hts gX7_byBoard_X7_broughtBy rfl rfl rfl (by decide +kernel) ⟨Nat.le_of_ble_eq_true rfl, Nat.le_of_ble_eq_true rfl⟩) (pre_V (wc := [(q0, oB 7 [.int z_thrown, .long z_trace, .ref q_text, .int z_typed, .int z_next, .int z_token, .int z_place, .int z_value, .int z_fault, .ref q_weight, .ref q_eats, .ref q_barred, .ref q_laws, .int z_houses, .int z_draftHouses, .ref q_s, .ref q_kept, .ref q_isKept, .ref q_years, .ref q_likely, .ref q_then, .long z_all, .ref q_row, .ref q_best]), (q_s, aI cy 67 z_s)]) (ci := 7) hcx hsx hS hA hP hD [0, 1] rfl (by decide) rfl rfl) rfl rfl hl.1 rfl (lv_room (Nat.le_of_ble_eq_true rfl)) dX7_byBoard_39 ⟨Nat.zero_le _, Nat.zero_le _⟩) hP hD hS hA [0, 1] [] [0, 1] rfl rfl (by decide) (by decide) (by decide) rfl (fun H locs hP hD hS => ?_)
            refine lv_isub hx hb dX7_byBoard_42 ?_
            exact hJ43 (r_34 - r_39) _ _ _ hf hP hD hS (lv_sub hl [0, 1, 2, 3] rfl)
          · have hf := it_t hf hc_25
            refine lv_iconst (v := 0) hx hb dX7_byBoard_28 (by decide) ?_
            refine lv_goto (tgt := 43) hx hb dX7_byBoard_29 (by decide) ?_
            exact hJ43 (0 : Int32) _ _ _ hf hP hD hS (lv_sub hl [0, 1, 2, 3] rfl)
  exact hL5 _ (-9 : Int32) (3 : Int32) _ _ _ hf hP hD hS (lv_sub hl [2, 3, 1, 0] rfl)

def X7_evening_J102 (x2_23 : Int32) (self_23 : Int32 → Int32 → (Nat → Int32) → Option (Int32 × Int32 × (Nat → Int32))) (x1_102 : Int32) (z_s_102 : Nat → Int32) : Option (Int32 × Int32 × (Nat → Int32)) := lets (x2_23 + (1 : Int32)) (fun x2_102 => self_23 x1_102 x2_102 z_s_102)
def X7_evening_J95 (z_eats : Nat → Int32) (z_laws : Nat → Int32) (x1_23 : Int32) (x2_23 : Int32) (self_23 : Int32 → Int32 → (Nat → Int32) → Option (Int32 × Int32 × (Nat → Int32))) (t2_95 : Int32) (z_s_95 : Nat → Int32) : Option (Int32 × Int32 × (Nat → Int32)) := (fX7_bring z_eats z_laws z_s_95 x2_23 t2_95).bind (fun r_95 => lets (x1_23 + (1 : Int32)) (fun x1_99 => X7_evening_J102 x2_23 self_23 x1_99 r_95.2))
def X7_evening_S23 (z_houses : Int32) (z_eats : Nat → Int32) (z_laws : Nat → Int32) (self_23 : Int32 → Int32 → (Nat → Int32) → Option (Int32 × Int32 × (Nat → Int32))) (x1_23 : Int32) (x2_23 : Int32) (z_s_23 : Nat → Int32) : Option (Int32 × Int32 × (Nat → Int32)) := if z_houses ≤ x2_23 then (some (x1_23, (0 : Int32), z_s_23)) else (gd (okx ((24 : Int32) + x2_23) 67) (if (z_s_23 ((24 : Int32) + x2_23).toNatClampNeg) = (-9 : Int32) then ((fX7_weightsOf z_s_23 x2_23).bind (fun r_47 => if r_47 ≤ 0 then (X7_evening_J102 x2_23 self_23 x1_23 z_s_23) else (if (z_laws (0 : Int32).toNatClampNeg) = 0 then ((fX7_drawn z_s_23 x2_23).bind (fun r_66 => X7_evening_J95 z_eats z_laws x1_23 x2_23 self_23 r_66.1 r_66.2)) else (if (z_laws (0 : Int32).toNatClampNeg) = (1 : Int32) then ((fX7_byLetters z_s_23 x2_23).bind (fun r_84 => X7_evening_J95 z_eats z_laws x1_23 x2_23 self_23 r_84 z_s_23)) else ((fX7_byBoard z_houses z_s_23 x2_23).bind (fun r_92 => X7_evening_J95 z_eats z_laws x1_23 x2_23 self_23 r_92 z_s_23)))))) else (X7_evening_J102 x2_23 self_23 x1_23 z_s_23)))
def fX7_evening (z_houses : Int32) (z_eats : Nat → Int32) (z_laws : Nat → Int32) (z_s : Nat → Int32) : Option (Int32 × Int32 × (Nat → Int32)) := if (z_s (58 : Int32).toNatClampNeg) = (1 : Int32) then (some ((-2 : Int32), (0 : Int32), z_s)) else (it3 (X7_evening_S23 z_houses z_eats z_laws) 100000 (0 : Int32) (0 : Int32) z_s)
abbrev rmX7_evening : Room := { frames := 2, cells := 0, slots := 0, locals := 47 }
set_option maxHeartbeats 4000000 in
set_option maxRecDepth 100000 in
theorem ktX7_evening (l : Launch) (D : va_G) (cy : Nat → ClassId) (q0 : Nat) (q_text : Nat) (q_weight : Nat) (q_eats : Nat) (q_barred : Nat) (q_laws : Nat) (q_s : Nat) (q_kept : Nat) (q_isKept : Nat) (q_years : Nat) (q_likely : Nat) (q_then : Nat) (q_row : Nat) (q_best : Nat) (z_thrown : Int32) (z_trace : Int64) (z_typed : Int32) (z_next : Int32) (z_token : Int32) (z_place : Int32) (z_value : Int32) (z_fault : Int32) (z_houses : Int32) (z_draftHouses : Int32) (z_all : Int64) (z_eats : Nat → Int32) (z_laws : Nat → Int32) (z_s : Nat → Int32) (r : Int32 × Int32 × (Nat → Int32)) (hf : fX7_evening z_houses z_eats z_laws z_s = some r) : CtI l yX7_evening wsX7_evening rmX7_evening D cy [.ref q0] [(q0, oB 7 [.int z_thrown, .long z_trace, .ref q_text, .int z_typed, .int z_next, .int z_token, .int z_place, .int z_value, .int z_fault, .ref q_weight, .ref q_eats, .ref q_barred, .ref q_laws, .int z_houses, .int z_draftHouses, .ref q_s, .ref q_kept, .ref q_isKept, .ref q_years, .ref q_likely, .ref q_then, .long z_all, .ref q_row, .ref q_best]), (q_eats, aI cy 12 z_eats), (q_laws, aI cy 6 z_laws), (q_s, aI cy 67 z_s)] [(q0, oB 7 [.int r.2.1, .long z_trace, .ref q_text, .int z_typed, .int z_next, .int z_token, .int z_place, .int z_value, .int z_fault, .ref q_weight, .ref q_eats, .ref q_barred, .ref q_laws, .int z_houses, .int z_draftHouses, .ref q_s, .ref q_kept, .ref q_isKept, .ref q_years, .ref q_likely, .ref q_then, .long z_all, .ref q_row, .ref q_best]), (q_eats, aI cy 12 z_eats), (q_laws, aI cy 6 z_laws), (q_s, aI cy 67 r.2.2)] r.1 := by
  refine Ct_ofI (cc := cX7_evening) (nL := 3) (by decide) rfl (Nat.le_of_ble_eq_true rfl) ?_
  intro p e s m args below meth c A Q hM hret hP hD hS ls hl
  obtain ⟨hx, hb, hml, hown, hts, hcx, hA, hsx⟩ := hM
  have hown : s.vm.findClass RX7 = some m.cls := hown
  have hK := hcx.1
  have hN := hcx.2
  have kw0 := hts (.fieldLink RX7 54 "EachBringsModel" "thrown" "I") (List.mem_of_getElem? (i := 1) rfl)
  have kc1 : ∀ w ∈ wsX70, w ∈ wsX7_evening := fun _ h => List.mem_cons_of_mem _ (List.mem_append_right _ h)
  have kw2 := hts (.fieldLink RX7 25 "EachBringsModel" "s" "[I") (List.mem_of_getElem? (i := 2) rfl)
  have kw3 := hts (.fieldLink RX7 122 "EachBringsModel" "houses" "I") (List.mem_of_getElem? (i := 3) rfl)
  have kw4 := hts (.fieldLink RX7 22 "EachBringsModel" "laws" "[I") (List.mem_of_getElem? (i := 4) rfl)
  have hl : lv_has ls 3 [(0, .ref q0)] := hl
  have hret' : ∀ (pc : Nat) (ls : Array Slot) (H : Heap) (locs : List Loc) (v : Int32) (w0 : Int32) (w1 : Nat → Int32), decode cX7_evening pc = .ok (.ireturn, 1) → some (v, w0, w1) = some r → va_P D vwCl [(q0, oB 7 [.int w0, .long z_trace, .ref q_text, .int z_typed, .int z_next, .int z_token, .int z_place, .int z_value, .int z_fault, .ref q_weight, .ref q_eats, .ref q_barred, .ref q_laws, .int z_houses, .int z_draftHouses, .ref q_s, .ref q_kept, .ref q_isKept, .ref q_years, .ref q_likely, .ref q_then, .long z_all, .ref q_row, .ref q_best]), (q_eats, aI cy 12 z_eats), (q_laws, aI cy 6 z_laws), (q_s, aI cy 67 w1)] H → va_D A [(q0, oB 7 [.int w0, .long z_trace, .ref q_text, .int z_typed, .int z_next, .int z_token, .int z_place, .int z_value, .int z_fault, .ref q_weight, .ref q_eats, .ref q_barred, .ref q_laws, .int z_houses, .int z_draftHouses, .ref q_s, .ref q_kept, .ref q_isKept, .ref q_years, .ref q_likely, .ref q_then, .long z_all, .ref q_row, .ref q_best]), (q_eats, aI cy 12 z_eats), (q_laws, aI cy 6 z_laws), (q_s, aI cy 67 w1)] → va_S A s.heap H locs → W p l e rmX7_evening s m args below meth c H locs 0 0 Q (F0 m pc ls [.int v]) := by
    intro pc ls H locs v w0 w1 hd he hP hD hS
    cases he
    exact hret _ _ _ _ _ hd rfl hP hD hS
  unfold fX7_evening at hf
  refine lv_aload_n hx hb dX7_evening_0 rfl (lv_at hl 0 rfl) ?_
  refine lv_iconst (v := 0) hx hb dX7_evening_1 (by decide) ?_
  refine va_put (D := D) (ci := 7) (v := .int (0 : Int32)) (ty := .int) (C := RX7) (T := TX7) (N := 24) hx hb hts kc1 tyX7 tyX7_ok nmX7 hown hK hP hD hS 0 rfl rfl 0 (by decide) kw0 (fun _ h9 => h9) rfl pfI rfl rfl (Nat.le_of_ble_eq_true rfl) dX7_evening_2 (fun H locs hP hD hS => ?_)
  have hP : va_P D vwCl [(q0, oB 7 [.int (0 : Int32), .long z_trace, .ref q_text, .int z_typed, .int z_next, .int z_token, .int z_place, .int z_value, .int z_fault, .ref q_weight, .ref q_eats, .ref q_barred, .ref q_laws, .int z_houses, .int z_draftHouses, .ref q_s, .ref q_kept, .ref q_isKept, .ref q_years, .ref q_likely, .ref q_then, .long z_all, .ref q_row, .ref q_best]), (q_eats, aI cy 12 z_eats), (q_laws, aI cy 6 z_laws), (q_s, aI cy 67 z_s)] H := hP
  have hD : va_D A [(q0, oB 7 [.int (0 : Int32), .long z_trace, .ref q_text, .int z_typed, .int z_next, .int z_token, .int z_place, .int z_value, .int z_fault, .ref q_weight, .ref q_eats, .ref q_barred, .ref q_laws, .int z_houses, .int z_draftHouses, .ref q_s, .ref q_kept, .ref q_isKept, .ref q_years, .ref q_likely, .ref q_then, .long z_all, .ref q_row, .ref q_best]), (q_eats, aI cy 12 z_eats), (q_laws, aI cy 6 z_laws), (q_s, aI cy 67 z_s)] := hD
  refine lv_aload_n hx hb dX7_evening_5 rfl (lv_at hl 0 rfl) ?_
  refine va_get (D := D) (ci := 7) (v := .ref q_s) (C := RX7) (T := TX7) (N := 24) hx hb hts kc1 hown hK hP 0 rfl rfl 15 (by decide) kw2 (fun _ h9 => h9) rfl dX7_evening_6 ?_
  refine lv_bipush (v := 58) hx hb dX7_evening_9 (by decide) ?_
  refine va_iald hx hb hK hP 3 0 rfl rfl (by decide : okx (58 : Int32) 67) dX7_evening_11 ?_
  refine lv_iconst (v := 1) hx hb dX7_evening_12 (by decide) ?_
  refine lv_icmp_ne (tgt := 19) hx hb dX7_evening_13 (by decide) (fun hc_13 => ?_) (fun hc_13 => ?_)
  · have hf := it_f hf hc_13
    refine lv_iconst (v := 0) hx hb dX7_evening_19 (by decide) ?_
    refine lv_istore_n (lv' := [(1, .int (0 : Int32)), (0, .ref q0)]) hx hb dX7_evening_20 rfl hl (by decide) rfl (fun ls hl => ?_)
    refine lv_iconst (v := 0) hx hb dX7_evening_21 (by decide) ?_
    refine lv_istore_n (lv' := [(2, .int (0 : Int32)), (1, .int (0 : Int32)), (0, .ref q0)]) hx hb dX7_evening_22 rfl hl (by decide) rfl (fun ls hl => ?_)
    have hL23 : ∀ (n : Nat) (x1_23 : Int32) (x2_23 : Int32) (z_s_23 : Nat → Int32) (H : Heap) (locs : List Loc) (ls : Array Slot), it3 (X7_evening_S23 z_houses z_eats z_laws) n x1_23 x2_23 z_s_23 = some r → va_P D vwCl [(q0, oB 7 [.int (0 : Int32), .long z_trace, .ref q_text, .int z_typed, .int z_next, .int z_token, .int z_place, .int z_value, .int z_fault, .ref q_weight, .ref q_eats, .ref q_barred, .ref q_laws, .int z_houses, .int z_draftHouses, .ref q_s, .ref q_kept, .ref q_isKept, .ref q_years, .ref q_likely, .ref q_then, .long z_all, .ref q_row, .ref q_best]), (q_eats, aI cy 12 z_eats), (q_laws, aI cy 6 z_laws), (q_s, aI cy 67 z_s_23)] H → va_D A [(q0, oB 7 [.int (0 : Int32), .long z_trace, .ref q_text, .int z_typed, .int z_next, .int z_token, .int z_place, .int z_value, .int z_fault, .ref q_weight, .ref q_eats, .ref q_barred, .ref q_laws, .int z_houses, .int z_draftHouses, .ref q_s, .ref q_kept, .ref q_isKept, .ref q_years, .ref q_likely, .ref q_then, .long z_all, .ref q_row, .ref q_best]), (q_eats, aI cy 12 z_eats), (q_laws, aI cy 6 z_laws), (q_s, aI cy 67 z_s_23)] → va_S A s.heap H locs → lv_has ls 3 [(0, .ref q0), (1, .int x1_23), (2, .int x2_23)] → W p l e rmX7_evening s m args below meth c H locs 0 0 Q (F0 m 23 ls []) := by
      intro n
      induction n with
      | zero => intro x1_23 x2_23 z_s_23 H locs ls hf; exact absurd hf (by simp [it3])
      | succ n ih23 =>
        intro x1_23 x2_23 z_s_23 H locs ls hf hP hD hS hl
        have hf : X7_evening_S23 z_houses z_eats z_laws (it3 (X7_evening_S23 z_houses z_eats z_laws) n) x1_23 x2_23 z_s_23 = some r := hf
        generalize it3 (X7_evening_S23 z_houses z_eats z_laws) n = self_23 at hf ih23
        unfold X7_evening_S23 at hf
        refine lv_iload_n hx hb dX7_evening_23 rfl (lv_at hl 2 rfl) ?_
        refine lv_aload_n hx hb dX7_evening_24 rfl (lv_at hl 0 rfl) ?_
        refine va_get (D := D) (ci := 7) (v := .int z_houses) (C := RX7) (T := TX7) (N := 24) hx hb hts kc1 hown hK hP 0 rfl rfl 13 (by decide) kw3 (fun _ h9 => h9) rfl dX7_evening_25 ?_
        refine lv_icmp_ge (tgt := 108) hx hb dX7_evening_28 (by decide) (fun hc_28 => ?_) (fun hc_28 => ?_)
        · have hf := it_t hf hc_28
          refine lv_iload_n hx hb dX7_evening_108 rfl (lv_at hl 1 rfl) ?_
          exact hret' _ _ _ _ _ _ _ dX7_evening_109 hf hP hD hS
        · have hf := it_f hf hc_28
          refine lv_aload_n hx hb dX7_evening_31 rfl (lv_at hl 0 rfl) ?_
          refine va_get (D := D) (ci := 7) (v := .ref q_s) (C := RX7) (T := TX7) (N := 24) hx hb hts kc1 hown hK hP 0 rfl rfl 15 (by decide) kw2 (fun _ h9 => h9) rfl dX7_evening_32 ?_
          refine lv_bipush (v := 24) hx hb dX7_evening_35 (by decide) ?_
          refine lv_iload_n hx hb dX7_evening_37 rfl (lv_at hl 2 rfl) ?_
          refine lv_iadd hx hb dX7_evening_38 ?_
          obtain ⟨hg_39, hf⟩ := gd_some hf
          refine va_iald hx hb hK hP 3 0 rfl rfl hg_39 dX7_evening_39 ?_
          refine lv_bipush (v := -9) hx hb dX7_evening_40 (by decide) ?_
          have hJ102 : ∀ (x1_102 : Int32) (z_s_102 : Nat → Int32) (H : Heap) (locs : List Loc) (ls : Array Slot), X7_evening_J102 x2_23 self_23 x1_102 z_s_102 = some r → va_P D vwCl [(q0, oB 7 [.int (0 : Int32), .long z_trace, .ref q_text, .int z_typed, .int z_next, .int z_token, .int z_place, .int z_value, .int z_fault, .ref q_weight, .ref q_eats, .ref q_barred, .ref q_laws, .int z_houses, .int z_draftHouses, .ref q_s, .ref q_kept, .ref q_isKept, .ref q_years, .ref q_likely, .ref q_then, .long z_all, .ref q_row, .ref q_best]), (q_eats, aI cy 12 z_eats), (q_laws, aI cy 6 z_laws), (q_s, aI cy 67 z_s_102)] H → va_D A [(q0, oB 7 [.int (0 : Int32), .long z_trace, .ref q_text, .int z_typed, .int z_next, .int z_token, .int z_place, .int z_value, .int z_fault, .ref q_weight, .ref q_eats, .ref q_barred, .ref q_laws, .int z_houses, .int z_draftHouses, .ref q_s, .ref q_kept, .ref q_isKept, .ref q_years, .ref q_likely, .ref q_then, .long z_all, .ref q_row, .ref q_best]), (q_eats, aI cy 12 z_eats), (q_laws, aI cy 6 z_laws), (q_s, aI cy 67 z_s_102)] → va_S A s.heap H locs → lv_has ls 3 [(0, .ref q0), (1, .int x1_102), (2, .int x2_23)] → W p l e rmX7_evening s m args below meth c H locs 0 0 Q (F0 m 102 ls []) := by
            intro x1_102 z_s_102 H locs ls hf hP hD hS hl
            unfold X7_evening_J102 at hf
            obtain ⟨x2_102, ex2_102⟩ : ∃ y : Int32, y = x2_23 + (1 : Int32) := ⟨_, rfl⟩
            have hf := lets_at hf ex2_102
            refine lv_iinc (v := x2_102) (lv' := [(2, .int x2_102), (0, .ref q0), (1, .int x1_102)]) hx hb dX7_evening_102 hl (k := 2) rfl (by rw [ex2_102]; rfl) (by decide) rfl (fun ls hl => ?_)
            refine lv_goto (tgt := 23) hx hb dX7_evening_105 (by decide) ?_
            exact ih23 x1_102 x2_102 z_s_102 _ _ _ hf hP hD hS (lv_sub hl [1, 2, 0] rfl)
          refine lv_icmp_ne (tgt := 102) hx hb dX7_evening_42 (by decide) (fun hc_42 => ?_) (fun hc_42 => ?_)
          · have hf := it_f hf hc_42
            exact hJ102 x1_23 z_s_23 _ _ _ hf hP hD hS (lv_sub hl [0, 1, 2] rfl)
          · have hf := it_t hf hc_42
            refine lv_aload_n hx hb dX7_evening_45 rfl (lv_at hl 0 rfl) ?_
            refine lv_iload_n hx hb dX7_evening_46 rfl (lv_at hl 2 rfl) ?_
            obtain ⟨r_47, hr_47, hf⟩ := bd_some hf
            refine cl_i (wc := [(q0, oB 7 [.int (0 : Int32), .long z_trace, .ref q_text, .int z_typed, .int z_next, .int z_token, .int z_place, .int z_value, .int z_fault, .ref q_weight, .ref q_eats, .ref q_barred, .ref q_laws, .int z_houses, .int z_draftHouses, .ref q_s, .ref q_kept, .ref q_isKept, .ref q_years, .ref q_likely, .ref q_then, .long z_all, .ref q_row, .ref q_best]), (q_s, aI cy 67 z_s_23)]) (w1 := [(q0, oB 7 [.int (0 : Int32), .long z_trace, .ref q_text, .int z_typed, .int z_next, .int z_token, .int z_place, .int z_value, .int z_fault, .ref q_weight, .ref q_eats, .ref q_barred, .ref q_laws, .int z_houses, .int z_draftHouses, .ref q_s, .ref q_kept, .ref q_isKept, .ref q_years, .ref q_likely, .ref q_then, .long z_all, .ref q_row, .ref q_best]), (q_s, aI cy 67 z_s_23)]) (wr := [(q_eats, aI cy 12 z_eats), (q_laws, aI cy 6 z_laws)]) (w2 := [(q0, oB 7 [.int (0 : Int32), .long z_trace, .ref q_text, .int z_typed, .int z_next, .int z_token, .int z_place, .int z_value, .int z_fault, .ref q_weight, .ref q_eats, .ref q_barred, .ref q_laws, .int z_houses, .int z_draftHouses, .ref q_s, .ref q_kept, .ref q_isKept, .ref q_years, .ref q_likely, .ref q_then, .long z_all, .ref q_row, .ref q_best]), (q_eats, aI cy 12 z_eats), (q_laws, aI cy 6 z_laws), (q_s, aI cy 67 z_s_23)]) (va_runV (As := [.int x2_23]) (rest := []) ⟨hx, hb, hml, hown, hts⟩ (ktX7_weightsOf l D cy q0 q_text q_weight q_eats q_barred q_laws q_s q_kept q_isKept q_years q_likely q_then q_row q_best (0 : Int32) z_trace z_typed z_next z_token z_place z_value z_fault z_houses z_draftHouses z_all z_s_23 x2_23 r_47 hr_47 _) (cwV 1 hts gX7_evening_X7_weightsOf rfl rfl rfl (by decide +kernel) ⟨Nat.le_of_ble_eq_true rfl, Nat.le_of_ble_eq_true rfl⟩) (pre_V (wc := [(q0, oB 7 [.int (0 : Int32), .long z_trace, .ref q_text, .int z_typed, .int z_next, .int z_token, .int z_place, .int z_value, .int z_fault, .ref q_weight, .ref q_eats, .ref q_barred, .ref q_laws, .int z_houses, .int z_draftHouses, .ref q_s, .ref q_kept, .ref q_isKept, .ref q_years, .ref q_likely, .ref q_then, .long z_all, .ref q_row, .ref q_best]), (q_s, aI cy 67 z_s_23)]) (ci := 7) hcx hsx hS hA hP hD [0, 3] rfl (by decide) rfl rfl) rfl rfl hl.1 rfl (lv_room (Nat.le_of_ble_eq_true rfl)) dX7_evening_47 ⟨Nat.zero_le _, Nat.zero_le _⟩) hP hD hS hA [0, 3] [1, 2] [2, 0, 1, 3] rfl rfl (by decide) (by decide) (by decide) rfl (fun H locs hP hD hS => ?_)
            refine lv_if_le (tgt := 102) hx hb dX7_evening_50 (by decide) (fun hc_50 => ?_) (fun hc_50 => ?_)
            · have hf := it_t hf hc_50
              exact hJ102 x1_23 z_s_23 _ _ _ hf hP hD hS (lv_sub hl [0, 1, 2] rfl)
            · have hf := it_f hf hc_50
              refine lv_aload_n hx hb dX7_evening_53 rfl (lv_at hl 0 rfl) ?_
              refine lv_iload_n hx hb dX7_evening_54 rfl (lv_at hl 2 rfl) ?_
              refine lv_aload_n hx hb dX7_evening_55 rfl (lv_at hl 0 rfl) ?_
              refine va_get (D := D) (ci := 7) (v := .ref q_laws) (C := RX7) (T := TX7) (N := 24) hx hb hts kc1 hown hK hP 0 rfl rfl 12 (by decide) kw4 (fun _ h9 => h9) rfl dX7_evening_56 ?_
              refine lv_iconst (v := 0) hx hb dX7_evening_59 (by decide) ?_
              refine va_iald hx hb hK hP 2 0 rfl rfl (by decide : okx (0 : Int32) 6) dX7_evening_60 ?_
              have hJ95 : ∀ (t2_95 : Int32) (z_s_95 : Nat → Int32) (H : Heap) (locs : List Loc) (ls : Array Slot), X7_evening_J95 z_eats z_laws x1_23 x2_23 self_23 t2_95 z_s_95 = some r → va_P D vwCl [(q0, oB 7 [.int (0 : Int32), .long z_trace, .ref q_text, .int z_typed, .int z_next, .int z_token, .int z_place, .int z_value, .int z_fault, .ref q_weight, .ref q_eats, .ref q_barred, .ref q_laws, .int z_houses, .int z_draftHouses, .ref q_s, .ref q_kept, .ref q_isKept, .ref q_years, .ref q_likely, .ref q_then, .long z_all, .ref q_row, .ref q_best]), (q_eats, aI cy 12 z_eats), (q_laws, aI cy 6 z_laws), (q_s, aI cy 67 z_s_95)] H → va_D A [(q0, oB 7 [.int (0 : Int32), .long z_trace, .ref q_text, .int z_typed, .int z_next, .int z_token, .int z_place, .int z_value, .int z_fault, .ref q_weight, .ref q_eats, .ref q_barred, .ref q_laws, .int z_houses, .int z_draftHouses, .ref q_s, .ref q_kept, .ref q_isKept, .ref q_years, .ref q_likely, .ref q_then, .long z_all, .ref q_row, .ref q_best]), (q_eats, aI cy 12 z_eats), (q_laws, aI cy 6 z_laws), (q_s, aI cy 67 z_s_95)] → va_S A s.heap H locs → lv_has ls 3 [(0, .ref q0), (1, .int x1_23), (2, .int x2_23)] → W p l e rmX7_evening s m args below meth c H locs 0 0 Q (F0 m 95 ls [.int t2_95, .int x2_23, .ref q0]) := by
                intro t2_95 z_s_95 H locs ls hf hP hD hS hl
                unfold X7_evening_J95 at hf
                obtain ⟨r_95, hr_95, hf⟩ := bd_some hf
                refine cl_i (wc := [(q0, oB 7 [.int (0 : Int32), .long z_trace, .ref q_text, .int z_typed, .int z_next, .int z_token, .int z_place, .int z_value, .int z_fault, .ref q_weight, .ref q_eats, .ref q_barred, .ref q_laws, .int z_houses, .int z_draftHouses, .ref q_s, .ref q_kept, .ref q_isKept, .ref q_years, .ref q_likely, .ref q_then, .long z_all, .ref q_row, .ref q_best]), (q_eats, aI cy 12 z_eats), (q_laws, aI cy 6 z_laws), (q_s, aI cy 67 z_s_95)]) (w1 := [(q0, oB 7 [.int (0 : Int32), .long z_trace, .ref q_text, .int z_typed, .int z_next, .int z_token, .int z_place, .int z_value, .int z_fault, .ref q_weight, .ref q_eats, .ref q_barred, .ref q_laws, .int z_houses, .int z_draftHouses, .ref q_s, .ref q_kept, .ref q_isKept, .ref q_years, .ref q_likely, .ref q_then, .long z_all, .ref q_row, .ref q_best]), (q_eats, aI cy 12 z_eats), (q_laws, aI cy 6 z_laws), (q_s, aI cy 67 r_95.2)]) (wr := []) (w2 := [(q0, oB 7 [.int (0 : Int32), .long z_trace, .ref q_text, .int z_typed, .int z_next, .int z_token, .int z_place, .int z_value, .int z_fault, .ref q_weight, .ref q_eats, .ref q_barred, .ref q_laws, .int z_houses, .int z_draftHouses, .ref q_s, .ref q_kept, .ref q_isKept, .ref q_years, .ref q_likely, .ref q_then, .long z_all, .ref q_row, .ref q_best]), (q_eats, aI cy 12 z_eats), (q_laws, aI cy 6 z_laws), (q_s, aI cy 67 r_95.2)]) (va_runV (As := [.int x2_23, .int t2_95]) (rest := []) ⟨hx, hb, hml, hown, hts⟩ (ktX7_bring l D cy q0 q_text q_weight q_eats q_barred q_laws q_s q_kept q_isKept q_years q_likely q_then q_row q_best (0 : Int32) z_trace z_typed z_next z_token z_place z_value z_fault z_houses z_draftHouses z_all z_eats z_laws z_s_95 x2_23 t2_95 r_95 hr_95 _) (cwV 2 hts gX7_evening_X7_bring rfl rfl rfl (by decide +kernel) ⟨Nat.le_of_ble_eq_true rfl, Nat.le_of_ble_eq_true rfl⟩) (pre_V (wc := [(q0, oB 7 [.int (0 : Int32), .long z_trace, .ref q_text, .int z_typed, .int z_next, .int z_token, .int z_place, .int z_value, .int z_fault, .ref q_weight, .ref q_eats, .ref q_barred, .ref q_laws, .int z_houses, .int z_draftHouses, .ref q_s, .ref q_kept, .ref q_isKept, .ref q_years, .ref q_likely, .ref q_then, .long z_all, .ref q_row, .ref q_best]), (q_eats, aI cy 12 z_eats), (q_laws, aI cy 6 z_laws), (q_s, aI cy 67 z_s_95)]) (ci := 7) hcx hsx hS hA hP hD [0, 1, 2, 3] rfl (by decide) rfl rfl) rfl rfl hl.1 rfl (lv_room (Nat.le_of_ble_eq_true rfl)) dX7_evening_95 ⟨Nat.zero_le _, Nat.zero_le _⟩) hP hD hS hA [0, 1, 2, 3] [] [0, 1, 2, 3] rfl rfl (by decide) (by decide) (by decide) rfl (fun H locs hP hD hS => ?_)
                refine lv_pop hx hb dX7_evening_98 rfl ?_
                obtain ⟨x1_99, ex1_99⟩ : ∃ y : Int32, y = x1_23 + (1 : Int32) := ⟨_, rfl⟩
                have hf := lets_at hf ex1_99
                refine lv_iinc (v := x1_99) (lv' := [(1, .int x1_99), (0, .ref q0), (2, .int x2_23)]) hx hb dX7_evening_99 hl (k := 1) rfl (by rw [ex1_99]; rfl) (by decide) rfl (fun ls hl => ?_)
                exact hJ102 x1_99 r_95.2 _ _ _ hf hP hD hS (lv_sub hl [1, 0, 2] rfl)
              refine lv_if_ne (tgt := 72) hx hb dX7_evening_61 (by decide) (fun hc_61 => ?_) (fun hc_61 => ?_)
              · have hf := it_f hf hc_61
                refine lv_aload_n hx hb dX7_evening_72 rfl (lv_at hl 0 rfl) ?_
                refine va_get (D := D) (ci := 7) (v := .ref q_laws) (C := RX7) (T := TX7) (N := 24) hx hb hts kc1 hown hK hP 0 rfl rfl 12 (by decide) kw4 (fun _ h9 => h9) rfl dX7_evening_73 ?_
                refine lv_iconst (v := 0) hx hb dX7_evening_76 (by decide) ?_
                refine va_iald hx hb hK hP 2 0 rfl rfl (by decide : okx (0 : Int32) 6) dX7_evening_77 ?_
                refine lv_iconst (v := 1) hx hb dX7_evening_78 (by decide) ?_
                refine lv_icmp_ne (tgt := 90) hx hb dX7_evening_79 (by decide) (fun hc_79 => ?_) (fun hc_79 => ?_)
                · have hf := it_f hf hc_79
                  refine lv_aload_n hx hb dX7_evening_90 rfl (lv_at hl 0 rfl) ?_
                  refine lv_iload_n hx hb dX7_evening_91 rfl (lv_at hl 2 rfl) ?_
                  obtain ⟨r_92, hr_92, hf⟩ := bd_some hf
                  refine cl_i (wc := [(q0, oB 7 [.int (0 : Int32), .long z_trace, .ref q_text, .int z_typed, .int z_next, .int z_token, .int z_place, .int z_value, .int z_fault, .ref q_weight, .ref q_eats, .ref q_barred, .ref q_laws, .int z_houses, .int z_draftHouses, .ref q_s, .ref q_kept, .ref q_isKept, .ref q_years, .ref q_likely, .ref q_then, .long z_all, .ref q_row, .ref q_best]), (q_s, aI cy 67 z_s_23)]) (w1 := [(q0, oB 7 [.int (0 : Int32), .long z_trace, .ref q_text, .int z_typed, .int z_next, .int z_token, .int z_place, .int z_value, .int z_fault, .ref q_weight, .ref q_eats, .ref q_barred, .ref q_laws, .int z_houses, .int z_draftHouses, .ref q_s, .ref q_kept, .ref q_isKept, .ref q_years, .ref q_likely, .ref q_then, .long z_all, .ref q_row, .ref q_best]), (q_s, aI cy 67 z_s_23)]) (wr := [(q_eats, aI cy 12 z_eats), (q_laws, aI cy 6 z_laws)]) (w2 := [(q0, oB 7 [.int (0 : Int32), .long z_trace, .ref q_text, .int z_typed, .int z_next, .int z_token, .int z_place, .int z_value, .int z_fault, .ref q_weight, .ref q_eats, .ref q_barred, .ref q_laws, .int z_houses, .int z_draftHouses, .ref q_s, .ref q_kept, .ref q_isKept, .ref q_years, .ref q_likely, .ref q_then, .long z_all, .ref q_row, .ref q_best]), (q_eats, aI cy 12 z_eats), (q_laws, aI cy 6 z_laws), (q_s, aI cy 67 z_s_23)]) (va_runV (As := [.int x2_23]) (rest := [.int x2_23, .ref q0]) ⟨hx, hb, hml, hown, hts⟩ (ktX7_byBoard l D cy q0 q_text q_weight q_eats q_barred q_laws q_s q_kept q_isKept q_years q_likely q_then q_row q_best (0 : Int32) z_trace z_typed z_next z_token z_place z_value z_fault z_houses z_draftHouses z_all z_s_23 x2_23 r_92 hr_92 _) (cwV 1 hts gX7_evening_X7_byBoard rfl rfl rfl (by decide +kernel) ⟨Nat.le_of_ble_eq_true rfl, Nat.le_of_ble_eq_true rfl⟩) (pre_V (wc := [(q0, oB 7 [.int (0 : Int32), .long z_trace, .ref q_text, .int z_typed, .int z_next, .int z_token, .int z_place, .int z_value, .int z_fault, .ref q_weight, .ref q_eats, .ref q_barred, .ref q_laws, .int z_houses, .int z_draftHouses, .ref q_s, .ref q_kept, .ref q_isKept, .ref q_years, .ref q_likely, .ref q_then, .long z_all, .ref q_row, .ref q_best]), (q_s, aI cy 67 z_s_23)]) (ci := 7) hcx hsx hS hA hP hD [0, 3] rfl (by decide) rfl rfl) rfl rfl hl.1 rfl (lv_room (Nat.le_of_ble_eq_true rfl)) dX7_evening_92 ⟨Nat.zero_le _, Nat.zero_le _⟩) hP hD hS hA [0, 3] [1, 2] [2, 0, 1, 3] rfl rfl (by decide) (by decide) (by decide) rfl (fun H locs hP hD hS => ?_)
                  exact hJ95 r_92 z_s_23 _ _ _ hf hP hD hS (lv_sub hl [0, 1, 2] rfl)
                · have hf := it_t hf hc_79
                  refine lv_aload_n hx hb dX7_evening_82 rfl (lv_at hl 0 rfl) ?_
                  refine lv_iload_n hx hb dX7_evening_83 rfl (lv_at hl 2 rfl) ?_
                  obtain ⟨r_84, hr_84, hf⟩ := bd_some hf
                  refine cl_i (wc := [(q0, oB 7 [.int (0 : Int32), .long z_trace, .ref q_text, .int z_typed, .int z_next, .int z_token, .int z_place, .int z_value, .int z_fault, .ref q_weight, .ref q_eats, .ref q_barred, .ref q_laws, .int z_houses, .int z_draftHouses, .ref q_s, .ref q_kept, .ref q_isKept, .ref q_years, .ref q_likely, .ref q_then, .long z_all, .ref q_row, .ref q_best]), (q_s, aI cy 67 z_s_23)]) (w1 := [(q0, oB 7 [.int (0 : Int32), .long z_trace, .ref q_text, .int z_typed, .int z_next, .int z_token, .int z_place, .int z_value, .int z_fault, .ref q_weight, .ref q_eats, .ref q_barred, .ref q_laws, .int z_houses, .int z_draftHouses, .ref q_s, .ref q_kept, .ref q_isKept, .ref q_years, .ref q_likely, .ref q_then, .long z_all, .ref q_row, .ref q_best]), (q_s, aI cy 67 z_s_23)]) (wr := [(q_eats, aI cy 12 z_eats), (q_laws, aI cy 6 z_laws)]) (w2 := [(q0, oB 7 [.int (0 : Int32), .long z_trace, .ref q_text, .int z_typed, .int z_next, .int z_token, .int z_place, .int z_value, .int z_fault, .ref q_weight, .ref q_eats, .ref q_barred, .ref q_laws, .int z_houses, .int z_draftHouses, .ref q_s, .ref q_kept, .ref q_isKept, .ref q_years, .ref q_likely, .ref q_then, .long z_all, .ref q_row, .ref q_best]), (q_eats, aI cy 12 z_eats), (q_laws, aI cy 6 z_laws), (q_s, aI cy 67 z_s_23)]) (va_runV (As := [.int x2_23]) (rest := [.int x2_23, .ref q0]) ⟨hx, hb, hml, hown, hts⟩ (ktX7_byLetters l D cy q0 q_text q_weight q_eats q_barred q_laws q_s q_kept q_isKept q_years q_likely q_then q_row q_best (0 : Int32) z_trace z_typed z_next z_token z_place z_value z_fault z_houses z_draftHouses z_all z_s_23 x2_23 r_84 hr_84 _) (cwV 1 hts gX7_evening_X7_byLetters rfl rfl rfl (by decide +kernel) ⟨Nat.le_of_ble_eq_true rfl, Nat.le_of_ble_eq_true rfl⟩) (pre_V (wc := [(q0, oB 7 [.int (0 : Int32), .long z_trace, .ref q_text, .int z_typed, .int z_next, .int z_token, .int z_place, .int z_value, .int z_fault, .ref q_weight, .ref q_eats, .ref q_barred, .ref q_laws, .int z_houses, .int z_draftHouses, .ref q_s, .ref q_kept, .ref q_isKept, .ref q_years, .ref q_likely, .ref q_then, .long z_all, .ref q_row, .ref q_best]), (q_s, aI cy 67 z_s_23)]) (ci := 7) hcx hsx hS hA hP hD [0, 3] rfl (by decide) rfl rfl) rfl rfl hl.1 rfl (lv_room (Nat.le_of_ble_eq_true rfl)) dX7_evening_84 ⟨Nat.zero_le _, Nat.zero_le _⟩) hP hD hS hA [0, 3] [1, 2] [2, 0, 1, 3] rfl rfl (by decide) (by decide) (by decide) rfl (fun H locs hP hD hS => ?_)
                  refine lv_goto (tgt := 95) hx hb dX7_evening_87 (by decide) ?_
                  exact hJ95 r_84 z_s_23 _ _ _ hf hP hD hS (lv_sub hl [0, 1, 2] rfl)
              · have hf := it_t hf hc_61
                refine lv_aload_n hx hb dX7_evening_64 rfl (lv_at hl 0 rfl) ?_
                refine lv_iload_n hx hb dX7_evening_65 rfl (lv_at hl 2 rfl) ?_
                obtain ⟨r_66, hr_66, hf⟩ := bd_some hf
                refine cl_i (wc := [(q0, oB 7 [.int (0 : Int32), .long z_trace, .ref q_text, .int z_typed, .int z_next, .int z_token, .int z_place, .int z_value, .int z_fault, .ref q_weight, .ref q_eats, .ref q_barred, .ref q_laws, .int z_houses, .int z_draftHouses, .ref q_s, .ref q_kept, .ref q_isKept, .ref q_years, .ref q_likely, .ref q_then, .long z_all, .ref q_row, .ref q_best]), (q_s, aI cy 67 z_s_23)]) (w1 := [(q0, oB 7 [.int (0 : Int32), .long z_trace, .ref q_text, .int z_typed, .int z_next, .int z_token, .int z_place, .int z_value, .int z_fault, .ref q_weight, .ref q_eats, .ref q_barred, .ref q_laws, .int z_houses, .int z_draftHouses, .ref q_s, .ref q_kept, .ref q_isKept, .ref q_years, .ref q_likely, .ref q_then, .long z_all, .ref q_row, .ref q_best]), (q_s, aI cy 67 r_66.2)]) (wr := [(q_eats, aI cy 12 z_eats), (q_laws, aI cy 6 z_laws)]) (w2 := [(q0, oB 7 [.int (0 : Int32), .long z_trace, .ref q_text, .int z_typed, .int z_next, .int z_token, .int z_place, .int z_value, .int z_fault, .ref q_weight, .ref q_eats, .ref q_barred, .ref q_laws, .int z_houses, .int z_draftHouses, .ref q_s, .ref q_kept, .ref q_isKept, .ref q_years, .ref q_likely, .ref q_then, .long z_all, .ref q_row, .ref q_best]), (q_eats, aI cy 12 z_eats), (q_laws, aI cy 6 z_laws), (q_s, aI cy 67 r_66.2)]) (va_runV (As := [.int x2_23]) (rest := [.int x2_23, .ref q0]) ⟨hx, hb, hml, hown, hts⟩ (ktX7_drawn l D cy q0 q_text q_weight q_eats q_barred q_laws q_s q_kept q_isKept q_years q_likely q_then q_row q_best (0 : Int32) z_trace z_typed z_next z_token z_place z_value z_fault z_houses z_draftHouses z_all z_s_23 x2_23 r_66 hr_66 _) (cwV 1 hts gX7_evening_X7_drawn rfl rfl rfl (by decide +kernel) ⟨Nat.le_of_ble_eq_true rfl, Nat.le_of_ble_eq_true rfl⟩) (pre_V (wc := [(q0, oB 7 [.int (0 : Int32), .long z_trace, .ref q_text, .int z_typed, .int z_next, .int z_token, .int z_place, .int z_value, .int z_fault, .ref q_weight, .ref q_eats, .ref q_barred, .ref q_laws, .int z_houses, .int z_draftHouses, .ref q_s, .ref q_kept, .ref q_isKept, .ref q_years, .ref q_likely, .ref q_then, .long z_all, .ref q_row, .ref q_best]), (q_s, aI cy 67 z_s_23)]) (ci := 7) hcx hsx hS hA hP hD [0, 3] rfl (by decide) rfl rfl) rfl rfl hl.1 rfl (lv_room (Nat.le_of_ble_eq_true rfl)) dX7_evening_66 ⟨Nat.zero_le _, Nat.zero_le _⟩) hP hD hS hA [0, 3] [1, 2] [2, 0, 1, 3] rfl rfl (by decide) (by decide) (by decide) rfl (fun H locs hP hD hS => ?_)
                refine lv_goto (tgt := 95) hx hb dX7_evening_69 (by decide) ?_
                exact hJ95 r_66.1 r_66.2 _ _ _ hf hP hD hS (lv_sub hl [0, 1, 2] rfl)
    exact hL23 _ (0 : Int32) (0 : Int32) z_s _ _ _ hf hP hD hS (lv_sub hl [2, 1, 0] rfl)
  · have hf := it_t hf hc_13
    refine lv_bipush (v := -2) hx hb dX7_evening_16 (by decide) ?_
    exact hret' _ _ _ _ _ _ _ dX7_evening_18 hf hP hD hS

def X7_spoonsOf_J43 (x2_4 : Int32) (x3_4 : Int32) (self_4 : Int32 → Int32 → Option Int32) (t1_43 : Int32) : Option Int32 := lets (x2_4 + t1_43) (fun x2_44 => lets (x3_4 + (1 : Int32)) (fun x3_45 => self_4 x2_44 x3_45))
def X7_spoonsOf_S4 (z_houses : Int32) (z_eats : Nat → Int32) (z_laws : Nat → Int32) (z_s : Nat → Int32) (x1 : Int32) (self_4 : Int32 → Int32 → Option Int32) (x2_4 : Int32) (x3_4 : Int32) : Option Int32 := if z_houses ≤ x3_4 then (some x2_4) else (gd (okx ((24 : Int32) + x3_4) 67) (if (z_s ((24 : Int32) + x3_4).toNatClampNeg) = x1 then (gd (okx x3_4 12) (X7_spoonsOf_J43 x2_4 x3_4 self_4 ((z_eats x3_4.toNatClampNeg) + (z_laws (1 : Int32).toNatClampNeg)))) else (X7_spoonsOf_J43 x2_4 x3_4 self_4 (0 : Int32))))
def fX7_spoonsOf (z_houses : Int32) (z_eats : Nat → Int32) (z_laws : Nat → Int32) (z_s : Nat → Int32) (x1 : Int32) : Option Int32 := it2 (X7_spoonsOf_S4 z_houses z_eats z_laws z_s x1) 100000 (0 : Int32) (0 : Int32)
abbrev rmX7_spoonsOf : Room := { frames := 0, cells := 0, slots := 0, locals := 0 }
set_option maxHeartbeats 4000000 in
set_option maxRecDepth 100000 in
theorem ktX7_spoonsOf (l : Launch) (D : va_G) (cy : Nat → ClassId) (q0 : Nat) (q_text : Nat) (q_weight : Nat) (q_eats : Nat) (q_barred : Nat) (q_laws : Nat) (q_s : Nat) (q_kept : Nat) (q_isKept : Nat) (q_years : Nat) (q_likely : Nat) (q_then : Nat) (q_row : Nat) (q_best : Nat) (z_thrown : Int32) (z_trace : Int64) (z_typed : Int32) (z_next : Int32) (z_token : Int32) (z_place : Int32) (z_value : Int32) (z_fault : Int32) (z_houses : Int32) (z_draftHouses : Int32) (z_all : Int64) (z_eats : Nat → Int32) (z_laws : Nat → Int32) (z_s : Nat → Int32) (x1 : Int32) (r : Int32) (hf : fX7_spoonsOf z_houses z_eats z_laws z_s x1 = some r) : CtI l yX7_spoonsOf wsX7_spoonsOf rmX7_spoonsOf D cy [.ref q0, .int x1] [(q0, oB 7 [.int z_thrown, .long z_trace, .ref q_text, .int z_typed, .int z_next, .int z_token, .int z_place, .int z_value, .int z_fault, .ref q_weight, .ref q_eats, .ref q_barred, .ref q_laws, .int z_houses, .int z_draftHouses, .ref q_s, .ref q_kept, .ref q_isKept, .ref q_years, .ref q_likely, .ref q_then, .long z_all, .ref q_row, .ref q_best]), (q_eats, aI cy 12 z_eats), (q_laws, aI cy 6 z_laws), (q_s, aI cy 67 z_s)] [(q0, oB 7 [.int z_thrown, .long z_trace, .ref q_text, .int z_typed, .int z_next, .int z_token, .int z_place, .int z_value, .int z_fault, .ref q_weight, .ref q_eats, .ref q_barred, .ref q_laws, .int z_houses, .int z_draftHouses, .ref q_s, .ref q_kept, .ref q_isKept, .ref q_years, .ref q_likely, .ref q_then, .long z_all, .ref q_row, .ref q_best]), (q_eats, aI cy 12 z_eats), (q_laws, aI cy 6 z_laws), (q_s, aI cy 67 z_s)] r := by
  refine Ct_ofI (cc := cX7_spoonsOf) (nL := 4) (by decide) rfl (Nat.le_of_ble_eq_true rfl) ?_
  intro p e s m args below meth c A Q hM hret hP hD hS ls hl
  obtain ⟨hx, hb, hml, hown, hts, hcx, hA, hsx⟩ := hM
  have hown : s.vm.findClass RX7 = some m.cls := hown
  have hK := hcx.1
  have hN := hcx.2
  have kw0 := hts (.fieldLink RX7 122 "EachBringsModel" "houses" "I") (List.mem_of_getElem? (i := 1) rfl)
  have kc1 : ∀ w ∈ wsX70, w ∈ wsX7_spoonsOf := fun _ h => List.mem_cons_of_mem _ (List.mem_append_right _ h)
  have kw2 := hts (.fieldLink RX7 25 "EachBringsModel" "s" "[I") (List.mem_of_getElem? (i := 2) rfl)
  have kw3 := hts (.fieldLink RX7 16 "EachBringsModel" "eats" "[I") (List.mem_of_getElem? (i := 3) rfl)
  have kw4 := hts (.fieldLink RX7 22 "EachBringsModel" "laws" "[I") (List.mem_of_getElem? (i := 4) rfl)
  have hl : lv_has ls 4 [(0, .ref q0), (1, .int x1)] := hl
  have hret' : ∀ (pc : Nat) (ls : Array Slot) (H : Heap) (locs : List Loc) (v : Int32), decode cX7_spoonsOf pc = .ok (.ireturn, 1) → some v = some r → va_P D vwCl [(q0, oB 7 [.int z_thrown, .long z_trace, .ref q_text, .int z_typed, .int z_next, .int z_token, .int z_place, .int z_value, .int z_fault, .ref q_weight, .ref q_eats, .ref q_barred, .ref q_laws, .int z_houses, .int z_draftHouses, .ref q_s, .ref q_kept, .ref q_isKept, .ref q_years, .ref q_likely, .ref q_then, .long z_all, .ref q_row, .ref q_best]), (q_eats, aI cy 12 z_eats), (q_laws, aI cy 6 z_laws), (q_s, aI cy 67 z_s)] H → va_D A [(q0, oB 7 [.int z_thrown, .long z_trace, .ref q_text, .int z_typed, .int z_next, .int z_token, .int z_place, .int z_value, .int z_fault, .ref q_weight, .ref q_eats, .ref q_barred, .ref q_laws, .int z_houses, .int z_draftHouses, .ref q_s, .ref q_kept, .ref q_isKept, .ref q_years, .ref q_likely, .ref q_then, .long z_all, .ref q_row, .ref q_best]), (q_eats, aI cy 12 z_eats), (q_laws, aI cy 6 z_laws), (q_s, aI cy 67 z_s)] → va_S A s.heap H locs → W p l e rmX7_spoonsOf s m args below meth c H locs 0 0 Q (F0 m pc ls [.int v]) := by
    intro pc ls H locs v hd he hP hD hS
    cases he
    exact hret _ _ _ _ _ hd rfl hP hD hS
  unfold fX7_spoonsOf at hf
  refine lv_iconst (v := 0) hx hb dX7_spoonsOf_0 (by decide) ?_
  refine lv_istore_n (lv' := [(2, .int (0 : Int32)), (0, .ref q0), (1, .int x1)]) hx hb dX7_spoonsOf_1 rfl hl (by decide) rfl (fun ls hl => ?_)
  refine lv_iconst (v := 0) hx hb dX7_spoonsOf_2 (by decide) ?_
  refine lv_istore_n (lv' := [(3, .int (0 : Int32)), (2, .int (0 : Int32)), (0, .ref q0), (1, .int x1)]) hx hb dX7_spoonsOf_3 rfl hl (by decide) rfl (fun ls hl => ?_)
  have hL4 : ∀ (n : Nat) (x2_4 : Int32) (x3_4 : Int32) (H : Heap) (locs : List Loc) (ls : Array Slot), it2 (X7_spoonsOf_S4 z_houses z_eats z_laws z_s x1) n x2_4 x3_4 = some r → va_P D vwCl [(q0, oB 7 [.int z_thrown, .long z_trace, .ref q_text, .int z_typed, .int z_next, .int z_token, .int z_place, .int z_value, .int z_fault, .ref q_weight, .ref q_eats, .ref q_barred, .ref q_laws, .int z_houses, .int z_draftHouses, .ref q_s, .ref q_kept, .ref q_isKept, .ref q_years, .ref q_likely, .ref q_then, .long z_all, .ref q_row, .ref q_best]), (q_eats, aI cy 12 z_eats), (q_laws, aI cy 6 z_laws), (q_s, aI cy 67 z_s)] H → va_D A [(q0, oB 7 [.int z_thrown, .long z_trace, .ref q_text, .int z_typed, .int z_next, .int z_token, .int z_place, .int z_value, .int z_fault, .ref q_weight, .ref q_eats, .ref q_barred, .ref q_laws, .int z_houses, .int z_draftHouses, .ref q_s, .ref q_kept, .ref q_isKept, .ref q_years, .ref q_likely, .ref q_then, .long z_all, .ref q_row, .ref q_best]), (q_eats, aI cy 12 z_eats), (q_laws, aI cy 6 z_laws), (q_s, aI cy 67 z_s)] → va_S A s.heap H locs → lv_has ls 4 [(0, .ref q0), (1, .int x1), (2, .int x2_4), (3, .int x3_4)] → W p l e rmX7_spoonsOf s m args below meth c H locs 0 0 Q (F0 m 4 ls []) := by
    intro n
    induction n with
    | zero => intro x2_4 x3_4 H locs ls hf; exact absurd hf (by simp [it2])
    | succ n ih4 =>
      intro x2_4 x3_4 H locs ls hf hP hD hS hl
      have hf : X7_spoonsOf_S4 z_houses z_eats z_laws z_s x1 (it2 (X7_spoonsOf_S4 z_houses z_eats z_laws z_s x1) n) x2_4 x3_4 = some r := hf
      generalize it2 (X7_spoonsOf_S4 z_houses z_eats z_laws z_s x1) n = self_4 at hf ih4
      unfold X7_spoonsOf_S4 at hf
      refine lv_iload_n hx hb dX7_spoonsOf_4 rfl (lv_at hl 3 rfl) ?_
      refine lv_aload_n hx hb dX7_spoonsOf_5 rfl (lv_at hl 0 rfl) ?_
      refine va_get (D := D) (ci := 7) (v := .int z_houses) (C := RX7) (T := TX7) (N := 24) hx hb hts kc1 hown hK hP 0 rfl rfl 13 (by decide) kw0 (fun _ h9 => h9) rfl dX7_spoonsOf_6 ?_
      refine lv_icmp_ge (tgt := 51) hx hb dX7_spoonsOf_9 (by decide) (fun hc_9 => ?_) (fun hc_9 => ?_)
      · have hf := it_t hf hc_9
        refine lv_iload_n hx hb dX7_spoonsOf_51 rfl (lv_at hl 2 rfl) ?_
        exact hret' _ _ _ _ _ dX7_spoonsOf_52 hf hP hD hS
      · have hf := it_f hf hc_9
        refine lv_iload_n hx hb dX7_spoonsOf_12 rfl (lv_at hl 2 rfl) ?_
        refine lv_aload_n hx hb dX7_spoonsOf_13 rfl (lv_at hl 0 rfl) ?_
        refine va_get (D := D) (ci := 7) (v := .ref q_s) (C := RX7) (T := TX7) (N := 24) hx hb hts kc1 hown hK hP 0 rfl rfl 15 (by decide) kw2 (fun _ h9 => h9) rfl dX7_spoonsOf_14 ?_
        refine lv_bipush (v := 24) hx hb dX7_spoonsOf_17 (by decide) ?_
        refine lv_iload_n hx hb dX7_spoonsOf_19 rfl (lv_at hl 3 rfl) ?_
        refine lv_iadd hx hb dX7_spoonsOf_20 ?_
        obtain ⟨hg_21, hf⟩ := gd_some hf
        refine va_iald hx hb hK hP 3 0 rfl rfl hg_21 dX7_spoonsOf_21 ?_
        refine lv_iload_n hx hb dX7_spoonsOf_22 rfl (lv_at hl 1 rfl) ?_
        have hJ43 : ∀ (t1_43 : Int32) (H : Heap) (locs : List Loc) (ls : Array Slot), X7_spoonsOf_J43 x2_4 x3_4 self_4 t1_43 = some r → va_P D vwCl [(q0, oB 7 [.int z_thrown, .long z_trace, .ref q_text, .int z_typed, .int z_next, .int z_token, .int z_place, .int z_value, .int z_fault, .ref q_weight, .ref q_eats, .ref q_barred, .ref q_laws, .int z_houses, .int z_draftHouses, .ref q_s, .ref q_kept, .ref q_isKept, .ref q_years, .ref q_likely, .ref q_then, .long z_all, .ref q_row, .ref q_best]), (q_eats, aI cy 12 z_eats), (q_laws, aI cy 6 z_laws), (q_s, aI cy 67 z_s)] H → va_D A [(q0, oB 7 [.int z_thrown, .long z_trace, .ref q_text, .int z_typed, .int z_next, .int z_token, .int z_place, .int z_value, .int z_fault, .ref q_weight, .ref q_eats, .ref q_barred, .ref q_laws, .int z_houses, .int z_draftHouses, .ref q_s, .ref q_kept, .ref q_isKept, .ref q_years, .ref q_likely, .ref q_then, .long z_all, .ref q_row, .ref q_best]), (q_eats, aI cy 12 z_eats), (q_laws, aI cy 6 z_laws), (q_s, aI cy 67 z_s)] → va_S A s.heap H locs → lv_has ls 4 [(0, .ref q0), (1, .int x1), (3, .int x3_4)] → W p l e rmX7_spoonsOf s m args below meth c H locs 0 0 Q (F0 m 43 ls [.int t1_43, .int x2_4]) := by
          intro t1_43 H locs ls hf hP hD hS hl
          unfold X7_spoonsOf_J43 at hf
          refine lv_iadd hx hb dX7_spoonsOf_43 ?_
          refine lv_topi (fun x2_44 ex2_44 => ?_)
          have hf := lets_at hf ex2_44
          refine lv_istore_n (lv' := [(2, .int x2_44), (0, .ref q0), (1, .int x1), (3, .int x3_4)]) hx hb dX7_spoonsOf_44 rfl hl (by decide) rfl (fun ls hl => ?_)
          obtain ⟨x3_45, ex3_45⟩ : ∃ y : Int32, y = x3_4 + (1 : Int32) := ⟨_, rfl⟩
          have hf := lets_at hf ex3_45
          refine lv_iinc (v := x3_45) (lv' := [(3, .int x3_45), (2, .int x2_44), (0, .ref q0), (1, .int x1)]) hx hb dX7_spoonsOf_45 hl (k := 3) rfl (by rw [ex3_45]; rfl) (by decide) rfl (fun ls hl => ?_)
          refine lv_goto (tgt := 4) hx hb dX7_spoonsOf_48 (by decide) ?_
          exact ih4 x2_44 x3_45 _ _ _ hf hP hD hS (lv_sub hl [2, 3, 1, 0] rfl)
        refine lv_icmp_ne (tgt := 42) hx hb dX7_spoonsOf_23 (by decide) (fun hc_23 => ?_) (fun hc_23 => ?_)
        · have hf := it_f hf hc_23
          refine lv_iconst (v := 0) hx hb dX7_spoonsOf_42 (by decide) ?_
          exact hJ43 (0 : Int32) _ _ _ hf hP hD hS (lv_sub hl [0, 1, 3] rfl)
        · have hf := it_t hf hc_23
          refine lv_aload_n hx hb dX7_spoonsOf_26 rfl (lv_at hl 0 rfl) ?_
          refine va_get (D := D) (ci := 7) (v := .ref q_eats) (C := RX7) (T := TX7) (N := 24) hx hb hts kc1 hown hK hP 0 rfl rfl 10 (by decide) kw3 (fun _ h9 => h9) rfl dX7_spoonsOf_27 ?_
          refine lv_iload_n hx hb dX7_spoonsOf_30 rfl (lv_at hl 3 rfl) ?_
          obtain ⟨hg_31, hf⟩ := gd_some hf
          refine va_iald hx hb hK hP 1 0 rfl rfl hg_31 dX7_spoonsOf_31 ?_
          refine lv_aload_n hx hb dX7_spoonsOf_32 rfl (lv_at hl 0 rfl) ?_
          refine va_get (D := D) (ci := 7) (v := .ref q_laws) (C := RX7) (T := TX7) (N := 24) hx hb hts kc1 hown hK hP 0 rfl rfl 12 (by decide) kw4 (fun _ h9 => h9) rfl dX7_spoonsOf_33 ?_
          refine lv_iconst (v := 1) hx hb dX7_spoonsOf_36 (by decide) ?_
          refine va_iald hx hb hK hP 2 0 rfl rfl (by decide : okx (1 : Int32) 6) dX7_spoonsOf_37 ?_
          refine lv_iadd hx hb dX7_spoonsOf_38 ?_
          refine lv_goto (tgt := 43) hx hb dX7_spoonsOf_39 (by decide) ?_
          exact hJ43 ((z_eats x3_4.toNatClampNeg) + (z_laws (1 : Int32).toNatClampNeg)) _ _ _ hf hP hD hS (lv_sub hl [0, 1, 3] rfl)
  exact hL4 _ (0 : Int32) (0 : Int32) _ _ _ hf hP hD hS (lv_sub hl [2, 3, 1, 0] rfl)
