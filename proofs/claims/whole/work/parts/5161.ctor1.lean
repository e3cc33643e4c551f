def fX4_init : Option Unit := some ()
abbrev rmX4_init : Room := { frames := 1, cells := 1, slots := 24, locals := 12 }
set_option maxHeartbeats 4000000 in
set_option maxRecDepth 100000 in
theorem ktX4_init (l : Launch) (D : va_G) (cy : Nat → ClassId) (q0 : Nat) (r : Unit) (hf : fX4_init = some r) : CtN l yX4_init wsX4_init rmX4_init D cy [.ref q0] [(q0, oB 4 [.null])] (fun qs => [(q0, oB 4 [.ref (qs 0)]), ((qs 0), aI cy 24 ((fun _ => 0)))]) 1 24 := by
  refine Ct_ofN (cc := cX4_init) (nL := 1) (by decide) rfl (Nat.le_of_ble_eq_true rfl) ?_
  intro p e s m args below meth c A Q hM hin9 hret hP hD hS ls hl
  obtain ⟨hx, hb, hml, hown, hts, hcx, hA, hsx⟩ := hM
  have hin9 : meth.name = "<init>" := hin9
  have hown : s.vm.findClass RX4 = some m.cls := hown
  have hK := hcx.1
  have hN := hcx.2
  have kw0 := hts (.methodLink RX4 3 objectInit) (List.mem_of_getElem? (i := 1) rfl)
  have kw1 := hts (.instanceMethod objectInit) (List.mem_of_getElem? (i := 2) rfl)
  have kw2 := hts (.code objectInit ⟨#[0xb1]⟩ 1 none) (List.mem_of_getElem? (i := 3) rfl)
  have kw3 := hts (.arrayClass .int) (List.mem_of_getElem? (i := 4) rfl)
  have kw4 := hts (.fieldLink RX4 9 "EachBrings$Weights" "cells" "[I") (List.mem_of_getElem? (i := 5) rfl)
  have kc5 : ∀ w ∈ wsX40, w ∈ wsX4_init := fun _ h => List.mem_cons_of_mem _ (List.mem_append_right _ h)
  have hl : lv_has ls 1 [(0, .ref q0)] := hl
  unfold fX4_init at hf
  refine lv_aload_n hx hb dX4_init_0 rfl (lv_at hl 0 rfl) ?_
  refine W.objInit hx hb hown kw0 kw1 kw2 rfl (by rw [hml]; exact hl.1) rfl dX4_init_1 (Nat.le_of_ble_eq_true rfl) (Nat.le_of_ble_eq_true rfl) ?_
  refine W.eq (g2 := F0 m 4 ls []) rfl ?_
  refine lv_aload_n hx hb dX4_init_4 rfl (lv_at hl 0 rfl) ?_
  refine lv_bipush (v := 24) hx hb dX4_init_5 (by decide) ?_
  refine nw_arr (atype := .int) (k := 0) (ty := .int) (a0 := (24, .inl (fun _ => 0))) (n := 24) (N1 := 24) hx hb kw3 rfl rfl hK hP hD hS hA (ar_aI 24) (by decide) (by decide) (by decide) (Nat.le_of_ble_eq_true rfl) (Nat.le_of_ble_eq_true rfl) (ra_aI s) rfl dX4_init_7 (fun n7 H hP hD hS => ?_)
  have hP : va_P D vwCl [(q0, oB 4 [.null]), (n7, aI cy 24 ((fun _ => 0)))] H := hP
  have hD : va_D A [(q0, oB 4 [.null]), (n7, aI cy 24 ((fun _ => 0)))] := hD
  refine va_putF (D := D) (ci := 4) (v := .ref n7) (ty := .array .int) (C := RX4) (T := TX4) (N := 1) hx hb hts kc5 tyX4 tyX4_ok nmX4 hown hK hP hD hS 0 rfl rfl 0 (by decide) kw4 (fun _ h9 => h9) rfl hin9 rfl (by decide +kernel) rfl rfl (Nat.le_of_ble_eq_true rfl) dX4_init_9 (fun H locs hP hD hS => ?_)
  have hP : va_P D vwCl [(q0, oB 4 [.ref n7]), (n7, aI cy 24 ((fun _ => 0)))] H := hP
  have hD : va_D A [(q0, oB 4 [.ref n7]), (n7, aI cy 24 ((fun _ => 0)))] := hD
  obtain rfl : () = r := Option.some.inj hf
  have hP9 : va_P D vwCl [(q0, oB 4 [.ref n7]), (n7, aI cy 24 ((fun _ => 0)))] H := hP.pick [0, 1] rfl
  have hD9 : va_D A [(q0, oB 4 [.ref n7]), (n7, aI cy 24 ((fun _ => 0)))] := hD.sub [0, 1] (by decide) rfl
  exact hret _ _ _ _ (fun i => ([n7] : List Nat).getD i 0) dX4_init_12 hP9 hD9 hS

def fX3_init : Option Unit := (fX4_init).bind (fun r_9 => some r_9)
abbrev rmX3_init : Room := { frames := 2, cells := 4, slots := 37, locals := 32 }
set_option maxHeartbeats 4000000 in
set_option maxRecDepth 100000 in
theorem ktX3_init (l : Launch) (D : va_G) (cy : Nat → ClassId) (q0 : Nat) (r : Unit) (hf : fX3_init = some r) : CtN l yX3_init wsX3_init rmX3_init D cy [.ref q0] [(q0, oB 3 [.null, .null, .null, .int (0 : Int32), .int (0 : Int32), .int (0 : Int32), .int (0 : Int32)])] (fun qs => [(q0, oB 3 [.ref (qs 0), .ref (qs 2), .ref (qs 3), .int (0 : Int32), .int (0 : Int32), .int (0 : Int32), .int (1 : Int32)]), ((qs 0), oB 4 [.ref (qs 1)]), ((qs 1), aI cy 24 ((fun _ => 0))), ((qs 2), aI cy 6 ((fun _ => 0))), ((qs 3), aI cy 6 ((fun _ => 0)))]) 4 37 := by
  refine Ct_ofN (cc := cX3_init) (nL := 1) (by decide) rfl (Nat.le_of_ble_eq_true rfl) ?_
  intro p e s m args below meth c A Q hM hin9 hret hP hD hS ls hl
  obtain ⟨hx, hb, hml, hown, hts, hcx, hA, hsx⟩ := hM
  have hin9 : meth.name = "<init>" := hin9
  have hown : s.vm.findClass RX3 = some m.cls := hown
  have hK := hcx.1
  have hN := hcx.2
  have kw0 := hts (.methodLink RX3 3 objectInit) (List.mem_of_getElem? (i := 1) rfl)
  have kw1 := hts (.instanceMethod objectInit) (List.mem_of_getElem? (i := 2) rfl)
  have kw2 := hts (.code objectInit ⟨#[0xb1]⟩ 1 none) (List.mem_of_getElem? (i := 3) rfl)
  have kw3 := hts (.classLink RX3 9 RX4) (List.mem_of_getElem? (i := 4) rfl)
  have kw4 := hts (.instantiable RX4 1) (List.mem_of_getElem? (i := 5) rfl)
  have kw5 := hts (.initialized RX4) (List.mem_of_getElem? (i := 6) rfl)
  have kc6 : ∀ w ∈ wsX40, w ∈ wsX3_init := fun _ h => List.mem_cons_of_mem _ (List.mem_append_left _ (List.mem_append_right _ h))
  have kw7 := hts (.instanceMethod yX4_init) (List.mem_of_getElem? (i := 15) rfl)
  have kw8 := hts (.fieldLink RX3 12 "EachBrings$Village" "weights" "LEachBrings$Weights;") (List.mem_of_getElem? (i := 7) rfl)
  have kc9 : ∀ w ∈ wsX30, w ∈ wsX3_init := fun _ h => List.mem_cons_of_mem _ (List.mem_append_right _ h)
  have kw10 := hts (.arrayClass .int) (List.mem_of_getElem? (i := 8) rfl)
  have kw11 := hts (.fieldLink RX3 18 "EachBrings$Village" "eats" "[I") (List.mem_of_getElem? (i := 9) rfl)
  have kw12 := hts (.fieldLink RX3 22 "EachBrings$Village" "barred" "[I") (List.mem_of_getElem? (i := 10) rfl)
  have kw13 := hts (.fieldLink RX3 25 "EachBrings$Village" "houses" "I") (List.mem_of_getElem? (i := 11) rfl)
  have kw14 := hts (.fieldLink RX3 29 "EachBrings$Village" "law" "I") (List.mem_of_getElem? (i := 12) rfl)
  have kw15 := hts (.fieldLink RX3 32 "EachBrings$Village" "pride" "I") (List.mem_of_getElem? (i := 13) rfl)
  have kw16 := hts (.fieldLink RX3 35 "EachBrings$Village" "memory" "I") (List.mem_of_getElem? (i := 14) rfl)
  have hl : lv_has ls 1 [(0, .ref q0)] := hl
  unfold fX3_init at hf
  refine lv_aload_n hx hb dX3_init_0 rfl (lv_at hl 0 rfl) ?_
  refine W.objInit hx hb hown kw0 kw1 kw2 rfl (by rw [hml]; exact hl.1) rfl dX3_init_1 (Nat.le_of_ble_eq_true rfl) (Nat.le_of_ble_eq_true rfl) ?_
  refine W.eq (g2 := F0 m 4 ls []) rfl ?_
  refine lv_aload_n hx hb dX3_init_4 rfl (lv_at hl 0 rfl) ?_
  refine va_new (ci := 4) (fs := [.null]) (C := RX4) (T := TX4) (N := 1) hx hb hts kc6 tyX4 tyX4_ok hown kw3 kw4 kw5 hK hP hD hS hA rfl (fun j hj => by rcases (show j = 0 by omega) with rfl <;> rfl) (Nat.le_of_ble_eq_true rfl) (Nat.le_of_ble_eq_true rfl) dX3_init_5 (fun n5 H hP hD hS => ?_)
  have hP : va_P D vwCl [(q0, oB 3 [.null, .null, .null, .int (0 : Int32), .int (0 : Int32), .int (0 : Int32), .int (0 : Int32)]), (n5, oB 4 [.null])] H := hP
  have hD : va_D A [(q0, oB 3 [.null, .null, .null, .int (0 : Int32), .int (0 : Int32), .int (0 : Int32), .int (0 : Int32)]), (n5, oB 4 [.null])] := hD
  refine lv_dup hx hb dX3_init_8 rfl ?_
  obtain ⟨r_9, hr_9, hf⟩ := bd_some hf
  refine cl_n (wc := [(n5, oB 4 [.null])]) (wr := [(q0, oB 3 [.null, .null, .null, .int (0 : Int32), .int (0 : Int32), .int (0 : Int32), .int (0 : Int32)])]) (va_runIN (host := "EachBrings") (As := []) (rest := [.ref n5, .ref q0]) ⟨hx, hb, hml, hown, hts⟩ (ktX4_init l D cy n5 r_9 hr_9 _) ⟨va_cnB 0 hts gX3_init_X4_init_n11 rfl rfl rfl (hN.at 2 rfl) kw5 (by decide +kernel) ⟨Nat.le_of_ble_eq_true rfl, Nat.le_of_ble_eq_true rfl⟩, rfl, kw7⟩ (pre_S (wc := [(n5, oB 4 [.null])]) hcx hsx hS hA hP hD [1] rfl (by decide)) rfl rfl hl.1 rfl (lv_room (Nat.le_of_ble_eq_true rfl)) dX3_init_9 ⟨Nat.le_of_ble_eq_true rfl, Nat.le_of_ble_eq_true rfl⟩) hP hD hS hA [1] [0] rfl rfl (by decide) (by decide) (fun g9 H locs hP hD hS => ?_)
  have hP : va_P D vwCl [(q0, oB 3 [.null, .null, .null, .int (0 : Int32), .int (0 : Int32), .int (0 : Int32), .int (0 : Int32)]), (n5, oB 4 [.ref (g9 0)]), ((g9 0), aI cy 24 ((fun _ => 0)))] H := hP
  have hD : va_D A [(q0, oB 3 [.null, .null, .null, .int (0 : Int32), .int (0 : Int32), .int (0 : Int32), .int (0 : Int32)]), (n5, oB 4 [.ref (g9 0)]), ((g9 0), aI cy 24 ((fun _ => 0)))] := hD
  refine va_putF (D := D) (ci := 3) (v := .ref n5) (ty := .object "EachBrings$Weights") (C := RX3) (T := TX3) (N := 7) hx hb hts kc9 tyX3 tyX3_ok nmX3 hown hK hP hD hS 0 rfl rfl 0 (by decide) kw8 (fun _ h9 => h9) rfl hin9 rfl (by decide +kernel) rfl rfl (Nat.le_of_ble_eq_true rfl) dX3_init_12 (fun H locs hP hD hS => ?_)
  have hP : va_P D vwCl [(q0, oB 3 [.ref n5, .null, .null, .int (0 : Int32), .int (0 : Int32), .int (0 : Int32), .int (0 : Int32)]), (n5, oB 4 [.ref (g9 0)]), ((g9 0), aI cy 24 ((fun _ => 0)))] H := hP
  have hD : va_D A [(q0, oB 3 [.ref n5, .null, .null, .int (0 : Int32), .int (0 : Int32), .int (0 : Int32), .int (0 : Int32)]), (n5, oB 4 [.ref (g9 0)]), ((g9 0), aI cy 24 ((fun _ => 0)))] := hD
  refine lv_aload_n hx hb dX3_init_15 rfl (lv_at hl 0 rfl) ?_
  refine lv_bipush (v := 6) hx hb dX3_init_16 (by decide) ?_
  refine nw_arr (atype := .int) (k := 0) (ty := .int) (a0 := (6, .inl (fun _ => 0))) (n := 6) (N1 := 6) hx hb kw10 rfl rfl hK hP hD hS hA (ar_aI 6) (by decide) (by decide) (by decide) (Nat.le_of_ble_eq_true rfl) (Nat.le_of_ble_eq_true rfl) (ra_aI s) rfl dX3_init_18 (fun n18 H hP hD hS => ?_)
  have hP : va_P D vwCl [(q0, oB 3 [.ref n5, .null, .null, .int (0 : Int32), .int (0 : Int32), .int (0 : Int32), .int (0 : Int32)]), (n5, oB 4 [.ref (g9 0)]), ((g9 0), aI cy 24 ((fun _ => 0))), (n18, aI cy 6 ((fun _ => 0)))] H := hP
  have hD : va_D A [(q0, oB 3 [.ref n5, .null, .null, .int (0 : Int32), .int (0 : Int32), .int (0 : Int32), .int (0 : Int32)]), (n5, oB 4 [.ref (g9 0)]), ((g9 0), aI cy 24 ((fun _ => 0))), (n18, aI cy 6 ((fun _ => 0)))] := hD
  refine va_putF (D := D) (ci := 3) (v := .ref n18) (ty := .array .int) (C := RX3) (T := TX3) (N := 7) hx hb hts kc9 tyX3 tyX3_ok nmX3 hown hK hP hD hS 0 rfl rfl 1 (by decide) kw11 (fun _ h9 => h9) rfl hin9 rfl (by decide +kernel) rfl rfl (Nat.le_of_ble_eq_true rfl) dX3_init_20 (fun H locs hP hD hS => ?_)
  have hP : va_P D vwCl [(q0, oB 3 [.ref n5, .ref n18, .null, .int (0 : Int32), .int (0 : Int32), .int (0 : Int32), .int (0 : Int32)]), (n5, oB 4 [.ref (g9 0)]), ((g9 0), aI cy 24 ((fun _ => 0))), (n18, aI cy 6 ((fun _ => 0)))] H := hP
  have hD : va_D A [(q0, oB 3 [.ref n5, .ref n18, .null, .int (0 : Int32), .int (0 : Int32), .int (0 : Int32), .int (0 : Int32)]), (n5, oB 4 [.ref (g9 0)]), ((g9 0), aI cy 24 ((fun _ => 0))), (n18, aI cy 6 ((fun _ => 0)))] := hD
  refine lv_aload_n hx hb dX3_init_23 rfl (lv_at hl 0 rfl) ?_
  refine lv_bipush (v := 6) hx hb dX3_init_24 (by decide) ?_
  refine nw_arr (atype := .int) (k := 0) (ty := .int) (a0 := (6, .inl (fun _ => 0))) (n := 6) (N1 := 6) hx hb kw10 rfl rfl hK hP hD hS hA (ar_aI 6) (by decide) (by decide) (by decide) (Nat.le_of_ble_eq_true rfl) (Nat.le_of_ble_eq_true rfl) (ra_aI s) rfl dX3_init_26 (fun n26 H hP hD hS => ?_)
  have hP : va_P D vwCl [(q0, oB 3 [.ref n5, .ref n18, .null, .int (0 : Int32), .int (0 : Int32), .int (0 : Int32), .int (0 : Int32)]), (n5, oB 4 [.ref (g9 0)]), ((g9 0), aI cy 24 ((fun _ => 0))), (n18, aI cy 6 ((fun _ => 0))), (n26, aI cy 6 ((fun _ => 0)))] H := hP
  have hD : va_D A [(q0, oB 3 [.ref n5, .ref n18, .null, .int (0 : Int32), .int (0 : Int32), .int (0 : Int32), .int (0 : Int32)]), (n5, oB 4 [.ref (g9 0)]), ((g9 0), aI cy 24 ((fun _ => 0))), (n18, aI cy 6 ((fun _ => 0))), (n26, aI cy 6 ((fun _ => 0)))] := hD
  refine va_putF (D := D) (ci := 3) (v := .ref n26) (ty := .array .int) (C := RX3) (T := TX3) (N := 7) hx hb hts kc9 tyX3 tyX3_ok nmX3 hown hK hP hD hS 0 rfl rfl 2 (by decide) kw12 (fun _ h9 => h9) rfl hin9 rfl (by decide +kernel) rfl rfl (Nat.le_of_ble_eq_true rfl) dX3_init_28 (fun H locs hP hD hS => ?_)
  have hP : va_P D vwCl [(q0, oB 3 [.ref n5, .ref n18, .ref n26, .int (0 : Int32), .int (0 : Int32), .int (0 : Int32), .int (0 : Int32)]), (n5, oB 4 [.ref (g9 0)]), ((g9 0), aI cy 24 ((fun _ => 0))), (n18, aI cy 6 ((fun _ => 0))), (n26, aI cy 6 ((fun _ => 0)))] H := hP
  have hD : va_D A [(q0, oB 3 [.ref n5, .ref n18, .ref n26, .int (0 : Int32), .int (0 : Int32), .int (0 : Int32), .int (0 : Int32)]), (n5, oB 4 [.ref (g9 0)]), ((g9 0), aI cy 24 ((fun _ => 0))), (n18, aI cy 6 ((fun _ => 0))), (n26, aI cy 6 ((fun _ => 0)))] := hD
  refine lv_aload_n hx hb dX3_init_31 rfl (lv_at hl 0 rfl) ?_
  refine lv_iconst (v := 0) hx hb dX3_init_32 (by decide) ?_
  refine va_put (D := D) (ci := 3) (v := .int (0 : Int32)) (ty := .int) (C := RX3) (T := TX3) (N := 7) hx hb hts kc9 tyX3 tyX3_ok nmX3 hown hK hP hD hS 0 rfl rfl 3 (by decide) kw13 (fun _ h9 => h9) rfl pfI rfl rfl (Nat.le_of_ble_eq_true rfl) dX3_init_33 (fun H locs hP hD hS => ?_)
  have hP : va_P D vwCl [(q0, oB 3 [.ref n5, .ref n18, .ref n26, .int (0 : Int32), .int (0 : Int32), .int (0 : Int32), .int (0 : Int32)]), (n5, oB 4 [.ref (g9 0)]), ((g9 0), aI cy 24 ((fun _ => 0))), (n18, aI cy 6 ((fun _ => 0))), (n26, aI cy 6 ((fun _ => 0)))] H := hP
  have hD : va_D A [(q0, oB 3 [.ref n5, .ref n18, .ref n26, .int (0 : Int32), .int (0 : Int32), .int (0 : Int32), .int (0 : Int32)]), (n5, oB 4 [.ref (g9 0)]), ((g9 0), aI cy 24 ((fun _ => 0))), (n18, aI cy 6 ((fun _ => 0))), (n26, aI cy 6 ((fun _ => 0)))] := hD
  refine lv_aload_n hx hb dX3_init_36 rfl (lv_at hl 0 rfl) ?_
  refine lv_iconst (v := 0) hx hb dX3_init_37 (by decide) ?_
  refine va_put (D := D) (ci := 3) (v := .int (0 : Int32)) (ty := .int) (C := RX3) (T := TX3) (N := 7) hx hb hts kc9 tyX3 tyX3_ok nmX3 hown hK hP hD hS 0 rfl rfl 4 (by decide) kw14 (fun _ h9 => h9) rfl pfI rfl rfl (Nat.le_of_ble_eq_true rfl) dX3_init_38 (fun H locs hP hD hS => ?_)
  have hP : va_P D vwCl [(q0, oB 3 [.ref n5, .ref n18, .ref n26, .int (0 : Int32), .int (0 : Int32), .int (0 : Int32), .int (0 : Int32)]), (n5, oB 4 [.ref (g9 0)]), ((g9 0), aI cy 24 ((fun _ => 0))), (n18, aI cy 6 ((fun _ => 0))), (n26, aI cy 6 ((fun _ => 0)))] H := hP
  have hD : va_D A [(q0, oB 3 [.ref n5, .ref n18, .ref n26, .int (0 : Int32), .int (0 : Int32), .int (0 : Int32), .int (0 : Int32)]), (n5, oB 4 [.ref (g9 0)]), ((g9 0), aI cy 24 ((fun _ => 0))), (n18, aI cy 6 ((fun _ => 0))), (n26, aI cy 6 ((fun _ => 0)))] := hD
  refine lv_aload_n hx hb dX3_init_41 rfl (lv_at hl 0 rfl) ?_
  refine lv_iconst (v := 0) hx hb dX3_init_42 (by decide) ?_
  refine va_put (D := D) (ci := 3) (v := .int (0 : Int32)) (ty := .int) (C := RX3) (T := TX3) (N := 7) hx hb hts kc9 tyX3 tyX3_ok nmX3 hown hK hP hD hS 0 rfl rfl 5 (by decide) kw15 (fun _ h9 => h9) rfl pfI rfl rfl (Nat.le_of_ble_eq_true rfl) dX3_init_43 (fun H locs hP hD hS => ?_)
  have hP : va_P D vwCl [(q0, oB 3 [.ref n5, .ref n18, .ref n26, .int (0 : Int32), .int (0 : Int32), .int (0 : Int32), .int (0 : Int32)]), (n5, oB 4 [.ref (g9 0)]), ((g9 0), aI cy 24 ((fun _ => 0))), (n18, aI cy 6 ((fun _ => 0))), (n26, aI cy 6 ((fun _ => 0)))] H := hP
  have hD : va_D A [(q0, oB 3 [.ref n5, .ref n18, .ref n26, .int (0 : Int32), .int (0 : Int32), .int (0 : Int32), .int (0 : Int32)]), (n5, oB 4 [.ref (g9 0)]), ((g9 0), aI cy 24 ((fun _ => 0))), (n18, aI cy 6 ((fun _ => 0))), (n26, aI cy 6 ((fun _ => 0)))] := hD
  refine lv_aload_n hx hb dX3_init_46 rfl (lv_at hl 0 rfl) ?_
  refine lv_iconst (v := 1) hx hb dX3_init_47 (by decide) ?_
  refine va_put (D := D) (ci := 3) (v := .int (1 : Int32)) (ty := .int) (C := RX3) (T := TX3) (N := 7) hx hb hts kc9 tyX3 tyX3_ok nmX3 hown hK hP hD hS 0 rfl rfl 6 (by decide) kw16 (fun _ h9 => h9) rfl pfI rfl rfl (Nat.le_of_ble_eq_true rfl) dX3_init_48 (fun H locs hP hD hS => ?_)
  have hP : va_P D vwCl [(q0, oB 3 [.ref n5, .ref n18, .ref n26, .int (0 : Int32), .int (0 : Int32), .int (0 : Int32), .int (1 : Int32)]), (n5, oB 4 [.ref (g9 0)]), ((g9 0), aI cy 24 ((fun _ => 0))), (n18, aI cy 6 ((fun _ => 0))), (n26, aI cy 6 ((fun _ => 0)))] H := hP
  have hD : va_D A [(q0, oB 3 [.ref n5, .ref n18, .ref n26, .int (0 : Int32), .int (0 : Int32), .int (0 : Int32), .int (1 : Int32)]), (n5, oB 4 [.ref (g9 0)]), ((g9 0), aI cy 24 ((fun _ => 0))), (n18, aI cy 6 ((fun _ => 0))), (n26, aI cy 6 ((fun _ => 0)))] := hD
  obtain rfl : r_9 = r := Option.some.inj hf
  have hP9 : va_P D vwCl [(q0, oB 3 [.ref n5, .ref n18, .ref n26, .int (0 : Int32), .int (0 : Int32), .int (0 : Int32), .int (1 : Int32)]), (n5, oB 4 [.ref (g9 0)]), ((g9 0), aI cy 24 ((fun _ => 0))), (n18, aI cy 6 ((fun _ => 0))), (n26, aI cy 6 ((fun _ => 0)))] H := hP.pick [0, 1, 2, 3, 4] rfl
  have hD9 : va_D A [(q0, oB 3 [.ref n5, .ref n18, .ref n26, .int (0 : Int32), .int (0 : Int32), .int (0 : Int32), .int (1 : Int32)]), (n5, oB 4 [.ref (g9 0)]), ((g9 0), aI cy 24 ((fun _ => 0))), (n18, aI cy 6 ((fun _ => 0))), (n26, aI cy 6 ((fun _ => 0)))] := hD.sub [0, 1, 2, 3, 4] (by decide) rfl
  exact hret _ _ _ _ (fun i => ([n5, (g9 0), n18, n26] : List Nat).getD i 0) dX3_init_51 hP9 hD9 hS

def fX1_init : Option (Unit × (Int32 × (Nat → Int32) × (Nat → Int32) × (Nat → Int32) × (Nat → Int32))) := (fX4_init).bind (fun r_9 => (fX1_clearTable ((fun _ => 0)) ((fun _ => 0)) ((fun _ => 0)) ((fun _ => 0))).bind (fun r_62 => some (r_9, r_62)))
abbrev rmX1_init : Room := { frames := 2, cells := 6, slots := 65, locals := 32 }
set_option maxHeartbeats 4000000 in
set_option maxRecDepth 100000 in
theorem ktX1_init (l : Launch) (D : va_G) (cy : Nat → ClassId) (q0 : Nat) (r : Unit × (Int32 × (Nat → Int32) × (Nat → Int32) × (Nat → Int32) × (Nat → Int32))) (hf : fX1_init = some r) : CtN l yX1_init wsX1_init rmX1_init D cy [.ref q0] [(q0, oB 1 [.null, .null, .null, .null, .null, .int (0 : Int32), .int (0 : Int32), .int (0 : Int32)])] (fun qs => [(q0, oB 1 [.ref (qs 0), .ref (qs 2), .ref (qs 3), .ref (qs 4), .ref (qs 5), .int r.2.1, .int (0 : Int32), .int (0 : Int32)]), ((qs 0), oB 4 [.ref (qs 1)]), ((qs 1), aI cy 24 ((fun _ => 0))), ((qs 2), aI cy 6 r.2.2.1), ((qs 3), aI cy 4 r.2.2.2.1), ((qs 4), aI cy 24 r.2.2.2.2.1), ((qs 5), aI cy 6 r.2.2.2.2.2)]) 6 65 := by
  refine Ct_ofN (cc := cX1_init) (nL := 1) (by decide) rfl (Nat.le_of_ble_eq_true rfl) ?_
  intro p e s m args below meth c A Q hM hin9 hret hP hD hS ls hl
  obtain ⟨hx, hb, hml, hown, hts, hcx, hA, hsx⟩ := hM
  have hin9 : meth.name = "<init>" := hin9
  have hown : s.vm.findClass RX1 = some m.cls := hown
  have hK := hcx.1
  have hN := hcx.2
  have kw0 := hts (.methodLink RX1 3 objectInit) (List.mem_of_getElem? (i := 1) rfl)
  have kw1 := hts (.instanceMethod objectInit) (List.mem_of_getElem? (i := 2) rfl)
  have kw2 := hts (.code objectInit ⟨#[0xb1]⟩ 1 none) (List.mem_of_getElem? (i := 3) rfl)
  have kw3 := hts (.classLink RX1 9 RX4) (List.mem_of_getElem? (i := 4) rfl)
  have kw4 := hts (.instantiable RX4 1) (List.mem_of_getElem? (i := 5) rfl)
  have kw5 := hts (.initialized RX4) (List.mem_of_getElem? (i := 6) rfl)
  have kc6 : ∀ w ∈ wsX40, w ∈ wsX1_init := fun _ h => List.mem_cons_of_mem _ (List.mem_append_left _ (List.mem_append_right _ h))
  have kw7 := hts (.instanceMethod yX4_init) (List.mem_of_getElem? (i := 16) rfl)
  have kw8 := hts (.fieldLink RX1 12 "EachBrings$Now" "weights" "LEachBrings$Weights;") (List.mem_of_getElem? (i := 7) rfl)
  have kc9 : ∀ w ∈ wsX10, w ∈ wsX1_init := fun _ h => List.mem_cons_of_mem _ (List.mem_append_right _ h)
  have kw10 := hts (.arrayClass .int) (List.mem_of_getElem? (i := 8) rfl)
  have kw11 := hts (.fieldLink RX1 18 "EachBrings$Now" "brought" "[I") (List.mem_of_getElem? (i := 9) rfl)
  have kw12 := hts (.fieldLink RX1 22 "EachBrings$Now" "left" "[I") (List.mem_of_getElem? (i := 10) rfl)
  have kw13 := hts (.fieldLink RX1 25 "EachBrings$Now" "spoons" "[I") (List.mem_of_getElem? (i := 11) rfl)
  have kw14 := hts (.fieldLink RX1 28 "EachBrings$Now" "health" "[I") (List.mem_of_getElem? (i := 12) rfl)
  have kw15 := hts (.fieldLink RX1 31 "EachBrings$Now" "eaten" "Z") (List.mem_of_getElem? (i := 13) rfl)
  have kw16 := hts (.fieldLink RX1 35 "EachBrings$Now" "year" "I") (List.mem_of_getElem? (i := 14) rfl)
  have kw17 := hts (.fieldLink RX1 39 "EachBrings$Now" "lot" "I") (List.mem_of_getElem? (i := 15) rfl)
  have hl : lv_has ls 1 [(0, .ref q0)] := hl
  unfold fX1_init at hf
  refine lv_aload_n hx hb dX1_init_0 rfl (lv_at hl 0 rfl) ?_
  refine W.objInit hx hb hown kw0 kw1 kw2 rfl (by rw [hml]; exact hl.1) rfl dX1_init_1 (Nat.le_of_ble_eq_true rfl) (Nat.le_of_ble_eq_true rfl) ?_
  refine W.eq (g2 := F0 m 4 ls []) rfl ?_
  refine lv_aload_n hx hb dX1_init_4 rfl (lv_at hl 0 rfl) ?_
  refine va_new (ci := 4) (fs := [.null]) (C := RX4) (T := TX4) (N := 1) hx hb hts kc6 tyX4 tyX4_ok hown kw3 kw4 kw5 hK hP hD hS hA rfl (fun j hj => by rcases (show j = 0 by omega) with rfl <;> rfl) (Nat.le_of_ble_eq_true rfl) (Nat.le_of_ble_eq_true rfl) dX1_init_5 (fun n5 H hP hD hS => ?_)
  have hP : va_P D vwCl [(q0, oB 1 [.null, .null, .null, .null, .null, .int (0 : Int32), .int (0 : Int32), .int (0 : Int32)]), (n5, oB 4 [.null])] H := hP
  have hD : va_D A [(q0, oB 1 [.null, .null, .null, .null, .null, .int (0 : Int32), .int (0 : Int32), .int (0 : Int32)]), (n5, oB 4 [.null])] := hD
  refine lv_dup hx hb dX1_init_8 rfl ?_
  obtain ⟨r_9, hr_9, hf⟩ := bd_some hf
  refine cl_n (wc := [(n5, oB 4 [.null])]) (wr := [(q0, oB 1 [.null, .null, .null, .null, .null, .int (0 : Int32), .int (0 : Int32), .int (0 : Int32)])]) (va_runIN (host := "EachBrings") (As := []) (rest := [.ref n5, .ref q0]) ⟨hx, hb, hml, hown, hts⟩ (ktX4_init l D cy n5 r_9 hr_9 _) ⟨va_cnB 0 hts gX1_init_X4_init_n11 rfl rfl rfl (hN.at 18 rfl) kw5 (by decide +kernel) ⟨Nat.le_of_ble_eq_true rfl, Nat.le_of_ble_eq_true rfl⟩, rfl, kw7⟩ (pre_S (wc := [(n5, oB 4 [.null])]) hcx hsx hS hA hP hD [1] rfl (by decide)) rfl rfl hl.1 rfl (lv_room (Nat.le_of_ble_eq_true rfl)) dX1_init_9 ⟨Nat.le_of_ble_eq_true rfl, Nat.le_of_ble_eq_true rfl⟩) hP hD hS hA [1] [0] rfl rfl (by decide) (by decide) (fun g9 H locs hP hD hS => ?_)
  have hP : va_P D vwCl [(q0, oB 1 [.null, .null, .null, .null, .null, .int (0 : Int32), .int (0 : Int32), .int (0 : Int32)]), (n5, oB 4 [.ref (g9 0)]), ((g9 0), aI cy 24 ((fun _ => 0)))] H := hP
  have hD : va_D A [(q0, oB 1 [.null, .null, .null, .null, .null, .int (0 : Int32), .int (0 : Int32), .int (0 : Int32)]), (n5, oB 4 [.ref (g9 0)]), ((g9 0), aI cy 24 ((fun _ => 0)))] := hD
  refine va_putF (D := D) (ci := 1) (v := .ref n5) (ty := .object "EachBrings$Weights") (C := RX1) (T := TX1) (N := 8) hx hb hts kc9 tyX1 tyX1_ok nmX1 hown hK hP hD hS 0 rfl rfl 0 (by decide) kw8 (fun _ h9 => h9) rfl hin9 rfl (by decide +kernel) rfl rfl (Nat.le_of_ble_eq_true rfl) dX1_init_12 (fun H locs hP hD hS => ?_)
  have hP : va_P D vwCl [(q0, oB 1 [.ref n5, .null, .null, .null, .null, .int (0 : Int32), .int (0 : Int32), .int (0 : Int32)]), (n5, oB 4 [.ref (g9 0)]), ((g9 0), aI cy 24 ((fun _ => 0)))] H := hP
  have hD : va_D A [(q0, oB 1 [.ref n5, .null, .null, .null, .null, .int (0 : Int32), .int (0 : Int32), .int (0 : Int32)]), (n5, oB 4 [.ref (g9 0)]), ((g9 0), aI cy 24 ((fun _ => 0)))] := hD
  refine lv_aload_n hx hb dX1_init_15 rfl (lv_at hl 0 rfl) ?_
  refine lv_bipush (v := 6) hx hb dX1_init_16 (by decide) ?_
  refine nw_arr (atype := .int) (k := 0) (ty := .int) (a0 := (6, .inl (fun _ => 0))) (n := 6) (N1 := 6) hx hb kw10 rfl rfl hK hP hD hS hA (ar_aI 6) (by decide) (by decide) (by decide) (Nat.le_of_ble_eq_true rfl) (Nat.le_of_ble_eq_true rfl) (ra_aI s) rfl dX1_init_18 (fun n18 H hP hD hS => ?_)
  have hP : va_P D vwCl [(q0, oB 1 [.ref n5, .null, .null, .null, .null, .int (0 : Int32), .int (0 : Int32), .int (0 : Int32)]), (n5, oB 4 [.ref (g9 0)]), ((g9 0), aI cy 24 ((fun _ => 0))), (n18, aI cy 6 ((fun _ => 0)))] H := hP
  have hD : va_D A [(q0, oB 1 [.ref n5, .null, .null, .null, .null, .int (0 : Int32), .int (0 : Int32), .int (0 : Int32)]), (n5, oB 4 [.ref (g9 0)]), ((g9 0), aI cy 24 ((fun _ => 0))), (n18, aI cy 6 ((fun _ => 0)))] := hD
  refine va_putF (D := D) (ci := 1) (v := .ref n18) (ty := .array .int) (C := RX1) (T := TX1) (N := 8) hx hb hts kc9 tyX1 tyX1_ok nmX1 hown hK hP hD hS 0 rfl rfl 1 (by decide) kw11 (fun _ h9 => h9) rfl hin9 rfl (by decide +kernel) rfl rfl (Nat.le_of_ble_eq_true rfl) dX1_init_20 (fun H locs hP hD hS => ?_)
  have hP : va_P D vwCl [(q0, oB 1 [.ref n5, .ref n18, .null, .null, .null, .int (0 : Int32), .int (0 : Int32), .int (0 : Int32)]), (n5, oB 4 [.ref (g9 0)]), ((g9 0), aI cy 24 ((fun _ => 0))), (n18, aI cy 6 ((fun _ => 0)))] H := hP
  have hD : va_D A [(q0, oB 1 [.ref n5, .ref n18, .null, .null, .null, .int (0 : Int32), .int (0 : Int32), .int (0 : Int32)]), (n5, oB 4 [.ref (g9 0)]), ((g9 0), aI cy 24 ((fun _ => 0))), (n18, aI cy 6 ((fun _ => 0)))] := hD
  refine lv_aload_n hx hb dX1_init_23 rfl (lv_at hl 0 rfl) ?_
  refine lv_iconst (v := 4) hx hb dX1_init_24 (by decide) ?_
  refine nw_arr (atype := .int) (k := 0) (ty := .int) (a0 := (4, .inl (fun _ => 0))) (n := 4) (N1 := 4) hx hb kw10 rfl rfl hK hP hD hS hA (ar_aI 4) (by decide) (by decide) (by decide) (Nat.le_of_ble_eq_true rfl) (Nat.le_of_ble_eq_true rfl) (ra_aI s) rfl dX1_init_25 (fun n25 H hP hD hS => ?_)
  have hP : va_P D vwCl [(q0, oB 1 [.ref n5, .ref n18, .null, .null, .null, .int (0 : Int32), .int (0 : Int32), .int (0 : Int32)]), (n5, oB 4 [.ref (g9 0)]), ((g9 0), aI cy 24 ((fun _ => 0))), (n18, aI cy 6 ((fun _ => 0))), (n25, aI cy 4 ((fun _ => 0)))] H := hP
  have hD : va_D A [(q0, oB 1 [.ref n5, .ref n18, .null, .null, .null, .int (0 : Int32), .int (0 : Int32), .int (0 : Int32)]), (n5, oB 4 [.ref (g9 0)]), ((g9 0), aI cy 24 ((fun _ => 0))), (n18, aI cy 6 ((fun _ => 0))), (n25, aI cy 4 ((fun _ => 0)))] := hD
  refine va_putF (D := D) (ci := 1) (v := .ref n25) (ty := .array .int) (C := RX1) (T := TX1) (N := 8) hx hb hts kc9 tyX1 tyX1_ok nmX1 hown hK hP hD hS 0 rfl rfl 2 (by decide) kw12 (fun _ h9 => h9) rfl hin9 rfl (by decide +kernel) rfl rfl (Nat.le_of_ble_eq_true rfl) dX1_init_27 (fun H locs hP hD hS => ?_)
  have hP : va_P D vwCl [(q0, oB 1 [.ref n5, .ref n18, .ref n25, .null, .null, .int (0 : Int32), .int (0 : Int32), .int (0 : Int32)]), (n5, oB 4 [.ref (g9 0)]), ((g9 0), aI cy 24 ((fun _ => 0))), (n18, aI cy 6 ((fun _ => 0))), (n25, aI cy 4 ((fun _ => 0)))] H := hP
  have hD : va_D A [(q0, oB 1 [.ref n5, .ref n18, .ref n25, .null, .null, .int (0 : Int32), .int (0 : Int32), .int (0 : Int32)]), (n5, oB 4 [.ref (g9 0)]), ((g9 0), aI cy 24 ((fun _ => 0))), (n18, aI cy 6 ((fun _ => 0))), (n25, aI cy 4 ((fun _ => 0)))] := hD
  refine lv_aload_n hx hb dX1_init_30 rfl (lv_at hl 0 rfl) ?_
  refine lv_bipush (v := 24) hx hb dX1_init_31 (by decide) ?_
  refine nw_arr (atype := .int) (k := 0) (ty := .int) (a0 := (24, .inl (fun _ => 0))) (n := 24) (N1 := 24) hx hb kw10 rfl rfl hK hP hD hS hA (ar_aI 24) (by decide) (by decide) (by decide) (Nat.le_of_ble_eq_true rfl) (Nat.le_of_ble_eq_true rfl) (ra_aI s) rfl dX1_init_33 (fun n33 H hP hD hS => ?_)
  have hP : va_P D vwCl [(q0, oB 1 [.ref n5, .ref n18, .ref n25, .null, .null, .int (0 : Int32), .int (0 : Int32), .int (0 : Int32)]), (n5, oB 4 [.ref (g9 0)]), ((g9 0), aI cy 24 ((fun _ => 0))), (n18, aI cy 6 ((fun _ => 0))), (n25, aI cy 4 ((fun _ => 0))), (n33, aI cy 24 ((fun _ => 0)))] H := hP
  have hD : va_D A [(q0, oB 1 [.ref n5, .ref n18, .ref n25, .null, .null, .int (0 : Int32), .int (0 : Int32), .int (0 : Int32)]), (n5, oB 4 [.ref (g9 0)]), ((g9 0), aI cy 24 ((fun _ => 0))), (n18, aI cy 6 ((fun _ => 0))), (n25, aI cy 4 ((fun _ => 0))), (n33, aI cy 24 ((fun _ => 0)))] := hD
  refine va_putF (D := D) (ci := 1) (v := .ref n33) (ty := .array .int) (C := RX1) (T := TX1) (N := 8) hx hb hts kc9 tyX1 tyX1_ok nmX1 hown hK hP hD hS 0 rfl rfl 3 (by decide) kw13 (fun _ h9 => h9) rfl hin9 rfl (by decide +kernel) rfl rfl (Nat.le_of_ble_eq_true rfl) dX1_init_35 (fun H locs hP hD hS => ?_)
  have hP : va_P D vwCl [(q0, oB 1 [.ref n5, .ref n18, .ref n25, .ref n33, .null, .int (0 : Int32), .int (0 : Int32), .int (0 : Int32)]), (n5, oB 4 [.ref (g9 0)]), ((g9 0), aI cy 24 ((fun _ => 0))), (n18, aI cy 6 ((fun _ => 0))), (n25, aI cy 4 ((fun _ => 0))), (n33, aI cy 24 ((fun _ => 0)))] H := hP
  have hD : va_D A [(q0, oB 1 [.ref n5, .ref n18, .ref n25, .ref n33, .null, .int (0 : Int32), .int (0 : Int32), .int (0 : Int32)]), (n5, oB 4 [.ref (g9 0)]), ((g9 0), aI cy 24 ((fun _ => 0))), (n18, aI cy 6 ((fun _ => 0))), (n25, aI cy 4 ((fun _ => 0))), (n33, aI cy 24 ((fun _ => 0)))] := hD
  refine lv_aload_n hx hb dX1_init_38 rfl (lv_at hl 0 rfl) ?_
  refine lv_bipush (v := 6) hx hb dX1_init_39 (by decide) ?_
  refine nw_arr (atype := .int) (k := 0) (ty := .int) (a0 := (6, .inl (fun _ => 0))) (n := 6) (N1 := 6) hx hb kw10 rfl rfl hK hP hD hS hA (ar_aI 6) (by decide) (by decide) (by decide) (Nat.le_of_ble_eq_true rfl) (Nat.le_of_ble_eq_true rfl) (ra_aI s) rfl dX1_init_41 (fun n41 H hP hD hS => ?_)
  have hP : va_P D vwCl [(q0, oB 1 [.ref n5, .ref n18, .ref n25, .ref n33, .null, .int (0 : Int32), .int (0 : Int32), .int (0 : Int32)]), (n5, oB 4 [.ref (g9 0)]), ((g9 0), aI cy 24 ((fun _ => 0))), (n18, aI cy 6 ((fun _ => 0))), (n25, aI cy 4 ((fun _ => 0))), (n33, aI cy 24 ((fun _ => 0))), (n41, aI cy 6 ((fun _ => 0)))] H := hP
  have hD : va_D A [(q0, oB 1 [.ref n5, .ref n18, .ref n25, .ref n33, .null, .int (0 : Int32), .int (0 : Int32), .int (0 : Int32)]), (n5, oB 4 [.ref (g9 0)]), ((g9 0), aI cy 24 ((fun _ => 0))), (n18, aI cy 6 ((fun _ => 0))), (n25, aI cy 4 ((fun _ => 0))), (n33, aI cy 24 ((fun _ => 0))), (n41, aI cy 6 ((fun _ => 0)))] := hD
  refine va_putF (D := D) (ci := 1) (v := .ref n41) (ty := .array .int) (C := RX1) (T := TX1) (N := 8) hx hb hts kc9 tyX1 tyX1_ok nmX1 hown hK hP hD hS 0 rfl rfl 4 (by decide) kw14 (fun _ h9 => h9) rfl hin9 rfl (by decide +kernel) rfl rfl (Nat.le_of_ble_eq_true rfl) dX1_init_43 (fun H locs hP hD hS => ?_)
  have hP : va_P D vwCl [(q0, oB 1 [.ref n5, .ref n18, .ref n25, .ref n33, .ref n41, .int (0 : Int32), .int (0 : Int32), .int (0 : Int32)]), (n5, oB 4 [.ref (g9 0)]), ((g9 0), aI cy 24 ((fun _ => 0))), (n18, aI cy 6 ((fun _ => 0))), (n25, aI cy 4 ((fun _ => 0))), (n33, aI cy 24 ((fun _ => 0))), (n41, aI cy 6 ((fun _ => 0)))] H := hP
  have hD : va_D A [(q0, oB 1 [.ref n5, .ref n18, .ref n25, .ref n33, .ref n41, .int (0 : Int32), .int (0 : Int32), .int (0 : Int32)]), (n5, oB 4 [.ref (g9 0)]), ((g9 0), aI cy 24 ((fun _ => 0))), (n18, aI cy 6 ((fun _ => 0))), (n25, aI cy 4 ((fun _ => 0))), (n33, aI cy 24 ((fun _ => 0))), (n41, aI cy 6 ((fun _ => 0)))] := hD
  refine lv_aload_n hx hb dX1_init_46 rfl (lv_at hl 0 rfl) ?_
  refine lv_iconst (v := 0) hx hb dX1_init_47 (by decide) ?_
  refine va_put (D := D) (ci := 1) (v := .int (0 : Int32)) (ty := .boolean) (C := RX1) (T := TX1) (N := 8) hx hb hts kc9 tyX1 tyX1_ok nmX1 hown hK hP hD hS 0 rfl rfl 5 (by decide) kw15 (fun _ h9 => h9) rfl pfZ (isB.nar (by decide : isB 0)) (isB.fit (by decide : isB 0)) (Nat.le_of_ble_eq_true rfl) dX1_init_48 (fun H locs hP hD hS => ?_)
  have hP : va_P D vwCl [(q0, oB 1 [.ref n5, .ref n18, .ref n25, .ref n33, .ref n41, .int (0 : Int32), .int (0 : Int32), .int (0 : Int32)]), (n5, oB 4 [.ref (g9 0)]), ((g9 0), aI cy 24 ((fun _ => 0))), (n18, aI cy 6 ((fun _ => 0))), (n25, aI cy 4 ((fun _ => 0))), (n33, aI cy 24 ((fun _ => 0))), (n41, aI cy 6 ((fun _ => 0)))] H := hP
  have hD : va_D A [(q0, oB 1 [.ref n5, .ref n18, .ref n25, .ref n33, .ref n41, .int (0 : Int32), .int (0 : Int32), .int (0 : Int32)]), (n5, oB 4 [.ref (g9 0)]), ((g9 0), aI cy 24 ((fun _ => 0))), (n18, aI cy 6 ((fun _ => 0))), (n25, aI cy 4 ((fun _ => 0))), (n33, aI cy 24 ((fun _ => 0))), (n41, aI cy 6 ((fun _ => 0)))] := hD
  refine lv_aload_n hx hb dX1_init_51 rfl (lv_at hl 0 rfl) ?_
  refine lv_iconst (v := 0) hx hb dX1_init_52 (by decide) ?_
  refine va_put (D := D) (ci := 1) (v := .int (0 : Int32)) (ty := .int) (C := RX1) (T := TX1) (N := 8) hx hb hts kc9 tyX1 tyX1_ok nmX1 hown hK hP hD hS 0 rfl rfl 6 (by decide) kw16 (fun _ h9 => h9) rfl pfI rfl rfl (Nat.le_of_ble_eq_true rfl) dX1_init_53 (fun H locs hP hD hS => ?_)
  have hP : va_P D vwCl [(q0, oB 1 [.ref n5, .ref n18, .ref n25, .ref n33, .ref n41, .int (0 : Int32), .int (0 : Int32), .int (0 : Int32)]), (n5, oB 4 [.ref (g9 0)]), ((g9 0), aI cy 24 ((fun _ => 0))), (n18, aI cy 6 ((fun _ => 0))), (n25, aI cy 4 ((fun _ => 0))), (n33, aI cy 24 ((fun _ => 0))), (n41, aI cy 6 ((fun _ => 0)))] H := hP
  have hD : va_D A [(q0, oB 1 [.ref n5, .ref n18, .ref n25, .ref n33, .ref n41, .int (0 : Int32), .int (0 : Int32), .int (0 : Int32)]), (n5, oB 4 [.ref (g9 0)]), ((g9 0), aI cy 24 ((fun _ => 0))), (n18, aI cy 6 ((fun _ => 0))), (n25, aI cy 4 ((fun _ => 0))), (n33, aI cy 24 ((fun _ => 0))), (n41, aI cy 6 ((fun _ => 0)))] := hD
  refine lv_aload_n hx hb dX1_init_56 rfl (lv_at hl 0 rfl) ?_
  refine lv_iconst (v := 0) hx hb dX1_init_57 (by decide) ?_
  refine va_put (D := D) (ci := 1) (v := .int (0 : Int32)) (ty := .int) (C := RX1) (T := TX1) (N := 8) hx hb hts kc9 tyX1 tyX1_ok nmX1 hown hK hP hD hS 0 rfl rfl 7 (by decide) kw17 (fun _ h9 => h9) rfl pfI rfl rfl (Nat.le_of_ble_eq_true rfl) dX1_init_58 (fun H locs hP hD hS => ?_)
  have hP : va_P D vwCl [(q0, oB 1 [.ref n5, .ref n18, .ref n25, .ref n33, .ref n41, .int (0 : Int32), .int (0 : Int32), .int (0 : Int32)]), (n5, oB 4 [.ref (g9 0)]), ((g9 0), aI cy 24 ((fun _ => 0))), (n18, aI cy 6 ((fun _ => 0))), (n25, aI cy 4 ((fun _ => 0))), (n33, aI cy 24 ((fun _ => 0))), (n41, aI cy 6 ((fun _ => 0)))] H := hP
  have hD : va_D A [(q0, oB 1 [.ref n5, .ref n18, .ref n25, .ref n33, .ref n41, .int (0 : Int32), .int (0 : Int32), .int (0 : Int32)]), (n5, oB 4 [.ref (g9 0)]), ((g9 0), aI cy 24 ((fun _ => 0))), (n18, aI cy 6 ((fun _ => 0))), (n25, aI cy 4 ((fun _ => 0))), (n33, aI cy 24 ((fun _ => 0))), (n41, aI cy 6 ((fun _ => 0)))] := hD
  refine lv_aload_n hx hb dX1_init_61 rfl (lv_at hl 0 rfl) ?_
  obtain ⟨r_62, hr_62, hf⟩ := bd_some hf
  refine cl_v (wc := [(q0, oB 1 [.ref n5, .ref n18, .ref n25, .ref n33, .ref n41, .int (0 : Int32), .int (0 : Int32), .int (0 : Int32)]), (n18, aI cy 6 ((fun _ => 0))), (n25, aI cy 4 ((fun _ => 0))), (n33, aI cy 24 ((fun _ => 0))), (n41, aI cy 6 ((fun _ => 0)))]) (w1 := [(q0, oB 1 [.ref n5, .ref n18, .ref n25, .ref n33, .ref n41, .int r_62.1, .int (0 : Int32), .int (0 : Int32)]), (n18, aI cy 6 r_62.2.1), (n25, aI cy 4 r_62.2.2.1), (n33, aI cy 24 r_62.2.2.2.1), (n41, aI cy 6 r_62.2.2.2.2)]) (wr := [(n5, oB 4 [.ref (g9 0)]), ((g9 0), aI cy 24 ((fun _ => 0)))]) (w2 := [(q0, oB 1 [.ref n5, .ref n18, .ref n25, .ref n33, .ref n41, .int r_62.1, .int (0 : Int32), .int (0 : Int32)]), (n5, oB 4 [.ref (g9 0)]), ((g9 0), aI cy 24 ((fun _ => 0))), (n18, aI cy 6 r_62.2.1), (n25, aI cy 4 r_62.2.2.1), (n33, aI cy 24 r_62.2.2.2.1), (n41, aI cy 6 r_62.2.2.2.2)]) (va_runV (As := []) (rest := []) ⟨hx, hb, hml, hown, hts⟩ (ktX1_clearTable l D cy q0 n5 n18 n25 n33 n41 (0 : Int32) (0 : Int32) (0 : Int32) ((fun _ => 0)) ((fun _ => 0)) ((fun _ => 0)) ((fun _ => 0)) r_62 hr_62 _) (cwV 0 hts gX1_init_X1_clearTable rfl rfl rfl (by decide +kernel) ⟨Nat.le_of_ble_eq_true rfl, Nat.le_of_ble_eq_true rfl⟩) (pre_V (wc := [(q0, oB 1 [.ref n5, .ref n18, .ref n25, .ref n33, .ref n41, .int (0 : Int32), .int (0 : Int32), .int (0 : Int32)]), (n18, aI cy 6 ((fun _ => 0))), (n25, aI cy 4 ((fun _ => 0))), (n33, aI cy 24 ((fun _ => 0))), (n41, aI cy 6 ((fun _ => 0)))]) (ci := 1) hcx hsx hS hA hP hD [0, 3, 4, 5, 6] rfl (by decide) rfl rfl) rfl rfl hl.1 rfl (lv_room (Nat.le_of_ble_eq_true rfl)) dX1_init_62 ⟨Nat.le_of_ble_eq_true rfl, Nat.le_of_ble_eq_true rfl⟩) hP hD hS hA [0, 3, 4, 5, 6] [1, 2] [2, 0, 1, 3, 4, 5, 6] rfl rfl (by decide) (by decide) (by decide) rfl (fun H locs hP hD hS => ?_)
  obtain rfl : (r_9, r_62) = r := Option.some.inj hf
  have hP9 : va_P D vwCl [(q0, oB 1 [.ref n5, .ref n18, .ref n25, .ref n33, .ref n41, .int r_62.1, .int (0 : Int32), .int (0 : Int32)]), (n5, oB 4 [.ref (g9 0)]), ((g9 0), aI cy 24 ((fun _ => 0))), (n18, aI cy 6 r_62.2.1), (n25, aI cy 4 r_62.2.2.1), (n33, aI cy 24 r_62.2.2.2.1), (n41, aI cy 6 r_62.2.2.2.2)] H := hP.pick [0, 1, 2, 3, 4, 5, 6] rfl
  have hD9 : va_D A [(q0, oB 1 [.ref n5, .ref n18, .ref n25, .ref n33, .ref n41, .int r_62.1, .int (0 : Int32), .int (0 : Int32)]), (n5, oB 4 [.ref (g9 0)]), ((g9 0), aI cy 24 ((fun _ => 0))), (n18, aI cy 6 r_62.2.1), (n25, aI cy 4 r_62.2.2.1), (n33, aI cy 24 r_62.2.2.2.1), (n41, aI cy 6 r_62.2.2.2.2)] := hD.sub [0, 1, 2, 3, 4, 5, 6] (by decide) rfl
  exact hret _ _ _ _ (fun i => ([n5, (g9 0), n18, n25, n33, n41] : List Nat).getD i 0) dX1_init_65 hP9 hD9 hS

def fX0_init : Option Unit := some ()
abbrev rmX0_init : Room := { frames := 1, cells := 4, slots := 221, locals := 12 }
set_option maxHeartbeats 4000000 in
set_option maxRecDepth 100000 in
theorem ktX0_init (l : Launch) (D : va_G) (cy : Nat → ClassId) (q0 : Nat) (r : Unit) (hf : fX0_init = some r) : CtN l yX0_init wsX0_init rmX0_init D cy [.ref q0] [(q0, oB 0 [.null, .null, .null, .null, .int (0 : Int32), .int (0 : Int32)])] (fun qs => [(q0, oB 0 [.ref (qs 0), .ref (qs 1), .ref (qs 2), .ref (qs 3), .int (0 : Int32), .int (1 : Int32)]), ((qs 0), aJ cy 7 ((fun _ => 0))), ((qs 1), aJ cy 96 ((fun _ => 0))), ((qs 2), aJ cy 112 ((fun _ => 0))), ((qs 3), aI cy 6 ((fun _ => 0)))]) 4 221 := by
  refine Ct_ofN (cc := cX0_init) (nL := 1) (by decide) rfl (Nat.le_of_ble_eq_true rfl) ?_
  intro p e s m args below meth c A Q hM hin9 hret hP hD hS ls hl
  obtain ⟨hx, hb, hml, hown, hts, hcx, hA, hsx⟩ := hM
  have hin9 : meth.name = "<init>" := hin9
  have hown : s.vm.findClass RX0 = some m.cls := hown
  have hK := hcx.1
  have hN := hcx.2
  have kw0 := hts (.methodLink RX0 3 objectInit) (List.mem_of_getElem? (i := 1) rfl)
  have kw1 := hts (.instanceMethod objectInit) (List.mem_of_getElem? (i := 2) rfl)
  have kw2 := hts (.code objectInit ⟨#[0xb1]⟩ 1 none) (List.mem_of_getElem? (i := 3) rfl)
  have kw3 := hts (.arrayClass .long) (List.mem_of_getElem? (i := 4) rfl)
  have kw4 := hts (.fieldLink RX0 9 "EachBrings$Chances" "ways" "[J") (List.mem_of_getElem? (i := 5) rfl)
  have kc5 : ∀ w ∈ wsX00, w ∈ wsX0_init := fun _ h => List.mem_cons_of_mem _ (List.mem_append_right _ h)
  have kw6 := hts (.fieldLink RX0 15 "EachBrings$Chances" "avoiding" "[J") (List.mem_of_getElem? (i := 6) rfl)
  have kw7 := hts (.fieldLink RX0 18 "EachBrings$Chances" "rows" "[J") (List.mem_of_getElem? (i := 7) rfl)
  have kw8 := hts (.arrayClass .int) (List.mem_of_getElem? (i := 8) rfl)
  have kw9 := hts (.fieldLink RX0 21 "EachBrings$Chances" "told" "[I") (List.mem_of_getElem? (i := 9) rfl)
  have kw10 := hts (.fieldLink RX0 25 "EachBrings$Chances" "a" "I") (List.mem_of_getElem? (i := 10) rfl)
  have kw11 := hts (.fieldLink RX0 29 "EachBrings$Chances" "b" "I") (List.mem_of_getElem? (i := 11) rfl)
  have hl : lv_has ls 1 [(0, .ref q0)] := hl
  unfold fX0_init at hf
  refine lv_aload_n hx hb dX0_init_0 rfl (lv_at hl 0 rfl) ?_
  refine W.objInit hx hb hown kw0 kw1 kw2 rfl (by rw [hml]; exact hl.1) rfl dX0_init_1 (Nat.le_of_ble_eq_true rfl) (Nat.le_of_ble_eq_true rfl) ?_
  refine W.eq (g2 := F0 m 4 ls []) rfl ?_
  refine lv_aload_n hx hb dX0_init_4 rfl (lv_at hl 0 rfl) ?_
  refine lv_bipush (v := 7) hx hb dX0_init_5 (by decide) ?_
  refine nw_arr (atype := .long) (k := 1) (ty := .long) (a0 := (7, .inr (.inl (fun _ => 0)))) (n := 7) (N1 := 7) hx hb kw3 rfl rfl hK hP hD hS hA (ar_aJ 7) (by decide) (by decide) (by decide) (Nat.le_of_ble_eq_true rfl) (Nat.le_of_ble_eq_true rfl) (ra_aJ s) rfl dX0_init_7 (fun n7 H hP hD hS => ?_)
  have hP : va_P D vwCl [(q0, oB 0 [.null, .null, .null, .null, .int (0 : Int32), .int (0 : Int32)]), (n7, aJ cy 7 ((fun _ => 0)))] H := hP
  have hD : va_D A [(q0, oB 0 [.null, .null, .null, .null, .int (0 : Int32), .int (0 : Int32)]), (n7, aJ cy 7 ((fun _ => 0)))] := hD
  refine va_putF (D := D) (ci := 0) (v := .ref n7) (ty := .array .long) (C := RX0) (T := TX0) (N := 6) hx hb hts kc5 tyX0 tyX0_ok nmX0 hown hK hP hD hS 0 rfl rfl 0 (by decide) kw4 (fun _ h9 => h9) rfl hin9 rfl (by decide +kernel) rfl rfl (Nat.le_of_ble_eq_true rfl) dX0_init_9 (fun H locs hP hD hS => ?_)
  have hP : va_P D vwCl [(q0, oB 0 [.ref n7, .null, .null, .null, .int (0 : Int32), .int (0 : Int32)]), (n7, aJ cy 7 ((fun _ => 0)))] H := hP
  have hD : va_D A [(q0, oB 0 [.ref n7, .null, .null, .null, .int (0 : Int32), .int (0 : Int32)]), (n7, aJ cy 7 ((fun _ => 0)))] := hD
  refine lv_aload_n hx hb dX0_init_12 rfl (lv_at hl 0 rfl) ?_
  refine lv_bipush (v := 96) hx hb dX0_init_13 (by decide) ?_
  refine nw_arr (atype := .long) (k := 1) (ty := .long) (a0 := (96, .inr (.inl (fun _ => 0)))) (n := 96) (N1 := 96) hx hb kw3 rfl rfl hK hP hD hS hA (ar_aJ 96) (by decide) (by decide) (by decide) (Nat.le_of_ble_eq_true rfl) (Nat.le_of_ble_eq_true rfl) (ra_aJ s) rfl dX0_init_15 (fun n15 H hP hD hS => ?_)
  have hP : va_P D vwCl [(q0, oB 0 [.ref n7, .null, .null, .null, .int (0 : Int32), .int (0 : Int32)]), (n7, aJ cy 7 ((fun _ => 0))), (n15, aJ cy 96 ((fun _ => 0)))] H := hP
  have hD : va_D A [(q0, oB 0 [.ref n7, .null, .null, .null, .int (0 : Int32), .int (0 : Int32)]), (n7, aJ cy 7 ((fun _ => 0))), (n15, aJ cy 96 ((fun _ => 0)))] := hD
  refine va_putF (D := D) (ci := 0) (v := .ref n15) (ty := .array .long) (C := RX0) (T := TX0) (N := 6) hx hb hts kc5 tyX0 tyX0_ok nmX0 hown hK hP hD hS 0 rfl rfl 1 (by decide) kw6 (fun _ h9 => h9) rfl hin9 rfl (by decide +kernel) rfl rfl (Nat.le_of_ble_eq_true rfl) dX0_init_17 (fun H locs hP hD hS => ?_)
  have hP : va_P D vwCl [(q0, oB 0 [.ref n7, .ref n15, .null, .null, .int (0 : Int32), .int (0 : Int32)]), (n7, aJ cy 7 ((fun _ => 0))), (n15, aJ cy 96 ((fun _ => 0)))] H := hP
  have hD : va_D A [(q0, oB 0 [.ref n7, .ref n15, .null, .null, .int (0 : Int32), .int (0 : Int32)]), (n7, aJ cy 7 ((fun _ => 0))), (n15, aJ cy 96 ((fun _ => 0)))] := hD
  refine lv_aload_n hx hb dX0_init_20 rfl (lv_at hl 0 rfl) ?_
  refine lv_bipush (v := 112) hx hb dX0_init_21 (by decide) ?_
  refine nw_arr (atype := .long) (k := 1) (ty := .long) (a0 := (112, .inr (.inl (fun _ => 0)))) (n := 112) (N1 := 112) hx hb kw3 rfl rfl hK hP hD hS hA (ar_aJ 112) (by decide) (by decide) (by decide) (Nat.le_of_ble_eq_true rfl) (Nat.le_of_ble_eq_true rfl) (ra_aJ s) rfl dX0_init_23 (fun n23 H hP hD hS => ?_)
  have hP : va_P D vwCl [(q0, oB 0 [.ref n7, .ref n15, .null, .null, .int (0 : Int32), .int (0 : Int32)]), (n7, aJ cy 7 ((fun _ => 0))), (n15, aJ cy 96 ((fun _ => 0))), (n23, aJ cy 112 ((fun _ => 0)))] H := hP
  have hD : va_D A [(q0, oB 0 [.ref n7, .ref n15, .null, .null, .int (0 : Int32), .int (0 : Int32)]), (n7, aJ cy 7 ((fun _ => 0))), (n15, aJ cy 96 ((fun _ => 0))), (n23, aJ cy 112 ((fun _ => 0)))] := hD
  refine va_putF (D := D) (ci := 0) (v := .ref n23) (ty := .array .long) (C := RX0) (T := TX0) (N := 6) hx hb hts kc5 tyX0 tyX0_ok nmX0 hown hK hP hD hS 0 rfl rfl 2 (by decide) kw7 (fun _ h9 => h9) rfl hin9 rfl (by decide +kernel) rfl rfl (Nat.le_of_ble_eq_true rfl) dX0_init_25 (fun H locs hP hD hS => ?_)
  have hP : va_P D vwCl [(q0, oB 0 [.ref n7, .ref n15, .ref n23, .null, .int (0 : Int32), .int (0 : Int32)]), (n7, aJ cy 7 ((fun _ => 0))), (n15, aJ cy 96 ((fun _ => 0))), (n23, aJ cy 112 ((fun _ => 0)))] H := hP
  have hD : va_D A [(q0, oB 0 [.ref n7, .ref n15, .ref n23, .null, .int (0 : Int32), .int (0 : Int32)]), (n7, aJ cy 7 ((fun _ => 0))), (n15, aJ cy 96 ((fun _ => 0))), (n23, aJ cy 112 ((fun _ => 0)))] := hD
  refine lv_aload_n hx hb dX0_init_28 rfl (lv_at hl 0 rfl) ?_
  refine lv_bipush (v := 6) hx hb dX0_init_29 (by decide) ?_
  refine nw_arr (atype := .int) (k := 0) (ty := .int) (a0 := (6, .inl (fun _ => 0))) (n := 6) (N1 := 6) hx hb kw8 rfl rfl hK hP hD hS hA (ar_aI 6) (by decide) (by decide) (by decide) (Nat.le_of_ble_eq_true rfl) (Nat.le_of_ble_eq_true rfl) (ra_aI s) rfl dX0_init_31 (fun n31 H hP hD hS => ?_)
  have hP : va_P D vwCl [(q0, oB 0 [.ref n7, .ref n15, .ref n23, .null, .int (0 : Int32), .int (0 : Int32)]), (n7, aJ cy 7 ((fun _ => 0))), (n15, aJ cy 96 ((fun _ => 0))), (n23, aJ cy 112 ((fun _ => 0))), (n31, aI cy 6 ((fun _ => 0)))] H := hP
  have hD : va_D A [(q0, oB 0 [.ref n7, .ref n15, .ref n23, .null, .int (0 : Int32), .int (0 : Int32)]), (n7, aJ cy 7 ((fun _ => 0))), (n15, aJ cy 96 ((fun _ => 0))), (n23, aJ cy 112 ((fun _ => 0))), (n31, aI cy 6 ((fun _ => 0)))] := hD
  refine va_putF (D := D) (ci := 0) (v := .ref n31) (ty := .array .int) (C := RX0) (T := TX0) (N := 6) hx hb hts kc5 tyX0 tyX0_ok nmX0 hown hK hP hD hS 0 rfl rfl 3 (by decide) kw9 (fun _ h9 => h9) rfl hin9 rfl (by decide +kernel) rfl rfl (Nat.le_of_ble_eq_true rfl) dX0_init_33 (fun H locs hP hD hS => ?_)
  have hP : va_P D vwCl [(q0, oB 0 [.ref n7, .ref n15, .ref n23, .ref n31, .int (0 : Int32), .int (0 : Int32)]), (n7, aJ cy 7 ((fun _ => 0))), (n15, aJ cy 96 ((fun _ => 0))), (n23, aJ cy 112 ((fun _ => 0))), (n31, aI cy 6 ((fun _ => 0)))] H := hP
  have hD : va_D A [(q0, oB 0 [.ref n7, .ref n15, .ref n23, .ref n31, .int (0 : Int32), .int (0 : Int32)]), (n7, aJ cy 7 ((fun _ => 0))), (n15, aJ cy 96 ((fun _ => 0))), (n23, aJ cy 112 ((fun _ => 0))), (n31, aI cy 6 ((fun _ => 0)))] := hD
  refine lv_aload_n hx hb dX0_init_36 rfl (lv_at hl 0 rfl) ?_
  refine lv_iconst (v := 0) hx hb dX0_init_37 (by decide) ?_
  refine va_put (D := D) (ci := 0) (v := .int (0 : Int32)) (ty := .int) (C := RX0) (T := TX0) (N := 6) hx hb hts kc5 tyX0 tyX0_ok nmX0 hown hK hP hD hS 0 rfl rfl 4 (by decide) kw10 (fun _ h9 => h9) rfl pfI rfl rfl (Nat.le_of_ble_eq_true rfl) dX0_init_38 (fun H locs hP hD hS => ?_)
  have hP : va_P D vwCl [(q0, oB 0 [.ref n7, .ref n15, .ref n23, .ref n31, .int (0 : Int32), .int (0 : Int32)]), (n7, aJ cy 7 ((fun _ => 0))), (n15, aJ cy 96 ((fun _ => 0))), (n23, aJ cy 112 ((fun _ => 0))), (n31, aI cy 6 ((fun _ => 0)))] H := hP
  have hD : va_D A [(q0, oB 0 [.ref n7, .ref n15, .ref n23, .ref n31, .int (0 : Int32), .int (0 : Int32)]), (n7, aJ cy 7 ((fun _ => 0))), (n15, aJ cy 96 ((fun _ => 0))), (n23, aJ cy 112 ((fun _ => 0))), (n31, aI cy 6 ((fun _ => 0)))] := hD
  refine lv_aload_n hx hb dX0_init_41 rfl (lv_at hl 0 rfl) ?_
  refine lv_iconst (v := 1) hx hb dX0_init_42 (by decide) ?_
  refine va_put (D := D) (ci := 0) (v := .int (1 : Int32)) (ty := .int) (C := RX0) (T := TX0) (N := 6) hx hb hts kc5 tyX0 tyX0_ok nmX0 hown hK hP hD hS 0 rfl rfl 5 (by decide) kw11 (fun _ h9 => h9) rfl pfI rfl rfl (Nat.le_of_ble_eq_true rfl) dX0_init_43 (fun H locs hP hD hS => ?_)
  have hP : va_P D vwCl [(q0, oB 0 [.ref n7, .ref n15, .ref n23, .ref n31, .int (0 : Int32), .int (1 : Int32)]), (n7, aJ cy 7 ((fun _ => 0))), (n15, aJ cy 96 ((fun _ => 0))), (n23, aJ cy 112 ((fun _ => 0))), (n31, aI cy 6 ((fun _ => 0)))] H := hP
  have hD : va_D A [(q0, oB 0 [.ref n7, .ref n15, .ref n23, .ref n31, .int (0 : Int32), .int (1 : Int32)]), (n7, aJ cy 7 ((fun _ => 0))), (n15, aJ cy 96 ((fun _ => 0))), (n23, aJ cy 112 ((fun _ => 0))), (n31, aI cy 6 ((fun _ => 0)))] := hD
  obtain rfl : () = r := Option.some.inj hf
  have hP9 : va_P D vwCl [(q0, oB 0 [.ref n7, .ref n15, .ref n23, .ref n31, .int (0 : Int32), .int (1 : Int32)]), (n7, aJ cy 7 ((fun _ => 0))), (n15, aJ cy 96 ((fun _ => 0))), (n23, aJ cy 112 ((fun _ => 0))), (n31, aI cy 6 ((fun _ => 0)))] H := hP.pick [0, 1, 2, 3, 4] rfl
  have hD9 : va_D A [(q0, oB 0 [.ref n7, .ref n15, .ref n23, .ref n31, .int (0 : Int32), .int (1 : Int32)]), (n7, aJ cy 7 ((fun _ => 0))), (n15, aJ cy 96 ((fun _ => 0))), (n23, aJ cy 112 ((fun _ => 0))), (n31, aI cy 6 ((fun _ => 0)))] := hD.sub [0, 1, 2, 3, 4] (by decide) rfl
  exact hret _ _ _ _ (fun i => ([n7, n15, n23, n31] : List Nat).getD i 0) dX0_init_46 hP9 hD9 hS

def fX5_init : Option Unit := (fX4_init).bind (fun r_9 => some r_9)
abbrev rmX5_init : Room := { frames := 2, cells := 5, slots := 431, locals := 32 }
set_option maxHeartbeats 4000000 in
set_option maxRecDepth 100000 in
theorem ktX5_init (l : Launch) (D : va_G) (cy : Nat → ClassId) (q0 : Nat) (r : Unit) (hf : fX5_init = some r) : CtN l yX5_init wsX5_init rmX5_init D cy [.ref q0] [(q0, oB 5 [.null, .null, .null, .null, .int (0 : Int32), .int (0 : Int32)])] (fun qs => [(q0, oB 5 [.ref (qs 0), .ref (qs 2), .ref (qs 3), .ref (qs 4), .int (0 : Int32), .int (0 : Int32)]), ((qs 0), oB 4 [.ref (qs 1)]), ((qs 1), aI cy 24 ((fun _ => 0))), ((qs 2), aJ cy 201 ((fun _ => 0))), ((qs 3), aJ cy 201 ((fun _ => 0))), ((qs 4), aI cy 4 ((fun _ => 0)))]) 5 431 := by
  refine Ct_ofN (cc := cX5_init) (nL := 1) (by decide) rfl (Nat.le_of_ble_eq_true rfl) ?_
  intro p e s m args below meth c A Q hM hin9 hret hP hD hS ls hl
  obtain ⟨hx, hb, hml, hown, hts, hcx, hA, hsx⟩ := hM
  have hin9 : meth.name = "<init>" := hin9
  have hown : s.vm.findClass RX5 = some m.cls := hown
  have hK := hcx.1
  have hN := hcx.2
  have kw0 := hts (.methodLink RX5 3 objectInit) (List.mem_of_getElem? (i := 1) rfl)
  have kw1 := hts (.instanceMethod objectInit) (List.mem_of_getElem? (i := 2) rfl)
  have kw2 := hts (.code objectInit ⟨#[0xb1]⟩ 1 none) (List.mem_of_getElem? (i := 3) rfl)
  have kw3 := hts (.classLink RX5 9 RX4) (List.mem_of_getElem? (i := 4) rfl)
  have kw4 := hts (.instantiable RX4 1) (List.mem_of_getElem? (i := 5) rfl)
  have kw5 := hts (.initialized RX4) (List.mem_of_getElem? (i := 6) rfl)
  have kc6 : ∀ w ∈ wsX40, w ∈ wsX5_init := fun _ h => List.mem_cons_of_mem _ (List.mem_append_left _ (List.mem_append_right _ h))
  have kw7 := hts (.instanceMethod yX4_init) (List.mem_of_getElem? (i := 15) rfl)
  have kw8 := hts (.fieldLink RX5 12 "EachBrings$Years" "weights" "LEachBrings$Weights;") (List.mem_of_getElem? (i := 7) rfl)
  have kc9 : ∀ w ∈ wsX50, w ∈ wsX5_init := fun _ h => List.mem_cons_of_mem _ (List.mem_append_right _ h)
  have kw10 := hts (.arrayClass .long) (List.mem_of_getElem? (i := 8) rfl)
  have kw11 := hts (.fieldLink RX5 18 "EachBrings$Years" "early" "[J") (List.mem_of_getElem? (i := 9) rfl)
  have kw12 := hts (.fieldLink RX5 22 "EachBrings$Years" "late" "[J") (List.mem_of_getElem? (i := 10) rfl)
  have kw13 := hts (.arrayClass .int) (List.mem_of_getElem? (i := 11) rfl)
  have kw14 := hts (.fieldLink RX5 25 "EachBrings$Years" "bringers" "[I") (List.mem_of_getElem? (i := 12) rfl)
  have kw15 := hts (.fieldLink RX5 29 "EachBrings$Years" "first" "I") (List.mem_of_getElem? (i := 13) rfl)
  have kw16 := hts (.fieldLink RX5 33 "EachBrings$Years" "later" "I") (List.mem_of_getElem? (i := 14) rfl)
  have hl : lv_has ls 1 [(0, .ref q0)] := hl
  unfold fX5_init at hf
  refine lv_aload_n hx hb dX5_init_0 rfl (lv_at hl 0 rfl) ?_
  refine W.objInit hx hb hown kw0 kw1 kw2 rfl (by rw [hml]; exact hl.1) rfl dX5_init_1 (Nat.le_of_ble_eq_true rfl) (Nat.le_of_ble_eq_true rfl) ?_
  refine W.eq (g2 := F0 m 4 ls []) rfl ?_
  refine lv_aload_n hx hb dX5_init_4 rfl (lv_at hl 0 rfl) ?_
  refine va_new (ci := 4) (fs := [.null]) (C := RX4) (T := TX4) (N := 1) hx hb hts kc6 tyX4 tyX4_ok hown kw3 kw4 kw5 hK hP hD hS hA rfl (fun j hj => by rcases (show j = 0 by omega) with rfl <;> rfl) (Nat.le_of_ble_eq_true rfl) (Nat.le_of_ble_eq_true rfl) dX5_init_5 (fun n5 H hP hD hS => ?_)
  have hP : va_P D vwCl [(q0, oB 5 [.null, .null, .null, .null, .int (0 : Int32), .int (0 : Int32)]), (n5, oB 4 [.null])] H := hP
  have hD : va_D A [(q0, oB 5 [.null, .null, .null, .null, .int (0 : Int32), .int (0 : Int32)]), (n5, oB 4 [.null])] := hD
  refine lv_dup hx hb dX5_init_8 rfl ?_
  obtain ⟨r_9, hr_9, hf⟩ := bd_some hf
  refine cl_n (wc := [(n5, oB 4 [.null])]) (wr := [(q0, oB 5 [.null, .null, .null, .null, .int (0 : Int32), .int (0 : Int32)])]) (va_runIN (host := "EachBrings") (As := []) (rest := [.ref n5, .ref q0]) ⟨hx, hb, hml, hown, hts⟩ (ktX4_init l D cy n5 r_9 hr_9 _) ⟨va_cnB 0 hts gX5_init_X4_init_n11 rfl rfl rfl (hN.at 29 rfl) kw5 (by decide +kernel) ⟨Nat.le_of_ble_eq_true rfl, Nat.le_of_ble_eq_true rfl⟩, rfl, kw7⟩ (pre_S (wc := [(n5, oB 4 [.null])]) hcx hsx hS hA hP hD [1] rfl (by decide)) rfl rfl hl.1 rfl (lv_room (Nat.le_of_ble_eq_true rfl)) dX5_init_9 ⟨Nat.le_of_ble_eq_true rfl, Nat.le_of_ble_eq_true rfl⟩) hP hD hS hA [1] [0] rfl rfl (by decide) (by decide) (fun g9 H locs hP hD hS => ?_)
  have hP : va_P D vwCl [(q0, oB 5 [.null, .null, .null, .null, .int (0 : Int32), .int (0 : Int32)]), (n5, oB 4 [.ref (g9 0)]), ((g9 0), aI cy 24 ((fun _ => 0)))] H := hP
  have hD : va_D A [(q0, oB 5 [.null, .null, .null, .null, .int (0 : Int32), .int (0 : Int32)]), (n5, oB 4 [.ref (g9 0)]), ((g9 0), aI cy 24 ((fun _ => 0)))] := hD
  refine va_putF (D := D) (ci := 5) (v := .ref n5) (ty := .object "EachBrings$Weights") (C := RX5) (T := TX5) (N := 6) hx hb hts kc9 tyX5 tyX5_ok nmX5 hown hK hP hD hS 0 rfl rfl 0 (by decide) kw8 (fun _ h9 => h9) rfl hin9 rfl (by decide +kernel) rfl rfl (Nat.le_of_ble_eq_true rfl) dX5_init_12 (fun H locs hP hD hS => ?_)
  have hP : va_P D vwCl [(q0, oB 5 [.ref n5, .null, .null, .null, .int (0 : Int32), .int (0 : Int32)]), (n5, oB 4 [.ref (g9 0)]), ((g9 0), aI cy 24 ((fun _ => 0)))] H := hP
  have hD : va_D A [(q0, oB 5 [.ref n5, .null, .null, .null, .int (0 : Int32), .int (0 : Int32)]), (n5, oB 4 [.ref (g9 0)]), ((g9 0), aI cy 24 ((fun _ => 0)))] := hD
  refine lv_aload_n hx hb dX5_init_15 rfl (lv_at hl 0 rfl) ?_
  refine lv_sipush (v := 201) hx hb dX5_init_16 (by decide) ?_
  refine nw_arr (atype := .long) (k := 1) (ty := .long) (a0 := (201, .inr (.inl (fun _ => 0)))) (n := 201) (N1 := 201) hx hb kw10 rfl rfl hK hP hD hS hA (ar_aJ 201) (by decide) (by decide) (by decide) (Nat.le_of_ble_eq_true rfl) (Nat.le_of_ble_eq_true rfl) (ra_aJ s) rfl dX5_init_19 (fun n19 H hP hD hS => ?_)
  have hP : va_P D vwCl [(q0, oB 5 [.ref n5, .null, .null, .null, .int (0 : Int32), .int (0 : Int32)]), (n5, oB 4 [.ref (g9 0)]), ((g9 0), aI cy 24 ((fun _ => 0))), (n19, aJ cy 201 ((fun _ => 0)))] H := hP
  have hD : va_D A [(q0, oB 5 [.ref n5, .null, .null, .null, .int (0 : Int32), .int (0 : Int32)]), (n5, oB 4 [.ref (g9 0)]), ((g9 0), aI cy 24 ((fun _ => 0))), (n19, aJ cy 201 ((fun _ => 0)))] := hD
  refine va_putF (D := D) (ci := 5) (v := .ref n19) (ty := .array .long) (C := RX5) (T := TX5) (N := 6) hx hb hts kc9 tyX5 tyX5_ok nmX5 hown hK hP hD hS 0 rfl rfl 1 (by decide) kw11 (fun _ h9 => h9) rfl hin9 rfl (by decide +kernel) rfl rfl (Nat.le_of_ble_eq_true rfl) dX5_init_21 (fun H locs hP hD hS => ?_)
  have hP : va_P D vwCl [(q0, oB 5 [.ref n5, .ref n19, .null, .null, .int (0 : Int32), .int (0 : Int32)]), (n5, oB 4 [.ref (g9 0)]), ((g9 0), aI cy 24 ((fun _ => 0))), (n19, aJ cy 201 ((fun _ => 0)))] H := hP
  have hD : va_D A [(q0, oB 5 [.ref n5, .ref n19, .null, .null, .int (0 : Int32), .int (0 : Int32)]), (n5, oB 4 [.ref (g9 0)]), ((g9 0), aI cy 24 ((fun _ => 0))), (n19, aJ cy 201 ((fun _ => 0)))] := hD
  refine lv_aload_n hx hb dX5_init_24 rfl (lv_at hl 0 rfl) ?_
  refine lv_sipush (v := 201) hx hb dX5_init_25 (by decide) ?_
  refine nw_arr (atype := .long) (k := 1) (ty := .long) (a0 := (201, .inr (.inl (fun _ => 0)))) (n := 201) (N1 := 201) hx hb kw10 rfl rfl hK hP hD hS hA (ar_aJ 201) (by decide) (by decide) (by decide) (Nat.le_of_ble_eq_true rfl) (Nat.le_of_ble_eq_true rfl) (ra_aJ s) rfl dX5_init_28 (fun n28 H hP hD hS => ?_)
  have hP : va_P D vwCl [(q0, oB 5 [.ref n5, .ref n19, .null, .null, .int (0 : Int32), .int (0 : Int32)]), (n5, oB 4 [.ref (g9 0)]), ((g9 0), aI cy 24 ((fun _ => 0))), (n19, aJ cy 201 ((fun _ => 0))), (n28, aJ cy 201 ((fun _ => 0)))] H := hP
  have hD : va_D A [(q0, oB 5 [.ref n5, .ref n19, .null, .null, .int (0 : Int32), .int (0 : Int32)]), (n5, oB 4 [.ref (g9 0)]), ((g9 0), aI cy 24 ((fun _ => 0))), (n19, aJ cy 201 ((fun _ => 0))), (n28, aJ cy 201 ((fun _ => 0)))] := hD
  refine va_putF (D := D) (ci := 5) (v := .ref n28) (ty := .array .long) (C := RX5) (T := TX5) (N := 6) hx hb hts kc9 tyX5 tyX5_ok nmX5 hown hK hP hD hS 0 rfl rfl 2 (by decide) kw12 (fun _ h9 => h9) rfl hin9 rfl (by decide +kernel) rfl rfl (Nat.le_of_ble_eq_true rfl) dX5_init_30 (fun H locs hP hD hS => ?_)
  have hP : va_P D vwCl [(q0, oB 5 [.ref n5, .ref n19, .ref n28, .null, .int (0 : Int32), .int (0 : Int32)]), (n5, oB 4 [.ref (g9 0)]), ((g9 0), aI cy 24 ((fun _ => 0))), (n19, aJ cy 201 ((fun _ => 0))), (n28, aJ cy 201 ((fun _ => 0)))] H := hP
  have hD : va_D A [(q0, oB 5 [.ref n5, .ref n19, .ref n28, .null, .int (0 : Int32), .int (0 : Int32)]), (n5, oB 4 [.ref (g9 0)]), ((g9 0), aI cy 24 ((fun _ => 0))), (n19, aJ cy 201 ((fun _ => 0))), (n28, aJ cy 201 ((fun _ => 0)))] := hD
  refine lv_aload_n hx hb dX5_init_33 rfl (lv_at hl 0 rfl) ?_
  refine lv_iconst (v := 4) hx hb dX5_init_34 (by decide) ?_
  refine nw_arr (atype := .int) (k := 0) (ty := .int) (a0 := (4, .inl (fun _ => 0))) (n := 4) (N1 := 4) hx hb kw13 rfl rfl hK hP hD hS hA (ar_aI 4) (by decide) (by decide) (by decide) (Nat.le_of_ble_eq_true rfl) (Nat.le_of_ble_eq_true rfl) (ra_aI s) rfl dX5_init_35 (fun n35 H hP hD hS => ?_)
  have hP : va_P D vwCl [(q0, oB 5 [.ref n5, .ref n19, .ref n28, .null, .int (0 : Int32), .int (0 : Int32)]), (n5, oB 4 [.ref (g9 0)]), ((g9 0), aI cy 24 ((fun _ => 0))), (n19, aJ cy 201 ((fun _ => 0))), (n28, aJ cy 201 ((fun _ => 0))), (n35, aI cy 4 ((fun _ => 0)))] H := hP
  have hD : va_D A [(q0, oB 5 [.ref n5, .ref n19, .ref n28, .null, .int (0 : Int32), .int (0 : Int32)]), (n5, oB 4 [.ref (g9 0)]), ((g9 0), aI cy 24 ((fun _ => 0))), (n19, aJ cy 201 ((fun _ => 0))), (n28, aJ cy 201 ((fun _ => 0))), (n35, aI cy 4 ((fun _ => 0)))] := hD
  refine va_putF (D := D) (ci := 5) (v := .ref n35) (ty := .array .int) (C := RX5) (T := TX5) (N := 6) hx hb hts kc9 tyX5 tyX5_ok nmX5 hown hK hP hD hS 0 rfl rfl 3 (by decide) kw14 (fun _ h9 => h9) rfl hin9 rfl (by decide +kernel) rfl rfl (Nat.le_of_ble_eq_true rfl) dX5_init_37 (fun H locs hP hD hS => ?_)
  have hP : va_P D vwCl [(q0, oB 5 [.ref n5, .ref n19, .ref n28, .ref n35, .int (0 : Int32), .int (0 : Int32)]), (n5, oB 4 [.ref (g9 0)]), ((g9 0), aI cy 24 ((fun _ => 0))), (n19, aJ cy 201 ((fun _ => 0))), (n28, aJ cy 201 ((fun _ => 0))), (n35, aI cy 4 ((fun _ => 0)))] H := hP
  have hD : va_D A [(q0, oB 5 [.ref n5, .ref n19, .ref n28, .ref n35, .int (0 : Int32), .int (0 : Int32)]), (n5, oB 4 [.ref (g9 0)]), ((g9 0), aI cy 24 ((fun _ => 0))), (n19, aJ cy 201 ((fun _ => 0))), (n28, aJ cy 201 ((fun _ => 0))), (n35, aI cy 4 ((fun _ => 0)))] := hD
  refine lv_aload_n hx hb dX5_init_40 rfl (lv_at hl 0 rfl) ?_
  refine lv_iconst (v := 0) hx hb dX5_init_41 (by decide) ?_
  refine va_put (D := D) (ci := 5) (v := .int (0 : Int32)) (ty := .int) (C := RX5) (T := TX5) (N := 6) hx hb hts kc9 tyX5 tyX5_ok nmX5 hown hK hP hD hS 0 rfl rfl 4 (by decide) kw15 (fun _ h9 => h9) rfl pfI rfl rfl (Nat.le_of_ble_eq_true rfl) dX5_init_42 (fun H locs hP hD hS => ?_)
  have hP : va_P D vwCl [(q0, oB 5 [.ref n5, .ref n19, .ref n28, .ref n35, .int (0 : Int32), .int (0 : Int32)]), (n5, oB 4 [.ref (g9 0)]), ((g9 0), aI cy 24 ((fun _ => 0))), (n19, aJ cy 201 ((fun _ => 0))), (n28, aJ cy 201 ((fun _ => 0))), (n35, aI cy 4 ((fun _ => 0)))] H := hP
  have hD : va_D A [(q0, oB 5 [.ref n5, .ref n19, .ref n28, .ref n35, .int (0 : Int32), .int (0 : Int32)]), (n5, oB 4 [.ref (g9 0)]), ((g9 0), aI cy 24 ((fun _ => 0))), (n19, aJ cy 201 ((fun _ => 0))), (n28, aJ cy 201 ((fun _ => 0))), (n35, aI cy 4 ((fun _ => 0)))] := hD
  refine lv_aload_n hx hb dX5_init_45 rfl (lv_at hl 0 rfl) ?_
  refine lv_iconst (v := 0) hx hb dX5_init_46 (by decide) ?_
  refine va_put (D := D) (ci := 5) (v := .int (0 : Int32)) (ty := .int) (C := RX5) (T := TX5) (N := 6) hx hb hts kc9 tyX5 tyX5_ok nmX5 hown hK hP hD hS 0 rfl rfl 5 (by decide) kw16 (fun _ h9 => h9) rfl pfI rfl rfl (Nat.le_of_ble_eq_true rfl) dX5_init_47 (fun H locs hP hD hS => ?_)
  have hP : va_P D vwCl [(q0, oB 5 [.ref n5, .ref n19, .ref n28, .ref n35, .int (0 : Int32), .int (0 : Int32)]), (n5, oB 4 [.ref (g9 0)]), ((g9 0), aI cy 24 ((fun _ => 0))), (n19, aJ cy 201 ((fun _ => 0))), (n28, aJ cy 201 ((fun _ => 0))), (n35, aI cy 4 ((fun _ => 0)))] H := hP
  have hD : va_D A [(q0, oB 5 [.ref n5, .ref n19, .ref n28, .ref n35, .int (0 : Int32), .int (0 : Int32)]), (n5, oB 4 [.ref (g9 0)]), ((g9 0), aI cy 24 ((fun _ => 0))), (n19, aJ cy 201 ((fun _ => 0))), (n28, aJ cy 201 ((fun _ => 0))), (n35, aI cy 4 ((fun _ => 0)))] := hD
  obtain rfl : r_9 = r := Option.some.inj hf
  have hP9 : va_P D vwCl [(q0, oB 5 [.ref n5, .ref n19, .ref n28, .ref n35, .int (0 : Int32), .int (0 : Int32)]), (n5, oB 4 [.ref (g9 0)]), ((g9 0), aI cy 24 ((fun _ => 0))), (n19, aJ cy 201 ((fun _ => 0))), (n28, aJ cy 201 ((fun _ => 0))), (n35, aI cy 4 ((fun _ => 0)))] H := hP.pick [0, 1, 2, 3, 4, 5] rfl
  have hD9 : va_D A [(q0, oB 5 [.ref n5, .ref n19, .ref n28, .ref n35, .int (0 : Int32), .int (0 : Int32)]), (n5, oB 4 [.ref (g9 0)]), ((g9 0), aI cy 24 ((fun _ => 0))), (n19, aJ cy 201 ((fun _ => 0))), (n28, aJ cy 201 ((fun _ => 0))), (n35, aI cy 4 ((fun _ => 0)))] := hD.sub [0, 1, 2, 3, 4, 5] (by decide) rfl
  exact hret _ _ _ _ (fun i => ([n5, (g9 0), n19, n28, n35] : List Nat).getD i 0) dX5_init_50 hP9 hD9 hS

def fX2_init : Option Unit := (fX3_init).bind (fun r_18 => some r_18)
abbrev rmX2_init : Room := { frames := 3, cells := 7, slots := 349, locals := 52 }
set_option maxHeartbeats 4000000 in
set_option maxRecDepth 100000 in
theorem ktX2_init (l : Launch) (D : va_G) (cy : Nat → ClassId) (q0 : Nat) (r : Unit) (hf : fX2_init = some r) : CtN l yX2_init wsX2_init rmX2_init D cy [.ref q0] [(q0, oB 2 [.null, .null, .null, .int (0 : Int32), .int (0 : Int32), .int (0 : Int32), .int (0 : Int32), .int (0 : Int32), .int (0 : Int32), .int (0 : Int32), .int (0 : Int32)])] (fun qs => [(q0, oB 2 [.ref (qs 0), .ref (qs 1), .ref (qs 6), .int (0 : Int32), .int (0 : Int32), .int (0 : Int32), .int (0 : Int32), .int (0 : Int32), .int (0 : Int32), .int (0 : Int32), .int (0 : Int32)]), ((qs 0), aB cy 300 ((fun _ => 0))), ((qs 1), oB 3 [.ref (qs 2), .ref (qs 4), .ref (qs 5), .int (0 : Int32), .int (0 : Int32), .int (0 : Int32), .int (1 : Int32)]), ((qs 2), oB 4 [.ref (qs 3)]), ((qs 3), aI cy 24 ((fun _ => 0))), ((qs 4), aI cy 6 ((fun _ => 0))), ((qs 5), aI cy 6 ((fun _ => 0))), ((qs 6), aI cy 5 ((fun _ => 0)))]) 7 349 := by
  refine Ct_ofN (cc := cX2_init) (nL := 1) (by decide) rfl (Nat.le_of_ble_eq_true rfl) ?_
  intro p e s m args below meth c A Q hM hin9 hret hP hD hS ls hl
  obtain ⟨hx, hb, hml, hown, hts, hcx, hA, hsx⟩ := hM
  have hin9 : meth.name = "<init>" := hin9
  have hown : s.vm.findClass RX2 = some m.cls := hown
  have hK := hcx.1
  have hN := hcx.2
  have kw0 := hts (.methodLink RX2 3 objectInit) (List.mem_of_getElem? (i := 1) rfl)
  have kw1 := hts (.instanceMethod objectInit) (List.mem_of_getElem? (i := 2) rfl)
  have kw2 := hts (.code objectInit ⟨#[0xb1]⟩ 1 none) (List.mem_of_getElem? (i := 3) rfl)
  have kw3 := hts (.arrayClass .byte) (List.mem_of_getElem? (i := 4) rfl)
  have kw4 := hts (.fieldLink RX2 9 "EachBrings$Text" "bytes" "[B") (List.mem_of_getElem? (i := 5) rfl)
  have kc5 : ∀ w ∈ wsX20, w ∈ wsX2_init := fun _ h => List.mem_cons_of_mem _ (List.mem_append_left _ (List.mem_append_left _ (List.mem_append_right _ h)))
  have kw6 := hts (.classLink RX2 15 RX3) (List.mem_of_getElem? (i := 6) rfl)
  have kw7 := hts (.instantiable RX3 7) (List.mem_of_getElem? (i := 7) rfl)
  have kw8 := hts (.initialized RX3) (List.mem_of_getElem? (i := 8) rfl)
  have kc9 : ∀ w ∈ wsX30, w ∈ wsX2_init := fun _ h => List.mem_cons_of_mem _ (List.mem_append_left _ (List.mem_append_right _ h))
  have kw10 := hts (.instanceMethod yX3_init) (List.mem_of_getElem? (i := 20) rfl)
  have kw11 := hts (.fieldLink RX2 18 "EachBrings$Text" "draft" "LEachBrings$Village;") (List.mem_of_getElem? (i := 9) rfl)
  have kw12 := hts (.arrayClass .int) (List.mem_of_getElem? (i := 10) rfl)
  have kw13 := hts (.fieldLink RX2 22 "EachBrings$Text" "numbers" "[I") (List.mem_of_getElem? (i := 11) rfl)
  have kw14 := hts (.fieldLink RX2 26 "EachBrings$Text" "length" "I") (List.mem_of_getElem? (i := 12) rfl)
  have kw15 := hts (.fieldLink RX2 30 "EachBrings$Text" "at" "I") (List.mem_of_getElem? (i := 13) rfl)
  have kw16 := hts (.fieldLink RX2 33 "EachBrings$Text" "place" "I") (List.mem_of_getElem? (i := 14) rfl)
  have kw17 := hts (.fieldLink RX2 36 "EachBrings$Text" "token" "I") (List.mem_of_getElem? (i := 15) rfl)
  have kw18 := hts (.fieldLink RX2 39 "EachBrings$Text" "number" "I") (List.mem_of_getElem? (i := 16) rfl)
  have kw19 := hts (.fieldLink RX2 42 "EachBrings$Text" "item" "I") (List.mem_of_getElem? (i := 17) rfl)
  have kw20 := hts (.fieldLink RX2 45 "EachBrings$Text" "taken" "I") (List.mem_of_getElem? (i := 18) rfl)
  have kw21 := hts (.fieldLink RX2 48 "EachBrings$Text" "once" "I") (List.mem_of_getElem? (i := 19) rfl)
  have hl : lv_has ls 1 [(0, .ref q0)] := hl
  unfold fX2_init at hf
  refine lv_aload_n hx hb dX2_init_0 rfl (lv_at hl 0 rfl) ?_
  refine W.objInit hx hb hown kw0 kw1 kw2 rfl (by rw [hml]; exact hl.1) rfl dX2_init_1 (Nat.le_of_ble_eq_true rfl) (Nat.le_of_ble_eq_true rfl) ?_
  refine W.eq (g2 := F0 m 4 ls []) rfl ?_
  refine lv_aload_n hx hb dX2_init_4 rfl (lv_at hl 0 rfl) ?_
  refine lv_sipush (v := 300) hx hb dX2_init_5 (by decide) ?_
  refine nw_arr (atype := .byte) (k := 2) (ty := .byte) (a0 := (300, .inl (fun _ => 0))) (n := 300) (N1 := 300) hx hb kw3 rfl rfl hK hP hD hS hA (ar_aB 300) (by decide) (by decide) (by decide) (Nat.le_of_ble_eq_true rfl) (Nat.le_of_ble_eq_true rfl) (ra_aB s) rfl dX2_init_8 (fun n8 H hP hD hS => ?_)
  have hP : va_P D vwCl [(q0, oB 2 [.null, .null, .null, .int (0 : Int32), .int (0 : Int32), .int (0 : Int32), .int (0 : Int32), .int (0 : Int32), .int (0 : Int32), .int (0 : Int32), .int (0 : Int32)]), (n8, aB cy 300 ((fun _ => 0)))] H := hP
  have hD : va_D A [(q0, oB 2 [.null, .null, .null, .int (0 : Int32), .int (0 : Int32), .int (0 : Int32), .int (0 : Int32), .int (0 : Int32), .int (0 : Int32), .int (0 : Int32), .int (0 : Int32)]), (n8, aB cy 300 ((fun _ => 0)))] := hD
  refine va_putF (D := D) (ci := 2) (v := .ref n8) (ty := .array .byte) (C := RX2) (T := TX2) (N := 11) hx hb hts kc5 tyX2 tyX2_ok nmX2 hown hK hP hD hS 0 rfl rfl 0 (by decide) kw4 (fun _ h9 => h9) rfl hin9 rfl (by decide +kernel) rfl rfl (Nat.le_of_ble_eq_true rfl) dX2_init_10 (fun H locs hP hD hS => ?_)
  have hP : va_P D vwCl [(q0, oB 2 [.ref n8, .null, .null, .int (0 : Int32), .int (0 : Int32), .int (0 : Int32), .int (0 : Int32), .int (0 : Int32), .int (0 : Int32), .int (0 : Int32), .int (0 : Int32)]), (n8, aB cy 300 ((fun _ => 0)))] H := hP
  have hD : va_D A [(q0, oB 2 [.ref n8, .null, .null, .int (0 : Int32), .int (0 : Int32), .int (0 : Int32), .int (0 : Int32), .int (0 : Int32), .int (0 : Int32), .int (0 : Int32), .int (0 : Int32)]), (n8, aB cy 300 ((fun _ => 0)))] := hD
  refine lv_aload_n hx hb dX2_init_13 rfl (lv_at hl 0 rfl) ?_
  refine va_new (ci := 3) (fs := [.null, .null, .null, .int (0 : Int32), .int (0 : Int32), .int (0 : Int32), .int (0 : Int32)]) (C := RX3) (T := TX3) (N := 7) hx hb hts kc9 tyX3 tyX3_ok hown kw6 kw7 kw8 hK hP hD hS hA rfl (fun j hj => by rcases (show j = 0 ∨ j = 1 ∨ j = 2 ∨ j = 3 ∨ j = 4 ∨ j = 5 ∨ j = 6 by omega) with rfl | rfl | rfl | rfl | rfl | rfl | rfl <;> rfl) (Nat.le_of_ble_eq_true rfl) (Nat.le_of_ble_eq_true rfl) dX2_init_14 (fun n14 H hP hD hS => ?_)
  have hP : va_P D vwCl [(q0, oB 2 [.ref n8, .null, .null, .int (0 : Int32), .int (0 : Int32), .int (0 : Int32), .int (0 : Int32), .int (0 : Int32), .int (0 : Int32), .int (0 : Int32), .int (0 : Int32)]), (n8, aB cy 300 ((fun _ => 0))), (n14, oB 3 [.null, .null, .null, .int (0 : Int32), .int (0 : Int32), .int (0 : Int32), .int (0 : Int32)])] H := hP
  have hD : va_D A [(q0, oB 2 [.ref n8, .null, .null, .int (0 : Int32), .int (0 : Int32), .int (0 : Int32), .int (0 : Int32), .int (0 : Int32), .int (0 : Int32), .int (0 : Int32), .int (0 : Int32)]), (n8, aB cy 300 ((fun _ => 0))), (n14, oB 3 [.null, .null, .null, .int (0 : Int32), .int (0 : Int32), .int (0 : Int32), .int (0 : Int32)])] := hD
  refine lv_dup hx hb dX2_init_17 rfl ?_
  obtain ⟨r_18, hr_18, hf⟩ := bd_some hf
  refine cl_n (wc := [(n14, oB 3 [.null, .null, .null, .int (0 : Int32), .int (0 : Int32), .int (0 : Int32), .int (0 : Int32)])]) (wr := [(q0, oB 2 [.ref n8, .null, .null, .int (0 : Int32), .int (0 : Int32), .int (0 : Int32), .int (0 : Int32), .int (0 : Int32), .int (0 : Int32), .int (0 : Int32), .int (0 : Int32)]), (n8, aB cy 300 ((fun _ => 0)))]) (va_runIN (host := "EachBrings") (As := []) (rest := [.ref n14, .ref q0]) ⟨hx, hb, hml, hown, hts⟩ (ktX3_init l D cy n14 r_18 hr_18 _) ⟨va_cnB 0 hts gX2_init_X3_init_n17 rfl rfl rfl (hN.at 1 rfl) kw8 (by decide +kernel) ⟨Nat.le_of_ble_eq_true rfl, Nat.le_of_ble_eq_true rfl⟩, rfl, kw10⟩ (pre_S (wc := [(n14, oB 3 [.null, .null, .null, .int (0 : Int32), .int (0 : Int32), .int (0 : Int32), .int (0 : Int32)])]) hcx hsx hS hA hP hD [2] rfl (by decide)) rfl rfl hl.1 rfl (lv_room (Nat.le_of_ble_eq_true rfl)) dX2_init_18 ⟨Nat.le_of_ble_eq_true rfl, Nat.le_of_ble_eq_true rfl⟩) hP hD hS hA [2] [0, 1] rfl rfl (by decide) (by decide) (fun g18 H locs hP hD hS => ?_)
  have hP : va_P D vwCl [(q0, oB 2 [.ref n8, .null, .null, .int (0 : Int32), .int (0 : Int32), .int (0 : Int32), .int (0 : Int32), .int (0 : Int32), .int (0 : Int32), .int (0 : Int32), .int (0 : Int32)]), (n8, aB cy 300 ((fun _ => 0))), (n14, oB 3 [.ref (g18 0), .ref (g18 2), .ref (g18 3), .int (0 : Int32), .int (0 : Int32), .int (0 : Int32), .int (1 : Int32)]), ((g18 0), oB 4 [.ref (g18 1)]), ((g18 1), aI cy 24 ((fun _ => 0))), ((g18 2), aI cy 6 ((fun _ => 0))), ((g18 3), aI cy 6 ((fun _ => 0)))] H := hP
  have hD : va_D A [(q0, oB 2 [.ref n8, .null, .null, .int (0 : Int32), .int (0 : Int32), .int (0 : Int32), .int (0 : Int32), .int (0 : Int32), .int (0 : Int32), .int (0 : Int32), .int (0 : Int32)]), (n8, aB cy 300 ((fun _ => 0))), (n14, oB 3 [.ref (g18 0), .ref (g18 2), .ref (g18 3), .int (0 : Int32), .int (0 : Int32), .int (0 : Int32), .int (1 : Int32)]), ((g18 0), oB 4 [.ref (g18 1)]), ((g18 1), aI cy 24 ((fun _ => 0))), ((g18 2), aI cy 6 ((fun _ => 0))), ((g18 3), aI cy 6 ((fun _ => 0)))] := hD
  refine va_putF (D := D) (ci := 2) (v := .ref n14) (ty := .object "EachBrings$Village") (C := RX2) (T := TX2) (N := 11) hx hb hts kc5 tyX2 tyX2_ok nmX2 hown hK hP hD hS 0 rfl rfl 1 (by decide) kw11 (fun _ h9 => h9) rfl hin9 rfl (by decide +kernel) rfl rfl (Nat.le_of_ble_eq_true rfl) dX2_init_21 (fun H locs hP hD hS => ?_)
  have hP : va_P D vwCl [(q0, oB 2 [.ref n8, .ref n14, .null, .int (0 : Int32), .int (0 : Int32), .int (0 : Int32), .int (0 : Int32), .int (0 : Int32), .int (0 : Int32), .int (0 : Int32), .int (0 : Int32)]), (n8, aB cy 300 ((fun _ => 0))), (n14, oB 3 [.ref (g18 0), .ref (g18 2), .ref (g18 3), .int (0 : Int32), .int (0 : Int32), .int (0 : Int32), .int (1 : Int32)]), ((g18 0), oB 4 [.ref (g18 1)]), ((g18 1), aI cy 24 ((fun _ => 0))), ((g18 2), aI cy 6 ((fun _ => 0))), ((g18 3), aI cy 6 ((fun _ => 0)))] H := hP
  have hD : va_D A [(q0, oB 2 [.ref n8, .ref n14, .null, .int (0 : Int32), .int (0 : Int32), .int (0 : Int32), .int (0 : Int32), .int (0 : Int32), .int (0 : Int32), .int (0 : Int32), .int (0 : Int32)]), (n8, aB cy 300 ((fun _ => 0))), (n14, oB 3 [.ref (g18 0), .ref (g18 2), .ref (g18 3), .int (0 : Int32), .int (0 : Int32), .int (0 : Int32), .int (1 : Int32)]), ((g18 0), oB 4 [.ref (g18 1)]), ((g18 1), aI cy 24 ((fun _ => 0))), ((g18 2), aI cy 6 ((fun _ => 0))), ((g18 3), aI cy 6 ((fun _ => 0)))] := hD
  refine lv_aload_n hx hb dX2_init_24 rfl (lv_at hl 0 rfl) ?_
  refine lv_iconst (v := 5) hx hb dX2_init_25 (by decide) ?_
  refine nw_arr (atype := .int) (k := 0) (ty := .int) (a0 := (5, .inl (fun _ => 0))) (n := 5) (N1 := 5) hx hb kw12 rfl rfl hK hP hD hS hA (ar_aI 5) (by decide) (by decide) (by decide) (Nat.le_of_ble_eq_true rfl) (Nat.le_of_ble_eq_true rfl) (ra_aI s) rfl dX2_init_26 (fun n26 H hP hD hS => ?_)
  have hP : va_P D vwCl [(q0, oB 2 [.ref n8, .ref n14, .null, .int (0 : Int32), .int (0 : Int32), .int (0 : Int32), .int (0 : Int32), .int (0 : Int32), .int (0 : Int32), .int (0 : Int32), .int (0 : Int32)]), (n8, aB cy 300 ((fun _ => 0))), (n14, oB 3 [.ref (g18 0), .ref (g18 2), .ref (g18 3), .int (0 : Int32), .int (0 : Int32), .int (0 : Int32), .int (1 : Int32)]), ((g18 0), oB 4 [.ref (g18 1)]), ((g18 1), aI cy 24 ((fun _ => 0))), ((g18 2), aI cy 6 ((fun _ => 0))), ((g18 3), aI cy 6 ((fun _ => 0))), (n26, aI cy 5 ((fun _ => 0)))] H := hP
  have hD : va_D A [(q0, oB 2 [.ref n8, .ref n14, .null, .int (0 : Int32), .int (0 : Int32), .int (0 : Int32), .int (0 : Int32), .int (0 : Int32), .int (0 : Int32), .int (0 : Int32), .int (0 : Int32)]), (n8, aB cy 300 ((fun _ => 0))), (n14, oB 3 [.ref (g18 0), .ref (g18 2), .ref (g18 3), .int (0 : Int32), .int (0 : Int32), .int (0 : Int32), .int (1 : Int32)]), ((g18 0), oB 4 [.ref (g18 1)]), ((g18 1), aI cy 24 ((fun _ => 0))), ((g18 2), aI cy 6 ((fun _ => 0))), ((g18 3), aI cy 6 ((fun _ => 0))), (n26, aI cy 5 ((fun _ => 0)))] := hD
  refine va_putF (D := D) (ci := 2) (v := .ref n26) (ty := .array .int) (C := RX2) (T := TX2) (N := 11) hx hb hts kc5 tyX2 tyX2_ok nmX2 hown hK hP hD hS 0 rfl rfl 2 (by decide) kw13 (fun _ h9 => h9) rfl hin9 rfl (by decide +kernel) rfl rfl (Nat.le_of_ble_eq_true rfl) dX2_init_28 (fun H locs hP hD hS => ?_)
  have hP : va_P D vwCl [(q0, oB 2 [.ref n8, .ref n14, .ref n26, .int (0 : Int32), .int (0 : Int32), .int (0 : Int32), .int (0 : Int32), .int (0 : Int32), .int (0 : Int32), .int (0 : Int32), .int (0 : Int32)]), (n8, aB cy 300 ((fun _ => 0))), (n14, oB 3 [.ref (g18 0), .ref (g18 2), .ref (g18 3), .int (0 : Int32), .int (0 : Int32), .int (0 : Int32), .int (1 : Int32)]), ((g18 0), oB 4 [.ref (g18 1)]), ((g18 1), aI cy 24 ((fun _ => 0))), ((g18 2), aI cy 6 ((fun _ => 0))), ((g18 3), aI cy 6 ((fun _ => 0))), (n26, aI cy 5 ((fun _ => 0)))] H := hP
  have hD : va_D A [(q0, oB 2 [.ref n8, .ref n14, .ref n26, .int (0 : Int32), .int (0 : Int32), .int (0 : Int32), .int (0 : Int32), .int (0 : Int32), .int (0 : Int32), .int (0 : Int32), .int (0 : Int32)]), (n8, aB cy 300 ((fun _ => 0))), (n14, oB 3 [.ref (g18 0), .ref (g18 2), .ref (g18 3), .int (0 : Int32), .int (0 : Int32), .int (0 : Int32), .int (1 : Int32)]), ((g18 0), oB 4 [.ref (g18 1)]), ((g18 1), aI cy 24 ((fun _ => 0))), ((g18 2), aI cy 6 ((fun _ => 0))), ((g18 3), aI cy 6 ((fun _ => 0))), (n26, aI cy 5 ((fun _ => 0)))] := hD
  refine lv_aload_n hx hb dX2_init_31 rfl (lv_at hl 0 rfl) ?_
  refine lv_iconst (v := 0) hx hb dX2_init_32 (by decide) ?_
  refine va_put (D := D) (ci := 2) (v := .int (0 : Int32)) (ty := .int) (C := RX2) (T := TX2) (N := 11) hx hb hts kc5 tyX2 tyX2_ok nmX2 hown hK hP hD hS 0 rfl rfl 3 (by decide) kw14 (fun _ h9 => h9) rfl pfI rfl rfl (Nat.le_of_ble_eq_true rfl) dX2_init_33 (fun H locs hP hD hS => ?_)
  have hP : va_P D vwCl [(q0, oB 2 [.ref n8, .ref n14, .ref n26, .int (0 : Int32), .int (0 : Int32), .int (0 : Int32), .int (0 : Int32), .int (0 : Int32), .int (0 : Int32), .int (0 : Int32), .int (0 : Int32)]), (n8, aB cy 300 ((fun _ => 0))), (n14, oB 3 [.ref (g18 0), .ref (g18 2), .ref (g18 3), .int (0 : Int32), .int (0 : Int32), .int (0 : Int32), .int (1 : Int32)]), ((g18 0), oB 4 [.ref (g18 1)]), ((g18 1), aI cy 24 ((fun _ => 0))), ((g18 2), aI cy 6 ((fun _ => 0))), ((g18 3), aI cy 6 ((fun _ => 0))), (n26, aI cy 5 ((fun _ => 0)))] H := hP
  have hD : va_D A [(q0, oB 2 [.ref n8, .ref n14, .ref n26, .int (0 : Int32), .int (0 : Int32), .int (0 : Int32), .int (0 : Int32), .int (0 : Int32), .int (0 : Int32), .int (0 : Int32), .int (0 : Int32)]), (n8, aB cy 300 ((fun _ => 0))), (n14, oB 3 [.ref (g18 0), .ref (g18 2), .ref (g18 3), .int (0 : Int32), .int (0 : Int32), .int (0 : Int32), .int (1 : Int32)]), ((g18 0), oB 4 [.ref (g18 1)]), ((g18 1), aI cy 24 ((fun _ => 0))), ((g18 2), aI cy 6 ((fun _ => 0))), ((g18 3), aI cy 6 ((fun _ => 0))), (n26, aI cy 5 ((fun _ => 0)))] := hD
  refine lv_aload_n hx hb dX2_init_36 rfl (lv_at hl 0 rfl) ?_
  refine lv_iconst (v := 0) hx hb dX2_init_37 (by decide) ?_
  refine va_put (D := D) (ci := 2) (v := .int (0 : Int32)) (ty := .int) (C := RX2) (T := TX2) (N := 11) hx hb hts kc5 tyX2 tyX2_ok nmX2 hown hK hP hD hS 0 rfl rfl 4 (by decide) kw15 (fun _ h9 => h9) rfl pfI rfl rfl (Nat.le_of_ble_eq_true rfl) dX2_init_38 (fun H locs hP hD hS => ?_)
  have hP : va_P D vwCl [(q0, oB 2 [.ref n8, .ref n14, .ref n26, .int (0 : Int32), .int (0 : Int32), .int (0 : Int32), .int (0 : Int32), .int (0 : Int32), .int (0 : Int32), .int (0 : Int32), .int (0 : Int32)]), (n8, aB cy 300 ((fun _ => 0))), (n14, oB 3 [.ref (g18 0), .ref (g18 2), .ref (g18 3), .int (0 : Int32), .int (0 : Int32), .int (0 : Int32), .int (1 : Int32)]), ((g18 0), oB 4 [.ref (g18 1)]), ((g18 1), aI cy 24 ((fun _ => 0))), ((g18 2), aI cy 6 ((fun _ => 0))), ((g18 3), aI cy 6 ((fun _ => 0))), (n26, aI cy 5 ((fun _ => 0)))] H := hP
  have hD : va_D A [(q0, oB 2 [.ref n8, .ref n14, .ref n26, .int (0 : Int32), .int (0 : Int32), .int (0 : Int32), .int (0 : Int32), .int (0 : Int32), .int (0 : Int32), .int (0 : Int32), .int (0 : Int32)]), (n8, aB cy 300 ((fun _ => 0))), (n14, oB 3 [.ref (g18 0), .ref (g18 2), .ref (g18 3), .int (0 : Int32), .int (0 : Int32), .int (0 : Int32), .int (1 : Int32)]), ((g18 0), oB 4 [.ref (g18 1)]), ((g18 1), aI cy 24 ((fun _ => 0))), ((g18 2), aI cy 6 ((fun _ => 0))), ((g18 3), aI cy 6 ((fun _ => 0))), (n26, aI cy 5 ((fun _ => 0)))] := hD
  refine lv_aload_n hx hb dX2_init_41 rfl (lv_at hl 0 rfl) ?_
  refine lv_iconst (v := 0) hx hb dX2_init_42 (by decide) ?_
  refine va_put (D := D) (ci := 2) (v := .int (0 : Int32)) (ty := .int) (C := RX2) (T := TX2) (N := 11) hx hb hts kc5 tyX2 tyX2_ok nmX2 hown hK hP hD hS 0 rfl rfl 5 (by decide) kw16 (fun _ h9 => h9) rfl pfI rfl rfl (Nat.le_of_ble_eq_true rfl) dX2_init_43 (fun H locs hP hD hS => ?_)
  have hP : va_P D vwCl [(q0, oB 2 [.ref n8, .ref n14, .ref n26, .int (0 : Int32), .int (0 : Int32), .int (0 : Int32), .int (0 : Int32), .int (0 : Int32), .int (0 : Int32), .int (0 : Int32), .int (0 : Int32)]), (n8, aB cy 300 ((fun _ => 0))), (n14, oB 3 [.ref (g18 0), .ref (g18 2), .ref (g18 3), .int (0 : Int32), .int (0 : Int32), .int (0 : Int32), .int (1 : Int32)]), ((g18 0), oB 4 [.ref (g18 1)]), ((g18 1), aI cy 24 ((fun _ => 0))), ((g18 2), aI cy 6 ((fun _ => 0))), ((g18 3), aI cy 6 ((fun _ => 0))), (n26, aI cy 5 ((fun _ => 0)))] H := hP
  have hD : va_D A [(q0, oB 2 [.ref n8, .ref n14, .ref n26, .int (0 : Int32), .int (0 : Int32), .int (0 : Int32), .int (0 : Int32), .int (0 : Int32), .int (0 : Int32), .int (0 : Int32), .int (0 : Int32)]), (n8, aB cy 300 ((fun _ => 0))), (n14, oB 3 [.ref (g18 0), .ref (g18 2), .ref (g18 3), .int (0 : Int32), .int (0 : Int32), .int (0 : Int32), .int (1 : Int32)]), ((g18 0), oB 4 [.ref (g18 1)]), ((g18 1), aI cy 24 ((fun _ => 0))), ((g18 2), aI cy 6 ((fun _ => 0))), ((g18 3), aI cy 6 ((fun _ => 0))), (n26, aI cy 5 ((fun _ => 0)))] := hD
  refine lv_aload_n hx hb dX2_init_46 rfl (lv_at hl 0 rfl) ?_
  refine lv_iconst (v := 0) hx hb dX2_init_47 (by decide) ?_
  refine va_put (D := D) (ci := 2) (v := .int (0 : Int32)) (ty := .int) (C := RX2) (T := TX2) (N := 11) hx hb hts kc5 tyX2 tyX2_ok nmX2 hown hK hP hD hS 0 rfl rfl 6 (by decide) kw17 (fun _ h9 => h9) rfl pfI rfl rfl (Nat.le_of_ble_eq_true rfl) dX2_init_48 (fun H locs hP hD hS => ?_)
  have hP : va_P D vwCl [(q0, oB 2 [.ref n8, .ref n14, .ref n26, .int (0 : Int32), .int (0 : Int32), .int (0 : Int32), .int (0 : Int32), .int (0 : Int32), .int (0 : Int32), .int (0 : Int32), .int (0 : Int32)]), (n8, aB cy 300 ((fun _ => 0))), (n14, oB 3 [.ref (g18 0), .ref (g18 2), .ref (g18 3), .int (0 : Int32), .int (0 : Int32), .int (0 : Int32), .int (1 : Int32)]), ((g18 0), oB 4 [.ref (g18 1)]), ((g18 1), aI cy 24 ((fun _ => 0))), ((g18 2), aI cy 6 ((fun _ => 0))), ((g18 3), aI cy 6 ((fun _ => 0))), (n26, aI cy 5 ((fun _ => 0)))] H := hP
  have hD : va_D A [(q0, oB 2 [.ref n8, .ref n14, .ref n26, .int (0 : Int32), .int (0 : Int32), .int (0 : Int32), .int (0 : Int32), .int (0 : Int32), .int (0 : Int32), .int (0 : Int32), .int (0 : Int32)]), (n8, aB cy 300 ((fun _ => 0))), (n14, oB 3 [.ref (g18 0), .ref (g18 2), .ref (g18 3), .int (0 : Int32), .int (0 : Int32), .int (0 : Int32), .int (1 : Int32)]), ((g18 0), oB 4 [.ref (g18 1)]), ((g18 1), aI cy 24 ((fun _ => 0))), ((g18 2), aI cy 6 ((fun _ => 0))), ((g18 3), aI cy 6 ((fun _ => 0))), (n26, aI cy 5 ((fun _ => 0)))] := hD
  refine lv_aload_n hx hb dX2_init_51 rfl (lv_at hl 0 rfl) ?_
  refine lv_iconst (v := 0) hx hb dX2_init_52 (by decide) ?_
  refine va_put (D := D) (ci := 2) (v := .int (0 : Int32)) (ty := .int) (C := RX2) (T := TX2) (N := 11) hx hb hts kc5 tyX2 tyX2_ok nmX2 hown hK hP hD hS 0 rfl rfl 7 (by decide) kw18 (fun _ h9 => h9) rfl pfI rfl rfl (Nat.le_of_ble_eq_true rfl) dX2_init_53 (fun H locs hP hD hS => ?_)
  have hP : va_P D vwCl [(q0, oB 2 [.ref n8, .ref n14, .ref n26, .int (0 : Int32), .int (0 : Int32), .int (0 : Int32), .int (0 : Int32), .int (0 : Int32), .int (0 : Int32), .int (0 : Int32), .int (0 : Int32)]), (n8, aB cy 300 ((fun _ => 0))), (n14, oB 3 [.ref (g18 0), .ref (g18 2), .ref (g18 3), .int (0 : Int32), .int (0 : Int32), .int (0 : Int32), .int (1 : Int32)]), ((g18 0), oB 4 [.ref (g18 1)]), ((g18 1), aI cy 24 ((fun _ => 0))), ((g18 2), aI cy 6 ((fun _ => 0))), ((g18 3), aI cy 6 ((fun _ => 0))), (n26, aI cy 5 ((fun _ => 0)))] H := hP
  have hD : va_D A [(q0, oB 2 [.ref n8, .ref n14, .ref n26, .int (0 : Int32), .int (0 : Int32), .int (0 : Int32), .int (0 : Int32), .int (0 : Int32), .int (0 : Int32), .int (0 : Int32), .int (0 : Int32)]), (n8, aB cy 300 ((fun _ => 0))), (n14, oB 3 [.ref (g18 0), .ref (g18 2), .ref (g18 3), .int (0 : Int32), .int (0 : Int32), .int (0 : Int32), .int (1 : Int32)]), ((g18 0), oB 4 [.ref (g18 1)]), ((g18 1), aI cy 24 ((fun _ => 0))), ((g18 2), aI cy 6 ((fun _ => 0))), ((g18 3), aI cy 6 ((fun _ => 0))), (n26, aI cy 5 ((fun _ => 0)))] := hD
  refine lv_aload_n hx hb dX2_init_56 rfl (lv_at hl 0 rfl) ?_
  refine lv_iconst (v := 0) hx hb dX2_init_57 (by decide) ?_
  refine va_put (D := D) (ci := 2) (v := .int (0 : Int32)) (ty := .int) (C := RX2) (T := TX2) (N := 11) hx hb hts kc5 tyX2 tyX2_ok nmX2 hown hK hP hD hS 0 rfl rfl 8 (by decide) kw19 (fun _ h9 => h9) rfl pfI rfl rfl (Nat.le_of_ble_eq_true rfl) dX2_init_58 (fun H locs hP hD hS => ?_)
  have hP : va_P D vwCl [(q0, oB 2 [.ref n8, .ref n14, .ref n26, .int (0 : Int32), .int (0 : Int32), .int (0 : Int32), .int (0 : Int32), .int (0 : Int32), .int (0 : Int32), .int (0 : Int32), .int (0 : Int32)]), (n8, aB cy 300 ((fun _ => 0))), (n14, oB 3 [.ref (g18 0), .ref (g18 2), .ref (g18 3), .int (0 : Int32), .int (0 : Int32), .int (0 : Int32), .int (1 : Int32)]), ((g18 0), oB 4 [.ref (g18 1)]), ((g18 1), aI cy 24 ((fun _ => 0))), ((g18 2), aI cy 6 ((fun _ => 0))), ((g18 3), aI cy 6 ((fun _ => 0))), (n26, aI cy 5 ((fun _ => 0)))] H := hP
  have hD : va_D A [(q0, oB 2 [.ref n8, .ref n14, .ref n26, .int (0 : Int32), .int (0 : Int32), .int (0 : Int32), .int (0 : Int32), .int (0 : Int32), .int (0 : Int32), .int (0 : Int32), .int (0 : Int32)]), (n8, aB cy 300 ((fun _ => 0))), (n14, oB 3 [.ref (g18 0), .ref (g18 2), .ref (g18 3), .int (0 : Int32), .int (0 : Int32), .int (0 : Int32), .int (1 : Int32)]), ((g18 0), oB 4 [.ref (g18 1)]), ((g18 1), aI cy 24 ((fun _ => 0))), ((g18 2), aI cy 6 ((fun _ => 0))), ((g18 3), aI cy 6 ((fun _ => 0))), (n26, aI cy 5 ((fun _ => 0)))] := hD
  refine lv_aload_n hx hb dX2_init_61 rfl (lv_at hl 0 rfl) ?_
  refine lv_iconst (v := 0) hx hb dX2_init_62 (by decide) ?_
  refine va_put (D := D) (ci := 2) (v := .int (0 : Int32)) (ty := .int) (C := RX2) (T := TX2) (N := 11) hx hb hts kc5 tyX2 tyX2_ok nmX2 hown hK hP hD hS 0 rfl rfl 9 (by decide) kw20 (fun _ h9 => h9) rfl pfI rfl rfl (Nat.le_of_ble_eq_true rfl) dX2_init_63 (fun H locs hP hD hS => ?_)
  have hP : va_P D vwCl [(q0, oB 2 [.ref n8, .ref n14, .ref n26, .int (0 : Int32), .int (0 : Int32), .int (0 : Int32), .int (0 : Int32), .int (0 : Int32), .int (0 : Int32), .int (0 : Int32), .int (0 : Int32)]), (n8, aB cy 300 ((fun _ => 0))), (n14, oB 3 [.ref (g18 0), .ref (g18 2), .ref (g18 3), .int (0 : Int32), .int (0 : Int32), .int (0 : Int32), .int (1 : Int32)]), ((g18 0), oB 4 [.ref (g18 1)]), ((g18 1), aI cy 24 ((fun _ => 0))), ((g18 2), aI cy 6 ((fun _ => 0))), ((g18 3), aI cy 6 ((fun _ => 0))), (n26, aI cy 5 ((fun _ => 0)))] H := hP
  have hD : va_D A [(q0, oB 2 [.ref n8, .ref n14, .ref n26, .int (0 : Int32), .int (0 : Int32), .int (0 : Int32), .int (0 : Int32), .int (0 : Int32), .int (0 : Int32), .int (0 : Int32), .int (0 : Int32)]), (n8, aB cy 300 ((fun _ => 0))), (n14, oB 3 [.ref (g18 0), .ref (g18 2), .ref (g18 3), .int (0 : Int32), .int (0 : Int32), .int (0 : Int32), .int (1 : Int32)]), ((g18 0), oB 4 [.ref (g18 1)]), ((g18 1), aI cy 24 ((fun _ => 0))), ((g18 2), aI cy 6 ((fun _ => 0))), ((g18 3), aI cy 6 ((fun _ => 0))), (n26, aI cy 5 ((fun _ => 0)))] := hD
  refine lv_aload_n hx hb dX2_init_66 rfl (lv_at hl 0 rfl) ?_
  refine lv_iconst (v := 0) hx hb dX2_init_67 (by decide) ?_
  refine va_put (D := D) (ci := 2) (v := .int (0 : Int32)) (ty := .int) (C := RX2) (T := TX2) (N := 11) hx hb hts kc5 tyX2 tyX2_ok nmX2 hown hK hP hD hS 0 rfl rfl 10 (by decide) kw21 (fun _ h9 => h9) rfl pfI rfl rfl (Nat.le_of_ble_eq_true rfl) dX2_init_68 (fun H locs hP hD hS => ?_)
  have hP : va_P D vwCl [(q0, oB 2 [.ref n8, .ref n14, .ref n26, .int (0 : Int32), .int (0 : Int32), .int (0 : Int32), .int (0 : Int32), .int (0 : Int32), .int (0 : Int32), .int (0 : Int32), .int (0 : Int32)]), (n8, aB cy 300 ((fun _ => 0))), (n14, oB 3 [.ref (g18 0), .ref (g18 2), .ref (g18 3), .int (0 : Int32), .int (0 : Int32), .int (0 : Int32), .int (1 : Int32)]), ((g18 0), oB 4 [.ref (g18 1)]), ((g18 1), aI cy 24 ((fun _ => 0))), ((g18 2), aI cy 6 ((fun _ => 0))), ((g18 3), aI cy 6 ((fun _ => 0))), (n26, aI cy 5 ((fun _ => 0)))] H := hP
  have hD : va_D A [(q0, oB 2 [.ref n8, .ref n14, .ref n26, .int (0 : Int32), .int (0 : Int32), .int (0 : Int32), .int (0 : Int32), .int (0 : Int32), .int (0 : Int32), .int (0 : Int32), .int (0 : Int32)]), (n8, aB cy 300 ((fun _ => 0))), (n14, oB 3 [.ref (g18 0), .ref (g18 2), .ref (g18 3), .int (0 : Int32), .int (0 : Int32), .int (0 : Int32), .int (1 : Int32)]), ((g18 0), oB 4 [.ref (g18 1)]), ((g18 1), aI cy 24 ((fun _ => 0))), ((g18 2), aI cy 6 ((fun _ => 0))), ((g18 3), aI cy 6 ((fun _ => 0))), (n26, aI cy 5 ((fun _ => 0)))] := hD
  obtain rfl : r_18 = r := Option.some.inj hf
  have hP9 : va_P D vwCl [(q0, oB 2 [.ref n8, .ref n14, .ref n26, .int (0 : Int32), .int (0 : Int32), .int (0 : Int32), .int (0 : Int32), .int (0 : Int32), .int (0 : Int32), .int (0 : Int32), .int (0 : Int32)]), (n8, aB cy 300 ((fun _ => 0))), (n14, oB 3 [.ref (g18 0), .ref (g18 2), .ref (g18 3), .int (0 : Int32), .int (0 : Int32), .int (0 : Int32), .int (1 : Int32)]), ((g18 0), oB 4 [.ref (g18 1)]), ((g18 1), aI cy 24 ((fun _ => 0))), ((g18 2), aI cy 6 ((fun _ => 0))), ((g18 3), aI cy 6 ((fun _ => 0))), (n26, aI cy 5 ((fun _ => 0)))] H := hP.pick [0, 1, 2, 3, 4, 5, 6, 7] rfl
  have hD9 : va_D A [(q0, oB 2 [.ref n8, .ref n14, .ref n26, .int (0 : Int32), .int (0 : Int32), .int (0 : Int32), .int (0 : Int32), .int (0 : Int32), .int (0 : Int32), .int (0 : Int32), .int (0 : Int32)]), (n8, aB cy 300 ((fun _ => 0))), (n14, oB 3 [.ref (g18 0), .ref (g18 2), .ref (g18 3), .int (0 : Int32), .int (0 : Int32), .int (0 : Int32), .int (1 : Int32)]), ((g18 0), oB 4 [.ref (g18 1)]), ((g18 1), aI cy 24 ((fun _ => 0))), ((g18 2), aI cy 6 ((fun _ => 0))), ((g18 3), aI cy 6 ((fun _ => 0))), (n26, aI cy 5 ((fun _ => 0)))] := hD.sub [0, 1, 2, 3, 4, 5, 6, 7] (by decide) rfl
  exact hret _ _ _ _ (fun i => ([n8, n14, (g18 0), (g18 1), (g18 2), (g18 3), n26] : List Nat).getD i 0) dX2_init_71 hP9 hD9 hS
