def fX7_in (x0 : Int32) (x1 : Int32) (x2 : Int32) : Option Int32 := if x0 < x1 then (some (0 : Int32)) else (if x2 < x0 then (some (0 : Int32)) else (some (1 : Int32)))
abbrev rmX7_in : Room := { frames := 0, cells := 0, slots := 0, locals := 0 }
set_option maxHeartbeats 4000000 in
set_option maxRecDepth 100000 in
theorem ktX7_in (l : Launch) (D : va_G) (cy : Nat → ClassId) (x0 : Int32) (x1 : Int32) (x2 : Int32) (r : Int32) (hf : fX7_in x0 x1 x2 = some r) : CtI l yX7_in wsX7_in rmX7_in D cy [.int x0, .int x1, .int x2] [] [] r := by
  refine Ct_ofZ (cc := cX7_in) (nL := 3) (by decide) rfl (Nat.le_of_ble_eq_true rfl) ?_
  intro p e s m args below meth c A Q hM hret hP hD hS ls hl
  obtain ⟨hx, hb, hml, hown, hts, hcx, hA, hsx⟩ := hM
  have hown : s.vm.findClass RX7 = some m.cls := hown
  have hK := hcx.1
  have hN := hcx.2
  have hl : lv_has ls 3 [(0, .int x0), (1, .int x1), (2, .int x2)] := hl
  have hret' : ∀ (pc : Nat) (ls : Array Slot) (H : Heap) (locs : List Loc) (v : Int32), decode cX7_in pc = .ok (.ireturn, 1) → isB v → some v = some r → va_P D vwCl [] H → va_D A [] → va_S A s.heap H locs → W p l e rmX7_in s m args below meth c H locs 0 0 Q (F0 m pc ls [.int v]) := by
    intro pc ls H locs v hd hbv he hP hD hS
    cases he
    exact hret _ _ _ _ _ hd hbv rfl hP hD hS
  unfold fX7_in at hf
  refine lv_iload_n hx hb dX7_in_0 rfl (lv_at hl 0 rfl) ?_
  refine lv_iload_n hx hb dX7_in_1 rfl (lv_at hl 1 rfl) ?_
  refine lv_icmp_lt (tgt := 14) hx hb dX7_in_2 (by decide) (fun hc_2 => ?_) (fun hc_2 => ?_)
  · have hf := it_t hf hc_2
    refine lv_iconst (v := 0) hx hb dX7_in_14 (by decide) ?_
    exact hret' _ _ _ _ _ dX7_in_15 (by decide) hf hP hD hS
  · have hf := it_f hf hc_2
    refine lv_iload_n hx hb dX7_in_5 rfl (lv_at hl 0 rfl) ?_
    refine lv_iload_n hx hb dX7_in_6 rfl (lv_at hl 2 rfl) ?_
    refine lv_icmp_gt (tgt := 14) hx hb dX7_in_7 (by decide) (fun hc_7 => ?_) (fun hc_7 => ?_)
    · have hf := it_t hf hc_7
      refine lv_iconst (v := 0) hx hb dX7_in_14 (by decide) ?_
      exact hret' _ _ _ _ _ dX7_in_15 (by decide) hf hP hD hS
    · have hf := it_f hf hc_7
      refine lv_iconst (v := 1) hx hb dX7_in_10 (by decide) ?_
      refine lv_goto (tgt := 15) hx hb dX7_in_11 (by decide) ?_
      exact hret' _ _ _ _ _ dX7_in_15 (by decide) hf hP hD hS

def X7_type_J79 (z_typed_79 : Int32) (z_text_79 : Nat → Int32) : Option (Int32 × Int32 × Int32 × (Nat → Int32)) := some (z_typed_79, (0 : Int32), z_typed_79, z_text_79)
def X7_type_S37 (x1 : Int64) (self_37 : Int32 → Int32 → (Nat → Int32) → Option (Int32 × Int32 × Int32 × (Nat → Int32))) (x4_37 : Int32) (z_typed_37 : Int32) (z_text_37 : Nat → Int32) : Option (Int32 × Int32 × Int32 × (Nat → Int32)) := if x4_37 < 0 then (X7_type_J79 z_typed_37 z_text_37) else (gd (okx z_typed_37 300) (lets (upd z_text_37 z_typed_37.toNatClampNeg (((x1 >>> (((8 : Int32) * x4_37).toInt64 &&& 63)) &&& (255 : Int64)).toInt32)) (fun z_text_62 => lets (z_typed_37 + (1 : Int32)) (fun z_typed_70 => lets (x4_37 + (-1 : Int32)) (fun x4_73 => self_37 x4_73 z_typed_70 z_text_62)))))
def fX7_type (z_typed : Int32) (z_text : Nat → Int32) (x1 : Int64) (x3 : Int32) : Option (Int32 × Int32 × Int32 × (Nat → Int32)) := (fX7_in x3 (1 : Int32) (8 : Int32)).bind (fun r_9 => if r_9 = 0 then (some ((-1 : Int32), (0 : Int32), z_typed, z_text)) else (if (z_typed + x3) ≤ (300 : Int32) then (lets (x3 - (1 : Int32)) (fun x4_35 => it3 (X7_type_S37 x1) 100000 x4_35 z_typed z_text)) else (some ((-3 : Int32), (0 : Int32), z_typed, z_text))))
abbrev rmX7_type : Room := { frames := 1, cells := 0, slots := 0, locals := 22 }
set_option maxHeartbeats 4000000 in
set_option maxRecDepth 100000 in
theorem ktX7_type (l : Launch) (D : va_G) (cy : Nat → ClassId) (q0 : Nat) (q_text : Nat) (q_weight : Nat) (q_eats : Nat) (q_barred : Nat) (q_laws : Nat) (q_s : Nat) (q_kept : Nat) (q_isKept : Nat) (q_years : Nat) (q_likely : Nat) (q_then : Nat) (q_row : Nat) (q_best : Nat) (z_thrown : Int32) (z_trace : Int64) (z_typed : Int32) (z_next : Int32) (z_token : Int32) (z_place : Int32) (z_value : Int32) (z_fault : Int32) (z_houses : Int32) (z_draftHouses : Int32) (z_all : Int64) (z_text : Nat → Int32) (x1 : Int64) (x3 : Int32) (r : Int32 × Int32 × Int32 × (Nat → Int32)) (hf : fX7_type z_typed z_text x1 x3 = some r) : CtI l yX7_type wsX7_type rmX7_type D cy [.ref q0, .long x1, .int x3] [(q0, oB 7 [.int z_thrown, .long z_trace, .ref q_text, .int z_typed, .int z_next, .int z_token, .int z_place, .int z_value, .int z_fault, .ref q_weight, .ref q_eats, .ref q_barred, .ref q_laws, .int z_houses, .int z_draftHouses, .ref q_s, .ref q_kept, .ref q_isKept, .ref q_years, .ref q_likely, .ref q_then, .long z_all, .ref q_row, .ref q_best]), (q_text, aI cy 300 z_text)] [(q0, oB 7 [.int r.2.1, .long z_trace, .ref q_text, .int r.2.2.1, .int z_next, .int z_token, .int z_place, .int z_value, .int z_fault, .ref q_weight, .ref q_eats, .ref q_barred, .ref q_laws, .int z_houses, .int z_draftHouses, .ref q_s, .ref q_kept, .ref q_isKept, .ref q_years, .ref q_likely, .ref q_then, .long z_all, .ref q_row, .ref q_best]), (q_text, aI cy 300 r.2.2.2)] r.1 := by
  refine Ct_ofI (cc := cX7_type) (nL := 5) (by decide) rfl (Nat.le_of_ble_eq_true rfl) ?_
  intro p e s m args below meth c A Q hM hret hP hD hS ls hl
  obtain ⟨hx, hb, hml, hown, hts, hcx, hA, hsx⟩ := hM
  have hown : s.vm.findClass RX7 = some m.cls := hown
  have hK := hcx.1
  have hN := hcx.2
  have kw0 := hts (.fieldLink RX7 54 "EachBringsModel" "thrown" "I") (List.mem_of_getElem? (i := 1) rfl)
  have kc1 : ∀ w ∈ wsX70, w ∈ wsX7_type := fun _ h => List.mem_cons_of_mem _ (List.mem_append_right _ h)
  have kw2 := hts (.fieldLink RX7 62 "EachBringsModel" "typed" "I") (List.mem_of_getElem? (i := 2) rfl)
  have kw3 := hts (.fieldLink RX7 7 "EachBringsModel" "text" "[I") (List.mem_of_getElem? (i := 3) rfl)
  have kw4 := hts (.constantLong RX7 65 (255)) (List.mem_of_getElem? (i := 4) rfl)
  have hl : lv_has ls 5 [(0, .ref q0), (1, .long x1), (3, .int x3)] := hl
  have hret' : ∀ (pc : Nat) (ls : Array Slot) (H : Heap) (locs : List Loc) (v : Int32) (w0 : Int32) (w1 : Int32) (w2 : Nat → Int32), decode cX7_type pc = .ok (.ireturn, 1) → some (v, w0, w1, w2) = some r → va_P D vwCl [(q0, oB 7 [.int w0, .long z_trace, .ref q_text, .int w1, .int z_next, .int z_token, .int z_place, .int z_value, .int z_fault, .ref q_weight, .ref q_eats, .ref q_barred, .ref q_laws, .int z_houses, .int z_draftHouses, .ref q_s, .ref q_kept, .ref q_isKept, .ref q_years, .ref q_likely, .ref q_then, .long z_all, .ref q_row, .ref q_best]), (q_text, aI cy 300 w2)] H → va_D A [(q0, oB 7 [.int w0, .long z_trace, .ref q_text, .int w1, .int z_next, .int z_token, .int z_place, .int z_value, .int z_fault, .ref q_weight, .ref q_eats, .ref q_barred, .ref q_laws, .int z_houses, .int z_draftHouses, .ref q_s, .ref q_kept, .ref q_isKept, .ref q_years, .ref q_likely, .ref q_then, .long z_all, .ref q_row, .ref q_best]), (q_text, aI cy 300 w2)] → va_S A s.heap H locs → W p l e rmX7_type s m args below meth c H locs 0 0 Q (F0 m pc ls [.int v]) := by
    intro pc ls H locs v w0 w1 w2 hd he hP hD hS
    cases he
    exact hret _ _ _ _ _ hd rfl hP hD hS
  unfold fX7_type at hf
  refine lv_aload_n hx hb dX7_type_0 rfl (lv_at hl 0 rfl) ?_
  refine lv_iconst (v := 0) hx hb dX7_type_1 (by decide) ?_
  refine va_put (D := D) (ci := 7) (v := .int (0 : Int32)) (ty := .int) (C := RX7) (T := TX7) (N := 24) hx hb hts kc1 tyX7 tyX7_ok nmX7 hown hK hP hD hS 0 rfl rfl 0 (by decide) kw0 (fun _ h9 => h9) rfl pfI rfl rfl (Nat.le_of_ble_eq_true rfl) dX7_type_2 (fun H locs hP hD hS => ?_)
  have hP : va_P D vwCl [(q0, oB 7 [.int (0 : Int32), .long z_trace, .ref q_text, .int z_typed, .int z_next, .int z_token, .int z_place, .int z_value, .int z_fault, .ref q_weight, .ref q_eats, .ref q_barred, .ref q_laws, .int z_houses, .int z_draftHouses, .ref q_s, .ref q_kept, .ref q_isKept, .ref q_years, .ref q_likely, .ref q_then, .long z_all, .ref q_row, .ref q_best]), (q_text, aI cy 300 z_text)] H := hP
  have hD : va_D A [(q0, oB 7 [.int (0 : Int32), .long z_trace, .ref q_text, .int z_typed, .int z_next, .int z_token, .int z_place, .int z_value, .int z_fault, .ref q_weight, .ref q_eats, .ref q_barred, .ref q_laws, .int z_houses, .int z_draftHouses, .ref q_s, .ref q_kept, .ref q_isKept, .ref q_years, .ref q_likely, .ref q_then, .long z_all, .ref q_row, .ref q_best]), (q_text, aI cy 300 z_text)] := hD
  refine lv_iload_n hx hb dX7_type_5 rfl (lv_at hl 2 rfl) ?_
  refine lv_iconst (v := 1) hx hb dX7_type_6 (by decide) ?_
  refine lv_bipush (v := 8) hx hb dX7_type_7 (by decide) ?_
  obtain ⟨r_9, hr_9, hf⟩ := bd_some hf
  refine cl_i (wc := []) (w1 := []) (wr := [(q0, oB 7 [.int (0 : Int32), .long z_trace, .ref q_text, .int z_typed, .int z_next, .int z_token, .int z_place, .int z_value, .int z_fault, .ref q_weight, .ref q_eats, .ref q_barred, .ref q_laws, .int z_houses, .int z_draftHouses, .ref q_s, .ref q_kept, .ref q_isKept, .ref q_years, .ref q_likely, .ref q_then, .long z_all, .ref q_row, .ref q_best]), (q_text, aI cy 300 z_text)]) (w2 := [(q0, oB 7 [.int (0 : Int32), .long z_trace, .ref q_text, .int z_typed, .int z_next, .int z_token, .int z_place, .int z_value, .int z_fault, .ref q_weight, .ref q_eats, .ref q_barred, .ref q_laws, .int z_houses, .int z_draftHouses, .ref q_s, .ref q_kept, .ref q_isKept, .ref q_years, .ref q_likely, .ref q_then, .long z_all, .ref q_row, .ref q_best]), (q_text, aI cy 300 z_text)]) (va_runS (As := [.int x3, .int (1 : Int32), .int (8 : Int32)]) (rest := []) ⟨hx, hb, hml, hown, hts⟩ (ktX7_in l D cy x3 (1 : Int32) (8 : Int32) r_9 hr_9 _) (va_cwS 3 hts gX7_type_X7_in rfl rfl rfl (by decide +kernel) ⟨Nat.le_of_ble_eq_true rfl, Nat.le_of_ble_eq_true rfl⟩) (pre_S (wc := []) hcx hsx hS hA hP hD [] rfl (by decide)) rfl rfl hl.1 rfl (lv_room (Nat.le_of_ble_eq_true rfl)) dX7_type_9 ⟨Nat.zero_le _, Nat.zero_le _⟩) hP hD hS hA [] [0, 1] [0, 1] rfl rfl (by decide) (by decide) (by decide) rfl (fun H locs hP hD hS => ?_)
  refine lv_if_ne (tgt := 17) hx hb dX7_type_12 (by decide) (fun hc_12 => ?_) (fun hc_12 => ?_)
  · have hf := it_f hf hc_12
    refine lv_aload_n hx hb dX7_type_17 rfl (lv_at hl 0 rfl) ?_
    refine va_get (D := D) (ci := 7) (v := .int z_typed) (C := RX7) (T := TX7) (N := 24) hx hb hts kc1 hown hK hP 0 rfl rfl 3 (by decide) kw2 (fun _ h9 => h9) rfl dX7_type_18 ?_
    refine lv_iload_n hx hb dX7_type_21 rfl (lv_at hl 2 rfl) ?_
    refine lv_iadd hx hb dX7_type_22 ?_
    refine lv_sipush (v := 300) hx hb dX7_type_23 (by decide) ?_
    refine lv_icmp_le (tgt := 32) hx hb dX7_type_26 (by decide) (fun hc_26 => ?_) (fun hc_26 => ?_)
    · have hf := it_t hf hc_26
      refine lv_iload_n hx hb dX7_type_32 rfl (lv_at hl 2 rfl) ?_
      refine lv_iconst (v := 1) hx hb dX7_type_33 (by decide) ?_
      refine lv_isub hx hb dX7_type_34 ?_
      refine lv_topi (fun x4_35 ex4_35 => ?_)
      have hf := lets_at hf ex4_35
      refine lv_istore (lv' := [(4, .int x4_35), (0, .ref q0), (1, .long x1), (3, .int x3)]) hx hb dX7_type_35 hl (by decide) rfl (fun ls hl => ?_)
      have hJ79 : ∀ (z_typed_79 : Int32) (z_text_79 : Nat → Int32) (H : Heap) (locs : List Loc) (ls : Array Slot), X7_type_J79 z_typed_79 z_text_79 = some r → va_P D vwCl [(q0, oB 7 [.int (0 : Int32), .long z_trace, .ref q_text, .int z_typed_79, .int z_next, .int z_token, .int z_place, .int z_value, .int z_fault, .ref q_weight, .ref q_eats, .ref q_barred, .ref q_laws, .int z_houses, .int z_draftHouses, .ref q_s, .ref q_kept, .ref q_isKept, .ref q_years, .ref q_likely, .ref q_then, .long z_all, .ref q_row, .ref q_best]), (q_text, aI cy 300 z_text_79)] H → va_D A [(q0, oB 7 [.int (0 : Int32), .long z_trace, .ref q_text, .int z_typed_79, .int z_next, .int z_token, .int z_place, .int z_value, .int z_fault, .ref q_weight, .ref q_eats, .ref q_barred, .ref q_laws, .int z_houses, .int z_draftHouses, .ref q_s, .ref q_kept, .ref q_isKept, .ref q_years, .ref q_likely, .ref q_then, .long z_all, .ref q_row, .ref q_best]), (q_text, aI cy 300 z_text_79)] → va_S A s.heap H locs → lv_has ls 5 [(0, .ref q0)] → W p l e rmX7_type s m args below meth c H locs 0 0 Q (F0 m 79 ls []) := by
        intro z_typed_79 z_text_79 H locs ls hf hP hD hS hl
        unfold X7_type_J79 at hf
        refine lv_aload_n hx hb dX7_type_79 rfl (lv_at hl 0 rfl) ?_
        refine va_get (D := D) (ci := 7) (v := .int z_typed_79) (C := RX7) (T := TX7) (N := 24) hx hb hts kc1 hown hK hP 0 rfl rfl 3 (by decide) kw2 (fun _ h9 => h9) rfl dX7_type_80 ?_
        exact hret' _ _ _ _ _ _ _ _ dX7_type_83 hf hP hD hS
      have hL37 : ∀ (n : Nat) (x4_37 : Int32) (z_typed_37 : Int32) (z_text_37 : Nat → Int32) (H : Heap) (locs : List Loc) (ls : Array Slot), it3 (X7_type_S37 x1) n x4_37 z_typed_37 z_text_37 = some r → va_P D vwCl [(q0, oB 7 [.int (0 : Int32), .long z_trace, .ref q_text, .int z_typed_37, .int z_next, .int z_token, .int z_place, .int z_value, .int z_fault, .ref q_weight, .ref q_eats, .ref q_barred, .ref q_laws, .int z_houses, .int z_draftHouses, .ref q_s, .ref q_kept, .ref q_isKept, .ref q_years, .ref q_likely, .ref q_then, .long z_all, .ref q_row, .ref q_best]), (q_text, aI cy 300 z_text_37)] H → va_D A [(q0, oB 7 [.int (0 : Int32), .long z_trace, .ref q_text, .int z_typed_37, .int z_next, .int z_token, .int z_place, .int z_value, .int z_fault, .ref q_weight, .ref q_eats, .ref q_barred, .ref q_laws, .int z_houses, .int z_draftHouses, .ref q_s, .ref q_kept, .ref q_isKept, .ref q_years, .ref q_likely, .ref q_then, .long z_all, .ref q_row, .ref q_best]), (q_text, aI cy 300 z_text_37)] → va_S A s.heap H locs → lv_has ls 5 [(0, .ref q0), (1, .long x1), (4, .int x4_37)] → W p l e rmX7_type s m args below meth c H locs 0 0 Q (F0 m 37 ls []) := by
        intro n
        induction n with
        | zero => intro x4_37 z_typed_37 z_text_37 H locs ls hf; exact absurd hf (by simp [it3])
        | succ n ih37 =>
          intro x4_37 z_typed_37 z_text_37 H locs ls hf hP hD hS hl
          have hf : X7_type_S37 x1 (it3 (X7_type_S37 x1) n) x4_37 z_typed_37 z_text_37 = some r := hf
          generalize it3 (X7_type_S37 x1) n = self_37 at hf ih37
          unfold X7_type_S37 at hf
          refine lv_iload hx hb dX7_type_37 (lv_at hl 2 rfl) ?_
          refine lv_if_lt (tgt := 79) hx hb dX7_type_39 (by decide) (fun hc_39 => ?_) (fun hc_39 => ?_)
          · have hf := it_t hf hc_39
            exact hJ79 z_typed_37 z_text_37 _ _ _ hf hP hD hS (lv_sub hl [0] rfl)
          · have hf := it_f hf hc_39
            refine lv_aload_n hx hb dX7_type_42 rfl (lv_at hl 0 rfl) ?_
            refine va_get (D := D) (ci := 7) (v := .ref q_text) (C := RX7) (T := TX7) (N := 24) hx hb hts kc1 hown hK hP 0 rfl rfl 2 (by decide) kw3 (fun _ h9 => h9) rfl dX7_type_43 ?_
            refine lv_aload_n hx hb dX7_type_46 rfl (lv_at hl 0 rfl) ?_
            refine va_get (D := D) (ci := 7) (v := .int z_typed_37) (C := RX7) (T := TX7) (N := 24) hx hb hts kc1 hown hK hP 0 rfl rfl 3 (by decide) kw2 (fun _ h9 => h9) rfl dX7_type_47 ?_
            refine lv_lload_n hx hb dX7_type_50 rfl (lv_at hl 1 rfl) ?_
            refine lv_bipush (v := 8) hx hb dX7_type_51 (by decide) ?_
            refine lv_iload hx hb dX7_type_53 (lv_at hl 2 rfl) ?_
            refine lv_imul hx hb dX7_type_55 ?_
            refine lv_lshr (v := x1 >>> (((8 : Int32) * x4_37).toInt64 &&& 63)) hx hb dX7_type_56 rfl ?_
            refine lv_ldc2 (v := 255) hx hb hown kw4 dX7_type_57 ?_
            refine lv_land hx hb dX7_type_60 ?_
            refine lv_l2i (v := ((x1 >>> (((8 : Int32) * x4_37).toInt64 &&& 63)) &&& (255 : Int64)).toInt32) hx hb dX7_type_61 rfl ?_
            obtain ⟨hg_62, hf⟩ := gd_some hf
            refine va_iast hx hb hK hP hD hS 1 0 rfl rfl hg_62 dX7_type_62 (fun H locs hP hD hS => ?_)
            obtain ⟨z_text_62, ez_text_62⟩ : ∃ y : Nat → Int32, y = upd z_text_37 z_typed_37.toNatClampNeg (((x1 >>> (((8 : Int32) * x4_37).toInt64 &&& 63)) &&& (255 : Int64)).toInt32) := ⟨_, rfl⟩
            have hf := lets_at hf ez_text_62
            rw [← ez_text_62] at hP hD
            have hP : va_P D vwCl [(q0, oB 7 [.int (0 : Int32), .long z_trace, .ref q_text, .int z_typed_37, .int z_next, .int z_token, .int z_place, .int z_value, .int z_fault, .ref q_weight, .ref q_eats, .ref q_barred, .ref q_laws, .int z_houses, .int z_draftHouses, .ref q_s, .ref q_kept, .ref q_isKept, .ref q_years, .ref q_likely, .ref q_then, .long z_all, .ref q_row, .ref q_best]), (q_text, aI cy 300 z_text_62)] H := hP
            have hD : va_D A [(q0, oB 7 [.int (0 : Int32), .long z_trace, .ref q_text, .int z_typed_37, .int z_next, .int z_token, .int z_place, .int z_value, .int z_fault, .ref q_weight, .ref q_eats, .ref q_barred, .ref q_laws, .int z_houses, .int z_draftHouses, .ref q_s, .ref q_kept, .ref q_isKept, .ref q_years, .ref q_likely, .ref q_then, .long z_all, .ref q_row, .ref q_best]), (q_text, aI cy 300 z_text_62)] := hD
            refine lv_aload_n hx hb dX7_type_63 rfl (lv_at hl 0 rfl) ?_
            refine lv_dup hx hb dX7_type_64 rfl ?_
            refine va_get (D := D) (ci := 7) (v := .int z_typed_37) (C := RX7) (T := TX7) (N := 24) hx hb hts kc1 hown hK hP 0 rfl rfl 3 (by decide) kw2 (fun _ h9 => h9) rfl dX7_type_65 ?_
            refine lv_iconst (v := 1) hx hb dX7_type_68 (by decide) ?_
            refine lv_iadd hx hb dX7_type_69 ?_
            refine lv_topi (fun z_typed_70 ez_typed_70 => ?_)
            have hf := lets_at hf ez_typed_70
            refine va_put (D := D) (ci := 7) (v := .int z_typed_70) (ty := .int) (C := RX7) (T := TX7) (N := 24) hx hb hts kc1 tyX7 tyX7_ok nmX7 hown hK hP hD hS 0 rfl rfl 3 (by decide) kw2 (fun _ h9 => h9) rfl pfI rfl rfl (Nat.le_of_ble_eq_true rfl) dX7_type_70 (fun H locs hP hD hS => ?_)
            have hP : va_P D vwCl [(q0, oB 7 [.int (0 : Int32), .long z_trace, .ref q_text, .int z_typed_70, .int z_next, .int z_token, .int z_place, .int z_value, .int z_fault, .ref q_weight, .ref q_eats, .ref q_barred, .ref q_laws, .int z_houses, .int z_draftHouses, .ref q_s, .ref q_kept, .ref q_isKept, .ref q_years, .ref q_likely, .ref q_then, .long z_all, .ref q_row, .ref q_best]), (q_text, aI cy 300 z_text_62)] H := hP
            have hD : va_D A [(q0, oB 7 [.int (0 : Int32), .long z_trace, .ref q_text, .int z_typed_70, .int z_next, .int z_token, .int z_place, .int z_value, .int z_fault, .ref q_weight, .ref q_eats, .ref q_barred, .ref q_laws, .int z_houses, .int z_draftHouses, .ref q_s, .ref q_kept, .ref q_isKept, .ref q_years, .ref q_likely, .ref q_then, .long z_all, .ref q_row, .ref q_best]), (q_text, aI cy 300 z_text_62)] := hD
            obtain ⟨x4_73, ex4_73⟩ : ∃ y : Int32, y = x4_37 + (-1 : Int32) := ⟨_, rfl⟩
            have hf := lets_at hf ex4_73
            refine lv_iinc (v := x4_73) (lv' := [(4, .int x4_73), (0, .ref q0), (1, .long x1)]) hx hb dX7_type_73 hl (k := 2) rfl (by rw [ex4_73]; rfl) (by decide) rfl (fun ls hl => ?_)
            refine lv_goto (tgt := 37) hx hb dX7_type_76 (by decide) ?_
            exact ih37 x4_73 z_typed_70 z_text_62 _ _ _ hf hP hD hS (lv_sub hl [1, 2, 0] rfl)
      exact hL37 _ x4_35 z_typed z_text _ _ _ hf hP hD hS (lv_sub hl [1, 2, 0] rfl)
    · have hf := it_f hf hc_26
      refine lv_bipush (v := -3) hx hb dX7_type_29 (by decide) ?_
      exact hret' _ _ _ _ _ _ _ _ dX7_type_31 hf hP hD hS
  · have hf := it_t hf hc_12
    refine lv_iconst (v := -1) hx hb dX7_type_15 (by decide) ?_
    exact hret' _ _ _ _ _ _ _ _ dX7_type_16 hf hP hD hS

def fX7_clear (z_typed : Int32) : Option (Int32 × Int32 × Int32) := some (z_typed, (0 : Int32), (0 : Int32))
abbrev rmX7_clear : Room := { frames := 0, cells := 0, slots := 0, locals := 0 }
set_option maxHeartbeats 4000000 in
set_option maxRecDepth 100000 in
theorem ktX7_clear (l : Launch) (D : va_G) (cy : Nat → ClassId) (q0 : Nat) (q_text : Nat) (q_weight : Nat) (q_eats : Nat) (q_barred : Nat) (q_laws : Nat) (q_s : Nat) (q_kept : Nat) (q_isKept : Nat) (q_years : Nat) (q_likely : Nat) (q_then : Nat) (q_row : Nat) (q_best : Nat) (z_thrown : Int32) (z_trace : Int64) (z_typed : Int32) (z_next : Int32) (z_token : Int32) (z_place : Int32) (z_value : Int32) (z_fault : Int32) (z_houses : Int32) (z_draftHouses : Int32) (z_all : Int64) (r : Int32 × Int32 × Int32) (hf : fX7_clear z_typed = some r) : CtI l yX7_clear wsX7_clear rmX7_clear D cy [.ref q0] [(q0, oB 7 [.int z_thrown, .long z_trace, .ref q_text, .int z_typed, .int z_next, .int z_token, .int z_place, .int z_value, .int z_fault, .ref q_weight, .ref q_eats, .ref q_barred, .ref q_laws, .int z_houses, .int z_draftHouses, .ref q_s, .ref q_kept, .ref q_isKept, .ref q_years, .ref q_likely, .ref q_then, .long z_all, .ref q_row, .ref q_best])] [(q0, oB 7 [.int r.2.1, .long z_trace, .ref q_text, .int r.2.2, .int z_next, .int z_token, .int z_place, .int z_value, .int z_fault, .ref q_weight, .ref q_eats, .ref q_barred, .ref q_laws, .int z_houses, .int z_draftHouses, .ref q_s, .ref q_kept, .ref q_isKept, .ref q_years, .ref q_likely, .ref q_then, .long z_all, .ref q_row, .ref q_best])] r.1 := by
  refine Ct_ofI (cc := cX7_clear) (nL := 2) (by decide) rfl (Nat.le_of_ble_eq_true rfl) ?_
  intro p e s m args below meth c A Q hM hret hP hD hS ls hl
  obtain ⟨hx, hb, hml, hown, hts, hcx, hA, hsx⟩ := hM
  have hown : s.vm.findClass RX7 = some m.cls := hown
  have hK := hcx.1
  have hN := hcx.2
  have kw0 := hts (.fieldLink RX7 54 "EachBringsModel" "thrown" "I") (List.mem_of_getElem? (i := 1) rfl)
  have kc1 : ∀ w ∈ wsX70, w ∈ wsX7_clear := fun _ h => List.mem_cons_of_mem _ (List.mem_append_right _ h)
  have kw2 := hts (.fieldLink RX7 62 "EachBringsModel" "typed" "I") (List.mem_of_getElem? (i := 2) rfl)
  have hl : lv_has ls 2 [(0, .ref q0)] := hl
  have hret' : ∀ (pc : Nat) (ls : Array Slot) (H : Heap) (locs : List Loc) (v : Int32) (w0 : Int32) (w1 : Int32), decode cX7_clear pc = .ok (.ireturn, 1) → some (v, w0, w1) = some r → va_P D vwCl [(q0, oB 7 [.int w0, .long z_trace, .ref q_text, .int w1, .int z_next, .int z_token, .int z_place, .int z_value, .int z_fault, .ref q_weight, .ref q_eats, .ref q_barred, .ref q_laws, .int z_houses, .int z_draftHouses, .ref q_s, .ref q_kept, .ref q_isKept, .ref q_years, .ref q_likely, .ref q_then, .long z_all, .ref q_row, .ref q_best])] H → va_D A [(q0, oB 7 [.int w0, .long z_trace, .ref q_text, .int w1, .int z_next, .int z_token, .int z_place, .int z_value, .int z_fault, .ref q_weight, .ref q_eats, .ref q_barred, .ref q_laws, .int z_houses, .int z_draftHouses, .ref q_s, .ref q_kept, .ref q_isKept, .ref q_years, .ref q_likely, .ref q_then, .long z_all, .ref q_row, .ref q_best])] → va_S A s.heap H locs → W p l e rmX7_clear s m args below meth c H locs 0 0 Q (F0 m pc ls [.int v]) := by
    intro pc ls H locs v w0 w1 hd he hP hD hS
    cases he
    exact hret _ _ _ _ _ hd rfl hP hD hS
  unfold fX7_clear at hf
  refine lv_aload_n hx hb dX7_clear_0 rfl (lv_at hl 0 rfl) ?_
  refine lv_iconst (v := 0) hx hb dX7_clear_1 (by decide) ?_
  refine va_put (D := D) (ci := 7) (v := .int (0 : Int32)) (ty := .int) (C := RX7) (T := TX7) (N := 24) hx hb hts kc1 tyX7 tyX7_ok nmX7 hown hK hP hD hS 0 rfl rfl 0 (by decide) kw0 (fun _ h9 => h9) rfl pfI rfl rfl (Nat.le_of_ble_eq_true rfl) dX7_clear_2 (fun H locs hP hD hS => ?_)
  have hP : va_P D vwCl [(q0, oB 7 [.int (0 : Int32), .long z_trace, .ref q_text, .int z_typed, .int z_next, .int z_token, .int z_place, .int z_value, .int z_fault, .ref q_weight, .ref q_eats, .ref q_barred, .ref q_laws, .int z_houses, .int z_draftHouses, .ref q_s, .ref q_kept, .ref q_isKept, .ref q_years, .ref q_likely, .ref q_then, .long z_all, .ref q_row, .ref q_best])] H := hP
  have hD : va_D A [(q0, oB 7 [.int (0 : Int32), .long z_trace, .ref q_text, .int z_typed, .int z_next, .int z_token, .int z_place, .int z_value, .int z_fault, .ref q_weight, .ref q_eats, .ref q_barred, .ref q_laws, .int z_houses, .int z_draftHouses, .ref q_s, .ref q_kept, .ref q_isKept, .ref q_years, .ref q_likely, .ref q_then, .long z_all, .ref q_row, .ref q_best])] := hD
  refine lv_aload_n hx hb dX7_clear_5 rfl (lv_at hl 0 rfl) ?_
  refine va_get (D := D) (ci := 7) (v := .int z_typed) (C := RX7) (T := TX7) (N := 24) hx hb hts kc1 hown hK hP 0 rfl rfl 3 (by decide) kw2 (fun _ h9 => h9) rfl dX7_clear_6 ?_
  refine lv_istore_n (lv' := [(1, .int z_typed), (0, .ref q0)]) hx hb dX7_clear_9 rfl hl (by decide) rfl (fun ls hl => ?_)
  refine lv_aload_n hx hb dX7_clear_10 rfl (lv_at hl 1 rfl) ?_
  refine lv_iconst (v := 0) hx hb dX7_clear_11 (by decide) ?_
  refine va_put (D := D) (ci := 7) (v := .int (0 : Int32)) (ty := .int) (C := RX7) (T := TX7) (N := 24) hx hb hts kc1 tyX7 tyX7_ok nmX7 hown hK hP hD hS 0 rfl rfl 3 (by decide) kw2 (fun _ h9 => h9) rfl pfI rfl rfl (Nat.le_of_ble_eq_true rfl) dX7_clear_12 (fun H locs hP hD hS => ?_)
  have hP : va_P D vwCl [(q0, oB 7 [.int (0 : Int32), .long z_trace, .ref q_text, .int (0 : Int32), .int z_next, .int z_token, .int z_place, .int z_value, .int z_fault, .ref q_weight, .ref q_eats, .ref q_barred, .ref q_laws, .int z_houses, .int z_draftHouses, .ref q_s, .ref q_kept, .ref q_isKept, .ref q_years, .ref q_likely, .ref q_then, .long z_all, .ref q_row, .ref q_best])] H := hP
  have hD : va_D A [(q0, oB 7 [.int (0 : Int32), .long z_trace, .ref q_text, .int (0 : Int32), .int z_next, .int z_token, .int z_place, .int z_value, .int z_fault, .ref q_weight, .ref q_eats, .ref q_barred, .ref q_laws, .int z_houses, .int z_draftHouses, .ref q_s, .ref q_kept, .ref q_isKept, .ref q_years, .ref q_likely, .ref q_then, .long z_all, .ref q_row, .ref q_best])] := hD
  refine lv_iload_n hx hb dX7_clear_15 rfl (lv_at hl 0 rfl) ?_
  exact hret' _ _ _ _ _ _ _ dX7_clear_16 hf hP hD hS

def fX7_byteAt (z_typed : Int32) (z_text : Nat → Int32) (x1 : Int32) : Option Int32 := if z_typed ≤ x1 then (some (-1 : Int32)) else (gd (okx x1 300) (some (z_text x1.toNatClampNeg)))
abbrev rmX7_byteAt : Room := { frames := 0, cells := 0, slots := 0, locals := 0 }
set_option maxHeartbeats 4000000 in
set_option maxRecDepth 100000 in
theorem ktX7_byteAt (l : Launch) (D : va_G) (cy : Nat → ClassId) (q0 : Nat) (q_text : Nat) (q_weight : Nat) (q_eats : Nat) (q_barred : Nat) (q_laws : Nat) (q_s : Nat) (q_kept : Nat) (q_isKept : Nat) (q_years : Nat) (q_likely : Nat) (q_then : Nat) (q_row : Nat) (q_best : Nat) (z_thrown : Int32) (z_trace : Int64) (z_typed : Int32) (z_next : Int32) (z_token : Int32) (z_place : Int32) (z_value : Int32) (z_fault : Int32) (z_houses : Int32) (z_draftHouses : Int32) (z_all : Int64) (z_text : Nat → Int32) (x1 : Int32) (r : Int32) (hf : fX7_byteAt z_typed z_text x1 = some r) : CtI l yX7_byteAt wsX7_byteAt rmX7_byteAt D cy [.ref q0, .int x1] [(q0, oB 7 [.int z_thrown, .long z_trace, .ref q_text, .int z_typed, .int z_next, .int z_token, .int z_place, .int z_value, .int z_fault, .ref q_weight, .ref q_eats, .ref q_barred, .ref q_laws, .int z_houses, .int z_draftHouses, .ref q_s, .ref q_kept, .ref q_isKept, .ref q_years, .ref q_likely, .ref q_then, .long z_all, .ref q_row, .ref q_best]), (q_text, aI cy 300 z_text)] [(q0, oB 7 [.int z_thrown, .long z_trace, .ref q_text, .int z_typed, .int z_next, .int z_token, .int z_place, .int z_value, .int z_fault, .ref q_weight, .ref q_eats, .ref q_barred, .ref q_laws, .int z_houses, .int z_draftHouses, .ref q_s, .ref q_kept, .ref q_isKept, .ref q_years, .ref q_likely, .ref q_then, .long z_all, .ref q_row, .ref q_best]), (q_text, aI cy 300 z_text)] r := by
  refine Ct_ofI (cc := cX7_byteAt) (nL := 2) (by decide) rfl (Nat.le_of_ble_eq_true rfl) ?_
  intro p e s m args below meth c A Q hM hret hP hD hS ls hl
  obtain ⟨hx, hb, hml, hown, hts, hcx, hA, hsx⟩ := hM
  have hown : s.vm.findClass RX7 = some m.cls := hown
  have hK := hcx.1
  have hN := hcx.2
  have kw0 := hts (.fieldLink RX7 62 "EachBringsModel" "typed" "I") (List.mem_of_getElem? (i := 1) rfl)
  have kc1 : ∀ w ∈ wsX70, w ∈ wsX7_byteAt := fun _ h => List.mem_cons_of_mem _ (List.mem_append_right _ h)
  have kw2 := hts (.fieldLink RX7 7 "EachBringsModel" "text" "[I") (List.mem_of_getElem? (i := 2) rfl)
  have hl : lv_has ls 2 [(0, .ref q0), (1, .int x1)] := hl
  have hret' : ∀ (pc : Nat) (ls : Array Slot) (H : Heap) (locs : List Loc) (v : Int32), decode cX7_byteAt pc = .ok (.ireturn, 1) → some v = some r → va_P D vwCl [(q0, oB 7 [.int z_thrown, .long z_trace, .ref q_text, .int z_typed, .int z_next, .int z_token, .int z_place, .int z_value, .int z_fault, .ref q_weight, .ref q_eats, .ref q_barred, .ref q_laws, .int z_houses, .int z_draftHouses, .ref q_s, .ref q_kept, .ref q_isKept, .ref q_years, .ref q_likely, .ref q_then, .long z_all, .ref q_row, .ref q_best]), (q_text, aI cy 300 z_text)] H → va_D A [(q0, oB 7 [.int z_thrown, .long z_trace, .ref q_text, .int z_typed, .int z_next, .int z_token, .int z_place, .int z_value, .int z_fault, .ref q_weight, .ref q_eats, .ref q_barred, .ref q_laws, .int z_houses, .int z_draftHouses, .ref q_s, .ref q_kept, .ref q_isKept, .ref q_years, .ref q_likely, .ref q_then, .long z_all, .ref q_row, .ref q_best]), (q_text, aI cy 300 z_text)] → va_S A s.heap H locs → W p l e rmX7_byteAt s m args below meth c H locs 0 0 Q (F0 m pc ls [.int v]) := by
    intro pc ls H locs v hd he hP hD hS
    cases he
    exact hret _ _ _ _ _ hd rfl hP hD hS
  unfold fX7_byteAt at hf
  refine lv_iload_n hx hb dX7_byteAt_0 rfl (lv_at hl 1 rfl) ?_
  refine lv_aload_n hx hb dX7_byteAt_1 rfl (lv_at hl 0 rfl) ?_
  refine va_get (D := D) (ci := 7) (v := .int z_typed) (C := RX7) (T := TX7) (N := 24) hx hb hts kc1 hown hK hP 0 rfl rfl 3 (by decide) kw0 (fun _ h9 => h9) rfl dX7_byteAt_2 ?_
  refine lv_icmp_ge (tgt := 17) hx hb dX7_byteAt_5 (by decide) (fun hc_5 => ?_) (fun hc_5 => ?_)
  · have hf := it_t hf hc_5
    refine lv_iconst (v := -1) hx hb dX7_byteAt_17 (by decide) ?_
    exact hret' _ _ _ _ _ dX7_byteAt_18 hf hP hD hS
  · have hf := it_f hf hc_5
    refine lv_aload_n hx hb dX7_byteAt_8 rfl (lv_at hl 0 rfl) ?_
    refine va_get (D := D) (ci := 7) (v := .ref q_text) (C := RX7) (T := TX7) (N := 24) hx hb hts kc1 hown hK hP 0 rfl rfl 2 (by decide) kw2 (fun _ h9 => h9) rfl dX7_byteAt_9 ?_
    refine lv_iload_n hx hb dX7_byteAt_12 rfl (lv_at hl 1 rfl) ?_
    obtain ⟨hg_13, hf⟩ := gd_some hf
    refine va_iald hx hb hK hP 1 0 rfl rfl hg_13 dX7_byteAt_13 ?_
    refine lv_goto (tgt := 18) hx hb dX7_byteAt_14 (by decide) ?_
    exact hret' _ _ _ _ _ dX7_byteAt_18 hf hP hD hS

def fX7_add (x0 : Int64) (x2 : Int32) : Option Int64 := if x2 = 0 then (some x0) else (some (((256 : Int64) * x0) + x2.toInt64))
abbrev rmX7_add : Room := { frames := 0, cells := 0, slots := 0, locals := 0 }
set_option maxHeartbeats 4000000 in
set_option maxRecDepth 100000 in
theorem ktX7_add (l : Launch) (D : va_G) (cy : Nat → ClassId) (x0 : Int64) (x2 : Int32) (r : Int64) (hf : fX7_add x0 x2 = some r) : CtL l yX7_add wsX7_add rmX7_add D cy [.long x0, .int x2] [] [] r := by
  refine Ct_ofL (cc := cX7_add) (nL := 3) (by decide) rfl (Nat.le_of_ble_eq_true rfl) ?_
  intro p e s m args below meth c A Q hM hret hP hD hS ls hl
  obtain ⟨hx, hb, hml, hown, hts, hcx, hA, hsx⟩ := hM
  have hown : s.vm.findClass RX7 = some m.cls := hown
  have hK := hcx.1
  have hN := hcx.2
  have kw0 := hts (.constantLong RX7 67 (256)) (List.mem_of_getElem? (i := 1) rfl)
  have hl : lv_has ls 3 [(0, .long x0), (2, .int x2)] := hl
  have hret' : ∀ (pc : Nat) (ls : Array Slot) (H : Heap) (locs : List Loc) (v : Int64), decode cX7_add pc = .ok (.lreturn, 1) → some v = some r → va_P D vwCl [] H → va_D A [] → va_S A s.heap H locs → W p l e rmX7_add s m args below meth c H locs 0 0 Q (F0 m pc ls [.long v]) := by
    intro pc ls H locs v hd he hP hD hS
    cases he
    exact hret _ _ _ _ _ hd rfl hP hD hS
  unfold fX7_add at hf
  refine lv_iload_n hx hb dX7_add_0 rfl (lv_at hl 1 rfl) ?_
  refine lv_if_ne (tgt := 8) hx hb dX7_add_1 (by decide) (fun hc_1 => ?_) (fun hc_1 => ?_)
  · have hf := it_f hf hc_1
    refine lv_ldc2 (v := 256) hx hb hown kw0 dX7_add_8 ?_
    refine lv_lload_n hx hb dX7_add_11 rfl (lv_at hl 0 rfl) ?_
    refine lv_lmul hx hb dX7_add_12 ?_
    refine lv_iload_n hx hb dX7_add_13 rfl (lv_at hl 1 rfl) ?_
    refine lv_i2l (v := x2.toInt64) hx hb dX7_add_14 rfl ?_
    refine lv_ladd hx hb dX7_add_15 ?_
    exact hret' _ _ _ _ _ dX7_add_16 hf hP hD hS
  · have hf := it_t hf hc_1
    refine lv_lload_n hx hb dX7_add_4 rfl (lv_at hl 0 rfl) ?_
    refine lv_goto (tgt := 16) hx hb dX7_add_5 (by decide) ?_
    exact hret' _ _ _ _ _ dX7_add_16 hf hP hD hS

def fX7_named (x0 : Int32) (x1 : Int32) (x2 : Int32) (x3 : Int32) (x4 : Int32) (x5 : Int32) : Option Int64 := (fX7_add (0 : Int64) x0).bind (fun r_2 => (fX7_add r_2 x1).bind (fun r_6 => (fX7_add r_6 x2).bind (fun r_10 => (fX7_add r_10 x3).bind (fun r_14 => (fX7_add r_14 x4).bind (fun r_19 => (fX7_add r_19 x5).bind (fun r_24 => some r_24))))))
abbrev rmX7_named : Room := { frames := 1, cells := 0, slots := 0, locals := 22 }
set_option maxHeartbeats 4000000 in
set_option maxRecDepth 100000 in
theorem ktX7_named (l : Launch) (D : va_G) (cy : Nat → ClassId) (x0 : Int32) (x1 : Int32) (x2 : Int32) (x3 : Int32) (x4 : Int32) (x5 : Int32) (r : Int64) (hf : fX7_named x0 x1 x2 x3 x4 x5 = some r) : CtL l yX7_named wsX7_named rmX7_named D cy [.int x0, .int x1, .int x2, .int x3, .int x4, .int x5] [] [] r := by
  refine Ct_ofL (cc := cX7_named) (nL := 6) (by decide) rfl (Nat.le_of_ble_eq_true rfl) ?_
  intro p e s m args below meth c A Q hM hret hP hD hS ls hl
  obtain ⟨hx, hb, hml, hown, hts, hcx, hA, hsx⟩ := hM
  have hown : s.vm.findClass RX7 = some m.cls := hown
  have hK := hcx.1
  have hN := hcx.2
  have hl : lv_has ls 6 [(0, .int x0), (1, .int x1), (2, .int x2), (3, .int x3), (4, .int x4), (5, .int x5)] := hl
  have hret' : ∀ (pc : Nat) (ls : Array Slot) (H : Heap) (locs : List Loc) (v : Int64), decode cX7_named pc = .ok (.lreturn, 1) → some v = some r → va_P D vwCl [] H → va_D A [] → va_S A s.heap H locs → W p l e rmX7_named s m args below meth c H locs 0 0 Q (F0 m pc ls [.long v]) := by
    intro pc ls H locs v hd he hP hD hS
    cases he
    exact hret _ _ _ _ _ hd rfl hP hD hS
  unfold fX7_named at hf
  refine lv_lconst (v := 0) hx hb dX7_named_0 (by decide) ?_
  refine lv_iload_n hx hb dX7_named_1 rfl (lv_at hl 0 rfl) ?_
  obtain ⟨r_2, hr_2, hf⟩ := bd_some hf
  refine cl_l (wc := []) (w1 := []) (wr := []) (w2 := []) (va_runS (As := [.long (0 : Int64), .int x0]) (rest := []) ⟨hx, hb, hml, hown, hts⟩ (ktX7_add l D cy (0 : Int64) x0 r_2 hr_2 _) (va_cwS 2 hts gX7_named_X7_add rfl rfl rfl (by decide +kernel) ⟨Nat.le_of_ble_eq_true rfl, Nat.le_of_ble_eq_true rfl⟩) (pre_S (wc := []) hcx hsx hS hA hP hD [] rfl (by decide)) rfl rfl hl.1 rfl (lv_room (Nat.le_of_ble_eq_true rfl)) dX7_named_2 ⟨Nat.zero_le _, Nat.zero_le _⟩) hP hD hS hA [] [] [] rfl rfl (by decide) (by decide) (by decide) rfl (fun H locs hP hD hS => ?_)
  refine lv_iload_n hx hb dX7_named_5 rfl (lv_at hl 1 rfl) ?_
  obtain ⟨r_6, hr_6, hf⟩ := bd_some hf
  refine cl_l (wc := []) (w1 := []) (wr := []) (w2 := []) (va_runS (As := [.long r_2, .int x1]) (rest := []) ⟨hx, hb, hml, hown, hts⟩ (ktX7_add l D cy r_2 x1 r_6 hr_6 _) (va_cwS 2 hts gX7_named_X7_add rfl rfl rfl (by decide +kernel) ⟨Nat.le_of_ble_eq_true rfl, Nat.le_of_ble_eq_true rfl⟩) (pre_S (wc := []) hcx hsx hS hA hP hD [] rfl (by decide)) rfl rfl hl.1 rfl (lv_room (Nat.le_of_ble_eq_true rfl)) dX7_named_6 ⟨Nat.zero_le _, Nat.zero_le _⟩) hP hD hS hA [] [] [] rfl rfl (by decide) (by decide) (by decide) rfl (fun H locs hP hD hS => ?_)
  refine lv_iload_n hx hb dX7_named_9 rfl (lv_at hl 2 rfl) ?_
  obtain ⟨r_10, hr_10, hf⟩ := bd_some hf
  refine cl_l (wc := []) (w1 := []) (wr := []) (w2 := []) (va_runS (As := [.long r_6, .int x2]) (rest := []) ⟨hx, hb, hml, hown, hts⟩ (ktX7_add l D cy r_6 x2 r_10 hr_10 _) (va_cwS 2 hts gX7_named_X7_add rfl rfl rfl (by decide +kernel) ⟨Nat.le_of_ble_eq_true rfl, Nat.le_of_ble_eq_true rfl⟩) (pre_S (wc := []) hcx hsx hS hA hP hD [] rfl (by decide)) rfl rfl hl.1 rfl (lv_room (Nat.le_of_ble_eq_true rfl)) dX7_named_10 ⟨Nat.zero_le _, Nat.zero_le _⟩) hP hD hS hA [] [] [] rfl rfl (by decide) (by decide) (by decide) rfl (fun H locs hP hD hS => ?_)
  refine lv_iload_n hx hb dX7_named_13 rfl (lv_at hl 3 rfl) ?_
  obtain ⟨r_14, hr_14, hf⟩ := bd_some hf
  refine cl_l (wc := []) (w1 := []) (wr := []) (w2 := []) (va_runS (As := [.long r_10, .int x3]) (rest := []) ⟨hx, hb, hml, hown, hts⟩ (ktX7_add l D cy r_10 x3 r_14 hr_14 _) (va_cwS 2 hts gX7_named_X7_add rfl rfl rfl (by decide +kernel) ⟨Nat.le_of_ble_eq_true rfl, Nat.le_of_ble_eq_true rfl⟩) (pre_S (wc := []) hcx hsx hS hA hP hD [] rfl (by decide)) rfl rfl hl.1 rfl (lv_room (Nat.le_of_ble_eq_true rfl)) dX7_named_14 ⟨Nat.zero_le _, Nat.zero_le _⟩) hP hD hS hA [] [] [] rfl rfl (by decide) (by decide) (by decide) rfl (fun H locs hP hD hS => ?_)
  refine lv_iload hx hb dX7_named_17 (lv_at hl 4 rfl) ?_
  obtain ⟨r_19, hr_19, hf⟩ := bd_some hf
  refine cl_l (wc := []) (w1 := []) (wr := []) (w2 := []) (va_runS (As := [.long r_14, .int x4]) (rest := []) ⟨hx, hb, hml, hown, hts⟩ (ktX7_add l D cy r_14 x4 r_19 hr_19 _) (va_cwS 2 hts gX7_named_X7_add rfl rfl rfl (by decide +kernel) ⟨Nat.le_of_ble_eq_true rfl, Nat.le_of_ble_eq_true rfl⟩) (pre_S (wc := []) hcx hsx hS hA hP hD [] rfl (by decide)) rfl rfl hl.1 rfl (lv_room (Nat.le_of_ble_eq_true rfl)) dX7_named_19 ⟨Nat.zero_le _, Nat.zero_le _⟩) hP hD hS hA [] [] [] rfl rfl (by decide) (by decide) (by decide) rfl (fun H locs hP hD hS => ?_)
  refine lv_iload hx hb dX7_named_22 (lv_at hl 5 rfl) ?_
  obtain ⟨r_24, hr_24, hf⟩ := bd_some hf
  refine cl_l (wc := []) (w1 := []) (wr := []) (w2 := []) (va_runS (As := [.long r_19, .int x5]) (rest := []) ⟨hx, hb, hml, hown, hts⟩ (ktX7_add l D cy r_19 x5 r_24 hr_24 _) (va_cwS 2 hts gX7_named_X7_add rfl rfl rfl (by decide +kernel) ⟨Nat.le_of_ble_eq_true rfl, Nat.le_of_ble_eq_true rfl⟩) (pre_S (wc := []) hcx hsx hS hA hP hD [] rfl (by decide)) rfl rfl hl.1 rfl (lv_room (Nat.le_of_ble_eq_true rfl)) dX7_named_24 ⟨Nat.zero_le _, Nat.zero_le _⟩) hP hD hS hA [] [] [] rfl rfl (by decide) (by decide) (by decide) rfl (fun H locs hP hD hS => ?_)
  exact hret' _ _ _ _ _ dX7_named_27 hf hP hD hS

def X7_wordOf_J67 (x0 : Int64) (t0_67 : Int32) : Option Int32 := if t0_67 = (-9 : Int32) then ((fX7_named (112 : Int32) (114 : Int32) (105 : Int32) (100 : Int32) (101 : Int32) (0 : Int32)).bind (fun r_90 => if (lg_cmp x0 r_90) = 0 then (some (3 : Int32)) else ((fX7_named (109 : Int32) (101 : Int32) (109 : Int32) (111 : Int32) (114 : Int32) (121 : Int32)).bind (fun r_114 => if (lg_cmp x0 r_114) = 0 then (some (4 : Int32)) else (some (-9 : Int32)))))) else (some t0_67)
def fX7_wordOf (x0 : Int64) : Option Int32 := (fX7_named (104 : Int32) (111 : Int32) (117 : Int32) (115 : Int32) (101 : Int32) (0 : Int32)).bind (fun r_12 => if (lg_cmp x0 r_12) = 0 then (X7_wordOf_J67 x0 (0 : Int32)) else ((fX7_named (98 : Int32) (97 : Int32) (114 : Int32) (0 : Int32) (0 : Int32) (0 : Int32)).bind (fun r_33 => if (lg_cmp x0 r_33) = 0 then (X7_wordOf_J67 x0 (1 : Int32)) else ((fX7_named (108 : Int32) (97 : Int32) (119 : Int32) (0 : Int32) (0 : Int32) (0 : Int32)).bind (fun r_54 => if (lg_cmp x0 r_54) = 0 then (X7_wordOf_J67 x0 (2 : Int32)) else (X7_wordOf_J67 x0 (-9 : Int32)))))))
abbrev rmX7_wordOf : Room := { frames := 2, cells := 0, slots := 0, locals := 47 }
set_option maxHeartbeats 4000000 in
set_option maxRecDepth 100000 in
theorem ktX7_wordOf (l : Launch) (D : va_G) (cy : Nat → ClassId) (x0 : Int64) (r : Int32) (hf : fX7_wordOf x0 = some r) : CtI l yX7_wordOf wsX7_wordOf rmX7_wordOf D cy [.long x0] [] [] r := by
  refine Ct_ofI (cc := cX7_wordOf) (nL := 3) (by decide) rfl (Nat.le_of_ble_eq_true rfl) ?_
  intro p e s m args below meth c A Q hM hret hP hD hS ls hl
  obtain ⟨hx, hb, hml, hown, hts, hcx, hA, hsx⟩ := hM
  have hown : s.vm.findClass RX7 = some m.cls := hown
  have hK := hcx.1
  have hN := hcx.2
  have hl : lv_has ls 3 [(0, .long x0)] := hl
  have hret' : ∀ (pc : Nat) (ls : Array Slot) (H : Heap) (locs : List Loc) (v : Int32), decode cX7_wordOf pc = .ok (.ireturn, 1) → some v = some r → va_P D vwCl [] H → va_D A [] → va_S A s.heap H locs → W p l e rmX7_wordOf s m args below meth c H locs 0 0 Q (F0 m pc ls [.int v]) := by
    intro pc ls H locs v hd he hP hD hS
    cases he
    exact hret _ _ _ _ _ hd rfl hP hD hS
  unfold fX7_wordOf at hf
  refine lv_lload_n hx hb dX7_wordOf_0 rfl (lv_at hl 0 rfl) ?_
  refine lv_bipush (v := 104) hx hb dX7_wordOf_1 (by decide) ?_
  refine lv_bipush (v := 111) hx hb dX7_wordOf_3 (by decide) ?_
  refine lv_bipush (v := 117) hx hb dX7_wordOf_5 (by decide) ?_
  refine lv_bipush (v := 115) hx hb dX7_wordOf_7 (by decide) ?_
  refine lv_bipush (v := 101) hx hb dX7_wordOf_9 (by decide) ?_
  refine lv_iconst (v := 0) hx hb dX7_wordOf_11 (by decide) ?_
  obtain ⟨r_12, hr_12, hf⟩ := bd_some hf
  refine cl_l (wc := []) (w1 := []) (wr := []) (w2 := []) (va_runS (As := [.int (104 : Int32), .int (111 : Int32), .int (117 : Int32), .int (115 : Int32), .int (101 : Int32), .int (0 : Int32)]) (rest := [.long x0]) ⟨hx, hb, hml, hown, hts⟩ (ktX7_named l D cy (104 : Int32) (111 : Int32) (117 : Int32) (115 : Int32) (101 : Int32) (0 : Int32) r_12 hr_12 _) (va_cwS 6 hts gX7_wordOf_X7_named rfl rfl rfl (by decide +kernel) ⟨Nat.le_of_ble_eq_true rfl, Nat.le_of_ble_eq_true rfl⟩) (pre_S (wc := []) hcx hsx hS hA hP hD [] rfl (by decide)) rfl rfl hl.1 rfl (lv_room (Nat.le_of_ble_eq_true rfl)) dX7_wordOf_12 ⟨Nat.zero_le _, Nat.zero_le _⟩) hP hD hS hA [] [] [] rfl rfl (by decide) (by decide) (by decide) rfl (fun H locs hP hD hS => ?_)
  refine W.lcmp hx hb dX7_wordOf_15 ?_
  have hJ67 : ∀ (t0_67 : Int32) (H : Heap) (locs : List Loc) (ls : Array Slot), X7_wordOf_J67 x0 t0_67 = some r → va_P D vwCl [] H → va_D A [] → va_S A s.heap H locs → lv_has ls 3 [(0, .long x0)] → W p l e rmX7_wordOf s m args below meth c H locs 0 0 Q (F0 m 67 ls [.int t0_67]) := by
    intro t0_67 H locs ls hf hP hD hS hl
    unfold X7_wordOf_J67 at hf
    refine lv_istore_n (lv' := [(2, .int t0_67), (0, .long x0)]) hx hb dX7_wordOf_67 rfl hl (by decide) rfl (fun ls hl => ?_)
    refine lv_iload_n hx hb dX7_wordOf_68 rfl (lv_at hl 0 rfl) ?_
    refine lv_bipush (v := -9) hx hb dX7_wordOf_69 (by decide) ?_
    refine lv_icmp_eq (tgt := 78) hx hb dX7_wordOf_71 (by decide) (fun hc_71 => ?_) (fun hc_71 => ?_)
    · have hf := it_t hf hc_71
      refine lv_lload_n hx hb dX7_wordOf_78 rfl (lv_at hl 1 rfl) ?_
      refine lv_bipush (v := 112) hx hb dX7_wordOf_79 (by decide) ?_
      refine lv_bipush (v := 114) hx hb dX7_wordOf_81 (by decide) ?_
      refine lv_bipush (v := 105) hx hb dX7_wordOf_83 (by decide) ?_
      refine lv_bipush (v := 100) hx hb dX7_wordOf_85 (by decide) ?_
      refine lv_bipush (v := 101) hx hb dX7_wordOf_87 (by decide) ?_
      refine lv_iconst (v := 0) hx hb dX7_wordOf_89 (by decide) ?_
      obtain ⟨r_90, hr_90, hf⟩ := bd_some hf
      refine cl_l (wc := []) (w1 := []) (wr := []) (w2 := []) (va_runS (As := [.int (112 : Int32), .int (114 : Int32), .int (105 : Int32), .int (100 : Int32), .int (101 : Int32), .int (0 : Int32)]) (rest := [.long x0]) ⟨hx, hb, hml, hown, hts⟩ (ktX7_named l D cy (112 : Int32) (114 : Int32) (105 : Int32) (100 : Int32) (101 : Int32) (0 : Int32) r_90 hr_90 _) (va_cwS 6 hts gX7_wordOf_X7_named rfl rfl rfl (by decide +kernel) ⟨Nat.le_of_ble_eq_true rfl, Nat.le_of_ble_eq_true rfl⟩) (pre_S (wc := []) hcx hsx hS hA hP hD [] rfl (by decide)) rfl rfl hl.1 rfl (lv_room (Nat.le_of_ble_eq_true rfl)) dX7_wordOf_90 ⟨Nat.zero_le _, Nat.zero_le _⟩) hP hD hS hA [] [] [] rfl rfl (by decide) (by decide) (by decide) rfl (fun H locs hP hD hS => ?_)
      refine W.lcmp hx hb dX7_wordOf_93 ?_
      refine lv_if_ne (tgt := 101) hx hb dX7_wordOf_94 (by decide) (fun hc_94 => ?_) (fun hc_94 => ?_)
      · have hf := it_f hf hc_94
        refine lv_lload_n hx hb dX7_wordOf_101 rfl (lv_at hl 1 rfl) ?_
        refine lv_bipush (v := 109) hx hb dX7_wordOf_102 (by decide) ?_
        refine lv_bipush (v := 101) hx hb dX7_wordOf_104 (by decide) ?_
        refine lv_bipush (v := 109) hx hb dX7_wordOf_106 (by decide) ?_
        refine lv_bipush (v := 111) hx hb dX7_wordOf_108 (by decide) ?_
        refine lv_bipush (v := 114) hx hb dX7_wordOf_110 (by decide) ?_
        refine lv_bipush (v := 121) hx hb dX7_wordOf_112 (by decide) ?_
        obtain ⟨r_114, hr_114, hf⟩ := bd_some hf
        refine cl_l (wc := []) (w1 := []) (wr := []) (w2 := []) (va_runS (As := [.int (109 : Int32), .int (101 : Int32), .int (109 : Int32), .int (111 : Int32), .int (114 : Int32), .int (121 : Int32)]) (rest := [.long x0]) ⟨hx, hb, hml, hown, hts⟩ (ktX7_named l D cy (109 : Int32) (101 : Int32) (109 : Int32) (111 : Int32) (114 : Int32) (121 : Int32) r_114 hr_114 _) (va_cwS 6 hts gX7_wordOf_X7_named rfl rfl rfl (by decide +kernel) ⟨Nat.le_of_ble_eq_true rfl, Nat.le_of_ble_eq_true rfl⟩) (pre_S (wc := []) hcx hsx hS hA hP hD [] rfl (by decide)) rfl rfl hl.1 rfl (lv_room (Nat.le_of_ble_eq_true rfl)) dX7_wordOf_114 ⟨Nat.zero_le _, Nat.zero_le _⟩) hP hD hS hA [] [] [] rfl rfl (by decide) (by decide) (by decide) rfl (fun H locs hP hD hS => ?_)
        refine W.lcmp hx hb dX7_wordOf_117 ?_
        refine lv_if_ne (tgt := 125) hx hb dX7_wordOf_118 (by decide) (fun hc_118 => ?_) (fun hc_118 => ?_)
        · have hf := it_f hf hc_118
          refine lv_bipush (v := -9) hx hb dX7_wordOf_125 (by decide) ?_
          exact hret' _ _ _ _ _ dX7_wordOf_127 hf hP hD hS
        · have hf := it_t hf hc_118
          refine lv_iconst (v := 4) hx hb dX7_wordOf_121 (by decide) ?_
          refine lv_goto (tgt := 127) hx hb dX7_wordOf_122 (by decide) ?_
          exact hret' _ _ _ _ _ dX7_wordOf_127 hf hP hD hS
      · have hf := it_t hf hc_94
        refine lv_iconst (v := 3) hx hb dX7_wordOf_97 (by decide) ?_
        refine lv_goto (tgt := 127) hx hb dX7_wordOf_98 (by decide) ?_
        exact hret' _ _ _ _ _ dX7_wordOf_127 hf hP hD hS
    · have hf := it_f hf hc_71
      refine lv_iload_n hx hb dX7_wordOf_74 rfl (lv_at hl 0 rfl) ?_
      refine lv_goto (tgt := 127) hx hb dX7_wordOf_75 (by decide) ?_
      exact hret' _ _ _ _ _ dX7_wordOf_127 hf hP hD hS
  refine lv_if_ne (tgt := 23) hx hb dX7_wordOf_16 (by decide) (fun hc_16 => ?_) (fun hc_16 => ?_)
  · have hf := it_f hf hc_16
    refine lv_lload_n hx hb dX7_wordOf_23 rfl (lv_at hl 0 rfl) ?_
    refine lv_bipush (v := 98) hx hb dX7_wordOf_24 (by decide) ?_
    refine lv_bipush (v := 97) hx hb dX7_wordOf_26 (by decide) ?_
    refine lv_bipush (v := 114) hx hb dX7_wordOf_28 (by decide) ?_
    refine lv_iconst (v := 0) hx hb dX7_wordOf_30 (by decide) ?_
    refine lv_iconst (v := 0) hx hb dX7_wordOf_31 (by decide) ?_
    refine lv_iconst (v := 0) hx hb dX7_wordOf_32 (by decide) ?_
    obtain ⟨r_33, hr_33, hf⟩ := bd_some hf
    refine cl_l (wc := []) (w1 := []) (wr := []) (w2 := []) (va_runS (As := [.int (98 : Int32), .int (97 : Int32), .int (114 : Int32), .int (0 : Int32), .int (0 : Int32), .int (0 : Int32)]) (rest := [.long x0]) ⟨hx, hb, hml, hown, hts⟩ (ktX7_named l D cy (98 : Int32) (97 : Int32) (114 : Int32) (0 : Int32) (0 : Int32) (0 : Int32) r_33 hr_33 _) (va_cwS 6 hts gX7_wordOf_X7_named rfl rfl rfl (by decide +kernel) ⟨Nat.le_of_ble_eq_true rfl, Nat.le_of_ble_eq_true rfl⟩) (pre_S (wc := []) hcx hsx hS hA hP hD [] rfl (by decide)) rfl rfl hl.1 rfl (lv_room (Nat.le_of_ble_eq_true rfl)) dX7_wordOf_33 ⟨Nat.zero_le _, Nat.zero_le _⟩) hP hD hS hA [] [] [] rfl rfl (by decide) (by decide) (by decide) rfl (fun H locs hP hD hS => ?_)
    refine W.lcmp hx hb dX7_wordOf_36 ?_
    refine lv_if_ne (tgt := 44) hx hb dX7_wordOf_37 (by decide) (fun hc_37 => ?_) (fun hc_37 => ?_)
    · have hf := it_f hf hc_37
      refine lv_lload_n hx hb dX7_wordOf_44 rfl (lv_at hl 0 rfl) ?_
      refine lv_bipush (v := 108) hx hb dX7_wordOf_45 (by decide) ?_
      refine lv_bipush (v := 97) hx hb dX7_wordOf_47 (by decide) ?_
      refine lv_bipush (v := 119) hx hb dX7_wordOf_49 (by decide) ?_
      refine lv_iconst (v := 0) hx hb dX7_wordOf_51 (by decide) ?_
      refine lv_iconst (v := 0) hx hb dX7_wordOf_52 (by decide) ?_
      refine lv_iconst (v := 0) hx hb dX7_wordOf_53 (by decide) ?_
      obtain ⟨r_54, hr_54, hf⟩ := bd_some hf
      refine cl_l (wc := []) (w1 := []) (wr := []) (w2 := []) (va_runS (As := [.int (108 : Int32), .int (97 : Int32), .int (119 : Int32), .int (0 : Int32), .int (0 : Int32), .int (0 : Int32)]) (rest := [.long x0]) ⟨hx, hb, hml, hown, hts⟩ (ktX7_named l D cy (108 : Int32) (97 : Int32) (119 : Int32) (0 : Int32) (0 : Int32) (0 : Int32) r_54 hr_54 _) (va_cwS 6 hts gX7_wordOf_X7_named rfl rfl rfl (by decide +kernel) ⟨Nat.le_of_ble_eq_true rfl, Nat.le_of_ble_eq_true rfl⟩) (pre_S (wc := []) hcx hsx hS hA hP hD [] rfl (by decide)) rfl rfl hl.1 rfl (lv_room (Nat.le_of_ble_eq_true rfl)) dX7_wordOf_54 ⟨Nat.zero_le _, Nat.zero_le _⟩) hP hD hS hA [] [] [] rfl rfl (by decide) (by decide) (by decide) rfl (fun H locs hP hD hS => ?_)
      refine W.lcmp hx hb dX7_wordOf_57 ?_
      refine lv_if_ne (tgt := 65) hx hb dX7_wordOf_58 (by decide) (fun hc_58 => ?_) (fun hc_58 => ?_)
      · have hf := it_f hf hc_58
        refine lv_bipush (v := -9) hx hb dX7_wordOf_65 (by decide) ?_
        exact hJ67 (-9 : Int32) _ _ _ hf hP hD hS (lv_sub hl [0] rfl)
      · have hf := it_t hf hc_58
        refine lv_iconst (v := 2) hx hb dX7_wordOf_61 (by decide) ?_
        refine lv_goto (tgt := 67) hx hb dX7_wordOf_62 (by decide) ?_
        exact hJ67 (2 : Int32) _ _ _ hf hP hD hS (lv_sub hl [0] rfl)
    · have hf := it_t hf hc_37
      refine lv_iconst (v := 1) hx hb dX7_wordOf_40 (by decide) ?_
      refine lv_goto (tgt := 67) hx hb dX7_wordOf_41 (by decide) ?_
      exact hJ67 (1 : Int32) _ _ _ hf hP hD hS (lv_sub hl [0] rfl)
  · have hf := it_t hf hc_16
    refine lv_iconst (v := 0) hx hb dX7_wordOf_19 (by decide) ?_
    refine lv_goto (tgt := 67) hx hb dX7_wordOf_20 (by decide) ?_
    exact hJ67 (0 : Int32) _ _ _ hf hP hD hS (lv_sub hl [0] rfl)

def X7_advances_J307 (z_value : Int32) (z_next_26 : Int32) (z_next_292 : Int32) (t1_307 : Int32) : Option (Int32 × Int32 × Int32 × Int32) := some (z_next_292, t1_307, z_next_26, z_value)
def X7_advances_J279 (z_next_26 : Int32) (z_next_245 : Int32) (z_value_245 : Int32) (t1_279 : Int32) : Option (Int32 × Int32 × Int32 × Int32) := some (z_next_245, t1_279, z_next_26, z_value_245)
def X7_advances_J274 (z_next_26 : Int32) (z_next_245 : Int32) (z_value_245 : Int32) : Option (Int32 × Int32 × Int32 × Int32) := X7_advances_J279 z_next_26 z_next_245 z_value_245 (4 : Int32)
def X7_advances_J278 (z_next_26 : Int32) (z_next_245 : Int32) (z_value_245 : Int32) : Option (Int32 × Int32 × Int32 × Int32) := X7_advances_J279 z_next_26 z_next_245 z_value_245 (2 : Int32)
def X7_advances_J245 (z_next_26 : Int32) (r_39 : Int32) (z_next_245 : Int32) (z_value_245 : Int32) : Option (Int32 × Int32 × Int32 × Int32) := if (99 : Int32) < z_value_245 then (X7_advances_J274 z_next_26 z_next_245 z_value_245) else (if r_39 = (48 : Int32) then (if (z_next_245 - z_next_26) ≤ (1 : Int32) then (X7_advances_J278 z_next_26 z_next_245 z_value_245) else (X7_advances_J274 z_next_26 z_next_245 z_value_245)) else (X7_advances_J278 z_next_26 z_next_245 z_value_245))
def X7_advances_J229 (z_next_175 : Int32) (self_175 : Int32 → Int32 → Option (Int32 × Int32 × Int32 × Int32)) (t1_229 : Int32) : Option (Int32 × Int32 × Int32 × Int32) := lets (z_next_175 + (1 : Int32)) (fun z_next_239 => self_175 z_next_239 t1_229)
def X7_advances_S175 (z_typed : Int32) (z_text : Nat → Int32) (z_next_26 : Int32) (r_39 : Int32) (self_175 : Int32 → Int32 → Option (Int32 × Int32 × Int32 × Int32)) (z_next_175 : Int32) (z_value_175 : Int32) : Option (Int32 × Int32 × Int32 × Int32) := (fX7_byteAt z_typed z_text z_next_175).bind (fun r_180 => (fX7_in r_180 (48 : Int32) (57 : Int32)).bind (fun r_187 => if r_187 = 0 then (X7_advances_J245 z_next_26 r_39 z_next_175 z_value_175) else (if z_value_175 ≤ (99 : Int32) then ((fX7_byteAt z_typed z_text z_next_175).bind (fun r_222 => X7_advances_J229 z_next_175 self_175 ((((10 : Int32) * z_value_175) + r_222) - (48 : Int32)))) else (X7_advances_J229 z_next_175 self_175 z_value_175))))
def X7_advances_J153 (z_next_26 : Int32) (z_next_130 : Int32) (r_132 : Int32) (t1_153 : Int32) : Option (Int32 × Int32 × Int32 × Int32) := some (z_next_130, t1_153, z_next_26, r_132)
def X7_advances_J130 (z_next_26 : Int32) (x2_130 : Int64) (z_next_130 : Int32) : Option (Int32 × Int32 × Int32 × Int32) := (fX7_wordOf x2_130).bind (fun r_132 => if r_132 = (-9 : Int32) then (X7_advances_J153 z_next_26 z_next_130 r_132 (4 : Int32)) else (X7_advances_J153 z_next_26 z_next_130 r_132 (1 : Int32)))
def X7_advances_J116 (z_next_68 : Int32) (self_68 : Int64 → Int32 → Option (Int32 × Int32 × Int32 × Int32)) (t0_116 : Int64) : Option (Int32 × Int32 × Int32 × Int32) := lets (z_next_68 + (1 : Int32)) (fun z_next_124 => self_68 t0_116 z_next_124)
def X7_advances_S68 (z_typed : Int32) (z_text : Nat → Int32) (z_next_26 : Int32) (self_68 : Int64 → Int32 → Option (Int32 × Int32 × Int32 × Int32)) (x2_68 : Int64) (z_next_68 : Int32) : Option (Int32 × Int32 × Int32 × Int32) := (fX7_byteAt z_typed z_text z_next_68).bind (fun r_73 => (fX7_in r_73 (97 : Int32) (122 : Int32)).bind (fun r_80 => if r_80 = 0 then (X7_advances_J130 z_next_26 x2_68 z_next_68) else (if (7 : Int32) ≤ (z_next_68 - z_next_26) then (X7_advances_J116 z_next_68 self_68 x2_68) else ((fX7_byteAt z_typed z_text z_next_68).bind (fun r_106 => (fX7_add x2_68 r_106).bind (fun r_109 => X7_advances_J116 z_next_68 self_68 r_109))))))
def X7_advances_J26 (z_typed : Int32) (z_value : Int32) (z_text : Nat → Int32) (z_next_26 : Int32) : Option (Int32 × Int32 × Int32 × Int32) := (fX7_byteAt z_typed z_text z_next_26).bind (fun r_39 => if 0 ≤ r_39 then ((fX7_in r_39 (97 : Int32) (122 : Int32)).bind (fun r_60 => if r_60 = 0 then ((fX7_in r_39 (48 : Int32) (57 : Int32)).bind (fun r_164 => if r_164 = 0 then (lets (z_next_26 + (1 : Int32)) (fun z_next_292 => if r_39 = (59 : Int32) then (X7_advances_J307 z_value z_next_26 z_next_292 (3 : Int32)) else (X7_advances_J307 z_value z_next_26 z_next_292 (4 : Int32)))) else (it2 (X7_advances_S175 z_typed z_text z_next_26 r_39) 100000 z_next_26 (0 : Int32)))) else (it2 (X7_advances_S68 z_typed z_text z_next_26) 100000 (0 : Int64) z_next_26))) else (some (z_next_26, (0 : Int32), z_next_26, z_value)))
def X7_advances_S0 (z_typed : Int32) (z_value : Int32) (z_text : Nat → Int32) (self_0 : Int32 → Option (Int32 × Int32 × Int32 × Int32)) (z_next_0 : Int32) : Option (Int32 × Int32 × Int32 × Int32) := (fX7_byteAt z_typed z_text z_next_0).bind (fun r_5 => if r_5 = (32 : Int32) then (lets (z_next_0 + (1 : Int32)) (fun z_next_20 => self_0 z_next_20)) else (X7_advances_J26 z_typed z_value z_text z_next_0))
def fX7_advances (z_typed : Int32) (z_next : Int32) (z_value : Int32) (z_text : Nat → Int32) : Option (Int32 × Int32 × Int32 × Int32) := it1 (X7_advances_S0 z_typed z_value z_text) 100000 z_next
abbrev rmX7_advances : Room := { frames := 3, cells := 0, slots := 0, locals := 69 }
set_option maxHeartbeats 4000000 in
set_option maxRecDepth 100000 in
theorem ktX7_advances (l : Launch) (D : va_G) (cy : Nat → ClassId) (q0 : Nat) (q_text : Nat) (q_weight : Nat) (q_eats : Nat) (q_barred : Nat) (q_laws : Nat) (q_s : Nat) (q_kept : Nat) (q_isKept : Nat) (q_years : Nat) (q_likely : Nat) (q_then : Nat) (q_row : Nat) (q_best : Nat) (z_thrown : Int32) (z_trace : Int64) (z_typed : Int32) (z_next : Int32) (z_token : Int32) (z_place : Int32) (z_value : Int32) (z_fault : Int32) (z_houses : Int32) (z_draftHouses : Int32) (z_all : Int64) (z_text : Nat → Int32) (r : Int32 × Int32 × Int32 × Int32) (hf : fX7_advances z_typed z_next z_value z_text = some r) : CtV l yX7_advances wsX7_advances rmX7_advances D cy [.ref q0] [(q0, oB 7 [.int z_thrown, .long z_trace, .ref q_text, .int z_typed, .int z_next, .int z_token, .int z_place, .int z_value, .int z_fault, .ref q_weight, .ref q_eats, .ref q_barred, .ref q_laws, .int z_houses, .int z_draftHouses, .ref q_s, .ref q_kept, .ref q_isKept, .ref q_years, .ref q_likely, .ref q_then, .long z_all, .ref q_row, .ref q_best]), (q_text, aI cy 300 z_text)] [(q0, oB 7 [.int z_thrown, .long z_trace, .ref q_text, .int z_typed, .int r.1, .int r.2.1, .int r.2.2.1, .int r.2.2.2, .int z_fault, .ref q_weight, .ref q_eats, .ref q_barred, .ref q_laws, .int z_houses, .int z_draftHouses, .ref q_s, .ref q_kept, .ref q_isKept, .ref q_years, .ref q_likely, .ref q_then, .long z_all, .ref q_row, .ref q_best]), (q_text, aI cy 300 z_text)] := by
  refine Ct_ofV (cc := cX7_advances) (nL := 4) (by decide) rfl (Nat.le_of_ble_eq_true rfl) ?_
  intro p e s m args below meth c A Q hM hret hP hD hS ls hl
  obtain ⟨hx, hb, hml, hown, hts, hcx, hA, hsx⟩ := hM
  have hown : s.vm.findClass RX7 = some m.cls := hown
  have hK := hcx.1
  have hN := hcx.2
  have kw0 := hts (.fieldLink RX7 77 "EachBringsModel" "next" "I") (List.mem_of_getElem? (i := 1) rfl)
  have kc1 : ∀ w ∈ wsX70, w ∈ wsX7_advances := fun _ h => List.mem_cons_of_mem _ (List.mem_append_right _ h)
  have kw2 := hts (.fieldLink RX7 84 "EachBringsModel" "place" "I") (List.mem_of_getElem? (i := 2) rfl)
  have kw3 := hts (.fieldLink RX7 87 "EachBringsModel" "token" "I") (List.mem_of_getElem? (i := 3) rfl)
  have kw4 := hts (.fieldLink RX7 94 "EachBringsModel" "value" "I") (List.mem_of_getElem? (i := 4) rfl)
  have hl : lv_has ls 4 [(0, .ref q0)] := hl
  have hret' : ∀ (pc : Nat) (ls : Array Slot) (H : Heap) (locs : List Loc) (w0 : Int32) (w1 : Int32) (w2 : Int32) (w3 : Int32), decode cX7_advances pc = .ok (.return_, 1) → some (w0, w1, w2, w3) = some r → va_P D vwCl [(q0, oB 7 [.int z_thrown, .long z_trace, .ref q_text, .int z_typed, .int w0, .int w1, .int w2, .int w3, .int z_fault, .ref q_weight, .ref q_eats, .ref q_barred, .ref q_laws, .int z_houses, .int z_draftHouses, .ref q_s, .ref q_kept, .ref q_isKept, .ref q_years, .ref q_likely, .ref q_then, .long z_all, .ref q_row, .ref q_best]), (q_text, aI cy 300 z_text)] H → va_D A [(q0, oB 7 [.int z_thrown, .long z_trace, .ref q_text, .int z_typed, .int w0, .int w1, .int w2, .int w3, .int z_fault, .ref q_weight, .ref q_eats, .ref q_barred, .ref q_laws, .int z_houses, .int z_draftHouses, .ref q_s, .ref q_kept, .ref q_isKept, .ref q_years, .ref q_likely, .ref q_then, .long z_all, .ref q_row, .ref q_best]), (q_text, aI cy 300 z_text)] → va_S A s.heap H locs → W p l e rmX7_advances s m args below meth c H locs 0 0 Q (F0 m pc ls []) := by
    intro pc ls H locs w0 w1 w2 w3 hd he hP hD hS
    cases he
    exact hret _ _ _ _ hd hP hD hS
  unfold fX7_advances at hf
  have hJ26 : ∀ (z_next_26 : Int32) (H : Heap) (locs : List Loc) (ls : Array Slot), X7_advances_J26 z_typed z_value z_text z_next_26 = some r → va_P D vwCl [(q0, oB 7 [.int z_thrown, .long z_trace, .ref q_text, .int z_typed, .int z_next_26, .int z_token, .int z_place, .int z_value, .int z_fault, .ref q_weight, .ref q_eats, .ref q_barred, .ref q_laws, .int z_houses, .int z_draftHouses, .ref q_s, .ref q_kept, .ref q_isKept, .ref q_years, .ref q_likely, .ref q_then, .long z_all, .ref q_row, .ref q_best]), (q_text, aI cy 300 z_text)] H → va_D A [(q0, oB 7 [.int z_thrown, .long z_trace, .ref q_text, .int z_typed, .int z_next_26, .int z_token, .int z_place, .int z_value, .int z_fault, .ref q_weight, .ref q_eats, .ref q_barred, .ref q_laws, .int z_houses, .int z_draftHouses, .ref q_s, .ref q_kept, .ref q_isKept, .ref q_years, .ref q_likely, .ref q_then, .long z_all, .ref q_row, .ref q_best]), (q_text, aI cy 300 z_text)] → va_S A s.heap H locs → lv_has ls 4 [(0, .ref q0)] → W p l e rmX7_advances s m args below meth c H locs 0 0 Q (F0 m 26 ls []) := by
    intro z_next_26 H locs ls hf hP hD hS hl
    unfold X7_advances_J26 at hf
    refine lv_aload_n hx hb dX7_advances_26 rfl (lv_at hl 0 rfl) ?_
    refine lv_aload_n hx hb dX7_advances_27 rfl (lv_at hl 0 rfl) ?_
    refine va_get (D := D) (ci := 7) (v := .int z_next_26) (C := RX7) (T := TX7) (N := 24) hx hb hts kc1 hown hK hP 0 rfl rfl 4 (by decide) kw0 (fun _ h9 => h9) rfl dX7_advances_28 ?_
    refine va_put (D := D) (ci := 7) (v := .int z_next_26) (ty := .int) (C := RX7) (T := TX7) (N := 24) hx hb hts kc1 tyX7 tyX7_ok nmX7 hown hK hP hD hS 0 rfl rfl 6 (by decide) kw2 (fun _ h9 => h9) rfl pfI rfl rfl (Nat.le_of_ble_eq_true rfl) dX7_advances_31 (fun H locs hP hD hS => ?_)
    have hP : va_P D vwCl [(q0, oB 7 [.int z_thrown, .long z_trace, .ref q_text, .int z_typed, .int z_next_26, .int z_token, .int z_next_26, .int z_value, .int z_fault, .ref q_weight, .ref q_eats, .ref q_barred, .ref q_laws, .int z_houses, .int z_draftHouses, .ref q_s, .ref q_kept, .ref q_isKept, .ref q_years, .ref q_likely, .ref q_then, .long z_all, .ref q_row, .ref q_best]), (q_text, aI cy 300 z_text)] H := hP
    have hD : va_D A [(q0, oB 7 [.int z_thrown, .long z_trace, .ref q_text, .int z_typed, .int z_next_26, .int z_token, .int z_next_26, .int z_value, .int z_fault, .ref q_weight, .ref q_eats, .ref q_barred, .ref q_laws, .int z_houses, .int z_draftHouses, .ref q_s, .ref q_kept, .ref q_isKept, .ref q_years, .ref q_likely, .ref q_then, .long z_all, .ref q_row, .ref q_best]), (q_text, aI cy 300 z_text)] := hD
    refine lv_aload_n hx hb dX7_advances_34 rfl (lv_at hl 0 rfl) ?_
    refine lv_aload_n hx hb dX7_advances_35 rfl (lv_at hl 0 rfl) ?_
    refine va_get (D := D) (ci := 7) (v := .int z_next_26) (C := RX7) (T := TX7) (N := 24) hx hb hts kc1 hown hK hP 0 rfl rfl 4 (by decide) kw0 (fun _ h9 => h9) rfl dX7_advances_36 ?_
    obtain ⟨r_39, hr_39, hf⟩ := bd_some hf
    refine cl_i (wc := [(q0, oB 7 [.int z_thrown, .long z_trace, .ref q_text, .int z_typed, .int z_next_26, .int z_token, .int z_next_26, .int z_value, .int z_fault, .ref q_weight, .ref q_eats, .ref q_barred, .ref q_laws, .int z_houses, .int z_draftHouses, .ref q_s, .ref q_kept, .ref q_isKept, .ref q_years, .ref q_likely, .ref q_then, .long z_all, .ref q_row, .ref q_best]), (q_text, aI cy 300 z_text)]) (w1 := [(q0, oB 7 [.int z_thrown, .long z_trace, .ref q_text, .int z_typed, .int z_next_26, .int z_token, .int z_next_26, .int z_value, .int z_fault, .ref q_weight, .ref q_eats, .ref q_barred, .ref q_laws, .int z_houses, .int z_draftHouses, .ref q_s, .ref q_kept, .ref q_isKept, .ref q_years, .ref q_likely, .ref q_then, .long z_all, .ref q_row, .ref q_best]), (q_text, aI cy 300 z_text)]) (wr := []) (w2 := [(q0, oB 7 [.int z_thrown, .long z_trace, .ref q_text, .int z_typed, .int z_next_26, .int z_token, .int z_next_26, .int z_value, .int z_fault, .ref q_weight, .ref q_eats, .ref q_barred, .ref q_laws, .int z_houses, .int z_draftHouses, .ref q_s, .ref q_kept, .ref q_isKept, .ref q_years, .ref q_likely, .ref q_then, .long z_all, .ref q_row, .ref q_best]), (q_text, aI cy 300 z_text)]) (va_runV (As := [.int z_next_26]) (rest := []) ⟨hx, hb, hml, hown, hts⟩ (ktX7_byteAt l D cy q0 q_text q_weight q_eats q_barred q_laws q_s q_kept q_isKept q_years q_likely q_then q_row q_best z_thrown z_trace z_typed z_next_26 z_token z_next_26 z_value z_fault z_houses z_draftHouses z_all z_text z_next_26 r_39 hr_39 _) (cwV 1 hts gX7_advances_X7_byteAt rfl rfl rfl (by decide +kernel) ⟨Nat.le_of_ble_eq_true rfl, Nat.le_of_ble_eq_true rfl⟩) (pre_V (wc := [(q0, oB 7 [.int z_thrown, .long z_trace, .ref q_text, .int z_typed, .int z_next_26, .int z_token, .int z_next_26, .int z_value, .int z_fault, .ref q_weight, .ref q_eats, .ref q_barred, .ref q_laws, .int z_houses, .int z_draftHouses, .ref q_s, .ref q_kept, .ref q_isKept, .ref q_years, .ref q_likely, .ref q_then, .long z_all, .ref q_row, .ref q_best]), (q_text, aI cy 300 z_text)]) (ci := 7) hcx hsx hS hA hP hD [0, 1] rfl (by decide) rfl rfl) rfl rfl hl.1 rfl (lv_room (Nat.le_of_ble_eq_true rfl)) dX7_advances_39 ⟨Nat.zero_le _, Nat.zero_le _⟩) hP hD hS hA [0, 1] [] [0, 1] rfl rfl (by decide) (by decide) (by decide) rfl (fun H locs hP hD hS => ?_)
    refine lv_istore_n (lv' := [(1, .int r_39), (0, .ref q0)]) hx hb dX7_advances_42 rfl hl (by decide) rfl (fun ls hl => ?_)
    refine lv_iload_n hx hb dX7_advances_43 rfl (lv_at hl 0 rfl) ?_
    refine lv_if_ge (tgt := 55) hx hb dX7_advances_44 (by decide) (fun hc_44 => ?_) (fun hc_44 => ?_)
    · have hf := it_t hf hc_44
      refine lv_iload_n hx hb dX7_advances_55 rfl (lv_at hl 0 rfl) ?_
      refine lv_bipush (v := 97) hx hb dX7_advances_56 (by decide) ?_
      refine lv_bipush (v := 122) hx hb dX7_advances_58 (by decide) ?_
      obtain ⟨r_60, hr_60, hf⟩ := bd_some hf
      refine cl_i (wc := []) (w1 := []) (wr := [(q0, oB 7 [.int z_thrown, .long z_trace, .ref q_text, .int z_typed, .int z_next_26, .int z_token, .int z_next_26, .int z_value, .int z_fault, .ref q_weight, .ref q_eats, .ref q_barred, .ref q_laws, .int z_houses, .int z_draftHouses, .ref q_s, .ref q_kept, .ref q_isKept, .ref q_years, .ref q_likely, .ref q_then, .long z_all, .ref q_row, .ref q_best]), (q_text, aI cy 300 z_text)]) (w2 := [(q0, oB 7 [.int z_thrown, .long z_trace, .ref q_text, .int z_typed, .int z_next_26, .int z_token, .int z_next_26, .int z_value, .int z_fault, .ref q_weight, .ref q_eats, .ref q_barred, .ref q_laws, .int z_houses, .int z_draftHouses, .ref q_s, .ref q_kept, .ref q_isKept, .ref q_years, .ref q_likely, .ref q_then, .long z_all, .ref q_row, .ref q_best]), (q_text, aI cy 300 z_text)]) (va_runS (As := [.int r_39, .int (97 : Int32), .int (122 : Int32)]) (rest := []) ⟨hx, hb, hml, hown, hts⟩ (ktX7_in l D cy r_39 (97 : Int32) (122 : Int32) r_60 hr_60 _) (va_cwS 3 hts gX7_advances_X7_in rfl rfl rfl (by decide +kernel) ⟨Nat.le_of_ble_eq_true rfl, Nat.le_of_ble_eq_true rfl⟩) (pre_S (wc := []) hcx hsx hS hA hP hD [] rfl (by decide)) rfl rfl hl.1 rfl (lv_room (Nat.le_of_ble_eq_true rfl)) dX7_advances_60 ⟨Nat.zero_le _, Nat.zero_le _⟩) hP hD hS hA [] [0, 1] [0, 1] rfl rfl (by decide) (by decide) (by decide) rfl (fun H locs hP hD hS => ?_)
      refine lv_if_eq (tgt := 159) hx hb dX7_advances_63 (by decide) (fun hc_63 => ?_) (fun hc_63 => ?_)
      · have hf := it_t hf hc_63
        refine lv_iload_n hx hb dX7_advances_159 rfl (lv_at hl 0 rfl) ?_
        refine lv_bipush (v := 48) hx hb dX7_advances_160 (by decide) ?_
        refine lv_bipush (v := 57) hx hb dX7_advances_162 (by decide) ?_
        obtain ⟨r_164, hr_164, hf⟩ := bd_some hf
        refine cl_i (wc := []) (w1 := []) (wr := [(q0, oB 7 [.int z_thrown, .long z_trace, .ref q_text, .int z_typed, .int z_next_26, .int z_token, .int z_next_26, .int z_value, .int z_fault, .ref q_weight, .ref q_eats, .ref q_barred, .ref q_laws, .int z_houses, .int z_draftHouses, .ref q_s, .ref q_kept, .ref q_isKept, .ref q_years, .ref q_likely, .ref q_then, .long z_all, .ref q_row, .ref q_best]), (q_text, aI cy 300 z_text)]) (w2 := [(q0, oB 7 [.int z_thrown, .long z_trace, .ref q_text, .int z_typed, .int z_next_26, .int z_token, .int z_next_26, .int z_value, .int z_fault, .ref q_weight, .ref q_eats, .ref q_barred, .ref q_laws, .int z_houses, .int z_draftHouses, .ref q_s, .ref q_kept, .ref q_isKept, .ref q_years, .ref q_likely, .ref q_then, .long z_all, .ref q_row, .ref q_best]), (q_text, aI cy 300 z_text)]) (va_runS (As := [.int r_39, .int (48 : Int32), .int (57 : Int32)]) (rest := []) ⟨hx, hb, hml, hown, hts⟩ (ktX7_in l D cy r_39 (48 : Int32) (57 : Int32) r_164 hr_164 _) (va_cwS 3 hts gX7_advances_X7_in rfl rfl rfl (by decide +kernel) ⟨Nat.le_of_ble_eq_true rfl, Nat.le_of_ble_eq_true rfl⟩) (pre_S (wc := []) hcx hsx hS hA hP hD [] rfl (by decide)) rfl rfl hl.1 rfl (lv_room (Nat.le_of_ble_eq_true rfl)) dX7_advances_164 ⟨Nat.zero_le _, Nat.zero_le _⟩) hP hD hS hA [] [0, 1] [0, 1] rfl rfl (by decide) (by decide) (by decide) rfl (fun H locs hP hD hS => ?_)
        refine lv_if_eq (tgt := 285) hx hb dX7_advances_167 (by decide) (fun hc_167 => ?_) (fun hc_167 => ?_)
        · have hf := it_t hf hc_167
          refine lv_aload_n hx hb dX7_advances_285 rfl (lv_at hl 1 rfl) ?_
          refine lv_dup hx hb dX7_advances_286 rfl ?_
          refine va_get (D := D) (ci := 7) (v := .int z_next_26) (C := RX7) (T := TX7) (N := 24) hx hb hts kc1 hown hK hP 0 rfl rfl 4 (by decide) kw0 (fun _ h9 => h9) rfl dX7_advances_287 ?_
          refine lv_iconst (v := 1) hx hb dX7_advances_290 (by decide) ?_
          refine lv_iadd hx hb dX7_advances_291 ?_
          refine lv_topi (fun z_next_292 ez_next_292 => ?_)
          have hf := lets_at hf ez_next_292
          refine va_put (D := D) (ci := 7) (v := .int z_next_292) (ty := .int) (C := RX7) (T := TX7) (N := 24) hx hb hts kc1 tyX7 tyX7_ok nmX7 hown hK hP hD hS 0 rfl rfl 4 (by decide) kw0 (fun _ h9 => h9) rfl pfI rfl rfl (Nat.le_of_ble_eq_true rfl) dX7_advances_292 (fun H locs hP hD hS => ?_)
          have hP : va_P D vwCl [(q0, oB 7 [.int z_thrown, .long z_trace, .ref q_text, .int z_typed, .int z_next_292, .int z_token, .int z_next_26, .int z_value, .int z_fault, .ref q_weight, .ref q_eats, .ref q_barred, .ref q_laws, .int z_houses, .int z_draftHouses, .ref q_s, .ref q_kept, .ref q_isKept, .ref q_years, .ref q_likely, .ref q_then, .long z_all, .ref q_row, .ref q_best]), (q_text, aI cy 300 z_text)] H := hP
          have hD : va_D A [(q0, oB 7 [.int z_thrown, .long z_trace, .ref q_text, .int z_typed, .int z_next_292, .int z_token, .int z_next_26, .int z_value, .int z_fault, .ref q_weight, .ref q_eats, .ref q_barred, .ref q_laws, .int z_houses, .int z_draftHouses, .ref q_s, .ref q_kept, .ref q_isKept, .ref q_years, .ref q_likely, .ref q_then, .long z_all, .ref q_row, .ref q_best]), (q_text, aI cy 300 z_text)] := hD
          refine lv_aload_n hx hb dX7_advances_295 rfl (lv_at hl 1 rfl) ?_
          refine lv_iload_n hx hb dX7_advances_296 rfl (lv_at hl 0 rfl) ?_
          refine lv_bipush (v := 59) hx hb dX7_advances_297 (by decide) ?_
          have hJ307 : ∀ (t1_307 : Int32) (H : Heap) (locs : List Loc) (ls : Array Slot), X7_advances_J307 z_value z_next_26 z_next_292 t1_307 = some r → va_P D vwCl [(q0, oB 7 [.int z_thrown, .long z_trace, .ref q_text, .int z_typed, .int z_next_292, .int z_token, .int z_next_26, .int z_value, .int z_fault, .ref q_weight, .ref q_eats, .ref q_barred, .ref q_laws, .int z_houses, .int z_draftHouses, .ref q_s, .ref q_kept, .ref q_isKept, .ref q_years, .ref q_likely, .ref q_then, .long z_all, .ref q_row, .ref q_best]), (q_text, aI cy 300 z_text)] H → va_D A [(q0, oB 7 [.int z_thrown, .long z_trace, .ref q_text, .int z_typed, .int z_next_292, .int z_token, .int z_next_26, .int z_value, .int z_fault, .ref q_weight, .ref q_eats, .ref q_barred, .ref q_laws, .int z_houses, .int z_draftHouses, .ref q_s, .ref q_kept, .ref q_isKept, .ref q_years, .ref q_likely, .ref q_then, .long z_all, .ref q_row, .ref q_best]), (q_text, aI cy 300 z_text)] → va_S A s.heap H locs → lv_has ls 4 [] → W p l e rmX7_advances s m args below meth c H locs 0 0 Q (F0 m 307 ls [.int t1_307, .ref q0]) := by
            intro t1_307 H locs ls hf hP hD hS hl
            unfold X7_advances_J307 at hf
            refine va_put (D := D) (ci := 7) (v := .int t1_307) (ty := .int) (C := RX7) (T := TX7) (N := 24) hx hb hts kc1 tyX7 tyX7_ok nmX7 hown hK hP hD hS 0 rfl rfl 5 (by decide) kw3 (fun _ h9 => h9) rfl pfI rfl rfl (Nat.le_of_ble_eq_true rfl) dX7_advances_307 (fun H locs hP hD hS => ?_)
            have hP : va_P D vwCl [(q0, oB 7 [.int z_thrown, .long z_trace, .ref q_text, .int z_typed, .int z_next_292, .int t1_307, .int z_next_26, .int z_value, .int z_fault, .ref q_weight, .ref q_eats, .ref q_barred, .ref q_laws, .int z_houses, .int z_draftHouses, .ref q_s, .ref q_kept, .ref q_isKept, .ref q_years, .ref q_likely, .ref q_then, .long z_all, .ref q_row, .ref q_best]), (q_text, aI cy 300 z_text)] H := hP
            have hD : va_D A [(q0, oB 7 [.int z_thrown, .long z_trace, .ref q_text, .int z_typed, .int z_next_292, .int t1_307, .int z_next_26, .int z_value, .int z_fault, .ref q_weight, .ref q_eats, .ref q_barred, .ref q_laws, .int z_houses, .int z_draftHouses, .ref q_s, .ref q_kept, .ref q_isKept, .ref q_years, .ref q_likely, .ref q_then, .long z_all, .ref q_row, .ref q_best]), (q_text, aI cy 300 z_text)] := hD
            exact hret' _ _ _ _ _ _ _ _ dX7_advances_310 hf hP hD hS
          refine lv_icmp_ne (tgt := 306) hx hb dX7_advances_299 (by decide) (fun hc_299 => ?_) (fun hc_299 => ?_)
          · have hf := it_f hf hc_299
            refine lv_iconst (v := 4) hx hb dX7_advances_306 (by decide) ?_
            exact hJ307 (4 : Int32) _ _ _ hf hP hD hS (lv_sub hl [] rfl)
          · have hf := it_t hf hc_299
            refine lv_iconst (v := 3) hx hb dX7_advances_302 (by decide) ?_
            refine lv_goto (tgt := 307) hx hb dX7_advances_303 (by decide) ?_
            exact hJ307 (3 : Int32) _ _ _ hf hP hD hS (lv_sub hl [] rfl)
        · have hf := it_f hf hc_167
          refine lv_aload_n hx hb dX7_advances_170 rfl (lv_at hl 1 rfl) ?_
          refine lv_iconst (v := 0) hx hb dX7_advances_171 (by decide) ?_
          refine va_put (D := D) (ci := 7) (v := .int (0 : Int32)) (ty := .int) (C := RX7) (T := TX7) (N := 24) hx hb hts kc1 tyX7 tyX7_ok nmX7 hown hK hP hD hS 0 rfl rfl 7 (by decide) kw4 (fun _ h9 => h9) rfl pfI rfl rfl (Nat.le_of_ble_eq_true rfl) dX7_advances_172 (fun H locs hP hD hS => ?_)
          have hP : va_P D vwCl [(q0, oB 7 [.int z_thrown, .long z_trace, .ref q_text, .int z_typed, .int z_next_26, .int z_token, .int z_next_26, .int (0 : Int32), .int z_fault, .ref q_weight, .ref q_eats, .ref q_barred, .ref q_laws, .int z_houses, .int z_draftHouses, .ref q_s, .ref q_kept, .ref q_isKept, .ref q_years, .ref q_likely, .ref q_then, .long z_all, .ref q_row, .ref q_best]), (q_text, aI cy 300 z_text)] H := hP
          have hD : va_D A [(q0, oB 7 [.int z_thrown, .long z_trace, .ref q_text, .int z_typed, .int z_next_26, .int z_token, .int z_next_26, .int (0 : Int32), .int z_fault, .ref q_weight, .ref q_eats, .ref q_barred, .ref q_laws, .int z_houses, .int z_draftHouses, .ref q_s, .ref q_kept, .ref q_isKept, .ref q_years, .ref q_likely, .ref q_then, .long z_all, .ref q_row, .ref q_best]), (q_text, aI cy 300 z_text)] := hD
          have hJ245 : ∀ (z_next_245 : Int32) (z_value_245 : Int32) (H : Heap) (locs : List Loc) (ls : Array Slot), X7_advances_J245 z_next_26 r_39 z_next_245 z_value_245 = some r → va_P D vwCl [(q0, oB 7 [.int z_thrown, .long z_trace, .ref q_text, .int z_typed, .int z_next_245, .int z_token, .int z_next_26, .int z_value_245, .int z_fault, .ref q_weight, .ref q_eats, .ref q_barred, .ref q_laws, .int z_houses, .int z_draftHouses, .ref q_s, .ref q_kept, .ref q_isKept, .ref q_years, .ref q_likely, .ref q_then, .long z_all, .ref q_row, .ref q_best]), (q_text, aI cy 300 z_text)] H → va_D A [(q0, oB 7 [.int z_thrown, .long z_trace, .ref q_text, .int z_typed, .int z_next_245, .int z_token, .int z_next_26, .int z_value_245, .int z_fault, .ref q_weight, .ref q_eats, .ref q_barred, .ref q_laws, .int z_houses, .int z_draftHouses, .ref q_s, .ref q_kept, .ref q_isKept, .ref q_years, .ref q_likely, .ref q_then, .long z_all, .ref q_row, .ref q_best]), (q_text, aI cy 300 z_text)] → va_S A s.heap H locs → lv_has ls 4 [(0, .ref q0), (1, .int r_39)] → W p l e rmX7_advances s m args below meth c H locs 0 0 Q (F0 m 245 ls []) := by
            intro z_next_245 z_value_245 H locs ls hf hP hD hS hl
            unfold X7_advances_J245 at hf
            refine lv_aload_n hx hb dX7_advances_245 rfl (lv_at hl 0 rfl) ?_
            refine lv_aload_n hx hb dX7_advances_246 rfl (lv_at hl 0 rfl) ?_
            refine va_get (D := D) (ci := 7) (v := .int z_value_245) (C := RX7) (T := TX7) (N := 24) hx hb hts kc1 hown hK hP 0 rfl rfl 7 (by decide) kw4 (fun _ h9 => h9) rfl dX7_advances_247 ?_
            refine lv_bipush (v := 99) hx hb dX7_advances_250 (by decide) ?_
            have hJ279 : ∀ (t1_279 : Int32) (H : Heap) (locs : List Loc) (ls : Array Slot), X7_advances_J279 z_next_26 z_next_245 z_value_245 t1_279 = some r → va_P D vwCl [(q0, oB 7 [.int z_thrown, .long z_trace, .ref q_text, .int z_typed, .int z_next_245, .int z_token, .int z_next_26, .int z_value_245, .int z_fault, .ref q_weight, .ref q_eats, .ref q_barred, .ref q_laws, .int z_houses, .int z_draftHouses, .ref q_s, .ref q_kept, .ref q_isKept, .ref q_years, .ref q_likely, .ref q_then, .long z_all, .ref q_row, .ref q_best]), (q_text, aI cy 300 z_text)] H → va_D A [(q0, oB 7 [.int z_thrown, .long z_trace, .ref q_text, .int z_typed, .int z_next_245, .int z_token, .int z_next_26, .int z_value_245, .int z_fault, .ref q_weight, .ref q_eats, .ref q_barred, .ref q_laws, .int z_houses, .int z_draftHouses, .ref q_s, .ref q_kept, .ref q_isKept, .ref q_years, .ref q_likely, .ref q_then, .long z_all, .ref q_row, .ref q_best]), (q_text, aI cy 300 z_text)] → va_S A s.heap H locs → lv_has ls 4 [] → W p l e rmX7_advances s m args below meth c H locs 0 0 Q (F0 m 279 ls [.int t1_279, .ref q0]) := by
              intro t1_279 H locs ls hf hP hD hS hl
              unfold X7_advances_J279 at hf
              refine va_put (D := D) (ci := 7) (v := .int t1_279) (ty := .int) (C := RX7) (T := TX7) (N := 24) hx hb hts kc1 tyX7 tyX7_ok nmX7 hown hK hP hD hS 0 rfl rfl 5 (by decide) kw3 (fun _ h9 => h9) rfl pfI rfl rfl (Nat.le_of_ble_eq_true rfl) dX7_advances_279 (fun H locs hP hD hS => ?_)
              have hP : va_P D vwCl [(q0, oB 7 [.int z_thrown, .long z_trace, .ref q_text, .int z_typed, .int z_next_245, .int t1_279, .int z_next_26, .int z_value_245, .int z_fault, .ref q_weight, .ref q_eats, .ref q_barred, .ref q_laws, .int z_houses, .int z_draftHouses, .ref q_s, .ref q_kept, .ref q_isKept, .ref q_years, .ref q_likely, .ref q_then, .long z_all, .ref q_row, .ref q_best]), (q_text, aI cy 300 z_text)] H := hP
              have hD : va_D A [(q0, oB 7 [.int z_thrown, .long z_trace, .ref q_text, .int z_typed, .int z_next_245, .int t1_279, .int z_next_26, .int z_value_245, .int z_fault, .ref q_weight, .ref q_eats, .ref q_barred, .ref q_laws, .int z_houses, .int z_draftHouses, .ref q_s, .ref q_kept, .ref q_isKept, .ref q_years, .ref q_likely, .ref q_then, .long z_all, .ref q_row, .ref q_best]), (q_text, aI cy 300 z_text)] := hD
              refine lv_goto (tgt := 310) hx hb dX7_advances_282 (by decide) ?_
              exact hret' _ _ _ _ _ _ _ _ dX7_advances_310 hf hP hD hS
            have hJ274 : ∀ (H : Heap) (locs : List Loc) (ls : Array Slot), X7_advances_J274 z_next_26 z_next_245 z_value_245 = some r → va_P D vwCl [(q0, oB 7 [.int z_thrown, .long z_trace, .ref q_text, .int z_typed, .int z_next_245, .int z_token, .int z_next_26, .int z_value_245, .int z_fault, .ref q_weight, .ref q_eats, .ref q_barred, .ref q_laws, .int z_houses, .int z_draftHouses, .ref q_s, .ref q_kept, .ref q_isKept, .ref q_years, .ref q_likely, .ref q_then, .long z_all, .ref q_row, .ref q_best]), (q_text, aI cy 300 z_text)] H → va_D A [(q0, oB 7 [.int z_thrown, .long z_trace, .ref q_text, .int z_typed, .int z_next_245, .int z_token, .int z_next_26, .int z_value_245, .int z_fault, .ref q_weight, .ref q_eats, .ref q_barred, .ref q_laws, .int z_houses, .int z_draftHouses, .ref q_s, .ref q_kept, .ref q_isKept, .ref q_years, .ref q_likely, .ref q_then, .long z_all, .ref q_row, .ref q_best]), (q_text, aI cy 300 z_text)] → va_S A s.heap H locs → lv_has ls 4 [] → W p l e rmX7_advances s m args below meth c H locs 0 0 Q (F0 m 274 ls [.ref q0]) := by
              intro H locs ls hf hP hD hS hl
              unfold X7_advances_J274 at hf
              refine lv_iconst (v := 4) hx hb dX7_advances_274 (by decide) ?_
              refine lv_goto (tgt := 279) hx hb dX7_advances_275 (by decide) ?_
              exact hJ279 (4 : Int32) _ _ _ hf hP hD hS (lv_sub hl [] rfl)
            refine lv_icmp_gt (tgt := 274) hx hb dX7_advances_252 (by decide) (fun hc_252 => ?_) (fun hc_252 => ?_)
            · have hf := it_t hf hc_252
              exact hJ274 _ _ _ hf hP hD hS (lv_sub hl [] rfl)
            · have hf := it_f hf hc_252
              refine lv_iload_n hx hb dX7_advances_255 rfl (lv_at hl 1 rfl) ?_
              refine lv_bipush (v := 48) hx hb dX7_advances_256 (by decide) ?_
              have hJ278 : ∀ (H : Heap) (locs : List Loc) (ls : Array Slot), X7_advances_J278 z_next_26 z_next_245 z_value_245 = some r → va_P D vwCl [(q0, oB 7 [.int z_thrown, .long z_trace, .ref q_text, .int z_typed, .int z_next_245, .int z_token, .int z_next_26, .int z_value_245, .int z_fault, .ref q_weight, .ref q_eats, .ref q_barred, .ref q_laws, .int z_houses, .int z_draftHouses, .ref q_s, .ref q_kept, .ref q_isKept, .ref q_years, .ref q_likely, .ref q_then, .long z_all, .ref q_row, .ref q_best]), (q_text, aI cy 300 z_text)] H → va_D A [(q0, oB 7 [.int z_thrown, .long z_trace, .ref q_text, .int z_typed, .int z_next_245, .int z_token, .int z_next_26, .int z_value_245, .int z_fault, .ref q_weight, .ref q_eats, .ref q_barred, .ref q_laws, .int z_houses, .int z_draftHouses, .ref q_s, .ref q_kept, .ref q_isKept, .ref q_years, .ref q_likely, .ref q_then, .long z_all, .ref q_row, .ref q_best]), (q_text, aI cy 300 z_text)] → va_S A s.heap H locs → lv_has ls 4 [] → W p l e rmX7_advances s m args below meth c H locs 0 0 Q (F0 m 278 ls [.ref q0]) := by
                intro H locs ls hf hP hD hS hl
                unfold X7_advances_J278 at hf
                refine lv_iconst (v := 2) hx hb dX7_advances_278 (by decide) ?_
                exact hJ279 (2 : Int32) _ _ _ hf hP hD hS (lv_sub hl [] rfl)
              refine lv_icmp_ne (tgt := 278) hx hb dX7_advances_258 (by decide) (fun hc_258 => ?_) (fun hc_258 => ?_)
              · have hf := it_f hf hc_258
                exact hJ278 _ _ _ hf hP hD hS (lv_sub hl [] rfl)
              · have hf := it_t hf hc_258
                refine lv_aload_n hx hb dX7_advances_261 rfl (lv_at hl 0 rfl) ?_
                refine va_get (D := D) (ci := 7) (v := .int z_next_245) (C := RX7) (T := TX7) (N := 24) hx hb hts kc1 hown hK hP 0 rfl rfl 4 (by decide) kw0 (fun _ h9 => h9) rfl dX7_advances_262 ?_
                refine lv_aload_n hx hb dX7_advances_265 rfl (lv_at hl 0 rfl) ?_
                refine va_get (D := D) (ci := 7) (v := .int z_next_26) (C := RX7) (T := TX7) (N := 24) hx hb hts kc1 hown hK hP 0 rfl rfl 6 (by decide) kw2 (fun _ h9 => h9) rfl dX7_advances_266 ?_
                refine lv_isub hx hb dX7_advances_269 ?_
                refine lv_iconst (v := 1) hx hb dX7_advances_270 (by decide) ?_
                refine lv_icmp_le (tgt := 278) hx hb dX7_advances_271 (by decide) (fun hc_271 => ?_) (fun hc_271 => ?_)
                · have hf := it_t hf hc_271
                  exact hJ278 _ _ _ hf hP hD hS (lv_sub hl [] rfl)
                · have hf := it_f hf hc_271
                  exact hJ274 _ _ _ hf hP hD hS (lv_sub hl [] rfl)
          have hL175 : ∀ (n : Nat) (z_next_175 : Int32) (z_value_175 : Int32) (H : Heap) (locs : List Loc) (ls : Array Slot), it2 (X7_advances_S175 z_typed z_text z_next_26 r_39) n z_next_175 z_value_175 = some r → va_P D vwCl [(q0, oB 7 [.int z_thrown, .long z_trace, .ref q_text, .int z_typed, .int z_next_175, .int z_token, .int z_next_26, .int z_value_175, .int z_fault, .ref q_weight, .ref q_eats, .ref q_barred, .ref q_laws, .int z_houses, .int z_draftHouses, .ref q_s, .ref q_kept, .ref q_isKept, .ref q_years, .ref q_likely, .ref q_then, .long z_all, .ref q_row, .ref q_best]), (q_text, aI cy 300 z_text)] H → va_D A [(q0, oB 7 [.int z_thrown, .long z_trace, .ref q_text, .int z_typed, .int z_next_175, .int z_token, .int z_next_26, .int z_value_175, .int z_fault, .ref q_weight, .ref q_eats, .ref q_barred, .ref q_laws, .int z_houses, .int z_draftHouses, .ref q_s, .ref q_kept, .ref q_isKept, .ref q_years, .ref q_likely, .ref q_then, .long z_all, .ref q_row, .ref q_best]), (q_text, aI cy 300 z_text)] → va_S A s.heap H locs → lv_has ls 4 [(0, .ref q0), (1, .int r_39)] → W p l e rmX7_advances s m args below meth c H locs 0 0 Q (F0 m 175 ls []) := by
            intro n
            induction n with
            | zero => intro z_next_175 z_value_175 H locs ls hf; exact absurd hf (by simp [it2])
            | succ n ih175 =>
              intro z_next_175 z_value_175 H locs ls hf hP hD hS hl
              have hf : X7_advances_S175 z_typed z_text z_next_26 r_39 (it2 (X7_advances_S175 z_typed z_text z_next_26 r_39) n) z_next_175 z_value_175 = some r := hf
              generalize it2 (X7_advances_S175 z_typed z_text z_next_26 r_39) n = self_175 at hf ih175
              unfold X7_advances_S175 at hf
              refine lv_aload_n hx hb dX7_advances_175 rfl (lv_at hl 0 rfl) ?_
              refine lv_aload_n hx hb dX7_advances_176 rfl (lv_at hl 0 rfl) ?_
              refine va_get (D := D) (ci := 7) (v := .int z_next_175) (C := RX7) (T := TX7) (N := 24) hx hb hts kc1 hown hK hP 0 rfl rfl 4 (by decide) kw0 (fun _ h9 => h9) rfl dX7_advances_177 ?_
              obtain ⟨r_180, hr_180, hf⟩ := bd_some hf
              refine cl_i (wc := [(q0, oB 7 [.int z_thrown, .long z_trace, .ref q_text, .int z_typed, .int z_next_175, .int z_token, .int z_next_26, .int z_value_175, .int z_fault, .ref q_weight, .ref q_eats, .ref q_barred, .ref q_laws, .int z_houses, .int z_draftHouses, .ref q_s, .ref q_kept, .ref q_isKept, .ref q_years, .ref q_likely, .ref q_then, .long z_all, .ref q_row, .ref q_best]), (q_text, aI cy 300 z_text)]) (w1 := [(q0, oB 7 [.int z_thrown, .long z_trace, .ref q_text, .int z_typed, .int z_next_175, .int z_token, .int z_next_26, .int z_value_175, .int z_fault, .ref q_weight, .ref q_eats, .ref q_barred, .ref q_laws, .int z_houses, .int z_draftHouses, .ref q_s, .ref q_kept, .ref q_isKept, .ref q_years, .ref q_likely, .ref q_then, .long z_all, .ref q_row, .ref q_best]), (q_text, aI cy 300 z_text)]) (wr := []) (w2 := [(q0, oB 7 [.int z_thrown, .long z_trace, .ref q_text, .int z_typed, .int z_next_175, .int z_token, .int z_next_26, .int z_value_175, .int z_fault, .ref q_weight, .ref q_eats, .ref q_barred, .ref q_laws, .int z_houses, .int z_draftHouses, .ref q_s, .ref q_kept, .ref q_isKept, .ref q_years, .ref q_likely, .ref q_then, .long z_all, .ref q_row, .ref q_best]), (q_text, aI cy 300 z_text)]) (va_runV (As := [.int z_next_175]) (rest := []) ⟨hx, hb, hml, hown, hts⟩ (ktX7_byteAt l D cy q0 q_text q_weight q_eats q_barred q_laws q_s q_kept q_isKept q_years q_likely q_then q_row q_best z_thrown z_trace z_typed z_next_175 z_token z_next_26 z_value_175 z_fault z_houses z_draftHouses z_all z_text z_next_175 r_180 hr_180 _) (cwV 1 hts gX7_advances_X7_byteAt rfl rfl rfl (by decide +kernel) ⟨Nat.le_of_ble_eq_true rfl, Nat.le_of_ble_eq_true rfl⟩) (pre_V (wc := [(q0, oB 7 [.int z_thrown, .long z_trace, .ref q_text, .int z_typed, .int z_next_175, .int z_token, .int z_next_26, .int z_value_175, .int z_fault, .ref q_weight, .ref q_eats, .ref q_barred, .ref q_laws, .int z_houses, .int z_draftHouses, .ref q_s, .ref q_kept, .ref q_isKept, .ref q_years, .ref q_likely, .ref q_then, .long z_all, .ref q_row, .ref q_best]), (q_text, aI cy 300 z_text)]) (ci := 7) hcx hsx hS hA hP hD [0, 1] rfl (by decide) rfl rfl) rfl rfl hl.1 rfl (lv_room (Nat.le_of_ble_eq_true rfl)) dX7_advances_180 ⟨Nat.zero_le _, Nat.zero_le _⟩) hP hD hS hA [0, 1] [] [0, 1] rfl rfl (by decide) (by decide) (by decide) rfl (fun H locs hP hD hS => ?_)
              refine lv_bipush (v := 48) hx hb dX7_advances_183 (by decide) ?_
              refine lv_bipush (v := 57) hx hb dX7_advances_185 (by decide) ?_
              obtain ⟨r_187, hr_187, hf⟩ := bd_some hf
              refine cl_i (wc := []) (w1 := []) (wr := [(q0, oB 7 [.int z_thrown, .long z_trace, .ref q_text, .int z_typed, .int z_next_175, .int z_token, .int z_next_26, .int z_value_175, .int z_fault, .ref q_weight, .ref q_eats, .ref q_barred, .ref q_laws, .int z_houses, .int z_draftHouses, .ref q_s, .ref q_kept, .ref q_isKept, .ref q_years, .ref q_likely, .ref q_then, .long z_all, .ref q_row, .ref q_best]), (q_text, aI cy 300 z_text)]) (w2 := [(q0, oB 7 [.int z_thrown, .long z_trace, .ref q_text, .int z_typed, .int z_next_175, .int z_token, .int z_next_26, .int z_value_175, .int z_fault, .ref q_weight, .ref q_eats, .ref q_barred, .ref q_laws, .int z_houses, .int z_draftHouses, .ref q_s, .ref q_kept, .ref q_isKept, .ref q_years, .ref q_likely, .ref q_then, .long z_all, .ref q_row, .ref q_best]), (q_text, aI cy 300 z_text)]) (va_runS (As := [.int r_180, .int (48 : Int32), .int (57 : Int32)]) (rest := []) ⟨hx, hb, hml, hown, hts⟩ (ktX7_in l D cy r_180 (48 : Int32) (57 : Int32) r_187 hr_187 _) (va_cwS 3 hts gX7_advances_X7_in rfl rfl rfl (by decide +kernel) ⟨Nat.le_of_ble_eq_true rfl, Nat.le_of_ble_eq_true rfl⟩) (pre_S (wc := []) hcx hsx hS hA hP hD [] rfl (by decide)) rfl rfl hl.1 rfl (lv_room (Nat.le_of_ble_eq_true rfl)) dX7_advances_187 ⟨Nat.zero_le _, Nat.zero_le _⟩) hP hD hS hA [] [0, 1] [0, 1] rfl rfl (by decide) (by decide) (by decide) rfl (fun H locs hP hD hS => ?_)
              refine lv_if_eq (tgt := 245) hx hb dX7_advances_190 (by decide) (fun hc_190 => ?_) (fun hc_190 => ?_)
              · have hf := it_t hf hc_190
                exact hJ245 z_next_175 z_value_175 _ _ _ hf hP hD hS (lv_sub hl [0, 1] rfl)
              · have hf := it_f hf hc_190
                refine lv_aload_n hx hb dX7_advances_193 rfl (lv_at hl 0 rfl) ?_
                refine lv_aload_n hx hb dX7_advances_194 rfl (lv_at hl 0 rfl) ?_
                refine va_get (D := D) (ci := 7) (v := .int z_value_175) (C := RX7) (T := TX7) (N := 24) hx hb hts kc1 hown hK hP 0 rfl rfl 7 (by decide) kw4 (fun _ h9 => h9) rfl dX7_advances_195 ?_
                refine lv_bipush (v := 99) hx hb dX7_advances_198 (by decide) ?_
                have hJ229 : ∀ (t1_229 : Int32) (H : Heap) (locs : List Loc) (ls : Array Slot), X7_advances_J229 z_next_175 self_175 t1_229 = some r → va_P D vwCl [(q0, oB 7 [.int z_thrown, .long z_trace, .ref q_text, .int z_typed, .int z_next_175, .int z_token, .int z_next_26, .int z_value_175, .int z_fault, .ref q_weight, .ref q_eats, .ref q_barred, .ref q_laws, .int z_houses, .int z_draftHouses, .ref q_s, .ref q_kept, .ref q_isKept, .ref q_years, .ref q_likely, .ref q_then, .long z_all, .ref q_row, .ref q_best]), (q_text, aI cy 300 z_text)] H → va_D A [(q0, oB 7 [.int z_thrown, .long z_trace, .ref q_text, .int z_typed, .int z_next_175, .int z_token, .int z_next_26, .int z_value_175, .int z_fault, .ref q_weight, .ref q_eats, .ref q_barred, .ref q_laws, .int z_houses, .int z_draftHouses, .ref q_s, .ref q_kept, .ref q_isKept, .ref q_years, .ref q_likely, .ref q_then, .long z_all, .ref q_row, .ref q_best]), (q_text, aI cy 300 z_text)] → va_S A s.heap H locs → lv_has ls 4 [(0, .ref q0), (1, .int r_39)] → W p l e rmX7_advances s m args below meth c H locs 0 0 Q (F0 m 229 ls [.int t1_229, .ref q0]) := by
                  intro t1_229 H locs ls hf hP hD hS hl
                  unfold X7_advances_J229 at hf
                  refine va_put (D := D) (ci := 7) (v := .int t1_229) (ty := .int) (C := RX7) (T := TX7) (N := 24) hx hb hts kc1 tyX7 tyX7_ok nmX7 hown hK hP hD hS 0 rfl rfl 7 (by decide) kw4 (fun _ h9 => h9) rfl pfI rfl rfl (Nat.le_of_ble_eq_true rfl) dX7_advances_229 (fun H locs hP hD hS => ?_)
                  have hP : va_P D vwCl [(q0, oB 7 [.int z_thrown, .long z_trace, .ref q_text, .int z_typed, .int z_next_175, .int z_token, .int z_next_26, .int t1_229, .int z_fault, .ref q_weight, .ref q_eats, .ref q_barred, .ref q_laws, .int z_houses, .int z_draftHouses, .ref q_s, .ref q_kept, .ref q_isKept, .ref q_years, .ref q_likely, .ref q_then, .long z_all, .ref q_row, .ref q_best]), (q_text, aI cy 300 z_text)] H := hP
                  have hD : va_D A [(q0, oB 7 [.int z_thrown, .long z_trace, .ref q_text, .int z_typed, .int z_next_175, .int z_token, .int z_next_26, .int t1_229, .int z_fault, .ref q_weight, .ref q_eats, .ref q_barred, .ref q_laws, .int z_houses, .int z_draftHouses, .ref q_s, .ref q_kept, .ref q_isKept, .ref q_years, .ref q_likely, .ref q_then, .long z_all, .ref q_row, .ref q_best]), (q_text, aI cy 300 z_text)] := hD
                  refine lv_aload_n hx hb dX7_advances_232 rfl (lv_at hl 0 rfl) ?_
                  refine lv_dup hx hb dX7_advances_233 rfl ?_
                  refine va_get (D := D) (ci := 7) (v := .int z_next_175) (C := RX7) (T := TX7) (N := 24) hx hb hts kc1 hown hK hP 0 rfl rfl 4 (by decide) kw0 (fun _ h9 => h9) rfl dX7_advances_234 ?_
                  refine lv_iconst (v := 1) hx hb dX7_advances_237 (by decide) ?_
                  refine lv_iadd hx hb dX7_advances_238 ?_
                  refine lv_topi (fun z_next_239 ez_next_239 => ?_)
                  have hf := lets_at hf ez_next_239
                  refine va_put (D := D) (ci := 7) (v := .int z_next_239) (ty := .int) (C := RX7) (T := TX7) (N := 24) hx hb hts kc1 tyX7 tyX7_ok nmX7 hown hK hP hD hS 0 rfl rfl 4 (by decide) kw0 (fun _ h9 => h9) rfl pfI rfl rfl (Nat.le_of_ble_eq_true rfl) dX7_advances_239 (fun H locs hP hD hS => ?_)
                  have hP : va_P D vwCl [(q0, oB 7 [.int z_thrown, .long z_trace, .ref q_text, .int z_typed, .int z_next_239, .int z_token, .int z_next_26, .int t1_229, .int z_fault, .ref q_weight, .ref q_eats, .ref q_barred, .ref q_laws, .int z_houses, .int z_draftHouses, .ref q_s, .ref q_kept, .ref q_isKept, .ref q_years, .ref q_likely, .ref q_then, .long z_all, .ref q_row, .ref q_best]), (q_text, aI cy 300 z_text)] H := hP
                  have hD : va_D A [(q0, oB 7 [.int z_thrown, .long z_trace, .ref q_text, .int z_typed, .int z_next_239, .int z_token, .int z_next_26, .int t1_229, .int z_fault, .ref q_weight, .ref q_eats, .ref q_barred, .ref q_laws, .int z_houses, .int z_draftHouses, .ref q_s, .ref q_kept, .ref q_isKept, .ref q_years, .ref q_likely, .ref q_then, .long z_all, .ref q_row, .ref q_best]), (q_text, aI cy 300 z_text)] := hD
                  refine lv_goto (tgt := 175) hx hb dX7_advances_242 (by decide) ?_
                  exact ih175 z_next_239 t1_229 _ _ _ hf hP hD hS (lv_sub hl [0, 1] rfl)
                refine lv_icmp_le (tgt := 210) hx hb dX7_advances_200 (by decide) (fun hc_200 => ?_) (fun hc_200 => ?_)
                · have hf := it_t hf hc_200
                  refine lv_bipush (v := 10) hx hb dX7_advances_210 (by decide) ?_
                  refine lv_aload_n hx hb dX7_advances_212 rfl (lv_at hl 0 rfl) ?_
                  refine va_get (D := D) (ci := 7) (v := .int z_value_175) (C := RX7) (T := TX7) (N := 24) hx hb hts kc1 hown hK hP 0 rfl rfl 7 (by decide) kw4 (fun _ h9 => h9) rfl dX7_advances_213 ?_
                  refine lv_imul hx hb dX7_advances_216 ?_
                  refine lv_aload_n hx hb dX7_advances_217 rfl (lv_at hl 0 rfl) ?_
                  refine lv_aload_n hx hb dX7_advances_218 rfl (lv_at hl 0 rfl) ?_
                  refine va_get (D := D) (ci := 7) (v := .int z_next_175) (C := RX7) (T := TX7) (N := 24) hx hb hts kc1 hown hK hP 0 rfl rfl 4 (by decide) kw0 (fun _ h9 => h9) rfl dX7_advances_219 ?_
                  obtain ⟨r_222, hr_222, hf⟩ := bd_some hf
                  refine cl_i (wc := [(q0, oB 7 [.int z_thrown, .long z_trace, .ref q_text, .int z_typed, .int z_next_175, .int z_token, .int z_next_26, .int z_value_175, .int z_fault, .ref q_weight, .ref q_eats, .ref q_barred, .ref q_laws, .int z_houses, .int z_draftHouses, .ref q_s, .ref q_kept, .ref q_isKept, .ref q_years, .ref q_likely, .ref q_then, .long z_all, .ref q_row, .ref q_best]), (q_text, aI cy 300 z_text)]) (w1 := [(q0, oB 7 [.int z_thrown, .long z_trace, .ref q_text, .int z_typed, .int z_next_175, .int z_token, .int z_next_26, .int z_value_175, .int z_fault, .ref q_weight, .ref q_eats, .ref q_barred, .ref q_laws, .int z_houses, .int z_draftHouses, .ref q_s, .ref q_kept, .ref q_isKept, .ref q_years, .ref q_likely, .ref q_then, .long z_all, .ref q_row, .ref q_best]), (q_text, aI cy 300 z_text)]) (wr := []) (w2 := [(q0, oB 7 [.int z_thrown, .long z_trace, .ref q_text, .int z_typed, .int z_next_175, .int z_token, .int z_next_26, .int z_value_175, .int z_fault, .ref q_weight, .ref q_eats, .ref q_barred, .ref q_laws, .int z_houses, .int z_draftHouses, .ref q_s, .ref q_kept, .ref q_isKept, .ref q_years, .ref q_likely, .ref q_then, .long z_all, .ref q_row, .ref q_best]), (q_text, aI cy 300 z_text)]) (va_runV (As := [.int z_next_175]) (rest := [.int ((10 : Int32) * z_value_175), .ref q0]) ⟨hx, hb, hml, hown, hts⟩ (ktX7_byteAt l D cy q0 q_text q_weight q_eats q_barred q_laws q_s q_kept q_isKept q_years q_likely q_then q_row q_best z_thrown z_trace z_typed z_next_175 z_token z_next_26 z_value_175 z_fault z_houses z_draftHouses z_all z_text z_next_175 r_222 hr_222 _) (cwV 1 hts gX7_advances_X7_byteAt rfl rfl rfl (by decide +kernel) ⟨Nat.le_of_ble_eq_true rfl, Nat.le_of_ble_eq_true rfl⟩) (pre_V (wc := [(q0, oB 7 [.int z_thrown, .long z_trace, .ref q_text, .int z_typed, .int z_next_175, .int z_token, .int z_next_26, .int z_value_175, .int z_fault, .ref q_weight, .ref q_eats, .ref q_barred, .ref q_laws, .int z_houses, .int z_draftHouses, .ref q_s, .ref q_kept, .ref q_isKept, .ref q_years, .ref q_likely, .ref q_then, .long z_all, .ref q_row, .ref q_best]), (q_text, aI cy 300 z_text)]) (ci := 7) hcx hsx hS hA hP hD [0, 1] rfl (by decide) rfl rfl) rfl rfl hl.1 rfl (lv_room (Nat.le_of_ble_eq_true rfl)) dX7_advances_222 ⟨Nat.zero_le _, Nat.zero_le _⟩) hP hD hS hA [0, 1] [] [0, 1] rfl rfl (by decide) (by decide) (by decide) rfl (fun H locs hP hD hS => ?_)
                  refine lv_iadd hx hb dX7_advances_225 ?_
                  refine lv_bipush (v := 48) hx hb dX7_advances_226 (by decide) ?_
                  refine lv_isub hx hb dX7_advances_228 ?_
                  exact hJ229 ((((10 : Int32) * z_value_175) + r_222) - (48 : Int32)) _ _ _ hf hP hD hS (lv_sub hl [0, 1] rfl)
                · have hf := it_f hf hc_200
                  refine lv_aload_n hx hb dX7_advances_203 rfl (lv_at hl 0 rfl) ?_
                  refine va_get (D := D) (ci := 7) (v := .int z_value_175) (C := RX7) (T := TX7) (N := 24) hx hb hts kc1 hown hK hP 0 rfl rfl 7 (by decide) kw4 (fun _ h9 => h9) rfl dX7_advances_204 ?_
                  refine lv_goto (tgt := 229) hx hb dX7_advances_207 (by decide) ?_
                  exact hJ229 z_value_175 _ _ _ hf hP hD hS (lv_sub hl [0, 1] rfl)
          exact hL175 _ z_next_26 (0 : Int32) _ _ _ hf hP hD hS (lv_sub hl [1, 0] rfl)
      · have hf := it_f hf hc_63
        refine lv_lconst (v := 0) hx hb dX7_advances_66 (by decide) ?_
        refine lv_lstore_n (lv' := [(2, .long (0 : Int64)), (1, .int r_39), (0, .ref q0)]) hx hb dX7_advances_67 rfl hl (by decide) rfl (fun ls hl => ?_)
        have hJ130 : ∀ (x2_130 : Int64) (z_next_130 : Int32) (H : Heap) (locs : List Loc) (ls : Array Slot), X7_advances_J130 z_next_26 x2_130 z_next_130 = some r → va_P D vwCl [(q0, oB 7 [.int z_thrown, .long z_trace, .ref q_text, .int z_typed, .int z_next_130, .int z_token, .int z_next_26, .int z_value, .int z_fault, .ref q_weight, .ref q_eats, .ref q_barred, .ref q_laws, .int z_houses, .int z_draftHouses, .ref q_s, .ref q_kept, .ref q_isKept, .ref q_years, .ref q_likely, .ref q_then, .long z_all, .ref q_row, .ref q_best]), (q_text, aI cy 300 z_text)] H → va_D A [(q0, oB 7 [.int z_thrown, .long z_trace, .ref q_text, .int z_typed, .int z_next_130, .int z_token, .int z_next_26, .int z_value, .int z_fault, .ref q_weight, .ref q_eats, .ref q_barred, .ref q_laws, .int z_houses, .int z_draftHouses, .ref q_s, .ref q_kept, .ref q_isKept, .ref q_years, .ref q_likely, .ref q_then, .long z_all, .ref q_row, .ref q_best]), (q_text, aI cy 300 z_text)] → va_S A s.heap H locs → lv_has ls 4 [(0, .ref q0), (2, .long x2_130)] → W p l e rmX7_advances s m args below meth c H locs 0 0 Q (F0 m 130 ls []) := by
          intro x2_130 z_next_130 H locs ls hf hP hD hS hl
          unfold X7_advances_J130 at hf
          refine lv_aload_n hx hb dX7_advances_130 rfl (lv_at hl 0 rfl) ?_
          refine lv_lload_n hx hb dX7_advances_131 rfl (lv_at hl 1 rfl) ?_
          obtain ⟨r_132, hr_132, hf⟩ := bd_some hf
          refine cl_i (wc := []) (w1 := []) (wr := [(q0, oB 7 [.int z_thrown, .long z_trace, .ref q_text, .int z_typed, .int z_next_130, .int z_token, .int z_next_26, .int z_value, .int z_fault, .ref q_weight, .ref q_eats, .ref q_barred, .ref q_laws, .int z_houses, .int z_draftHouses, .ref q_s, .ref q_kept, .ref q_isKept, .ref q_years, .ref q_likely, .ref q_then, .long z_all, .ref q_row, .ref q_best]), (q_text, aI cy 300 z_text)]) (w2 := [(q0, oB 7 [.int z_thrown, .long z_trace, .ref q_text, .int z_typed, .int z_next_130, .int z_token, .int z_next_26, .int z_value, .int z_fault, .ref q_weight, .ref q_eats, .ref q_barred, .ref q_laws, .int z_houses, .int z_draftHouses, .ref q_s, .ref q_kept, .ref q_isKept, .ref q_years, .ref q_likely, .ref q_then, .long z_all, .ref q_row, .ref q_best]), (q_text, aI cy 300 z_text)]) (va_runS (As := [.long x2_130]) (rest := [.ref q0]) ⟨hx, hb, hml, hown, hts⟩ (ktX7_wordOf l D cy x2_130 r_132 hr_132 _) (va_cwS 1 hts gX7_advances_X7_wordOf rfl rfl rfl (by decide +kernel) ⟨Nat.le_of_ble_eq_true rfl, Nat.le_of_ble_eq_true rfl⟩) (pre_S (wc := []) hcx hsx hS hA hP hD [] rfl (by decide)) rfl rfl hl.1 rfl (lv_room (Nat.le_of_ble_eq_true rfl)) dX7_advances_132 ⟨Nat.zero_le _, Nat.zero_le _⟩) hP hD hS hA [] [0, 1] [0, 1] rfl rfl (by decide) (by decide) (by decide) rfl (fun H locs hP hD hS => ?_)
          refine va_put (D := D) (ci := 7) (v := .int r_132) (ty := .int) (C := RX7) (T := TX7) (N := 24) hx hb hts kc1 tyX7 tyX7_ok nmX7 hown hK hP hD hS 0 rfl rfl 7 (by decide) kw4 (fun _ h9 => h9) rfl pfI rfl rfl (Nat.le_of_ble_eq_true rfl) dX7_advances_135 (fun H locs hP hD hS => ?_)
          have hP : va_P D vwCl [(q0, oB 7 [.int z_thrown, .long z_trace, .ref q_text, .int z_typed, .int z_next_130, .int z_token, .int z_next_26, .int r_132, .int z_fault, .ref q_weight, .ref q_eats, .ref q_barred, .ref q_laws, .int z_houses, .int z_draftHouses, .ref q_s, .ref q_kept, .ref q_isKept, .ref q_years, .ref q_likely, .ref q_then, .long z_all, .ref q_row, .ref q_best]), (q_text, aI cy 300 z_text)] H := hP
          have hD : va_D A [(q0, oB 7 [.int z_thrown, .long z_trace, .ref q_text, .int z_typed, .int z_next_130, .int z_token, .int z_next_26, .int r_132, .int z_fault, .ref q_weight, .ref q_eats, .ref q_barred, .ref q_laws, .int z_houses, .int z_draftHouses, .ref q_s, .ref q_kept, .ref q_isKept, .ref q_years, .ref q_likely, .ref q_then, .long z_all, .ref q_row, .ref q_best]), (q_text, aI cy 300 z_text)] := hD
          refine lv_aload_n hx hb dX7_advances_138 rfl (lv_at hl 0 rfl) ?_
          refine lv_aload_n hx hb dX7_advances_139 rfl (lv_at hl 0 rfl) ?_
          refine va_get (D := D) (ci := 7) (v := .int r_132) (C := RX7) (T := TX7) (N := 24) hx hb hts kc1 hown hK hP 0 rfl rfl 7 (by decide) kw4 (fun _ h9 => h9) rfl dX7_advances_140 ?_
          refine lv_bipush (v := -9) hx hb dX7_advances_143 (by decide) ?_
          have hJ153 : ∀ (t1_153 : Int32) (H : Heap) (locs : List Loc) (ls : Array Slot), X7_advances_J153 z_next_26 z_next_130 r_132 t1_153 = some r → va_P D vwCl [(q0, oB 7 [.int z_thrown, .long z_trace, .ref q_text, .int z_typed, .int z_next_130, .int z_token, .int z_next_26, .int r_132, .int z_fault, .ref q_weight, .ref q_eats, .ref q_barred, .ref q_laws, .int z_houses, .int z_draftHouses, .ref q_s, .ref q_kept, .ref q_isKept, .ref q_years, .ref q_likely, .ref q_then, .long z_all, .ref q_row, .ref q_best]), (q_text, aI cy 300 z_text)] H → va_D A [(q0, oB 7 [.int z_thrown, .long z_trace, .ref q_text, .int z_typed, .int z_next_130, .int z_token, .int z_next_26, .int r_132, .int z_fault, .ref q_weight, .ref q_eats, .ref q_barred, .ref q_laws, .int z_houses, .int z_draftHouses, .ref q_s, .ref q_kept, .ref q_isKept, .ref q_years, .ref q_likely, .ref q_then, .long z_all, .ref q_row, .ref q_best]), (q_text, aI cy 300 z_text)] → va_S A s.heap H locs → lv_has ls 4 [] → W p l e rmX7_advances s m args below meth c H locs 0 0 Q (F0 m 153 ls [.int t1_153, .ref q0]) := by
            intro t1_153 H locs ls hf hP hD hS hl
            unfold X7_advances_J153 at hf
            refine va_put (D := D) (ci := 7) (v := .int t1_153) (ty := .int) (C := RX7) (T := TX7) (N := 24) hx hb hts kc1 tyX7 tyX7_ok nmX7 hown hK hP hD hS 0 rfl rfl 5 (by decide) kw3 (fun _ h9 => h9) rfl pfI rfl rfl (Nat.le_of_ble_eq_true rfl) dX7_advances_153 (fun H locs hP hD hS => ?_)
            have hP : va_P D vwCl [(q0, oB 7 [.int z_thrown, .long z_trace, .ref q_text, .int z_typed, .int z_next_130, .int t1_153, .int z_next_26, .int r_132, .int z_fault, .ref q_weight, .ref q_eats, .ref q_barred, .ref q_laws, .int z_houses, .int z_draftHouses, .ref q_s, .ref q_kept, .ref q_isKept, .ref q_years, .ref q_likely, .ref q_then, .long z_all, .ref q_row, .ref q_best]), (q_text, aI cy 300 z_text)] H := hP
            have hD : va_D A [(q0, oB 7 [.int z_thrown, .long z_trace, .ref q_text, .int z_typed, .int z_next_130, .int t1_153, .int z_next_26, .int r_132, .int z_fault, .ref q_weight, .ref q_eats, .ref q_barred, .ref q_laws, .int z_houses, .int z_draftHouses, .ref q_s, .ref q_kept, .ref q_isKept, .ref q_years, .ref q_likely, .ref q_then, .long z_all, .ref q_row, .ref q_best]), (q_text, aI cy 300 z_text)] := hD
            refine lv_goto (tgt := 310) hx hb dX7_advances_156 (by decide) ?_
            exact hret' _ _ _ _ _ _ _ _ dX7_advances_310 hf hP hD hS
          refine lv_icmp_ne (tgt := 152) hx hb dX7_advances_145 (by decide) (fun hc_145 => ?_) (fun hc_145 => ?_)
          · have hf := it_f hf hc_145
            refine lv_iconst (v := 1) hx hb dX7_advances_152 (by decide) ?_
            exact hJ153 (1 : Int32) _ _ _ hf hP hD hS (lv_sub hl [] rfl)
          · have hf := it_t hf hc_145
            refine lv_iconst (v := 4) hx hb dX7_advances_148 (by decide) ?_
            refine lv_goto (tgt := 153) hx hb dX7_advances_149 (by decide) ?_
            exact hJ153 (4 : Int32) _ _ _ hf hP hD hS (lv_sub hl [] rfl)
        have hL68 : ∀ (n : Nat) (x2_68 : Int64) (z_next_68 : Int32) (H : Heap) (locs : List Loc) (ls : Array Slot), it2 (X7_advances_S68 z_typed z_text z_next_26) n x2_68 z_next_68 = some r → va_P D vwCl [(q0, oB 7 [.int z_thrown, .long z_trace, .ref q_text, .int z_typed, .int z_next_68, .int z_token, .int z_next_26, .int z_value, .int z_fault, .ref q_weight, .ref q_eats, .ref q_barred, .ref q_laws, .int z_houses, .int z_draftHouses, .ref q_s, .ref q_kept, .ref q_isKept, .ref q_years, .ref q_likely, .ref q_then, .long z_all, .ref q_row, .ref q_best]), (q_text, aI cy 300 z_text)] H → va_D A [(q0, oB 7 [.int z_thrown, .long z_trace, .ref q_text, .int z_typed, .int z_next_68, .int z_token, .int z_next_26, .int z_value, .int z_fault, .ref q_weight, .ref q_eats, .ref q_barred, .ref q_laws, .int z_houses, .int z_draftHouses, .ref q_s, .ref q_kept, .ref q_isKept, .ref q_years, .ref q_likely, .ref q_then, .long z_all, .ref q_row, .ref q_best]), (q_text, aI cy 300 z_text)] → va_S A s.heap H locs → lv_has ls 4 [(0, .ref q0), (2, .long x2_68)] → W p l e rmX7_advances s m args below meth c H locs 0 0 Q (F0 m 68 ls []) := by
          intro n
          induction n with
          | zero => intro x2_68 z_next_68 H locs ls hf; exact absurd hf (by simp [it2])
          | succ n ih68 =>
            intro x2_68 z_next_68 H locs ls hf hP hD hS hl
            have hf : X7_advances_S68 z_typed z_text z_next_26 (it2 (X7_advances_S68 z_typed z_text z_next_26) n) x2_68 z_next_68 = some r := hf
            generalize it2 (X7_advances_S68 z_typed z_text z_next_26) n = self_68 at hf ih68
            unfold X7_advances_S68 at hf
            refine lv_aload_n hx hb dX7_advances_68 rfl (lv_at hl 0 rfl) ?_
            refine lv_aload_n hx hb dX7_advances_69 rfl (lv_at hl 0 rfl) ?_
            refine va_get (D := D) (ci := 7) (v := .int z_next_68) (C := RX7) (T := TX7) (N := 24) hx hb hts kc1 hown hK hP 0 rfl rfl 4 (by decide) kw0 (fun _ h9 => h9) rfl dX7_advances_70 ?_
            obtain ⟨r_73, hr_73, hf⟩ := bd_some hf
            refine cl_i (wc := [(q0, oB 7 [.int z_thrown, .long z_trace, .ref q_text, .int z_typed, .int z_next_68, .int z_token, .int z_next_26, .int z_value, .int z_fault, .ref q_weight, .ref q_eats, .ref q_barred, .ref q_laws, .int z_houses, .int z_draftHouses, .ref q_s, .ref q_kept, .ref q_isKept, .ref q_years, .ref q_likely, .ref q_then, .long z_all, .ref q_row, .ref q_best]), (q_text, aI cy 300 z_text)]) (w1 := [(q0, oB 7 [.int z_thrown, .long z_trace, .ref q_text, .int z_typed, .int z_next_68, .int z_token, .int z_next_26, .int z_value, .int z_fault, .ref q_weight, .ref q_eats, .ref q_barred, .ref q_laws, .int z_houses, .int z_draftHouses, .ref q_s, .ref q_kept, .ref q_isKept, .ref q_years, .ref q_likely, .ref q_then, .long z_all, .ref q_row, .ref q_best]), (q_text, aI cy 300 z_text)]) (wr := []) (w2 := [(q0, oB 7 [.int z_thrown, .long z_trace, .ref q_text, .int z_typed, .int z_next_68, .int z_token, .int z_next_26, .int z_value, .int z_fault, .ref q_weight, .ref q_eats, .ref q_barred, .ref q_laws, .int z_houses, .int z_draftHouses, .ref q_s, .ref q_kept, .ref q_isKept, .ref q_years, .ref q_likely, .ref q_then, .long z_all, .ref q_row, .ref q_best]), (q_text, aI cy 300 z_text)]) (va_runV (As := [.int z_next_68]) (rest := []) ⟨hx, hb, hml, hown, hts⟩ (ktX7_byteAt l D cy q0 q_text q_weight q_eats q_barred q_laws q_s q_kept q_isKept q_years q_likely q_then q_row q_best z_thrown z_trace z_typed z_next_68 z_token z_next_26 z_value z_fault z_houses z_draftHouses z_all z_text z_next_68 r_73 hr_73 _) (cwV 1 hts gX7_advances_X7_byteAt rfl rfl rfl (by decide +kernel) ⟨Nat.le_of_ble_eq_true rfl, Nat.le_of_ble_eq_true rfl⟩) (pre_V (wc := [(q0, oB 7 [.int z_thrown, .long z_trace, .ref q_text, .int z_typed, .int z_next_68, .int z_token, .int z_next_26, .int z_value, .int z_fault, .ref q_weight, .ref q_eats, .ref q_barred, .ref q_laws, .int z_houses, .int z_draftHouses, .ref q_s, .ref q_kept, .ref q_isKept, .ref q_years, .ref q_likely, .ref q_then, .long z_all, .ref q_row, .ref q_best]), (q_text, aI cy 300 z_text)]) (ci := 7) hcx hsx hS hA hP hD [0, 1] rfl (by decide) rfl rfl) rfl rfl hl.1 rfl (lv_room (Nat.le_of_ble_eq_true rfl)) dX7_advances_73 ⟨Nat.zero_le _, Nat.zero_le _⟩) hP hD hS hA [0, 1] [] [0, 1] rfl rfl (by decide) (by decide) (by decide) rfl (fun H locs hP hD hS => ?_)
            refine lv_bipush (v := 97) hx hb dX7_advances_76 (by decide) ?_
            refine lv_bipush (v := 122) hx hb dX7_advances_78 (by decide) ?_
            obtain ⟨r_80, hr_80, hf⟩ := bd_some hf
            refine cl_i (wc := []) (w1 := []) (wr := [(q0, oB 7 [.int z_thrown, .long z_trace, .ref q_text, .int z_typed, .int z_next_68, .int z_token, .int z_next_26, .int z_value, .int z_fault, .ref q_weight, .ref q_eats, .ref q_barred, .ref q_laws, .int z_houses, .int z_draftHouses, .ref q_s, .ref q_kept, .ref q_isKept, .ref q_years, .ref q_likely, .ref q_then, .long z_all, .ref q_row, .ref q_best]), (q_text, aI cy 300 z_text)]) (w2 := [(q0, oB 7 [.int z_thrown, .long z_trace, .ref q_text, .int z_typed, .int z_next_68, .int z_token, .int z_next_26, .int z_value, .int z_fault, .ref q_weight, .ref q_eats, .ref q_barred, .ref q_laws, .int z_houses, .int z_draftHouses, .ref q_s, .ref q_kept, .ref q_isKept, .ref q_years, .ref q_likely, .ref q_then, .long z_all, .ref q_row, .ref q_best]), (q_text, aI cy 300 z_text)]) (va_runS (As := [.int r_73, .int (97 : Int32), .int (122 : Int32)]) (rest := []) ⟨hx, hb, hml, hown, hts⟩ (ktX7_in l D cy r_73 (97 : Int32) (122 : Int32) r_80 hr_80 _) (va_cwS 3 hts gX7_advances_X7_in rfl rfl rfl (by decide +kernel) ⟨Nat.le_of_ble_eq_true rfl, Nat.le_of_ble_eq_true rfl⟩) (pre_S (wc := []) hcx hsx hS hA hP hD [] rfl (by decide)) rfl rfl hl.1 rfl (lv_room (Nat.le_of_ble_eq_true rfl)) dX7_advances_80 ⟨Nat.zero_le _, Nat.zero_le _⟩) hP hD hS hA [] [0, 1] [0, 1] rfl rfl (by decide) (by decide) (by decide) rfl (fun H locs hP hD hS => ?_)
            refine lv_if_eq (tgt := 130) hx hb dX7_advances_83 (by decide) (fun hc_83 => ?_) (fun hc_83 => ?_)
            · have hf := it_t hf hc_83
              exact hJ130 x2_68 z_next_68 _ _ _ hf hP hD hS (lv_sub hl [0, 1] rfl)
            · have hf := it_f hf hc_83
              refine lv_aload_n hx hb dX7_advances_86 rfl (lv_at hl 0 rfl) ?_
              refine va_get (D := D) (ci := 7) (v := .int z_next_68) (C := RX7) (T := TX7) (N := 24) hx hb hts kc1 hown hK hP 0 rfl rfl 4 (by decide) kw0 (fun _ h9 => h9) rfl dX7_advances_87 ?_
              refine lv_aload_n hx hb dX7_advances_90 rfl (lv_at hl 0 rfl) ?_
              refine va_get (D := D) (ci := 7) (v := .int z_next_26) (C := RX7) (T := TX7) (N := 24) hx hb hts kc1 hown hK hP 0 rfl rfl 6 (by decide) kw2 (fun _ h9 => h9) rfl dX7_advances_91 ?_
              refine lv_isub hx hb dX7_advances_94 ?_
              refine lv_bipush (v := 7) hx hb dX7_advances_95 (by decide) ?_
              have hJ116 : ∀ (t0_116 : Int64) (H : Heap) (locs : List Loc) (ls : Array Slot), X7_advances_J116 z_next_68 self_68 t0_116 = some r → va_P D vwCl [(q0, oB 7 [.int z_thrown, .long z_trace, .ref q_text, .int z_typed, .int z_next_68, .int z_token, .int z_next_26, .int z_value, .int z_fault, .ref q_weight, .ref q_eats, .ref q_barred, .ref q_laws, .int z_houses, .int z_draftHouses, .ref q_s, .ref q_kept, .ref q_isKept, .ref q_years, .ref q_likely, .ref q_then, .long z_all, .ref q_row, .ref q_best]), (q_text, aI cy 300 z_text)] H → va_D A [(q0, oB 7 [.int z_thrown, .long z_trace, .ref q_text, .int z_typed, .int z_next_68, .int z_token, .int z_next_26, .int z_value, .int z_fault, .ref q_weight, .ref q_eats, .ref q_barred, .ref q_laws, .int z_houses, .int z_draftHouses, .ref q_s, .ref q_kept, .ref q_isKept, .ref q_years, .ref q_likely, .ref q_then, .long z_all, .ref q_row, .ref q_best]), (q_text, aI cy 300 z_text)] → va_S A s.heap H locs → lv_has ls 4 [(0, .ref q0)] → W p l e rmX7_advances s m args below meth c H locs 0 0 Q (F0 m 116 ls [.long t0_116]) := by
                intro t0_116 H locs ls hf hP hD hS hl
                unfold X7_advances_J116 at hf
                refine lv_lstore_n (lv' := [(2, .long t0_116), (0, .ref q0)]) hx hb dX7_advances_116 rfl hl (by decide) rfl (fun ls hl => ?_)
                refine lv_aload_n hx hb dX7_advances_117 rfl (lv_at hl 1 rfl) ?_
                refine lv_dup hx hb dX7_advances_118 rfl ?_
                refine va_get (D := D) (ci := 7) (v := .int z_next_68) (C := RX7) (T := TX7) (N := 24) hx hb hts kc1 hown hK hP 0 rfl rfl 4 (by decide) kw0 (fun _ h9 => h9) rfl dX7_advances_119 ?_
                refine lv_iconst (v := 1) hx hb dX7_advances_122 (by decide) ?_
                refine lv_iadd hx hb dX7_advances_123 ?_
                refine lv_topi (fun z_next_124 ez_next_124 => ?_)
                have hf := lets_at hf ez_next_124
                refine va_put (D := D) (ci := 7) (v := .int z_next_124) (ty := .int) (C := RX7) (T := TX7) (N := 24) hx hb hts kc1 tyX7 tyX7_ok nmX7 hown hK hP hD hS 0 rfl rfl 4 (by decide) kw0 (fun _ h9 => h9) rfl pfI rfl rfl (Nat.le_of_ble_eq_true rfl) dX7_advances_124 (fun H locs hP hD hS => ?_)
                have hP : va_P D vwCl [(q0, oB 7 [.int z_thrown, .long z_trace, .ref q_text, .int z_typed, .int z_next_124, .int z_token, .int z_next_26, .int z_value, .int z_fault, .ref q_weight, .ref q_eats, .ref q_barred, .ref q_laws, .int z_houses, .int z_draftHouses, .ref q_s, .ref q_kept, .ref q_isKept, .ref q_years, .ref q_likely, .ref q_then, .long z_all, .ref q_row, .ref q_best]), (q_text, aI cy 300 z_text)] H := hP
                have hD : va_D A [(q0, oB 7 [.int z_thrown, .long z_trace, .ref q_text, .int z_typed, .int z_next_124, .int z_token, .int z_next_26, .int z_value, .int z_fault, .ref q_weight, .ref q_eats, .ref q_barred, .ref q_laws, .int z_houses, .int z_draftHouses, .ref q_s, .ref q_kept, .ref q_isKept, .ref q_years, .ref q_likely, .ref q_then, .long z_all, .ref q_row, .ref q_best]), (q_text, aI cy 300 z_text)] := hD
                refine lv_goto (tgt := 68) hx hb dX7_advances_127 (by decide) ?_
                exact ih68 t0_116 z_next_124 _ _ _ hf hP hD hS (lv_sub hl [1, 0] rfl)
              refine lv_icmp_ge (tgt := 115) hx hb dX7_advances_97 (by decide) (fun hc_97 => ?_) (fun hc_97 => ?_)
              · have hf := it_t hf hc_97
                refine lv_lload_n hx hb dX7_advances_115 rfl (lv_at hl 1 rfl) ?_
                exact hJ116 x2_68 _ _ _ hf hP hD hS (lv_sub hl [0] rfl)
              · have hf := it_f hf hc_97
                refine lv_lload_n hx hb dX7_advances_100 rfl (lv_at hl 1 rfl) ?_
                refine lv_aload_n hx hb dX7_advances_101 rfl (lv_at hl 0 rfl) ?_
                refine lv_aload_n hx hb dX7_advances_102 rfl (lv_at hl 0 rfl) ?_
                refine va_get (D := D) (ci := 7) (v := .int z_next_68) (C := RX7) (T := TX7) (N := 24) hx hb hts kc1 hown hK hP 0 rfl rfl 4 (by decide) kw0 (fun _ h9 => h9) rfl dX7_advances_103 ?_
                obtain ⟨r_106, hr_106, hf⟩ := bd_some hf
                refine cl_i (wc := [(q0, oB 7 [.int z_thrown, .long z_trace, .ref q_text, .int z_typed, .int z_next_68, .int z_token, .int z_next_26, .int z_value, .int z_fault, .ref q_weight, .ref q_eats, .ref q_barred, .ref q_laws, .int z_houses, .int z_draftHouses, .ref q_s, .ref q_kept, .ref q_isKept, .ref q_years, .ref q_likely, .ref q_then, .long z_all, .ref q_row, .ref q_best]), (q_text, aI cy 300 z_text)]) (w1 := [(q0, oB 7 [.int z_thrown, .long z_trace, .ref q_text, .int z_typed, .int z_next_68, .int z_token, .int z_next_26, .int z_value, .int z_fault, .ref q_weight, .ref q_eats, .ref q_barred, .ref q_laws, .int z_houses, .int z_draftHouses, .ref q_s, .ref q_kept, .ref q_isKept, .ref q_years, .ref q_likely, .ref q_then, .long z_all, .ref q_row, .ref q_best]), (q_text, aI cy 300 z_text)]) (wr := []) (w2 := [(q0, oB 7 [.int z_thrown, .long z_trace, .ref q_text, .int z_typed, .int z_next_68, .int z_token, .int z_next_26, .int z_value, .int z_fault, .ref q_weight, .ref q_eats, .ref q_barred, .ref q_laws, .int z_houses, .int z_draftHouses, .ref q_s, .ref q_kept, .ref q_isKept, .ref q_years, .ref q_likely, .ref q_then, .long z_all, .ref q_row, .ref q_best]), (q_text, aI cy 300 z_text)]) (va_runV (As := [.int z_next_68]) (rest := [.long x2_68]) ⟨hx, hb, hml, hown, hts⟩ (ktX7_byteAt l D cy q0 q_text q_weight q_eats q_barred q_laws q_s q_kept q_isKept q_years q_likely q_then q_row q_best z_thrown z_trace z_typed z_next_68 z_token z_next_26 z_value z_fault z_houses z_draftHouses z_all z_text z_next_68 r_106 hr_106 _) (cwV 1 hts gX7_advances_X7_byteAt rfl rfl rfl (by decide +kernel) ⟨Nat.le_of_ble_eq_true rfl, Nat.le_of_ble_eq_true rfl⟩) (pre_V (wc := [(q0, oB 7 [.int z_thrown, .long z_trace, .ref q_text, .int z_typed, .int z_next_68, .int z_token, .int z_next_26, .int z_value, .int z_fault, .ref q_weight, .ref q_eats, .ref q_barred, .ref q_laws, .int z_houses, .int z_draftHouses, .ref q_s, .ref q_kept, .ref q_isKept, .ref q_years, .ref q_likely, .ref q_then, .long z_all, .ref q_row, .ref q_best]), (q_text, aI cy 300 z_text)]) (ci := 7) hcx hsx hS hA hP hD [0, 1] rfl (by decide) rfl rfl) rfl rfl hl.1 rfl (lv_room (Nat.le_of_ble_eq_true rfl)) dX7_advances_106 ⟨Nat.zero_le _, Nat.zero_le _⟩) hP hD hS hA [0, 1] [] [0, 1] rfl rfl (by decide) (by decide) (by decide) rfl (fun H locs hP hD hS => ?_)
                obtain ⟨r_109, hr_109, hf⟩ := bd_some hf
                refine cl_l (wc := []) (w1 := []) (wr := [(q0, oB 7 [.int z_thrown, .long z_trace, .ref q_text, .int z_typed, .int z_next_68, .int z_token, .int z_next_26, .int z_value, .int z_fault, .ref q_weight, .ref q_eats, .ref q_barred, .ref q_laws, .int z_houses, .int z_draftHouses, .ref q_s, .ref q_kept, .ref q_isKept, .ref q_years, .ref q_likely, .ref q_then, .long z_all, .ref q_row, .ref q_best]), (q_text, aI cy 300 z_text)]) (w2 := [(q0, oB 7 [.int z_thrown, .long z_trace, .ref q_text, .int z_typed, .int z_next_68, .int z_token, .int z_next_26, .int z_value, .int z_fault, .ref q_weight, .ref q_eats, .ref q_barred, .ref q_laws, .int z_houses, .int z_draftHouses, .ref q_s, .ref q_kept, .ref q_isKept, .ref q_years, .ref q_likely, .ref q_then, .long z_all, .ref q_row, .ref q_best]), (q_text, aI cy 300 z_text)]) (va_runS (As := [.long x2_68, .int r_106]) (rest := []) ⟨hx, hb, hml, hown, hts⟩ (ktX7_add l D cy x2_68 r_106 r_109 hr_109 _) (va_cwS 2 hts gX7_advances_X7_add rfl rfl rfl (by decide +kernel) ⟨Nat.le_of_ble_eq_true rfl, Nat.le_of_ble_eq_true rfl⟩) (pre_S (wc := []) hcx hsx hS hA hP hD [] rfl (by decide)) rfl rfl hl.1 rfl (lv_room (Nat.le_of_ble_eq_true rfl)) dX7_advances_109 ⟨Nat.zero_le _, Nat.zero_le _⟩) hP hD hS hA [] [0, 1] [0, 1] rfl rfl (by decide) (by decide) (by decide) rfl (fun H locs hP hD hS => ?_)
                refine lv_goto (tgt := 116) hx hb dX7_advances_112 (by decide) ?_
                exact hJ116 r_109 _ _ _ hf hP hD hS (lv_sub hl [0] rfl)
        exact hL68 _ (0 : Int64) z_next_26 _ _ _ hf hP hD hS (lv_sub hl [2, 0] rfl)
    · have hf := it_f hf hc_44
      refine lv_aload_n hx hb dX7_advances_47 rfl (lv_at hl 1 rfl) ?_
      refine lv_iconst (v := 0) hx hb dX7_advances_48 (by decide) ?_
      refine va_put (D := D) (ci := 7) (v := .int (0 : Int32)) (ty := .int) (C := RX7) (T := TX7) (N := 24) hx hb hts kc1 tyX7 tyX7_ok nmX7 hown hK hP hD hS 0 rfl rfl 5 (by decide) kw3 (fun _ h9 => h9) rfl pfI rfl rfl (Nat.le_of_ble_eq_true rfl) dX7_advances_49 (fun H locs hP hD hS => ?_)
      have hP : va_P D vwCl [(q0, oB 7 [.int z_thrown, .long z_trace, .ref q_text, .int z_typed, .int z_next_26, .int (0 : Int32), .int z_next_26, .int z_value, .int z_fault, .ref q_weight, .ref q_eats, .ref q_barred, .ref q_laws, .int z_houses, .int z_draftHouses, .ref q_s, .ref q_kept, .ref q_isKept, .ref q_years, .ref q_likely, .ref q_then, .long z_all, .ref q_row, .ref q_best]), (q_text, aI cy 300 z_text)] H := hP
      have hD : va_D A [(q0, oB 7 [.int z_thrown, .long z_trace, .ref q_text, .int z_typed, .int z_next_26, .int (0 : Int32), .int z_next_26, .int z_value, .int z_fault, .ref q_weight, .ref q_eats, .ref q_barred, .ref q_laws, .int z_houses, .int z_draftHouses, .ref q_s, .ref q_kept, .ref q_isKept, .ref q_years, .ref q_likely, .ref q_then, .long z_all, .ref q_row, .ref q_best]), (q_text, aI cy 300 z_text)] := hD
      refine lv_goto (tgt := 310) hx hb dX7_advances_52 (by decide) ?_
      exact hret' _ _ _ _ _ _ _ _ dX7_advances_310 hf hP hD hS
  have hL0 : ∀ (n : Nat) (z_next_0 : Int32) (H : Heap) (locs : List Loc) (ls : Array Slot), it1 (X7_advances_S0 z_typed z_value z_text) n z_next_0 = some r → va_P D vwCl [(q0, oB 7 [.int z_thrown, .long z_trace, .ref q_text, .int z_typed, .int z_next_0, .int z_token, .int z_place, .int z_value, .int z_fault, .ref q_weight, .ref q_eats, .ref q_barred, .ref q_laws, .int z_houses, .int z_draftHouses, .ref q_s, .ref q_kept, .ref q_isKept, .ref q_years, .ref q_likely, .ref q_then, .long z_all, .ref q_row, .ref q_best]), (q_text, aI cy 300 z_text)] H → va_D A [(q0, oB 7 [.int z_thrown, .long z_trace, .ref q_text, .int z_typed, .int z_next_0, .int z_token, .int z_place, .int z_value, .int z_fault, .ref q_weight, .ref q_eats, .ref q_barred, .ref q_laws, .int z_houses, .int z_draftHouses, .ref q_s, .ref q_kept, .ref q_isKept, .ref q_years, .ref q_likely, .ref q_then, .long z_all, .ref q_row, .ref q_best]), (q_text, aI cy 300 z_text)] → va_S A s.heap H locs → lv_has ls 4 [(0, .ref q0)] → W p l e rmX7_advances s m args below meth c H locs 0 0 Q (F0 m 0 ls []) := by
    intro n
    induction n with
    | zero => intro z_next_0 H locs ls hf; exact absurd hf (by simp [it1])
    | succ n ih0 =>
      intro z_next_0 H locs ls hf hP hD hS hl
      have hf : X7_advances_S0 z_typed z_value z_text (it1 (X7_advances_S0 z_typed z_value z_text) n) z_next_0 = some r := hf
      generalize it1 (X7_advances_S0 z_typed z_value z_text) n = self_0 at hf ih0
      unfold X7_advances_S0 at hf
      refine lv_aload_n hx hb dX7_advances_0 rfl (lv_at hl 0 rfl) ?_
      refine lv_aload_n hx hb dX7_advances_1 rfl (lv_at hl 0 rfl) ?_
      refine va_get (D := D) (ci := 7) (v := .int z_next_0) (C := RX7) (T := TX7) (N := 24) hx hb hts kc1 hown hK hP 0 rfl rfl 4 (by decide) kw0 (fun _ h9 => h9) rfl dX7_advances_2 ?_
      obtain ⟨r_5, hr_5, hf⟩ := bd_some hf
      refine cl_i (wc := [(q0, oB 7 [.int z_thrown, .long z_trace, .ref q_text, .int z_typed, .int z_next_0, .int z_token, .int z_place, .int z_value, .int z_fault, .ref q_weight, .ref q_eats, .ref q_barred, .ref q_laws, .int z_houses, .int z_draftHouses, .ref q_s, .ref q_kept, .ref q_isKept, .ref q_years, .ref q_likely, .ref q_then, .long z_all, .ref q_row, .ref q_best]), (q_text, aI cy 300 z_text)]) (w1 := [(q0, oB 7 [.int z_thrown, .long z_trace, .ref q_text, .int z_typed, .int z_next_0, .int z_token, .int z_place, .int z_value, .int z_fault, .ref q_weight, .ref q_eats, .ref q_barred, .ref q_laws, .int z_houses, .int z_draftHouses, .ref q_s, .ref q_kept, .ref q_isKept, .ref q_years, .ref q_likely, .ref q_then, .long z_all, .ref q_row, .ref q_best]), (q_text, aI cy 300 z_text)]) (wr := []) (w2 := [(q0, oB 7 [.int z_thrown, .long z_trace, .ref q_text, .int z_typed, .int z_next_0, .int z_token, .int z_place, .int z_value, .int z_fault, .ref q_weight, .ref q_eats, .ref q_barred, .ref q_laws, .int z_houses, .int z_draftHouses, .ref q_s, .ref q_kept, .ref q_isKept, .ref q_years, .ref q_likely, .ref q_then, .long z_all, .ref q_row, .ref q_best]), (q_text, aI cy 300 z_text)]) (va_runV (As := [.int z_next_0]) (rest := []) ⟨hx, hb, hml, hown, hts⟩ (ktX7_byteAt l D cy q0 q_text q_weight q_eats q_barred q_laws q_s q_kept q_isKept q_years q_likely q_then q_row q_best z_thrown z_trace z_typed z_next_0 z_token z_place z_value z_fault z_houses z_draftHouses z_all z_text z_next_0 r_5 hr_5 _) (cwV 1 hts gX7_advances_X7_byteAt rfl rfl rfl (by decide +kernel) ⟨Nat.le_of_ble_eq_true rfl, Nat.le_of_ble_eq_true rfl⟩) (pre_V (wc := [(q0, oB 7 [.int z_thrown, .long z_trace, .ref q_text, .int z_typed, .int z_next_0, .int z_token, .int z_place, .int z_value, .int z_fault, .ref q_weight, .ref q_eats, .ref q_barred, .ref q_laws, .int z_houses, .int z_draftHouses, .ref q_s, .ref q_kept, .ref q_isKept, .ref q_years, .ref q_likely, .ref q_then, .long z_all, .ref q_row, .ref q_best]), (q_text, aI cy 300 z_text)]) (ci := 7) hcx hsx hS hA hP hD [0, 1] rfl (by decide) rfl rfl) rfl rfl hl.1 rfl (lv_room (Nat.le_of_ble_eq_true rfl)) dX7_advances_5 ⟨Nat.zero_le _, Nat.zero_le _⟩) hP hD hS hA [0, 1] [] [0, 1] rfl rfl (by decide) (by decide) (by decide) rfl (fun H locs hP hD hS => ?_)
      refine lv_bipush (v := 32) hx hb dX7_advances_8 (by decide) ?_
      refine lv_icmp_ne (tgt := 26) hx hb dX7_advances_10 (by decide) (fun hc_10 => ?_) (fun hc_10 => ?_)
      · have hf := it_f hf hc_10
        exact hJ26 z_next_0 _ _ _ hf hP hD hS (lv_sub hl [0] rfl)
      · have hf := it_t hf hc_10
        refine lv_aload_n hx hb dX7_advances_13 rfl (lv_at hl 0 rfl) ?_
        refine lv_dup hx hb dX7_advances_14 rfl ?_
        refine va_get (D := D) (ci := 7) (v := .int z_next_0) (C := RX7) (T := TX7) (N := 24) hx hb hts kc1 hown hK hP 0 rfl rfl 4 (by decide) kw0 (fun _ h9 => h9) rfl dX7_advances_15 ?_
        refine lv_iconst (v := 1) hx hb dX7_advances_18 (by decide) ?_
        refine lv_iadd hx hb dX7_advances_19 ?_
        refine lv_topi (fun z_next_20 ez_next_20 => ?_)
        have hf := lets_at hf ez_next_20
        refine va_put (D := D) (ci := 7) (v := .int z_next_20) (ty := .int) (C := RX7) (T := TX7) (N := 24) hx hb hts kc1 tyX7 tyX7_ok nmX7 hown hK hP hD hS 0 rfl rfl 4 (by decide) kw0 (fun _ h9 => h9) rfl pfI rfl rfl (Nat.le_of_ble_eq_true rfl) dX7_advances_20 (fun H locs hP hD hS => ?_)
        have hP : va_P D vwCl [(q0, oB 7 [.int z_thrown, .long z_trace, .ref q_text, .int z_typed, .int z_next_20, .int z_token, .int z_place, .int z_value, .int z_fault, .ref q_weight, .ref q_eats, .ref q_barred, .ref q_laws, .int z_houses, .int z_draftHouses, .ref q_s, .ref q_kept, .ref q_isKept, .ref q_years, .ref q_likely, .ref q_then, .long z_all, .ref q_row, .ref q_best]), (q_text, aI cy 300 z_text)] H := hP
        have hD : va_D A [(q0, oB 7 [.int z_thrown, .long z_trace, .ref q_text, .int z_typed, .int z_next_20, .int z_token, .int z_place, .int z_value, .int z_fault, .ref q_weight, .ref q_eats, .ref q_barred, .ref q_laws, .int z_houses, .int z_draftHouses, .ref q_s, .ref q_kept, .ref q_isKept, .ref q_years, .ref q_likely, .ref q_then, .long z_all, .ref q_row, .ref q_best]), (q_text, aI cy 300 z_text)] := hD
        refine lv_goto (tgt := 0) hx hb dX7_advances_23 (by decide) ?_
        exact ih0 z_next_20 _ _ _ hf hP hD hS (lv_sub hl [0] rfl)
  exact hL0 _ z_next _ _ _ hf hP hD hS (lv_sub hl [0] rfl)

def fX7_isWell (z_fault : Int32) : Option Int32 := if 0 ≤ z_fault then (some (0 : Int32)) else (some (1 : Int32))
abbrev rmX7_isWell : Room := { frames := 0, cells := 0, slots := 0, locals := 0 }
set_option maxHeartbeats 4000000 in
set_option maxRecDepth 100000 in
theorem ktX7_isWell (l : Launch) (D : va_G) (cy : Nat → ClassId) (q0 : Nat) (q_text : Nat) (q_weight : Nat) (q_eats : Nat) (q_barred : Nat) (q_laws : Nat) (q_s : Nat) (q_kept : Nat) (q_isKept : Nat) (q_years : Nat) (q_likely : Nat) (q_then : Nat) (q_row : Nat) (q_best : Nat) (z_thrown : Int32) (z_trace : Int64) (z_typed : Int32) (z_next : Int32) (z_token : Int32) (z_place : Int32) (z_value : Int32) (z_fault : Int32) (z_houses : Int32) (z_draftHouses : Int32) (z_all : Int64) (r : Int32) (hf : fX7_isWell z_fault = some r) : CtI l yX7_isWell wsX7_isWell rmX7_isWell D cy [.ref q0] [(q0, oB 7 [.int z_thrown, .long z_trace, .ref q_text, .int z_typed, .int z_next, .int z_token, .int z_place, .int z_value, .int z_fault, .ref q_weight, .ref q_eats, .ref q_barred, .ref q_laws, .int z_houses, .int z_draftHouses, .ref q_s, .ref q_kept, .ref q_isKept, .ref q_years, .ref q_likely, .ref q_then, .long z_all, .ref q_row, .ref q_best])] [(q0, oB 7 [.int z_thrown, .long z_trace, .ref q_text, .int z_typed, .int z_next, .int z_token, .int z_place, .int z_value, .int z_fault, .ref q_weight, .ref q_eats, .ref q_barred, .ref q_laws, .int z_houses, .int z_draftHouses, .ref q_s, .ref q_kept, .ref q_isKept, .ref q_years, .ref q_likely, .ref q_then, .long z_all, .ref q_row, .ref q_best])] r := by
  refine Ct_ofZ (cc := cX7_isWell) (nL := 1) (by decide) rfl (Nat.le_of_ble_eq_true rfl) ?_
  intro p e s m args below meth c A Q hM hret hP hD hS ls hl
  obtain ⟨hx, hb, hml, hown, hts, hcx, hA, hsx⟩ := hM
  have hown : s.vm.findClass RX7 = some m.cls := hown
  have hK := hcx.1
  have hN := hcx.2
  have kw0 := hts (.fieldLink RX7 97 "EachBringsModel" "fault" "I") (List.mem_of_getElem? (i := 1) rfl)
  have kc1 : ∀ w ∈ wsX70, w ∈ wsX7_isWell := fun _ h => List.mem_cons_of_mem _ (List.mem_append_right _ h)
  have hl : lv_has ls 1 [(0, .ref q0)] := hl
  have hret' : ∀ (pc : Nat) (ls : Array Slot) (H : Heap) (locs : List Loc) (v : Int32), decode cX7_isWell pc = .ok (.ireturn, 1) → isB v → some v = some r → va_P D vwCl [(q0, oB 7 [.int z_thrown, .long z_trace, .ref q_text, .int z_typed, .int z_next, .int z_token, .int z_place, .int z_value, .int z_fault, .ref q_weight, .ref q_eats, .ref q_barred, .ref q_laws, .int z_houses, .int z_draftHouses, .ref q_s, .ref q_kept, .ref q_isKept, .ref q_years, .ref q_likely, .ref q_then, .long z_all, .ref q_row, .ref q_best])] H → va_D A [(q0, oB 7 [.int z_thrown, .long z_trace, .ref q_text, .int z_typed, .int z_next, .int z_token, .int z_place, .int z_value, .int z_fault, .ref q_weight, .ref q_eats, .ref q_barred, .ref q_laws, .int z_houses, .int z_draftHouses, .ref q_s, .ref q_kept, .ref q_isKept, .ref q_years, .ref q_likely, .ref q_then, .long z_all, .ref q_row, .ref q_best])] → va_S A s.heap H locs → W p l e rmX7_isWell s m args below meth c H locs 0 0 Q (F0 m pc ls [.int v]) := by
    intro pc ls H locs v hd hbv he hP hD hS
    cases he
    exact hret _ _ _ _ _ hd hbv rfl hP hD hS
  unfold fX7_isWell at hf
  refine lv_aload_n hx hb dX7_isWell_0 rfl (lv_at hl 0 rfl) ?_
  refine va_get (D := D) (ci := 7) (v := .int z_fault) (C := RX7) (T := TX7) (N := 24) hx hb hts kc1 hown hK hP 0 rfl rfl 8 (by decide) kw0 (fun _ h9 => h9) rfl dX7_isWell_1 ?_
  refine lv_if_ge (tgt := 11) hx hb dX7_isWell_4 (by decide) (fun hc_4 => ?_) (fun hc_4 => ?_)
  · have hf := it_t hf hc_4
    refine lv_iconst (v := 0) hx hb dX7_isWell_11 (by decide) ?_
    exact hret' _ _ _ _ _ dX7_isWell_12 (by decide) hf hP hD hS
  · have hf := it_f hf hc_4
    refine lv_iconst (v := 1) hx hb dX7_isWell_7 (by decide) ?_
    refine lv_goto (tgt := 12) hx hb dX7_isWell_8 (by decide) ?_
    exact hret' _ _ _ _ _ dX7_isWell_12 (by decide) hf hP hD hS

def fX7_takes (z_typed : Int32) (z_next : Int32) (z_token : Int32) (z_place : Int32) (z_value : Int32) (z_fault : Int32) (z_text : Nat → Int32) (x1 : Int32) : Option (Int32 × Int32 × Int32 × Int32 × Int32 × Int32) := (fX7_isWell z_fault).bind (fun r_1 => if r_1 = 0 then (some ((0 : Int32), z_next, z_token, z_place, z_value, z_fault)) else (if x1 = 0 then (some ((0 : Int32), z_next, z_token, z_place, z_value, z_place)) else ((fX7_advances z_typed z_next z_value z_text).bind (fun r_29 => some (z_value, r_29.1, r_29.2.1, r_29.2.2.1, r_29.2.2.2, z_fault)))))
abbrev rmX7_takes : Room := { frames := 4, cells := 0, slots := 0, locals := 92 }
set_option maxHeartbeats 4000000 in
set_option maxRecDepth 100000 in
theorem ktX7_takes (l : Launch) (D : va_G) (cy : Nat → ClassId) (q0 : Nat) (q_text : Nat) (q_weight : Nat) (q_eats : Nat) (q_barred : Nat) (q_laws : Nat) (q_s : Nat) (q_kept : Nat) (q_isKept : Nat) (q_years : Nat) (q_likely : Nat) (q_then : Nat) (q_row : Nat) (q_best : Nat) (z_thrown : Int32) (z_trace : Int64) (z_typed : Int32) (z_next : Int32) (z_token : Int32) (z_place : Int32) (z_value : Int32) (z_fault : Int32) (z_houses : Int32) (z_draftHouses : Int32) (z_all : Int64) (z_text : Nat → Int32) (x1 : Int32) (r : Int32 × Int32 × Int32 × Int32 × Int32 × Int32) (hf : fX7_takes z_typed z_next z_token z_place z_value z_fault z_text x1 = some r) : CtI l yX7_takes wsX7_takes rmX7_takes D cy [.ref q0, .int x1] [(q0, oB 7 [.int z_thrown, .long z_trace, .ref q_text, .int z_typed, .int z_next, .int z_token, .int z_place, .int z_value, .int z_fault, .ref q_weight, .ref q_eats, .ref q_barred, .ref q_laws, .int z_houses, .int z_draftHouses, .ref q_s, .ref q_kept, .ref q_isKept, .ref q_years, .ref q_likely, .ref q_then, .long z_all, .ref q_row, .ref q_best]), (q_text, aI cy 300 z_text)] [(q0, oB 7 [.int z_thrown, .long z_trace, .ref q_text, .int z_typed, .int r.2.1, .int r.2.2.1, .int r.2.2.2.1, .int r.2.2.2.2.1, .int r.2.2.2.2.2, .ref q_weight, .ref q_eats, .ref q_barred, .ref q_laws, .int z_houses, .int z_draftHouses, .ref q_s, .ref q_kept, .ref q_isKept, .ref q_years, .ref q_likely, .ref q_then, .long z_all, .ref q_row, .ref q_best]), (q_text, aI cy 300 z_text)] r.1 := by
  refine Ct_ofI (cc := cX7_takes) (nL := 3) (by decide) rfl (Nat.le_of_ble_eq_true rfl) ?_
  intro p e s m args below meth c A Q hM hret hP hD hS ls hl
  obtain ⟨hx, hb, hml, hown, hts, hcx, hA, hsx⟩ := hM
  have hown : s.vm.findClass RX7 = some m.cls := hown
  have hK := hcx.1
  have hN := hcx.2
  have kw0 := hts (.fieldLink RX7 94 "EachBringsModel" "value" "I") (List.mem_of_getElem? (i := 3) rfl)
  have kc1 : ∀ w ∈ wsX70, w ∈ wsX7_takes := fun _ h => List.mem_cons_of_mem _ (List.mem_append_right _ h)
  have kw2 := hts (.fieldLink RX7 84 "EachBringsModel" "place" "I") (List.mem_of_getElem? (i := 1) rfl)
  have kw3 := hts (.fieldLink RX7 97 "EachBringsModel" "fault" "I") (List.mem_of_getElem? (i := 2) rfl)
  have hl : lv_has ls 3 [(0, .ref q0), (1, .int x1)] := hl
  have hret' : ∀ (pc : Nat) (ls : Array Slot) (H : Heap) (locs : List Loc) (v : Int32) (w0 : Int32) (w1 : Int32) (w2 : Int32) (w3 : Int32) (w4 : Int32), decode cX7_takes pc = .ok (.ireturn, 1) → some (v, w0, w1, w2, w3, w4) = some r → va_P D vwCl [(q0, oB 7 [.int z_thrown, .long z_trace, .ref q_text, .int z_typed, .int w0, .int w1, .int w2, .int w3, .int w4, .ref q_weight, .ref q_eats, .ref q_barred, .ref q_laws, .int z_houses, .int z_draftHouses, .ref q_s, .ref q_kept, .ref q_isKept, .ref q_years, .ref q_likely, .ref q_then, .long z_all, .ref q_row, .ref q_best]), (q_text, aI cy 300 z_text)] H → va_D A [(q0, oB 7 [.int z_thrown, .long z_trace, .ref q_text, .int z_typed, .int w0, .int w1, .int w2, .int w3, .int w4, .ref q_weight, .ref q_eats, .ref q_barred, .ref q_laws, .int z_houses, .int z_draftHouses, .ref q_s, .ref q_kept, .ref q_isKept, .ref q_years, .ref q_likely, .ref q_then, .long z_all, .ref q_row, .ref q_best]), (q_text, aI cy 300 z_text)] → va_S A s.heap H locs → W p l e rmX7_takes s m args below meth c H locs 0 0 Q (F0 m pc ls [.int v]) := by
    intro pc ls H locs v w0 w1 w2 w3 w4 hd he hP hD hS
    cases he
    exact hret _ _ _ _ _ hd rfl hP hD hS
  unfold fX7_takes at hf
  refine lv_aload_n hx hb dX7_takes_0 rfl (lv_at hl 0 rfl) ?_
  obtain ⟨r_1, hr_1, hf⟩ := bd_some hf
  refine cl_i (wc := [(q0, oB 7 [.int z_thrown, .long z_trace, .ref q_text, .int z_typed, .int z_next, .int z_token, .int z_place, .int z_value, .int z_fault, .ref q_weight, .ref q_eats, .ref q_barred, .ref q_laws, .int z_houses, .int z_draftHouses, .ref q_s, .ref q_kept, .ref q_isKept, .ref q_years, .ref q_likely, .ref q_then, .long z_all, .ref q_row, .ref q_best])]) (w1 := [(q0, oB 7 [.int z_thrown, .long z_trace, .ref q_text, .int z_typed, .int z_next, .int z_token, .int z_place, .int z_value, .int z_fault, .ref q_weight, .ref q_eats, .ref q_barred, .ref q_laws, .int z_houses, .int z_draftHouses, .ref q_s, .ref q_kept, .ref q_isKept, .ref q_years, .ref q_likely, .ref q_then, .long z_all, .ref q_row, .ref q_best])]) (wr := [(q_text, aI cy 300 z_text)]) (w2 := [(q0, oB 7 [.int z_thrown, .long z_trace, .ref q_text, .int z_typed, .int z_next, .int z_token, .int z_place, .int z_value, .int z_fault, .ref q_weight, .ref q_eats, .ref q_barred, .ref q_laws, .int z_houses, .int z_draftHouses, .ref q_s, .ref q_kept, .ref q_isKept, .ref q_years, .ref q_likely, .ref q_then, .long z_all, .ref q_row, .ref q_best]), (q_text, aI cy 300 z_text)]) (va_runV (As := []) (rest := []) ⟨hx, hb, hml, hown, hts⟩ (ktX7_isWell l D cy q0 q_text q_weight q_eats q_barred q_laws q_s q_kept q_isKept q_years q_likely q_then q_row q_best z_thrown z_trace z_typed z_next z_token z_place z_value z_fault z_houses z_draftHouses z_all r_1 hr_1 _) (cwV 0 hts gX7_takes_X7_isWell rfl rfl rfl (by decide +kernel) ⟨Nat.le_of_ble_eq_true rfl, Nat.le_of_ble_eq_true rfl⟩) (pre_V (wc := [(q0, oB 7 [.int z_thrown, .long z_trace, .ref q_text, .int z_typed, .int z_next, .int z_token, .int z_place, .int z_value, .int z_fault, .ref q_weight, .ref q_eats, .ref q_barred, .ref q_laws, .int z_houses, .int z_draftHouses, .ref q_s, .ref q_kept, .ref q_isKept, .ref q_years, .ref q_likely, .ref q_then, .long z_all, .ref q_row, .ref q_best])]) (ci := 7) hcx hsx hS hA hP hD [0] rfl (by decide) rfl rfl) rfl rfl hl.1 rfl (lv_room (Nat.le_of_ble_eq_true rfl)) dX7_takes_1 ⟨Nat.zero_le _, Nat.zero_le _⟩) hP hD hS hA [0] [1] [1, 0] rfl rfl (by decide) (by decide) (by decide) rfl (fun H locs hP hD hS => ?_)
  refine lv_if_ne (tgt := 9) hx hb dX7_takes_4 (by decide) (fun hc_4 => ?_) (fun hc_4 => ?_)
  · have hf := it_f hf hc_4
    refine lv_iload_n hx hb dX7_takes_9 rfl (lv_at hl 1 rfl) ?_
    refine lv_if_ne (tgt := 23) hx hb dX7_takes_10 (by decide) (fun hc_10 => ?_) (fun hc_10 => ?_)
    · have hf := it_f hf hc_10
      refine lv_aload_n hx hb dX7_takes_23 rfl (lv_at hl 0 rfl) ?_
      refine va_get (D := D) (ci := 7) (v := .int z_value) (C := RX7) (T := TX7) (N := 24) hx hb hts kc1 hown hK hP 0 rfl rfl 7 (by decide) kw0 (fun _ h9 => h9) rfl dX7_takes_24 ?_
      refine lv_istore_n (lv' := [(2, .int z_value), (0, .ref q0), (1, .int x1)]) hx hb dX7_takes_27 rfl hl (by decide) rfl (fun ls hl => ?_)
      refine lv_aload_n hx hb dX7_takes_28 rfl (lv_at hl 1 rfl) ?_
      obtain ⟨r_29, hr_29, hf⟩ := bd_some hf
      refine cl_v (wc := [(q0, oB 7 [.int z_thrown, .long z_trace, .ref q_text, .int z_typed, .int z_next, .int z_token, .int z_place, .int z_value, .int z_fault, .ref q_weight, .ref q_eats, .ref q_barred, .ref q_laws, .int z_houses, .int z_draftHouses, .ref q_s, .ref q_kept, .ref q_isKept, .ref q_years, .ref q_likely, .ref q_then, .long z_all, .ref q_row, .ref q_best]), (q_text, aI cy 300 z_text)]) (w1 := [(q0, oB 7 [.int z_thrown, .long z_trace, .ref q_text, .int z_typed, .int r_29.1, .int r_29.2.1, .int r_29.2.2.1, .int r_29.2.2.2, .int z_fault, .ref q_weight, .ref q_eats, .ref q_barred, .ref q_laws, .int z_houses, .int z_draftHouses, .ref q_s, .ref q_kept, .ref q_isKept, .ref q_years, .ref q_likely, .ref q_then, .long z_all, .ref q_row, .ref q_best]), (q_text, aI cy 300 z_text)]) (wr := []) (w2 := [(q0, oB 7 [.int z_thrown, .long z_trace, .ref q_text, .int z_typed, .int r_29.1, .int r_29.2.1, .int r_29.2.2.1, .int r_29.2.2.2, .int z_fault, .ref q_weight, .ref q_eats, .ref q_barred, .ref q_laws, .int z_houses, .int z_draftHouses, .ref q_s, .ref q_kept, .ref q_isKept, .ref q_years, .ref q_likely, .ref q_then, .long z_all, .ref q_row, .ref q_best]), (q_text, aI cy 300 z_text)]) (va_runV (As := []) (rest := []) ⟨hx, hb, hml, hown, hts⟩ (ktX7_advances l D cy q0 q_text q_weight q_eats q_barred q_laws q_s q_kept q_isKept q_years q_likely q_then q_row q_best z_thrown z_trace z_typed z_next z_token z_place z_value z_fault z_houses z_draftHouses z_all z_text r_29 hr_29 _) (cwV 0 hts gX7_takes_X7_advances rfl rfl rfl (by decide +kernel) ⟨Nat.le_of_ble_eq_true rfl, Nat.le_of_ble_eq_true rfl⟩) (pre_V (wc := [(q0, oB 7 [.int z_thrown, .long z_trace, .ref q_text, .int z_typed, .int z_next, .int z_token, .int z_place, .int z_value, .int z_fault, .ref q_weight, .ref q_eats, .ref q_barred, .ref q_laws, .int z_houses, .int z_draftHouses, .ref q_s, .ref q_kept, .ref q_isKept, .ref q_years, .ref q_likely, .ref q_then, .long z_all, .ref q_row, .ref q_best]), (q_text, aI cy 300 z_text)]) (ci := 7) hcx hsx hS hA hP hD [0, 1] rfl (by decide) rfl rfl) rfl rfl hl.1 rfl (lv_room (Nat.le_of_ble_eq_true rfl)) dX7_takes_29 ⟨Nat.zero_le _, Nat.zero_le _⟩) hP hD hS hA [0, 1] [] [0, 1] rfl rfl (by decide) (by decide) (by decide) rfl (fun H locs hP hD hS => ?_)
      refine lv_iload_n hx hb dX7_takes_32 rfl (lv_at hl 0 rfl) ?_
      exact hret' _ _ _ _ _ _ _ _ _ _ dX7_takes_33 hf hP hD hS
    · have hf := it_t hf hc_10
      refine lv_aload_n hx hb dX7_takes_13 rfl (lv_at hl 0 rfl) ?_
      refine lv_aload_n hx hb dX7_takes_14 rfl (lv_at hl 0 rfl) ?_
      refine va_get (D := D) (ci := 7) (v := .int z_place) (C := RX7) (T := TX7) (N := 24) hx hb hts kc1 hown hK hP 0 rfl rfl 6 (by decide) kw2 (fun _ h9 => h9) rfl dX7_takes_15 ?_
      refine va_put (D := D) (ci := 7) (v := .int z_place) (ty := .int) (C := RX7) (T := TX7) (N := 24) hx hb hts kc1 tyX7 tyX7_ok nmX7 hown hK hP hD hS 0 rfl rfl 8 (by decide) kw3 (fun _ h9 => h9) rfl pfI rfl rfl (Nat.le_of_ble_eq_true rfl) dX7_takes_18 (fun H locs hP hD hS => ?_)
      have hP : va_P D vwCl [(q0, oB 7 [.int z_thrown, .long z_trace, .ref q_text, .int z_typed, .int z_next, .int z_token, .int z_place, .int z_value, .int z_place, .ref q_weight, .ref q_eats, .ref q_barred, .ref q_laws, .int z_houses, .int z_draftHouses, .ref q_s, .ref q_kept, .ref q_isKept, .ref q_years, .ref q_likely, .ref q_then, .long z_all, .ref q_row, .ref q_best]), (q_text, aI cy 300 z_text)] H := hP
      have hD : va_D A [(q0, oB 7 [.int z_thrown, .long z_trace, .ref q_text, .int z_typed, .int z_next, .int z_token, .int z_place, .int z_value, .int z_place, .ref q_weight, .ref q_eats, .ref q_barred, .ref q_laws, .int z_houses, .int z_draftHouses, .ref q_s, .ref q_kept, .ref q_isKept, .ref q_years, .ref q_likely, .ref q_then, .long z_all, .ref q_row, .ref q_best]), (q_text, aI cy 300 z_text)] := hD
      refine lv_iconst (v := 0) hx hb dX7_takes_21 (by decide) ?_
      exact hret' _ _ _ _ _ _ _ _ _ _ dX7_takes_22 hf hP hD hS
  · have hf := it_t hf hc_4
    refine lv_iconst (v := 0) hx hb dX7_takes_7 (by decide) ?_
    exact hret' _ _ _ _ _ _ _ _ _ _ dX7_takes_8 hf hP hD hS

def X7_number_J26 (z_typed : Int32) (z_next : Int32) (z_token : Int32) (z_place : Int32) (z_value : Int32) (z_fault : Int32) (z_text : Nat → Int32) (t1_26 : Int32) : Option (Int32 × Int32 × Int32 × Int32 × Int32 × Int32) := (fX7_takes z_typed z_next z_token z_place z_value z_fault z_text t1_26).bind (fun r_26 => some (r_26.1, r_26.2.1, r_26.2.2.1, r_26.2.2.2.1, r_26.2.2.2.2.1, r_26.2.2.2.2.2))
def X7_number_J25 (z_typed : Int32) (z_next : Int32) (z_token : Int32) (z_place : Int32) (z_value : Int32) (z_fault : Int32) (z_text : Nat → Int32) : Option (Int32 × Int32 × Int32 × Int32 × Int32 × Int32) := X7_number_J26 z_typed z_next z_token z_place z_value z_fault z_text (0 : Int32)
def fX7_number (z_typed : Int32) (z_next : Int32) (z_token : Int32) (z_place : Int32) (z_value : Int32) (z_fault : Int32) (z_text : Nat → Int32) (x1 : Int32) (x2 : Int32) : Option (Int32 × Int32 × Int32 × Int32 × Int32 × Int32) := if z_token = (2 : Int32) then ((fX7_in z_value x1 x2).bind (fun r_15 => if r_15 = 0 then (X7_number_J25 z_typed z_next z_token z_place z_value z_fault z_text) else (X7_number_J26 z_typed z_next z_token z_place z_value z_fault z_text (1 : Int32)))) else (X7_number_J25 z_typed z_next z_token z_place z_value z_fault z_text)
abbrev rmX7_number : Room := { frames := 5, cells := 0, slots := 0, locals := 114 }
set_option maxHeartbeats 4000000 in
set_option maxRecDepth 100000 in
theorem ktX7_number (l : Launch) (D : va_G) (cy : Nat → ClassId) (q0 : Nat) (q_text : Nat) (q_weight : Nat) (q_eats : Nat) (q_barred : Nat) (q_laws : Nat) (q_s : Nat) (q_kept : Nat) (q_isKept : Nat) (q_years : Nat) (q_likely : Nat) (q_then : Nat) (q_row : Nat) (q_best : Nat) (z_thrown : Int32) (z_trace : Int64) (z_typed : Int32) (z_next : Int32) (z_token : Int32) (z_place : Int32) (z_value : Int32) (z_fault : Int32) (z_houses : Int32) (z_draftHouses : Int32) (z_all : Int64) (z_text : Nat → Int32) (x1 : Int32) (x2 : Int32) (r : Int32 × Int32 × Int32 × Int32 × Int32 × Int32) (hf : fX7_number z_typed z_next z_token z_place z_value z_fault z_text x1 x2 = some r) : CtI l yX7_number wsX7_number rmX7_number D cy [.ref q0, .int x1, .int x2] [(q0, oB 7 [.int z_thrown, .long z_trace, .ref q_text, .int z_typed, .int z_next, .int z_token, .int z_place, .int z_value, .int z_fault, .ref q_weight, .ref q_eats, .ref q_barred, .ref q_laws, .int z_houses, .int z_draftHouses, .ref q_s, .ref q_kept, .ref q_isKept, .ref q_years, .ref q_likely, .ref q_then, .long z_all, .ref q_row, .ref q_best]), (q_text, aI cy 300 z_text)] [(q0, oB 7 [.int z_thrown, .long z_trace, .ref q_text, .int z_typed, .int r.2.1, .int r.2.2.1, .int r.2.2.2.1, .int r.2.2.2.2.1, .int r.2.2.2.2.2, .ref q_weight, .ref q_eats, .ref q_barred, .ref q_laws, .int z_houses, .int z_draftHouses, .ref q_s, .ref q_kept, .ref q_isKept, .ref q_years, .ref q_likely, .ref q_then, .long z_all, .ref q_row, .ref q_best]), (q_text, aI cy 300 z_text)] r.1 := by
  refine Ct_ofI (cc := cX7_number) (nL := 3) (by decide) rfl (Nat.le_of_ble_eq_true rfl) ?_
  intro p e s m args below meth c A Q hM hret hP hD hS ls hl
  obtain ⟨hx, hb, hml, hown, hts, hcx, hA, hsx⟩ := hM
  have hown : s.vm.findClass RX7 = some m.cls := hown
  have hK := hcx.1
  have hN := hcx.2
  have kw0 := hts (.fieldLink RX7 87 "EachBringsModel" "token" "I") (List.mem_of_getElem? (i := 1) rfl)
  have kc1 : ∀ w ∈ wsX70, w ∈ wsX7_number := fun _ h => List.mem_cons_of_mem _ (List.mem_append_right _ h)
  have kw2 := hts (.fieldLink RX7 94 "EachBringsModel" "value" "I") (List.mem_of_getElem? (i := 2) rfl)
  have hl : lv_has ls 3 [(0, .ref q0), (1, .int x1), (2, .int x2)] := hl
  have hret' : ∀ (pc : Nat) (ls : Array Slot) (H : Heap) (locs : List Loc) (v : Int32) (w0 : Int32) (w1 : Int32) (w2 : Int32) (w3 : Int32) (w4 : Int32), decode cX7_number pc = .ok (.ireturn, 1) → some (v, w0, w1, w2, w3, w4) = some r → va_P D vwCl [(q0, oB 7 [.int z_thrown, .long z_trace, .ref q_text, .int z_typed, .int w0, .int w1, .int w2, .int w3, .int w4, .ref q_weight, .ref q_eats, .ref q_barred, .ref q_laws, .int z_houses, .int z_draftHouses, .ref q_s, .ref q_kept, .ref q_isKept, .ref q_years, .ref q_likely, .ref q_then, .long z_all, .ref q_row, .ref q_best]), (q_text, aI cy 300 z_text)] H → va_D A [(q0, oB 7 [.int z_thrown, .long z_trace, .ref q_text, .int z_typed, .int w0, .int w1, .int w2, .int w3, .int w4, .ref q_weight, .ref q_eats, .ref q_barred, .ref q_laws, .int z_houses, .int z_draftHouses, .ref q_s, .ref q_kept, .ref q_isKept, .ref q_years, .ref q_likely, .ref q_then, .long z_all, .ref q_row, .ref q_best]), (q_text, aI cy 300 z_text)] → va_S A s.heap H locs → W p l e rmX7_number s m args below meth c H locs 0 0 Q (F0 m pc ls [.int v]) := by
    intro pc ls H locs v w0 w1 w2 w3 w4 hd he hP hD hS
    cases he
    exact hret _ _ _ _ _ hd rfl hP hD hS
  unfold fX7_number at hf
  refine lv_aload_n hx hb dX7_number_0 rfl (lv_at hl 0 rfl) ?_
  refine lv_aload_n hx hb dX7_number_1 rfl (lv_at hl 0 rfl) ?_
  refine va_get (D := D) (ci := 7) (v := .int z_token) (C := RX7) (T := TX7) (N := 24) hx hb hts kc1 hown hK hP 0 rfl rfl 5 (by decide) kw0 (fun _ h9 => h9) rfl dX7_number_2 ?_
  refine lv_iconst (v := 2) hx hb dX7_number_5 (by decide) ?_
  have hJ26 : ∀ (t1_26 : Int32) (H : Heap) (locs : List Loc) (ls : Array Slot), X7_number_J26 z_typed z_next z_token z_place z_value z_fault z_text t1_26 = some r → va_P D vwCl [(q0, oB 7 [.int z_thrown, .long z_trace, .ref q_text, .int z_typed, .int z_next, .int z_token, .int z_place, .int z_value, .int z_fault, .ref q_weight, .ref q_eats, .ref q_barred, .ref q_laws, .int z_houses, .int z_draftHouses, .ref q_s, .ref q_kept, .ref q_isKept, .ref q_years, .ref q_likely, .ref q_then, .long z_all, .ref q_row, .ref q_best]), (q_text, aI cy 300 z_text)] H → va_D A [(q0, oB 7 [.int z_thrown, .long z_trace, .ref q_text, .int z_typed, .int z_next, .int z_token, .int z_place, .int z_value, .int z_fault, .ref q_weight, .ref q_eats, .ref q_barred, .ref q_laws, .int z_houses, .int z_draftHouses, .ref q_s, .ref q_kept, .ref q_isKept, .ref q_years, .ref q_likely, .ref q_then, .long z_all, .ref q_row, .ref q_best]), (q_text, aI cy 300 z_text)] → va_S A s.heap H locs → lv_has ls 3 [] → W p l e rmX7_number s m args below meth c H locs 0 0 Q (F0 m 26 ls [.int t1_26, .ref q0]) := by
    intro t1_26 H locs ls hf hP hD hS hl
    unfold X7_number_J26 at hf
    obtain ⟨r_26, hr_26, hf⟩ := bd_some hf
    refine cl_i (wc := [(q0, oB 7 [.int z_thrown, .long z_trace, .ref q_text, .int z_typed, .int z_next, .int z_token, .int z_place, .int z_value, .int z_fault, .ref q_weight, .ref q_eats, .ref q_barred, .ref q_laws, .int z_houses, .int z_draftHouses, .ref q_s, .ref q_kept, .ref q_isKept, .ref q_years, .ref q_likely, .ref q_then, .long z_all, .ref q_row, .ref q_best]), (q_text, aI cy 300 z_text)]) (w1 := [(q0, oB 7 [.int z_thrown, .long z_trace, .ref q_text, .int z_typed, .int r_26.2.1, .int r_26.2.2.1, .int r_26.2.2.2.1, .int r_26.2.2.2.2.1, .int r_26.2.2.2.2.2, .ref q_weight, .ref q_eats, .ref q_barred, .ref q_laws, .int z_houses, .int z_draftHouses, .ref q_s, .ref q_kept, .ref q_isKept, .ref q_years, .ref q_likely, .ref q_then, .long z_all, .ref q_row, .ref q_best]), (q_text, aI cy 300 z_text)]) (wr := []) (w2 := [(q0, oB 7 [.int z_thrown, .long z_trace, .ref q_text, .int z_typed, .int r_26.2.1, .int r_26.2.2.1, .int r_26.2.2.2.1, .int r_26.2.2.2.2.1, .int r_26.2.2.2.2.2, .ref q_weight, .ref q_eats, .ref q_barred, .ref q_laws, .int z_houses, .int z_draftHouses, .ref q_s, .ref q_kept, .ref q_isKept, .ref q_years, .ref q_likely, .ref q_then, .long z_all, .ref q_row, .ref q_best]), (q_text, aI cy 300 z_text)]) (va_runV (As := [.int t1_26]) (rest := []) ⟨hx, hb, hml, hown, hts⟩ (ktX7_takes l D cy q0 q_text q_weight q_eats q_barred q_laws q_s q_kept q_isKept q_years q_likely q_then q_row q_best z_thrown z_trace z_typed z_next z_token z_place z_value z_fault z_houses z_draftHouses z_all z_text t1_26 r_26 hr_26 _) (cwV 1 hts gX7_number_X7_takes rfl rfl rfl (by decide +kernel) ⟨Nat.le_of_ble_eq_true rfl, Nat.le_of_ble_eq_true rfl⟩) (pre_V (wc := [(q0, oB 7 [.int z_thrown, .long z_trace, .ref q_text, .int z_typed, .int z_next, .int z_token, .int z_place, .int z_value, .int z_fault, .ref q_weight, .ref q_eats, .ref q_barred, .ref q_laws, .int z_houses, .int z_draftHouses, .ref q_s, .ref q_kept, .ref q_isKept, .ref q_years, .ref q_likely, .ref q_then, .long z_all, .ref q_row, .ref q_best]), (q_text, aI cy 300 z_text)]) (ci := 7) hcx hsx hS hA hP hD [0, 1] rfl (by decide) rfl rfl) rfl rfl hl.1 rfl (lv_room (Nat.le_of_ble_eq_true rfl)) dX7_number_26 ⟨Nat.zero_le _, Nat.zero_le _⟩) hP hD hS hA [0, 1] [] [0, 1] rfl rfl (by decide) (by decide) (by decide) rfl (fun H locs hP hD hS => ?_)
    exact hret' _ _ _ _ _ _ _ _ _ _ dX7_number_29 hf hP hD hS
  have hJ25 : ∀ (H : Heap) (locs : List Loc) (ls : Array Slot), X7_number_J25 z_typed z_next z_token z_place z_value z_fault z_text = some r → va_P D vwCl [(q0, oB 7 [.int z_thrown, .long z_trace, .ref q_text, .int z_typed, .int z_next, .int z_token, .int z_place, .int z_value, .int z_fault, .ref q_weight, .ref q_eats, .ref q_barred, .ref q_laws, .int z_houses, .int z_draftHouses, .ref q_s, .ref q_kept, .ref q_isKept, .ref q_years, .ref q_likely, .ref q_then, .long z_all, .ref q_row, .ref q_best]), (q_text, aI cy 300 z_text)] H → va_D A [(q0, oB 7 [.int z_thrown, .long z_trace, .ref q_text, .int z_typed, .int z_next, .int z_token, .int z_place, .int z_value, .int z_fault, .ref q_weight, .ref q_eats, .ref q_barred, .ref q_laws, .int z_houses, .int z_draftHouses, .ref q_s, .ref q_kept, .ref q_isKept, .ref q_years, .ref q_likely, .ref q_then, .long z_all, .ref q_row, .ref q_best]), (q_text, aI cy 300 z_text)] → va_S A s.heap H locs → lv_has ls 3 [] → W p l e rmX7_number s m args below meth c H locs 0 0 Q (F0 m 25 ls [.ref q0]) := by
    intro H locs ls hf hP hD hS hl
    unfold X7_number_J25 at hf
    refine lv_iconst (v := 0) hx hb dX7_number_25 (by decide) ?_
    exact hJ26 (0 : Int32) _ _ _ hf hP hD hS (lv_sub hl [] rfl)
  refine lv_icmp_ne (tgt := 25) hx hb dX7_number_6 (by decide) (fun hc_6 => ?_) (fun hc_6 => ?_)
  · have hf := it_f hf hc_6
    exact hJ25 _ _ _ hf hP hD hS (lv_sub hl [] rfl)
  · have hf := it_t hf hc_6
    refine lv_aload_n hx hb dX7_number_9 rfl (lv_at hl 0 rfl) ?_
    refine va_get (D := D) (ci := 7) (v := .int z_value) (C := RX7) (T := TX7) (N := 24) hx hb hts kc1 hown hK hP 0 rfl rfl 7 (by decide) kw2 (fun _ h9 => h9) rfl dX7_number_10 ?_
    refine lv_iload_n hx hb dX7_number_13 rfl (lv_at hl 1 rfl) ?_
    refine lv_iload_n hx hb dX7_number_14 rfl (lv_at hl 2 rfl) ?_
    obtain ⟨r_15, hr_15, hf⟩ := bd_some hf
    refine cl_i (wc := []) (w1 := []) (wr := [(q0, oB 7 [.int z_thrown, .long z_trace, .ref q_text, .int z_typed, .int z_next, .int z_token, .int z_place, .int z_value, .int z_fault, .ref q_weight, .ref q_eats, .ref q_barred, .ref q_laws, .int z_houses, .int z_draftHouses, .ref q_s, .ref q_kept, .ref q_isKept, .ref q_years, .ref q_likely, .ref q_then, .long z_all, .ref q_row, .ref q_best]), (q_text, aI cy 300 z_text)]) (w2 := [(q0, oB 7 [.int z_thrown, .long z_trace, .ref q_text, .int z_typed, .int z_next, .int z_token, .int z_place, .int z_value, .int z_fault, .ref q_weight, .ref q_eats, .ref q_barred, .ref q_laws, .int z_houses, .int z_draftHouses, .ref q_s, .ref q_kept, .ref q_isKept, .ref q_years, .ref q_likely, .ref q_then, .long z_all, .ref q_row, .ref q_best]), (q_text, aI cy 300 z_text)]) (va_runS (As := [.int z_value, .int x1, .int x2]) (rest := [.ref q0]) ⟨hx, hb, hml, hown, hts⟩ (ktX7_in l D cy z_value x1 x2 r_15 hr_15 _) (va_cwS 3 hts gX7_number_X7_in rfl rfl rfl (by decide +kernel) ⟨Nat.le_of_ble_eq_true rfl, Nat.le_of_ble_eq_true rfl⟩) (pre_S (wc := []) hcx hsx hS hA hP hD [] rfl (by decide)) rfl rfl hl.1 rfl (lv_room (Nat.le_of_ble_eq_true rfl)) dX7_number_15 ⟨Nat.zero_le _, Nat.zero_le _⟩) hP hD hS hA [] [0, 1] [0, 1] rfl rfl (by decide) (by decide) (by decide) rfl (fun H locs hP hD hS => ?_)
    refine lv_if_eq (tgt := 25) hx hb dX7_number_18 (by decide) (fun hc_18 => ?_) (fun hc_18 => ?_)
    · have hf := it_t hf hc_18
      exact hJ25 _ _ _ hf hP hD hS (lv_sub hl [] rfl)
    · have hf := it_f hf hc_18
      refine lv_iconst (v := 1) hx hb dX7_number_21 (by decide) ?_
      refine lv_goto (tgt := 26) hx hb dX7_number_22 (by decide) ?_
      exact hJ26 (1 : Int32) _ _ _ hf hP hD hS (lv_sub hl [] rfl)
