def X7_back_J59 (z_s_59 : Nat → Int32) : Option (Int32 × Int32 × (Nat → Int32)) := some (z_s_59 (65 : Int32).toNatClampNeg, (0 : Int32), z_s_59)
def X7_back_S30 (z_kept : Nat → Int32) (x1 : Int32) (self_30 : Int32 → (Nat → Int32) → Option (Int32 × Int32 × (Nat → Int32))) (x2_30 : Int32) (z_s_30 : Nat → Int32) : Option (Int32 × Int32 × (Nat → Int32)) := if (67 : Int32) ≤ x2_30 then (X7_back_J59 z_s_30) else (gd (okx (((67 : Int32) * x1) + x2_30) 134) (gd (okx x2_30 67) (lets (upd z_s_30 x2_30.toNatClampNeg (z_kept (((67 : Int32) * x1) + x2_30).toNatClampNeg)) (fun z_s_52 => lets (x2_30 + (1 : Int32)) (fun x2_53 => self_30 x2_53 z_s_52)))))
def fX7_back (z_s : Nat → Int32) (z_kept : Nat → Int32) (z_isKept : Nat → Int32) (x1 : Int32) : Option (Int32 × Int32 × (Nat → Int32)) := (fX7_in x1 (0 : Int32) (1 : Int32)).bind (fun r_8 => if r_8 = 0 then (some ((-1 : Int32), (0 : Int32), z_s)) else (gd (okx x1 2) (if (z_isKept x1.toNatClampNeg) = 0 then (some ((-2 : Int32), (0 : Int32), z_s)) else (it2 (X7_back_S30 z_kept x1) 100000 (0 : Int32) z_s))))
abbrev rmX7_back : Room := { frames := 1, cells := 0, slots := 0, locals := 22 }
set_option maxHeartbeats 4000000 in
set_option maxRecDepth 100000 in
theorem ktX7_back (l : Launch) (D : va_G) (cy : Nat → ClassId) (q0 : Nat) (q_text : Nat) (q_weight : Nat) (q_eats : Nat) (q_barred : Nat) (q_laws : Nat) (q_s : Nat) (q_kept : Nat) (q_isKept : Nat) (q_years : Nat) (q_likely : Nat) (q_then : Nat) (q_row : Nat) (q_best : Nat) (z_thrown : Int32) (z_trace : Int64) (z_typed : Int32) (z_next : Int32) (z_token : Int32) (z_place : Int32) (z_value : Int32) (z_fault : Int32) (z_houses : Int32) (z_draftHouses : Int32) (z_all : Int64) (z_s : Nat → Int32) (z_kept : Nat → Int32) (z_isKept : Nat → Int32) (x1 : Int32) (r : Int32 × Int32 × (Nat → Int32)) (hf : fX7_back z_s z_kept z_isKept x1 = some r) : CtI l yX7_back wsX7_back rmX7_back D cy [.ref q0, .int x1] [(q0, oB 7 [.int z_thrown, .long z_trace, .ref q_text, .int z_typed, .int z_next, .int z_token, .int z_place, .int z_value, .int z_fault, .ref q_weight, .ref q_eats, .ref q_barred, .ref q_laws, .int z_houses, .int z_draftHouses, .ref q_s, .ref q_kept, .ref q_isKept, .ref q_years, .ref q_likely, .ref q_then, .long z_all, .ref q_row, .ref q_best]), (q_s, aI cy 67 z_s), (q_kept, aI cy 134 z_kept), (q_isKept, aZ cy 2 z_isKept)] [(q0, oB 7 [.int r.2.1, .long z_trace, .ref q_text, .int z_typed, .int z_next, .int z_token, .int z_place, .int z_value, .int z_fault, .ref q_weight, .ref q_eats, .ref q_barred, .ref q_laws, .int z_houses, .int z_draftHouses, .ref q_s, .ref q_kept, .ref q_isKept, .ref q_years, .ref q_likely, .ref q_then, .long z_all, .ref q_row, .ref q_best]), (q_s, aI cy 67 r.2.2), (q_kept, aI cy 134 z_kept), (q_isKept, aZ cy 2 z_isKept)] r.1 := by
  refine Ct_ofI (cc := cX7_back) (nL := 3) (by decide) rfl (Nat.le_of_ble_eq_true rfl) ?_
  intro p e s m args below meth c A Q hM hret hP hD hS ls hl
  obtain ⟨hx, hb, hml, hown, hts, hcx, hA, hsx⟩ := hM
  have hown : s.vm.findClass RX7 = some m.cls := hown
  have hK := hcx.1
  have hN := hcx.2
  have kw0 := hts (.fieldLink RX7 54 "EachBringsModel" "thrown" "I") (List.mem_of_getElem? (i := 1) rfl)
  have kc1 : ∀ w ∈ wsX70, w ∈ wsX7_back := fun _ h => List.mem_cons_of_mem _ (List.mem_append_right _ h)
  have kw2 := hts (.fieldLink RX7 31 "EachBringsModel" "isKept" "[Z") (List.mem_of_getElem? (i := 2) rfl)
  have kw3 := hts (.fieldLink RX7 25 "EachBringsModel" "s" "[I") (List.mem_of_getElem? (i := 3) rfl)
  have kw4 := hts (.fieldLink RX7 28 "EachBringsModel" "kept" "[I") (List.mem_of_getElem? (i := 4) rfl)
  have hl : lv_has ls 3 [(0, .ref q0), (1, .int x1)] := hl
  have hret' : ∀ (pc : Nat) (ls : Array Slot) (H : Heap) (locs : List Loc) (v : Int32) (w0 : Int32) (w1 : Nat → Int32), decode cX7_back pc = .ok (.ireturn, 1) → some (v, w0, w1) = some r → va_P D vwCl [(q0, oB 7 [.int w0, .long z_trace, .ref q_text, .int z_typed, .int z_next, .int z_token, .int z_place, .int z_value, .int z_fault, .ref q_weight, .ref q_eats, .ref q_barred, .ref q_laws, .int z_houses, .int z_draftHouses, .ref q_s, .ref q_kept, .ref q_isKept, .ref q_years, .ref q_likely, .ref q_then, .long z_all, .ref q_row, .ref q_best]), (q_s, aI cy 67 w1), (q_kept, aI cy 134 z_kept), (q_isKept, aZ cy 2 z_isKept)] H → va_D A [(q0, oB 7 [.int w0, .long z_trace, .ref q_text, .int z_typed, .int z_next, .int z_token, .int z_place, .int z_value, .int z_fault, .ref q_weight, .ref q_eats, .ref q_barred, .ref q_laws, .int z_houses, .int z_draftHouses, .ref q_s, .ref q_kept, .ref q_isKept, .ref q_years, .ref q_likely, .ref q_then, .long z_all, .ref q_row, .ref q_best]), (q_s, aI cy 67 w1), (q_kept, aI cy 134 z_kept), (q_isKept, aZ cy 2 z_isKept)] → va_S A s.heap H locs → W p l e rmX7_back s m args below meth c H locs 0 0 Q (F0 m pc ls [.int v]) := by
    intro pc ls H locs v w0 w1 hd he hP hD hS
    cases he
    exact hret _ _ _ _ _ hd rfl hP hD hS
  unfold fX7_back at hf
  refine lv_aload_n hx hb dX7_back_0 rfl (lv_at hl 0 rfl) ?_
  refine lv_iconst (v := 0) hx hb dX7_back_1 (by decide) ?_
  refine va_put (D := D) (ci := 7) (v := .int (0 : Int32)) (ty := .int) (C := RX7) (T := TX7) (N := 24) hx hb hts kc1 tyX7 tyX7_ok nmX7 hown hK hP hD hS 0 rfl rfl 0 (by decide) kw0 (fun _ h9 => h9) rfl pfI rfl rfl (Nat.le_of_ble_eq_true rfl) dX7_back_2 (fun H locs hP hD hS => ?_)
  have hP : va_P D vwCl [(q0, oB 7 [.int (0 : Int32), .long z_trace, .ref q_text, .int z_typed, .int z_next, .int z_token, .int z_place, .int z_value, .int z_fault, .ref q_weight, .ref q_eats, .ref q_barred, .ref q_laws, .int z_houses, .int z_draftHouses, .ref q_s, .ref q_kept, .ref q_isKept, .ref q_years, .ref q_likely, .ref q_then, .long z_all, .ref q_row, .ref q_best]), (q_s, aI cy 67 z_s), (q_kept, aI cy 134 z_kept), (q_isKept, aZ cy 2 z_isKept)] H := hP
  have hD : va_D A [(q0, oB 7 [.int (0 : Int32), .long z_trace, .ref q_text, .int z_typed, .int z_next, .int z_token, .int z_place, .int z_value, .int z_fault, .ref q_weight, .ref q_eats, .ref q_barred, .ref q_laws, .int z_houses, .int z_draftHouses, .ref q_s, .ref q_kept, .ref q_isKept, .ref q_years, .ref q_likely, .ref q_then, .long z_all, .ref q_row, .ref q_best]), (q_s, aI cy 67 z_s), (q_kept, aI cy 134 z_kept), (q_isKept, aZ cy 2 z_isKept)] := hD
  refine lv_iload_n hx hb dX7_back_5 rfl (lv_at hl 1 rfl) ?_
  refine lv_iconst (v := 0) hx hb dX7_back_6 (by decide) ?_
  refine lv_iconst (v := 1) hx hb dX7_back_7 (by decide) ?_
  obtain ⟨r_8, hr_8, hf⟩ := bd_some hf
  refine cl_i (wc := []) (w1 := []) (wr := [(q0, oB 7 [.int (0 : Int32), .long z_trace, .ref q_text, .int z_typed, .int z_next, .int z_token, .int z_place, .int z_value, .int z_fault, .ref q_weight, .ref q_eats, .ref q_barred, .ref q_laws, .int z_houses, .int z_draftHouses, .ref q_s, .ref q_kept, .ref q_isKept, .ref q_years, .ref q_likely, .ref q_then, .long z_all, .ref q_row, .ref q_best]), (q_s, aI cy 67 z_s), (q_kept, aI cy 134 z_kept), (q_isKept, aZ cy 2 z_isKept)]) (w2 := [(q0, oB 7 [.int (0 : Int32), .long z_trace, .ref q_text, .int z_typed, .int z_next, .int z_token, .int z_place, .int z_value, .int z_fault, .ref q_weight, .ref q_eats, .ref q_barred, .ref q_laws, .int z_houses, .int z_draftHouses, .ref q_s, .ref q_kept, .ref q_isKept, .ref q_years, .ref q_likely, .ref q_then, .long z_all, .ref q_row, .ref q_best]), (q_s, aI cy 67 z_s), (q_kept, aI cy 134 z_kept), (q_isKept, aZ cy 2 z_isKept)]) (va_runS (As := [.int x1, .int (0 : Int32), .int (1 : Int32)]) (rest := []) ⟨hx, hb, hml, hown, hts⟩ (ktX7_in l D cy x1 (0 : Int32) (1 : Int32) r_8 hr_8 _) (va_cwS 3 hts gX7_back_X7_in rfl rfl rfl (by decide +kernel) ⟨Nat.le_of_ble_eq_true rfl, Nat.le_of_ble_eq_true rfl⟩) (pre_S (wc := []) hcx hsx hS hA hP hD [] rfl (by decide)) rfl rfl hl.1 rfl (lv_room (Nat.le_of_ble_eq_true rfl)) dX7_back_8 ⟨Nat.zero_le _, Nat.zero_le _⟩) hP hD hS hA [] [0, 1, 2, 3] [0, 1, 2, 3] rfl rfl (by decide) (by decide) (by decide) rfl (fun H locs hP hD hS => ?_)
  refine lv_if_ne (tgt := 16) hx hb dX7_back_11 (by decide) (fun hc_11 => ?_) (fun hc_11 => ?_)
  · have hf := it_f hf hc_11
    refine lv_aload_n hx hb dX7_back_16 rfl (lv_at hl 0 rfl) ?_
    refine va_get (D := D) (ci := 7) (v := .ref q_isKept) (C := RX7) (T := TX7) (N := 24) hx hb hts kc1 hown hK hP 0 rfl rfl 17 (by decide) kw2 (fun _ h9 => h9) rfl dX7_back_17 ?_
    refine lv_iload_n hx hb dX7_back_20 rfl (lv_at hl 1 rfl) ?_
    obtain ⟨hg_21, hf⟩ := gd_some hf
    refine va_zald hx hb hK hP 3 3 rfl rfl hg_21 dX7_back_21 ?_
    refine lv_if_ne (tgt := 28) hx hb dX7_back_22 (by decide) (fun hc_22 => ?_) (fun hc_22 => ?_)
    · have hf := it_f hf hc_22
      refine lv_iconst (v := 0) hx hb dX7_back_28 (by decide) ?_
      refine lv_istore_n (lv' := [(2, .int (0 : Int32)), (0, .ref q0), (1, .int x1)]) hx hb dX7_back_29 rfl hl (by decide) rfl (fun ls hl => ?_)
      have hJ59 : ∀ (z_s_59 : Nat → Int32) (H : Heap) (locs : List Loc) (ls : Array Slot), X7_back_J59 z_s_59 = some r → va_P D vwCl [(q0, oB 7 [.int (0 : Int32), .long z_trace, .ref q_text, .int z_typed, .int z_next, .int z_token, .int z_place, .int z_value, .int z_fault, .ref q_weight, .ref q_eats, .ref q_barred, .ref q_laws, .int z_houses, .int z_draftHouses, .ref q_s, .ref q_kept, .ref q_isKept, .ref q_years, .ref q_likely, .ref q_then, .long z_all, .ref q_row, .ref q_best]), (q_s, aI cy 67 z_s_59), (q_kept, aI cy 134 z_kept), (q_isKept, aZ cy 2 z_isKept)] H → va_D A [(q0, oB 7 [.int (0 : Int32), .long z_trace, .ref q_text, .int z_typed, .int z_next, .int z_token, .int z_place, .int z_value, .int z_fault, .ref q_weight, .ref q_eats, .ref q_barred, .ref q_laws, .int z_houses, .int z_draftHouses, .ref q_s, .ref q_kept, .ref q_isKept, .ref q_years, .ref q_likely, .ref q_then, .long z_all, .ref q_row, .ref q_best]), (q_s, aI cy 67 z_s_59), (q_kept, aI cy 134 z_kept), (q_isKept, aZ cy 2 z_isKept)] → va_S A s.heap H locs → lv_has ls 3 [(0, .ref q0)] → W p l e rmX7_back s m args below meth c H locs 0 0 Q (F0 m 59 ls []) := by
        intro z_s_59 H locs ls hf hP hD hS hl
        unfold X7_back_J59 at hf
        refine lv_aload_n hx hb dX7_back_59 rfl (lv_at hl 0 rfl) ?_
        refine va_get (D := D) (ci := 7) (v := .ref q_s) (C := RX7) (T := TX7) (N := 24) hx hb hts kc1 hown hK hP 0 rfl rfl 15 (by decide) kw3 (fun _ h9 => h9) rfl dX7_back_60 ?_
        refine lv_bipush (v := 65) hx hb dX7_back_63 (by decide) ?_
        refine va_iald hx hb hK hP 1 0 rfl rfl (by decide : okx (65 : Int32) 67) dX7_back_65 ?_
        exact hret' _ _ _ _ _ _ _ dX7_back_66 hf hP hD hS
      have hL30 : ∀ (n : Nat) (x2_30 : Int32) (z_s_30 : Nat → Int32) (H : Heap) (locs : List Loc) (ls : Array Slot), it2 (X7_back_S30 z_kept x1) n x2_30 z_s_30 = some r → va_P D vwCl [(q0, oB 7 [.int (0 : Int32), .long z_trace, .ref q_text, .int z_typed, .int z_next, .int z_token, .int z_place, .int z_value, .int z_fault, .ref q_weight, .ref q_eats, .ref q_barred, .ref q_laws, .int z_houses, .int z_draftHouses, .ref q_s, .ref q_kept, .ref q_isKept, .ref q_years, .ref q_likely, .ref q_then, .long z_all, .ref q_row, .ref q_best]), (q_s, aI cy 67 z_s_30), (q_kept, aI cy 134 z_kept), (q_isKept, aZ cy 2 z_isKept)] H → va_D A [(q0, oB 7 [.int (0 : Int32), .long z_trace, .ref q_text, .int z_typed, .int z_next, .int z_token, .int z_place, .int z_value, .int z_fault, .ref q_weight, .ref q_eats, .ref q_barred, .ref q_laws, .int z_houses, .int z_draftHouses, .ref q_s, .ref q_kept, .ref q_isKept, .ref q_years, .ref q_likely, .ref q_then, .long z_all, .ref q_row, .ref q_best]), (q_s, aI cy 67 z_s_30), (q_kept, aI cy 134 z_kept), (q_isKept, aZ cy 2 z_isKept)] → va_S A s.heap H locs → lv_has ls 3 [(0, .ref q0), (1, .int x1), (2, .int x2_30)] → W p l e rmX7_back s m args below meth c H locs 0 0 Q (F0 m 30 ls []) := by
        intro n
        induction n with
        | zero => intro x2_30 z_s_30 H locs ls hf; exact absurd hf (by simp [it2])
        | succ n ih30 =>
          intro x2_30 z_s_30 H locs ls hf hP hD hS hl
          have hf : X7_back_S30 z_kept x1 (it2 (X7_back_S30 z_kept x1) n) x2_30 z_s_30 = some r := hf
          generalize it2 (X7_back_S30 z_kept x1) n = self_30 at hf ih30
          unfold X7_back_S30 at hf
          refine lv_iload_n hx hb dX7_back_30 rfl (lv_at hl 2 rfl) ?_
          refine lv_bipush (v := 67) hx hb dX7_back_31 (by decide) ?_
          refine lv_icmp_ge (tgt := 59) hx hb dX7_back_33 (by decide) (fun hc_33 => ?_) (fun hc_33 => ?_)
          · have hf := it_t hf hc_33
            exact hJ59 z_s_30 _ _ _ hf hP hD hS (lv_sub hl [0] rfl)
          · have hf := it_f hf hc_33
            refine lv_aload_n hx hb dX7_back_36 rfl (lv_at hl 0 rfl) ?_
            refine va_get (D := D) (ci := 7) (v := .ref q_s) (C := RX7) (T := TX7) (N := 24) hx hb hts kc1 hown hK hP 0 rfl rfl 15 (by decide) kw3 (fun _ h9 => h9) rfl dX7_back_37 ?_
            refine lv_iload_n hx hb dX7_back_40 rfl (lv_at hl 2 rfl) ?_
            refine lv_aload_n hx hb dX7_back_41 rfl (lv_at hl 0 rfl) ?_
            refine va_get (D := D) (ci := 7) (v := .ref q_kept) (C := RX7) (T := TX7) (N := 24) hx hb hts kc1 hown hK hP 0 rfl rfl 16 (by decide) kw4 (fun _ h9 => h9) rfl dX7_back_42 ?_
            refine lv_bipush (v := 67) hx hb dX7_back_45 (by decide) ?_
            refine lv_iload_n hx hb dX7_back_47 rfl (lv_at hl 1 rfl) ?_
            refine lv_imul hx hb dX7_back_48 ?_
            refine lv_iload_n hx hb dX7_back_49 rfl (lv_at hl 2 rfl) ?_
            refine lv_iadd hx hb dX7_back_50 ?_
            obtain ⟨hg_51, hf⟩ := gd_some hf
            refine va_iald hx hb hK hP 2 0 rfl rfl hg_51 dX7_back_51 ?_
            obtain ⟨hg_52, hf⟩ := gd_some hf
            refine va_iast hx hb hK hP hD hS 1 0 rfl rfl hg_52 dX7_back_52 (fun H locs hP hD hS => ?_)
            obtain ⟨z_s_52, ez_s_52⟩ : ∃ y : Nat → Int32, y = upd z_s_30 x2_30.toNatClampNeg (z_kept (((67 : Int32) * x1) + x2_30).toNatClampNeg) := ⟨_, rfl⟩
            have hf := lets_at hf ez_s_52
            rw [← ez_s_52] at hP hD
            have hP : va_P D vwCl [(q0, oB 7 [.int (0 : Int32), .long z_trace, .ref q_text, .int z_typed, .int z_next, .int z_token, .int z_place, .int z_value, .int z_fault, .ref q_weight, .ref q_eats, .ref q_barred, .ref q_laws, .int z_houses, .int z_draftHouses, .ref q_s, .ref q_kept, .ref q_isKept, .ref q_years, .ref q_likely, .ref q_then, .long z_all, .ref q_row, .ref q_best]), (q_s, aI cy 67 z_s_52), (q_kept, aI cy 134 z_kept), (q_isKept, aZ cy 2 z_isKept)] H := hP
            have hD : va_D A [(q0, oB 7 [.int (0 : Int32), .long z_trace, .ref q_text, .int z_typed, .int z_next, .int z_token, .int z_place, .int z_value, .int z_fault, .ref q_weight, .ref q_eats, .ref q_barred, .ref q_laws, .int z_houses, .int z_draftHouses, .ref q_s, .ref q_kept, .ref q_isKept, .ref q_years, .ref q_likely, .ref q_then, .long z_all, .ref q_row, .ref q_best]), (q_s, aI cy 67 z_s_52), (q_kept, aI cy 134 z_kept), (q_isKept, aZ cy 2 z_isKept)] := hD
            obtain ⟨x2_53, ex2_53⟩ : ∃ y : Int32, y = x2_30 + (1 : Int32) := ⟨_, rfl⟩
            have hf := lets_at hf ex2_53
            refine lv_iinc (v := x2_53) (lv' := [(2, .int x2_53), (0, .ref q0), (1, .int x1)]) hx hb dX7_back_53 hl (k := 2) rfl (by rw [ex2_53]; rfl) (by decide) rfl (fun ls hl => ?_)
            refine lv_goto (tgt := 30) hx hb dX7_back_56 (by decide) ?_
            exact ih30 x2_53 z_s_52 _ _ _ hf hP hD hS (lv_sub hl [1, 2, 0] rfl)
      exact hL30 _ (0 : Int32) z_s _ _ _ hf hP hD hS (lv_sub hl [1, 2, 0] rfl)
    · have hf := it_t hf hc_22
      refine lv_bipush (v := -2) hx hb dX7_back_25 (by decide) ?_
      exact hret' _ _ _ _ _ _ _ dX7_back_27 hf hP hD hS
  · have hf := it_t hf hc_11
    refine lv_iconst (v := -1) hx hb dX7_back_14 (by decide) ?_
    exact hret' _ _ _ _ _ _ _ dX7_back_15 hf hP hD hS

def X7_count_J71 (z_typed : Int32) (z_houses : Int32) (z_s : Nat → Int32) (x1 : Int32) (x2_71 : Int32) (x3_71 : Int32) : Option (Int32 × Int32) := lets ((((z_s (54 : Int32).toNatClampNeg) + (z_s (55 : Int32).toNatClampNeg)) + (z_s (56 : Int32).toNatClampNeg)) + (z_s (57 : Int32).toNatClampNeg)) (fun x4_102 => if x1 = 0 then (some (z_houses, (0 : Int32))) else (if x1 = (1 : Int32) then (some (x2_71, (0 : Int32))) else (if x1 = (2 : Int32) then (some (x4_102, (0 : Int32))) else (if x1 = (3 : Int32) then (some (x3_71, (0 : Int32))) else (if x1 = (4 : Int32) then (some (z_s (65 : Int32).toNatClampNeg, (0 : Int32))) else (if x1 = (5 : Int32) then (some (z_typed, (0 : Int32))) else (some ((-1 : Int32), (0 : Int32)))))))))
def X7_count_J63 (x3_12 : Int32) (x4_12 : Int32) (self_12 : Int32 → Int32 → Int32 → Option (Int32 × Int32)) (x2_43 : Int32) (t1_63 : Int32) : Option (Int32 × Int32) := lets (x3_12 + t1_63) (fun x3_64 => lets (x4_12 + (1 : Int32)) (fun x4_65 => self_12 x2_43 x3_64 x4_65))
def X7_count_J42 (z_s : Nat → Int32) (x2_12 : Int32) (x3_12 : Int32) (x4_12 : Int32) (self_12 : Int32 → Int32 → Int32 → Option (Int32 × Int32)) (t1_42 : Int32) : Option (Int32 × Int32) := lets (x2_12 + t1_42) (fun x2_43 => gd (okx ((59 : Int32) + x4_12) 67) (if (z_s ((59 : Int32) + x4_12).toNatClampNeg) ≤ 0 then (X7_count_J63 x3_12 x4_12 self_12 x2_43 (0 : Int32)) else (X7_count_J63 x3_12 x4_12 self_12 x2_43 (1 : Int32))))
def X7_count_S12 (z_typed : Int32) (z_houses : Int32) (z_s : Nat → Int32) (x1 : Int32) (self_12 : Int32 → Int32 → Int32 → Option (Int32 × Int32)) (x2_12 : Int32) (x3_12 : Int32) (x4_12 : Int32) : Option (Int32 × Int32) := if z_houses ≤ x4_12 then (X7_count_J71 z_typed z_houses z_s x1 x2_12 x3_12) else (gd (okx ((24 : Int32) + x4_12) 67) (if (z_s ((24 : Int32) + x4_12).toNatClampNeg) = (-9 : Int32) then (X7_count_J42 z_s x2_12 x3_12 x4_12 self_12 (0 : Int32)) else (X7_count_J42 z_s x2_12 x3_12 x4_12 self_12 (1 : Int32))))
def fX7_count (z_typed : Int32) (z_houses : Int32) (z_s : Nat → Int32) (x1 : Int32) : Option (Int32 × Int32) := it3 (X7_count_S12 z_typed z_houses z_s x1) 100000 (0 : Int32) (0 : Int32) (0 : Int32)
abbrev rmX7_count : Room := { frames := 0, cells := 0, slots := 0, locals := 0 }
set_option maxHeartbeats 4000000 in
set_option maxRecDepth 100000 in
theorem ktX7_count (l : Launch) (D : va_G) (cy : Nat → ClassId) (q0 : Nat) (q_text : Nat) (q_weight : Nat) (q_eats : Nat) (q_barred : Nat) (q_laws : Nat) (q_s : Nat) (q_kept : Nat) (q_isKept : Nat) (q_years : Nat) (q_likely : Nat) (q_then : Nat) (q_row : Nat) (q_best : Nat) (z_thrown : Int32) (z_trace : Int64) (z_typed : Int32) (z_next : Int32) (z_token : Int32) (z_place : Int32) (z_value : Int32) (z_fault : Int32) (z_houses : Int32) (z_draftHouses : Int32) (z_all : Int64) (z_s : Nat → Int32) (x1 : Int32) (r : Int32 × Int32) (hf : fX7_count z_typed z_houses z_s x1 = some r) : CtI l yX7_count wsX7_count rmX7_count D cy [.ref q0, .int x1] [(q0, oB 7 [.int z_thrown, .long z_trace, .ref q_text, .int z_typed, .int z_next, .int z_token, .int z_place, .int z_value, .int z_fault, .ref q_weight, .ref q_eats, .ref q_barred, .ref q_laws, .int z_houses, .int z_draftHouses, .ref q_s, .ref q_kept, .ref q_isKept, .ref q_years, .ref q_likely, .ref q_then, .long z_all, .ref q_row, .ref q_best]), (q_s, aI cy 67 z_s)] [(q0, oB 7 [.int r.2, .long z_trace, .ref q_text, .int z_typed, .int z_next, .int z_token, .int z_place, .int z_value, .int z_fault, .ref q_weight, .ref q_eats, .ref q_barred, .ref q_laws, .int z_houses, .int z_draftHouses, .ref q_s, .ref q_kept, .ref q_isKept, .ref q_years, .ref q_likely, .ref q_then, .long z_all, .ref q_row, .ref q_best]), (q_s, aI cy 67 z_s)] r.1 := by
  refine Ct_ofI (cc := cX7_count) (nL := 5) (by decide) rfl (Nat.le_of_ble_eq_true rfl) ?_
  intro p e s m args below meth c A Q hM hret hP hD hS ls hl
  obtain ⟨hx, hb, hml, hown, hts, hcx, hA, hsx⟩ := hM
  have hown : s.vm.findClass RX7 = some m.cls := hown
  have hK := hcx.1
  have hN := hcx.2
  have kw0 := hts (.fieldLink RX7 54 "EachBringsModel" "thrown" "I") (List.mem_of_getElem? (i := 1) rfl)
  have kc1 : ∀ w ∈ wsX70, w ∈ wsX7_count := fun _ h => List.mem_cons_of_mem _ (List.mem_append_right _ h)
  have kw2 := hts (.fieldLink RX7 25 "EachBringsModel" "s" "[I") (List.mem_of_getElem? (i := 3) rfl)
  have kw3 := hts (.fieldLink RX7 62 "EachBringsModel" "typed" "I") (List.mem_of_getElem? (i := 4) rfl)
  have kw4 := hts (.fieldLink RX7 122 "EachBringsModel" "houses" "I") (List.mem_of_getElem? (i := 2) rfl)
  have hl : lv_has ls 5 [(0, .ref q0), (1, .int x1)] := hl
  have hret' : ∀ (pc : Nat) (ls : Array Slot) (H : Heap) (locs : List Loc) (v : Int32) (w0 : Int32), decode cX7_count pc = .ok (.ireturn, 1) → some (v, w0) = some r → va_P D vwCl [(q0, oB 7 [.int w0, .long z_trace, .ref q_text, .int z_typed, .int z_next, .int z_token, .int z_place, .int z_value, .int z_fault, .ref q_weight, .ref q_eats, .ref q_barred, .ref q_laws, .int z_houses, .int z_draftHouses, .ref q_s, .ref q_kept, .ref q_isKept, .ref q_years, .ref q_likely, .ref q_then, .long z_all, .ref q_row, .ref q_best]), (q_s, aI cy 67 z_s)] H → va_D A [(q0, oB 7 [.int w0, .long z_trace, .ref q_text, .int z_typed, .int z_next, .int z_token, .int z_place, .int z_value, .int z_fault, .ref q_weight, .ref q_eats, .ref q_barred, .ref q_laws, .int z_houses, .int z_draftHouses, .ref q_s, .ref q_kept, .ref q_isKept, .ref q_years, .ref q_likely, .ref q_then, .long z_all, .ref q_row, .ref q_best]), (q_s, aI cy 67 z_s)] → va_S A s.heap H locs → W p l e rmX7_count s m args below meth c H locs 0 0 Q (F0 m pc ls [.int v]) := by
    intro pc ls H locs v w0 hd he hP hD hS
    cases he
    exact hret _ _ _ _ _ hd rfl hP hD hS
  unfold fX7_count at hf
  refine lv_aload_n hx hb dX7_count_0 rfl (lv_at hl 0 rfl) ?_
  refine lv_iconst (v := 0) hx hb dX7_count_1 (by decide) ?_
  refine va_put (D := D) (ci := 7) (v := .int (0 : Int32)) (ty := .int) (C := RX7) (T := TX7) (N := 24) hx hb hts kc1 tyX7 tyX7_ok nmX7 hown hK hP hD hS 0 rfl rfl 0 (by decide) kw0 (fun _ h9 => h9) rfl pfI rfl rfl (Nat.le_of_ble_eq_true rfl) dX7_count_2 (fun H locs hP hD hS => ?_)
  have hP : va_P D vwCl [(q0, oB 7 [.int (0 : Int32), .long z_trace, .ref q_text, .int z_typed, .int z_next, .int z_token, .int z_place, .int z_value, .int z_fault, .ref q_weight, .ref q_eats, .ref q_barred, .ref q_laws, .int z_houses, .int z_draftHouses, .ref q_s, .ref q_kept, .ref q_isKept, .ref q_years, .ref q_likely, .ref q_then, .long z_all, .ref q_row, .ref q_best]), (q_s, aI cy 67 z_s)] H := hP
  have hD : va_D A [(q0, oB 7 [.int (0 : Int32), .long z_trace, .ref q_text, .int z_typed, .int z_next, .int z_token, .int z_place, .int z_value, .int z_fault, .ref q_weight, .ref q_eats, .ref q_barred, .ref q_laws, .int z_houses, .int z_draftHouses, .ref q_s, .ref q_kept, .ref q_isKept, .ref q_years, .ref q_likely, .ref q_then, .long z_all, .ref q_row, .ref q_best]), (q_s, aI cy 67 z_s)] := hD
  refine lv_iconst (v := 0) hx hb dX7_count_5 (by decide) ?_
  refine lv_istore_n (lv' := [(2, .int (0 : Int32)), (0, .ref q0), (1, .int x1)]) hx hb dX7_count_6 rfl hl (by decide) rfl (fun ls hl => ?_)
  refine lv_iconst (v := 0) hx hb dX7_count_7 (by decide) ?_
  refine lv_istore_n (lv' := [(3, .int (0 : Int32)), (2, .int (0 : Int32)), (0, .ref q0), (1, .int x1)]) hx hb dX7_count_8 rfl hl (by decide) rfl (fun ls hl => ?_)
  refine lv_iconst (v := 0) hx hb dX7_count_9 (by decide) ?_
  refine lv_istore (lv' := [(4, .int (0 : Int32)), (3, .int (0 : Int32)), (2, .int (0 : Int32)), (0, .ref q0), (1, .int x1)]) hx hb dX7_count_10 hl (by decide) rfl (fun ls hl => ?_)
  have hJ71 : ∀ (x2_71 : Int32) (x3_71 : Int32) (H : Heap) (locs : List Loc) (ls : Array Slot), X7_count_J71 z_typed z_houses z_s x1 x2_71 x3_71 = some r → va_P D vwCl [(q0, oB 7 [.int (0 : Int32), .long z_trace, .ref q_text, .int z_typed, .int z_next, .int z_token, .int z_place, .int z_value, .int z_fault, .ref q_weight, .ref q_eats, .ref q_barred, .ref q_laws, .int z_houses, .int z_draftHouses, .ref q_s, .ref q_kept, .ref q_isKept, .ref q_years, .ref q_likely, .ref q_then, .long z_all, .ref q_row, .ref q_best]), (q_s, aI cy 67 z_s)] H → va_D A [(q0, oB 7 [.int (0 : Int32), .long z_trace, .ref q_text, .int z_typed, .int z_next, .int z_token, .int z_place, .int z_value, .int z_fault, .ref q_weight, .ref q_eats, .ref q_barred, .ref q_laws, .int z_houses, .int z_draftHouses, .ref q_s, .ref q_kept, .ref q_isKept, .ref q_years, .ref q_likely, .ref q_then, .long z_all, .ref q_row, .ref q_best]), (q_s, aI cy 67 z_s)] → va_S A s.heap H locs → lv_has ls 5 [(0, .ref q0), (1, .int x1), (2, .int x2_71), (3, .int x3_71)] → W p l e rmX7_count s m args below meth c H locs 0 0 Q (F0 m 71 ls []) := by
    intro x2_71 x3_71 H locs ls hf hP hD hS hl
    unfold X7_count_J71 at hf
    refine lv_aload_n hx hb dX7_count_71 rfl (lv_at hl 0 rfl) ?_
    refine va_get (D := D) (ci := 7) (v := .ref q_s) (C := RX7) (T := TX7) (N := 24) hx hb hts kc1 hown hK hP 0 rfl rfl 15 (by decide) kw2 (fun _ h9 => h9) rfl dX7_count_72 ?_
    refine lv_bipush (v := 54) hx hb dX7_count_75 (by decide) ?_
    refine va_iald hx hb hK hP 1 0 rfl rfl (by decide : okx (54 : Int32) 67) dX7_count_77 ?_
    refine lv_aload_n hx hb dX7_count_78 rfl (lv_at hl 0 rfl) ?_
    refine va_get (D := D) (ci := 7) (v := .ref q_s) (C := RX7) (T := TX7) (N := 24) hx hb hts kc1 hown hK hP 0 rfl rfl 15 (by decide) kw2 (fun _ h9 => h9) rfl dX7_count_79 ?_
    refine lv_bipush (v := 55) hx hb dX7_count_82 (by decide) ?_
    refine va_iald hx hb hK hP 1 0 rfl rfl (by decide : okx (55 : Int32) 67) dX7_count_84 ?_
    refine lv_iadd hx hb dX7_count_85 ?_
    refine lv_aload_n hx hb dX7_count_86 rfl (lv_at hl 0 rfl) ?_
    refine va_get (D := D) (ci := 7) (v := .ref q_s) (C := RX7) (T := TX7) (N := 24) hx hb hts kc1 hown hK hP 0 rfl rfl 15 (by decide) kw2 (fun _ h9 => h9) rfl dX7_count_87 ?_
    refine lv_bipush (v := 56) hx hb dX7_count_90 (by decide) ?_
    refine va_iald hx hb hK hP 1 0 rfl rfl (by decide : okx (56 : Int32) 67) dX7_count_92 ?_
    refine lv_iadd hx hb dX7_count_93 ?_
    refine lv_aload_n hx hb dX7_count_94 rfl (lv_at hl 0 rfl) ?_
    refine va_get (D := D) (ci := 7) (v := .ref q_s) (C := RX7) (T := TX7) (N := 24) hx hb hts kc1 hown hK hP 0 rfl rfl 15 (by decide) kw2 (fun _ h9 => h9) rfl dX7_count_95 ?_
    refine lv_bipush (v := 57) hx hb dX7_count_98 (by decide) ?_
    refine va_iald hx hb hK hP 1 0 rfl rfl (by decide : okx (57 : Int32) 67) dX7_count_100 ?_
    refine lv_iadd hx hb dX7_count_101 ?_
    refine lv_topi (fun x4_102 ex4_102 => ?_)
    have hf := lets_at hf ex4_102
    refine lv_istore (lv' := [(4, .int x4_102), (0, .ref q0), (1, .int x1), (2, .int x2_71), (3, .int x3_71)]) hx hb dX7_count_102 hl (by decide) rfl (fun ls hl => ?_)
    refine lv_iload_n hx hb dX7_count_104 rfl (lv_at hl 2 rfl) ?_
    refine lv_if_ne (tgt := 115) hx hb dX7_count_105 (by decide) (fun hc_105 => ?_) (fun hc_105 => ?_)
    · have hf := it_f hf hc_105
      refine lv_iload_n hx hb dX7_count_115 rfl (lv_at hl 2 rfl) ?_
      refine lv_iconst (v := 1) hx hb dX7_count_116 (by decide) ?_
      refine lv_icmp_ne (tgt := 124) hx hb dX7_count_117 (by decide) (fun hc_117 => ?_) (fun hc_117 => ?_)
      · have hf := it_f hf hc_117
        refine lv_iload_n hx hb dX7_count_124 rfl (lv_at hl 2 rfl) ?_
        refine lv_iconst (v := 2) hx hb dX7_count_125 (by decide) ?_
        refine lv_icmp_ne (tgt := 134) hx hb dX7_count_126 (by decide) (fun hc_126 => ?_) (fun hc_126 => ?_)
        · have hf := it_f hf hc_126
          refine lv_iload_n hx hb dX7_count_134 rfl (lv_at hl 2 rfl) ?_
          refine lv_iconst (v := 3) hx hb dX7_count_135 (by decide) ?_
          refine lv_icmp_ne (tgt := 143) hx hb dX7_count_136 (by decide) (fun hc_136 => ?_) (fun hc_136 => ?_)
          · have hf := it_f hf hc_136
            refine lv_iload_n hx hb dX7_count_143 rfl (lv_at hl 2 rfl) ?_
            refine lv_iconst (v := 4) hx hb dX7_count_144 (by decide) ?_
            refine lv_icmp_ne (tgt := 158) hx hb dX7_count_145 (by decide) (fun hc_145 => ?_) (fun hc_145 => ?_)
            · have hf := it_f hf hc_145
              refine lv_iload_n hx hb dX7_count_158 rfl (lv_at hl 2 rfl) ?_
              refine lv_iconst (v := 5) hx hb dX7_count_159 (by decide) ?_
              refine lv_icmp_ne (tgt := 170) hx hb dX7_count_160 (by decide) (fun hc_160 => ?_) (fun hc_160 => ?_)
              · have hf := it_f hf hc_160
                refine lv_iconst (v := -1) hx hb dX7_count_170 (by decide) ?_
                exact hret' _ _ _ _ _ _ dX7_count_171 hf hP hD hS
              · have hf := it_t hf hc_160
                refine lv_aload_n hx hb dX7_count_163 rfl (lv_at hl 1 rfl) ?_
                refine va_get (D := D) (ci := 7) (v := .int z_typed) (C := RX7) (T := TX7) (N := 24) hx hb hts kc1 hown hK hP 0 rfl rfl 3 (by decide) kw3 (fun _ h9 => h9) rfl dX7_count_164 ?_
                refine lv_goto (tgt := 171) hx hb dX7_count_167 (by decide) ?_
                exact hret' _ _ _ _ _ _ dX7_count_171 hf hP hD hS
            · have hf := it_t hf hc_145
              refine lv_aload_n hx hb dX7_count_148 rfl (lv_at hl 1 rfl) ?_
              refine va_get (D := D) (ci := 7) (v := .ref q_s) (C := RX7) (T := TX7) (N := 24) hx hb hts kc1 hown hK hP 0 rfl rfl 15 (by decide) kw2 (fun _ h9 => h9) rfl dX7_count_149 ?_
              refine lv_bipush (v := 65) hx hb dX7_count_152 (by decide) ?_
              refine va_iald hx hb hK hP 1 0 rfl rfl (by decide : okx (65 : Int32) 67) dX7_count_154 ?_
              refine lv_goto (tgt := 171) hx hb dX7_count_155 (by decide) ?_
              exact hret' _ _ _ _ _ _ dX7_count_171 hf hP hD hS
          · have hf := it_t hf hc_136
            refine lv_iload_n hx hb dX7_count_139 rfl (lv_at hl 4 rfl) ?_
            refine lv_goto (tgt := 171) hx hb dX7_count_140 (by decide) ?_
            exact hret' _ _ _ _ _ _ dX7_count_171 hf hP hD hS
        · have hf := it_t hf hc_126
          refine lv_iload hx hb dX7_count_129 (lv_at hl 0 rfl) ?_
          refine lv_goto (tgt := 171) hx hb dX7_count_131 (by decide) ?_
          exact hret' _ _ _ _ _ _ dX7_count_171 hf hP hD hS
      · have hf := it_t hf hc_117
        refine lv_iload_n hx hb dX7_count_120 rfl (lv_at hl 3 rfl) ?_
        refine lv_goto (tgt := 171) hx hb dX7_count_121 (by decide) ?_
        exact hret' _ _ _ _ _ _ dX7_count_171 hf hP hD hS
    · have hf := it_t hf hc_105
      refine lv_aload_n hx hb dX7_count_108 rfl (lv_at hl 1 rfl) ?_
      refine va_get (D := D) (ci := 7) (v := .int z_houses) (C := RX7) (T := TX7) (N := 24) hx hb hts kc1 hown hK hP 0 rfl rfl 13 (by decide) kw4 (fun _ h9 => h9) rfl dX7_count_109 ?_
      refine lv_goto (tgt := 171) hx hb dX7_count_112 (by decide) ?_
      exact hret' _ _ _ _ _ _ dX7_count_171 hf hP hD hS
  have hL12 : ∀ (n : Nat) (x2_12 : Int32) (x3_12 : Int32) (x4_12 : Int32) (H : Heap) (locs : List Loc) (ls : Array Slot), it3 (X7_count_S12 z_typed z_houses z_s x1) n x2_12 x3_12 x4_12 = some r → va_P D vwCl [(q0, oB 7 [.int (0 : Int32), .long z_trace, .ref q_text, .int z_typed, .int z_next, .int z_token, .int z_place, .int z_value, .int z_fault, .ref q_weight, .ref q_eats, .ref q_barred, .ref q_laws, .int z_houses, .int z_draftHouses, .ref q_s, .ref q_kept, .ref q_isKept, .ref q_years, .ref q_likely, .ref q_then, .long z_all, .ref q_row, .ref q_best]), (q_s, aI cy 67 z_s)] H → va_D A [(q0, oB 7 [.int (0 : Int32), .long z_trace, .ref q_text, .int z_typed, .int z_next, .int z_token, .int z_place, .int z_value, .int z_fault, .ref q_weight, .ref q_eats, .ref q_barred, .ref q_laws, .int z_houses, .int z_draftHouses, .ref q_s, .ref q_kept, .ref q_isKept, .ref q_years, .ref q_likely, .ref q_then, .long z_all, .ref q_row, .ref q_best]), (q_s, aI cy 67 z_s)] → va_S A s.heap H locs → lv_has ls 5 [(0, .ref q0), (1, .int x1), (2, .int x2_12), (3, .int x3_12), (4, .int x4_12)] → W p l e rmX7_count s m args below meth c H locs 0 0 Q (F0 m 12 ls []) := by
    intro n
    induction n with
    | zero => intro x2_12 x3_12 x4_12 H locs ls hf; exact absurd hf (by simp [it3])
    | succ n ih12 =>
      intro x2_12 x3_12 x4_12 H locs ls hf hP hD hS hl
      have hf : X7_count_S12 z_typed z_houses z_s x1 (it3 (X7_count_S12 z_typed z_houses z_s x1) n) x2_12 x3_12 x4_12 = some r := hf
      generalize it3 (X7_count_S12 z_typed z_houses z_s x1) n = self_12 at hf ih12
      unfold X7_count_S12 at hf
      refine lv_iload hx hb dX7_count_12 (lv_at hl 4 rfl) ?_
      refine lv_aload_n hx hb dX7_count_14 rfl (lv_at hl 0 rfl) ?_
      refine va_get (D := D) (ci := 7) (v := .int z_houses) (C := RX7) (T := TX7) (N := 24) hx hb hts kc1 hown hK hP 0 rfl rfl 13 (by decide) kw4 (fun _ h9 => h9) rfl dX7_count_15 ?_
      refine lv_icmp_ge (tgt := 71) hx hb dX7_count_18 (by decide) (fun hc_18 => ?_) (fun hc_18 => ?_)
      · have hf := it_t hf hc_18
        exact hJ71 x2_12 x3_12 _ _ _ hf hP hD hS (lv_sub hl [0, 1, 2, 3] rfl)
      · have hf := it_f hf hc_18
        refine lv_iload_n hx hb dX7_count_21 rfl (lv_at hl 2 rfl) ?_
        refine lv_aload_n hx hb dX7_count_22 rfl (lv_at hl 0 rfl) ?_
        refine va_get (D := D) (ci := 7) (v := .ref q_s) (C := RX7) (T := TX7) (N := 24) hx hb hts kc1 hown hK hP 0 rfl rfl 15 (by decide) kw2 (fun _ h9 => h9) rfl dX7_count_23 ?_
        refine lv_bipush (v := 24) hx hb dX7_count_26 (by decide) ?_
        refine lv_iload hx hb dX7_count_28 (lv_at hl 4 rfl) ?_
        refine lv_iadd hx hb dX7_count_30 ?_
        obtain ⟨hg_31, hf⟩ := gd_some hf
        refine va_iald hx hb hK hP 1 0 rfl rfl hg_31 dX7_count_31 ?_
        refine lv_bipush (v := -9) hx hb dX7_count_32 (by decide) ?_
        have hJ42 : ∀ (t1_42 : Int32) (H : Heap) (locs : List Loc) (ls : Array Slot), X7_count_J42 z_s x2_12 x3_12 x4_12 self_12 t1_42 = some r → va_P D vwCl [(q0, oB 7 [.int (0 : Int32), .long z_trace, .ref q_text, .int z_typed, .int z_next, .int z_token, .int z_place, .int z_value, .int z_fault, .ref q_weight, .ref q_eats, .ref q_barred, .ref q_laws, .int z_houses, .int z_draftHouses, .ref q_s, .ref q_kept, .ref q_isKept, .ref q_years, .ref q_likely, .ref q_then, .long z_all, .ref q_row, .ref q_best]), (q_s, aI cy 67 z_s)] H → va_D A [(q0, oB 7 [.int (0 : Int32), .long z_trace, .ref q_text, .int z_typed, .int z_next, .int z_token, .int z_place, .int z_value, .int z_fault, .ref q_weight, .ref q_eats, .ref q_barred, .ref q_laws, .int z_houses, .int z_draftHouses, .ref q_s, .ref q_kept, .ref q_isKept, .ref q_years, .ref q_likely, .ref q_then, .long z_all, .ref q_row, .ref q_best]), (q_s, aI cy 67 z_s)] → va_S A s.heap H locs → lv_has ls 5 [(0, .ref q0), (1, .int x1), (3, .int x3_12), (4, .int x4_12)] → W p l e rmX7_count s m args below meth c H locs 0 0 Q (F0 m 42 ls [.int t1_42, .int x2_12]) := by
          intro t1_42 H locs ls hf hP hD hS hl
          unfold X7_count_J42 at hf
          refine lv_iadd hx hb dX7_count_42 ?_
          refine lv_topi (fun x2_43 ex2_43 => ?_)
          have hf := lets_at hf ex2_43
          refine lv_istore_n (lv' := [(2, .int x2_43), (0, .ref q0), (1, .int x1), (3, .int x3_12), (4, .int x4_12)]) hx hb dX7_count_43 rfl hl (by decide) rfl (fun ls hl => ?_)
          refine lv_iload_n hx hb dX7_count_44 rfl (lv_at hl 3 rfl) ?_
          refine lv_aload_n hx hb dX7_count_45 rfl (lv_at hl 1 rfl) ?_
          refine va_get (D := D) (ci := 7) (v := .ref q_s) (C := RX7) (T := TX7) (N := 24) hx hb hts kc1 hown hK hP 0 rfl rfl 15 (by decide) kw2 (fun _ h9 => h9) rfl dX7_count_46 ?_
          refine lv_bipush (v := 59) hx hb dX7_count_49 (by decide) ?_
          refine lv_iload hx hb dX7_count_51 (lv_at hl 4 rfl) ?_
          refine lv_iadd hx hb dX7_count_53 ?_
          obtain ⟨hg_54, hf⟩ := gd_some hf
          refine va_iald hx hb hK hP 1 0 rfl rfl hg_54 dX7_count_54 ?_
          have hJ63 : ∀ (t1_63 : Int32) (H : Heap) (locs : List Loc) (ls : Array Slot), X7_count_J63 x3_12 x4_12 self_12 x2_43 t1_63 = some r → va_P D vwCl [(q0, oB 7 [.int (0 : Int32), .long z_trace, .ref q_text, .int z_typed, .int z_next, .int z_token, .int z_place, .int z_value, .int z_fault, .ref q_weight, .ref q_eats, .ref q_barred, .ref q_laws, .int z_houses, .int z_draftHouses, .ref q_s, .ref q_kept, .ref q_isKept, .ref q_years, .ref q_likely, .ref q_then, .long z_all, .ref q_row, .ref q_best]), (q_s, aI cy 67 z_s)] H → va_D A [(q0, oB 7 [.int (0 : Int32), .long z_trace, .ref q_text, .int z_typed, .int z_next, .int z_token, .int z_place, .int z_value, .int z_fault, .ref q_weight, .ref q_eats, .ref q_barred, .ref q_laws, .int z_houses, .int z_draftHouses, .ref q_s, .ref q_kept, .ref q_isKept, .ref q_years, .ref q_likely, .ref q_then, .long z_all, .ref q_row, .ref q_best]), (q_s, aI cy 67 z_s)] → va_S A s.heap H locs → lv_has ls 5 [(0, .ref q0), (1, .int x1), (2, .int x2_43), (4, .int x4_12)] → W p l e rmX7_count s m args below meth c H locs 0 0 Q (F0 m 63 ls [.int t1_63, .int x3_12]) := by
            intro t1_63 H locs ls hf hP hD hS hl
            unfold X7_count_J63 at hf
            refine lv_iadd hx hb dX7_count_63 ?_
            refine lv_topi (fun x3_64 ex3_64 => ?_)
            have hf := lets_at hf ex3_64
            refine lv_istore_n (lv' := [(3, .int x3_64), (0, .ref q0), (1, .int x1), (2, .int x2_43), (4, .int x4_12)]) hx hb dX7_count_64 rfl hl (by decide) rfl (fun ls hl => ?_)
            obtain ⟨x4_65, ex4_65⟩ : ∃ y : Int32, y = x4_12 + (1 : Int32) := ⟨_, rfl⟩
            have hf := lets_at hf ex4_65
            refine lv_iinc (v := x4_65) (lv' := [(4, .int x4_65), (3, .int x3_64), (0, .ref q0), (1, .int x1), (2, .int x2_43)]) hx hb dX7_count_65 hl (k := 4) rfl (by rw [ex4_65]; rfl) (by decide) rfl (fun ls hl => ?_)
            refine lv_goto (tgt := 12) hx hb dX7_count_68 (by decide) ?_
            exact ih12 x2_43 x3_64 x4_65 _ _ _ hf hP hD hS (lv_sub hl [2, 3, 4, 1, 0] rfl)
          refine lv_if_le (tgt := 62) hx hb dX7_count_55 (by decide) (fun hc_55 => ?_) (fun hc_55 => ?_)
          · have hf := it_t hf hc_55
            refine lv_iconst (v := 0) hx hb dX7_count_62 (by decide) ?_
            exact hJ63 (0 : Int32) _ _ _ hf hP hD hS (lv_sub hl [1, 2, 0, 4] rfl)
          · have hf := it_f hf hc_55
            refine lv_iconst (v := 1) hx hb dX7_count_58 (by decide) ?_
            refine lv_goto (tgt := 63) hx hb dX7_count_59 (by decide) ?_
            exact hJ63 (1 : Int32) _ _ _ hf hP hD hS (lv_sub hl [1, 2, 0, 4] rfl)
        refine lv_icmp_eq (tgt := 41) hx hb dX7_count_34 (by decide) (fun hc_34 => ?_) (fun hc_34 => ?_)
        · have hf := it_t hf hc_34
          refine lv_iconst (v := 0) hx hb dX7_count_41 (by decide) ?_
          exact hJ42 (0 : Int32) _ _ _ hf hP hD hS (lv_sub hl [0, 1, 3, 4] rfl)
        · have hf := it_f hf hc_34
          refine lv_iconst (v := 1) hx hb dX7_count_37 (by decide) ?_
          refine lv_goto (tgt := 42) hx hb dX7_count_38 (by decide) ?_
          exact hJ42 (1 : Int32) _ _ _ hf hP hD hS (lv_sub hl [0, 1, 3, 4] rfl)
  exact hL12 _ (0 : Int32) (0 : Int32) (0 : Int32) _ _ _ hf hP hD hS (lv_sub hl [3, 4, 2, 1, 0] rfl)

def fX7_trace (z_trace : Int64) : Option (Int64 × Int32) := some (z_trace, (0 : Int32))
abbrev rmX7_trace : Room := { frames := 0, cells := 0, slots := 0, locals := 0 }
set_option maxHeartbeats 4000000 in
set_option maxRecDepth 100000 in
theorem ktX7_trace (l : Launch) (D : va_G) (cy : Nat → ClassId) (q0 : Nat) (q_text : Nat) (q_weight : Nat) (q_eats : Nat) (q_barred : Nat) (q_laws : Nat) (q_s : Nat) (q_kept : Nat) (q_isKept : Nat) (q_years : Nat) (q_likely : Nat) (q_then : Nat) (q_row : Nat) (q_best : Nat) (z_thrown : Int32) (z_trace : Int64) (z_typed : Int32) (z_next : Int32) (z_token : Int32) (z_place : Int32) (z_value : Int32) (z_fault : Int32) (z_houses : Int32) (z_draftHouses : Int32) (z_all : Int64) (r : Int64 × Int32) (hf : fX7_trace z_trace = some r) : CtL l yX7_trace wsX7_trace rmX7_trace D cy [.ref q0] [(q0, oB 7 [.int z_thrown, .long z_trace, .ref q_text, .int z_typed, .int z_next, .int z_token, .int z_place, .int z_value, .int z_fault, .ref q_weight, .ref q_eats, .ref q_barred, .ref q_laws, .int z_houses, .int z_draftHouses, .ref q_s, .ref q_kept, .ref q_isKept, .ref q_years, .ref q_likely, .ref q_then, .long z_all, .ref q_row, .ref q_best])] [(q0, oB 7 [.int r.2, .long z_trace, .ref q_text, .int z_typed, .int z_next, .int z_token, .int z_place, .int z_value, .int z_fault, .ref q_weight, .ref q_eats, .ref q_barred, .ref q_laws, .int z_houses, .int z_draftHouses, .ref q_s, .ref q_kept, .ref q_isKept, .ref q_years, .ref q_likely, .ref q_then, .long z_all, .ref q_row, .ref q_best])] r.1 := by
  refine Ct_ofL (cc := cX7_trace) (nL := 1) (by decide) rfl (Nat.le_of_ble_eq_true rfl) ?_
  intro p e s m args below meth c A Q hM hret hP hD hS ls hl
  obtain ⟨hx, hb, hml, hown, hts, hcx, hA, hsx⟩ := hM
  have hown : s.vm.findClass RX7 = some m.cls := hown
  have hK := hcx.1
  have hN := hcx.2
  have kw0 := hts (.fieldLink RX7 54 "EachBringsModel" "thrown" "I") (List.mem_of_getElem? (i := 1) rfl)
  have kc1 : ∀ w ∈ wsX70, w ∈ wsX7_trace := fun _ h => List.mem_cons_of_mem _ (List.mem_append_right _ h)
  have kw2 := hts (.fieldLink RX7 210 "EachBringsModel" "trace" "J") (List.mem_of_getElem? (i := 2) rfl)
  have hl : lv_has ls 1 [(0, .ref q0)] := hl
  have hret' : ∀ (pc : Nat) (ls : Array Slot) (H : Heap) (locs : List Loc) (v : Int64) (w0 : Int32), decode cX7_trace pc = .ok (.lreturn, 1) → some (v, w0) = some r → va_P D vwCl [(q0, oB 7 [.int w0, .long z_trace, .ref q_text, .int z_typed, .int z_next, .int z_token, .int z_place, .int z_value, .int z_fault, .ref q_weight, .ref q_eats, .ref q_barred, .ref q_laws, .int z_houses, .int z_draftHouses, .ref q_s, .ref q_kept, .ref q_isKept, .ref q_years, .ref q_likely, .ref q_then, .long z_all, .ref q_row, .ref q_best])] H → va_D A [(q0, oB 7 [.int w0, .long z_trace, .ref q_text, .int z_typed, .int z_next, .int z_token, .int z_place, .int z_value, .int z_fault, .ref q_weight, .ref q_eats, .ref q_barred, .ref q_laws, .int z_houses, .int z_draftHouses, .ref q_s, .ref q_kept, .ref q_isKept, .ref q_years, .ref q_likely, .ref q_then, .long z_all, .ref q_row, .ref q_best])] → va_S A s.heap H locs → W p l e rmX7_trace s m args below meth c H locs 0 0 Q (F0 m pc ls [.long v]) := by
    intro pc ls H locs v w0 hd he hP hD hS
    cases he
    exact hret _ _ _ _ _ hd rfl hP hD hS
  unfold fX7_trace at hf
  refine lv_aload_n hx hb dX7_trace_0 rfl (lv_at hl 0 rfl) ?_
  refine lv_iconst (v := 0) hx hb dX7_trace_1 (by decide) ?_
  refine va_put (D := D) (ci := 7) (v := .int (0 : Int32)) (ty := .int) (C := RX7) (T := TX7) (N := 24) hx hb hts kc1 tyX7 tyX7_ok nmX7 hown hK hP hD hS 0 rfl rfl 0 (by decide) kw0 (fun _ h9 => h9) rfl pfI rfl rfl (Nat.le_of_ble_eq_true rfl) dX7_trace_2 (fun H locs hP hD hS => ?_)
  have hP : va_P D vwCl [(q0, oB 7 [.int (0 : Int32), .long z_trace, .ref q_text, .int z_typed, .int z_next, .int z_token, .int z_place, .int z_value, .int z_fault, .ref q_weight, .ref q_eats, .ref q_barred, .ref q_laws, .int z_houses, .int z_draftHouses, .ref q_s, .ref q_kept, .ref q_isKept, .ref q_years, .ref q_likely, .ref q_then, .long z_all, .ref q_row, .ref q_best])] H := hP
  have hD : va_D A [(q0, oB 7 [.int (0 : Int32), .long z_trace, .ref q_text, .int z_typed, .int z_next, .int z_token, .int z_place, .int z_value, .int z_fault, .ref q_weight, .ref q_eats, .ref q_barred, .ref q_laws, .int z_houses, .int z_draftHouses, .ref q_s, .ref q_kept, .ref q_isKept, .ref q_years, .ref q_likely, .ref q_then, .long z_all, .ref q_row, .ref q_best])] := hD
  refine lv_aload_n hx hb dX7_trace_5 rfl (lv_at hl 0 rfl) ?_
  refine va_get (D := D) (ci := 7) (v := .long z_trace) (C := RX7) (T := TX7) (N := 24) hx hb hts kc1 hown hK hP 0 rfl rfl 1 (by decide) kw2 (fun _ h9 => h9) rfl dX7_trace_6 ?_
  exact hret' _ _ _ _ _ _ dX7_trace_9 hf hP hD hS
