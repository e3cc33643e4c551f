def X7_shared_J117 (x2_10 : Int32) (self_10 : Int32 → Int32 → Option (Int32 × Int32)) (t0_117 : Int32) : Option (Int32 × Int32) := lets (x2_10 + (1 : Int32)) (fun x2_118 => self_10 t0_117 x2_118)
def X7_shared_J112 (x2_10 : Int32) (self_10 : Int32 → Int32 → Option (Int32 × Int32)) (x3_101 : Int32) : Option (Int32 × Int32) := X7_shared_J117 x2_10 self_10 x3_101
def X7_shared_J101 (x1_10 : Int32) (x2_10 : Int32) (self_10 : Int32 → Int32 → Option (Int32 × Int32)) (x3_101 : Int32) : Option (Int32 × Int32) := if x1_10 = (-9 : Int32) then (X7_shared_J112 x2_10 self_10 x3_101) else (if x1_10 ≤ x3_101 then (X7_shared_J117 x2_10 self_10 x1_10) else (X7_shared_J112 x2_10 self_10 x3_101))
def X7_shared_J93 (x3_58 : Int32) (x4_58 : Int32) (self_58 : Int32 → Int32 → Option (Int32 × Int32)) (t1_93 : Int32) : Option (Int32 × Int32) := lets (x3_58 + t1_93) (fun x3_94 => lets (x4_58 + (1 : Int32)) (fun x4_95 => self_58 x3_94 x4_95))
def X7_shared_S58 (z_houses : Int32) (z_eats : Nat → Int32) (z_barred : Nat → Int32) (x1_10 : Int32) (x2_10 : Int32) (self_10 : Int32 → Int32 → Option (Int32 × Int32)) (self_58 : Int32 → Int32 → Option (Int32 × Int32)) (x3_58 : Int32) (x4_58 : Int32) : Option (Int32 × Int32) := if z_houses ≤ x4_58 then (X7_shared_J101 x1_10 x2_10 self_10 x3_58) else (gd (okx x4_58 12) (if (x2_10 &&& ((z_barred x4_58.toNatClampNeg) ^^^ (-1 : Int32))) = 0 then (X7_shared_J93 x3_58 x4_58 self_58 (0 : Int32)) else (gd (okx x4_58 12) (X7_shared_J93 x3_58 x4_58 self_58 (z_eats x4_58.toNatClampNeg)))))
def X7_shared_J55 (z_houses : Int32) (z_eats : Nat → Int32) (z_barred : Nat → Int32) (x1_10 : Int32) (x2_10 : Int32) (self_10 : Int32 → Int32 → Option (Int32 × Int32)) (x3_55 : Int32) : Option (Int32 × Int32) := it2 (X7_shared_S58 z_houses z_eats z_barred x1_10 x2_10 self_10) 100000 x3_55 (0 : Int32)
def X7_shared_J47 (x3_21 : Int32) (x4_21 : Int32) (self_21 : Int32 → Int32 → Option (Int32 × Int32)) (t1_47 : Int32) : Option (Int32 × Int32) := lets (x3_21 + t1_47) (fun x3_48 => lets (x4_21 + (1 : Int32)) (fun x4_49 => self_21 x3_48 x4_49))
def X7_shared_S21 (z_houses : Int32) (z_eats : Nat → Int32) (z_barred : Nat → Int32) (z_laws : Nat → Int32) (z_s : Nat → Int32) (x1_10 : Int32) (x2_10 : Int32) (self_10 : Int32 → Int32 → Option (Int32 × Int32)) (self_21 : Int32 → Int32 → Option (Int32 × Int32)) (x3_21 : Int32) (x4_21 : Int32) : Option (Int32 × Int32) := if (4 : Int32) ≤ x4_21 then (X7_shared_J55 z_houses z_eats z_barred x1_10 x2_10 self_10 x3_21) else (if ((x2_10 >>> (x4_21 &&& 31)) &&& (1 : Int32)) = 0 then ((fX7_spoonsOf z_houses z_eats z_laws z_s x4_21).bind (fun r_40 => X7_shared_J47 x3_21 x4_21 self_21 r_40)) else (X7_shared_J47 x3_21 x4_21 self_21 (0 : Int32)))
def X7_shared_S10 (z_houses : Int32) (z_eats : Nat → Int32) (z_barred : Nat → Int32) (z_laws : Nat → Int32) (z_s : Nat → Int32) (self_10 : Int32 → Int32 → Option (Int32 × Int32)) (x1_10 : Int32) (x2_10 : Int32) : Option (Int32 × Int32) := if (16 : Int32) ≤ x2_10 then (some (x1_10, (0 : Int32))) else (it2 (X7_shared_S21 z_houses z_eats z_barred z_laws z_s x1_10 x2_10 self_10) 100000 (0 : Int32) (0 : Int32))
def fX7_shared (z_houses : Int32) (z_eats : Nat → Int32) (z_barred : Nat → Int32) (z_laws : Nat → Int32) (z_s : Nat → Int32) : Option (Int32 × Int32) := it2 (X7_shared_S10 z_houses z_eats z_barred z_laws z_s) 100000 (-9 : Int32) (0 : Int32)
abbrev rmX7_shared : Room := { frames := 1, cells := 0, slots := 0, locals := 23 }
set_option maxHeartbeats 4000000 in
set_option maxRecDepth 100000 in
theorem ktX7_shared (l : Launch) (D : va_G) (cy : Nat → ClassId) (q0 : Nat) (q_text : Nat) (q_weight : Nat) (q_eats : Nat) (q_barred : Nat) (q_laws : Nat) (q_s : Nat) (q_kept : Nat) (q_isKept : Nat) (q_years : Nat) (q_likely : Nat) (q_then : Nat) (q_row : Nat) (q_best : Nat) (z_thrown : Int32) (z_trace : Int64) (z_typed : Int32) (z_next : Int32) (z_token : Int32) (z_place : Int32) (z_value : Int32) (z_fault : Int32) (z_houses : Int32) (z_draftHouses : Int32) (z_all : Int64) (z_eats : Nat → Int32) (z_barred : Nat → Int32) (z_laws : Nat → Int32) (z_s : Nat → Int32) (r : Int32 × Int32) (hf : fX7_shared z_houses z_eats z_barred z_laws z_s = some r) : CtI l yX7_shared wsX7_shared rmX7_shared D cy [.ref q0] [(q0, oB 7 [.int z_thrown, .long z_trace, .ref q_text, .int z_typed, .int z_next, .int z_token, .int z_place, .int z_value, .int z_fault, .ref q_weight, .ref q_eats, .ref q_barred, .ref q_laws, .int z_houses, .int z_draftHouses, .ref q_s, .ref q_kept, .ref q_isKept, .ref q_years, .ref q_likely, .ref q_then, .long z_all, .ref q_row, .ref q_best]), (q_eats, aI cy 12 z_eats), (q_barred, aI cy 12 z_barred), (q_laws, aI cy 6 z_laws), (q_s, aI cy 67 z_s)] [(q0, oB 7 [.int r.2, .long z_trace, .ref q_text, .int z_typed, .int z_next, .int z_token, .int z_place, .int z_value, .int z_fault, .ref q_weight, .ref q_eats, .ref q_barred, .ref q_laws, .int z_houses, .int z_draftHouses, .ref q_s, .ref q_kept, .ref q_isKept, .ref q_years, .ref q_likely, .ref q_then, .long z_all, .ref q_row, .ref q_best]), (q_eats, aI cy 12 z_eats), (q_barred, aI cy 12 z_barred), (q_laws, aI cy 6 z_laws), (q_s, aI cy 67 z_s)] r.1 := by
  refine Ct_ofI (cc := cX7_shared) (nL := 5) (by decide) rfl (Nat.le_of_ble_eq_true rfl) ?_
  intro p e s m args below meth c A Q hM hret hP hD hS ls hl
  obtain ⟨hx, hb, hml, hown, hts, hcx, hA, hsx⟩ := hM
  have hown : s.vm.findClass RX7 = some m.cls := hown
  have hK := hcx.1
  have hN := hcx.2
  have kw0 := hts (.fieldLink RX7 54 "EachBringsModel" "thrown" "I") (List.mem_of_getElem? (i := 1) rfl)
  have kc1 : ∀ w ∈ wsX70, w ∈ wsX7_shared := fun _ h => List.mem_cons_of_mem _ (List.mem_append_right _ h)
  have kw2 := hts (.fieldLink RX7 122 "EachBringsModel" "houses" "I") (List.mem_of_getElem? (i := 2) rfl)
  have kw3 := hts (.fieldLink RX7 19 "EachBringsModel" "barred" "[I") (List.mem_of_getElem? (i := 3) rfl)
  have kw4 := hts (.fieldLink RX7 16 "EachBringsModel" "eats" "[I") (List.mem_of_getElem? (i := 4) rfl)
  have hl : lv_has ls 5 [(0, .ref q0)] := hl
  have hret' : ∀ (pc : Nat) (ls : Array Slot) (H : Heap) (locs : List Loc) (v : Int32) (w0 : Int32), decode cX7_shared pc = .ok (.ireturn, 1) → some (v, w0) = some r → va_P D vwCl [(q0, oB 7 [.int w0, .long z_trace, .ref q_text, .int z_typed, .int z_next, .int z_token, .int z_place, .int z_value, .int z_fault, .ref q_weight, .ref q_eats, .ref q_barred, .ref q_laws, .int z_houses, .int z_draftHouses, .ref q_s, .ref q_kept, .ref q_isKept, .ref q_years, .ref q_likely, .ref q_then, .long z_all, .ref q_row, .ref q_best]), (q_eats, aI cy 12 z_eats), (q_barred, aI cy 12 z_barred), (q_laws, aI cy 6 z_laws), (q_s, aI cy 67 z_s)] H → va_D A [(q0, oB 7 [.int w0, .long z_trace, .ref q_text, .int z_typed, .int z_next, .int z_token, .int z_place, .int z_value, .int z_fault, .ref q_weight, .ref q_eats, .ref q_barred, .ref q_laws, .int z_houses, .int z_draftHouses, .ref q_s, .ref q_kept, .ref q_isKept, .ref q_years, .ref q_likely, .ref q_then, .long z_all, .ref q_row, .ref q_best]), (q_eats, aI cy 12 z_eats), (q_barred, aI cy 12 z_barred), (q_laws, aI cy 6 z_laws), (q_s, aI cy 67 z_s)] → va_S A s.heap H locs → W p l e rmX7_shared s m args below meth c H locs 0 0 Q (F0 m pc ls [.int v]) := by
    intro pc ls H locs v w0 hd he hP hD hS
    cases he
    exact hret _ _ _ _ _ hd rfl hP hD hS
  unfold fX7_shared at hf
  refine lv_aload_n hx hb dX7_shared_0 rfl (lv_at hl 0 rfl) ?_
  refine lv_iconst (v := 0) hx hb dX7_shared_1 (by decide) ?_
  refine va_put (D := D) (ci := 7) (v := .int (0 : Int32)) (ty := .int) (C := RX7) (T := TX7) (N := 24) hx hb hts kc1 tyX7 tyX7_ok nmX7 hown hK hP hD hS 0 rfl rfl 0 (by decide) kw0 (fun _ h9 => h9) rfl pfI rfl rfl (Nat.le_of_ble_eq_true rfl) dX7_shared_2 (fun H locs hP hD hS => ?_)
  have hP : va_P D vwCl [(q0, oB 7 [.int (0 : Int32), .long z_trace, .ref q_text, .int z_typed, .int z_next, .int z_token, .int z_place, .int z_value, .int z_fault, .ref q_weight, .ref q_eats, .ref q_barred, .ref q_laws, .int z_houses, .int z_draftHouses, .ref q_s, .ref q_kept, .ref q_isKept, .ref q_years, .ref q_likely, .ref q_then, .long z_all, .ref q_row, .ref q_best]), (q_eats, aI cy 12 z_eats), (q_barred, aI cy 12 z_barred), (q_laws, aI cy 6 z_laws), (q_s, aI cy 67 z_s)] H := hP
  have hD : va_D A [(q0, oB 7 [.int (0 : Int32), .long z_trace, .ref q_text, .int z_typed, .int z_next, .int z_token, .int z_place, .int z_value, .int z_fault, .ref q_weight, .ref q_eats, .ref q_barred, .ref q_laws, .int z_houses, .int z_draftHouses, .ref q_s, .ref q_kept, .ref q_isKept, .ref q_years, .ref q_likely, .ref q_then, .long z_all, .ref q_row, .ref q_best]), (q_eats, aI cy 12 z_eats), (q_barred, aI cy 12 z_barred), (q_laws, aI cy 6 z_laws), (q_s, aI cy 67 z_s)] := hD
  refine lv_bipush (v := -9) hx hb dX7_shared_5 (by decide) ?_
  refine lv_istore_n (lv' := [(1, .int (-9 : Int32)), (0, .ref q0)]) hx hb dX7_shared_7 rfl hl (by decide) rfl (fun ls hl => ?_)
  refine lv_iconst (v := 0) hx hb dX7_shared_8 (by decide) ?_
  refine lv_istore_n (lv' := [(2, .int (0 : Int32)), (1, .int (-9 : Int32)), (0, .ref q0)]) hx hb dX7_shared_9 rfl hl (by decide) rfl (fun ls hl => ?_)
  have hL10 : ∀ (n : Nat) (x1_10 : Int32) (x2_10 : Int32) (H : Heap) (locs : List Loc) (ls : Array Slot), it2 (X7_shared_S10 z_houses z_eats z_barred z_laws z_s) n x1_10 x2_10 = some r → va_P D vwCl [(q0, oB 7 [.int (0 : Int32), .long z_trace, .ref q_text, .int z_typed, .int z_next, .int z_token, .int z_place, .int z_value, .int z_fault, .ref q_weight, .ref q_eats, .ref q_barred, .ref q_laws, .int z_houses, .int z_draftHouses, .ref q_s, .ref q_kept, .ref q_isKept, .ref q_years, .ref q_likely, .ref q_then, .long z_all, .ref q_row, .ref q_best]), (q_eats, aI cy 12 z_eats), (q_barred, aI cy 12 z_barred), (q_laws, aI cy 6 z_laws), (q_s, aI cy 67 z_s)] H → va_D A [(q0, oB 7 [.int (0 : Int32), .long z_trace, .ref q_text, .int z_typed, .int z_next, .int z_token, .int z_place, .int z_value, .int z_fault, .ref q_weight, .ref q_eats, .ref q_barred, .ref q_laws, .int z_houses, .int z_draftHouses, .ref q_s, .ref q_kept, .ref q_isKept, .ref q_years, .ref q_likely, .ref q_then, .long z_all, .ref q_row, .ref q_best]), (q_eats, aI cy 12 z_eats), (q_barred, aI cy 12 z_barred), (q_laws, aI cy 6 z_laws), (q_s, aI cy 67 z_s)] → va_S A s.heap H locs → lv_has ls 5 [(0, .ref q0), (1, .int x1_10), (2, .int x2_10)] → W p l e rmX7_shared s m args below meth c H locs 0 0 Q (F0 m 10 ls []) := by
    intro n
    induction n with
    | zero => intro x1_10 x2_10 H locs ls hf; exact absurd hf (by simp [it2])
    | succ n ih10 =>
      intro x1_10 x2_10 H locs ls hf hP hD hS hl
      have hf : X7_shared_S10 z_houses z_eats z_barred z_laws z_s (it2 (X7_shared_S10 z_houses z_eats z_barred z_laws z_s) n) x1_10 x2_10 = some r := hf
      generalize it2 (X7_shared_S10 z_houses z_eats z_barred z_laws z_s) n = self_10 at hf ih10
      unfold X7_shared_S10 at hf
      refine lv_iload_n hx hb dX7_shared_10 rfl (lv_at hl 2 rfl) ?_
      refine lv_bipush (v := 16) hx hb dX7_shared_11 (by decide) ?_
      refine lv_icmp_ge (tgt := 124) hx hb dX7_shared_13 (by decide) (fun hc_13 => ?_) (fun hc_13 => ?_)
      · have hf := it_t hf hc_13
        refine lv_iload_n hx hb dX7_shared_124 rfl (lv_at hl 1 rfl) ?_
        exact hret' _ _ _ _ _ _ dX7_shared_125 hf hP hD hS
      · have hf := it_f hf hc_13
        refine lv_iconst (v := 0) hx hb dX7_shared_16 (by decide) ?_
        refine lv_istore_n (lv' := [(3, .int (0 : Int32)), (0, .ref q0), (1, .int x1_10), (2, .int x2_10)]) hx hb dX7_shared_17 rfl hl (by decide) rfl (fun ls hl => ?_)
        refine lv_iconst (v := 0) hx hb dX7_shared_18 (by decide) ?_
        refine lv_istore (lv' := [(4, .int (0 : Int32)), (3, .int (0 : Int32)), (0, .ref q0), (1, .int x1_10), (2, .int x2_10)]) hx hb dX7_shared_19 hl (by decide) rfl (fun ls hl => ?_)
        have hJ55 : ∀ (x3_55 : Int32) (H : Heap) (locs : List Loc) (ls : Array Slot), X7_shared_J55 z_houses z_eats z_barred x1_10 x2_10 self_10 x3_55 = some r → va_P D vwCl [(q0, oB 7 [.int (0 : Int32), .long z_trace, .ref q_text, .int z_typed, .int z_next, .int z_token, .int z_place, .int z_value, .int z_fault, .ref q_weight, .ref q_eats, .ref q_barred, .ref q_laws, .int z_houses, .int z_draftHouses, .ref q_s, .ref q_kept, .ref q_isKept, .ref q_years, .ref q_likely, .ref q_then, .long z_all, .ref q_row, .ref q_best]), (q_eats, aI cy 12 z_eats), (q_barred, aI cy 12 z_barred), (q_laws, aI cy 6 z_laws), (q_s, aI cy 67 z_s)] H → va_D A [(q0, oB 7 [.int (0 : Int32), .long z_trace, .ref q_text, .int z_typed, .int z_next, .int z_token, .int z_place, .int z_value, .int z_fault, .ref q_weight, .ref q_eats, .ref q_barred, .ref q_laws, .int z_houses, .int z_draftHouses, .ref q_s, .ref q_kept, .ref q_isKept, .ref q_years, .ref q_likely, .ref q_then, .long z_all, .ref q_row, .ref q_best]), (q_eats, aI cy 12 z_eats), (q_barred, aI cy 12 z_barred), (q_laws, aI cy 6 z_laws), (q_s, aI cy 67 z_s)] → va_S A s.heap H locs → lv_has ls 5 [(0, .ref q0), (1, .int x1_10), (2, .int x2_10), (3, .int x3_55)] → W p l e rmX7_shared s m args below meth c H locs 0 0 Q (F0 m 55 ls []) := by
          intro x3_55 H locs ls hf hP hD hS hl
          unfold X7_shared_J55 at hf
          refine lv_iconst (v := 0) hx hb dX7_shared_55 (by decide) ?_
          refine lv_istore (lv' := [(4, .int (0 : Int32)), (0, .ref q0), (1, .int x1_10), (2, .int x2_10), (3, .int x3_55)]) hx hb dX7_shared_56 hl (by decide) rfl (fun ls hl => ?_)
          have hJ101 : ∀ (x3_101 : Int32) (H : Heap) (locs : List Loc) (ls : Array Slot), X7_shared_J101 x1_10 x2_10 self_10 x3_101 = some r → va_P D vwCl [(q0, oB 7 [.int (0 : Int32), .long z_trace, .ref q_text, .int z_typed, .int z_next, .int z_token, .int z_place, .int z_value, .int z_fault, .ref q_weight, .ref q_eats, .ref q_barred, .ref q_laws, .int z_houses, .int z_draftHouses, .ref q_s, .ref q_kept, .ref q_isKept, .ref q_years, .ref q_likely, .ref q_then, .long z_all, .ref q_row, .ref q_best]), (q_eats, aI cy 12 z_eats), (q_barred, aI cy 12 z_barred), (q_laws, aI cy 6 z_laws), (q_s, aI cy 67 z_s)] H → va_D A [(q0, oB 7 [.int (0 : Int32), .long z_trace, .ref q_text, .int z_typed, .int z_next, .int z_token, .int z_place, .int z_value, .int z_fault, .ref q_weight, .ref q_eats, .ref q_barred, .ref q_laws, .int z_houses, .int z_draftHouses, .ref q_s, .ref q_kept, .ref q_isKept, .ref q_years, .ref q_likely, .ref q_then, .long z_all, .ref q_row, .ref q_best]), (q_eats, aI cy 12 z_eats), (q_barred, aI cy 12 z_barred), (q_laws, aI cy 6 z_laws), (q_s, aI cy 67 z_s)] → va_S A s.heap H locs → lv_has ls 5 [(0, .ref q0), (1, .int x1_10), (2, .int x2_10), (3, .int x3_101)] → W p l e rmX7_shared s m args below meth c H locs 0 0 Q (F0 m 101 ls []) := by
            intro x3_101 H locs ls hf hP hD hS hl
            unfold X7_shared_J101 at hf
            refine lv_iload_n hx hb dX7_shared_101 rfl (lv_at hl 1 rfl) ?_
            refine lv_bipush (v := -9) hx hb dX7_shared_102 (by decide) ?_
            have hJ117 : ∀ (t0_117 : Int32) (H : Heap) (locs : List Loc) (ls : Array Slot), X7_shared_J117 x2_10 self_10 t0_117 = some r → va_P D vwCl [(q0, oB 7 [.int (0 : Int32), .long z_trace, .ref q_text, .int z_typed, .int z_next, .int z_token, .int z_place, .int z_value, .int z_fault, .ref q_weight, .ref q_eats, .ref q_barred, .ref q_laws, .int z_houses, .int z_draftHouses, .ref q_s, .ref q_kept, .ref q_isKept, .ref q_years, .ref q_likely, .ref q_then, .long z_all, .ref q_row, .ref q_best]), (q_eats, aI cy 12 z_eats), (q_barred, aI cy 12 z_barred), (q_laws, aI cy 6 z_laws), (q_s, aI cy 67 z_s)] H → va_D A [(q0, oB 7 [.int (0 : Int32), .long z_trace, .ref q_text, .int z_typed, .int z_next, .int z_token, .int z_place, .int z_value, .int z_fault, .ref q_weight, .ref q_eats, .ref q_barred, .ref q_laws, .int z_houses, .int z_draftHouses, .ref q_s, .ref q_kept, .ref q_isKept, .ref q_years, .ref q_likely, .ref q_then, .long z_all, .ref q_row, .ref q_best]), (q_eats, aI cy 12 z_eats), (q_barred, aI cy 12 z_barred), (q_laws, aI cy 6 z_laws), (q_s, aI cy 67 z_s)] → va_S A s.heap H locs → lv_has ls 5 [(0, .ref q0), (2, .int x2_10)] → W p l e rmX7_shared s m args below meth c H locs 0 0 Q (F0 m 117 ls [.int t0_117]) := by
              intro t0_117 H locs ls hf hP hD hS hl
              unfold X7_shared_J117 at hf
              refine lv_istore_n (lv' := [(1, .int t0_117), (0, .ref q0), (2, .int x2_10)]) hx hb dX7_shared_117 rfl hl (by decide) rfl (fun ls hl => ?_)
              obtain ⟨x2_118, ex2_118⟩ : ∃ y : Int32, y = x2_10 + (1 : Int32) := ⟨_, rfl⟩
              have hf := lets_at hf ex2_118
              refine lv_iinc (v := x2_118) (lv' := [(2, .int x2_118), (1, .int t0_117), (0, .ref q0)]) hx hb dX7_shared_118 hl (k := 2) rfl (by rw [ex2_118]; rfl) (by decide) rfl (fun ls hl => ?_)
              refine lv_goto (tgt := 10) hx hb dX7_shared_121 (by decide) ?_
              exact ih10 t0_117 x2_118 _ _ _ hf hP hD hS (lv_sub hl [2, 1, 0] rfl)
            have hJ112 : ∀ (H : Heap) (locs : List Loc) (ls : Array Slot), X7_shared_J112 x2_10 self_10 x3_101 = some r → va_P D vwCl [(q0, oB 7 [.int (0 : Int32), .long z_trace, .ref q_text, .int z_typed, .int z_next, .int z_token, .int z_place, .int z_value, .int z_fault, .ref q_weight, .ref q_eats, .ref q_barred, .ref q_laws, .int z_houses, .int z_draftHouses, .ref q_s, .ref q_kept, .ref q_isKept, .ref q_years, .ref q_likely, .ref q_then, .long z_all, .ref q_row, .ref q_best]), (q_eats, aI cy 12 z_eats), (q_barred, aI cy 12 z_barred), (q_laws, aI cy 6 z_laws), (q_s, aI cy 67 z_s)] H → va_D A [(q0, oB 7 [.int (0 : Int32), .long z_trace, .ref q_text, .int z_typed, .int z_next, .int z_token, .int z_place, .int z_value, .int z_fault, .ref q_weight, .ref q_eats, .ref q_barred, .ref q_laws, .int z_houses, .int z_draftHouses, .ref q_s, .ref q_kept, .ref q_isKept, .ref q_years, .ref q_likely, .ref q_then, .long z_all, .ref q_row, .ref q_best]), (q_eats, aI cy 12 z_eats), (q_barred, aI cy 12 z_barred), (q_laws, aI cy 6 z_laws), (q_s, aI cy 67 z_s)] → va_S A s.heap H locs → lv_has ls 5 [(0, .ref q0), (2, .int x2_10), (3, .int x3_101)] → W p l e rmX7_shared s m args below meth c H locs 0 0 Q (F0 m 112 ls []) := by
              intro H locs ls hf hP hD hS hl
              unfold X7_shared_J112 at hf
              refine lv_iload_n hx hb dX7_shared_112 rfl (lv_at hl 2 rfl) ?_
              refine lv_goto (tgt := 117) hx hb dX7_shared_113 (by decide) ?_
              exact hJ117 x3_101 _ _ _ hf hP hD hS (lv_sub hl [0, 1] rfl)
            refine lv_icmp_eq (tgt := 112) hx hb dX7_shared_104 (by decide) (fun hc_104 => ?_) (fun hc_104 => ?_)
            · have hf := it_t hf hc_104
              exact hJ112 _ _ _ hf hP hD hS (lv_sub hl [0, 2, 3] rfl)
            · have hf := it_f hf hc_104
              refine lv_iload_n hx hb dX7_shared_107 rfl (lv_at hl 3 rfl) ?_
              refine lv_iload_n hx hb dX7_shared_108 rfl (lv_at hl 1 rfl) ?_
              refine lv_icmp_ge (tgt := 116) hx hb dX7_shared_109 (by decide) (fun hc_109 => ?_) (fun hc_109 => ?_)
              · have hf := it_t hf hc_109
                refine lv_iload_n hx hb dX7_shared_116 rfl (lv_at hl 1 rfl) ?_
                exact hJ117 x1_10 _ _ _ hf hP hD hS (lv_sub hl [0, 2] rfl)
              · have hf := it_f hf hc_109
                exact hJ112 _ _ _ hf hP hD hS (lv_sub hl [0, 2, 3] rfl)
          have hL58 : ∀ (n : Nat) (x3_58 : Int32) (x4_58 : Int32) (H : Heap) (locs : List Loc) (ls : Array Slot), it2 (X7_shared_S58 z_houses z_eats z_barred x1_10 x2_10 self_10) n x3_58 x4_58 = some r → va_P D vwCl [(q0, oB 7 [.int (0 : Int32), .long z_trace, .ref q_text, .int z_typed, .int z_next, .int z_token, .int z_place, .int z_value, .int z_fault, .ref q_weight, .ref q_eats, .ref q_barred, .ref q_laws, .int z_houses, .int z_draftHouses, .ref q_s, .ref q_kept, .ref q_isKept, .ref q_years, .ref q_likely, .ref q_then, .long z_all, .ref q_row, .ref q_best]), (q_eats, aI cy 12 z_eats), (q_barred, aI cy 12 z_barred), (q_laws, aI cy 6 z_laws), (q_s, aI cy 67 z_s)] H → va_D A [(q0, oB 7 [.int (0 : Int32), .long z_trace, .ref q_text, .int z_typed, .int z_next, .int z_token, .int z_place, .int z_value, .int z_fault, .ref q_weight, .ref q_eats, .ref q_barred, .ref q_laws, .int z_houses, .int z_draftHouses, .ref q_s, .ref q_kept, .ref q_isKept, .ref q_years, .ref q_likely, .ref q_then, .long z_all, .ref q_row, .ref q_best]), (q_eats, aI cy 12 z_eats), (q_barred, aI cy 12 z_barred), (q_laws, aI cy 6 z_laws), (q_s, aI cy 67 z_s)] → va_S A s.heap H locs → lv_has ls 5 [(0, .ref q0), (1, .int x1_10), (2, .int x2_10), (3, .int x3_58), (4, .int x4_58)] → W p l e rmX7_shared s m args below meth c H locs 0 0 Q (F0 m 58 ls []) := by
            intro n
            induction n with
            | zero => intro x3_58 x4_58 H locs ls hf; exact absurd hf (by simp [it2])
            | succ n ih58 =>
              intro x3_58 x4_58 H locs ls hf hP hD hS hl
              have hf : X7_shared_S58 z_houses z_eats z_barred x1_10 x2_10 self_10 (it2 (X7_shared_S58 z_houses z_eats z_barred x1_10 x2_10 self_10) n) x3_58 x4_58 = some r := hf
              generalize it2 (X7_shared_S58 z_houses z_eats z_barred x1_10 x2_10 self_10) n = self_58 at hf ih58
              unfold X7_shared_S58 at hf
              refine lv_iload hx hb dX7_shared_58 (lv_at hl 4 rfl) ?_
              refine lv_aload_n hx hb dX7_shared_60 rfl (lv_at hl 0 rfl) ?_
              refine va_get (D := D) (ci := 7) (v := .int z_houses) (C := RX7) (T := TX7) (N := 24) hx hb hts kc1 hown hK hP 0 rfl rfl 13 (by decide) kw2 (fun _ h9 => h9) rfl dX7_shared_61 ?_
              refine lv_icmp_ge (tgt := 101) hx hb dX7_shared_64 (by decide) (fun hc_64 => ?_) (fun hc_64 => ?_)
              · have hf := it_t hf hc_64
                exact hJ101 x3_58 _ _ _ hf hP hD hS (lv_sub hl [0, 1, 2, 3] rfl)
              · have hf := it_f hf hc_64
                refine lv_iload_n hx hb dX7_shared_67 rfl (lv_at hl 3 rfl) ?_
                refine lv_iload_n hx hb dX7_shared_68 rfl (lv_at hl 2 rfl) ?_
                refine lv_aload_n hx hb dX7_shared_69 rfl (lv_at hl 0 rfl) ?_
                refine va_get (D := D) (ci := 7) (v := .ref q_barred) (C := RX7) (T := TX7) (N := 24) hx hb hts kc1 hown hK hP 0 rfl rfl 11 (by decide) kw3 (fun _ h9 => h9) rfl dX7_shared_70 ?_
                refine lv_iload hx hb dX7_shared_73 (lv_at hl 4 rfl) ?_
                obtain ⟨hg_75, hf⟩ := gd_some hf
                refine va_iald hx hb hK hP 2 0 rfl rfl hg_75 dX7_shared_75 ?_
                refine lv_iconst (v := -1) hx hb dX7_shared_76 (by decide) ?_
                refine lv_ixor hx hb dX7_shared_77 ?_
                refine lv_iand hx hb dX7_shared_78 ?_
                have hJ93 : ∀ (t1_93 : Int32) (H : Heap) (locs : List Loc) (ls : Array Slot), X7_shared_J93 x3_58 x4_58 self_58 t1_93 = some r → va_P D vwCl [(q0, oB 7 [.int (0 : Int32), .long z_trace, .ref q_text, .int z_typed, .int z_next, .int z_token, .int z_place, .int z_value, .int z_fault, .ref q_weight, .ref q_eats, .ref q_barred, .ref q_laws, .int z_houses, .int z_draftHouses, .ref q_s, .ref q_kept, .ref q_isKept, .ref q_years, .ref q_likely, .ref q_then, .long z_all, .ref q_row, .ref q_best]), (q_eats, aI cy 12 z_eats), (q_barred, aI cy 12 z_barred), (q_laws, aI cy 6 z_laws), (q_s, aI cy 67 z_s)] H → va_D A [(q0, oB 7 [.int (0 : Int32), .long z_trace, .ref q_text, .int z_typed, .int z_next, .int z_token, .int z_place, .int z_value, .int z_fault, .ref q_weight, .ref q_eats, .ref q_barred, .ref q_laws, .int z_houses, .int z_draftHouses, .ref q_s, .ref q_kept, .ref q_isKept, .ref q_years, .ref q_likely, .ref q_then, .long z_all, .ref q_row, .ref q_best]), (q_eats, aI cy 12 z_eats), (q_barred, aI cy 12 z_barred), (q_laws, aI cy 6 z_laws), (q_s, aI cy 67 z_s)] → va_S A s.heap H locs → lv_has ls 5 [(0, .ref q0), (1, .int x1_10), (2, .int x2_10), (4, .int x4_58)] → W p l e rmX7_shared s m args below meth c H locs 0 0 Q (F0 m 93 ls [.int t1_93, .int x3_58]) := by
                  intro t1_93 H locs ls hf hP hD hS hl
                  unfold X7_shared_J93 at hf
                  refine lv_iadd hx hb dX7_shared_93 ?_
                  refine lv_topi (fun x3_94 ex3_94 => ?_)
                  have hf := lets_at hf ex3_94
                  refine lv_istore_n (lv' := [(3, .int x3_94), (0, .ref q0), (1, .int x1_10), (2, .int x2_10), (4, .int x4_58)]) hx hb dX7_shared_94 rfl hl (by decide) rfl (fun ls hl => ?_)
                  obtain ⟨x4_95, ex4_95⟩ : ∃ y : Int32, y = x4_58 + (1 : Int32) := ⟨_, rfl⟩
                  have hf := lets_at hf ex4_95
                  refine lv_iinc (v := x4_95) (lv' := [(4, .int x4_95), (3, .int x3_94), (0, .ref q0), (1, .int x1_10), (2, .int x2_10)]) hx hb dX7_shared_95 hl (k := 4) rfl (by rw [ex4_95]; rfl) (by decide) rfl (fun ls hl => ?_)
                  refine lv_goto (tgt := 58) hx hb dX7_shared_98 (by decide) ?_
                  exact ih58 x3_94 x4_95 _ _ _ hf hP hD hS (lv_sub hl [2, 3, 4, 1, 0] rfl)
                refine lv_if_eq (tgt := 92) hx hb dX7_shared_79 (by decide) (fun hc_79 => ?_) (fun hc_79 => ?_)
                · have hf := it_t hf hc_79
                  refine lv_iconst (v := 0) hx hb dX7_shared_92 (by decide) ?_
                  exact hJ93 (0 : Int32) _ _ _ hf hP hD hS (lv_sub hl [0, 1, 2, 4] rfl)
                · have hf := it_f hf hc_79
                  refine lv_aload_n hx hb dX7_shared_82 rfl (lv_at hl 0 rfl) ?_
                  refine va_get (D := D) (ci := 7) (v := .ref q_eats) (C := RX7) (T := TX7) (N := 24) hx hb hts kc1 hown hK hP 0 rfl rfl 10 (by decide) kw4 (fun _ h9 => h9) rfl dX7_shared_83 ?_
                  refine lv_iload hx hb dX7_shared_86 (lv_at hl 4 rfl) ?_
                  obtain ⟨hg_88, hf⟩ := gd_some hf
                  refine va_iald hx hb hK hP 1 0 rfl rfl hg_88 dX7_shared_88 ?_
                  refine lv_goto (tgt := 93) hx hb dX7_shared_89 (by decide) ?_
                  exact hJ93 (z_eats x4_58.toNatClampNeg) _ _ _ hf hP hD hS (lv_sub hl [0, 1, 2, 4] rfl)
          exact hL58 _ x3_55 (0 : Int32) _ _ _ hf hP hD hS (lv_sub hl [1, 2, 3, 4, 0] rfl)
        have hL21 : ∀ (n : Nat) (x3_21 : Int32) (x4_21 : Int32) (H : Heap) (locs : List Loc) (ls : Array Slot), it2 (X7_shared_S21 z_houses z_eats z_barred z_laws z_s x1_10 x2_10 self_10) n x3_21 x4_21 = some r → va_P D vwCl [(q0, oB 7 [.int (0 : Int32), .long z_trace, .ref q_text, .int z_typed, .int z_next, .int z_token, .int z_place, .int z_value, .int z_fault, .ref q_weight, .ref q_eats, .ref q_barred, .ref q_laws, .int z_houses, .int z_draftHouses, .ref q_s, .ref q_kept, .ref q_isKept, .ref q_years, .ref q_likely, .ref q_then, .long z_all, .ref q_row, .ref q_best]), (q_eats, aI cy 12 z_eats), (q_barred, aI cy 12 z_barred), (q_laws, aI cy 6 z_laws), (q_s, aI cy 67 z_s)] H → va_D A [(q0, oB 7 [.int (0 : Int32), .long z_trace, .ref q_text, .int z_typed, .int z_next, .int z_token, .int z_place, .int z_value, .int z_fault, .ref q_weight, .ref q_eats, .ref q_barred, .ref q_laws, .int z_houses, .int z_draftHouses, .ref q_s, .ref q_kept, .ref q_isKept, .ref q_years, .ref q_likely, .ref q_then, .long z_all, .ref q_row, .ref q_best]), (q_eats, aI cy 12 z_eats), (q_barred, aI cy 12 z_barred), (q_laws, aI cy 6 z_laws), (q_s, aI cy 67 z_s)] → va_S A s.heap H locs → lv_has ls 5 [(0, .ref q0), (1, .int x1_10), (2, .int x2_10), (3, .int x3_21), (4, .int x4_21)] → W p l e rmX7_shared s m args below meth c H locs 0 0 Q (F0 m 21 ls []) := by
          intro n
          induction n with
          | zero => intro x3_21 x4_21 H locs ls hf; exact absurd hf (by simp [it2])
          | succ n ih21 =>
            intro x3_21 x4_21 H locs ls hf hP hD hS hl
            have hf : X7_shared_S21 z_houses z_eats z_barred z_laws z_s x1_10 x2_10 self_10 (it2 (X7_shared_S21 z_houses z_eats z_barred z_laws z_s x1_10 x2_10 self_10) n) x3_21 x4_21 = some r := hf
            generalize it2 (X7_shared_S21 z_houses z_eats z_barred z_laws z_s x1_10 x2_10 self_10) n = self_21 at hf ih21
            unfold X7_shared_S21 at hf
            refine lv_iload hx hb dX7_shared_21 (lv_at hl 4 rfl) ?_
            refine lv_iconst (v := 4) hx hb dX7_shared_23 (by decide) ?_
            refine lv_icmp_ge (tgt := 55) hx hb dX7_shared_24 (by decide) (fun hc_24 => ?_) (fun hc_24 => ?_)
            · have hf := it_t hf hc_24
              exact hJ55 x3_21 _ _ _ hf hP hD hS (lv_sub hl [0, 1, 2, 3] rfl)
            · have hf := it_f hf hc_24
              refine lv_iload_n hx hb dX7_shared_27 rfl (lv_at hl 3 rfl) ?_
              refine lv_iload_n hx hb dX7_shared_28 rfl (lv_at hl 2 rfl) ?_
              refine lv_iload hx hb dX7_shared_29 (lv_at hl 4 rfl) ?_
              refine lv_ishr hx hb dX7_shared_31 ?_
              refine lv_iconst (v := 1) hx hb dX7_shared_32 (by decide) ?_
              refine lv_iand hx hb dX7_shared_33 ?_
              have hJ47 : ∀ (t1_47 : Int32) (H : Heap) (locs : List Loc) (ls : Array Slot), X7_shared_J47 x3_21 x4_21 self_21 t1_47 = some r → va_P D vwCl [(q0, oB 7 [.int (0 : Int32), .long z_trace, .ref q_text, .int z_typed, .int z_next, .int z_token, .int z_place, .int z_value, .int z_fault, .ref q_weight, .ref q_eats, .ref q_barred, .ref q_laws, .int z_houses, .int z_draftHouses, .ref q_s, .ref q_kept, .ref q_isKept, .ref q_years, .ref q_likely, .ref q_then, .long z_all, .ref q_row, .ref q_best]), (q_eats, aI cy 12 z_eats), (q_barred, aI cy 12 z_barred), (q_laws, aI cy 6 z_laws), (q_s, aI cy 67 z_s)] H → va_D A [(q0, oB 7 [.int (0 : Int32), .long z_trace, .ref q_text, .int z_typed, .int z_next, .int z_token, .int z_place, .int z_value, .int z_fault, .ref q_weight, .ref q_eats, .ref q_barred, .ref q_laws, .int z_houses, .int z_draftHouses, .ref q_s, .ref q_kept, .ref q_isKept, .ref q_years, .ref q_likely, .ref q_then, .long z_all, .ref q_row, .ref q_best]), (q_eats, aI cy 12 z_eats), (q_barred, aI cy 12 z_barred), (q_laws, aI cy 6 z_laws), (q_s, aI cy 67 z_s)] → va_S A s.heap H locs → lv_has ls 5 [(0, .ref q0), (1, .int x1_10), (2, .int x2_10), (4, .int x4_21)] → W p l e rmX7_shared s m args below meth c H locs 0 0 Q (F0 m 47 ls [.int t1_47, .int x3_21]) := by
                intro t1_47 H locs ls hf hP hD hS hl
                unfold X7_shared_J47 at hf
                refine lv_iadd hx hb dX7_shared_47 ?_
                refine lv_topi (fun x3_48 ex3_48 => ?_)
                have hf := lets_at hf ex3_48
                refine lv_istore_n (lv' := [(3, .int x3_48), (0, .ref q0), (1, .int x1_10), (2, .int x2_10), (4, .int x4_21)]) hx hb dX7_shared_48 rfl hl (by decide) rfl (fun ls hl => ?_)
                obtain ⟨x4_49, ex4_49⟩ : ∃ y : Int32, y = x4_21 + (1 : Int32) := ⟨_, rfl⟩
                have hf := lets_at hf ex4_49
                refine lv_iinc (v := x4_49) (lv' := [(4, .int x4_49), (3, .int x3_48), (0, .ref q0), (1, .int x1_10), (2, .int x2_10)]) hx hb dX7_shared_49 hl (k := 4) rfl (by rw [ex4_49]; rfl) (by decide) rfl (fun ls hl => ?_)
                refine lv_goto (tgt := 21) hx hb dX7_shared_52 (by decide) ?_
                exact ih21 x3_48 x4_49 _ _ _ hf hP hD hS (lv_sub hl [2, 3, 4, 1, 0] rfl)
              refine lv_if_ne (tgt := 46) hx hb dX7_shared_34 (by decide) (fun hc_34 => ?_) (fun hc_34 => ?_)
              · have hf := it_f hf hc_34
                refine lv_iconst (v := 0) hx hb dX7_shared_46 (by decide) ?_
                exact hJ47 (0 : Int32) _ _ _ hf hP hD hS (lv_sub hl [0, 1, 2, 4] rfl)
              · have hf := it_t hf hc_34
                refine lv_aload_n hx hb dX7_shared_37 rfl (lv_at hl 0 rfl) ?_
                refine lv_iload hx hb dX7_shared_38 (lv_at hl 4 rfl) ?_
                obtain ⟨r_40, hr_40, hf⟩ := bd_some hf
                refine cl_i (wc := [(q0, oB 7 [.int (0 : Int32), .long z_trace, .ref q_text, .int z_typed, .int z_next, .int z_token, .int z_place, .int z_value, .int z_fault, .ref q_weight, .ref q_eats, .ref q_barred, .ref q_laws, .int z_houses, .int z_draftHouses, .ref q_s, .ref q_kept, .ref q_isKept, .ref q_years, .ref q_likely, .ref q_then, .long z_all, .ref q_row, .ref q_best]), (q_eats, aI cy 12 z_eats), (q_laws, aI cy 6 z_laws), (q_s, aI cy 67 z_s)]) (w1 := [(q0, oB 7 [.int (0 : Int32), .long z_trace, .ref q_text, .int z_typed, .int z_next, .int z_token, .int z_place, .int z_value, .int z_fault, .ref q_weight, .ref q_eats, .ref q_barred, .ref q_laws, .int z_houses, .int z_draftHouses, .ref q_s, .ref q_kept, .ref q_isKept, .ref q_years, .ref q_likely, .ref q_then, .long z_all, .ref q_row, .ref q_best]), (q_eats, aI cy 12 z_eats), (q_laws, aI cy 6 z_laws), (q_s, aI cy 67 z_s)]) (wr := [(q_barred, aI cy 12 z_barred)]) (w2 := [(q0, oB 7 [.int (0 : Int32), .long z_trace, .ref q_text, .int z_typed, .int z_next, .int z_token, .int z_place, .int z_value, .int z_fault, .ref q_weight, .ref q_eats, .ref q_barred, .ref q_laws, .int z_houses, .int z_draftHouses, .ref q_s, .ref q_kept, .ref q_isKept, .ref q_years, .ref q_likely, .ref q_then, .long z_all, .ref q_row, .ref q_best]), (q_eats, aI cy 12 z_eats), (q_barred, aI cy 12 z_barred), (q_laws, aI cy 6 z_laws), (q_s, aI cy 67 z_s)]) (va_runV (As := [.int x4_21]) (rest := [.int x3_21]) ⟨hx, hb, hml, hown, hts⟩ (ktX7_spoonsOf l D cy q0 q_text q_weight q_eats q_barred q_laws q_s q_kept q_isKept q_years q_likely q_then q_row q_best (0 : Int32) z_trace z_typed z_next z_token z_place z_value z_fault z_houses z_draftHouses z_all z_eats z_laws z_s x4_21 r_40 hr_40 _) (cwV 1 hts gX7_shared_X7_spoonsOf rfl rfl rfl (by decide +kernel) ⟨Nat.le_of_ble_eq_true rfl, Nat.le_of_ble_eq_true rfl⟩) (pre_V (wc := [(q0, oB 7 [.int (0 : Int32), .long z_trace, .ref q_text, .int z_typed, .int z_next, .int z_token, .int z_place, .int z_value, .int z_fault, .ref q_weight, .ref q_eats, .ref q_barred, .ref q_laws, .int z_houses, .int z_draftHouses, .ref q_s, .ref q_kept, .ref q_isKept, .ref q_years, .ref q_likely, .ref q_then, .long z_all, .ref q_row, .ref q_best]), (q_eats, aI cy 12 z_eats), (q_laws, aI cy 6 z_laws), (q_s, aI cy 67 z_s)]) (ci := 7) hcx hsx hS hA hP hD [0, 1, 3, 4] rfl (by decide) rfl rfl) rfl rfl hl.1 rfl (lv_room (Nat.le_of_ble_eq_true rfl)) dX7_shared_40 ⟨Nat.zero_le _, Nat.zero_le _⟩) hP hD hS hA [0, 1, 3, 4] [2] [1, 2, 0, 3, 4] rfl rfl (by decide) (by decide) (by decide) rfl (fun H locs hP hD hS => ?_)
                refine lv_goto (tgt := 47) hx hb dX7_shared_43 (by decide) ?_
                exact hJ47 r_40 _ _ _ hf hP hD hS (lv_sub hl [0, 1, 2, 4] rfl)
        exact hL21 _ (0 : Int32) (0 : Int32) _ _ _ hf hP hD hS (lv_sub hl [2, 3, 4, 1, 0] rfl)
  exact hL10 _ (-9 : Int32) (0 : Int32) _ _ _ hf hP hD hS (lv_sub hl [2, 1, 0] rfl)

def X7_greatest_J56 (x5_9 : Int32) (self_9 : Int32 → Int32 → Int32 → Option Int32) (x3_56 : Int32) (x4_56 : Int32) : Option Int32 := lets (x5_9 + (1 : Int32)) (fun x5_56 => self_9 x3_56 x4_56 x5_56)
def X7_greatest_J40 (x3_9 : Int32) (x4_9 : Int32) (x5_9 : Int32) (self_9 : Int32 → Int32 → Int32 → Option Int32) (t0_40 : Int32) : Option Int32 := if t0_40 ≤ x4_9 then (X7_greatest_J56 x5_9 self_9 x3_9 x4_9) else (X7_greatest_J56 x5_9 self_9 x5_9 t0_40)
def X7_greatest_S9 (z_s : Nat → Int32) (z_years : Nat → Int32) (x1 : Int32) (x2 : Int32) (self_9 : Int32 → Int32 → Int32 → Option Int32) (x3_9 : Int32) (x4_9 : Int32) (x5_9 : Int32) : Option Int32 := if (4 : Int32) ≤ x5_9 then (some x3_9) else (if x2 = 0 then (gd (okx (x1 + x5_9) 4824) (X7_greatest_J40 x3_9 x4_9 x5_9 self_9 (z_years (x1 + x5_9).toNatClampNeg))) else (gd (okx (x1 + x5_9) 67) (X7_greatest_J40 x3_9 x4_9 x5_9 self_9 (z_s (x1 + x5_9).toNatClampNeg))))
def fX7_greatest (z_s : Nat → Int32) (z_years : Nat → Int32) (x1 : Int32) (x2 : Int32) : Option Int32 := it3 (X7_greatest_S9 z_s z_years x1 x2) 100000 (-9 : Int32) (0 : Int32) (0 : Int32)
abbrev rmX7_greatest : Room := { frames := 0, cells := 0, slots := 0, locals := 0 }
set_option maxHeartbeats 4000000 in
set_option maxRecDepth 100000 in
theorem ktX7_greatest (l : Launch) (D : va_G) (cy : Nat → ClassId) (q0 : Nat) (q_text : Nat) (q_weight : Nat) (q_eats : Nat) (q_barred : Nat) (q_laws : Nat) (q_s : Nat) (q_kept : Nat) (q_isKept : Nat) (q_years : Nat) (q_likely : Nat) (q_then : Nat) (q_row : Nat) (q_best : Nat) (z_thrown : Int32) (z_trace : Int64) (z_typed : Int32) (z_next : Int32) (z_token : Int32) (z_place : Int32) (z_value : Int32) (z_fault : Int32) (z_houses : Int32) (z_draftHouses : Int32) (z_all : Int64) (z_s : Nat → Int32) (z_years : Nat → Int32) (x1 : Int32) (x2 : Int32) (r : Int32) (hf : fX7_greatest z_s z_years x1 x2 = some r) : CtI l yX7_greatest wsX7_greatest rmX7_greatest D cy [.ref q0, .int x1, .int x2] [(q0, oB 7 [.int z_thrown, .long z_trace, .ref q_text, .int z_typed, .int z_next, .int z_token, .int z_place, .int z_value, .int z_fault, .ref q_weight, .ref q_eats, .ref q_barred, .ref q_laws, .int z_houses, .int z_draftHouses, .ref q_s, .ref q_kept, .ref q_isKept, .ref q_years, .ref q_likely, .ref q_then, .long z_all, .ref q_row, .ref q_best]), (q_s, aI cy 67 z_s), (q_years, aI cy 4824 z_years)] [(q0, oB 7 [.int z_thrown, .long z_trace, .ref q_text, .int z_typed, .int z_next, .int z_token, .int z_place, .int z_value, .int z_fault, .ref q_weight, .ref q_eats, .ref q_barred, .ref q_laws, .int z_houses, .int z_draftHouses, .ref q_s, .ref q_kept, .ref q_isKept, .ref q_years, .ref q_likely, .ref q_then, .long z_all, .ref q_row, .ref q_best]), (q_s, aI cy 67 z_s), (q_years, aI cy 4824 z_years)] r := by
  refine Ct_ofI (cc := cX7_greatest) (nL := 7) (by decide) rfl (Nat.le_of_ble_eq_true rfl) ?_
  intro p e s m args below meth c A Q hM hret hP hD hS ls hl
  obtain ⟨hx, hb, hml, hown, hts, hcx, hA, hsx⟩ := hM
  have hown : s.vm.findClass RX7 = some m.cls := hown
  have hK := hcx.1
  have hN := hcx.2
  have kw0 := hts (.fieldLink RX7 35 "EachBringsModel" "years" "[I") (List.mem_of_getElem? (i := 2) rfl)
  have kc1 : ∀ w ∈ wsX70, w ∈ wsX7_greatest := fun _ h => List.mem_cons_of_mem _ (List.mem_append_right _ h)
  have kw2 := hts (.fieldLink RX7 25 "EachBringsModel" "s" "[I") (List.mem_of_getElem? (i := 1) rfl)
  have hl : lv_has ls 7 [(0, .ref q0), (1, .int x1), (2, .int x2)] := hl
  have hret' : ∀ (pc : Nat) (ls : Array Slot) (H : Heap) (locs : List Loc) (v : Int32), decode cX7_greatest pc = .ok (.ireturn, 1) → some v = some r → va_P D vwCl [(q0, oB 7 [.int z_thrown, .long z_trace, .ref q_text, .int z_typed, .int z_next, .int z_token, .int z_place, .int z_value, .int z_fault, .ref q_weight, .ref q_eats, .ref q_barred, .ref q_laws, .int z_houses, .int z_draftHouses, .ref q_s, .ref q_kept, .ref q_isKept, .ref q_years, .ref q_likely, .ref q_then, .long z_all, .ref q_row, .ref q_best]), (q_s, aI cy 67 z_s), (q_years, aI cy 4824 z_years)] H → va_D A [(q0, oB 7 [.int z_thrown, .long z_trace, .ref q_text, .int z_typed, .int z_next, .int z_token, .int z_place, .int z_value, .int z_fault, .ref q_weight, .ref q_eats, .ref q_barred, .ref q_laws, .int z_houses, .int z_draftHouses, .ref q_s, .ref q_kept, .ref q_isKept, .ref q_years, .ref q_likely, .ref q_then, .long z_all, .ref q_row, .ref q_best]), (q_s, aI cy 67 z_s), (q_years, aI cy 4824 z_years)] → va_S A s.heap H locs → W p l e rmX7_greatest s m args below meth c H locs 0 0 Q (F0 m pc ls [.int v]) := by
    intro pc ls H locs v hd he hP hD hS
    cases he
    exact hret _ _ _ _ _ hd rfl hP hD hS
  unfold fX7_greatest at hf
  refine lv_bipush (v := -9) hx hb dX7_greatest_0 (by decide) ?_
  refine lv_istore_n (lv' := [(3, .int (-9 : Int32)), (0, .ref q0), (1, .int x1), (2, .int x2)]) hx hb dX7_greatest_2 rfl hl (by decide) rfl (fun ls hl => ?_)
  refine lv_iconst (v := 0) hx hb dX7_greatest_3 (by decide) ?_
  refine lv_istore (lv' := [(4, .int (0 : Int32)), (3, .int (-9 : Int32)), (0, .ref q0), (1, .int x1), (2, .int x2)]) hx hb dX7_greatest_4 hl (by decide) rfl (fun ls hl => ?_)
  refine lv_iconst (v := 0) hx hb dX7_greatest_6 (by decide) ?_
  refine lv_istore (lv' := [(5, .int (0 : Int32)), (4, .int (0 : Int32)), (3, .int (-9 : Int32)), (0, .ref q0), (1, .int x1), (2, .int x2)]) hx hb dX7_greatest_7 hl (by decide) rfl (fun ls hl => ?_)
  have hL9 : ∀ (n : Nat) (x3_9 : Int32) (x4_9 : Int32) (x5_9 : Int32) (H : Heap) (locs : List Loc) (ls : Array Slot), it3 (X7_greatest_S9 z_s z_years x1 x2) n x3_9 x4_9 x5_9 = some r → va_P D vwCl [(q0, oB 7 [.int z_thrown, .long z_trace, .ref q_text, .int z_typed, .int z_next, .int z_token, .int z_place, .int z_value, .int z_fault, .ref q_weight, .ref q_eats, .ref q_barred, .ref q_laws, .int z_houses, .int z_draftHouses, .ref q_s, .ref q_kept, .ref q_isKept, .ref q_years, .ref q_likely, .ref q_then, .long z_all, .ref q_row, .ref q_best]), (q_s, aI cy 67 z_s), (q_years, aI cy 4824 z_years)] H → va_D A [(q0, oB 7 [.int z_thrown, .long z_trace, .ref q_text, .int z_typed, .int z_next, .int z_token, .int z_place, .int z_value, .int z_fault, .ref q_weight, .ref q_eats, .ref q_barred, .ref q_laws, .int z_houses, .int z_draftHouses, .ref q_s, .ref q_kept, .ref q_isKept, .ref q_years, .ref q_likely, .ref q_then, .long z_all, .ref q_row, .ref q_best]), (q_s, aI cy 67 z_s), (q_years, aI cy 4824 z_years)] → va_S A s.heap H locs → lv_has ls 7 [(0, .ref q0), (1, .int x1), (2, .int x2), (3, .int x3_9), (4, .int x4_9), (5, .int x5_9)] → W p l e rmX7_greatest s m args below meth c H locs 0 0 Q (F0 m 9 ls []) := by
    intro n
    induction n with
    | zero => intro x3_9 x4_9 x5_9 H locs ls hf; exact absurd hf (by simp [it3])
    | succ n ih9 =>
      intro x3_9 x4_9 x5_9 H locs ls hf hP hD hS hl
      have hf : X7_greatest_S9 z_s z_years x1 x2 (it3 (X7_greatest_S9 z_s z_years x1 x2) n) x3_9 x4_9 x5_9 = some r := hf
      generalize it3 (X7_greatest_S9 z_s z_years x1 x2) n = self_9 at hf ih9
      unfold X7_greatest_S9 at hf
      refine lv_iload hx hb dX7_greatest_9 (lv_at hl 5 rfl) ?_
      refine lv_iconst (v := 4) hx hb dX7_greatest_11 (by decide) ?_
      refine lv_icmp_ge (tgt := 62) hx hb dX7_greatest_12 (by decide) (fun hc_12 => ?_) (fun hc_12 => ?_)
      · have hf := it_t hf hc_12
        refine lv_iload_n hx hb dX7_greatest_62 rfl (lv_at hl 3 rfl) ?_
        exact hret' _ _ _ _ _ dX7_greatest_63 hf hP hD hS
      · have hf := it_f hf hc_12
        refine lv_iload_n hx hb dX7_greatest_15 rfl (lv_at hl 2 rfl) ?_
        have hJ40 : ∀ (t0_40 : Int32) (H : Heap) (locs : List Loc) (ls : Array Slot), X7_greatest_J40 x3_9 x4_9 x5_9 self_9 t0_40 = some r → va_P D vwCl [(q0, oB 7 [.int z_thrown, .long z_trace, .ref q_text, .int z_typed, .int z_next, .int z_token, .int z_place, .int z_value, .int z_fault, .ref q_weight, .ref q_eats, .ref q_barred, .ref q_laws, .int z_houses, .int z_draftHouses, .ref q_s, .ref q_kept, .ref q_isKept, .ref q_years, .ref q_likely, .ref q_then, .long z_all, .ref q_row, .ref q_best]), (q_s, aI cy 67 z_s), (q_years, aI cy 4824 z_years)] H → va_D A [(q0, oB 7 [.int z_thrown, .long z_trace, .ref q_text, .int z_typed, .int z_next, .int z_token, .int z_place, .int z_value, .int z_fault, .ref q_weight, .ref q_eats, .ref q_barred, .ref q_laws, .int z_houses, .int z_draftHouses, .ref q_s, .ref q_kept, .ref q_isKept, .ref q_years, .ref q_likely, .ref q_then, .long z_all, .ref q_row, .ref q_best]), (q_s, aI cy 67 z_s), (q_years, aI cy 4824 z_years)] → va_S A s.heap H locs → lv_has ls 7 [(0, .ref q0), (1, .int x1), (2, .int x2), (3, .int x3_9), (4, .int x4_9), (5, .int x5_9)] → W p l e rmX7_greatest s m args below meth c H locs 0 0 Q (F0 m 40 ls [.int t0_40]) := by
          intro t0_40 H locs ls hf hP hD hS hl
          unfold X7_greatest_J40 at hf
          refine lv_istore (lv' := [(6, .int t0_40), (0, .ref q0), (1, .int x1), (2, .int x2), (3, .int x3_9), (4, .int x4_9), (5, .int x5_9)]) hx hb dX7_greatest_40 hl (by decide) rfl (fun ls hl => ?_)
          refine lv_iload hx hb dX7_greatest_42 (lv_at hl 0 rfl) ?_
          refine lv_iload hx hb dX7_greatest_44 (lv_at hl 5 rfl) ?_
          have hJ56 : ∀ (x3_56 : Int32) (x4_56 : Int32) (H : Heap) (locs : List Loc) (ls : Array Slot), X7_greatest_J56 x5_9 self_9 x3_56 x4_56 = some r → va_P D vwCl [(q0, oB 7 [.int z_thrown, .long z_trace, .ref q_text, .int z_typed, .int z_next, .int z_token, .int z_place, .int z_value, .int z_fault, .ref q_weight, .ref q_eats, .ref q_barred, .ref q_laws, .int z_houses, .int z_draftHouses, .ref q_s, .ref q_kept, .ref q_isKept, .ref q_years, .ref q_likely, .ref q_then, .long z_all, .ref q_row, .ref q_best]), (q_s, aI cy 67 z_s), (q_years, aI cy 4824 z_years)] H → va_D A [(q0, oB 7 [.int z_thrown, .long z_trace, .ref q_text, .int z_typed, .int z_next, .int z_token, .int z_place, .int z_value, .int z_fault, .ref q_weight, .ref q_eats, .ref q_barred, .ref q_laws, .int z_houses, .int z_draftHouses, .ref q_s, .ref q_kept, .ref q_isKept, .ref q_years, .ref q_likely, .ref q_then, .long z_all, .ref q_row, .ref q_best]), (q_s, aI cy 67 z_s), (q_years, aI cy 4824 z_years)] → va_S A s.heap H locs → lv_has ls 7 [(0, .ref q0), (1, .int x1), (2, .int x2), (3, .int x3_56), (4, .int x4_56), (5, .int x5_9)] → W p l e rmX7_greatest s m args below meth c H locs 0 0 Q (F0 m 56 ls []) := by
            intro x3_56 x4_56 H locs ls hf hP hD hS hl
            unfold X7_greatest_J56 at hf
            obtain ⟨x5_56, ex5_56⟩ : ∃ y : Int32, y = x5_9 + (1 : Int32) := ⟨_, rfl⟩
            have hf := lets_at hf ex5_56
            refine lv_iinc (v := x5_56) (lv' := [(5, .int x5_56), (0, .ref q0), (1, .int x1), (2, .int x2), (3, .int x3_56), (4, .int x4_56)]) hx hb dX7_greatest_56 hl (k := 5) rfl (by rw [ex5_56]; rfl) (by decide) rfl (fun ls hl => ?_)
            refine lv_goto (tgt := 9) hx hb dX7_greatest_59 (by decide) ?_
            exact ih9 x3_56 x4_56 x5_56 _ _ _ hf hP hD hS (lv_sub hl [1, 2, 3, 4, 5, 0] rfl)
          refine lv_icmp_le (tgt := 56) hx hb dX7_greatest_46 (by decide) (fun hc_46 => ?_) (fun hc_46 => ?_)
          · have hf := it_t hf hc_46
            exact hJ56 x3_9 x4_9 _ _ _ hf hP hD hS (lv_sub hl [1, 2, 3, 4, 5, 6] rfl)
          · have hf := it_f hf hc_46
            refine lv_iload hx hb dX7_greatest_49 (lv_at hl 0 rfl) ?_
            refine lv_istore (lv' := [(4, .int t0_40), (6, .int t0_40), (0, .ref q0), (1, .int x1), (2, .int x2), (3, .int x3_9), (5, .int x5_9)]) hx hb dX7_greatest_51 hl (by decide) rfl (fun ls hl => ?_)
            refine lv_iload hx hb dX7_greatest_53 (lv_at hl 6 rfl) ?_
            refine lv_istore_n (lv' := [(3, .int x5_9), (4, .int t0_40), (6, .int t0_40), (0, .ref q0), (1, .int x1), (2, .int x2), (5, .int x5_9)]) hx hb dX7_greatest_55 rfl hl (by decide) rfl (fun ls hl => ?_)
            exact hJ56 x5_9 t0_40 _ _ _ hf hP hD hS (lv_sub hl [3, 4, 5, 0, 1, 6] rfl)
        refine lv_if_eq (tgt := 31) hx hb dX7_greatest_16 (by decide) (fun hc_16 => ?_) (fun hc_16 => ?_)
        · have hf := it_t hf hc_16
          refine lv_aload_n hx hb dX7_greatest_31 rfl (lv_at hl 0 rfl) ?_
          refine va_get (D := D) (ci := 7) (v := .ref q_years) (C := RX7) (T := TX7) (N := 24) hx hb hts kc1 hown hK hP 0 rfl rfl 18 (by decide) kw0 (fun _ h9 => h9) rfl dX7_greatest_32 ?_
          refine lv_iload_n hx hb dX7_greatest_35 rfl (lv_at hl 1 rfl) ?_
          refine lv_iload hx hb dX7_greatest_36 (lv_at hl 5 rfl) ?_
          refine lv_iadd hx hb dX7_greatest_38 ?_
          obtain ⟨hg_39, hf⟩ := gd_some hf
          refine va_iald hx hb hK hP 2 0 rfl rfl hg_39 dX7_greatest_39 ?_
          exact hJ40 (z_years (x1 + x5_9).toNatClampNeg) _ _ _ hf hP hD hS (lv_sub hl [0, 1, 2, 3, 4, 5] rfl)
        · have hf := it_f hf hc_16
          refine lv_aload_n hx hb dX7_greatest_19 rfl (lv_at hl 0 rfl) ?_
          refine va_get (D := D) (ci := 7) (v := .ref q_s) (C := RX7) (T := TX7) (N := 24) hx hb hts kc1 hown hK hP 0 rfl rfl 15 (by decide) kw2 (fun _ h9 => h9) rfl dX7_greatest_20 ?_
          refine lv_iload_n hx hb dX7_greatest_23 rfl (lv_at hl 1 rfl) ?_
          refine lv_iload hx hb dX7_greatest_24 (lv_at hl 5 rfl) ?_
          refine lv_iadd hx hb dX7_greatest_26 ?_
          obtain ⟨hg_27, hf⟩ := gd_some hf
          refine va_iald hx hb hK hP 1 0 rfl rfl hg_27 dX7_greatest_27 ?_
          refine lv_goto (tgt := 40) hx hb dX7_greatest_28 (by decide) ?_
          exact hJ40 (z_s (x1 + x5_9).toNatClampNeg) _ _ _ hf hP hD hS (lv_sub hl [0, 1, 2, 3, 4, 5] rfl)
  exact hL9 _ (-9 : Int32) (0 : Int32) (0 : Int32) _ _ _ hf hP hD hS (lv_sub hl [3, 4, 5, 2, 1, 0] rfl)

def X7_goesBy_J103 (x3_2 : Int32) (self_2 : Int32 → (Nat → Int32) → Option ((Nat → Int32))) (z_years_103 : Nat → Int32) : Option ((Nat → Int32)) := lets (x3_2 + (1 : Int32)) (fun x3_103 => self_2 x3_103 z_years_103)
def X7_goesBy_S56 (z_houses : Int32) (z_laws : Nat → Int32) (x1 : Int32) (x2 : Int32) (x3_2 : Int32) (self_2 : Int32 → (Nat → Int32) → Option ((Nat → Int32))) (x4_53 : Int32) (self_56 : Int32 → (Nat → Int32) → Option ((Nat → Int32))) (x5_56 : Int32) (z_years_56 : Nat → Int32) : Option ((Nat → Int32)) := if z_houses ≤ x5_56 then (X7_goesBy_J103 x3_2 self_2 z_years_56) else (gd (okx ((x1 + ((4 : Int32) * x5_56)) + x3_2) 4824) ((fX7_weightThen z_laws (z_years_56 ((x1 + ((4 : Int32) * x5_56)) + x3_2).toNatClampNeg) x4_53).bind (fun r_93 => gd (okx ((x2 + ((4 : Int32) * x5_56)) + x3_2) 4824) (lets (upd z_years_56 ((x2 + ((4 : Int32) * x5_56)) + x3_2).toNatClampNeg r_93) (fun z_years_96 => lets (x5_56 + (1 : Int32)) (fun x5_97 => self_56 x5_97 z_years_96))))))
def X7_goesBy_J53 (z_houses : Int32) (z_laws : Nat → Int32) (x1 : Int32) (x2 : Int32) (x3_2 : Int32) (z_years_2 : Nat → Int32) (self_2 : Int32 → (Nat → Int32) → Option ((Nat → Int32))) (x4_53 : Int32) : Option ((Nat → Int32)) := it2 (X7_goesBy_S56 z_houses z_laws x1 x2 x3_2 self_2 x4_53) 100000 (0 : Int32) z_years_2
def X7_goesBy_J44 (x4_13 : Int32) (x5_13 : Int32) (self_13 : Int32 → Int32 → Option ((Nat → Int32))) (t1_44 : Int32) : Option ((Nat → Int32)) := lets (x4_13 + t1_44) (fun x4_45 => lets (x5_13 + (1 : Int32)) (fun x5_47 => self_13 x4_45 x5_47))
def X7_goesBy_S13 (z_houses : Int32) (z_laws : Nat → Int32) (z_s : Nat → Int32) (x1 : Int32) (x2 : Int32) (x3_2 : Int32) (z_years_2 : Nat → Int32) (self_2 : Int32 → (Nat → Int32) → Option ((Nat → Int32))) (self_13 : Int32 → Int32 → Option ((Nat → Int32))) (x4_13 : Int32) (x5_13 : Int32) : Option ((Nat → Int32)) := if z_houses ≤ x5_13 then (X7_goesBy_J53 z_houses z_laws x1 x2 x3_2 z_years_2 self_2 x4_13) else ((fX7_greatest z_s z_years_2 (x1 + ((4 : Int32) * x5_13)) (0 : Int32)).bind (fun r_32 => if r_32 = x3_2 then (X7_goesBy_J44 x4_13 x5_13 self_13 (1 : Int32)) else (X7_goesBy_J44 x4_13 x5_13 self_13 (0 : Int32))))
def X7_goesBy_S2 (z_houses : Int32) (z_laws : Nat → Int32) (z_s : Nat → Int32) (x1 : Int32) (x2 : Int32) (self_2 : Int32 → (Nat → Int32) → Option ((Nat → Int32))) (x3_2 : Int32) (z_years_2 : Nat → Int32) : Option ((Nat → Int32)) := if (4 : Int32) ≤ x3_2 then (some z_years_2) else (it2 (X7_goesBy_S13 z_houses z_laws z_s x1 x2 x3_2 z_years_2 self_2) 100000 (0 : Int32) (0 : Int32))
def fX7_goesBy (z_houses : Int32) (z_laws : Nat → Int32) (z_s : Nat → Int32) (z_years : Nat → Int32) (x1 : Int32) (x2 : Int32) : Option ((Nat → Int32)) := it2 (X7_goesBy_S2 z_houses z_laws z_s x1 x2) 100000 (0 : Int32) z_years
abbrev rmX7_goesBy : Room := { frames := 1, cells := 0, slots := 0, locals := 26 }
set_option maxHeartbeats 4000000 in
set_option maxRecDepth 100000 in
theorem ktX7_goesBy (l : Launch) (D : va_G) (cy : Nat → ClassId) (q0 : Nat) (q_text : Nat) (q_weight : Nat) (q_eats : Nat) (q_barred : Nat) (q_laws : Nat) (q_s : Nat) (q_kept : Nat) (q_isKept : Nat) (q_years : Nat) (q_likely : Nat) (q_then : Nat) (q_row : Nat) (q_best : Nat) (z_thrown : Int32) (z_trace : Int64) (z_typed : Int32) (z_next : Int32) (z_token : Int32) (z_place : Int32) (z_value : Int32) (z_fault : Int32) (z_houses : Int32) (z_draftHouses : Int32) (z_all : Int64) (z_laws : Nat → Int32) (z_s : Nat → Int32) (z_years : Nat → Int32) (x1 : Int32) (x2 : Int32) (r : (Nat → Int32)) (hf : fX7_goesBy z_houses z_laws z_s z_years x1 x2 = some r) : CtV l yX7_goesBy wsX7_goesBy rmX7_goesBy D cy [.ref q0, .int x1, .int x2] [(q0, oB 7 [.int z_thrown, .long z_trace, .ref q_text, .int z_typed, .int z_next, .int z_token, .int z_place, .int z_value, .int z_fault, .ref q_weight, .ref q_eats, .ref q_barred, .ref q_laws, .int z_houses, .int z_draftHouses, .ref q_s, .ref q_kept, .ref q_isKept, .ref q_years, .ref q_likely, .ref q_then, .long z_all, .ref q_row, .ref q_best]), (q_laws, aI cy 6 z_laws), (q_s, aI cy 67 z_s), (q_years, aI cy 4824 z_years)] [(q0, oB 7 [.int z_thrown, .long z_trace, .ref q_text, .int z_typed, .int z_next, .int z_token, .int z_place, .int z_value, .int z_fault, .ref q_weight, .ref q_eats, .ref q_barred, .ref q_laws, .int z_houses, .int z_draftHouses, .ref q_s, .ref q_kept, .ref q_isKept, .ref q_years, .ref q_likely, .ref q_then, .long z_all, .ref q_row, .ref q_best]), (q_laws, aI cy 6 z_laws), (q_s, aI cy 67 z_s), (q_years, aI cy 4824 r)] := by
  refine Ct_ofV (cc := cX7_goesBy) (nL := 6) (by decide) rfl (Nat.le_of_ble_eq_true rfl) ?_
  intro p e s m args below meth c A Q hM hret hP hD hS ls hl
  obtain ⟨hx, hb, hml, hown, hts, hcx, hA, hsx⟩ := hM
  have hown : s.vm.findClass RX7 = some m.cls := hown
  have hK := hcx.1
  have hN := hcx.2
  have kw0 := hts (.fieldLink RX7 122 "EachBringsModel" "houses" "I") (List.mem_of_getElem? (i := 1) rfl)
  have kc1 : ∀ w ∈ wsX70, w ∈ wsX7_goesBy := fun _ h => List.mem_cons_of_mem _ (List.mem_append_right _ h)
  have kw2 := hts (.fieldLink RX7 35 "EachBringsModel" "years" "[I") (List.mem_of_getElem? (i := 2) rfl)
  have hl : lv_has ls 6 [(0, .ref q0), (1, .int x1), (2, .int x2)] := hl
  have hret' : ∀ (pc : Nat) (ls : Array Slot) (H : Heap) (locs : List Loc) (w0 : Nat → Int32), decode cX7_goesBy pc = .ok (.return_, 1) → some w0 = some r → va_P D vwCl [(q0, oB 7 [.int z_thrown, .long z_trace, .ref q_text, .int z_typed, .int z_next, .int z_token, .int z_place, .int z_value, .int z_fault, .ref q_weight, .ref q_eats, .ref q_barred, .ref q_laws, .int z_houses, .int z_draftHouses, .ref q_s, .ref q_kept, .ref q_isKept, .ref q_years, .ref q_likely, .ref q_then, .long z_all, .ref q_row, .ref q_best]), (q_laws, aI cy 6 z_laws), (q_s, aI cy 67 z_s), (q_years, aI cy 4824 w0)] H → va_D A [(q0, oB 7 [.int z_thrown, .long z_trace, .ref q_text, .int z_typed, .int z_next, .int z_token, .int z_place, .int z_value, .int z_fault, .ref q_weight, .ref q_eats, .ref q_barred, .ref q_laws, .int z_houses, .int z_draftHouses, .ref q_s, .ref q_kept, .ref q_isKept, .ref q_years, .ref q_likely, .ref q_then, .long z_all, .ref q_row, .ref q_best]), (q_laws, aI cy 6 z_laws), (q_s, aI cy 67 z_s), (q_years, aI cy 4824 w0)] → va_S A s.heap H locs → W p l e rmX7_goesBy s m args below meth c H locs 0 0 Q (F0 m pc ls []) := by
    intro pc ls H locs w0 hd he hP hD hS
    cases he
    exact hret _ _ _ _ hd hP hD hS
  unfold fX7_goesBy at hf
  refine lv_iconst (v := 0) hx hb dX7_goesBy_0 (by decide) ?_
  refine lv_istore_n (lv' := [(3, .int (0 : Int32)), (0, .ref q0), (1, .int x1), (2, .int x2)]) hx hb dX7_goesBy_1 rfl hl (by decide) rfl (fun ls hl => ?_)
  have hL2 : ∀ (n : Nat) (x3_2 : Int32) (z_years_2 : Nat → Int32) (H : Heap) (locs : List Loc) (ls : Array Slot), it2 (X7_goesBy_S2 z_houses z_laws z_s x1 x2) n x3_2 z_years_2 = some r → va_P D vwCl [(q0, oB 7 [.int z_thrown, .long z_trace, .ref q_text, .int z_typed, .int z_next, .int z_token, .int z_place, .int z_value, .int z_fault, .ref q_weight, .ref q_eats, .ref q_barred, .ref q_laws, .int z_houses, .int z_draftHouses, .ref q_s, .ref q_kept, .ref q_isKept, .ref q_years, .ref q_likely, .ref q_then, .long z_all, .ref q_row, .ref q_best]), (q_laws, aI cy 6 z_laws), (q_s, aI cy 67 z_s), (q_years, aI cy 4824 z_years_2)] H → va_D A [(q0, oB 7 [.int z_thrown, .long z_trace, .ref q_text, .int z_typed, .int z_next, .int z_token, .int z_place, .int z_value, .int z_fault, .ref q_weight, .ref q_eats, .ref q_barred, .ref q_laws, .int z_houses, .int z_draftHouses, .ref q_s, .ref q_kept, .ref q_isKept, .ref q_years, .ref q_likely, .ref q_then, .long z_all, .ref q_row, .ref q_best]), (q_laws, aI cy 6 z_laws), (q_s, aI cy 67 z_s), (q_years, aI cy 4824 z_years_2)] → va_S A s.heap H locs → lv_has ls 6 [(0, .ref q0), (1, .int x1), (2, .int x2), (3, .int x3_2)] → W p l e rmX7_goesBy s m args below meth c H locs 0 0 Q (F0 m 2 ls []) := by
    intro n
    induction n with
    | zero => intro x3_2 z_years_2 H locs ls hf; exact absurd hf (by simp [it2])
    | succ n ih2 =>
      intro x3_2 z_years_2 H locs ls hf hP hD hS hl
      have hf : X7_goesBy_S2 z_houses z_laws z_s x1 x2 (it2 (X7_goesBy_S2 z_houses z_laws z_s x1 x2) n) x3_2 z_years_2 = some r := hf
      generalize it2 (X7_goesBy_S2 z_houses z_laws z_s x1 x2) n = self_2 at hf ih2
      unfold X7_goesBy_S2 at hf
      refine lv_iload_n hx hb dX7_goesBy_2 rfl (lv_at hl 3 rfl) ?_
      refine lv_iconst (v := 4) hx hb dX7_goesBy_3 (by decide) ?_
      refine lv_icmp_ge (tgt := 109) hx hb dX7_goesBy_4 (by decide) (fun hc_4 => ?_) (fun hc_4 => ?_)
      · have hf := it_t hf hc_4
        exact hret' _ _ _ _ _ dX7_goesBy_109 hf hP hD hS
      · have hf := it_f hf hc_4
        refine lv_iconst (v := 0) hx hb dX7_goesBy_7 (by decide) ?_
        refine lv_istore (lv' := [(4, .int (0 : Int32)), (0, .ref q0), (1, .int x1), (2, .int x2), (3, .int x3_2)]) hx hb dX7_goesBy_8 hl (by decide) rfl (fun ls hl => ?_)
        refine lv_iconst (v := 0) hx hb dX7_goesBy_10 (by decide) ?_
        refine lv_istore (lv' := [(5, .int (0 : Int32)), (4, .int (0 : Int32)), (0, .ref q0), (1, .int x1), (2, .int x2), (3, .int x3_2)]) hx hb dX7_goesBy_11 hl (by decide) rfl (fun ls hl => ?_)
        have hJ53 : ∀ (x4_53 : Int32) (H : Heap) (locs : List Loc) (ls : Array Slot), X7_goesBy_J53 z_houses z_laws x1 x2 x3_2 z_years_2 self_2 x4_53 = some r → va_P D vwCl [(q0, oB 7 [.int z_thrown, .long z_trace, .ref q_text, .int z_typed, .int z_next, .int z_token, .int z_place, .int z_value, .int z_fault, .ref q_weight, .ref q_eats, .ref q_barred, .ref q_laws, .int z_houses, .int z_draftHouses, .ref q_s, .ref q_kept, .ref q_isKept, .ref q_years, .ref q_likely, .ref q_then, .long z_all, .ref q_row, .ref q_best]), (q_laws, aI cy 6 z_laws), (q_s, aI cy 67 z_s), (q_years, aI cy 4824 z_years_2)] H → va_D A [(q0, oB 7 [.int z_thrown, .long z_trace, .ref q_text, .int z_typed, .int z_next, .int z_token, .int z_place, .int z_value, .int z_fault, .ref q_weight, .ref q_eats, .ref q_barred, .ref q_laws, .int z_houses, .int z_draftHouses, .ref q_s, .ref q_kept, .ref q_isKept, .ref q_years, .ref q_likely, .ref q_then, .long z_all, .ref q_row, .ref q_best]), (q_laws, aI cy 6 z_laws), (q_s, aI cy 67 z_s), (q_years, aI cy 4824 z_years_2)] → va_S A s.heap H locs → lv_has ls 6 [(0, .ref q0), (1, .int x1), (2, .int x2), (3, .int x3_2), (4, .int x4_53)] → W p l e rmX7_goesBy s m args below meth c H locs 0 0 Q (F0 m 53 ls []) := by
          intro x4_53 H locs ls hf hP hD hS hl
          unfold X7_goesBy_J53 at hf
          refine lv_iconst (v := 0) hx hb dX7_goesBy_53 (by decide) ?_
          refine lv_istore (lv' := [(5, .int (0 : Int32)), (0, .ref q0), (1, .int x1), (2, .int x2), (3, .int x3_2), (4, .int x4_53)]) hx hb dX7_goesBy_54 hl (by decide) rfl (fun ls hl => ?_)
          have hJ103 : ∀ (z_years_103 : Nat → Int32) (H : Heap) (locs : List Loc) (ls : Array Slot), X7_goesBy_J103 x3_2 self_2 z_years_103 = some r → va_P D vwCl [(q0, oB 7 [.int z_thrown, .long z_trace, .ref q_text, .int z_typed, .int z_next, .int z_token, .int z_place, .int z_value, .int z_fault, .ref q_weight, .ref q_eats, .ref q_barred, .ref q_laws, .int z_houses, .int z_draftHouses, .ref q_s, .ref q_kept, .ref q_isKept, .ref q_years, .ref q_likely, .ref q_then, .long z_all, .ref q_row, .ref q_best]), (q_laws, aI cy 6 z_laws), (q_s, aI cy 67 z_s), (q_years, aI cy 4824 z_years_103)] H → va_D A [(q0, oB 7 [.int z_thrown, .long z_trace, .ref q_text, .int z_typed, .int z_next, .int z_token, .int z_place, .int z_value, .int z_fault, .ref q_weight, .ref q_eats, .ref q_barred, .ref q_laws, .int z_houses, .int z_draftHouses, .ref q_s, .ref q_kept, .ref q_isKept, .ref q_years, .ref q_likely, .ref q_then, .long z_all, .ref q_row, .ref q_best]), (q_laws, aI cy 6 z_laws), (q_s, aI cy 67 z_s), (q_years, aI cy 4824 z_years_103)] → va_S A s.heap H locs → lv_has ls 6 [(0, .ref q0), (1, .int x1), (2, .int x2), (3, .int x3_2)] → W p l e rmX7_goesBy s m args below meth c H locs 0 0 Q (F0 m 103 ls []) := by
            intro z_years_103 H locs ls hf hP hD hS hl
            unfold X7_goesBy_J103 at hf
            obtain ⟨x3_103, ex3_103⟩ : ∃ y : Int32, y = x3_2 + (1 : Int32) := ⟨_, rfl⟩
            have hf := lets_at hf ex3_103
            refine lv_iinc (v := x3_103) (lv' := [(3, .int x3_103), (0, .ref q0), (1, .int x1), (2, .int x2)]) hx hb dX7_goesBy_103 hl (k := 3) rfl (by rw [ex3_103]; rfl) (by decide) rfl (fun ls hl => ?_)
            refine lv_goto (tgt := 2) hx hb dX7_goesBy_106 (by decide) ?_
            exact ih2 x3_103 z_years_103 _ _ _ hf hP hD hS (lv_sub hl [1, 2, 3, 0] rfl)
          have hL56 : ∀ (n : Nat) (x5_56 : Int32) (z_years_56 : Nat → Int32) (H : Heap) (locs : List Loc) (ls : Array Slot), it2 (X7_goesBy_S56 z_houses z_laws x1 x2 x3_2 self_2 x4_53) n x5_56 z_years_56 = some r → va_P D vwCl [(q0, oB 7 [.int z_thrown, .long z_trace, .ref q_text, .int z_typed, .int z_next, .int z_token, .int z_place, .int z_value, .int z_fault, .ref q_weight, .ref q_eats, .ref q_barred, .ref q_laws, .int z_houses, .int z_draftHouses, .ref q_s, .ref q_kept, .ref q_isKept, .ref q_years, .ref q_likely, .ref q_then, .long z_all, .ref q_row, .ref q_best]), (q_laws, aI cy 6 z_laws), (q_s, aI cy 67 z_s), (q_years, aI cy 4824 z_years_56)] H → va_D A [(q0, oB 7 [.int z_thrown, .long z_trace, .ref q_text, .int z_typed, .int z_next, .int z_token, .int z_place, .int z_value, .int z_fault, .ref q_weight, .ref q_eats, .ref q_barred, .ref q_laws, .int z_houses, .int z_draftHouses, .ref q_s, .ref q_kept, .ref q_isKept, .ref q_years, .ref q_likely, .ref q_then, .long z_all, .ref q_row, .ref q_best]), (q_laws, aI cy 6 z_laws), (q_s, aI cy 67 z_s), (q_years, aI cy 4824 z_years_56)] → va_S A s.heap H locs → lv_has ls 6 [(0, .ref q0), (1, .int x1), (2, .int x2), (3, .int x3_2), (4, .int x4_53), (5, .int x5_56)] → W p l e rmX7_goesBy s m args below meth c H locs 0 0 Q (F0 m 56 ls []) := by
            intro n
            induction n with
            | zero => intro x5_56 z_years_56 H locs ls hf; exact absurd hf (by simp [it2])
            | succ n ih56 =>
              intro x5_56 z_years_56 H locs ls hf hP hD hS hl
              have hf : X7_goesBy_S56 z_houses z_laws x1 x2 x3_2 self_2 x4_53 (it2 (X7_goesBy_S56 z_houses z_laws x1 x2 x3_2 self_2 x4_53) n) x5_56 z_years_56 = some r := hf
              generalize it2 (X7_goesBy_S56 z_houses z_laws x1 x2 x3_2 self_2 x4_53) n = self_56 at hf ih56
              unfold X7_goesBy_S56 at hf
              refine lv_iload hx hb dX7_goesBy_56 (lv_at hl 5 rfl) ?_
              refine lv_aload_n hx hb dX7_goesBy_58 rfl (lv_at hl 0 rfl) ?_
              refine va_get (D := D) (ci := 7) (v := .int z_houses) (C := RX7) (T := TX7) (N := 24) hx hb hts kc1 hown hK hP 0 rfl rfl 13 (by decide) kw0 (fun _ h9 => h9) rfl dX7_goesBy_59 ?_
              refine lv_icmp_ge (tgt := 103) hx hb dX7_goesBy_62 (by decide) (fun hc_62 => ?_) (fun hc_62 => ?_)
              · have hf := it_t hf hc_62
                exact hJ103 z_years_56 _ _ _ hf hP hD hS (lv_sub hl [0, 1, 2, 3] rfl)
              · have hf := it_f hf hc_62
                refine lv_aload_n hx hb dX7_goesBy_65 rfl (lv_at hl 0 rfl) ?_
                refine va_get (D := D) (ci := 7) (v := .ref q_years) (C := RX7) (T := TX7) (N := 24) hx hb hts kc1 hown hK hP 0 rfl rfl 18 (by decide) kw2 (fun _ h9 => h9) rfl dX7_goesBy_66 ?_
                refine lv_iload_n hx hb dX7_goesBy_69 rfl (lv_at hl 2 rfl) ?_
                refine lv_iconst (v := 4) hx hb dX7_goesBy_70 (by decide) ?_
                refine lv_iload hx hb dX7_goesBy_71 (lv_at hl 5 rfl) ?_
                refine lv_imul hx hb dX7_goesBy_73 ?_
                refine lv_iadd hx hb dX7_goesBy_74 ?_
                refine lv_iload_n hx hb dX7_goesBy_75 rfl (lv_at hl 3 rfl) ?_
                refine lv_iadd hx hb dX7_goesBy_76 ?_
                refine lv_aload_n hx hb dX7_goesBy_77 rfl (lv_at hl 0 rfl) ?_
                refine lv_aload_n hx hb dX7_goesBy_78 rfl (lv_at hl 0 rfl) ?_
                refine va_get (D := D) (ci := 7) (v := .ref q_years) (C := RX7) (T := TX7) (N := 24) hx hb hts kc1 hown hK hP 0 rfl rfl 18 (by decide) kw2 (fun _ h9 => h9) rfl dX7_goesBy_79 ?_
                refine lv_iload_n hx hb dX7_goesBy_82 rfl (lv_at hl 1 rfl) ?_
                refine lv_iconst (v := 4) hx hb dX7_goesBy_83 (by decide) ?_
                refine lv_iload hx hb dX7_goesBy_84 (lv_at hl 5 rfl) ?_
                refine lv_imul hx hb dX7_goesBy_86 ?_
                refine lv_iadd hx hb dX7_goesBy_87 ?_
                refine lv_iload_n hx hb dX7_goesBy_88 rfl (lv_at hl 3 rfl) ?_
                refine lv_iadd hx hb dX7_goesBy_89 ?_
                obtain ⟨hg_90, hf⟩ := gd_some hf
                refine va_iald hx hb hK hP 3 0 rfl rfl hg_90 dX7_goesBy_90 ?_
                refine lv_iload hx hb dX7_goesBy_91 (lv_at hl 4 rfl) ?_
                obtain ⟨r_93, hr_93, hf⟩ := bd_some hf
                refine cl_i (wc := [(q0, oB 7 [.int z_thrown, .long z_trace, .ref q_text, .int z_typed, .int z_next, .int z_token, .int z_place, .int z_value, .int z_fault, .ref q_weight, .ref q_eats, .ref q_barred, .ref q_laws, .int z_houses, .int z_draftHouses, .ref q_s, .ref q_kept, .ref q_isKept, .ref q_years, .ref q_likely, .ref q_then, .long z_all, .ref q_row, .ref q_best]), (q_laws, aI cy 6 z_laws)]) (w1 := [(q0, oB 7 [.int z_thrown, .long z_trace, .ref q_text, .int z_typed, .int z_next, .int z_token, .int z_place, .int z_value, .int z_fault, .ref q_weight, .ref q_eats, .ref q_barred, .ref q_laws, .int z_houses, .int z_draftHouses, .ref q_s, .ref q_kept, .ref q_isKept, .ref q_years, .ref q_likely, .ref q_then, .long z_all, .ref q_row, .ref q_best]), (q_laws, aI cy 6 z_laws)]) (wr := [(q_s, aI cy 67 z_s), (q_years, aI cy 4824 z_years_56)]) (w2 := [(q0, oB 7 [.int z_thrown, .long z_trace, .ref q_text, .int z_typed, .int z_next, .int z_token, .int z_place, .int z_value, .int z_fault, .ref q_weight, .ref q_eats, .ref q_barred, .ref q_laws, .int z_houses, .int z_draftHouses, .ref q_s, .ref q_kept, .ref q_isKept, .ref q_years, .ref q_likely, .ref q_then, .long z_all, .ref q_row, .ref q_best]), (q_laws, aI cy 6 z_laws), (q_s, aI cy 67 z_s), (q_years, aI cy 4824 z_years_56)]) (va_runV (As := [.int (z_years_56 ((x1 + ((4 : Int32) * x5_56)) + x3_2).toNatClampNeg), .int x4_53]) (rest := [.int ((x2 + ((4 : Int32) * x5_56)) + x3_2), .ref q_years]) ⟨hx, hb, hml, hown, hts⟩ (ktX7_weightThen l D cy q0 q_text q_weight q_eats q_barred q_laws q_s q_kept q_isKept q_years q_likely q_then q_row q_best z_thrown z_trace z_typed z_next z_token z_place z_value z_fault z_houses z_draftHouses z_all z_laws (z_years_56 ((x1 + ((4 : Int32) * x5_56)) + x3_2).toNatClampNeg) x4_53 r_93 hr_93 _) (cwV 2 hts gX7_goesBy_X7_weightThen rfl rfl rfl (by decide +kernel) ⟨Nat.le_of_ble_eq_true rfl, Nat.le_of_ble_eq_true rfl⟩) (pre_V (wc := [(q0, oB 7 [.int z_thrown, .long z_trace, .ref q_text, .int z_typed, .int z_next, .int z_token, .int z_place, .int z_value, .int z_fault, .ref q_weight, .ref q_eats, .ref q_barred, .ref q_laws, .int z_houses, .int z_draftHouses, .ref q_s, .ref q_kept, .ref q_isKept, .ref q_years, .ref q_likely, .ref q_then, .long z_all, .ref q_row, .ref q_best]), (q_laws, aI cy 6 z_laws)]) (ci := 7) hcx hsx hS hA hP hD [0, 1] rfl (by decide) rfl rfl) rfl rfl hl.1 rfl (lv_room (Nat.le_of_ble_eq_true rfl)) dX7_goesBy_93 ⟨Nat.zero_le _, Nat.zero_le _⟩) hP hD hS hA [0, 1] [2, 3] [2, 3, 0, 1] rfl rfl (by decide) (by decide) (by decide) rfl (fun H locs hP hD hS => ?_)
                obtain ⟨hg_96, hf⟩ := gd_some hf
                refine va_iast hx hb hK hP hD hS 3 0 rfl rfl hg_96 dX7_goesBy_96 (fun H locs hP hD hS => ?_)
                obtain ⟨z_years_96, ez_years_96⟩ : ∃ y : Nat → Int32, y = upd z_years_56 ((x2 + ((4 : Int32) * x5_56)) + x3_2).toNatClampNeg r_93 := ⟨_, rfl⟩
                have hf := lets_at hf ez_years_96
                rw [← ez_years_96] at hP hD
                have hP : va_P D vwCl [(q0, oB 7 [.int z_thrown, .long z_trace, .ref q_text, .int z_typed, .int z_next, .int z_token, .int z_place, .int z_value, .int z_fault, .ref q_weight, .ref q_eats, .ref q_barred, .ref q_laws, .int z_houses, .int z_draftHouses, .ref q_s, .ref q_kept, .ref q_isKept, .ref q_years, .ref q_likely, .ref q_then, .long z_all, .ref q_row, .ref q_best]), (q_laws, aI cy 6 z_laws), (q_s, aI cy 67 z_s), (q_years, aI cy 4824 z_years_96)] H := hP
                have hD : va_D A [(q0, oB 7 [.int z_thrown, .long z_trace, .ref q_text, .int z_typed, .int z_next, .int z_token, .int z_place, .int z_value, .int z_fault, .ref q_weight, .ref q_eats, .ref q_barred, .ref q_laws, .int z_houses, .int z_draftHouses, .ref q_s, .ref q_kept, .ref q_isKept, .ref q_years, .ref q_likely, .ref q_then, .long z_all, .ref q_row, .ref q_best]), (q_laws, aI cy 6 z_laws), (q_s, aI cy 67 z_s), (q_years, aI cy 4824 z_years_96)] := hD
                obtain ⟨x5_97, ex5_97⟩ : ∃ y : Int32, y = x5_56 + (1 : Int32) := ⟨_, rfl⟩
                have hf := lets_at hf ex5_97
                refine lv_iinc (v := x5_97) (lv' := [(5, .int x5_97), (0, .ref q0), (1, .int x1), (2, .int x2), (3, .int x3_2), (4, .int x4_53)]) hx hb dX7_goesBy_97 hl (k := 5) rfl (by rw [ex5_97]; rfl) (by decide) rfl (fun ls hl => ?_)
                refine lv_goto (tgt := 56) hx hb dX7_goesBy_100 (by decide) ?_
                exact ih56 x5_97 z_years_96 _ _ _ hf hP hD hS (lv_sub hl [1, 2, 3, 4, 5, 0] rfl)
          exact hL56 _ (0 : Int32) z_years_2 _ _ _ hf hP hD hS (lv_sub hl [1, 2, 3, 4, 5, 0] rfl)
        have hL13 : ∀ (n : Nat) (x4_13 : Int32) (x5_13 : Int32) (H : Heap) (locs : List Loc) (ls : Array Slot), it2 (X7_goesBy_S13 z_houses z_laws z_s x1 x2 x3_2 z_years_2 self_2) n x4_13 x5_13 = some r → va_P D vwCl [(q0, oB 7 [.int z_thrown, .long z_trace, .ref q_text, .int z_typed, .int z_next, .int z_token, .int z_place, .int z_value, .int z_fault, .ref q_weight, .ref q_eats, .ref q_barred, .ref q_laws, .int z_houses, .int z_draftHouses, .ref q_s, .ref q_kept, .ref q_isKept, .ref q_years, .ref q_likely, .ref q_then, .long z_all, .ref q_row, .ref q_best]), (q_laws, aI cy 6 z_laws), (q_s, aI cy 67 z_s), (q_years, aI cy 4824 z_years_2)] H → va_D A [(q0, oB 7 [.int z_thrown, .long z_trace, .ref q_text, .int z_typed, .int z_next, .int z_token, .int z_place, .int z_value, .int z_fault, .ref q_weight, .ref q_eats, .ref q_barred, .ref q_laws, .int z_houses, .int z_draftHouses, .ref q_s, .ref q_kept, .ref q_isKept, .ref q_years, .ref q_likely, .ref q_then, .long z_all, .ref q_row, .ref q_best]), (q_laws, aI cy 6 z_laws), (q_s, aI cy 67 z_s), (q_years, aI cy 4824 z_years_2)] → va_S A s.heap H locs → lv_has ls 6 [(0, .ref q0), (1, .int x1), (2, .int x2), (3, .int x3_2), (4, .int x4_13), (5, .int x5_13)] → W p l e rmX7_goesBy s m args below meth c H locs 0 0 Q (F0 m 13 ls []) := by
          intro n
          induction n with
          | zero => intro x4_13 x5_13 H locs ls hf; exact absurd hf (by simp [it2])
          | succ n ih13 =>
            intro x4_13 x5_13 H locs ls hf hP hD hS hl
            have hf : X7_goesBy_S13 z_houses z_laws z_s x1 x2 x3_2 z_years_2 self_2 (it2 (X7_goesBy_S13 z_houses z_laws z_s x1 x2 x3_2 z_years_2 self_2) n) x4_13 x5_13 = some r := hf
            generalize it2 (X7_goesBy_S13 z_houses z_laws z_s x1 x2 x3_2 z_years_2 self_2) n = self_13 at hf ih13
            unfold X7_goesBy_S13 at hf
            refine lv_iload hx hb dX7_goesBy_13 (lv_at hl 5 rfl) ?_
            refine lv_aload_n hx hb dX7_goesBy_15 rfl (lv_at hl 0 rfl) ?_
            refine va_get (D := D) (ci := 7) (v := .int z_houses) (C := RX7) (T := TX7) (N := 24) hx hb hts kc1 hown hK hP 0 rfl rfl 13 (by decide) kw0 (fun _ h9 => h9) rfl dX7_goesBy_16 ?_
            refine lv_icmp_ge (tgt := 53) hx hb dX7_goesBy_19 (by decide) (fun hc_19 => ?_) (fun hc_19 => ?_)
            · have hf := it_t hf hc_19
              exact hJ53 x4_13 _ _ _ hf hP hD hS (lv_sub hl [0, 1, 2, 3, 4] rfl)
            · have hf := it_f hf hc_19
              refine lv_iload hx hb dX7_goesBy_22 (lv_at hl 4 rfl) ?_
              refine lv_aload_n hx hb dX7_goesBy_24 rfl (lv_at hl 0 rfl) ?_
              refine lv_iload_n hx hb dX7_goesBy_25 rfl (lv_at hl 1 rfl) ?_
              refine lv_iconst (v := 4) hx hb dX7_goesBy_26 (by decide) ?_
              refine lv_iload hx hb dX7_goesBy_27 (lv_at hl 5 rfl) ?_
              refine lv_imul hx hb dX7_goesBy_29 ?_
              refine lv_iadd hx hb dX7_goesBy_30 ?_
              refine lv_iconst (v := 0) hx hb dX7_goesBy_31 (by decide) ?_
              obtain ⟨r_32, hr_32, hf⟩ := bd_some hf
              refine cl_i (wc := [(q0, oB 7 [.int z_thrown, .long z_trace, .ref q_text, .int z_typed, .int z_next, .int z_token, .int z_place, .int z_value, .int z_fault, .ref q_weight, .ref q_eats, .ref q_barred, .ref q_laws, .int z_houses, .int z_draftHouses, .ref q_s, .ref q_kept, .ref q_isKept, .ref q_years, .ref q_likely, .ref q_then, .long z_all, .ref q_row, .ref q_best]), (q_s, aI cy 67 z_s), (q_years, aI cy 4824 z_years_2)]) (w1 := [(q0, oB 7 [.int z_thrown, .long z_trace, .ref q_text, .int z_typed, .int z_next, .int z_token, .int z_place, .int z_value, .int z_fault, .ref q_weight, .ref q_eats, .ref q_barred, .ref q_laws, .int z_houses, .int z_draftHouses, .ref q_s, .ref q_kept, .ref q_isKept, .ref q_years, .ref q_likely, .ref q_then, .long z_all, .ref q_row, .ref q_best]), (q_s, aI cy 67 z_s), (q_years, aI cy 4824 z_years_2)]) (wr := [(q_laws, aI cy 6 z_laws)]) (w2 := [(q0, oB 7 [.int z_thrown, .long z_trace, .ref q_text, .int z_typed, .int z_next, .int z_token, .int z_place, .int z_value, .int z_fault, .ref q_weight, .ref q_eats, .ref q_barred, .ref q_laws, .int z_houses, .int z_draftHouses, .ref q_s, .ref q_kept, .ref q_isKept, .ref q_years, .ref q_likely, .ref q_then, .long z_all, .ref q_row, .ref q_best]), (q_laws, aI cy 6 z_laws), (q_s, aI cy 67 z_s), (q_years, aI cy 4824 z_years_2)]) (va_runV (As := [.int (x1 + ((4 : Int32) * x5_13)), .int (0 : Int32)]) (rest := [.int x4_13]) ⟨hx, hb, hml, hown, hts⟩ (ktX7_greatest l D cy q0 q_text q_weight q_eats q_barred q_laws q_s q_kept q_isKept q_years q_likely q_then q_row q_best z_thrown z_trace z_typed z_next z_token z_place z_value z_fault z_houses z_draftHouses z_all z_s z_years_2 (x1 + ((4 : Int32) * x5_13)) (0 : Int32) r_32 hr_32 _) (cwV 2 hts gX7_goesBy_X7_greatest rfl rfl rfl (by decide +kernel) ⟨Nat.le_of_ble_eq_true rfl, Nat.le_of_ble_eq_true rfl⟩) (pre_V (wc := [(q0, oB 7 [.int z_thrown, .long z_trace, .ref q_text, .int z_typed, .int z_next, .int z_token, .int z_place, .int z_value, .int z_fault, .ref q_weight, .ref q_eats, .ref q_barred, .ref q_laws, .int z_houses, .int z_draftHouses, .ref q_s, .ref q_kept, .ref q_isKept, .ref q_years, .ref q_likely, .ref q_then, .long z_all, .ref q_row, .ref q_best]), (q_s, aI cy 67 z_s), (q_years, aI cy 4824 z_years_2)]) (ci := 7) hcx hsx hS hA hP hD [0, 2, 3] rfl (by decide) rfl rfl) rfl rfl hl.1 rfl (lv_room (Nat.le_of_ble_eq_true rfl)) dX7_goesBy_32 ⟨Nat.zero_le _, Nat.zero_le _⟩) hP hD hS hA [0, 2, 3] [1] [1, 0, 2, 3] rfl rfl (by decide) (by decide) (by decide) rfl (fun H locs hP hD hS => ?_)
              refine lv_iload_n hx hb dX7_goesBy_35 rfl (lv_at hl 3 rfl) ?_
              have hJ44 : ∀ (t1_44 : Int32) (H : Heap) (locs : List Loc) (ls : Array Slot), X7_goesBy_J44 x4_13 x5_13 self_13 t1_44 = some r → va_P D vwCl [(q0, oB 7 [.int z_thrown, .long z_trace, .ref q_text, .int z_typed, .int z_next, .int z_token, .int z_place, .int z_value, .int z_fault, .ref q_weight, .ref q_eats, .ref q_barred, .ref q_laws, .int z_houses, .int z_draftHouses, .ref q_s, .ref q_kept, .ref q_isKept, .ref q_years, .ref q_likely, .ref q_then, .long z_all, .ref q_row, .ref q_best]), (q_laws, aI cy 6 z_laws), (q_s, aI cy 67 z_s), (q_years, aI cy 4824 z_years_2)] H → va_D A [(q0, oB 7 [.int z_thrown, .long z_trace, .ref q_text, .int z_typed, .int z_next, .int z_token, .int z_place, .int z_value, .int z_fault, .ref q_weight, .ref q_eats, .ref q_barred, .ref q_laws, .int z_houses, .int z_draftHouses, .ref q_s, .ref q_kept, .ref q_isKept, .ref q_years, .ref q_likely, .ref q_then, .long z_all, .ref q_row, .ref q_best]), (q_laws, aI cy 6 z_laws), (q_s, aI cy 67 z_s), (q_years, aI cy 4824 z_years_2)] → va_S A s.heap H locs → lv_has ls 6 [(0, .ref q0), (1, .int x1), (2, .int x2), (3, .int x3_2), (5, .int x5_13)] → W p l e rmX7_goesBy s m args below meth c H locs 0 0 Q (F0 m 44 ls [.int t1_44, .int x4_13]) := by
                intro t1_44 H locs ls hf hP hD hS hl
                unfold X7_goesBy_J44 at hf
                refine lv_iadd hx hb dX7_goesBy_44 ?_
                refine lv_topi (fun x4_45 ex4_45 => ?_)
                have hf := lets_at hf ex4_45
                refine lv_istore (lv' := [(4, .int x4_45), (0, .ref q0), (1, .int x1), (2, .int x2), (3, .int x3_2), (5, .int x5_13)]) hx hb dX7_goesBy_45 hl (by decide) rfl (fun ls hl => ?_)
                obtain ⟨x5_47, ex5_47⟩ : ∃ y : Int32, y = x5_13 + (1 : Int32) := ⟨_, rfl⟩
                have hf := lets_at hf ex5_47
                refine lv_iinc (v := x5_47) (lv' := [(5, .int x5_47), (4, .int x4_45), (0, .ref q0), (1, .int x1), (2, .int x2), (3, .int x3_2)]) hx hb dX7_goesBy_47 hl (k := 5) rfl (by rw [ex5_47]; rfl) (by decide) rfl (fun ls hl => ?_)
                refine lv_goto (tgt := 13) hx hb dX7_goesBy_50 (by decide) ?_
                exact ih13 x4_45 x5_47 _ _ _ hf hP hD hS (lv_sub hl [2, 3, 4, 5, 1, 0] rfl)
              refine lv_icmp_ne (tgt := 43) hx hb dX7_goesBy_36 (by decide) (fun hc_36 => ?_) (fun hc_36 => ?_)
              · have hf := it_f hf hc_36
                refine lv_iconst (v := 0) hx hb dX7_goesBy_43 (by decide) ?_
                exact hJ44 (0 : Int32) _ _ _ hf hP hD hS (lv_sub hl [0, 1, 2, 3, 5] rfl)
              · have hf := it_t hf hc_36
                refine lv_iconst (v := 1) hx hb dX7_goesBy_39 (by decide) ?_
                refine lv_goto (tgt := 44) hx hb dX7_goesBy_40 (by decide) ?_
                exact hJ44 (1 : Int32) _ _ _ hf hP hD hS (lv_sub hl [0, 1, 2, 3, 5] rfl)
        exact hL13 _ (0 : Int32) (0 : Int32) _ _ _ hf hP hD hS (lv_sub hl [2, 3, 4, 5, 1, 0] rfl)
  exact hL2 _ (0 : Int32) z_years _ _ _ hf hP hD hS (lv_sub hl [1, 2, 3, 0] rfl)

def X7_areAlike_J52 (x4_5 : Int32) (self_5 : Int32 → Int32 → Option Int32) (t0_52 : Int32) : Option Int32 := lets (x4_5 + (1 : Int32)) (fun x4_53 => self_5 t0_52 x4_53)
def X7_areAlike_J51 (x4_5 : Int32) (self_5 : Int32 → Int32 → Option Int32) : Option Int32 := X7_areAlike_J52 x4_5 self_5 (0 : Int32)
def X7_areAlike_S5 (z_houses : Int32) (z_years : Nat → Int32) (x1 : Int32) (x2 : Int32) (self_5 : Int32 → Int32 → Option Int32) (x3_5 : Int32) (x4_5 : Int32) : Option Int32 := if ((4 : Int32) * z_houses) ≤ x4_5 then (gd (isB x3_5) (some x3_5)) else (if x3_5 = 0 then (X7_areAlike_J51 x4_5 self_5) else (gd (okx (((24 : Int32) * x1) + x4_5) 4824) (gd (okx (((24 : Int32) * x2) + x4_5) 4824) (if (z_years (((24 : Int32) * x1) + x4_5).toNatClampNeg) = (z_years (((24 : Int32) * x2) + x4_5).toNatClampNeg) then (X7_areAlike_J52 x4_5 self_5 (1 : Int32)) else (X7_areAlike_J51 x4_5 self_5)))))
def fX7_areAlike (z_houses : Int32) (z_years : Nat → Int32) (x1 : Int32) (x2 : Int32) : Option Int32 := it2 (X7_areAlike_S5 z_houses z_years x1 x2) 100000 (1 : Int32) (0 : Int32)
abbrev rmX7_areAlike : Room := { frames := 0, cells := 0, slots := 0, locals := 0 }
set_option maxHeartbeats 4000000 in
set_option maxRecDepth 100000 in
theorem ktX7_areAlike (l : Launch) (D : va_G) (cy : Nat → ClassId) (q0 : Nat) (q_text : Nat) (q_weight : Nat) (q_eats : Nat) (q_barred : Nat) (q_laws : Nat) (q_s : Nat) (q_kept : Nat) (q_isKept : Nat) (q_years : Nat) (q_likely : Nat) (q_then : Nat) (q_row : Nat) (q_best : Nat) (z_thrown : Int32) (z_trace : Int64) (z_typed : Int32) (z_next : Int32) (z_token : Int32) (z_place : Int32) (z_value : Int32) (z_fault : Int32) (z_houses : Int32) (z_draftHouses : Int32) (z_all : Int64) (z_years : Nat → Int32) (x1 : Int32) (x2 : Int32) (r : Int32) (hf : fX7_areAlike z_houses z_years x1 x2 = some r) : CtI l yX7_areAlike wsX7_areAlike rmX7_areAlike D cy [.ref q0, .int x1, .int x2] [(q0, oB 7 [.int z_thrown, .long z_trace, .ref q_text, .int z_typed, .int z_next, .int z_token, .int z_place, .int z_value, .int z_fault, .ref q_weight, .ref q_eats, .ref q_barred, .ref q_laws, .int z_houses, .int z_draftHouses, .ref q_s, .ref q_kept, .ref q_isKept, .ref q_years, .ref q_likely, .ref q_then, .long z_all, .ref q_row, .ref q_best]), (q_years, aI cy 4824 z_years)] [(q0, oB 7 [.int z_thrown, .long z_trace, .ref q_text, .int z_typed, .int z_next, .int z_token, .int z_place, .int z_value, .int z_fault, .ref q_weight, .ref q_eats, .ref q_barred, .ref q_laws, .int z_houses, .int z_draftHouses, .ref q_s, .ref q_kept, .ref q_isKept, .ref q_years, .ref q_likely, .ref q_then, .long z_all, .ref q_row, .ref q_best]), (q_years, aI cy 4824 z_years)] r := by
  refine Ct_ofZ (cc := cX7_areAlike) (nL := 5) (by decide) rfl (Nat.le_of_ble_eq_true rfl) ?_
  intro p e s m args below meth c A Q hM hret hP hD hS ls hl
  obtain ⟨hx, hb, hml, hown, hts, hcx, hA, hsx⟩ := hM
  have hown : s.vm.findClass RX7 = some m.cls := hown
  have hK := hcx.1
  have hN := hcx.2
  have kw0 := hts (.fieldLink RX7 122 "EachBringsModel" "houses" "I") (List.mem_of_getElem? (i := 1) rfl)
  have kc1 : ∀ w ∈ wsX70, w ∈ wsX7_areAlike := fun _ h => List.mem_cons_of_mem _ (List.mem_append_right _ h)
  have kw2 := hts (.fieldLink RX7 35 "EachBringsModel" "years" "[I") (List.mem_of_getElem? (i := 2) rfl)
  have hl : lv_has ls 5 [(0, .ref q0), (1, .int x1), (2, .int x2)] := hl
  have hret' : ∀ (pc : Nat) (ls : Array Slot) (H : Heap) (locs : List Loc) (v : Int32), decode cX7_areAlike pc = .ok (.ireturn, 1) → isB v → some v = some r → va_P D vwCl [(q0, oB 7 [.int z_thrown, .long z_trace, .ref q_text, .int z_typed, .int z_next, .int z_token, .int z_place, .int z_value, .int z_fault, .ref q_weight, .ref q_eats, .ref q_barred, .ref q_laws, .int z_houses, .int z_draftHouses, .ref q_s, .ref q_kept, .ref q_isKept, .ref q_years, .ref q_likely, .ref q_then, .long z_all, .ref q_row, .ref q_best]), (q_years, aI cy 4824 z_years)] H → va_D A [(q0, oB 7 [.int z_thrown, .long z_trace, .ref q_text, .int z_typed, .int z_next, .int z_token, .int z_place, .int z_value, .int z_fault, .ref q_weight, .ref q_eats, .ref q_barred, .ref q_laws, .int z_houses, .int z_draftHouses, .ref q_s, .ref q_kept, .ref q_isKept, .ref q_years, .ref q_likely, .ref q_then, .long z_all, .ref q_row, .ref q_best]), (q_years, aI cy 4824 z_years)] → va_S A s.heap H locs → W p l e rmX7_areAlike s m args below meth c H locs 0 0 Q (F0 m pc ls [.int v]) := by
    intro pc ls H locs v hd hbv he hP hD hS
    cases he
    exact hret _ _ _ _ _ hd hbv rfl hP hD hS
  unfold fX7_areAlike at hf
  refine lv_iconst (v := 1) hx hb dX7_areAlike_0 (by decide) ?_
  refine lv_istore_n (lv' := [(3, .int (1 : Int32)), (0, .ref q0), (1, .int x1), (2, .int x2)]) hx hb dX7_areAlike_1 rfl hl (by decide) rfl (fun ls hl => ?_)
  refine lv_iconst (v := 0) hx hb dX7_areAlike_2 (by decide) ?_
  refine lv_istore (lv' := [(4, .int (0 : Int32)), (3, .int (1 : Int32)), (0, .ref q0), (1, .int x1), (2, .int x2)]) hx hb dX7_areAlike_3 hl (by decide) rfl (fun ls hl => ?_)
  have hL5 : ∀ (n : Nat) (x3_5 : Int32) (x4_5 : Int32) (H : Heap) (locs : List Loc) (ls : Array Slot), it2 (X7_areAlike_S5 z_houses z_years x1 x2) n x3_5 x4_5 = some r → va_P D vwCl [(q0, oB 7 [.int z_thrown, .long z_trace, .ref q_text, .int z_typed, .int z_next, .int z_token, .int z_place, .int z_value, .int z_fault, .ref q_weight, .ref q_eats, .ref q_barred, .ref q_laws, .int z_houses, .int z_draftHouses, .ref q_s, .ref q_kept, .ref q_isKept, .ref q_years, .ref q_likely, .ref q_then, .long z_all, .ref q_row, .ref q_best]), (q_years, aI cy 4824 z_years)] H → va_D A [(q0, oB 7 [.int z_thrown, .long z_trace, .ref q_text, .int z_typed, .int z_next, .int z_token, .int z_place, .int z_value, .int z_fault, .ref q_weight, .ref q_eats, .ref q_barred, .ref q_laws, .int z_houses, .int z_draftHouses, .ref q_s, .ref q_kept, .ref q_isKept, .ref q_years, .ref q_likely, .ref q_then, .long z_all, .ref q_row, .ref q_best]), (q_years, aI cy 4824 z_years)] → va_S A s.heap H locs → lv_has ls 5 [(0, .ref q0), (1, .int x1), (2, .int x2), (3, .int x3_5), (4, .int x4_5)] → W p l e rmX7_areAlike s m args below meth c H locs 0 0 Q (F0 m 5 ls []) := by
    intro n
    induction n with
    | zero => intro x3_5 x4_5 H locs ls hf; exact absurd hf (by simp [it2])
    | succ n ih5 =>
      intro x3_5 x4_5 H locs ls hf hP hD hS hl
      have hf : X7_areAlike_S5 z_houses z_years x1 x2 (it2 (X7_areAlike_S5 z_houses z_years x1 x2) n) x3_5 x4_5 = some r := hf
      generalize it2 (X7_areAlike_S5 z_houses z_years x1 x2) n = self_5 at hf ih5
      unfold X7_areAlike_S5 at hf
      refine lv_iload hx hb dX7_areAlike_5 (lv_at hl 4 rfl) ?_
      refine lv_iconst (v := 4) hx hb dX7_areAlike_7 (by decide) ?_
      refine lv_aload_n hx hb dX7_areAlike_8 rfl (lv_at hl 0 rfl) ?_
      refine va_get (D := D) (ci := 7) (v := .int z_houses) (C := RX7) (T := TX7) (N := 24) hx hb hts kc1 hown hK hP 0 rfl rfl 13 (by decide) kw0 (fun _ h9 => h9) rfl dX7_areAlike_9 ?_
      refine lv_imul hx hb dX7_areAlike_12 ?_
      refine lv_icmp_ge (tgt := 59) hx hb dX7_areAlike_13 (by decide) (fun hc_13 => ?_) (fun hc_13 => ?_)
      · have hf := it_t hf hc_13
        refine lv_iload_n hx hb dX7_areAlike_59 rfl (lv_at hl 3 rfl) ?_
        obtain ⟨hg_60, hf⟩ := gd_some hf
        exact hret' _ _ _ _ _ dX7_areAlike_60 hg_60 hf hP hD hS
      · have hf := it_f hf hc_13
        refine lv_iload_n hx hb dX7_areAlike_16 rfl (lv_at hl 3 rfl) ?_
        have hJ52 : ∀ (t0_52 : Int32) (H : Heap) (locs : List Loc) (ls : Array Slot), X7_areAlike_J52 x4_5 self_5 t0_52 = some r → va_P D vwCl [(q0, oB 7 [.int z_thrown, .long z_trace, .ref q_text, .int z_typed, .int z_next, .int z_token, .int z_place, .int z_value, .int z_fault, .ref q_weight, .ref q_eats, .ref q_barred, .ref q_laws, .int z_houses, .int z_draftHouses, .ref q_s, .ref q_kept, .ref q_isKept, .ref q_years, .ref q_likely, .ref q_then, .long z_all, .ref q_row, .ref q_best]), (q_years, aI cy 4824 z_years)] H → va_D A [(q0, oB 7 [.int z_thrown, .long z_trace, .ref q_text, .int z_typed, .int z_next, .int z_token, .int z_place, .int z_value, .int z_fault, .ref q_weight, .ref q_eats, .ref q_barred, .ref q_laws, .int z_houses, .int z_draftHouses, .ref q_s, .ref q_kept, .ref q_isKept, .ref q_years, .ref q_likely, .ref q_then, .long z_all, .ref q_row, .ref q_best]), (q_years, aI cy 4824 z_years)] → va_S A s.heap H locs → lv_has ls 5 [(0, .ref q0), (1, .int x1), (2, .int x2), (4, .int x4_5)] → W p l e rmX7_areAlike s m args below meth c H locs 0 0 Q (F0 m 52 ls [.int t0_52]) := by
          intro t0_52 H locs ls hf hP hD hS hl
          unfold X7_areAlike_J52 at hf
          refine lv_istore_n (lv' := [(3, .int t0_52), (0, .ref q0), (1, .int x1), (2, .int x2), (4, .int x4_5)]) hx hb dX7_areAlike_52 rfl hl (by decide) rfl (fun ls hl => ?_)
          obtain ⟨x4_53, ex4_53⟩ : ∃ y : Int32, y = x4_5 + (1 : Int32) := ⟨_, rfl⟩
          have hf := lets_at hf ex4_53
          refine lv_iinc (v := x4_53) (lv' := [(4, .int x4_53), (3, .int t0_52), (0, .ref q0), (1, .int x1), (2, .int x2)]) hx hb dX7_areAlike_53 hl (k := 4) rfl (by rw [ex4_53]; rfl) (by decide) rfl (fun ls hl => ?_)
          refine lv_goto (tgt := 5) hx hb dX7_areAlike_56 (by decide) ?_
          exact ih5 t0_52 x4_53 _ _ _ hf hP hD hS (lv_sub hl [2, 3, 4, 1, 0] rfl)
        have hJ51 : ∀ (H : Heap) (locs : List Loc) (ls : Array Slot), X7_areAlike_J51 x4_5 self_5 = some r → va_P D vwCl [(q0, oB 7 [.int z_thrown, .long z_trace, .ref q_text, .int z_typed, .int z_next, .int z_token, .int z_place, .int z_value, .int z_fault, .ref q_weight, .ref q_eats, .ref q_barred, .ref q_laws, .int z_houses, .int z_draftHouses, .ref q_s, .ref q_kept, .ref q_isKept, .ref q_years, .ref q_likely, .ref q_then, .long z_all, .ref q_row, .ref q_best]), (q_years, aI cy 4824 z_years)] H → va_D A [(q0, oB 7 [.int z_thrown, .long z_trace, .ref q_text, .int z_typed, .int z_next, .int z_token, .int z_place, .int z_value, .int z_fault, .ref q_weight, .ref q_eats, .ref q_barred, .ref q_laws, .int z_houses, .int z_draftHouses, .ref q_s, .ref q_kept, .ref q_isKept, .ref q_years, .ref q_likely, .ref q_then, .long z_all, .ref q_row, .ref q_best]), (q_years, aI cy 4824 z_years)] → va_S A s.heap H locs → lv_has ls 5 [(0, .ref q0), (1, .int x1), (2, .int x2), (4, .int x4_5)] → W p l e rmX7_areAlike s m args below meth c H locs 0 0 Q (F0 m 51 ls []) := by
          intro H locs ls hf hP hD hS hl
          unfold X7_areAlike_J51 at hf
          refine lv_iconst (v := 0) hx hb dX7_areAlike_51 (by decide) ?_
          exact hJ52 (0 : Int32) _ _ _ hf hP hD hS (lv_sub hl [0, 1, 2, 3] rfl)
        refine lv_if_eq (tgt := 51) hx hb dX7_areAlike_17 (by decide) (fun hc_17 => ?_) (fun hc_17 => ?_)
        · have hf := it_t hf hc_17
          exact hJ51 _ _ _ hf hP hD hS (lv_sub hl [0, 1, 2, 4] rfl)
        · have hf := it_f hf hc_17
          refine lv_aload_n hx hb dX7_areAlike_20 rfl (lv_at hl 0 rfl) ?_
          refine va_get (D := D) (ci := 7) (v := .ref q_years) (C := RX7) (T := TX7) (N := 24) hx hb hts kc1 hown hK hP 0 rfl rfl 18 (by decide) kw2 (fun _ h9 => h9) rfl dX7_areAlike_21 ?_
          refine lv_bipush (v := 24) hx hb dX7_areAlike_24 (by decide) ?_
          refine lv_iload_n hx hb dX7_areAlike_26 rfl (lv_at hl 1 rfl) ?_
          refine lv_imul hx hb dX7_areAlike_27 ?_
          refine lv_iload hx hb dX7_areAlike_28 (lv_at hl 4 rfl) ?_
          refine lv_iadd hx hb dX7_areAlike_30 ?_
          obtain ⟨hg_31, hf⟩ := gd_some hf
          refine va_iald hx hb hK hP 1 0 rfl rfl hg_31 dX7_areAlike_31 ?_
          refine lv_aload_n hx hb dX7_areAlike_32 rfl (lv_at hl 0 rfl) ?_
          refine va_get (D := D) (ci := 7) (v := .ref q_years) (C := RX7) (T := TX7) (N := 24) hx hb hts kc1 hown hK hP 0 rfl rfl 18 (by decide) kw2 (fun _ h9 => h9) rfl dX7_areAlike_33 ?_
          refine lv_bipush (v := 24) hx hb dX7_areAlike_36 (by decide) ?_
          refine lv_iload_n hx hb dX7_areAlike_38 rfl (lv_at hl 2 rfl) ?_
          refine lv_imul hx hb dX7_areAlike_39 ?_
          refine lv_iload hx hb dX7_areAlike_40 (lv_at hl 4 rfl) ?_
          refine lv_iadd hx hb dX7_areAlike_42 ?_
          obtain ⟨hg_43, hf⟩ := gd_some hf
          refine va_iald hx hb hK hP 1 0 rfl rfl hg_43 dX7_areAlike_43 ?_
          refine lv_icmp_ne (tgt := 51) hx hb dX7_areAlike_44 (by decide) (fun hc_44 => ?_) (fun hc_44 => ?_)
          · have hf := it_f hf hc_44
            exact hJ51 _ _ _ hf hP hD hS (lv_sub hl [0, 1, 2, 4] rfl)
          · have hf := it_t hf hc_44
            refine lv_iconst (v := 1) hx hb dX7_areAlike_47 (by decide) ?_
            refine lv_goto (tgt := 52) hx hb dX7_areAlike_48 (by decide) ?_
            exact hJ52 (1 : Int32) _ _ _ hf hP hD hS (lv_sub hl [0, 1, 2, 4] rfl)
  exact hL5 _ (1 : Int32) (0 : Int32) _ _ _ hf hP hD hS (lv_sub hl [2, 3, 4, 1, 0] rfl)

def X7_swings_J100 (x1 : Int32) (z_years_71 : Nat → Int32) (x2_100 : Int32) (x3_100 : Int32) : Option (Int32 × Int32 × (Nat → Int32)) := if x1 = 0 then (some (x2_100, (0 : Int32), z_years_71)) else (some (x3_100 - x2_100, (0 : Int32), z_years_71))
def X7_swings_J118 (x2_73 : Int32) (self_73 : Int32 → Option (Int32 × Int32 × (Nat → Int32))) : Option (Int32 × Int32 × (Nat → Int32)) := lets (x2_73 + (1 : Int32)) (fun x2_118 => self_73 x2_118)
def X7_swings_S84 (z_houses : Int32) (x1 : Int32) (z_years_71 : Nat → Int32) (x2_73 : Int32) (self_73 : Int32 → Option (Int32 × Int32 × (Nat → Int32))) (self_84 : Int32 → Option (Int32 × Int32 × (Nat → Int32))) (x3_84 : Int32) : Option (Int32 × Int32 × (Nat → Int32)) := if (201 : Int32) ≤ x3_84 then (X7_swings_J118 x2_73 self_73) else ((fX7_areAlike z_houses z_years_71 x2_73 x3_84).bind (fun r_94 => if r_94 = 0 then (lets (x3_84 + (1 : Int32)) (fun x3_112 => self_84 x3_112)) else (X7_swings_J100 x1 z_years_71 x2_73 x3_84)))
def X7_swings_S73 (z_houses : Int32) (x1 : Int32) (z_years_71 : Nat → Int32) (self_73 : Int32 → Option (Int32 × Int32 × (Nat → Int32))) (x2_73 : Int32) : Option (Int32 × Int32 × (Nat → Int32)) := if (200 : Int32) ≤ x2_73 then (some ((-9 : Int32), (0 : Int32), z_years_71)) else (lets (x2_73 + (1 : Int32)) (fun x3_83 => it1 (X7_swings_S84 z_houses x1 z_years_71 x2_73 self_73) 100000 x3_83))
def X7_swings_J71 (z_houses : Int32) (x1 : Int32) (z_years_71 : Nat → Int32) : Option (Int32 × Int32 × (Nat → Int32)) := it1 (X7_swings_S73 z_houses x1 z_years_71) 100000 (0 : Int32)
def X7_swings_S44 (z_houses : Int32) (z_laws : Nat → Int32) (z_s : Nat → Int32) (x1 : Int32) (self_44 : Int32 → (Nat → Int32) → Option (Int32 × Int32 × (Nat → Int32))) (x2_44 : Int32) (z_years_44 : Nat → Int32) : Option (Int32 × Int32 × (Nat → Int32)) := if (201 : Int32) ≤ x2_44 then (X7_swings_J71 z_houses x1 z_years_44) else ((fX7_goesBy z_houses z_laws z_s z_years_44 ((24 : Int32) * (x2_44 - (1 : Int32))) ((24 : Int32) * x2_44)).bind (fun r_62 => lets (x2_44 + (1 : Int32)) (fun x2_65 => self_44 x2_65 r_62)))
def X7_swings_J42 (z_houses : Int32) (z_laws : Nat → Int32) (z_s : Nat → Int32) (x1 : Int32) (z_years_42 : Nat → Int32) : Option (Int32 × Int32 × (Nat → Int32)) := it2 (X7_swings_S44 z_houses z_laws z_s x1) 100000 (1 : Int32) z_years_42
def X7_swings_S18 (z_houses : Int32) (z_laws : Nat → Int32) (z_s : Nat → Int32) (x1 : Int32) (self_18 : Int32 → (Nat → Int32) → Option (Int32 × Int32 × (Nat → Int32))) (x2_18 : Int32) (z_years_18 : Nat → Int32) : Option (Int32 × Int32 × (Nat → Int32)) := if (24 : Int32) ≤ x2_18 then (X7_swings_J42 z_houses z_laws z_s x1 z_years_18) else (gd (okx x2_18 67) (gd (okx x2_18 4824) (lets (upd z_years_18 x2_18.toNatClampNeg (z_s x2_18.toNatClampNeg)) (fun z_years_35 => lets (x2_18 + (1 : Int32)) (fun x2_36 => self_18 x2_36 z_years_35)))))
def fX7_swings (z_houses : Int32) (z_laws : Nat → Int32) (z_s : Nat → Int32) (z_years : Nat → Int32) (x1 : Int32) : Option (Int32 × Int32 × (Nat → Int32)) := (fX7_in x1 (0 : Int32) (1 : Int32)).bind (fun r_8 => if r_8 = 0 then (some ((-1 : Int32), (0 : Int32), z_years)) else (it2 (X7_swings_S18 z_houses z_laws z_s x1) 100000 (0 : Int32) z_years))
abbrev rmX7_swings : Room := { frames := 2, cells := 0, slots := 0, locals := 51 }
set_option maxHeartbeats 4000000 in
set_option maxRecDepth 100000 in
theorem ktX7_swings (l : Launch) (D : va_G) (cy : Nat → ClassId) (q0 : Nat) (q_text : Nat) (q_weight : Nat) (q_eats : Nat) (q_barred : Nat) (q_laws : Nat) (q_s : Nat) (q_kept : Nat) (q_isKept : Nat) (q_years : Nat) (q_likely : Nat) (q_then : Nat) (q_row : Nat) (q_best : Nat) (z_thrown : Int32) (z_trace : Int64) (z_typed : Int32) (z_next : Int32) (z_token : Int32) (z_place : Int32) (z_value : Int32) (z_fault : Int32) (z_houses : Int32) (z_draftHouses : Int32) (z_all : Int64) (z_laws : Nat → Int32) (z_s : Nat → Int32) (z_years : Nat → Int32) (x1 : Int32) (r : Int32 × Int32 × (Nat → Int32)) (hf : fX7_swings z_houses z_laws z_s z_years x1 = some r) : CtI l yX7_swings wsX7_swings rmX7_swings D cy [.ref q0, .int x1] [(q0, oB 7 [.int z_thrown, .long z_trace, .ref q_text, .int z_typed, .int z_next, .int z_token, .int z_place, .int z_value, .int z_fault, .ref q_weight, .ref q_eats, .ref q_barred, .ref q_laws, .int z_houses, .int z_draftHouses, .ref q_s, .ref q_kept, .ref q_isKept, .ref q_years, .ref q_likely, .ref q_then, .long z_all, .ref q_row, .ref q_best]), (q_laws, aI cy 6 z_laws), (q_s, aI cy 67 z_s), (q_years, aI cy 4824 z_years)] [(q0, oB 7 [.int r.2.1, .long z_trace, .ref q_text, .int z_typed, .int z_next, .int z_token, .int z_place, .int z_value, .int z_fault, .ref q_weight, .ref q_eats, .ref q_barred, .ref q_laws, .int z_houses, .int z_draftHouses, .ref q_s, .ref q_kept, .ref q_isKept, .ref q_years, .ref q_likely, .ref q_then, .long z_all, .ref q_row, .ref q_best]), (q_laws, aI cy 6 z_laws), (q_s, aI cy 67 z_s), (q_years, aI cy 4824 r.2.2)] r.1 := by
  refine Ct_ofI (cc := cX7_swings) (nL := 4) (by decide) rfl (Nat.le_of_ble_eq_true rfl) ?_
  intro p e s m args below meth c A Q hM hret hP hD hS ls hl
  obtain ⟨hx, hb, hml, hown, hts, hcx, hA, hsx⟩ := hM
  have hown : s.vm.findClass RX7 = some m.cls := hown
  have hK := hcx.1
  have hN := hcx.2
  have kw0 := hts (.fieldLink RX7 54 "EachBringsModel" "thrown" "I") (List.mem_of_getElem? (i := 1) rfl)
  have kc1 : ∀ w ∈ wsX70, w ∈ wsX7_swings := fun _ h => List.mem_cons_of_mem _ (List.mem_append_right _ h)
  have kw2 := hts (.fieldLink RX7 35 "EachBringsModel" "years" "[I") (List.mem_of_getElem? (i := 2) rfl)
  have kw3 := hts (.fieldLink RX7 25 "EachBringsModel" "s" "[I") (List.mem_of_getElem? (i := 3) rfl)
  have hl : lv_has ls 4 [(0, .ref q0), (1, .int x1)] := hl
  have hret' : ∀ (pc : Nat) (ls : Array Slot) (H : Heap) (locs : List Loc) (v : Int32) (w0 : Int32) (w1 : Nat → Int32), decode cX7_swings pc = .ok (.ireturn, 1) → some (v, w0, w1) = some r → va_P D vwCl [(q0, oB 7 [.int w0, .long z_trace, .ref q_text, .int z_typed, .int z_next, .int z_token, .int z_place, .int z_value, .int z_fault, .ref q_weight, .ref q_eats, .ref q_barred, .ref q_laws, .int z_houses, .int z_draftHouses, .ref q_s, .ref q_kept, .ref q_isKept, .ref q_years, .ref q_likely, .ref q_then, .long z_all, .ref q_row, .ref q_best]), (q_laws, aI cy 6 z_laws), (q_s, aI cy 67 z_s), (q_years, aI cy 4824 w1)] H → va_D A [(q0, oB 7 [.int w0, .long z_trace, .ref q_text, .int z_typed, .int z_next, .int z_token, .int z_place, .int z_value, .int z_fault, .ref q_weight, .ref q_eats, .ref q_barred, .ref q_laws, .int z_houses, .int z_draftHouses, .ref q_s, .ref q_kept, .ref q_isKept, .ref q_years, .ref q_likely, .ref q_then, .long z_all, .ref q_row, .ref q_best]), (q_laws, aI cy 6 z_laws), (q_s, aI cy 67 z_s), (q_years, aI cy 4824 w1)] → va_S A s.heap H locs → W p l e rmX7_swings s m args below meth c H locs 0 0 Q (F0 m pc ls [.int v]) := by
    intro pc ls H locs v w0 w1 hd he hP hD hS
    cases he
    exact hret _ _ _ _ _ hd rfl hP hD hS
  unfold fX7_swings at hf
  refine lv_aload_n hx hb dX7_swings_0 rfl (lv_at hl 0 rfl) ?_
  refine lv_iconst (v := 0) hx hb dX7_swings_1 (by decide) ?_
  refine va_put (D := D) (ci := 7) (v := .int (0 : Int32)) (ty := .int) (C := RX7) (T := TX7) (N := 24) hx hb hts kc1 tyX7 tyX7_ok nmX7 hown hK hP hD hS 0 rfl rfl 0 (by decide) kw0 (fun _ h9 => h9) rfl pfI rfl rfl (Nat.le_of_ble_eq_true rfl) dX7_swings_2 (fun H locs hP hD hS => ?_)
  have hP : va_P D vwCl [(q0, oB 7 [.int (0 : Int32), .long z_trace, .ref q_text, .int z_typed, .int z_next, .int z_token, .int z_place, .int z_value, .int z_fault, .ref q_weight, .ref q_eats, .ref q_barred, .ref q_laws, .int z_houses, .int z_draftHouses, .ref q_s, .ref q_kept, .ref q_isKept, .ref q_years, .ref q_likely, .ref q_then, .long z_all, .ref q_row, .ref q_best]), (q_laws, aI cy 6 z_laws), (q_s, aI cy 67 z_s), (q_years, aI cy 4824 z_years)] H := hP
  have hD : va_D A [(q0, oB 7 [.int (0 : Int32), .long z_trace, .ref q_text, .int z_typed, .int z_next, .int z_token, .int z_place, .int z_value, .int z_fault, .ref q_weight, .ref q_eats, .ref q_barred, .ref q_laws, .int z_houses, .int z_draftHouses, .ref q_s, .ref q_kept, .ref q_isKept, .ref q_years, .ref q_likely, .ref q_then, .long z_all, .ref q_row, .ref q_best]), (q_laws, aI cy 6 z_laws), (q_s, aI cy 67 z_s), (q_years, aI cy 4824 z_years)] := hD
  refine lv_iload_n hx hb dX7_swings_5 rfl (lv_at hl 1 rfl) ?_
  refine lv_iconst (v := 0) hx hb dX7_swings_6 (by decide) ?_
  refine lv_iconst (v := 1) hx hb dX7_swings_7 (by decide) ?_
  obtain ⟨r_8, hr_8, hf⟩ := bd_some hf
  refine cl_i (wc := []) (w1 := []) (wr := [(q0, oB 7 [.int (0 : Int32), .long z_trace, .ref q_text, .int z_typed, .int z_next, .int z_token, .int z_place, .int z_value, .int z_fault, .ref q_weight, .ref q_eats, .ref q_barred, .ref q_laws, .int z_houses, .int z_draftHouses, .ref q_s, .ref q_kept, .ref q_isKept, .ref q_years, .ref q_likely, .ref q_then, .long z_all, .ref q_row, .ref q_best]), (q_laws, aI cy 6 z_laws), (q_s, aI cy 67 z_s), (q_years, aI cy 4824 z_years)]) (w2 := [(q0, oB 7 [.int (0 : Int32), .long z_trace, .ref q_text, .int z_typed, .int z_next, .int z_token, .int z_place, .int z_value, .int z_fault, .ref q_weight, .ref q_eats, .ref q_barred, .ref q_laws, .int z_houses, .int z_draftHouses, .ref q_s, .ref q_kept, .ref q_isKept, .ref q_years, .ref q_likely, .ref q_then, .long z_all, .ref q_row, .ref q_best]), (q_laws, aI cy 6 z_laws), (q_s, aI cy 67 z_s), (q_years, aI cy 4824 z_years)]) (va_runS (As := [.int x1, .int (0 : Int32), .int (1 : Int32)]) (rest := []) ⟨hx, hb, hml, hown, hts⟩ (ktX7_in l D cy x1 (0 : Int32) (1 : Int32) r_8 hr_8 _) (va_cwS 3 hts gX7_swings_X7_in rfl rfl rfl (by decide +kernel) ⟨Nat.le_of_ble_eq_true rfl, Nat.le_of_ble_eq_true rfl⟩) (pre_S (wc := []) hcx hsx hS hA hP hD [] rfl (by decide)) rfl rfl hl.1 rfl (lv_room (Nat.le_of_ble_eq_true rfl)) dX7_swings_8 ⟨Nat.zero_le _, Nat.zero_le _⟩) hP hD hS hA [] [0, 1, 2, 3] [0, 1, 2, 3] rfl rfl (by decide) (by decide) (by decide) rfl (fun H locs hP hD hS => ?_)
  refine lv_if_ne (tgt := 16) hx hb dX7_swings_11 (by decide) (fun hc_11 => ?_) (fun hc_11 => ?_)
  · have hf := it_f hf hc_11
    refine lv_iconst (v := 0) hx hb dX7_swings_16 (by decide) ?_
    refine lv_istore_n (lv' := [(2, .int (0 : Int32)), (0, .ref q0), (1, .int x1)]) hx hb dX7_swings_17 rfl hl (by decide) rfl (fun ls hl => ?_)
    have hJ42 : ∀ (z_years_42 : Nat → Int32) (H : Heap) (locs : List Loc) (ls : Array Slot), X7_swings_J42 z_houses z_laws z_s x1 z_years_42 = some r → va_P D vwCl [(q0, oB 7 [.int (0 : Int32), .long z_trace, .ref q_text, .int z_typed, .int z_next, .int z_token, .int z_place, .int z_value, .int z_fault, .ref q_weight, .ref q_eats, .ref q_barred, .ref q_laws, .int z_houses, .int z_draftHouses, .ref q_s, .ref q_kept, .ref q_isKept, .ref q_years, .ref q_likely, .ref q_then, .long z_all, .ref q_row, .ref q_best]), (q_laws, aI cy 6 z_laws), (q_s, aI cy 67 z_s), (q_years, aI cy 4824 z_years_42)] H → va_D A [(q0, oB 7 [.int (0 : Int32), .long z_trace, .ref q_text, .int z_typed, .int z_next, .int z_token, .int z_place, .int z_value, .int z_fault, .ref q_weight, .ref q_eats, .ref q_barred, .ref q_laws, .int z_houses, .int z_draftHouses, .ref q_s, .ref q_kept, .ref q_isKept, .ref q_years, .ref q_likely, .ref q_then, .long z_all, .ref q_row, .ref q_best]), (q_laws, aI cy 6 z_laws), (q_s, aI cy 67 z_s), (q_years, aI cy 4824 z_years_42)] → va_S A s.heap H locs → lv_has ls 4 [(0, .ref q0), (1, .int x1)] → W p l e rmX7_swings s m args below meth c H locs 0 0 Q (F0 m 42 ls []) := by
      intro z_years_42 H locs ls hf hP hD hS hl
      unfold X7_swings_J42 at hf
      refine lv_iconst (v := 1) hx hb dX7_swings_42 (by decide) ?_
      refine lv_istore_n (lv' := [(2, .int (1 : Int32)), (0, .ref q0), (1, .int x1)]) hx hb dX7_swings_43 rfl hl (by decide) rfl (fun ls hl => ?_)
      have hJ71 : ∀ (z_years_71 : Nat → Int32) (H : Heap) (locs : List Loc) (ls : Array Slot), X7_swings_J71 z_houses x1 z_years_71 = some r → va_P D vwCl [(q0, oB 7 [.int (0 : Int32), .long z_trace, .ref q_text, .int z_typed, .int z_next, .int z_token, .int z_place, .int z_value, .int z_fault, .ref q_weight, .ref q_eats, .ref q_barred, .ref q_laws, .int z_houses, .int z_draftHouses, .ref q_s, .ref q_kept, .ref q_isKept, .ref q_years, .ref q_likely, .ref q_then, .long z_all, .ref q_row, .ref q_best]), (q_laws, aI cy 6 z_laws), (q_s, aI cy 67 z_s), (q_years, aI cy 4824 z_years_71)] H → va_D A [(q0, oB 7 [.int (0 : Int32), .long z_trace, .ref q_text, .int z_typed, .int z_next, .int z_token, .int z_place, .int z_value, .int z_fault, .ref q_weight, .ref q_eats, .ref q_barred, .ref q_laws, .int z_houses, .int z_draftHouses, .ref q_s, .ref q_kept, .ref q_isKept, .ref q_years, .ref q_likely, .ref q_then, .long z_all, .ref q_row, .ref q_best]), (q_laws, aI cy 6 z_laws), (q_s, aI cy 67 z_s), (q_years, aI cy 4824 z_years_71)] → va_S A s.heap H locs → lv_has ls 4 [(0, .ref q0), (1, .int x1)] → W p l e rmX7_swings s m args below meth c H locs 0 0 Q (F0 m 71 ls []) := by
        intro z_years_71 H locs ls hf hP hD hS hl
        unfold X7_swings_J71 at hf
        refine lv_iconst (v := 0) hx hb dX7_swings_71 (by decide) ?_
        refine lv_istore_n (lv' := [(2, .int (0 : Int32)), (0, .ref q0), (1, .int x1)]) hx hb dX7_swings_72 rfl hl (by decide) rfl (fun ls hl => ?_)
        have hJ100 : ∀ (x2_100 : Int32) (x3_100 : Int32) (H : Heap) (locs : List Loc) (ls : Array Slot), X7_swings_J100 x1 z_years_71 x2_100 x3_100 = some r → va_P D vwCl [(q0, oB 7 [.int (0 : Int32), .long z_trace, .ref q_text, .int z_typed, .int z_next, .int z_token, .int z_place, .int z_value, .int z_fault, .ref q_weight, .ref q_eats, .ref q_barred, .ref q_laws, .int z_houses, .int z_draftHouses, .ref q_s, .ref q_kept, .ref q_isKept, .ref q_years, .ref q_likely, .ref q_then, .long z_all, .ref q_row, .ref q_best]), (q_laws, aI cy 6 z_laws), (q_s, aI cy 67 z_s), (q_years, aI cy 4824 z_years_71)] H → va_D A [(q0, oB 7 [.int (0 : Int32), .long z_trace, .ref q_text, .int z_typed, .int z_next, .int z_token, .int z_place, .int z_value, .int z_fault, .ref q_weight, .ref q_eats, .ref q_barred, .ref q_laws, .int z_houses, .int z_draftHouses, .ref q_s, .ref q_kept, .ref q_isKept, .ref q_years, .ref q_likely, .ref q_then, .long z_all, .ref q_row, .ref q_best]), (q_laws, aI cy 6 z_laws), (q_s, aI cy 67 z_s), (q_years, aI cy 4824 z_years_71)] → va_S A s.heap H locs → lv_has ls 4 [(1, .int x1), (2, .int x2_100), (3, .int x3_100)] → W p l e rmX7_swings s m args below meth c H locs 0 0 Q (F0 m 100 ls []) := by
          intro x2_100 x3_100 H locs ls hf hP hD hS hl
          unfold X7_swings_J100 at hf
          refine lv_iload_n hx hb dX7_swings_100 rfl (lv_at hl 0 rfl) ?_
          refine lv_if_ne (tgt := 108) hx hb dX7_swings_101 (by decide) (fun hc_101 => ?_) (fun hc_101 => ?_)
          · have hf := it_f hf hc_101
            refine lv_iload_n hx hb dX7_swings_108 rfl (lv_at hl 2 rfl) ?_
            refine lv_iload_n hx hb dX7_swings_109 rfl (lv_at hl 1 rfl) ?_
            refine lv_isub hx hb dX7_swings_110 ?_
            exact hret' _ _ _ _ _ _ _ dX7_swings_111 hf hP hD hS
          · have hf := it_t hf hc_101
            refine lv_iload_n hx hb dX7_swings_104 rfl (lv_at hl 1 rfl) ?_
            refine lv_goto (tgt := 111) hx hb dX7_swings_105 (by decide) ?_
            exact hret' _ _ _ _ _ _ _ dX7_swings_111 hf hP hD hS
        have hL73 : ∀ (n : Nat) (x2_73 : Int32) (H : Heap) (locs : List Loc) (ls : Array Slot), it1 (X7_swings_S73 z_houses x1 z_years_71) n x2_73 = some r → va_P D vwCl [(q0, oB 7 [.int (0 : Int32), .long z_trace, .ref q_text, .int z_typed, .int z_next, .int z_token, .int z_place, .int z_value, .int z_fault, .ref q_weight, .ref q_eats, .ref q_barred, .ref q_laws, .int z_houses, .int z_draftHouses, .ref q_s, .ref q_kept, .ref q_isKept, .ref q_years, .ref q_likely, .ref q_then, .long z_all, .ref q_row, .ref q_best]), (q_laws, aI cy 6 z_laws), (q_s, aI cy 67 z_s), (q_years, aI cy 4824 z_years_71)] H → va_D A [(q0, oB 7 [.int (0 : Int32), .long z_trace, .ref q_text, .int z_typed, .int z_next, .int z_token, .int z_place, .int z_value, .int z_fault, .ref q_weight, .ref q_eats, .ref q_barred, .ref q_laws, .int z_houses, .int z_draftHouses, .ref q_s, .ref q_kept, .ref q_isKept, .ref q_years, .ref q_likely, .ref q_then, .long z_all, .ref q_row, .ref q_best]), (q_laws, aI cy 6 z_laws), (q_s, aI cy 67 z_s), (q_years, aI cy 4824 z_years_71)] → va_S A s.heap H locs → lv_has ls 4 [(0, .ref q0), (1, .int x1), (2, .int x2_73)] → W p l e rmX7_swings s m args below meth c H locs 0 0 Q (F0 m 73 ls []) := by
          intro n
          induction n with
          | zero => intro x2_73 H locs ls hf; exact absurd hf (by simp [it1])
          | succ n ih73 =>
            intro x2_73 H locs ls hf hP hD hS hl
            have hf : X7_swings_S73 z_houses x1 z_years_71 (it1 (X7_swings_S73 z_houses x1 z_years_71) n) x2_73 = some r := hf
            generalize it1 (X7_swings_S73 z_houses x1 z_years_71) n = self_73 at hf ih73
            unfold X7_swings_S73 at hf
            refine lv_iload_n hx hb dX7_swings_73 rfl (lv_at hl 2 rfl) ?_
            refine lv_sipush (v := 200) hx hb dX7_swings_74 (by decide) ?_
            refine lv_icmp_ge (tgt := 124) hx hb dX7_swings_77 (by decide) (fun hc_77 => ?_) (fun hc_77 => ?_)
            · have hf := it_t hf hc_77
              refine lv_bipush (v := -9) hx hb dX7_swings_124 (by decide) ?_
              exact hret' _ _ _ _ _ _ _ dX7_swings_126 hf hP hD hS
            · have hf := it_f hf hc_77
              refine lv_iload_n hx hb dX7_swings_80 rfl (lv_at hl 2 rfl) ?_
              refine lv_iconst (v := 1) hx hb dX7_swings_81 (by decide) ?_
              refine lv_iadd hx hb dX7_swings_82 ?_
              refine lv_topi (fun x3_83 ex3_83 => ?_)
              have hf := lets_at hf ex3_83
              refine lv_istore_n (lv' := [(3, .int x3_83), (0, .ref q0), (1, .int x1), (2, .int x2_73)]) hx hb dX7_swings_83 rfl hl (by decide) rfl (fun ls hl => ?_)
              have hJ118 : ∀ (H : Heap) (locs : List Loc) (ls : Array Slot), X7_swings_J118 x2_73 self_73 = some r → va_P D vwCl [(q0, oB 7 [.int (0 : Int32), .long z_trace, .ref q_text, .int z_typed, .int z_next, .int z_token, .int z_place, .int z_value, .int z_fault, .ref q_weight, .ref q_eats, .ref q_barred, .ref q_laws, .int z_houses, .int z_draftHouses, .ref q_s, .ref q_kept, .ref q_isKept, .ref q_years, .ref q_likely, .ref q_then, .long z_all, .ref q_row, .ref q_best]), (q_laws, aI cy 6 z_laws), (q_s, aI cy 67 z_s), (q_years, aI cy 4824 z_years_71)] H → va_D A [(q0, oB 7 [.int (0 : Int32), .long z_trace, .ref q_text, .int z_typed, .int z_next, .int z_token, .int z_place, .int z_value, .int z_fault, .ref q_weight, .ref q_eats, .ref q_barred, .ref q_laws, .int z_houses, .int z_draftHouses, .ref q_s, .ref q_kept, .ref q_isKept, .ref q_years, .ref q_likely, .ref q_then, .long z_all, .ref q_row, .ref q_best]), (q_laws, aI cy 6 z_laws), (q_s, aI cy 67 z_s), (q_years, aI cy 4824 z_years_71)] → va_S A s.heap H locs → lv_has ls 4 [(0, .ref q0), (1, .int x1), (2, .int x2_73)] → W p l e rmX7_swings s m args below meth c H locs 0 0 Q (F0 m 118 ls []) := by
                intro H locs ls hf hP hD hS hl
                unfold X7_swings_J118 at hf
                obtain ⟨x2_118, ex2_118⟩ : ∃ y : Int32, y = x2_73 + (1 : Int32) := ⟨_, rfl⟩
                have hf := lets_at hf ex2_118
                refine lv_iinc (v := x2_118) (lv' := [(2, .int x2_118), (0, .ref q0), (1, .int x1)]) hx hb dX7_swings_118 hl (k := 2) rfl (by rw [ex2_118]; rfl) (by decide) rfl (fun ls hl => ?_)
                refine lv_goto (tgt := 73) hx hb dX7_swings_121 (by decide) ?_
                exact ih73 x2_118 _ _ _ hf hP hD hS (lv_sub hl [1, 2, 0] rfl)
              have hL84 : ∀ (n : Nat) (x3_84 : Int32) (H : Heap) (locs : List Loc) (ls : Array Slot), it1 (X7_swings_S84 z_houses x1 z_years_71 x2_73 self_73) n x3_84 = some r → va_P D vwCl [(q0, oB 7 [.int (0 : Int32), .long z_trace, .ref q_text, .int z_typed, .int z_next, .int z_token, .int z_place, .int z_value, .int z_fault, .ref q_weight, .ref q_eats, .ref q_barred, .ref q_laws, .int z_houses, .int z_draftHouses, .ref q_s, .ref q_kept, .ref q_isKept, .ref q_years, .ref q_likely, .ref q_then, .long z_all, .ref q_row, .ref q_best]), (q_laws, aI cy 6 z_laws), (q_s, aI cy 67 z_s), (q_years, aI cy 4824 z_years_71)] H → va_D A [(q0, oB 7 [.int (0 : Int32), .long z_trace, .ref q_text, .int z_typed, .int z_next, .int z_token, .int z_place, .int z_value, .int z_fault, .ref q_weight, .ref q_eats, .ref q_barred, .ref q_laws, .int z_houses, .int z_draftHouses, .ref q_s, .ref q_kept, .ref q_isKept, .ref q_years, .ref q_likely, .ref q_then, .long z_all, .ref q_row, .ref q_best]), (q_laws, aI cy 6 z_laws), (q_s, aI cy 67 z_s), (q_years, aI cy 4824 z_years_71)] → va_S A s.heap H locs → lv_has ls 4 [(0, .ref q0), (1, .int x1), (2, .int x2_73), (3, .int x3_84)] → W p l e rmX7_swings s m args below meth c H locs 0 0 Q (F0 m 84 ls []) := by
                intro n
                induction n with
                | zero => intro x3_84 H locs ls hf; exact absurd hf (by simp [it1])
                | succ n ih84 =>
                  intro x3_84 H locs ls hf hP hD hS hl
                  have hf : X7_swings_S84 z_houses x1 z_years_71 x2_73 self_73 (it1 (X7_swings_S84 z_houses x1 z_years_71 x2_73 self_73) n) x3_84 = some r := hf
                  generalize it1 (X7_swings_S84 z_houses x1 z_years_71 x2_73 self_73) n = self_84 at hf ih84
                  unfold X7_swings_S84 at hf
                  refine lv_iload_n hx hb dX7_swings_84 rfl (lv_at hl 3 rfl) ?_
                  refine lv_sipush (v := 201) hx hb dX7_swings_85 (by decide) ?_
                  refine lv_icmp_ge (tgt := 118) hx hb dX7_swings_88 (by decide) (fun hc_88 => ?_) (fun hc_88 => ?_)
                  · have hf := it_t hf hc_88
                    exact hJ118 _ _ _ hf hP hD hS (lv_sub hl [0, 1, 2] rfl)
                  · have hf := it_f hf hc_88
                    refine lv_aload_n hx hb dX7_swings_91 rfl (lv_at hl 0 rfl) ?_
                    refine lv_iload_n hx hb dX7_swings_92 rfl (lv_at hl 2 rfl) ?_
                    refine lv_iload_n hx hb dX7_swings_93 rfl (lv_at hl 3 rfl) ?_
                    obtain ⟨r_94, hr_94, hf⟩ := bd_some hf
                    refine cl_i (wc := [(q0, oB 7 [.int (0 : Int32), .long z_trace, .ref q_text, .int z_typed, .int z_next, .int z_token, .int z_place, .int z_value, .int z_fault, .ref q_weight, .ref q_eats, .ref q_barred, .ref q_laws, .int z_houses, .int z_draftHouses, .ref q_s, .ref q_kept, .ref q_isKept, .ref q_years, .ref q_likely, .ref q_then, .long z_all, .ref q_row, .ref q_best]), (q_years, aI cy 4824 z_years_71)]) (w1 := [(q0, oB 7 [.int (0 : Int32), .long z_trace, .ref q_text, .int z_typed, .int z_next, .int z_token, .int z_place, .int z_value, .int z_fault, .ref q_weight, .ref q_eats, .ref q_barred, .ref q_laws, .int z_houses, .int z_draftHouses, .ref q_s, .ref q_kept, .ref q_isKept, .ref q_years, .ref q_likely, .ref q_then, .long z_all, .ref q_row, .ref q_best]), (q_years, aI cy 4824 z_years_71)]) (wr := [(q_laws, aI cy 6 z_laws), (q_s, aI cy 67 z_s)]) (w2 := [(q0, oB 7 [.int (0 : Int32), .long z_trace, .ref q_text, .int z_typed, .int z_next, .int z_token, .int z_place, .int z_value, .int z_fault, .ref q_weight, .ref q_eats, .ref q_barred, .ref q_laws, .int z_houses, .int z_draftHouses, .ref q_s, .ref q_kept, .ref q_isKept, .ref q_years, .ref q_likely, .ref q_then, .long z_all, .ref q_row, .ref q_best]), (q_laws, aI cy 6 z_laws), (q_s, aI cy 67 z_s), (q_years, aI cy 4824 z_years_71)]) (va_runV (As := [.int x2_73, .int x3_84]) (rest := []) ⟨hx, hb, hml, hown, hts⟩ (ktX7_areAlike l D cy q0 q_text q_weight q_eats q_barred q_laws q_s q_kept q_isKept q_years q_likely q_then q_row q_best (0 : Int32) z_trace z_typed z_next z_token z_place z_value z_fault z_houses z_draftHouses z_all z_years_71 x2_73 x3_84 r_94 hr_94 _) (cwV 2 hts gX7_swings_X7_areAlike rfl rfl rfl (by decide +kernel) ⟨Nat.le_of_ble_eq_true rfl, Nat.le_of_ble_eq_true rfl⟩) (pre_V (wc := [(q0, oB 7 [.int (0 : Int32), .long z_trace, .ref q_text, .int z_typed, .int z_next, .int z_token, .int z_place, .int z_value, .int z_fault, .ref q_weight, .ref q_eats, .ref q_barred, .ref q_laws, .int z_houses, .int z_draftHouses, .ref q_s, .ref q_kept, .ref q_isKept, .ref q_years, .ref q_likely, .ref q_then, .long z_all, .ref q_row, .ref q_best]), (q_years, aI cy 4824 z_years_71)]) (ci := 7) hcx hsx hS hA hP hD [0, 3] rfl (by decide) rfl rfl) rfl rfl hl.1 rfl (lv_room (Nat.le_of_ble_eq_true rfl)) dX7_swings_94 ⟨Nat.zero_le _, Nat.zero_le _⟩) hP hD hS hA [0, 3] [1, 2] [2, 0, 1, 3] rfl rfl (by decide) (by decide) (by decide) rfl (fun H locs hP hD hS => ?_)
                    refine lv_if_eq (tgt := 112) hx hb dX7_swings_97 (by decide) (fun hc_97 => ?_) (fun hc_97 => ?_)
                    · have hf := it_t hf hc_97
                      obtain ⟨x3_112, ex3_112⟩ : ∃ y : Int32, y = x3_84 + (1 : Int32) := ⟨_, rfl⟩
                      have hf := lets_at hf ex3_112
                      refine lv_iinc (v := x3_112) (lv' := [(3, .int x3_112), (0, .ref q0), (1, .int x1), (2, .int x2_73)]) hx hb dX7_swings_112 hl (k := 3) rfl (by rw [ex3_112]; rfl) (by decide) rfl (fun ls hl => ?_)
                      refine lv_goto (tgt := 84) hx hb dX7_swings_115 (by decide) ?_
                      exact ih84 x3_112 _ _ _ hf hP hD hS (lv_sub hl [1, 2, 3, 0] rfl)
                    · have hf := it_f hf hc_97
                      exact hJ100 x2_73 x3_84 _ _ _ hf hP hD hS (lv_sub hl [1, 2, 3] rfl)
              exact hL84 _ x3_83 _ _ _ hf hP hD hS (lv_sub hl [1, 2, 3, 0] rfl)
        exact hL73 _ (0 : Int32) _ _ _ hf hP hD hS (lv_sub hl [1, 2, 0] rfl)
      have hL44 : ∀ (n : Nat) (x2_44 : Int32) (z_years_44 : Nat → Int32) (H : Heap) (locs : List Loc) (ls : Array Slot), it2 (X7_swings_S44 z_houses z_laws z_s x1) n x2_44 z_years_44 = some r → va_P D vwCl [(q0, oB 7 [.int (0 : Int32), .long z_trace, .ref q_text, .int z_typed, .int z_next, .int z_token, .int z_place, .int z_value, .int z_fault, .ref q_weight, .ref q_eats, .ref q_barred, .ref q_laws, .int z_houses, .int z_draftHouses, .ref q_s, .ref q_kept, .ref q_isKept, .ref q_years, .ref q_likely, .ref q_then, .long z_all, .ref q_row, .ref q_best]), (q_laws, aI cy 6 z_laws), (q_s, aI cy 67 z_s), (q_years, aI cy 4824 z_years_44)] H → va_D A [(q0, oB 7 [.int (0 : Int32), .long z_trace, .ref q_text, .int z_typed, .int z_next, .int z_token, .int z_place, .int z_value, .int z_fault, .ref q_weight, .ref q_eats, .ref q_barred, .ref q_laws, .int z_houses, .int z_draftHouses, .ref q_s, .ref q_kept, .ref q_isKept, .ref q_years, .ref q_likely, .ref q_then, .long z_all, .ref q_row, .ref q_best]), (q_laws, aI cy 6 z_laws), (q_s, aI cy 67 z_s), (q_years, aI cy 4824 z_years_44)] → va_S A s.heap H locs → lv_has ls 4 [(0, .ref q0), (1, .int x1), (2, .int x2_44)] → W p l e rmX7_swings s m args below meth c H locs 0 0 Q (F0 m 44 ls []) := by
        intro n
        induction n with
        | zero => intro x2_44 z_years_44 H locs ls hf; exact absurd hf (by simp [it2])
        | succ n ih44 =>
          intro x2_44 z_years_44 H locs ls hf hP hD hS hl
          have hf : X7_swings_S44 z_houses z_laws z_s x1 (it2 (X7_swings_S44 z_houses z_laws z_s x1) n) x2_44 z_years_44 = some r := hf
          generalize it2 (X7_swings_S44 z_houses z_laws z_s x1) n = self_44 at hf ih44
          unfold X7_swings_S44 at hf
          refine lv_iload_n hx hb dX7_swings_44 rfl (lv_at hl 2 rfl) ?_
          refine lv_sipush (v := 201) hx hb dX7_swings_45 (by decide) ?_
          refine lv_icmp_ge (tgt := 71) hx hb dX7_swings_48 (by decide) (fun hc_48 => ?_) (fun hc_48 => ?_)
          · have hf := it_t hf hc_48
            exact hJ71 z_years_44 _ _ _ hf hP hD hS (lv_sub hl [0, 1] rfl)
          · have hf := it_f hf hc_48
            refine lv_aload_n hx hb dX7_swings_51 rfl (lv_at hl 0 rfl) ?_
            refine lv_bipush (v := 24) hx hb dX7_swings_52 (by decide) ?_
            refine lv_iload_n hx hb dX7_swings_54 rfl (lv_at hl 2 rfl) ?_
            refine lv_iconst (v := 1) hx hb dX7_swings_55 (by decide) ?_
            refine lv_isub hx hb dX7_swings_56 ?_
            refine lv_imul hx hb dX7_swings_57 ?_
            refine lv_bipush (v := 24) hx hb dX7_swings_58 (by decide) ?_
            refine lv_iload_n hx hb dX7_swings_60 rfl (lv_at hl 2 rfl) ?_
            refine lv_imul hx hb dX7_swings_61 ?_
            obtain ⟨r_62, hr_62, hf⟩ := bd_some hf
            refine cl_v (wc := [(q0, oB 7 [.int (0 : Int32), .long z_trace, .ref q_text, .int z_typed, .int z_next, .int z_token, .int z_place, .int z_value, .int z_fault, .ref q_weight, .ref q_eats, .ref q_barred, .ref q_laws, .int z_houses, .int z_draftHouses, .ref q_s, .ref q_kept, .ref q_isKept, .ref q_years, .ref q_likely, .ref q_then, .long z_all, .ref q_row, .ref q_best]), (q_laws, aI cy 6 z_laws), (q_s, aI cy 67 z_s), (q_years, aI cy 4824 z_years_44)]) (w1 := [(q0, oB 7 [.int (0 : Int32), .long z_trace, .ref q_text, .int z_typed, .int z_next, .int z_token, .int z_place, .int z_value, .int z_fault, .ref q_weight, .ref q_eats, .ref q_barred, .ref q_laws, .int z_houses, .int z_draftHouses, .ref q_s, .ref q_kept, .ref q_isKept, .ref q_years, .ref q_likely, .ref q_then, .long z_all, .ref q_row, .ref q_best]), (q_laws, aI cy 6 z_laws), (q_s, aI cy 67 z_s), (q_years, aI cy 4824 r_62)]) (wr := []) (w2 := [(q0, oB 7 [.int (0 : Int32), .long z_trace, .ref q_text, .int z_typed, .int z_next, .int z_token, .int z_place, .int z_value, .int z_fault, .ref q_weight, .ref q_eats, .ref q_barred, .ref q_laws, .int z_houses, .int z_draftHouses, .ref q_s, .ref q_kept, .ref q_isKept, .ref q_years, .ref q_likely, .ref q_then, .long z_all, .ref q_row, .ref q_best]), (q_laws, aI cy 6 z_laws), (q_s, aI cy 67 z_s), (q_years, aI cy 4824 r_62)]) (va_runV (As := [.int ((24 : Int32) * (x2_44 - (1 : Int32))), .int ((24 : Int32) * x2_44)]) (rest := []) ⟨hx, hb, hml, hown, hts⟩ (ktX7_goesBy l D cy q0 q_text q_weight q_eats q_barred q_laws q_s q_kept q_isKept q_years q_likely q_then q_row q_best (0 : Int32) z_trace z_typed z_next z_token z_place z_value z_fault z_houses z_draftHouses z_all z_laws z_s z_years_44 ((24 : Int32) * (x2_44 - (1 : Int32))) ((24 : Int32) * x2_44) r_62 hr_62 _) (cwV 2 hts gX7_swings_X7_goesBy rfl rfl rfl (by decide +kernel) ⟨Nat.le_of_ble_eq_true rfl, Nat.le_of_ble_eq_true rfl⟩) (pre_V (wc := [(q0, oB 7 [.int (0 : Int32), .long z_trace, .ref q_text, .int z_typed, .int z_next, .int z_token, .int z_place, .int z_value, .int z_fault, .ref q_weight, .ref q_eats, .ref q_barred, .ref q_laws, .int z_houses, .int z_draftHouses, .ref q_s, .ref q_kept, .ref q_isKept, .ref q_years, .ref q_likely, .ref q_then, .long z_all, .ref q_row, .ref q_best]), (q_laws, aI cy 6 z_laws), (q_s, aI cy 67 z_s), (q_years, aI cy 4824 z_years_44)]) (ci := 7) hcx hsx hS hA hP hD [0, 1, 2, 3] rfl (by decide) rfl rfl) rfl rfl hl.1 rfl (lv_room (Nat.le_of_ble_eq_true rfl)) dX7_swings_62 ⟨Nat.zero_le _, Nat.zero_le _⟩) hP hD hS hA [0, 1, 2, 3] [] [0, 1, 2, 3] rfl rfl (by decide) (by decide) (by decide) rfl (fun H locs hP hD hS => ?_)
            obtain ⟨x2_65, ex2_65⟩ : ∃ y : Int32, y = x2_44 + (1 : Int32) := ⟨_, rfl⟩
            have hf := lets_at hf ex2_65
            refine lv_iinc (v := x2_65) (lv' := [(2, .int x2_65), (0, .ref q0), (1, .int x1)]) hx hb dX7_swings_65 hl (k := 2) rfl (by rw [ex2_65]; rfl) (by decide) rfl (fun ls hl => ?_)
            refine lv_goto (tgt := 44) hx hb dX7_swings_68 (by decide) ?_
            exact ih44 x2_65 r_62 _ _ _ hf hP hD hS (lv_sub hl [1, 2, 0] rfl)
      exact hL44 _ (1 : Int32) z_years_42 _ _ _ hf hP hD hS (lv_sub hl [1, 2, 0] rfl)
    have hL18 : ∀ (n : Nat) (x2_18 : Int32) (z_years_18 : Nat → Int32) (H : Heap) (locs : List Loc) (ls : Array Slot), it2 (X7_swings_S18 z_houses z_laws z_s x1) n x2_18 z_years_18 = some r → va_P D vwCl [(q0, oB 7 [.int (0 : Int32), .long z_trace, .ref q_text, .int z_typed, .int z_next, .int z_token, .int z_place, .int z_value, .int z_fault, .ref q_weight, .ref q_eats, .ref q_barred, .ref q_laws, .int z_houses, .int z_draftHouses, .ref q_s, .ref q_kept, .ref q_isKept, .ref q_years, .ref q_likely, .ref q_then, .long z_all, .ref q_row, .ref q_best]), (q_laws, aI cy 6 z_laws), (q_s, aI cy 67 z_s), (q_years, aI cy 4824 z_years_18)] H → va_D A [(q0, oB 7 [.int (0 : Int32), .long z_trace, .ref q_text, .int z_typed, .int z_next, .int z_token, .int z_place, .int z_value, .int z_fault, .ref q_weight, .ref q_eats, .ref q_barred, .ref q_laws, .int z_houses, .int z_draftHouses, .ref q_s, .ref q_kept, .ref q_isKept, .ref q_years, .ref q_likely, .ref q_then, .long z_all, .ref q_row, .ref q_best]), (q_laws, aI cy 6 z_laws), (q_s, aI cy 67 z_s), (q_years, aI cy 4824 z_years_18)] → va_S A s.heap H locs → lv_has ls 4 [(0, .ref q0), (1, .int x1), (2, .int x2_18)] → W p l e rmX7_swings s m args below meth c H locs 0 0 Q (F0 m 18 ls []) := by
      intro n
      induction n with
      | zero => intro x2_18 z_years_18 H locs ls hf; exact absurd hf (by simp [it2])
      | succ n ih18 =>
        intro x2_18 z_years_18 H locs ls hf hP hD hS hl
        have hf : X7_swings_S18 z_houses z_laws z_s x1 (it2 (X7_swings_S18 z_houses z_laws z_s x1) n) x2_18 z_years_18 = some r := hf
        generalize it2 (X7_swings_S18 z_houses z_laws z_s x1) n = self_18 at hf ih18
        unfold X7_swings_S18 at hf
        refine lv_iload_n hx hb dX7_swings_18 rfl (lv_at hl 2 rfl) ?_
        refine lv_bipush (v := 24) hx hb dX7_swings_19 (by decide) ?_
        refine lv_icmp_ge (tgt := 42) hx hb dX7_swings_21 (by decide) (fun hc_21 => ?_) (fun hc_21 => ?_)
        · have hf := it_t hf hc_21
          exact hJ42 z_years_18 _ _ _ hf hP hD hS (lv_sub hl [0, 1] rfl)
        · have hf := it_f hf hc_21
          refine lv_aload_n hx hb dX7_swings_24 rfl (lv_at hl 0 rfl) ?_
          refine va_get (D := D) (ci := 7) (v := .ref q_years) (C := RX7) (T := TX7) (N := 24) hx hb hts kc1 hown hK hP 0 rfl rfl 18 (by decide) kw2 (fun _ h9 => h9) rfl dX7_swings_25 ?_
          refine lv_iload_n hx hb dX7_swings_28 rfl (lv_at hl 2 rfl) ?_
          refine lv_aload_n hx hb dX7_swings_29 rfl (lv_at hl 0 rfl) ?_
          refine va_get (D := D) (ci := 7) (v := .ref q_s) (C := RX7) (T := TX7) (N := 24) hx hb hts kc1 hown hK hP 0 rfl rfl 15 (by decide) kw3 (fun _ h9 => h9) rfl dX7_swings_30 ?_
          refine lv_iload_n hx hb dX7_swings_33 rfl (lv_at hl 2 rfl) ?_
          obtain ⟨hg_34, hf⟩ := gd_some hf
          refine va_iald hx hb hK hP 2 0 rfl rfl hg_34 dX7_swings_34 ?_
          obtain ⟨hg_35, hf⟩ := gd_some hf
          refine va_iast hx hb hK hP hD hS 3 0 rfl rfl hg_35 dX7_swings_35 (fun H locs hP hD hS => ?_)
          obtain ⟨z_years_35, ez_years_35⟩ : ∃ y : Nat → Int32, y = upd z_years_18 x2_18.toNatClampNeg (z_s x2_18.toNatClampNeg) := ⟨_, rfl⟩
          have hf := lets_at hf ez_years_35
          rw [← ez_years_35] at hP hD
          have hP : va_P D vwCl [(q0, oB 7 [.int (0 : Int32), .long z_trace, .ref q_text, .int z_typed, .int z_next, .int z_token, .int z_place, .int z_value, .int z_fault, .ref q_weight, .ref q_eats, .ref q_barred, .ref q_laws, .int z_houses, .int z_draftHouses, .ref q_s, .ref q_kept, .ref q_isKept, .ref q_years, .ref q_likely, .ref q_then, .long z_all, .ref q_row, .ref q_best]), (q_laws, aI cy 6 z_laws), (q_s, aI cy 67 z_s), (q_years, aI cy 4824 z_years_35)] H := hP
          have hD : va_D A [(q0, oB 7 [.int (0 : Int32), .long z_trace, .ref q_text, .int z_typed, .int z_next, .int z_token, .int z_place, .int z_value, .int z_fault, .ref q_weight, .ref q_eats, .ref q_barred, .ref q_laws, .int z_houses, .int z_draftHouses, .ref q_s, .ref q_kept, .ref q_isKept, .ref q_years, .ref q_likely, .ref q_then, .long z_all, .ref q_row, .ref q_best]), (q_laws, aI cy 6 z_laws), (q_s, aI cy 67 z_s), (q_years, aI cy 4824 z_years_35)] := hD
          obtain ⟨x2_36, ex2_36⟩ : ∃ y : Int32, y = x2_18 + (1 : Int32) := ⟨_, rfl⟩
          have hf := lets_at hf ex2_36
          refine lv_iinc (v := x2_36) (lv' := [(2, .int x2_36), (0, .ref q0), (1, .int x1)]) hx hb dX7_swings_36 hl (k := 2) rfl (by rw [ex2_36]; rfl) (by decide) rfl (fun ls hl => ?_)
          refine lv_goto (tgt := 18) hx hb dX7_swings_39 (by decide) ?_
          exact ih18 x2_36 z_years_35 _ _ _ hf hP hD hS (lv_sub hl [1, 2, 0] rfl)
    exact hL18 _ (0 : Int32) z_years _ _ _ hf hP hD hS (lv_sub hl [1, 2, 0] rfl)
  · have hf := it_t hf hc_11
    refine lv_iconst (v := -1) hx hb dX7_swings_14 (by decide) ?_
    exact hret' _ _ _ _ _ _ _ dX7_swings_15 hf hP hD hS

def X7_ill_J66 (z_s : Nat → Int32) (x1 : Int32) (t0_47 : Int32) (t0_66 : Int32) : Option (Int32 × Int32 × (Nat → Int32)) := gd (okx ((59 : Int32) + x1) 67) (lets (upd z_s ((59 : Int32) + x1).toNatClampNeg t0_47) (fun z_s_77 => some (t0_66, (0 : Int32), z_s_77)))
def X7_ill_J47 (z_s : Nat → Int32) (x1 : Int32) (t0_47 : Int32) : Option (Int32 × Int32 × (Nat → Int32)) := gd (okx ((59 : Int32) + x1) 67) (if (z_s ((59 : Int32) + x1).toNatClampNeg) = t0_47 then (X7_ill_J66 z_s x1 t0_47 (0 : Int32)) else (X7_ill_J66 z_s x1 t0_47 (1 : Int32)))
def fX7_ill (z_houses : Int32) (z_s : Nat → Int32) (x1 : Int32) (x2 : Int32) : Option (Int32 × Int32 × (Nat → Int32)) := (fX7_isHouse z_houses x1).bind (fun r_7 => if r_7 = 0 then (some ((-1 : Int32), (0 : Int32), z_s)) else ((fX7_in x2 (0 : Int32) (1 : Int32)).bind (fun r_16 => if r_16 = 0 then (some ((-1 : Int32), (0 : Int32), z_s)) else (if (z_s (58 : Int32).toNatClampNeg) = 0 then (some ((-2 : Int32), (0 : Int32), z_s)) else (if x2 = (1 : Int32) then (X7_ill_J47 z_s x1 (1 : Int32)) else (X7_ill_J47 z_s x1 (2 : Int32)))))))
abbrev rmX7_ill : Room := { frames := 2, cells := 0, slots := 0, locals := 43 }
set_option maxHeartbeats 4000000 in
set_option maxRecDepth 100000 in
theorem ktX7_ill (l : Launch) (D : va_G) (cy : Nat → ClassId) (q0 : Nat) (q_text : Nat) (q_weight : Nat) (q_eats : Nat) (q_barred : Nat) (q_laws : Nat) (q_s : Nat) (q_kept : Nat) (q_isKept : Nat) (q_years : Nat) (q_likely : Nat) (q_then : Nat) (q_row : Nat) (q_best : Nat) (z_thrown : Int32) (z_trace : Int64) (z_typed : Int32) (z_next : Int32) (z_token : Int32) (z_place : Int32) (z_value : Int32) (z_fault : Int32) (z_houses : Int32) (z_draftHouses : Int32) (z_all : Int64) (z_s : Nat → Int32) (x1 : Int32) (x2 : Int32) (r : Int32 × Int32 × (Nat → Int32)) (hf : fX7_ill z_houses z_s x1 x2 = some r) : CtI l yX7_ill wsX7_ill rmX7_ill D cy [.ref q0, .int x1, .int x2] [(q0, oB 7 [.int z_thrown, .long z_trace, .ref q_text, .int z_typed, .int z_next, .int z_token, .int z_place, .int z_value, .int z_fault, .ref q_weight, .ref q_eats, .ref q_barred, .ref q_laws, .int z_houses, .int z_draftHouses, .ref q_s, .ref q_kept, .ref q_isKept, .ref q_years, .ref q_likely, .ref q_then, .long z_all, .ref q_row, .ref q_best]), (q_s, aI cy 67 z_s)] [(q0, oB 7 [.int r.2.1, .long z_trace, .ref q_text, .int z_typed, .int z_next, .int z_token, .int z_place, .int z_value, .int z_fault, .ref q_weight, .ref q_eats, .ref q_barred, .ref q_laws, .int z_houses, .int z_draftHouses, .ref q_s, .ref q_kept, .ref q_isKept, .ref q_years, .ref q_likely, .ref q_then, .long z_all, .ref q_row, .ref q_best]), (q_s, aI cy 67 r.2.2)] r.1 := by
  refine Ct_ofI (cc := cX7_ill) (nL := 5) (by decide) rfl (Nat.le_of_ble_eq_true rfl) ?_
  intro p e s m args below meth c A Q hM hret hP hD hS ls hl
  obtain ⟨hx, hb, hml, hown, hts, hcx, hA, hsx⟩ := hM
  have hown : s.vm.findClass RX7 = some m.cls := hown
  have hK := hcx.1
  have hN := hcx.2
  have kw0 := hts (.fieldLink RX7 54 "EachBringsModel" "thrown" "I") (List.mem_of_getElem? (i := 1) rfl)
  have kc1 : ∀ w ∈ wsX70, w ∈ wsX7_ill := fun _ h => List.mem_cons_of_mem _ (List.mem_append_right _ h)
  have kw2 := hts (.fieldLink RX7 25 "EachBringsModel" "s" "[I") (List.mem_of_getElem? (i := 2) rfl)
  have hl : lv_has ls 5 [(0, .ref q0), (1, .int x1), (2, .int x2)] := hl
  have hret' : ∀ (pc : Nat) (ls : Array Slot) (H : Heap) (locs : List Loc) (v : Int32) (w0 : Int32) (w1 : Nat → Int32), decode cX7_ill pc = .ok (.ireturn, 1) → some (v, w0, w1) = some r → va_P D vwCl [(q0, oB 7 [.int w0, .long z_trace, .ref q_text, .int z_typed, .int z_next, .int z_token, .int z_place, .int z_value, .int z_fault, .ref q_weight, .ref q_eats, .ref q_barred, .ref q_laws, .int z_houses, .int z_draftHouses, .ref q_s, .ref q_kept, .ref q_isKept, .ref q_years, .ref q_likely, .ref q_then, .long z_all, .ref q_row, .ref q_best]), (q_s, aI cy 67 w1)] H → va_D A [(q0, oB 7 [.int w0, .long z_trace, .ref q_text, .int z_typed, .int z_next, .int z_token, .int z_place, .int z_value, .int z_fault, .ref q_weight, .ref q_eats, .ref q_barred, .ref q_laws, .int z_houses, .int z_draftHouses, .ref q_s, .ref q_kept, .ref q_isKept, .ref q_years, .ref q_likely, .ref q_then, .long z_all, .ref q_row, .ref q_best]), (q_s, aI cy 67 w1)] → va_S A s.heap H locs → W p l e rmX7_ill s m args below meth c H locs 0 0 Q (F0 m pc ls [.int v]) := by
    intro pc ls H locs v w0 w1 hd he hP hD hS
    cases he
    exact hret _ _ _ _ _ hd rfl hP hD hS
  unfold fX7_ill at hf
  refine lv_aload_n hx hb dX7_ill_0 rfl (lv_at hl 0 rfl) ?_
  refine lv_iconst (v := 0) hx hb dX7_ill_1 (by decide) ?_
  refine va_put (D := D) (ci := 7) (v := .int (0 : Int32)) (ty := .int) (C := RX7) (T := TX7) (N := 24) hx hb hts kc1 tyX7 tyX7_ok nmX7 hown hK hP hD hS 0 rfl rfl 0 (by decide) kw0 (fun _ h9 => h9) rfl pfI rfl rfl (Nat.le_of_ble_eq_true rfl) dX7_ill_2 (fun H locs hP hD hS => ?_)
  have hP : va_P D vwCl [(q0, oB 7 [.int (0 : Int32), .long z_trace, .ref q_text, .int z_typed, .int z_next, .int z_token, .int z_place, .int z_value, .int z_fault, .ref q_weight, .ref q_eats, .ref q_barred, .ref q_laws, .int z_houses, .int z_draftHouses, .ref q_s, .ref q_kept, .ref q_isKept, .ref q_years, .ref q_likely, .ref q_then, .long z_all, .ref q_row, .ref q_best]), (q_s, aI cy 67 z_s)] H := hP
  have hD : va_D A [(q0, oB 7 [.int (0 : Int32), .long z_trace, .ref q_text, .int z_typed, .int z_next, .int z_token, .int z_place, .int z_value, .int z_fault, .ref q_weight, .ref q_eats, .ref q_barred, .ref q_laws, .int z_houses, .int z_draftHouses, .ref q_s, .ref q_kept, .ref q_isKept, .ref q_years, .ref q_likely, .ref q_then, .long z_all, .ref q_row, .ref q_best]), (q_s, aI cy 67 z_s)] := hD
  refine lv_aload_n hx hb dX7_ill_5 rfl (lv_at hl 0 rfl) ?_
  refine lv_iload_n hx hb dX7_ill_6 rfl (lv_at hl 1 rfl) ?_
  obtain ⟨r_7, hr_7, hf⟩ := bd_some hf
  refine cl_i (wc := [(q0, oB 7 [.int (0 : Int32), .long z_trace, .ref q_text, .int z_typed, .int z_next, .int z_token, .int z_place, .int z_value, .int z_fault, .ref q_weight, .ref q_eats, .ref q_barred, .ref q_laws, .int z_houses, .int z_draftHouses, .ref q_s, .ref q_kept, .ref q_isKept, .ref q_years, .ref q_likely, .ref q_then, .long z_all, .ref q_row, .ref q_best])]) (w1 := [(q0, oB 7 [.int (0 : Int32), .long z_trace, .ref q_text, .int z_typed, .int z_next, .int z_token, .int z_place, .int z_value, .int z_fault, .ref q_weight, .ref q_eats, .ref q_barred, .ref q_laws, .int z_houses, .int z_draftHouses, .ref q_s, .ref q_kept, .ref q_isKept, .ref q_years, .ref q_likely, .ref q_then, .long z_all, .ref q_row, .ref q_best])]) (wr := [(q_s, aI cy 67 z_s)]) (w2 := [(q0, oB 7 [.int (0 : Int32), .long z_trace, .ref q_text, .int z_typed, .int z_next, .int z_token, .int z_place, .int z_value, .int z_fault, .ref q_weight, .ref q_eats, .ref q_barred, .ref q_laws, .int z_houses, .int z_draftHouses, .ref q_s, .ref q_kept, .ref q_isKept, .ref q_years, .ref q_likely, .ref q_then, .long z_all, .ref q_row, .ref q_best]), (q_s, aI cy 67 z_s)]) (va_runV (As := [.int x1]) (rest := []) ⟨hx, hb, hml, hown, hts⟩ (ktX7_isHouse l D cy q0 q_text q_weight q_eats q_barred q_laws q_s q_kept q_isKept q_years q_likely q_then q_row q_best (0 : Int32) z_trace z_typed z_next z_token z_place z_value z_fault z_houses z_draftHouses z_all x1 r_7 hr_7 _) (cwV 1 hts gX7_ill_X7_isHouse rfl rfl rfl (by decide +kernel) ⟨Nat.le_of_ble_eq_true rfl, Nat.le_of_ble_eq_true rfl⟩) (pre_V (wc := [(q0, oB 7 [.int (0 : Int32), .long z_trace, .ref q_text, .int z_typed, .int z_next, .int z_token, .int z_place, .int z_value, .int z_fault, .ref q_weight, .ref q_eats, .ref q_barred, .ref q_laws, .int z_houses, .int z_draftHouses, .ref q_s, .ref q_kept, .ref q_isKept, .ref q_years, .ref q_likely, .ref q_then, .long z_all, .ref q_row, .ref q_best])]) (ci := 7) hcx hsx hS hA hP hD [0] rfl (by decide) rfl rfl) rfl rfl hl.1 rfl (lv_room (Nat.le_of_ble_eq_true rfl)) dX7_ill_7 ⟨Nat.zero_le _, Nat.zero_le _⟩) hP hD hS hA [0] [1] [1, 0] rfl rfl (by decide) (by decide) (by decide) rfl (fun H locs hP hD hS => ?_)
  refine lv_if_eq (tgt := 22) hx hb dX7_ill_10 (by decide) (fun hc_10 => ?_) (fun hc_10 => ?_)
  · have hf := it_t hf hc_10
    refine lv_iconst (v := -1) hx hb dX7_ill_22 (by decide) ?_
    exact hret' _ _ _ _ _ _ _ dX7_ill_23 hf hP hD hS
  · have hf := it_f hf hc_10
    refine lv_iload_n hx hb dX7_ill_13 rfl (lv_at hl 2 rfl) ?_
    refine lv_iconst (v := 0) hx hb dX7_ill_14 (by decide) ?_
    refine lv_iconst (v := 1) hx hb dX7_ill_15 (by decide) ?_
    obtain ⟨r_16, hr_16, hf⟩ := bd_some hf
    refine cl_i (wc := []) (w1 := []) (wr := [(q0, oB 7 [.int (0 : Int32), .long z_trace, .ref q_text, .int z_typed, .int z_next, .int z_token, .int z_place, .int z_value, .int z_fault, .ref q_weight, .ref q_eats, .ref q_barred, .ref q_laws, .int z_houses, .int z_draftHouses, .ref q_s, .ref q_kept, .ref q_isKept, .ref q_years, .ref q_likely, .ref q_then, .long z_all, .ref q_row, .ref q_best]), (q_s, aI cy 67 z_s)]) (w2 := [(q0, oB 7 [.int (0 : Int32), .long z_trace, .ref q_text, .int z_typed, .int z_next, .int z_token, .int z_place, .int z_value, .int z_fault, .ref q_weight, .ref q_eats, .ref q_barred, .ref q_laws, .int z_houses, .int z_draftHouses, .ref q_s, .ref q_kept, .ref q_isKept, .ref q_years, .ref q_likely, .ref q_then, .long z_all, .ref q_row, .ref q_best]), (q_s, aI cy 67 z_s)]) (va_runS (As := [.int x2, .int (0 : Int32), .int (1 : Int32)]) (rest := []) ⟨hx, hb, hml, hown, hts⟩ (ktX7_in l D cy x2 (0 : Int32) (1 : Int32) r_16 hr_16 _) (va_cwS 3 hts gX7_ill_X7_in rfl rfl rfl (by decide +kernel) ⟨Nat.le_of_ble_eq_true rfl, Nat.le_of_ble_eq_true rfl⟩) (pre_S (wc := []) hcx hsx hS hA hP hD [] rfl (by decide)) rfl rfl hl.1 rfl (lv_room (Nat.le_of_ble_eq_true rfl)) dX7_ill_16 ⟨Nat.zero_le _, Nat.zero_le _⟩) hP hD hS hA [] [0, 1] [0, 1] rfl rfl (by decide) (by decide) (by decide) rfl (fun H locs hP hD hS => ?_)
    refine lv_if_ne (tgt := 24) hx hb dX7_ill_19 (by decide) (fun hc_19 => ?_) (fun hc_19 => ?_)
    · have hf := it_f hf hc_19
      refine lv_aload_n hx hb dX7_ill_24 rfl (lv_at hl 0 rfl) ?_
      refine va_get (D := D) (ci := 7) (v := .ref q_s) (C := RX7) (T := TX7) (N := 24) hx hb hts kc1 hown hK hP 0 rfl rfl 15 (by decide) kw2 (fun _ h9 => h9) rfl dX7_ill_25 ?_
      refine lv_bipush (v := 58) hx hb dX7_ill_28 (by decide) ?_
      refine va_iald hx hb hK hP 1 0 rfl rfl (by decide : okx (58 : Int32) 67) dX7_ill_30 ?_
      refine lv_if_ne (tgt := 37) hx hb dX7_ill_31 (by decide) (fun hc_31 => ?_) (fun hc_31 => ?_)
      · have hf := it_f hf hc_31
        refine lv_iload_n hx hb dX7_ill_37 rfl (lv_at hl 2 rfl) ?_
        refine lv_iconst (v := 1) hx hb dX7_ill_38 (by decide) ?_
        have hJ47 : ∀ (t0_47 : Int32) (H : Heap) (locs : List Loc) (ls : Array Slot), X7_ill_J47 z_s x1 t0_47 = some r → va_P D vwCl [(q0, oB 7 [.int (0 : Int32), .long z_trace, .ref q_text, .int z_typed, .int z_next, .int z_token, .int z_place, .int z_value, .int z_fault, .ref q_weight, .ref q_eats, .ref q_barred, .ref q_laws, .int z_houses, .int z_draftHouses, .ref q_s, .ref q_kept, .ref q_isKept, .ref q_years, .ref q_likely, .ref q_then, .long z_all, .ref q_row, .ref q_best]), (q_s, aI cy 67 z_s)] H → va_D A [(q0, oB 7 [.int (0 : Int32), .long z_trace, .ref q_text, .int z_typed, .int z_next, .int z_token, .int z_place, .int z_value, .int z_fault, .ref q_weight, .ref q_eats, .ref q_barred, .ref q_laws, .int z_houses, .int z_draftHouses, .ref q_s, .ref q_kept, .ref q_isKept, .ref q_years, .ref q_likely, .ref q_then, .long z_all, .ref q_row, .ref q_best]), (q_s, aI cy 67 z_s)] → va_S A s.heap H locs → lv_has ls 5 [(0, .ref q0), (1, .int x1)] → W p l e rmX7_ill s m args below meth c H locs 0 0 Q (F0 m 47 ls [.int t0_47]) := by
          intro t0_47 H locs ls hf hP hD hS hl
          unfold X7_ill_J47 at hf
          refine lv_istore_n (lv' := [(3, .int t0_47), (0, .ref q0), (1, .int x1)]) hx hb dX7_ill_47 rfl hl (by decide) rfl (fun ls hl => ?_)
          refine lv_aload_n hx hb dX7_ill_48 rfl (lv_at hl 1 rfl) ?_
          refine va_get (D := D) (ci := 7) (v := .ref q_s) (C := RX7) (T := TX7) (N := 24) hx hb hts kc1 hown hK hP 0 rfl rfl 15 (by decide) kw2 (fun _ h9 => h9) rfl dX7_ill_49 ?_
          refine lv_bipush (v := 59) hx hb dX7_ill_52 (by decide) ?_
          refine lv_iload_n hx hb dX7_ill_54 rfl (lv_at hl 2 rfl) ?_
          refine lv_iadd hx hb dX7_ill_55 ?_
          obtain ⟨hg_56, hf⟩ := gd_some hf
          refine va_iald hx hb hK hP 1 0 rfl rfl hg_56 dX7_ill_56 ?_
          refine lv_iload_n hx hb dX7_ill_57 rfl (lv_at hl 0 rfl) ?_
          have hJ66 : ∀ (t0_66 : Int32) (H : Heap) (locs : List Loc) (ls : Array Slot), X7_ill_J66 z_s x1 t0_47 t0_66 = some r → va_P D vwCl [(q0, oB 7 [.int (0 : Int32), .long z_trace, .ref q_text, .int z_typed, .int z_next, .int z_token, .int z_place, .int z_value, .int z_fault, .ref q_weight, .ref q_eats, .ref q_barred, .ref q_laws, .int z_houses, .int z_draftHouses, .ref q_s, .ref q_kept, .ref q_isKept, .ref q_years, .ref q_likely, .ref q_then, .long z_all, .ref q_row, .ref q_best]), (q_s, aI cy 67 z_s)] H → va_D A [(q0, oB 7 [.int (0 : Int32), .long z_trace, .ref q_text, .int z_typed, .int z_next, .int z_token, .int z_place, .int z_value, .int z_fault, .ref q_weight, .ref q_eats, .ref q_barred, .ref q_laws, .int z_houses, .int z_draftHouses, .ref q_s, .ref q_kept, .ref q_isKept, .ref q_years, .ref q_likely, .ref q_then, .long z_all, .ref q_row, .ref q_best]), (q_s, aI cy 67 z_s)] → va_S A s.heap H locs → lv_has ls 5 [(0, .ref q0), (1, .int x1), (3, .int t0_47)] → W p l e rmX7_ill s m args below meth c H locs 0 0 Q (F0 m 66 ls [.int t0_66]) := by
            intro t0_66 H locs ls hf hP hD hS hl
            unfold X7_ill_J66 at hf
            refine lv_istore (lv' := [(4, .int t0_66), (0, .ref q0), (1, .int x1), (3, .int t0_47)]) hx hb dX7_ill_66 hl (by decide) rfl (fun ls hl => ?_)
            refine lv_aload_n hx hb dX7_ill_68 rfl (lv_at hl 1 rfl) ?_
            refine va_get (D := D) (ci := 7) (v := .ref q_s) (C := RX7) (T := TX7) (N := 24) hx hb hts kc1 hown hK hP 0 rfl rfl 15 (by decide) kw2 (fun _ h9 => h9) rfl dX7_ill_69 ?_
            refine lv_bipush (v := 59) hx hb dX7_ill_72 (by decide) ?_
            refine lv_iload_n hx hb dX7_ill_74 rfl (lv_at hl 2 rfl) ?_
            refine lv_iadd hx hb dX7_ill_75 ?_
            refine lv_iload_n hx hb dX7_ill_76 rfl (lv_at hl 3 rfl) ?_
            obtain ⟨hg_77, hf⟩ := gd_some hf
            refine va_iast hx hb hK hP hD hS 1 0 rfl rfl hg_77 dX7_ill_77 (fun H locs hP hD hS => ?_)
            obtain ⟨z_s_77, ez_s_77⟩ : ∃ y : Nat → Int32, y = upd z_s ((59 : Int32) + x1).toNatClampNeg t0_47 := ⟨_, rfl⟩
            have hf := lets_at hf ez_s_77
            rw [← ez_s_77] at hP hD
            have hP : va_P D vwCl [(q0, oB 7 [.int (0 : Int32), .long z_trace, .ref q_text, .int z_typed, .int z_next, .int z_token, .int z_place, .int z_value, .int z_fault, .ref q_weight, .ref q_eats, .ref q_barred, .ref q_laws, .int z_houses, .int z_draftHouses, .ref q_s, .ref q_kept, .ref q_isKept, .ref q_years, .ref q_likely, .ref q_then, .long z_all, .ref q_row, .ref q_best]), (q_s, aI cy 67 z_s_77)] H := hP
            have hD : va_D A [(q0, oB 7 [.int (0 : Int32), .long z_trace, .ref q_text, .int z_typed, .int z_next, .int z_token, .int z_place, .int z_value, .int z_fault, .ref q_weight, .ref q_eats, .ref q_barred, .ref q_laws, .int z_houses, .int z_draftHouses, .ref q_s, .ref q_kept, .ref q_isKept, .ref q_years, .ref q_likely, .ref q_then, .long z_all, .ref q_row, .ref q_best]), (q_s, aI cy 67 z_s_77)] := hD
            refine lv_iload hx hb dX7_ill_78 (lv_at hl 0 rfl) ?_
            exact hret' _ _ _ _ _ _ _ dX7_ill_80 hf hP hD hS
          refine lv_icmp_ne (tgt := 65) hx hb dX7_ill_58 (by decide) (fun hc_58 => ?_) (fun hc_58 => ?_)
          · have hf := it_f hf hc_58
            refine lv_iconst (v := 1) hx hb dX7_ill_65 (by decide) ?_
            exact hJ66 (1 : Int32) _ _ _ hf hP hD hS (lv_sub hl [1, 2, 0] rfl)
          · have hf := it_t hf hc_58
            refine lv_iconst (v := 0) hx hb dX7_ill_61 (by decide) ?_
            refine lv_goto (tgt := 66) hx hb dX7_ill_62 (by decide) ?_
            exact hJ66 (0 : Int32) _ _ _ hf hP hD hS (lv_sub hl [1, 2, 0] rfl)
        refine lv_icmp_ne (tgt := 46) hx hb dX7_ill_39 (by decide) (fun hc_39 => ?_) (fun hc_39 => ?_)
        · have hf := it_f hf hc_39
          refine lv_iconst (v := 2) hx hb dX7_ill_46 (by decide) ?_
          exact hJ47 (2 : Int32) _ _ _ hf hP hD hS (lv_sub hl [0, 1] rfl)
        · have hf := it_t hf hc_39
          refine lv_iconst (v := 1) hx hb dX7_ill_42 (by decide) ?_
          refine lv_goto (tgt := 47) hx hb dX7_ill_43 (by decide) ?_
          exact hJ47 (1 : Int32) _ _ _ hf hP hD hS (lv_sub hl [0, 1] rfl)
      · have hf := it_t hf hc_31
        refine lv_bipush (v := -2) hx hb dX7_ill_34 (by decide) ?_
        exact hret' _ _ _ _ _ _ _ dX7_ill_36 hf hP hD hS
    · have hf := it_t hf hc_19
      refine lv_iconst (v := -1) hx hb dX7_ill_22 (by decide) ?_
      exact hret' _ _ _ _ _ _ _ dX7_ill_23 hf hP hD hS

def X7_suspects_J117 (x1_9 : Int32) (x2_9 : Int32) (self_9 : Int32 → Int32 → Option (Int32 × Int32)) (t1_117 : Int32) : Option (Int32 × Int32) := lets (x1_9 ||| t1_117) (fun x1_118 => lets (x2_9 + (1 : Int32)) (fun x2_119 => self_9 x1_118 x2_119))
def X7_suspects_J105 (x1_9 : Int32) (x2_9 : Int32) (self_9 : Int32 → Int32 → Option (Int32 × Int32)) (x3_105 : Int32) : Option (Int32 × Int32) := if x3_105 = 0 then (X7_suspects_J117 x1_9 x2_9 self_9 (0 : Int32)) else (X7_suspects_J117 x1_9 x2_9 self_9 ((1 : Int32) <<< (x2_9 &&& 31)))
def X7_suspects_J98 (x4_19 : Int32) (self_19 : Int32 → Int32 → Option (Int32 × Int32)) (t0_98 : Int32) : Option (Int32 × Int32) := lets (x4_19 + (1 : Int32)) (fun x4_99 => self_19 t0_98 x4_99)
def X7_suspects_J97 (x4_19 : Int32) (self_19 : Int32 → Int32 → Option (Int32 × Int32)) : Option (Int32 × Int32) := X7_suspects_J98 x4_19 self_19 (0 : Int32)
def X7_suspects_J93 (x4_19 : Int32) (self_19 : Int32 → Int32 → Option (Int32 × Int32)) : Option (Int32 × Int32) := X7_suspects_J98 x4_19 self_19 (1 : Int32)
def X7_suspects_J90 (x4_19 : Int32) (self_19 : Int32 → Int32 → Option (Int32 × Int32)) (t0_50 : Int32) (t1_90 : Int32) : Option (Int32 × Int32) := if t0_50 = t1_90 then (X7_suspects_J93 x4_19 self_19) else (X7_suspects_J97 x4_19 self_19)
def X7_suspects_J50 (z_s : Nat → Int32) (x3_19 : Int32) (x4_19 : Int32) (self_19 : Int32 → Int32 → Option (Int32 × Int32)) (t0_50 : Int32) : Option (Int32 × Int32) := if x3_19 = 0 then (X7_suspects_J97 x4_19 self_19) else (gd (okx ((59 : Int32) + x4_19) 67) (if (z_s ((59 : Int32) + x4_19).toNatClampNeg) = 0 then (X7_suspects_J93 x4_19 self_19) else (gd (okx ((59 : Int32) + x4_19) 67) (if (z_s ((59 : Int32) + x4_19).toNatClampNeg) = (1 : Int32) then (X7_suspects_J90 x4_19 self_19 t0_50 (1 : Int32)) else (X7_suspects_J90 x4_19 self_19 t0_50 (0 : Int32))))))
def X7_suspects_S19 (z_houses : Int32) (z_s : Nat → Int32) (x1_9 : Int32) (x2_9 : Int32) (self_9 : Int32 → Int32 → Option (Int32 × Int32)) (self_19 : Int32 → Int32 → Option (Int32 × Int32)) (x3_19 : Int32) (x4_19 : Int32) : Option (Int32 × Int32) := if z_houses ≤ x4_19 then (X7_suspects_J105 x1_9 x2_9 self_9 x3_19) else (gd (okx (((30 : Int32) + ((4 : Int32) * x4_19)) + x2_9) 67) (if (z_s (((30 : Int32) + ((4 : Int32) * x4_19)) + x2_9).toNatClampNeg) ≤ 0 then (X7_suspects_J50 z_s x3_19 x4_19 self_19 (0 : Int32)) else (X7_suspects_J50 z_s x3_19 x4_19 self_19 (1 : Int32))))
def X7_suspects_S9 (z_houses : Int32) (z_s : Nat → Int32) (self_9 : Int32 → Int32 → Option (Int32 × Int32)) (x1_9 : Int32) (x2_9 : Int32) : Option (Int32 × Int32) := if (4 : Int32) ≤ x2_9 then (some (x1_9, (0 : Int32))) else (it2 (X7_suspects_S19 z_houses z_s x1_9 x2_9 self_9) 100000 (1 : Int32) (0 : Int32))
def fX7_suspects (z_houses : Int32) (z_s : Nat → Int32) : Option (Int32 × Int32) := it2 (X7_suspects_S9 z_houses z_s) 100000 (0 : Int32) (0 : Int32)
abbrev rmX7_suspects : Room := { frames := 0, cells := 0, slots := 0, locals := 0 }
set_option maxHeartbeats 4000000 in
set_option maxRecDepth 100000 in
theorem ktX7_suspects (l : Launch) (D : va_G) (cy : Nat → ClassId) (q0 : Nat) (q_text : Nat) (q_weight : Nat) (q_eats : Nat) (q_barred : Nat) (q_laws : Nat) (q_s : Nat) (q_kept : Nat) (q_isKept : Nat) (q_years : Nat) (q_likely : Nat) (q_then : Nat) (q_row : Nat) (q_best : Nat) (z_thrown : Int32) (z_trace : Int64) (z_typed : Int32) (z_next : Int32) (z_token : Int32) (z_place : Int32) (z_value : Int32) (z_fault : Int32) (z_houses : Int32) (z_draftHouses : Int32) (z_all : Int64) (z_s : Nat → Int32) (r : Int32 × Int32) (hf : fX7_suspects z_houses z_s = some r) : CtI l yX7_suspects wsX7_suspects rmX7_suspects D cy [.ref q0] [(q0, oB 7 [.int z_thrown, .long z_trace, .ref q_text, .int z_typed, .int z_next, .int z_token, .int z_place, .int z_value, .int z_fault, .ref q_weight, .ref q_eats, .ref q_barred, .ref q_laws, .int z_houses, .int z_draftHouses, .ref q_s, .ref q_kept, .ref q_isKept, .ref q_years, .ref q_likely, .ref q_then, .long z_all, .ref q_row, .ref q_best]), (q_s, aI cy 67 z_s)] [(q0, oB 7 [.int r.2, .long z_trace, .ref q_text, .int z_typed, .int z_next, .int z_token, .int z_place, .int z_value, .int z_fault, .ref q_weight, .ref q_eats, .ref q_barred, .ref q_laws, .int z_houses, .int z_draftHouses, .ref q_s, .ref q_kept, .ref q_isKept, .ref q_years, .ref q_likely, .ref q_then, .long z_all, .ref q_row, .ref q_best]), (q_s, aI cy 67 z_s)] r.1 := by
  refine Ct_ofI (cc := cX7_suspects) (nL := 6) (by decide) rfl (Nat.le_of_ble_eq_true rfl) ?_
  intro p e s m args below meth c A Q hM hret hP hD hS ls hl
  obtain ⟨hx, hb, hml, hown, hts, hcx, hA, hsx⟩ := hM
  have hown : s.vm.findClass RX7 = some m.cls := hown
  have hK := hcx.1
  have hN := hcx.2
  have kw0 := hts (.fieldLink RX7 54 "EachBringsModel" "thrown" "I") (List.mem_of_getElem? (i := 1) rfl)
  have kc1 : ∀ w ∈ wsX70, w ∈ wsX7_suspects := fun _ h => List.mem_cons_of_mem _ (List.mem_append_right _ h)
  have kw2 := hts (.fieldLink RX7 122 "EachBringsModel" "houses" "I") (List.mem_of_getElem? (i := 2) rfl)
  have kw3 := hts (.fieldLink RX7 25 "EachBringsModel" "s" "[I") (List.mem_of_getElem? (i := 3) rfl)
  have hl : lv_has ls 6 [(0, .ref q0)] := hl
  have hret' : ∀ (pc : Nat) (ls : Array Slot) (H : Heap) (locs : List Loc) (v : Int32) (w0 : Int32), decode cX7_suspects pc = .ok (.ireturn, 1) → some (v, w0) = some r → va_P D vwCl [(q0, oB 7 [.int w0, .long z_trace, .ref q_text, .int z_typed, .int z_next, .int z_token, .int z_place, .int z_value, .int z_fault, .ref q_weight, .ref q_eats, .ref q_barred, .ref q_laws, .int z_houses, .int z_draftHouses, .ref q_s, .ref q_kept, .ref q_isKept, .ref q_years, .ref q_likely, .ref q_then, .long z_all, .ref q_row, .ref q_best]), (q_s, aI cy 67 z_s)] H → va_D A [(q0, oB 7 [.int w0, .long z_trace, .ref q_text, .int z_typed, .int z_next, .int z_token, .int z_place, .int z_value, .int z_fault, .ref q_weight, .ref q_eats, .ref q_barred, .ref q_laws, .int z_houses, .int z_draftHouses, .ref q_s, .ref q_kept, .ref q_isKept, .ref q_years, .ref q_likely, .ref q_then, .long z_all, .ref q_row, .ref q_best]), (q_s, aI cy 67 z_s)] → va_S A s.heap H locs → W p l e rmX7_suspects s m args below meth c H locs 0 0 Q (F0 m pc ls [.int v]) := by
    intro pc ls H locs v w0 hd he hP hD hS
    cases he
    exact hret _ _ _ _ _ hd rfl hP hD hS
  unfold fX7_suspects at hf
  refine lv_aload_n hx hb dX7_suspects_0 rfl (lv_at hl 0 rfl) ?_
  refine lv_iconst (v := 0) hx hb dX7_suspects_1 (by decide) ?_
  refine va_put (D := D) (ci := 7) (v := .int (0 : Int32)) (ty := .int) (C := RX7) (T := TX7) (N := 24) hx hb hts kc1 tyX7 tyX7_ok nmX7 hown hK hP hD hS 0 rfl rfl 0 (by decide) kw0 (fun _ h9 => h9) rfl pfI rfl rfl (Nat.le_of_ble_eq_true rfl) dX7_suspects_2 (fun H locs hP hD hS => ?_)
  have hP : va_P D vwCl [(q0, oB 7 [.int (0 : Int32), .long z_trace, .ref q_text, .int z_typed, .int z_next, .int z_token, .int z_place, .int z_value, .int z_fault, .ref q_weight, .ref q_eats, .ref q_barred, .ref q_laws, .int z_houses, .int z_draftHouses, .ref q_s, .ref q_kept, .ref q_isKept, .ref q_years, .ref q_likely, .ref q_then, .long z_all, .ref q_row, .ref q_best]), (q_s, aI cy 67 z_s)] H := hP
  have hD : va_D A [(q0, oB 7 [.int (0 : Int32), .long z_trace, .ref q_text, .int z_typed, .int z_next, .int z_token, .int z_place, .int z_value, .int z_fault, .ref q_weight, .ref q_eats, .ref q_barred, .ref q_laws, .int z_houses, .int z_draftHouses, .ref q_s, .ref q_kept, .ref q_isKept, .ref q_years, .ref q_likely, .ref q_then, .long z_all, .ref q_row, .ref q_best]), (q_s, aI cy 67 z_s)] := hD
  refine lv_iconst (v := 0) hx hb dX7_suspects_5 (by decide) ?_
  refine lv_istore_n (lv' := [(1, .int (0 : Int32)), (0, .ref q0)]) hx hb dX7_suspects_6 rfl hl (by decide) rfl (fun ls hl => ?_)
  refine lv_iconst (v := 0) hx hb dX7_suspects_7 (by decide) ?_
  refine lv_istore_n (lv' := [(2, .int (0 : Int32)), (1, .int (0 : Int32)), (0, .ref q0)]) hx hb dX7_suspects_8 rfl hl (by decide) rfl (fun ls hl => ?_)
  have hL9 : ∀ (n : Nat) (x1_9 : Int32) (x2_9 : Int32) (H : Heap) (locs : List Loc) (ls : Array Slot), it2 (X7_suspects_S9 z_houses z_s) n x1_9 x2_9 = some r → va_P D vwCl [(q0, oB 7 [.int (0 : Int32), .long z_trace, .ref q_text, .int z_typed, .int z_next, .int z_token, .int z_place, .int z_value, .int z_fault, .ref q_weight, .ref q_eats, .ref q_barred, .ref q_laws, .int z_houses, .int z_draftHouses, .ref q_s, .ref q_kept, .ref q_isKept, .ref q_years, .ref q_likely, .ref q_then, .long z_all, .ref q_row, .ref q_best]), (q_s, aI cy 67 z_s)] H → va_D A [(q0, oB 7 [.int (0 : Int32), .long z_trace, .ref q_text, .int z_typed, .int z_next, .int z_token, .int z_place, .int z_value, .int z_fault, .ref q_weight, .ref q_eats, .ref q_barred, .ref q_laws, .int z_houses, .int z_draftHouses, .ref q_s, .ref q_kept, .ref q_isKept, .ref q_years, .ref q_likely, .ref q_then, .long z_all, .ref q_row, .ref q_best]), (q_s, aI cy 67 z_s)] → va_S A s.heap H locs → lv_has ls 6 [(0, .ref q0), (1, .int x1_9), (2, .int x2_9)] → W p l e rmX7_suspects s m args below meth c H locs 0 0 Q (F0 m 9 ls []) := by
    intro n
    induction n with
    | zero => intro x1_9 x2_9 H locs ls hf; exact absurd hf (by simp [it2])
    | succ n ih9 =>
      intro x1_9 x2_9 H locs ls hf hP hD hS hl
      have hf : X7_suspects_S9 z_houses z_s (it2 (X7_suspects_S9 z_houses z_s) n) x1_9 x2_9 = some r := hf
      generalize it2 (X7_suspects_S9 z_houses z_s) n = self_9 at hf ih9
      unfold X7_suspects_S9 at hf
      refine lv_iload_n hx hb dX7_suspects_9 rfl (lv_at hl 2 rfl) ?_
      refine lv_iconst (v := 4) hx hb dX7_suspects_10 (by decide) ?_
      refine lv_icmp_ge (tgt := 125) hx hb dX7_suspects_11 (by decide) (fun hc_11 => ?_) (fun hc_11 => ?_)
      · have hf := it_t hf hc_11
        refine lv_iload_n hx hb dX7_suspects_125 rfl (lv_at hl 1 rfl) ?_
        exact hret' _ _ _ _ _ _ dX7_suspects_126 hf hP hD hS
      · have hf := it_f hf hc_11
        refine lv_iconst (v := 1) hx hb dX7_suspects_14 (by decide) ?_
        refine lv_istore_n (lv' := [(3, .int (1 : Int32)), (0, .ref q0), (1, .int x1_9), (2, .int x2_9)]) hx hb dX7_suspects_15 rfl hl (by decide) rfl (fun ls hl => ?_)
        refine lv_iconst (v := 0) hx hb dX7_suspects_16 (by decide) ?_
        refine lv_istore (lv' := [(4, .int (0 : Int32)), (3, .int (1 : Int32)), (0, .ref q0), (1, .int x1_9), (2, .int x2_9)]) hx hb dX7_suspects_17 hl (by decide) rfl (fun ls hl => ?_)
        have hJ105 : ∀ (x3_105 : Int32) (H : Heap) (locs : List Loc) (ls : Array Slot), X7_suspects_J105 x1_9 x2_9 self_9 x3_105 = some r → va_P D vwCl [(q0, oB 7 [.int (0 : Int32), .long z_trace, .ref q_text, .int z_typed, .int z_next, .int z_token, .int z_place, .int z_value, .int z_fault, .ref q_weight, .ref q_eats, .ref q_barred, .ref q_laws, .int z_houses, .int z_draftHouses, .ref q_s, .ref q_kept, .ref q_isKept, .ref q_years, .ref q_likely, .ref q_then, .long z_all, .ref q_row, .ref q_best]), (q_s, aI cy 67 z_s)] H → va_D A [(q0, oB 7 [.int (0 : Int32), .long z_trace, .ref q_text, .int z_typed, .int z_next, .int z_token, .int z_place, .int z_value, .int z_fault, .ref q_weight, .ref q_eats, .ref q_barred, .ref q_laws, .int z_houses, .int z_draftHouses, .ref q_s, .ref q_kept, .ref q_isKept, .ref q_years, .ref q_likely, .ref q_then, .long z_all, .ref q_row, .ref q_best]), (q_s, aI cy 67 z_s)] → va_S A s.heap H locs → lv_has ls 6 [(0, .ref q0), (1, .int x1_9), (2, .int x2_9), (3, .int x3_105)] → W p l e rmX7_suspects s m args below meth c H locs 0 0 Q (F0 m 105 ls []) := by
          intro x3_105 H locs ls hf hP hD hS hl
          unfold X7_suspects_J105 at hf
          refine lv_iload_n hx hb dX7_suspects_105 rfl (lv_at hl 1 rfl) ?_
          refine lv_iload_n hx hb dX7_suspects_106 rfl (lv_at hl 3 rfl) ?_
          have hJ117 : ∀ (t1_117 : Int32) (H : Heap) (locs : List Loc) (ls : Array Slot), X7_suspects_J117 x1_9 x2_9 self_9 t1_117 = some r → va_P D vwCl [(q0, oB 7 [.int (0 : Int32), .long z_trace, .ref q_text, .int z_typed, .int z_next, .int z_token, .int z_place, .int z_value, .int z_fault, .ref q_weight, .ref q_eats, .ref q_barred, .ref q_laws, .int z_houses, .int z_draftHouses, .ref q_s, .ref q_kept, .ref q_isKept, .ref q_years, .ref q_likely, .ref q_then, .long z_all, .ref q_row, .ref q_best]), (q_s, aI cy 67 z_s)] H → va_D A [(q0, oB 7 [.int (0 : Int32), .long z_trace, .ref q_text, .int z_typed, .int z_next, .int z_token, .int z_place, .int z_value, .int z_fault, .ref q_weight, .ref q_eats, .ref q_barred, .ref q_laws, .int z_houses, .int z_draftHouses, .ref q_s, .ref q_kept, .ref q_isKept, .ref q_years, .ref q_likely, .ref q_then, .long z_all, .ref q_row, .ref q_best]), (q_s, aI cy 67 z_s)] → va_S A s.heap H locs → lv_has ls 6 [(0, .ref q0), (2, .int x2_9)] → W p l e rmX7_suspects s m args below meth c H locs 0 0 Q (F0 m 117 ls [.int t1_117, .int x1_9]) := by
            intro t1_117 H locs ls hf hP hD hS hl
            unfold X7_suspects_J117 at hf
            refine lv_ior hx hb dX7_suspects_117 ?_
            refine lv_topi (fun x1_118 ex1_118 => ?_)
            have hf := lets_at hf ex1_118
            refine lv_istore_n (lv' := [(1, .int x1_118), (0, .ref q0), (2, .int x2_9)]) hx hb dX7_suspects_118 rfl hl (by decide) rfl (fun ls hl => ?_)
            obtain ⟨x2_119, ex2_119⟩ : ∃ y : Int32, y = x2_9 + (1 : Int32) := ⟨_, rfl⟩
            have hf := lets_at hf ex2_119
            refine lv_iinc (v := x2_119) (lv' := [(2, .int x2_119), (1, .int x1_118), (0, .ref q0)]) hx hb dX7_suspects_119 hl (k := 2) rfl (by rw [ex2_119]; rfl) (by decide) rfl (fun ls hl => ?_)
            refine lv_goto (tgt := 9) hx hb dX7_suspects_122 (by decide) ?_
            exact ih9 x1_118 x2_119 _ _ _ hf hP hD hS (lv_sub hl [2, 1, 0] rfl)
          refine lv_if_eq (tgt := 116) hx hb dX7_suspects_107 (by decide) (fun hc_107 => ?_) (fun hc_107 => ?_)
          · have hf := it_t hf hc_107
            refine lv_iconst (v := 0) hx hb dX7_suspects_116 (by decide) ?_
            exact hJ117 (0 : Int32) _ _ _ hf hP hD hS (lv_sub hl [0, 2] rfl)
          · have hf := it_f hf hc_107
            refine lv_iconst (v := 1) hx hb dX7_suspects_110 (by decide) ?_
            refine lv_iload_n hx hb dX7_suspects_111 rfl (lv_at hl 2 rfl) ?_
            refine lv_ishl hx hb dX7_suspects_112 ?_
            refine lv_goto (tgt := 117) hx hb dX7_suspects_113 (by decide) ?_
            exact hJ117 ((1 : Int32) <<< (x2_9 &&& 31)) _ _ _ hf hP hD hS (lv_sub hl [0, 2] rfl)
        have hL19 : ∀ (n : Nat) (x3_19 : Int32) (x4_19 : Int32) (H : Heap) (locs : List Loc) (ls : Array Slot), it2 (X7_suspects_S19 z_houses z_s x1_9 x2_9 self_9) n x3_19 x4_19 = some r → va_P D vwCl [(q0, oB 7 [.int (0 : Int32), .long z_trace, .ref q_text, .int z_typed, .int z_next, .int z_token, .int z_place, .int z_value, .int z_fault, .ref q_weight, .ref q_eats, .ref q_barred, .ref q_laws, .int z_houses, .int z_draftHouses, .ref q_s, .ref q_kept, .ref q_isKept, .ref q_years, .ref q_likely, .ref q_then, .long z_all, .ref q_row, .ref q_best]), (q_s, aI cy 67 z_s)] H → va_D A [(q0, oB 7 [.int (0 : Int32), .long z_trace, .ref q_text, .int z_typed, .int z_next, .int z_token, .int z_place, .int z_value, .int z_fault, .ref q_weight, .ref q_eats, .ref q_barred, .ref q_laws, .int z_houses, .int z_draftHouses, .ref q_s, .ref q_kept, .ref q_isKept, .ref q_years, .ref q_likely, .ref q_then, .long z_all, .ref q_row, .ref q_best]), (q_s, aI cy 67 z_s)] → va_S A s.heap H locs → lv_has ls 6 [(0, .ref q0), (1, .int x1_9), (2, .int x2_9), (3, .int x3_19), (4, .int x4_19)] → W p l e rmX7_suspects s m args below meth c H locs 0 0 Q (F0 m 19 ls []) := by
          intro n
          induction n with
          | zero => intro x3_19 x4_19 H locs ls hf; exact absurd hf (by simp [it2])
          | succ n ih19 =>
            intro x3_19 x4_19 H locs ls hf hP hD hS hl
            have hf : X7_suspects_S19 z_houses z_s x1_9 x2_9 self_9 (it2 (X7_suspects_S19 z_houses z_s x1_9 x2_9 self_9) n) x3_19 x4_19 = some r := hf
            generalize it2 (X7_suspects_S19 z_houses z_s x1_9 x2_9 self_9) n = self_19 at hf ih19
            unfold X7_suspects_S19 at hf
            refine lv_iload hx hb dX7_suspects_19 (lv_at hl 4 rfl) ?_
            refine lv_aload_n hx hb dX7_suspects_21 rfl (lv_at hl 0 rfl) ?_
            refine va_get (D := D) (ci := 7) (v := .int z_houses) (C := RX7) (T := TX7) (N := 24) hx hb hts kc1 hown hK hP 0 rfl rfl 13 (by decide) kw2 (fun _ h9 => h9) rfl dX7_suspects_22 ?_
            refine lv_icmp_ge (tgt := 105) hx hb dX7_suspects_25 (by decide) (fun hc_25 => ?_) (fun hc_25 => ?_)
            · have hf := it_t hf hc_25
              exact hJ105 x3_19 _ _ _ hf hP hD hS (lv_sub hl [0, 1, 2, 3] rfl)
            · have hf := it_f hf hc_25
              refine lv_aload_n hx hb dX7_suspects_28 rfl (lv_at hl 0 rfl) ?_
              refine va_get (D := D) (ci := 7) (v := .ref q_s) (C := RX7) (T := TX7) (N := 24) hx hb hts kc1 hown hK hP 0 rfl rfl 15 (by decide) kw3 (fun _ h9 => h9) rfl dX7_suspects_29 ?_
              refine lv_bipush (v := 30) hx hb dX7_suspects_32 (by decide) ?_
              refine lv_iconst (v := 4) hx hb dX7_suspects_34 (by decide) ?_
              refine lv_iload hx hb dX7_suspects_35 (lv_at hl 4 rfl) ?_
              refine lv_imul hx hb dX7_suspects_37 ?_
              refine lv_iadd hx hb dX7_suspects_38 ?_
              refine lv_iload_n hx hb dX7_suspects_39 rfl (lv_at hl 2 rfl) ?_
              refine lv_iadd hx hb dX7_suspects_40 ?_
              obtain ⟨hg_41, hf⟩ := gd_some hf
              refine va_iald hx hb hK hP 1 0 rfl rfl hg_41 dX7_suspects_41 ?_
              have hJ50 : ∀ (t0_50 : Int32) (H : Heap) (locs : List Loc) (ls : Array Slot), X7_suspects_J50 z_s x3_19 x4_19 self_19 t0_50 = some r → va_P D vwCl [(q0, oB 7 [.int (0 : Int32), .long z_trace, .ref q_text, .int z_typed, .int z_next, .int z_token, .int z_place, .int z_value, .int z_fault, .ref q_weight, .ref q_eats, .ref q_barred, .ref q_laws, .int z_houses, .int z_draftHouses, .ref q_s, .ref q_kept, .ref q_isKept, .ref q_years, .ref q_likely, .ref q_then, .long z_all, .ref q_row, .ref q_best]), (q_s, aI cy 67 z_s)] H → va_D A [(q0, oB 7 [.int (0 : Int32), .long z_trace, .ref q_text, .int z_typed, .int z_next, .int z_token, .int z_place, .int z_value, .int z_fault, .ref q_weight, .ref q_eats, .ref q_barred, .ref q_laws, .int z_houses, .int z_draftHouses, .ref q_s, .ref q_kept, .ref q_isKept, .ref q_years, .ref q_likely, .ref q_then, .long z_all, .ref q_row, .ref q_best]), (q_s, aI cy 67 z_s)] → va_S A s.heap H locs → lv_has ls 6 [(0, .ref q0), (1, .int x1_9), (2, .int x2_9), (3, .int x3_19), (4, .int x4_19)] → W p l e rmX7_suspects s m args below meth c H locs 0 0 Q (F0 m 50 ls [.int t0_50]) := by
                intro t0_50 H locs ls hf hP hD hS hl
                unfold X7_suspects_J50 at hf
                refine lv_istore (lv' := [(5, .int t0_50), (0, .ref q0), (1, .int x1_9), (2, .int x2_9), (3, .int x3_19), (4, .int x4_19)]) hx hb dX7_suspects_50 hl (by decide) rfl (fun ls hl => ?_)
                refine lv_iload_n hx hb dX7_suspects_52 rfl (lv_at hl 4 rfl) ?_
                have hJ98 : ∀ (t0_98 : Int32) (H : Heap) (locs : List Loc) (ls : Array Slot), X7_suspects_J98 x4_19 self_19 t0_98 = some r → va_P D vwCl [(q0, oB 7 [.int (0 : Int32), .long z_trace, .ref q_text, .int z_typed, .int z_next, .int z_token, .int z_place, .int z_value, .int z_fault, .ref q_weight, .ref q_eats, .ref q_barred, .ref q_laws, .int z_houses, .int z_draftHouses, .ref q_s, .ref q_kept, .ref q_isKept, .ref q_years, .ref q_likely, .ref q_then, .long z_all, .ref q_row, .ref q_best]), (q_s, aI cy 67 z_s)] H → va_D A [(q0, oB 7 [.int (0 : Int32), .long z_trace, .ref q_text, .int z_typed, .int z_next, .int z_token, .int z_place, .int z_value, .int z_fault, .ref q_weight, .ref q_eats, .ref q_barred, .ref q_laws, .int z_houses, .int z_draftHouses, .ref q_s, .ref q_kept, .ref q_isKept, .ref q_years, .ref q_likely, .ref q_then, .long z_all, .ref q_row, .ref q_best]), (q_s, aI cy 67 z_s)] → va_S A s.heap H locs → lv_has ls 6 [(0, .ref q0), (1, .int x1_9), (2, .int x2_9), (4, .int x4_19)] → W p l e rmX7_suspects s m args below meth c H locs 0 0 Q (F0 m 98 ls [.int t0_98]) := by
                  intro t0_98 H locs ls hf hP hD hS hl
                  unfold X7_suspects_J98 at hf
                  refine lv_istore_n (lv' := [(3, .int t0_98), (0, .ref q0), (1, .int x1_9), (2, .int x2_9), (4, .int x4_19)]) hx hb dX7_suspects_98 rfl hl (by decide) rfl (fun ls hl => ?_)
                  obtain ⟨x4_99, ex4_99⟩ : ∃ y : Int32, y = x4_19 + (1 : Int32) := ⟨_, rfl⟩
                  have hf := lets_at hf ex4_99
                  refine lv_iinc (v := x4_99) (lv' := [(4, .int x4_99), (3, .int t0_98), (0, .ref q0), (1, .int x1_9), (2, .int x2_9)]) hx hb dX7_suspects_99 hl (k := 4) rfl (by rw [ex4_99]; rfl) (by decide) rfl (fun ls hl => ?_)
                  refine lv_goto (tgt := 19) hx hb dX7_suspects_102 (by decide) ?_
                  exact ih19 t0_98 x4_99 _ _ _ hf hP hD hS (lv_sub hl [2, 3, 4, 1, 0] rfl)
                have hJ97 : ∀ (H : Heap) (locs : List Loc) (ls : Array Slot), X7_suspects_J97 x4_19 self_19 = some r → va_P D vwCl [(q0, oB 7 [.int (0 : Int32), .long z_trace, .ref q_text, .int z_typed, .int z_next, .int z_token, .int z_place, .int z_value, .int z_fault, .ref q_weight, .ref q_eats, .ref q_barred, .ref q_laws, .int z_houses, .int z_draftHouses, .ref q_s, .ref q_kept, .ref q_isKept, .ref q_years, .ref q_likely, .ref q_then, .long z_all, .ref q_row, .ref q_best]), (q_s, aI cy 67 z_s)] H → va_D A [(q0, oB 7 [.int (0 : Int32), .long z_trace, .ref q_text, .int z_typed, .int z_next, .int z_token, .int z_place, .int z_value, .int z_fault, .ref q_weight, .ref q_eats, .ref q_barred, .ref q_laws, .int z_houses, .int z_draftHouses, .ref q_s, .ref q_kept, .ref q_isKept, .ref q_years, .ref q_likely, .ref q_then, .long z_all, .ref q_row, .ref q_best]), (q_s, aI cy 67 z_s)] → va_S A s.heap H locs → lv_has ls 6 [(0, .ref q0), (1, .int x1_9), (2, .int x2_9), (4, .int x4_19)] → W p l e rmX7_suspects s m args below meth c H locs 0 0 Q (F0 m 97 ls []) := by
                  intro H locs ls hf hP hD hS hl
                  unfold X7_suspects_J97 at hf
                  refine lv_iconst (v := 0) hx hb dX7_suspects_97 (by decide) ?_
                  exact hJ98 (0 : Int32) _ _ _ hf hP hD hS (lv_sub hl [0, 1, 2, 3] rfl)
                refine lv_if_eq (tgt := 97) hx hb dX7_suspects_53 (by decide) (fun hc_53 => ?_) (fun hc_53 => ?_)
                · have hf := it_t hf hc_53
                  exact hJ97 _ _ _ hf hP hD hS (lv_sub hl [1, 2, 3, 5] rfl)
                · have hf := it_f hf hc_53
                  refine lv_aload_n hx hb dX7_suspects_56 rfl (lv_at hl 1 rfl) ?_
                  refine va_get (D := D) (ci := 7) (v := .ref q_s) (C := RX7) (T := TX7) (N := 24) hx hb hts kc1 hown hK hP 0 rfl rfl 15 (by decide) kw3 (fun _ h9 => h9) rfl dX7_suspects_57 ?_
                  refine lv_bipush (v := 59) hx hb dX7_suspects_60 (by decide) ?_
                  refine lv_iload hx hb dX7_suspects_62 (lv_at hl 5 rfl) ?_
                  refine lv_iadd hx hb dX7_suspects_64 ?_
                  obtain ⟨hg_65, hf⟩ := gd_some hf
                  refine va_iald hx hb hK hP 1 0 rfl rfl hg_65 dX7_suspects_65 ?_
                  have hJ93 : ∀ (H : Heap) (locs : List Loc) (ls : Array Slot), X7_suspects_J93 x4_19 self_19 = some r → va_P D vwCl [(q0, oB 7 [.int (0 : Int32), .long z_trace, .ref q_text, .int z_typed, .int z_next, .int z_token, .int z_place, .int z_value, .int z_fault, .ref q_weight, .ref q_eats, .ref q_barred, .ref q_laws, .int z_houses, .int z_draftHouses, .ref q_s, .ref q_kept, .ref q_isKept, .ref q_years, .ref q_likely, .ref q_then, .long z_all, .ref q_row, .ref q_best]), (q_s, aI cy 67 z_s)] H → va_D A [(q0, oB 7 [.int (0 : Int32), .long z_trace, .ref q_text, .int z_typed, .int z_next, .int z_token, .int z_place, .int z_value, .int z_fault, .ref q_weight, .ref q_eats, .ref q_barred, .ref q_laws, .int z_houses, .int z_draftHouses, .ref q_s, .ref q_kept, .ref q_isKept, .ref q_years, .ref q_likely, .ref q_then, .long z_all, .ref q_row, .ref q_best]), (q_s, aI cy 67 z_s)] → va_S A s.heap H locs → lv_has ls 6 [(0, .ref q0), (1, .int x1_9), (2, .int x2_9), (4, .int x4_19)] → W p l e rmX7_suspects s m args below meth c H locs 0 0 Q (F0 m 93 ls []) := by
                    intro H locs ls hf hP hD hS hl
                    unfold X7_suspects_J93 at hf
                    refine lv_iconst (v := 1) hx hb dX7_suspects_93 (by decide) ?_
                    refine lv_goto (tgt := 98) hx hb dX7_suspects_94 (by decide) ?_
                    exact hJ98 (1 : Int32) _ _ _ hf hP hD hS (lv_sub hl [0, 1, 2, 3] rfl)
                  refine lv_if_eq (tgt := 93) hx hb dX7_suspects_66 (by decide) (fun hc_66 => ?_) (fun hc_66 => ?_)
                  · have hf := it_t hf hc_66
                    exact hJ93 _ _ _ hf hP hD hS (lv_sub hl [1, 2, 3, 5] rfl)
                  · have hf := it_f hf hc_66
                    refine lv_iload hx hb dX7_suspects_69 (lv_at hl 0 rfl) ?_
                    refine lv_aload_n hx hb dX7_suspects_71 rfl (lv_at hl 1 rfl) ?_
                    refine va_get (D := D) (ci := 7) (v := .ref q_s) (C := RX7) (T := TX7) (N := 24) hx hb hts kc1 hown hK hP 0 rfl rfl 15 (by decide) kw3 (fun _ h9 => h9) rfl dX7_suspects_72 ?_
                    refine lv_bipush (v := 59) hx hb dX7_suspects_75 (by decide) ?_
                    refine lv_iload hx hb dX7_suspects_77 (lv_at hl 5 rfl) ?_
                    refine lv_iadd hx hb dX7_suspects_79 ?_
                    obtain ⟨hg_80, hf⟩ := gd_some hf
                    refine va_iald hx hb hK hP 1 0 rfl rfl hg_80 dX7_suspects_80 ?_
                    refine lv_iconst (v := 1) hx hb dX7_suspects_81 (by decide) ?_
                    have hJ90 : ∀ (t1_90 : Int32) (H : Heap) (locs : List Loc) (ls : Array Slot), X7_suspects_J90 x4_19 self_19 t0_50 t1_90 = some r → va_P D vwCl [(q0, oB 7 [.int (0 : Int32), .long z_trace, .ref q_text, .int z_typed, .int z_next, .int z_token, .int z_place, .int z_value, .int z_fault, .ref q_weight, .ref q_eats, .ref q_barred, .ref q_laws, .int z_houses, .int z_draftHouses, .ref q_s, .ref q_kept, .ref q_isKept, .ref q_years, .ref q_likely, .ref q_then, .long z_all, .ref q_row, .ref q_best]), (q_s, aI cy 67 z_s)] H → va_D A [(q0, oB 7 [.int (0 : Int32), .long z_trace, .ref q_text, .int z_typed, .int z_next, .int z_token, .int z_place, .int z_value, .int z_fault, .ref q_weight, .ref q_eats, .ref q_barred, .ref q_laws, .int z_houses, .int z_draftHouses, .ref q_s, .ref q_kept, .ref q_isKept, .ref q_years, .ref q_likely, .ref q_then, .long z_all, .ref q_row, .ref q_best]), (q_s, aI cy 67 z_s)] → va_S A s.heap H locs → lv_has ls 6 [(0, .ref q0), (1, .int x1_9), (2, .int x2_9), (4, .int x4_19)] → W p l e rmX7_suspects s m args below meth c H locs 0 0 Q (F0 m 90 ls [.int t1_90, .int t0_50]) := by
                      intro t1_90 H locs ls hf hP hD hS hl
                      unfold X7_suspects_J90 at hf
                      refine lv_icmp_ne (tgt := 97) hx hb dX7_suspects_90 (by decide) (fun hc_90 => ?_) (fun hc_90 => ?_)
                      · have hf := it_f hf hc_90
                        exact hJ97 _ _ _ hf hP hD hS (lv_sub hl [0, 1, 2, 3] rfl)
                      · have hf := it_t hf hc_90
                        exact hJ93 _ _ _ hf hP hD hS (lv_sub hl [0, 1, 2, 3] rfl)
                    refine lv_icmp_ne (tgt := 89) hx hb dX7_suspects_82 (by decide) (fun hc_82 => ?_) (fun hc_82 => ?_)
                    · have hf := it_f hf hc_82
                      refine lv_iconst (v := 0) hx hb dX7_suspects_89 (by decide) ?_
                      exact hJ90 (0 : Int32) _ _ _ hf hP hD hS (lv_sub hl [1, 2, 3, 5] rfl)
                    · have hf := it_t hf hc_82
                      refine lv_iconst (v := 1) hx hb dX7_suspects_85 (by decide) ?_
                      refine lv_goto (tgt := 90) hx hb dX7_suspects_86 (by decide) ?_
                      exact hJ90 (1 : Int32) _ _ _ hf hP hD hS (lv_sub hl [1, 2, 3, 5] rfl)
              refine lv_if_le (tgt := 49) hx hb dX7_suspects_42 (by decide) (fun hc_42 => ?_) (fun hc_42 => ?_)
              · have hf := it_t hf hc_42
                refine lv_iconst (v := 0) hx hb dX7_suspects_49 (by decide) ?_
                exact hJ50 (0 : Int32) _ _ _ hf hP hD hS (lv_sub hl [0, 1, 2, 3, 4] rfl)
              · have hf := it_f hf hc_42
                refine lv_iconst (v := 1) hx hb dX7_suspects_45 (by decide) ?_
                refine lv_goto (tgt := 50) hx hb dX7_suspects_46 (by decide) ?_
                exact hJ50 (1 : Int32) _ _ _ hf hP hD hS (lv_sub hl [0, 1, 2, 3, 4] rfl)
        exact hL19 _ (1 : Int32) (0 : Int32) _ _ _ hf hP hD hS (lv_sub hl [2, 3, 4, 1, 0] rfl)
  exact hL9 _ (0 : Int32) (0 : Int32) _ _ _ hf hP hD hS (lv_sub hl [2, 1, 0] rfl)
