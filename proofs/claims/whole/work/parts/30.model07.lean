def X7_sortsBy_S49 (x2_44 : Int32) (self_49 : Int32 → Int32 → Option Int32) (x3_49 : Int32) (x4_49 : Int32) : Option Int32 := if (4 : Int32) ≤ x4_49 then (some x3_49) else (lets (x3_49 + ((x2_44 >>> (x4_49 &&& 31)) &&& (1 : Int32))) (fun x3_63 => lets (x4_49 + (1 : Int32)) (fun x4_64 => self_49 x3_63 x4_64)))
def X7_sortsBy_J44 (x2_44 : Int32) : Option Int32 := it2 (X7_sortsBy_S49 x2_44) 100000 (0 : Int32) (0 : Int32)
def X7_sortsBy_J36 (x2_4 : Int32) (x3_4 : Int32) (self_4 : Int32 → Int32 → Option Int32) (t1_36 : Int32) : Option Int32 := lets (x2_4 ||| t1_36) (fun x2_37 => lets (x3_4 + (1 : Int32)) (fun x3_38 => self_4 x2_37 x3_38))
def X7_sortsBy_S4 (z_houses : Int32) (z_s : Nat → Int32) (z_years : Nat → Int32) (x1 : Int32) (self_4 : Int32 → Int32 → Option Int32) (x2_4 : Int32) (x3_4 : Int32) : Option Int32 := if z_houses ≤ x3_4 then (X7_sortsBy_J44 x2_4) else (if ((x1 >>> (x3_4 &&& 31)) &&& (1 : Int32)) = (1 : Int32) then ((fX7_greatest z_s z_years ((4 : Int32) * x3_4) (1 : Int32)).bind (fun r_28 => X7_sortsBy_J36 x2_4 x3_4 self_4 ((1 : Int32) <<< (r_28 &&& 31)))) else (X7_sortsBy_J36 x2_4 x3_4 self_4 (0 : Int32)))
def fX7_sortsBy (z_houses : Int32) (z_s : Nat → Int32) (z_years : Nat → Int32) (x1 : Int32) : Option Int32 := it2 (X7_sortsBy_S4 z_houses z_s z_years x1) 100000 (0 : Int32) (0 : Int32)
abbrev rmX7_sortsBy : Room := { frames := 1, cells := 0, slots := 0, locals := 26 }
set_option maxHeartbeats 4000000 in
set_option maxRecDepth 100000 in
theorem ktX7_sortsBy (l : Launch) (D : va_G) (cy : Nat → ClassId) (q0 : Nat) (q_text : Nat) (q_weight : Nat) (q_eats : Nat) (q_barred : Nat) (q_laws : Nat) (q_s : Nat) (q_kept : Nat) (q_isKept : Nat) (q_years : Nat) (q_likely : Nat) (q_then : Nat) (q_row : Nat) (q_best : Nat) (z_thrown : Int32) (z_trace : Int64) (z_typed : Int32) (z_next : Int32) (z_token : Int32) (z_place : Int32) (z_value : Int32) (z_fault : Int32) (z_houses : Int32) (z_draftHouses : Int32) (z_all : Int64) (z_s : Nat → Int32) (z_years : Nat → Int32) (x1 : Int32) (r : Int32) (hf : fX7_sortsBy z_houses z_s z_years x1 = some r) : CtI l yX7_sortsBy wsX7_sortsBy rmX7_sortsBy D cy [.ref q0, .int x1] [(q0, oB 7 [.int z_thrown, .long z_trace, .ref q_text, .int z_typed, .int z_next, .int z_token, .int z_place, .int z_value, .int z_fault, .ref q_weight, .ref q_eats, .ref q_barred, .ref q_laws, .int z_houses, .int z_draftHouses, .ref q_s, .ref q_kept, .ref q_isKept, .ref q_years, .ref q_likely, .ref q_then, .long z_all, .ref q_row, .ref q_best]), (q_s, aI cy 67 z_s), (q_years, aI cy 4824 z_years)] [(q0, oB 7 [.int z_thrown, .long z_trace, .ref q_text, .int z_typed, .int z_next, .int z_token, .int z_place, .int z_value, .int z_fault, .ref q_weight, .ref q_eats, .ref q_barred, .ref q_laws, .int z_houses, .int z_draftHouses, .ref q_s, .ref q_kept, .ref q_isKept, .ref q_years, .ref q_likely, .ref q_then, .long z_all, .ref q_row, .ref q_best]), (q_s, aI cy 67 z_s), (q_years, aI cy 4824 z_years)] r := by
  refine Ct_ofI (cc := cX7_sortsBy) (nL := 5) (by decide) rfl (Nat.le_of_ble_eq_true rfl) ?_
  intro p e s m args below meth c A Q hM hret hP hD hS ls hl
  obtain ⟨hx, hb, hml, hown, hts, hcx, hA, hsx⟩ := hM
  have hown : s.vm.findClass RX7 = some m.cls := hown
  have hK := hcx.1
  have hN := hcx.2
  have kw0 := hts (.fieldLink RX7 122 "EachBringsModel" "houses" "I") (List.mem_of_getElem? (i := 1) rfl)
  have kc1 : ∀ w ∈ wsX70, w ∈ wsX7_sortsBy := fun _ h => List.mem_cons_of_mem _ (List.mem_append_right _ h)
  have hl : lv_has ls 5 [(0, .ref q0), (1, .int x1)] := hl
  have hret' : ∀ (pc : Nat) (ls : Array Slot) (H : Heap) (locs : List Loc) (v : Int32), decode cX7_sortsBy pc = .ok (.ireturn, 1) → some v = some r → va_P D vwCl [(q0, oB 7 [.int z_thrown, .long z_trace, .ref q_text, .int z_typed, .int z_next, .int z_token, .int z_place, .int z_value, .int z_fault, .ref q_weight, .ref q_eats, .ref q_barred, .ref q_laws, .int z_houses, .int z_draftHouses, .ref q_s, .ref q_kept, .ref q_isKept, .ref q_years, .ref q_likely, .ref q_then, .long z_all, .ref q_row, .ref q_best]), (q_s, aI cy 67 z_s), (q_years, aI cy 4824 z_years)] H → va_D A [(q0, oB 7 [.int z_thrown, .long z_trace, .ref q_text, .int z_typed, .int z_next, .int z_token, .int z_place, .int z_value, .int z_fault, .ref q_weight, .ref q_eats, .ref q_barred, .ref q_laws, .int z_houses, .int z_draftHouses, .ref q_s, .ref q_kept, .ref q_isKept, .ref q_years, .ref q_likely, .ref q_then, .long z_all, .ref q_row, .ref q_best]), (q_s, aI cy 67 z_s), (q_years, aI cy 4824 z_years)] → va_S A s.heap H locs → W p l e rmX7_sortsBy s m args below meth c H locs 0 0 Q (F0 m pc ls [.int v]) := by
    intro pc ls H locs v hd he hP hD hS
    cases he
    exact hret _ _ _ _ _ hd rfl hP hD hS
  unfold fX7_sortsBy at hf
  refine lv_iconst (v := 0) hx hb dX7_sortsBy_0 (by decide) ?_
  refine lv_istore_n (lv' := [(2, .int (0 : Int32)), (0, .ref q0), (1, .int x1)]) hx hb dX7_sortsBy_1 rfl hl (by decide) rfl (fun ls hl => ?_)
  refine lv_iconst (v := 0) hx hb dX7_sortsBy_2 (by decide) ?_
  refine lv_istore_n (lv' := [(3, .int (0 : Int32)), (2, .int (0 : Int32)), (0, .ref q0), (1, .int x1)]) hx hb dX7_sortsBy_3 rfl hl (by decide) rfl (fun ls hl => ?_)
  have hJ44 : ∀ (x2_44 : Int32) (H : Heap) (locs : List Loc) (ls : Array Slot), X7_sortsBy_J44 x2_44 = some r → va_P D vwCl [(q0, oB 7 [.int z_thrown, .long z_trace, .ref q_text, .int z_typed, .int z_next, .int z_token, .int z_place, .int z_value, .int z_fault, .ref q_weight, .ref q_eats, .ref q_barred, .ref q_laws, .int z_houses, .int z_draftHouses, .ref q_s, .ref q_kept, .ref q_isKept, .ref q_years, .ref q_likely, .ref q_then, .long z_all, .ref q_row, .ref q_best]), (q_s, aI cy 67 z_s), (q_years, aI cy 4824 z_years)] H → va_D A [(q0, oB 7 [.int z_thrown, .long z_trace, .ref q_text, .int z_typed, .int z_next, .int z_token, .int z_place, .int z_value, .int z_fault, .ref q_weight, .ref q_eats, .ref q_barred, .ref q_laws, .int z_houses, .int z_draftHouses, .ref q_s, .ref q_kept, .ref q_isKept, .ref q_years, .ref q_likely, .ref q_then, .long z_all, .ref q_row, .ref q_best]), (q_s, aI cy 67 z_s), (q_years, aI cy 4824 z_years)] → va_S A s.heap H locs → lv_has ls 5 [(2, .int x2_44)] → W p l e rmX7_sortsBy s m args below meth c H locs 0 0 Q (F0 m 44 ls []) := by
    intro x2_44 H locs ls hf hP hD hS hl
    unfold X7_sortsBy_J44 at hf
    refine lv_iconst (v := 0) hx hb dX7_sortsBy_44 (by decide) ?_
    refine lv_istore_n (lv' := [(3, .int (0 : Int32)), (2, .int x2_44)]) hx hb dX7_sortsBy_45 rfl hl (by decide) rfl (fun ls hl => ?_)
    refine lv_iconst (v := 0) hx hb dX7_sortsBy_46 (by decide) ?_
    refine lv_istore (lv' := [(4, .int (0 : Int32)), (3, .int (0 : Int32)), (2, .int x2_44)]) hx hb dX7_sortsBy_47 hl (by decide) rfl (fun ls hl => ?_)
    have hL49 : ∀ (n : Nat) (x3_49 : Int32) (x4_49 : Int32) (H : Heap) (locs : List Loc) (ls : Array Slot), it2 (X7_sortsBy_S49 x2_44) n x3_49 x4_49 = some r → va_P D vwCl [(q0, oB 7 [.int z_thrown, .long z_trace, .ref q_text, .int z_typed, .int z_next, .int z_token, .int z_place, .int z_value, .int z_fault, .ref q_weight, .ref q_eats, .ref q_barred, .ref q_laws, .int z_houses, .int z_draftHouses, .ref q_s, .ref q_kept, .ref q_isKept, .ref q_years, .ref q_likely, .ref q_then, .long z_all, .ref q_row, .ref q_best]), (q_s, aI cy 67 z_s), (q_years, aI cy 4824 z_years)] H → va_D A [(q0, oB 7 [.int z_thrown, .long z_trace, .ref q_text, .int z_typed, .int z_next, .int z_token, .int z_place, .int z_value, .int z_fault, .ref q_weight, .ref q_eats, .ref q_barred, .ref q_laws, .int z_houses, .int z_draftHouses, .ref q_s, .ref q_kept, .ref q_isKept, .ref q_years, .ref q_likely, .ref q_then, .long z_all, .ref q_row, .ref q_best]), (q_s, aI cy 67 z_s), (q_years, aI cy 4824 z_years)] → va_S A s.heap H locs → lv_has ls 5 [(2, .int x2_44), (3, .int x3_49), (4, .int x4_49)] → W p l e rmX7_sortsBy s m args below meth c H locs 0 0 Q (F0 m 49 ls []) := by
      intro n
      induction n with
      | zero => intro x3_49 x4_49 H locs ls hf; exact absurd hf (by simp [it2])
      | succ n ih49 =>
        intro x3_49 x4_49 H locs ls hf hP hD hS hl
        have hf : X7_sortsBy_S49 x2_44 (it2 (X7_sortsBy_S49 x2_44) n) x3_49 x4_49 = some r := hf
        generalize it2 (X7_sortsBy_S49 x2_44) n = self_49 at hf ih49
        unfold X7_sortsBy_S49 at hf
        refine lv_iload hx hb dX7_sortsBy_49 (lv_at hl 2 rfl) ?_
        refine lv_iconst (v := 4) hx hb dX7_sortsBy_51 (by decide) ?_
        refine lv_icmp_ge (tgt := 70) hx hb dX7_sortsBy_52 (by decide) (fun hc_52 => ?_) (fun hc_52 => ?_)
        · have hf := it_t hf hc_52
          refine lv_iload_n hx hb dX7_sortsBy_70 rfl (lv_at hl 1 rfl) ?_
          exact hret' _ _ _ _ _ dX7_sortsBy_71 hf hP hD hS
        · have hf := it_f hf hc_52
          refine lv_iload_n hx hb dX7_sortsBy_55 rfl (lv_at hl 1 rfl) ?_
          refine lv_iload_n hx hb dX7_sortsBy_56 rfl (lv_at hl 0 rfl) ?_
          refine lv_iload hx hb dX7_sortsBy_57 (lv_at hl 2 rfl) ?_
          refine lv_ishr hx hb dX7_sortsBy_59 ?_
          refine lv_iconst (v := 1) hx hb dX7_sortsBy_60 (by decide) ?_
          refine lv_iand hx hb dX7_sortsBy_61 ?_
          refine lv_iadd hx hb dX7_sortsBy_62 ?_
          refine lv_topi (fun x3_63 ex3_63 => ?_)
          have hf := lets_at hf ex3_63
          refine lv_istore_n (lv' := [(3, .int x3_63), (2, .int x2_44), (4, .int x4_49)]) hx hb dX7_sortsBy_63 rfl hl (by decide) rfl (fun ls hl => ?_)
          obtain ⟨x4_64, ex4_64⟩ : ∃ y : Int32, y = x4_49 + (1 : Int32) := ⟨_, rfl⟩
          have hf := lets_at hf ex4_64
          refine lv_iinc (v := x4_64) (lv' := [(4, .int x4_64), (3, .int x3_63), (2, .int x2_44)]) hx hb dX7_sortsBy_64 hl (k := 2) rfl (by rw [ex4_64]; rfl) (by decide) rfl (fun ls hl => ?_)
          refine lv_goto (tgt := 49) hx hb dX7_sortsBy_67 (by decide) ?_
          exact ih49 x3_63 x4_64 _ _ _ hf hP hD hS (lv_sub hl [2, 1, 0] rfl)
    exact hL49 _ (0 : Int32) (0 : Int32) _ _ _ hf hP hD hS (lv_sub hl [2, 1, 0] rfl)
  have hL4 : ∀ (n : Nat) (x2_4 : Int32) (x3_4 : Int32) (H : Heap) (locs : List Loc) (ls : Array Slot), it2 (X7_sortsBy_S4 z_houses z_s z_years x1) n x2_4 x3_4 = some r → va_P D vwCl [(q0, oB 7 [.int z_thrown, .long z_trace, .ref q_text, .int z_typed, .int z_next, .int z_token, .int z_place, .int z_value, .int z_fault, .ref q_weight, .ref q_eats, .ref q_barred, .ref q_laws, .int z_houses, .int z_draftHouses, .ref q_s, .ref q_kept, .ref q_isKept, .ref q_years, .ref q_likely, .ref q_then, .long z_all, .ref q_row, .ref q_best]), (q_s, aI cy 67 z_s), (q_years, aI cy 4824 z_years)] H → va_D A [(q0, oB 7 [.int z_thrown, .long z_trace, .ref q_text, .int z_typed, .int z_next, .int z_token, .int z_place, .int z_value, .int z_fault, .ref q_weight, .ref q_eats, .ref q_barred, .ref q_laws, .int z_houses, .int z_draftHouses, .ref q_s, .ref q_kept, .ref q_isKept, .ref q_years, .ref q_likely, .ref q_then, .long z_all, .ref q_row, .ref q_best]), (q_s, aI cy 67 z_s), (q_years, aI cy 4824 z_years)] → va_S A s.heap H locs → lv_has ls 5 [(0, .ref q0), (1, .int x1), (2, .int x2_4), (3, .int x3_4)] → W p l e rmX7_sortsBy s m args below meth c H locs 0 0 Q (F0 m 4 ls []) := by
    intro n
    induction n with
    | zero => intro x2_4 x3_4 H locs ls hf; exact absurd hf (by simp [it2])
    | succ n ih4 =>
      intro x2_4 x3_4 H locs ls hf hP hD hS hl
      have hf : X7_sortsBy_S4 z_houses z_s z_years x1 (it2 (X7_sortsBy_S4 z_houses z_s z_years x1) n) x2_4 x3_4 = some r := hf
      generalize it2 (X7_sortsBy_S4 z_houses z_s z_years x1) n = self_4 at hf ih4
      unfold X7_sortsBy_S4 at hf
      refine lv_iload_n hx hb dX7_sortsBy_4 rfl (lv_at hl 3 rfl) ?_
      refine lv_aload_n hx hb dX7_sortsBy_5 rfl (lv_at hl 0 rfl) ?_
      refine va_get (D := D) (ci := 7) (v := .int z_houses) (C := RX7) (T := TX7) (N := 24) hx hb hts kc1 hown hK hP 0 rfl rfl 13 (by decide) kw0 (fun _ h9 => h9) rfl dX7_sortsBy_6 ?_
      refine lv_icmp_ge (tgt := 44) hx hb dX7_sortsBy_9 (by decide) (fun hc_9 => ?_) (fun hc_9 => ?_)
      · have hf := it_t hf hc_9
        exact hJ44 x2_4 _ _ _ hf hP hD hS (lv_sub hl [2] rfl)
      · have hf := it_f hf hc_9
        refine lv_iload_n hx hb dX7_sortsBy_12 rfl (lv_at hl 2 rfl) ?_
        refine lv_iload_n hx hb dX7_sortsBy_13 rfl (lv_at hl 1 rfl) ?_
        refine lv_iload_n hx hb dX7_sortsBy_14 rfl (lv_at hl 3 rfl) ?_
        refine lv_ishr hx hb dX7_sortsBy_15 ?_
        refine lv_iconst (v := 1) hx hb dX7_sortsBy_16 (by decide) ?_
        refine lv_iand hx hb dX7_sortsBy_17 ?_
        refine lv_iconst (v := 1) hx hb dX7_sortsBy_18 (by decide) ?_
        have hJ36 : ∀ (t1_36 : Int32) (H : Heap) (locs : List Loc) (ls : Array Slot), X7_sortsBy_J36 x2_4 x3_4 self_4 t1_36 = some r → va_P D vwCl [(q0, oB 7 [.int z_thrown, .long z_trace, .ref q_text, .int z_typed, .int z_next, .int z_token, .int z_place, .int z_value, .int z_fault, .ref q_weight, .ref q_eats, .ref q_barred, .ref q_laws, .int z_houses, .int z_draftHouses, .ref q_s, .ref q_kept, .ref q_isKept, .ref q_years, .ref q_likely, .ref q_then, .long z_all, .ref q_row, .ref q_best]), (q_s, aI cy 67 z_s), (q_years, aI cy 4824 z_years)] H → va_D A [(q0, oB 7 [.int z_thrown, .long z_trace, .ref q_text, .int z_typed, .int z_next, .int z_token, .int z_place, .int z_value, .int z_fault, .ref q_weight, .ref q_eats, .ref q_barred, .ref q_laws, .int z_houses, .int z_draftHouses, .ref q_s, .ref q_kept, .ref q_isKept, .ref q_years, .ref q_likely, .ref q_then, .long z_all, .ref q_row, .ref q_best]), (q_s, aI cy 67 z_s), (q_years, aI cy 4824 z_years)] → va_S A s.heap H locs → lv_has ls 5 [(0, .ref q0), (1, .int x1), (3, .int x3_4)] → W p l e rmX7_sortsBy s m args below meth c H locs 0 0 Q (F0 m 36 ls [.int t1_36, .int x2_4]) := by
          intro t1_36 H locs ls hf hP hD hS hl
          unfold X7_sortsBy_J36 at hf
          refine lv_ior hx hb dX7_sortsBy_36 ?_
          refine lv_topi (fun x2_37 ex2_37 => ?_)
          have hf := lets_at hf ex2_37
          refine lv_istore_n (lv' := [(2, .int x2_37), (0, .ref q0), (1, .int x1), (3, .int x3_4)]) hx hb dX7_sortsBy_37 rfl hl (by decide) rfl (fun ls hl => ?_)
          obtain ⟨x3_38, ex3_38⟩ : ∃ y : Int32, y = x3_4 + (1 : Int32) := ⟨_, rfl⟩
          have hf := lets_at hf ex3_38
          refine lv_iinc (v := x3_38) (lv' := [(3, .int x3_38), (2, .int x2_37), (0, .ref q0), (1, .int x1)]) hx hb dX7_sortsBy_38 hl (k := 3) rfl (by rw [ex3_38]; rfl) (by decide) rfl (fun ls hl => ?_)
          refine lv_goto (tgt := 4) hx hb dX7_sortsBy_41 (by decide) ?_
          exact ih4 x2_37 x3_38 _ _ _ hf hP hD hS (lv_sub hl [2, 3, 1, 0] rfl)
        refine lv_icmp_ne (tgt := 35) hx hb dX7_sortsBy_19 (by decide) (fun hc_19 => ?_) (fun hc_19 => ?_)
        · have hf := it_f hf hc_19
          refine lv_iconst (v := 0) hx hb dX7_sortsBy_35 (by decide) ?_
          exact hJ36 (0 : Int32) _ _ _ hf hP hD hS (lv_sub hl [0, 1, 3] rfl)
        · have hf := it_t hf hc_19
          refine lv_iconst (v := 1) hx hb dX7_sortsBy_22 (by decide) ?_
          refine lv_aload_n hx hb dX7_sortsBy_23 rfl (lv_at hl 0 rfl) ?_
          refine lv_iconst (v := 4) hx hb dX7_sortsBy_24 (by decide) ?_
          refine lv_iload_n hx hb dX7_sortsBy_25 rfl (lv_at hl 3 rfl) ?_
          refine lv_imul hx hb dX7_sortsBy_26 ?_
          refine lv_iconst (v := 1) hx hb dX7_sortsBy_27 (by decide) ?_
          obtain ⟨r_28, hr_28, hf⟩ := bd_some hf
          refine cl_i (wc := [(q0, oB 7 [.int z_thrown, .long z_trace, .ref q_text, .int z_typed, .int z_next, .int z_token, .int z_place, .int z_value, .int z_fault, .ref q_weight, .ref q_eats, .ref q_barred, .ref q_laws, .int z_houses, .int z_draftHouses, .ref q_s, .ref q_kept, .ref q_isKept, .ref q_years, .ref q_likely, .ref q_then, .long z_all, .ref q_row, .ref q_best]), (q_s, aI cy 67 z_s), (q_years, aI cy 4824 z_years)]) (w1 := [(q0, oB 7 [.int z_thrown, .long z_trace, .ref q_text, .int z_typed, .int z_next, .int z_token, .int z_place, .int z_value, .int z_fault, .ref q_weight, .ref q_eats, .ref q_barred, .ref q_laws, .int z_houses, .int z_draftHouses, .ref q_s, .ref q_kept, .ref q_isKept, .ref q_years, .ref q_likely, .ref q_then, .long z_all, .ref q_row, .ref q_best]), (q_s, aI cy 67 z_s), (q_years, aI cy 4824 z_years)]) (wr := []) (w2 := [(q0, oB 7 [.int z_thrown, .long z_trace, .ref q_text, .int z_typed, .int z_next, .int z_token, .int z_place, .int z_value, .int z_fault, .ref q_weight, .ref q_eats, .ref q_barred, .ref q_laws, .int z_houses, .int z_draftHouses, .ref q_s, .ref q_kept, .ref q_isKept, .ref q_years, .ref q_likely, .ref q_then, .long z_all, .ref q_row, .ref q_best]), (q_s, aI cy 67 z_s), (q_years, aI cy 4824 z_years)]) (va_runV (As := [.int ((4 : Int32) * x3_4), .int (1 : Int32)]) (rest := [.int (1 : Int32), .int x2_4]) ⟨hx, hb, hml, hown, hts⟩ (ktX7_greatest l D cy q0 q_text q_weight q_eats q_barred q_laws q_s q_kept q_isKept q_years q_likely q_then q_row q_best z_thrown z_trace z_typed z_next z_token z_place z_value z_fault z_houses z_draftHouses z_all z_s z_years ((4 : Int32) * x3_4) (1 : Int32) r_28 hr_28 _) (cwV 2 hts gX7_sortsBy_X7_greatest rfl rfl rfl (by decide +kernel) ⟨Nat.le_of_ble_eq_true rfl, Nat.le_of_ble_eq_true rfl⟩) (pre_V (wc := [(q0, oB 7 [.int z_thrown, .long z_trace, .ref q_text, .int z_typed, .int z_next, .int z_token, .int z_place, .int z_value, .int z_fault, .ref q_weight, .ref q_eats, .ref q_barred, .ref q_laws, .int z_houses, .int z_draftHouses, .ref q_s, .ref q_kept, .ref q_isKept, .ref q_years, .ref q_likely, .ref q_then, .long z_all, .ref q_row, .ref q_best]), (q_s, aI cy 67 z_s), (q_years, aI cy 4824 z_years)]) (ci := 7) hcx hsx hS hA hP hD [0, 1, 2] rfl (by decide) rfl rfl) rfl rfl hl.1 rfl (lv_room (Nat.le_of_ble_eq_true rfl)) dX7_sortsBy_28 ⟨Nat.zero_le _, Nat.zero_le _⟩) hP hD hS hA [0, 1, 2] [] [0, 1, 2] rfl rfl (by decide) (by decide) (by decide) rfl (fun H locs hP hD hS => ?_)
          refine lv_ishl hx hb dX7_sortsBy_31 ?_
          refine lv_goto (tgt := 36) hx hb dX7_sortsBy_32 (by decide) ?_
          exact hJ36 ((1 : Int32) <<< (r_28 &&& 31)) _ _ _ hf hP hD hS (lv_sub hl [0, 1, 3] rfl)
  exact hL4 _ (0 : Int32) (0 : Int32) _ _ _ hf hP hD hS (lv_sub hl [2, 3, 1, 0] rfl)

def X7_areAtRest_J144 (x5_6 : Int32) (self_6 : Int32 → Int32 → Option Int32) (x4_144 : Int32) : Option Int32 := lets (x5_6 + (1 : Int32)) (fun x5_144 => self_6 x4_144 x5_144)
def X7_areAtRest_J142 (x5_6 : Int32) (self_6 : Int32 → Int32 → Option Int32) (t0_142 : Int32) : Option Int32 := X7_areAtRest_J144 x5_6 self_6 t0_142
def X7_areAtRest_J141 (x5_6 : Int32) (self_6 : Int32 → Int32 → Option Int32) : Option Int32 := X7_areAtRest_J142 x5_6 self_6 (0 : Int32)
def X7_areAtRest_J137 (x5_6 : Int32) (self_6 : Int32 → Int32 → Option Int32) : Option Int32 := X7_areAtRest_J142 x5_6 self_6 (1 : Int32)
def X7_areAtRest_J73 (x5_6 : Int32) (self_6 : Int32 → Int32 → Option Int32) (t0_73 : Int32) : Option Int32 := X7_areAtRest_J144 x5_6 self_6 t0_73
def X7_areAtRest_J72 (x5_6 : Int32) (self_6 : Int32 → Int32 → Option Int32) : Option Int32 := X7_areAtRest_J73 x5_6 self_6 (0 : Int32)
def X7_areAtRest_J51 (z_houses : Int32) (z_s : Nat → Int32) (z_years : Nat → Int32) (x1 : Int32) (x2 : Int32) (x3 : Int32) (x4_6 : Int32) (x5_6 : Int32) (self_6 : Int32 → Int32 → Option Int32) (t0_34 : Int32) (t0_51 : Int32) : Option Int32 := if t0_34 = 0 then (if x4_6 = 0 then (X7_areAtRest_J72 x5_6 self_6) else (if t0_51 = 0 then (X7_areAtRest_J73 x5_6 self_6 (1 : Int32)) else (X7_areAtRest_J72 x5_6 self_6))) else ((fX7_sortsBy z_houses z_s z_years (x1 ||| ((1 : Int32) <<< (x5_6 &&& 31)))).bind (fun r_86 => lets ((x3 * r_86) - x2) (fun x8_92 => (fX7_sortsBy z_houses z_s z_years (x1 &&& (((1 : Int32) <<< (x5_6 &&& 31)) ^^^ (-1 : Int32)))).bind (fun r_104 => lets (x3 * r_104) (fun x9_108 => if x4_6 = 0 then (X7_areAtRest_J141 x5_6 self_6) else (if t0_51 = 0 then (if x9_108 < x8_92 then (X7_areAtRest_J141 x5_6 self_6) else (X7_areAtRest_J137 x5_6 self_6)) else (if x8_92 < x9_108 then (X7_areAtRest_J141 x5_6 self_6) else (X7_areAtRest_J137 x5_6 self_6))))))))
def X7_areAtRest_J34 (z_houses : Int32) (z_s : Nat → Int32) (z_years : Nat → Int32) (x1 : Int32) (x2 : Int32) (x3 : Int32) (x4_6 : Int32) (x5_6 : Int32) (self_6 : Int32 → Int32 → Option Int32) (t0_34 : Int32) : Option Int32 := if ((x1 >>> (x5_6 &&& 31)) &&& (1 : Int32)) = (1 : Int32) then (X7_areAtRest_J51 z_houses z_s z_years x1 x2 x3 x4_6 x5_6 self_6 t0_34 (1 : Int32)) else (X7_areAtRest_J51 z_houses z_s z_years x1 x2 x3 x4_6 x5_6 self_6 t0_34 (0 : Int32))
def X7_areAtRest_S6 (z_houses : Int32) (z_s : Nat → Int32) (z_years : Nat → Int32) (x1 : Int32) (x2 : Int32) (x3 : Int32) (self_6 : Int32 → Int32 → Option Int32) (x4_6 : Int32) (x5_6 : Int32) : Option Int32 := if z_houses ≤ x5_6 then (gd (isB x4_6) (some x4_6)) else ((fX7_greatest z_s z_years ((4 : Int32) * x5_6) (1 : Int32)).bind (fun r_21 => if r_21 = (-9 : Int32) then (X7_areAtRest_J34 z_houses z_s z_years x1 x2 x3 x4_6 x5_6 self_6 (0 : Int32)) else (X7_areAtRest_J34 z_houses z_s z_years x1 x2 x3 x4_6 x5_6 self_6 (1 : Int32))))
def fX7_areAtRest (z_houses : Int32) (z_s : Nat → Int32) (z_years : Nat → Int32) (x1 : Int32) (x2 : Int32) (x3 : Int32) : Option Int32 := it2 (X7_areAtRest_S6 z_houses z_s z_years x1 x2 x3) 100000 (1 : Int32) (0 : Int32)
abbrev rmX7_areAtRest : Room := { frames := 2, cells := 0, slots := 0, locals := 50 }
set_option maxHeartbeats 4000000 in
set_option maxRecDepth 100000 in
theorem ktX7_areAtRest (l : Launch) (D : va_G) (cy : Nat → ClassId) (q0 : Nat) (q_text : Nat) (q_weight : Nat) (q_eats : Nat) (q_barred : Nat) (q_laws : Nat) (q_s : Nat) (q_kept : Nat) (q_isKept : Nat) (q_years : Nat) (q_likely : Nat) (q_then : Nat) (q_row : Nat) (q_best : Nat) (z_thrown : Int32) (z_trace : Int64) (z_typed : Int32) (z_next : Int32) (z_token : Int32) (z_place : Int32) (z_value : Int32) (z_fault : Int32) (z_houses : Int32) (z_draftHouses : Int32) (z_all : Int64) (z_s : Nat → Int32) (z_years : Nat → Int32) (x1 : Int32) (x2 : Int32) (x3 : Int32) (r : Int32) (hf : fX7_areAtRest z_houses z_s z_years x1 x2 x3 = some r) : CtI l yX7_areAtRest wsX7_areAtRest rmX7_areAtRest D cy [.ref q0, .int x1, .int x2, .int x3] [(q0, oB 7 [.int z_thrown, .long z_trace, .ref q_text, .int z_typed, .int z_next, .int z_token, .int z_place, .int z_value, .int z_fault, .ref q_weight, .ref q_eats, .ref q_barred, .ref q_laws, .int z_houses, .int z_draftHouses, .ref q_s, .ref q_kept, .ref q_isKept, .ref q_years, .ref q_likely, .ref q_then, .long z_all, .ref q_row, .ref q_best]), (q_s, aI cy 67 z_s), (q_years, aI cy 4824 z_years)] [(q0, oB 7 [.int z_thrown, .long z_trace, .ref q_text, .int z_typed, .int z_next, .int z_token, .int z_place, .int z_value, .int z_fault, .ref q_weight, .ref q_eats, .ref q_barred, .ref q_laws, .int z_houses, .int z_draftHouses, .ref q_s, .ref q_kept, .ref q_isKept, .ref q_years, .ref q_likely, .ref q_then, .long z_all, .ref q_row, .ref q_best]), (q_s, aI cy 67 z_s), (q_years, aI cy 4824 z_years)] r := by
  refine Ct_ofZ (cc := cX7_areAtRest) (nL := 10) (by decide) rfl (Nat.le_of_ble_eq_true rfl) ?_
  intro p e s m args below meth c A Q hM hret hP hD hS ls hl
  obtain ⟨hx, hb, hml, hown, hts, hcx, hA, hsx⟩ := hM
  have hown : s.vm.findClass RX7 = some m.cls := hown
  have hK := hcx.1
  have hN := hcx.2
  have kw0 := hts (.fieldLink RX7 122 "EachBringsModel" "houses" "I") (List.mem_of_getElem? (i := 1) rfl)
  have kc1 : ∀ w ∈ wsX70, w ∈ wsX7_areAtRest := fun _ h => List.mem_cons_of_mem _ (List.mem_append_right _ h)
  have hl : lv_has ls 10 [(0, .ref q0), (1, .int x1), (2, .int x2), (3, .int x3)] := hl
  have hret' : ∀ (pc : Nat) (ls : Array Slot) (H : Heap) (locs : List Loc) (v : Int32), decode cX7_areAtRest pc = .ok (.ireturn, 1) → isB v → some v = some r → va_P D vwCl [(q0, oB 7 [.int z_thrown, .long z_trace, .ref q_text, .int z_typed, .int z_next, .int z_token, .int z_place, .int z_value, .int z_fault, .ref q_weight, .ref q_eats, .ref q_barred, .ref q_laws, .int z_houses, .int z_draftHouses, .ref q_s, .ref q_kept, .ref q_isKept, .ref q_years, .ref q_likely, .ref q_then, .long z_all, .ref q_row, .ref q_best]), (q_s, aI cy 67 z_s), (q_years, aI cy 4824 z_years)] H → va_D A [(q0, oB 7 [.int z_thrown, .long z_trace, .ref q_text, .int z_typed, .int z_next, .int z_token, .int z_place, .int z_value, .int z_fault, .ref q_weight, .ref q_eats, .ref q_barred, .ref q_laws, .int z_houses, .int z_draftHouses, .ref q_s, .ref q_kept, .ref q_isKept, .ref q_years, .ref q_likely, .ref q_then, .long z_all, .ref q_row, .ref q_best]), (q_s, aI cy 67 z_s), (q_years, aI cy 4824 z_years)] → va_S A s.heap H locs → W p l e rmX7_areAtRest s m args below meth c H locs 0 0 Q (F0 m pc ls [.int v]) := by
    intro pc ls H locs v hd hbv he hP hD hS
    cases he
    exact hret _ _ _ _ _ hd hbv rfl hP hD hS
  unfold fX7_areAtRest at hf
  refine lv_iconst (v := 1) hx hb dX7_areAtRest_0 (by decide) ?_
  refine lv_istore (lv' := [(4, .int (1 : Int32)), (0, .ref q0), (1, .int x1), (2, .int x2), (3, .int x3)]) hx hb dX7_areAtRest_1 hl (by decide) rfl (fun ls hl => ?_)
  refine lv_iconst (v := 0) hx hb dX7_areAtRest_3 (by decide) ?_
  refine lv_istore (lv' := [(5, .int (0 : Int32)), (4, .int (1 : Int32)), (0, .ref q0), (1, .int x1), (2, .int x2), (3, .int x3)]) hx hb dX7_areAtRest_4 hl (by decide) rfl (fun ls hl => ?_)
  have hL6 : ∀ (n : Nat) (x4_6 : Int32) (x5_6 : Int32) (H : Heap) (locs : List Loc) (ls : Array Slot), it2 (X7_areAtRest_S6 z_houses z_s z_years x1 x2 x3) n x4_6 x5_6 = some r → va_P D vwCl [(q0, oB 7 [.int z_thrown, .long z_trace, .ref q_text, .int z_typed, .int z_next, .int z_token, .int z_place, .int z_value, .int z_fault, .ref q_weight, .ref q_eats, .ref q_barred, .ref q_laws, .int z_houses, .int z_draftHouses, .ref q_s, .ref q_kept, .ref q_isKept, .ref q_years, .ref q_likely, .ref q_then, .long z_all, .ref q_row, .ref q_best]), (q_s, aI cy 67 z_s), (q_years, aI cy 4824 z_years)] H → va_D A [(q0, oB 7 [.int z_thrown, .long z_trace, .ref q_text, .int z_typed, .int z_next, .int z_token, .int z_place, .int z_value, .int z_fault, .ref q_weight, .ref q_eats, .ref q_barred, .ref q_laws, .int z_houses, .int z_draftHouses, .ref q_s, .ref q_kept, .ref q_isKept, .ref q_years, .ref q_likely, .ref q_then, .long z_all, .ref q_row, .ref q_best]), (q_s, aI cy 67 z_s), (q_years, aI cy 4824 z_years)] → va_S A s.heap H locs → lv_has ls 10 [(0, .ref q0), (1, .int x1), (2, .int x2), (3, .int x3), (4, .int x4_6), (5, .int x5_6)] → W p l e rmX7_areAtRest s m args below meth c H locs 0 0 Q (F0 m 6 ls []) := by
    intro n
    induction n with
    | zero => intro x4_6 x5_6 H locs ls hf; exact absurd hf (by simp [it2])
    | succ n ih6 =>
      intro x4_6 x5_6 H locs ls hf hP hD hS hl
      have hf : X7_areAtRest_S6 z_houses z_s z_years x1 x2 x3 (it2 (X7_areAtRest_S6 z_houses z_s z_years x1 x2 x3) n) x4_6 x5_6 = some r := hf
      generalize it2 (X7_areAtRest_S6 z_houses z_s z_years x1 x2 x3) n = self_6 at hf ih6
      unfold X7_areAtRest_S6 at hf
      refine lv_iload hx hb dX7_areAtRest_6 (lv_at hl 5 rfl) ?_
      refine lv_aload_n hx hb dX7_areAtRest_8 rfl (lv_at hl 0 rfl) ?_
      refine va_get (D := D) (ci := 7) (v := .int z_houses) (C := RX7) (T := TX7) (N := 24) hx hb hts kc1 hown hK hP 0 rfl rfl 13 (by decide) kw0 (fun _ h9 => h9) rfl dX7_areAtRest_9 ?_
      refine lv_icmp_ge (tgt := 150) hx hb dX7_areAtRest_12 (by decide) (fun hc_12 => ?_) (fun hc_12 => ?_)
      · have hf := it_t hf hc_12
        refine lv_iload hx hb dX7_areAtRest_150 (lv_at hl 4 rfl) ?_
        obtain ⟨hg_152, hf⟩ := gd_some hf
        exact hret' _ _ _ _ _ dX7_areAtRest_152 hg_152 hf hP hD hS
      · have hf := it_f hf hc_12
        refine lv_aload_n hx hb dX7_areAtRest_15 rfl (lv_at hl 0 rfl) ?_
        refine lv_iconst (v := 4) hx hb dX7_areAtRest_16 (by decide) ?_
        refine lv_iload hx hb dX7_areAtRest_17 (lv_at hl 5 rfl) ?_
        refine lv_imul hx hb dX7_areAtRest_19 ?_
        refine lv_iconst (v := 1) hx hb dX7_areAtRest_20 (by decide) ?_
        obtain ⟨r_21, hr_21, hf⟩ := bd_some hf
        refine cl_i (wc := [(q0, oB 7 [.int z_thrown, .long z_trace, .ref q_text, .int z_typed, .int z_next, .int z_token, .int z_place, .int z_value, .int z_fault, .ref q_weight, .ref q_eats, .ref q_barred, .ref q_laws, .int z_houses, .int z_draftHouses, .ref q_s, .ref q_kept, .ref q_isKept, .ref q_years, .ref q_likely, .ref q_then, .long z_all, .ref q_row, .ref q_best]), (q_s, aI cy 67 z_s), (q_years, aI cy 4824 z_years)]) (w1 := [(q0, oB 7 [.int z_thrown, .long z_trace, .ref q_text, .int z_typed, .int z_next, .int z_token, .int z_place, .int z_value, .int z_fault, .ref q_weight, .ref q_eats, .ref q_barred, .ref q_laws, .int z_houses, .int z_draftHouses, .ref q_s, .ref q_kept, .ref q_isKept, .ref q_years, .ref q_likely, .ref q_then, .long z_all, .ref q_row, .ref q_best]), (q_s, aI cy 67 z_s), (q_years, aI cy 4824 z_years)]) (wr := []) (w2 := [(q0, oB 7 [.int z_thrown, .long z_trace, .ref q_text, .int z_typed, .int z_next, .int z_token, .int z_place, .int z_value, .int z_fault, .ref q_weight, .ref q_eats, .ref q_barred, .ref q_laws, .int z_houses, .int z_draftHouses, .ref q_s, .ref q_kept, .ref q_isKept, .ref q_years, .ref q_likely, .ref q_then, .long z_all, .ref q_row, .ref q_best]), (q_s, aI cy 67 z_s), (q_years, aI cy 4824 z_years)]) (va_runV (As := [.int ((4 : Int32) * x5_6), .int (1 : Int32)]) (rest := []) ⟨hx, hb, hml, hown, hts⟩ (ktX7_greatest l D cy q0 q_text q_weight q_eats q_barred q_laws q_s q_kept q_isKept q_years q_likely q_then q_row q_best z_thrown z_trace z_typed z_next z_token z_place z_value z_fault z_houses z_draftHouses z_all z_s z_years ((4 : Int32) * x5_6) (1 : Int32) r_21 hr_21 _) (cwV 2 hts gX7_areAtRest_X7_greatest rfl rfl rfl (by decide +kernel) ⟨Nat.le_of_ble_eq_true rfl, Nat.le_of_ble_eq_true rfl⟩) (pre_V (wc := [(q0, oB 7 [.int z_thrown, .long z_trace, .ref q_text, .int z_typed, .int z_next, .int z_token, .int z_place, .int z_value, .int z_fault, .ref q_weight, .ref q_eats, .ref q_barred, .ref q_laws, .int z_houses, .int z_draftHouses, .ref q_s, .ref q_kept, .ref q_isKept, .ref q_years, .ref q_likely, .ref q_then, .long z_all, .ref q_row, .ref q_best]), (q_s, aI cy 67 z_s), (q_years, aI cy 4824 z_years)]) (ci := 7) hcx hsx hS hA hP hD [0, 1, 2] rfl (by decide) rfl rfl) rfl rfl hl.1 rfl (lv_room (Nat.le_of_ble_eq_true rfl)) dX7_areAtRest_21 ⟨Nat.zero_le _, Nat.zero_le _⟩) hP hD hS hA [0, 1, 2] [] [0, 1, 2] rfl rfl (by decide) (by decide) (by decide) rfl (fun H locs hP hD hS => ?_)
        refine lv_bipush (v := -9) hx hb dX7_areAtRest_24 (by decide) ?_
        have hJ34 : ∀ (t0_34 : Int32) (H : Heap) (locs : List Loc) (ls : Array Slot), X7_areAtRest_J34 z_houses z_s z_years x1 x2 x3 x4_6 x5_6 self_6 t0_34 = some r → va_P D vwCl [(q0, oB 7 [.int z_thrown, .long z_trace, .ref q_text, .int z_typed, .int z_next, .int z_token, .int z_place, .int z_value, .int z_fault, .ref q_weight, .ref q_eats, .ref q_barred, .ref q_laws, .int z_houses, .int z_draftHouses, .ref q_s, .ref q_kept, .ref q_isKept, .ref q_years, .ref q_likely, .ref q_then, .long z_all, .ref q_row, .ref q_best]), (q_s, aI cy 67 z_s), (q_years, aI cy 4824 z_years)] H → va_D A [(q0, oB 7 [.int z_thrown, .long z_trace, .ref q_text, .int z_typed, .int z_next, .int z_token, .int z_place, .int z_value, .int z_fault, .ref q_weight, .ref q_eats, .ref q_barred, .ref q_laws, .int z_houses, .int z_draftHouses, .ref q_s, .ref q_kept, .ref q_isKept, .ref q_years, .ref q_likely, .ref q_then, .long z_all, .ref q_row, .ref q_best]), (q_s, aI cy 67 z_s), (q_years, aI cy 4824 z_years)] → va_S A s.heap H locs → lv_has ls 10 [(0, .ref q0), (1, .int x1), (2, .int x2), (3, .int x3), (4, .int x4_6), (5, .int x5_6)] → W p l e rmX7_areAtRest s m args below meth c H locs 0 0 Q (F0 m 34 ls [.int t0_34]) := by
          intro t0_34 H locs ls hf hP hD hS hl
          unfold X7_areAtRest_J34 at hf
          refine lv_istore (lv' := [(6, .int t0_34), (0, .ref q0), (1, .int x1), (2, .int x2), (3, .int x3), (4, .int x4_6), (5, .int x5_6)]) hx hb dX7_areAtRest_34 hl (by decide) rfl (fun ls hl => ?_)
          refine lv_iload_n hx hb dX7_areAtRest_36 rfl (lv_at hl 2 rfl) ?_
          refine lv_iload hx hb dX7_areAtRest_37 (lv_at hl 6 rfl) ?_
          refine lv_ishr hx hb dX7_areAtRest_39 ?_
          refine lv_iconst (v := 1) hx hb dX7_areAtRest_40 (by decide) ?_
          refine lv_iand hx hb dX7_areAtRest_41 ?_
          refine lv_iconst (v := 1) hx hb dX7_areAtRest_42 (by decide) ?_
          have hJ51 : ∀ (t0_51 : Int32) (H : Heap) (locs : List Loc) (ls : Array Slot), X7_areAtRest_J51 z_houses z_s z_years x1 x2 x3 x4_6 x5_6 self_6 t0_34 t0_51 = some r → va_P D vwCl [(q0, oB 7 [.int z_thrown, .long z_trace, .ref q_text, .int z_typed, .int z_next, .int z_token, .int z_place, .int z_value, .int z_fault, .ref q_weight, .ref q_eats, .ref q_barred, .ref q_laws, .int z_houses, .int z_draftHouses, .ref q_s, .ref q_kept, .ref q_isKept, .ref q_years, .ref q_likely, .ref q_then, .long z_all, .ref q_row, .ref q_best]), (q_s, aI cy 67 z_s), (q_years, aI cy 4824 z_years)] H → va_D A [(q0, oB 7 [.int z_thrown, .long z_trace, .ref q_text, .int z_typed, .int z_next, .int z_token, .int z_place, .int z_value, .int z_fault, .ref q_weight, .ref q_eats, .ref q_barred, .ref q_laws, .int z_houses, .int z_draftHouses, .ref q_s, .ref q_kept, .ref q_isKept, .ref q_years, .ref q_likely, .ref q_then, .long z_all, .ref q_row, .ref q_best]), (q_s, aI cy 67 z_s), (q_years, aI cy 4824 z_years)] → va_S A s.heap H locs → lv_has ls 10 [(0, .ref q0), (1, .int x1), (2, .int x2), (3, .int x3), (4, .int x4_6), (5, .int x5_6), (6, .int t0_34)] → W p l e rmX7_areAtRest s m args below meth c H locs 0 0 Q (F0 m 51 ls [.int t0_51]) := by
            intro t0_51 H locs ls hf hP hD hS hl
            unfold X7_areAtRest_J51 at hf
            refine lv_istore (lv' := [(7, .int t0_51), (0, .ref q0), (1, .int x1), (2, .int x2), (3, .int x3), (4, .int x4_6), (5, .int x5_6), (6, .int t0_34)]) hx hb dX7_areAtRest_51 hl (by decide) rfl (fun ls hl => ?_)
            refine lv_iload hx hb dX7_areAtRest_53 (lv_at hl 7 rfl) ?_
            have hJ144 : ∀ (x4_144 : Int32) (H : Heap) (locs : List Loc) (ls : Array Slot), X7_areAtRest_J144 x5_6 self_6 x4_144 = some r → va_P D vwCl [(q0, oB 7 [.int z_thrown, .long z_trace, .ref q_text, .int z_typed, .int z_next, .int z_token, .int z_place, .int z_value, .int z_fault, .ref q_weight, .ref q_eats, .ref q_barred, .ref q_laws, .int z_houses, .int z_draftHouses, .ref q_s, .ref q_kept, .ref q_isKept, .ref q_years, .ref q_likely, .ref q_then, .long z_all, .ref q_row, .ref q_best]), (q_s, aI cy 67 z_s), (q_years, aI cy 4824 z_years)] H → va_D A [(q0, oB 7 [.int z_thrown, .long z_trace, .ref q_text, .int z_typed, .int z_next, .int z_token, .int z_place, .int z_value, .int z_fault, .ref q_weight, .ref q_eats, .ref q_barred, .ref q_laws, .int z_houses, .int z_draftHouses, .ref q_s, .ref q_kept, .ref q_isKept, .ref q_years, .ref q_likely, .ref q_then, .long z_all, .ref q_row, .ref q_best]), (q_s, aI cy 67 z_s), (q_years, aI cy 4824 z_years)] → va_S A s.heap H locs → lv_has ls 10 [(0, .ref q0), (1, .int x1), (2, .int x2), (3, .int x3), (4, .int x4_144), (5, .int x5_6)] → W p l e rmX7_areAtRest s m args below meth c H locs 0 0 Q (F0 m 144 ls []) := by
              intro x4_144 H locs ls hf hP hD hS hl
              unfold X7_areAtRest_J144 at hf
              obtain ⟨x5_144, ex5_144⟩ : ∃ y : Int32, y = x5_6 + (1 : Int32) := ⟨_, rfl⟩
              have hf := lets_at hf ex5_144
              refine lv_iinc (v := x5_144) (lv' := [(5, .int x5_144), (0, .ref q0), (1, .int x1), (2, .int x2), (3, .int x3), (4, .int x4_144)]) hx hb dX7_areAtRest_144 hl (k := 5) rfl (by rw [ex5_144]; rfl) (by decide) rfl (fun ls hl => ?_)
              refine lv_goto (tgt := 6) hx hb dX7_areAtRest_147 (by decide) ?_
              exact ih6 x4_144 x5_144 _ _ _ hf hP hD hS (lv_sub hl [1, 2, 3, 4, 5, 0] rfl)
            refine lv_if_ne (tgt := 78) hx hb dX7_areAtRest_55 (by decide) (fun hc_55 => ?_) (fun hc_55 => ?_)
            · have hf := it_f hf hc_55
              refine lv_iload_n hx hb dX7_areAtRest_78 rfl (lv_at hl 4 rfl) ?_
              refine lv_aload_n hx hb dX7_areAtRest_79 rfl (lv_at hl 1 rfl) ?_
              refine lv_iload_n hx hb dX7_areAtRest_80 rfl (lv_at hl 2 rfl) ?_
              refine lv_iconst (v := 1) hx hb dX7_areAtRest_81 (by decide) ?_
              refine lv_iload hx hb dX7_areAtRest_82 (lv_at hl 6 rfl) ?_
              refine lv_ishl hx hb dX7_areAtRest_84 ?_
              refine lv_ior hx hb dX7_areAtRest_85 ?_
              obtain ⟨r_86, hr_86, hf⟩ := bd_some hf
              refine cl_i (wc := [(q0, oB 7 [.int z_thrown, .long z_trace, .ref q_text, .int z_typed, .int z_next, .int z_token, .int z_place, .int z_value, .int z_fault, .ref q_weight, .ref q_eats, .ref q_barred, .ref q_laws, .int z_houses, .int z_draftHouses, .ref q_s, .ref q_kept, .ref q_isKept, .ref q_years, .ref q_likely, .ref q_then, .long z_all, .ref q_row, .ref q_best]), (q_s, aI cy 67 z_s), (q_years, aI cy 4824 z_years)]) (w1 := [(q0, oB 7 [.int z_thrown, .long z_trace, .ref q_text, .int z_typed, .int z_next, .int z_token, .int z_place, .int z_value, .int z_fault, .ref q_weight, .ref q_eats, .ref q_barred, .ref q_laws, .int z_houses, .int z_draftHouses, .ref q_s, .ref q_kept, .ref q_isKept, .ref q_years, .ref q_likely, .ref q_then, .long z_all, .ref q_row, .ref q_best]), (q_s, aI cy 67 z_s), (q_years, aI cy 4824 z_years)]) (wr := []) (w2 := [(q0, oB 7 [.int z_thrown, .long z_trace, .ref q_text, .int z_typed, .int z_next, .int z_token, .int z_place, .int z_value, .int z_fault, .ref q_weight, .ref q_eats, .ref q_barred, .ref q_laws, .int z_houses, .int z_draftHouses, .ref q_s, .ref q_kept, .ref q_isKept, .ref q_years, .ref q_likely, .ref q_then, .long z_all, .ref q_row, .ref q_best]), (q_s, aI cy 67 z_s), (q_years, aI cy 4824 z_years)]) (va_runV (As := [.int (x1 ||| ((1 : Int32) <<< (x5_6 &&& 31)))]) (rest := [.int x3]) ⟨hx, hb, hml, hown, hts⟩ (ktX7_sortsBy l D cy q0 q_text q_weight q_eats q_barred q_laws q_s q_kept q_isKept q_years q_likely q_then q_row q_best z_thrown z_trace z_typed z_next z_token z_place z_value z_fault z_houses z_draftHouses z_all z_s z_years (x1 ||| ((1 : Int32) <<< (x5_6 &&& 31))) r_86 hr_86 _) (cwV 1 hts gX7_areAtRest_X7_sortsBy rfl rfl rfl (by decide +kernel) ⟨Nat.le_of_ble_eq_true rfl, Nat.le_of_ble_eq_true rfl⟩) (pre_V (wc := [(q0, oB 7 [.int z_thrown, .long z_trace, .ref q_text, .int z_typed, .int z_next, .int z_token, .int z_place, .int z_value, .int z_fault, .ref q_weight, .ref q_eats, .ref q_barred, .ref q_laws, .int z_houses, .int z_draftHouses, .ref q_s, .ref q_kept, .ref q_isKept, .ref q_years, .ref q_likely, .ref q_then, .long z_all, .ref q_row, .ref q_best]), (q_s, aI cy 67 z_s), (q_years, aI cy 4824 z_years)]) (ci := 7) hcx hsx hS hA hP hD [0, 1, 2] rfl (by decide) rfl rfl) rfl rfl hl.1 rfl (lv_room (Nat.le_of_ble_eq_true rfl)) dX7_areAtRest_86 ⟨Nat.zero_le _, Nat.zero_le _⟩) hP hD hS hA [0, 1, 2] [] [0, 1, 2] rfl rfl (by decide) (by decide) (by decide) rfl (fun H locs hP hD hS => ?_)
              refine lv_imul hx hb dX7_areAtRest_89 ?_
              refine lv_iload_n hx hb dX7_areAtRest_90 rfl (lv_at hl 3 rfl) ?_
              refine lv_isub hx hb dX7_areAtRest_91 ?_
              refine lv_topi (fun x8_92 ex8_92 => ?_)
              have hf := lets_at hf ex8_92
              refine lv_istore (lv' := [(8, .int x8_92), (7, .int t0_51), (0, .ref q0), (1, .int x1), (2, .int x2), (3, .int x3), (4, .int x4_6), (5, .int x5_6), (6, .int t0_34)]) hx hb dX7_areAtRest_92 hl (by decide) rfl (fun ls hl => ?_)
              refine lv_iload_n hx hb dX7_areAtRest_94 rfl (lv_at hl 5 rfl) ?_
              refine lv_aload_n hx hb dX7_areAtRest_95 rfl (lv_at hl 2 rfl) ?_
              refine lv_iload_n hx hb dX7_areAtRest_96 rfl (lv_at hl 3 rfl) ?_
              refine lv_iconst (v := 1) hx hb dX7_areAtRest_97 (by decide) ?_
              refine lv_iload hx hb dX7_areAtRest_98 (lv_at hl 7 rfl) ?_
              refine lv_ishl hx hb dX7_areAtRest_100 ?_
              refine lv_iconst (v := -1) hx hb dX7_areAtRest_101 (by decide) ?_
              refine lv_ixor hx hb dX7_areAtRest_102 ?_
              refine lv_iand hx hb dX7_areAtRest_103 ?_
              obtain ⟨r_104, hr_104, hf⟩ := bd_some hf
              refine cl_i (wc := [(q0, oB 7 [.int z_thrown, .long z_trace, .ref q_text, .int z_typed, .int z_next, .int z_token, .int z_place, .int z_value, .int z_fault, .ref q_weight, .ref q_eats, .ref q_barred, .ref q_laws, .int z_houses, .int z_draftHouses, .ref q_s, .ref q_kept, .ref q_isKept, .ref q_years, .ref q_likely, .ref q_then, .long z_all, .ref q_row, .ref q_best]), (q_s, aI cy 67 z_s), (q_years, aI cy 4824 z_years)]) (w1 := [(q0, oB 7 [.int z_thrown, .long z_trace, .ref q_text, .int z_typed, .int z_next, .int z_token, .int z_place, .int z_value, .int z_fault, .ref q_weight, .ref q_eats, .ref q_barred, .ref q_laws, .int z_houses, .int z_draftHouses, .ref q_s, .ref q_kept, .ref q_isKept, .ref q_years, .ref q_likely, .ref q_then, .long z_all, .ref q_row, .ref q_best]), (q_s, aI cy 67 z_s), (q_years, aI cy 4824 z_years)]) (wr := []) (w2 := [(q0, oB 7 [.int z_thrown, .long z_trace, .ref q_text, .int z_typed, .int z_next, .int z_token, .int z_place, .int z_value, .int z_fault, .ref q_weight, .ref q_eats, .ref q_barred, .ref q_laws, .int z_houses, .int z_draftHouses, .ref q_s, .ref q_kept, .ref q_isKept, .ref q_years, .ref q_likely, .ref q_then, .long z_all, .ref q_row, .ref q_best]), (q_s, aI cy 67 z_s), (q_years, aI cy 4824 z_years)]) (va_runV (As := [.int (x1 &&& (((1 : Int32) <<< (x5_6 &&& 31)) ^^^ (-1 : Int32)))]) (rest := [.int x3]) ⟨hx, hb, hml, hown, hts⟩ (ktX7_sortsBy l D cy q0 q_text q_weight q_eats q_barred q_laws q_s q_kept q_isKept q_years q_likely q_then q_row q_best z_thrown z_trace z_typed z_next z_token z_place z_value z_fault z_houses z_draftHouses z_all z_s z_years (x1 &&& (((1 : Int32) <<< (x5_6 &&& 31)) ^^^ (-1 : Int32))) r_104 hr_104 _) (cwV 1 hts gX7_areAtRest_X7_sortsBy rfl rfl rfl (by decide +kernel) ⟨Nat.le_of_ble_eq_true rfl, Nat.le_of_ble_eq_true rfl⟩) (pre_V (wc := [(q0, oB 7 [.int z_thrown, .long z_trace, .ref q_text, .int z_typed, .int z_next, .int z_token, .int z_place, .int z_value, .int z_fault, .ref q_weight, .ref q_eats, .ref q_barred, .ref q_laws, .int z_houses, .int z_draftHouses, .ref q_s, .ref q_kept, .ref q_isKept, .ref q_years, .ref q_likely, .ref q_then, .long z_all, .ref q_row, .ref q_best]), (q_s, aI cy 67 z_s), (q_years, aI cy 4824 z_years)]) (ci := 7) hcx hsx hS hA hP hD [0, 1, 2] rfl (by decide) rfl rfl) rfl rfl hl.1 rfl (lv_room (Nat.le_of_ble_eq_true rfl)) dX7_areAtRest_104 ⟨Nat.zero_le _, Nat.zero_le _⟩) hP hD hS hA [0, 1, 2] [] [0, 1, 2] rfl rfl (by decide) (by decide) (by decide) rfl (fun H locs hP hD hS => ?_)
              refine lv_imul hx hb dX7_areAtRest_107 ?_
              refine lv_topi (fun x9_108 ex9_108 => ?_)
              have hf := lets_at hf ex9_108
              refine lv_istore (lv' := [(9, .int x9_108), (8, .int x8_92), (7, .int t0_51), (0, .ref q0), (1, .int x1), (2, .int x2), (3, .int x3), (4, .int x4_6), (5, .int x5_6), (6, .int t0_34)]) hx hb dX7_areAtRest_108 hl (by decide) rfl (fun ls hl => ?_)
              refine lv_iload hx hb dX7_areAtRest_110 (lv_at hl 7 rfl) ?_
              have hJ142 : ∀ (t0_142 : Int32) (H : Heap) (locs : List Loc) (ls : Array Slot), X7_areAtRest_J142 x5_6 self_6 t0_142 = some r → va_P D vwCl [(q0, oB 7 [.int z_thrown, .long z_trace, .ref q_text, .int z_typed, .int z_next, .int z_token, .int z_place, .int z_value, .int z_fault, .ref q_weight, .ref q_eats, .ref q_barred, .ref q_laws, .int z_houses, .int z_draftHouses, .ref q_s, .ref q_kept, .ref q_isKept, .ref q_years, .ref q_likely, .ref q_then, .long z_all, .ref q_row, .ref q_best]), (q_s, aI cy 67 z_s), (q_years, aI cy 4824 z_years)] H → va_D A [(q0, oB 7 [.int z_thrown, .long z_trace, .ref q_text, .int z_typed, .int z_next, .int z_token, .int z_place, .int z_value, .int z_fault, .ref q_weight, .ref q_eats, .ref q_barred, .ref q_laws, .int z_houses, .int z_draftHouses, .ref q_s, .ref q_kept, .ref q_isKept, .ref q_years, .ref q_likely, .ref q_then, .long z_all, .ref q_row, .ref q_best]), (q_s, aI cy 67 z_s), (q_years, aI cy 4824 z_years)] → va_S A s.heap H locs → lv_has ls 10 [(0, .ref q0), (1, .int x1), (2, .int x2), (3, .int x3), (5, .int x5_6)] → W p l e rmX7_areAtRest s m args below meth c H locs 0 0 Q (F0 m 142 ls [.int t0_142]) := by
                intro t0_142 H locs ls hf hP hD hS hl
                unfold X7_areAtRest_J142 at hf
                refine lv_istore (lv' := [(4, .int t0_142), (0, .ref q0), (1, .int x1), (2, .int x2), (3, .int x3), (5, .int x5_6)]) hx hb dX7_areAtRest_142 hl (by decide) rfl (fun ls hl => ?_)
                exact hJ144 t0_142 _ _ _ hf hP hD hS (lv_sub hl [1, 2, 3, 4, 0, 5] rfl)
              have hJ141 : ∀ (H : Heap) (locs : List Loc) (ls : Array Slot), X7_areAtRest_J141 x5_6 self_6 = some r → va_P D vwCl [(q0, oB 7 [.int z_thrown, .long z_trace, .ref q_text, .int z_typed, .int z_next, .int z_token, .int z_place, .int z_value, .int z_fault, .ref q_weight, .ref q_eats, .ref q_barred, .ref q_laws, .int z_houses, .int z_draftHouses, .ref q_s, .ref q_kept, .ref q_isKept, .ref q_years, .ref q_likely, .ref q_then, .long z_all, .ref q_row, .ref q_best]), (q_s, aI cy 67 z_s), (q_years, aI cy 4824 z_years)] H → va_D A [(q0, oB 7 [.int z_thrown, .long z_trace, .ref q_text, .int z_typed, .int z_next, .int z_token, .int z_place, .int z_value, .int z_fault, .ref q_weight, .ref q_eats, .ref q_barred, .ref q_laws, .int z_houses, .int z_draftHouses, .ref q_s, .ref q_kept, .ref q_isKept, .ref q_years, .ref q_likely, .ref q_then, .long z_all, .ref q_row, .ref q_best]), (q_s, aI cy 67 z_s), (q_years, aI cy 4824 z_years)] → va_S A s.heap H locs → lv_has ls 10 [(0, .ref q0), (1, .int x1), (2, .int x2), (3, .int x3), (5, .int x5_6)] → W p l e rmX7_areAtRest s m args below meth c H locs 0 0 Q (F0 m 141 ls []) := by
                intro H locs ls hf hP hD hS hl
                unfold X7_areAtRest_J141 at hf
                refine lv_iconst (v := 0) hx hb dX7_areAtRest_141 (by decide) ?_
                exact hJ142 (0 : Int32) _ _ _ hf hP hD hS (lv_sub hl [0, 1, 2, 3, 4] rfl)
              refine lv_if_eq (tgt := 141) hx hb dX7_areAtRest_112 (by decide) (fun hc_112 => ?_) (fun hc_112 => ?_)
              · have hf := it_t hf hc_112
                exact hJ141 _ _ _ hf hP hD hS (lv_sub hl [3, 4, 5, 6, 8] rfl)
              · have hf := it_f hf hc_112
                refine lv_iload hx hb dX7_areAtRest_115 (lv_at hl 2 rfl) ?_
                have hJ137 : ∀ (H : Heap) (locs : List Loc) (ls : Array Slot), X7_areAtRest_J137 x5_6 self_6 = some r → va_P D vwCl [(q0, oB 7 [.int z_thrown, .long z_trace, .ref q_text, .int z_typed, .int z_next, .int z_token, .int z_place, .int z_value, .int z_fault, .ref q_weight, .ref q_eats, .ref q_barred, .ref q_laws, .int z_houses, .int z_draftHouses, .ref q_s, .ref q_kept, .ref q_isKept, .ref q_years, .ref q_likely, .ref q_then, .long z_all, .ref q_row, .ref q_best]), (q_s, aI cy 67 z_s), (q_years, aI cy 4824 z_years)] H → va_D A [(q0, oB 7 [.int z_thrown, .long z_trace, .ref q_text, .int z_typed, .int z_next, .int z_token, .int z_place, .int z_value, .int z_fault, .ref q_weight, .ref q_eats, .ref q_barred, .ref q_laws, .int z_houses, .int z_draftHouses, .ref q_s, .ref q_kept, .ref q_isKept, .ref q_years, .ref q_likely, .ref q_then, .long z_all, .ref q_row, .ref q_best]), (q_s, aI cy 67 z_s), (q_years, aI cy 4824 z_years)] → va_S A s.heap H locs → lv_has ls 10 [(0, .ref q0), (1, .int x1), (2, .int x2), (3, .int x3), (5, .int x5_6)] → W p l e rmX7_areAtRest s m args below meth c H locs 0 0 Q (F0 m 137 ls []) := by
                  intro H locs ls hf hP hD hS hl
                  unfold X7_areAtRest_J137 at hf
                  refine lv_iconst (v := 1) hx hb dX7_areAtRest_137 (by decide) ?_
                  refine lv_goto (tgt := 142) hx hb dX7_areAtRest_138 (by decide) ?_
                  exact hJ142 (1 : Int32) _ _ _ hf hP hD hS (lv_sub hl [0, 1, 2, 3, 4] rfl)
                refine lv_if_eq (tgt := 130) hx hb dX7_areAtRest_117 (by decide) (fun hc_117 => ?_) (fun hc_117 => ?_)
                · have hf := it_t hf hc_117
                  refine lv_iload hx hb dX7_areAtRest_130 (lv_at hl 0 rfl) ?_
                  refine lv_iload hx hb dX7_areAtRest_132 (lv_at hl 1 rfl) ?_
                  refine lv_icmp_lt (tgt := 141) hx hb dX7_areAtRest_134 (by decide) (fun hc_134 => ?_) (fun hc_134 => ?_)
                  · have hf := it_t hf hc_134
                    exact hJ141 _ _ _ hf hP hD hS (lv_sub hl [3, 4, 5, 6, 8] rfl)
                  · have hf := it_f hf hc_134
                    exact hJ137 _ _ _ hf hP hD hS (lv_sub hl [3, 4, 5, 6, 8] rfl)
                · have hf := it_f hf hc_117
                  refine lv_iload hx hb dX7_areAtRest_120 (lv_at hl 1 rfl) ?_
                  refine lv_iload hx hb dX7_areAtRest_122 (lv_at hl 0 rfl) ?_
                  refine lv_icmp_lt (tgt := 141) hx hb dX7_areAtRest_124 (by decide) (fun hc_124 => ?_) (fun hc_124 => ?_)
                  · have hf := it_t hf hc_124
                    exact hJ141 _ _ _ hf hP hD hS (lv_sub hl [3, 4, 5, 6, 8] rfl)
                  · have hf := it_f hf hc_124
                    refine lv_goto (tgt := 137) hx hb dX7_areAtRest_127 (by decide) ?_
                    exact hJ137 _ _ _ hf hP hD hS (lv_sub hl [3, 4, 5, 6, 8] rfl)
            · have hf := it_t hf hc_55
              refine lv_iload hx hb dX7_areAtRest_58 (lv_at hl 5 rfl) ?_
              have hJ73 : ∀ (t0_73 : Int32) (H : Heap) (locs : List Loc) (ls : Array Slot), X7_areAtRest_J73 x5_6 self_6 t0_73 = some r → va_P D vwCl [(q0, oB 7 [.int z_thrown, .long z_trace, .ref q_text, .int z_typed, .int z_next, .int z_token, .int z_place, .int z_value, .int z_fault, .ref q_weight, .ref q_eats, .ref q_barred, .ref q_laws, .int z_houses, .int z_draftHouses, .ref q_s, .ref q_kept, .ref q_isKept, .ref q_years, .ref q_likely, .ref q_then, .long z_all, .ref q_row, .ref q_best]), (q_s, aI cy 67 z_s), (q_years, aI cy 4824 z_years)] H → va_D A [(q0, oB 7 [.int z_thrown, .long z_trace, .ref q_text, .int z_typed, .int z_next, .int z_token, .int z_place, .int z_value, .int z_fault, .ref q_weight, .ref q_eats, .ref q_barred, .ref q_laws, .int z_houses, .int z_draftHouses, .ref q_s, .ref q_kept, .ref q_isKept, .ref q_years, .ref q_likely, .ref q_then, .long z_all, .ref q_row, .ref q_best]), (q_s, aI cy 67 z_s), (q_years, aI cy 4824 z_years)] → va_S A s.heap H locs → lv_has ls 10 [(0, .ref q0), (1, .int x1), (2, .int x2), (3, .int x3), (5, .int x5_6)] → W p l e rmX7_areAtRest s m args below meth c H locs 0 0 Q (F0 m 73 ls [.int t0_73]) := by
                intro t0_73 H locs ls hf hP hD hS hl
                unfold X7_areAtRest_J73 at hf
                refine lv_istore (lv' := [(4, .int t0_73), (0, .ref q0), (1, .int x1), (2, .int x2), (3, .int x3), (5, .int x5_6)]) hx hb dX7_areAtRest_73 hl (by decide) rfl (fun ls hl => ?_)
                refine lv_goto (tgt := 144) hx hb dX7_areAtRest_75 (by decide) ?_
                exact hJ144 t0_73 _ _ _ hf hP hD hS (lv_sub hl [1, 2, 3, 4, 0, 5] rfl)
              have hJ72 : ∀ (H : Heap) (locs : List Loc) (ls : Array Slot), X7_areAtRest_J72 x5_6 self_6 = some r → va_P D vwCl [(q0, oB 7 [.int z_thrown, .long z_trace, .ref q_text, .int z_typed, .int z_next, .int z_token, .int z_place, .int z_value, .int z_fault, .ref q_weight, .ref q_eats, .ref q_barred, .ref q_laws, .int z_houses, .int z_draftHouses, .ref q_s, .ref q_kept, .ref q_isKept, .ref q_years, .ref q_likely, .ref q_then, .long z_all, .ref q_row, .ref q_best]), (q_s, aI cy 67 z_s), (q_years, aI cy 4824 z_years)] H → va_D A [(q0, oB 7 [.int z_thrown, .long z_trace, .ref q_text, .int z_typed, .int z_next, .int z_token, .int z_place, .int z_value, .int z_fault, .ref q_weight, .ref q_eats, .ref q_barred, .ref q_laws, .int z_houses, .int z_draftHouses, .ref q_s, .ref q_kept, .ref q_isKept, .ref q_years, .ref q_likely, .ref q_then, .long z_all, .ref q_row, .ref q_best]), (q_s, aI cy 67 z_s), (q_years, aI cy 4824 z_years)] → va_S A s.heap H locs → lv_has ls 10 [(0, .ref q0), (1, .int x1), (2, .int x2), (3, .int x3), (5, .int x5_6)] → W p l e rmX7_areAtRest s m args below meth c H locs 0 0 Q (F0 m 72 ls []) := by
                intro H locs ls hf hP hD hS hl
                unfold X7_areAtRest_J72 at hf
                refine lv_iconst (v := 0) hx hb dX7_areAtRest_72 (by decide) ?_
                exact hJ73 (0 : Int32) _ _ _ hf hP hD hS (lv_sub hl [0, 1, 2, 3, 4] rfl)
              refine lv_if_eq (tgt := 72) hx hb dX7_areAtRest_60 (by decide) (fun hc_60 => ?_) (fun hc_60 => ?_)
              · have hf := it_t hf hc_60
                exact hJ72 _ _ _ hf hP hD hS (lv_sub hl [1, 2, 3, 4, 6] rfl)
              · have hf := it_f hf hc_60
                refine lv_iload hx hb dX7_areAtRest_63 (lv_at hl 0 rfl) ?_
                refine lv_if_ne (tgt := 72) hx hb dX7_areAtRest_65 (by decide) (fun hc_65 => ?_) (fun hc_65 => ?_)
                · have hf := it_f hf hc_65
                  exact hJ72 _ _ _ hf hP hD hS (lv_sub hl [1, 2, 3, 4, 6] rfl)
                · have hf := it_t hf hc_65
                  refine lv_iconst (v := 1) hx hb dX7_areAtRest_68 (by decide) ?_
                  refine lv_goto (tgt := 73) hx hb dX7_areAtRest_69 (by decide) ?_
                  exact hJ73 (1 : Int32) _ _ _ hf hP hD hS (lv_sub hl [1, 2, 3, 4, 6] rfl)
          refine lv_icmp_ne (tgt := 50) hx hb dX7_areAtRest_43 (by decide) (fun hc_43 => ?_) (fun hc_43 => ?_)
          · have hf := it_f hf hc_43
            refine lv_iconst (v := 0) hx hb dX7_areAtRest_50 (by decide) ?_
            exact hJ51 (0 : Int32) _ _ _ hf hP hD hS (lv_sub hl [1, 2, 3, 4, 5, 6, 0] rfl)
          · have hf := it_t hf hc_43
            refine lv_iconst (v := 1) hx hb dX7_areAtRest_46 (by decide) ?_
            refine lv_goto (tgt := 51) hx hb dX7_areAtRest_47 (by decide) ?_
            exact hJ51 (1 : Int32) _ _ _ hf hP hD hS (lv_sub hl [1, 2, 3, 4, 5, 6, 0] rfl)
        refine lv_icmp_eq (tgt := 33) hx hb dX7_areAtRest_26 (by decide) (fun hc_26 => ?_) (fun hc_26 => ?_)
        · have hf := it_t hf hc_26
          refine lv_iconst (v := 0) hx hb dX7_areAtRest_33 (by decide) ?_
          exact hJ34 (0 : Int32) _ _ _ hf hP hD hS (lv_sub hl [0, 1, 2, 3, 4, 5] rfl)
        · have hf := it_f hf hc_26
          refine lv_iconst (v := 1) hx hb dX7_areAtRest_29 (by decide) ?_
          refine lv_goto (tgt := 34) hx hb dX7_areAtRest_30 (by decide) ?_
          exact hJ34 (1 : Int32) _ _ _ hf hP hD hS (lv_sub hl [0, 1, 2, 3, 4, 5] rfl)
  exact hL6 _ (1 : Int32) (0 : Int32) _ _ _ hf hP hD hS (lv_sub hl [2, 3, 4, 5, 1, 0] rfl)

def X7_canAll_J42 (x3_4 : Int32) (self_4 : Int32 → Int32 → Option Int32) (t0_42 : Int32) : Option Int32 := lets (x3_4 + (1 : Int32)) (fun x3_43 => self_4 t0_42 x3_43)
def X7_canAll_J41 (x3_4 : Int32) (self_4 : Int32 → Int32 → Option Int32) : Option Int32 := X7_canAll_J42 x3_4 self_4 (0 : Int32)
def X7_canAll_J37 (x3_4 : Int32) (self_4 : Int32 → Int32 → Option Int32) : Option Int32 := X7_canAll_J42 x3_4 self_4 (1 : Int32)
def X7_canAll_S4 (z_houses : Int32) (z_s : Nat → Int32) (z_years : Nat → Int32) (x1 : Int32) (self_4 : Int32 → Int32 → Option Int32) (x2_4 : Int32) (x3_4 : Int32) : Option Int32 := if z_houses ≤ x3_4 then (gd (isB x2_4) (some x2_4)) else (if x2_4 = 0 then (X7_canAll_J41 x3_4 self_4) else (if ((x1 >>> (x3_4 &&& 31)) &&& (1 : Int32)) = 0 then (X7_canAll_J37 x3_4 self_4) else ((fX7_greatest z_s z_years ((4 : Int32) * x3_4) (1 : Int32)).bind (fun r_29 => if r_29 = (-9 : Int32) then (X7_canAll_J41 x3_4 self_4) else (X7_canAll_J37 x3_4 self_4)))))
def fX7_canAll (z_houses : Int32) (z_s : Nat → Int32) (z_years : Nat → Int32) (x1 : Int32) : Option Int32 := it2 (X7_canAll_S4 z_houses z_s z_years x1) 100000 (1 : Int32) (0 : Int32)
abbrev rmX7_canAll : Room := { frames := 1, cells := 0, slots := 0, locals := 26 }
set_option maxHeartbeats 4000000 in
set_option maxRecDepth 100000 in
theorem ktX7_canAll (l : Launch) (D : va_G) (cy : Nat → ClassId) (q0 : Nat) (q_text : Nat) (q_weight : Nat) (q_eats : Nat) (q_barred : Nat) (q_laws : Nat) (q_s : Nat) (q_kept : Nat) (q_isKept : Nat) (q_years : Nat) (q_likely : Nat) (q_then : Nat) (q_row : Nat) (q_best : Nat) (z_thrown : Int32) (z_trace : Int64) (z_typed : Int32) (z_next : Int32) (z_token : Int32) (z_place : Int32) (z_value : Int32) (z_fault : Int32) (z_houses : Int32) (z_draftHouses : Int32) (z_all : Int64) (z_s : Nat → Int32) (z_years : Nat → Int32) (x1 : Int32) (r : Int32) (hf : fX7_canAll z_houses z_s z_years x1 = some r) : CtI l yX7_canAll wsX7_canAll rmX7_canAll D cy [.ref q0, .int x1] [(q0, oB 7 [.int z_thrown, .long z_trace, .ref q_text, .int z_typed, .int z_next, .int z_token, .int z_place, .int z_value, .int z_fault, .ref q_weight, .ref q_eats, .ref q_barred, .ref q_laws, .int z_houses, .int z_draftHouses, .ref q_s, .ref q_kept, .ref q_isKept, .ref q_years, .ref q_likely, .ref q_then, .long z_all, .ref q_row, .ref q_best]), (q_s, aI cy 67 z_s), (q_years, aI cy 4824 z_years)] [(q0, oB 7 [.int z_thrown, .long z_trace, .ref q_text, .int z_typed, .int z_next, .int z_token, .int z_place, .int z_value, .int z_fault, .ref q_weight, .ref q_eats, .ref q_barred, .ref q_laws, .int z_houses, .int z_draftHouses, .ref q_s, .ref q_kept, .ref q_isKept, .ref q_years, .ref q_likely, .ref q_then, .long z_all, .ref q_row, .ref q_best]), (q_s, aI cy 67 z_s), (q_years, aI cy 4824 z_years)] r := by
  refine Ct_ofZ (cc := cX7_canAll) (nL := 4) (by decide) rfl (Nat.le_of_ble_eq_true rfl) ?_
  intro p e s m args below meth c A Q hM hret hP hD hS ls hl
  obtain ⟨hx, hb, hml, hown, hts, hcx, hA, hsx⟩ := hM
  have hown : s.vm.findClass RX7 = some m.cls := hown
  have hK := hcx.1
  have hN := hcx.2
  have kw0 := hts (.fieldLink RX7 122 "EachBringsModel" "houses" "I") (List.mem_of_getElem? (i := 1) rfl)
  have kc1 : ∀ w ∈ wsX70, w ∈ wsX7_canAll := fun _ h => List.mem_cons_of_mem _ (List.mem_append_right _ h)
  have hl : lv_has ls 4 [(0, .ref q0), (1, .int x1)] := hl
  have hret' : ∀ (pc : Nat) (ls : Array Slot) (H : Heap) (locs : List Loc) (v : Int32), decode cX7_canAll pc = .ok (.ireturn, 1) → isB v → some v = some r → va_P D vwCl [(q0, oB 7 [.int z_thrown, .long z_trace, .ref q_text, .int z_typed, .int z_next, .int z_token, .int z_place, .int z_value, .int z_fault, .ref q_weight, .ref q_eats, .ref q_barred, .ref q_laws, .int z_houses, .int z_draftHouses, .ref q_s, .ref q_kept, .ref q_isKept, .ref q_years, .ref q_likely, .ref q_then, .long z_all, .ref q_row, .ref q_best]), (q_s, aI cy 67 z_s), (q_years, aI cy 4824 z_years)] H → va_D A [(q0, oB 7 [.int z_thrown, .long z_trace, .ref q_text, .int z_typed, .int z_next, .int z_token, .int z_place, .int z_value, .int z_fault, .ref q_weight, .ref q_eats, .ref q_barred, .ref q_laws, .int z_houses, .int z_draftHouses, .ref q_s, .ref q_kept, .ref q_isKept, .ref q_years, .ref q_likely, .ref q_then, .long z_all, .ref q_row, .ref q_best]), (q_s, aI cy 67 z_s), (q_years, aI cy 4824 z_years)] → va_S A s.heap H locs → W p l e rmX7_canAll s m args below meth c H locs 0 0 Q (F0 m pc ls [.int v]) := by
    intro pc ls H locs v hd hbv he hP hD hS
    cases he
    exact hret _ _ _ _ _ hd hbv rfl hP hD hS
  unfold fX7_canAll at hf
  refine lv_iconst (v := 1) hx hb dX7_canAll_0 (by decide) ?_
  refine lv_istore_n (lv' := [(2, .int (1 : Int32)), (0, .ref q0), (1, .int x1)]) hx hb dX7_canAll_1 rfl hl (by decide) rfl (fun ls hl => ?_)
  refine lv_iconst (v := 0) hx hb dX7_canAll_2 (by decide) ?_
  refine lv_istore_n (lv' := [(3, .int (0 : Int32)), (2, .int (1 : Int32)), (0, .ref q0), (1, .int x1)]) hx hb dX7_canAll_3 rfl hl (by decide) rfl (fun ls hl => ?_)
  have hL4 : ∀ (n : Nat) (x2_4 : Int32) (x3_4 : Int32) (H : Heap) (locs : List Loc) (ls : Array Slot), it2 (X7_canAll_S4 z_houses z_s z_years x1) n x2_4 x3_4 = some r → va_P D vwCl [(q0, oB 7 [.int z_thrown, .long z_trace, .ref q_text, .int z_typed, .int z_next, .int z_token, .int z_place, .int z_value, .int z_fault, .ref q_weight, .ref q_eats, .ref q_barred, .ref q_laws, .int z_houses, .int z_draftHouses, .ref q_s, .ref q_kept, .ref q_isKept, .ref q_years, .ref q_likely, .ref q_then, .long z_all, .ref q_row, .ref q_best]), (q_s, aI cy 67 z_s), (q_years, aI cy 4824 z_years)] H → va_D A [(q0, oB 7 [.int z_thrown, .long z_trace, .ref q_text, .int z_typed, .int z_next, .int z_token, .int z_place, .int z_value, .int z_fault, .ref q_weight, .ref q_eats, .ref q_barred, .ref q_laws, .int z_houses, .int z_draftHouses, .ref q_s, .ref q_kept, .ref q_isKept, .ref q_years, .ref q_likely, .ref q_then, .long z_all, .ref q_row, .ref q_best]), (q_s, aI cy 67 z_s), (q_years, aI cy 4824 z_years)] → va_S A s.heap H locs → lv_has ls 4 [(0, .ref q0), (1, .int x1), (2, .int x2_4), (3, .int x3_4)] → W p l e rmX7_canAll s m args below meth c H locs 0 0 Q (F0 m 4 ls []) := by
    intro n
    induction n with
    | zero => intro x2_4 x3_4 H locs ls hf; exact absurd hf (by simp [it2])
    | succ n ih4 =>
      intro x2_4 x3_4 H locs ls hf hP hD hS hl
      have hf : X7_canAll_S4 z_houses z_s z_years x1 (it2 (X7_canAll_S4 z_houses z_s z_years x1) n) x2_4 x3_4 = some r := hf
      generalize it2 (X7_canAll_S4 z_houses z_s z_years x1) n = self_4 at hf ih4
      unfold X7_canAll_S4 at hf
      refine lv_iload_n hx hb dX7_canAll_4 rfl (lv_at hl 3 rfl) ?_
      refine lv_aload_n hx hb dX7_canAll_5 rfl (lv_at hl 0 rfl) ?_
      refine va_get (D := D) (ci := 7) (v := .int z_houses) (C := RX7) (T := TX7) (N := 24) hx hb hts kc1 hown hK hP 0 rfl rfl 13 (by decide) kw0 (fun _ h9 => h9) rfl dX7_canAll_6 ?_
      refine lv_icmp_ge (tgt := 49) hx hb dX7_canAll_9 (by decide) (fun hc_9 => ?_) (fun hc_9 => ?_)
      · have hf := it_t hf hc_9
        refine lv_iload_n hx hb dX7_canAll_49 rfl (lv_at hl 2 rfl) ?_
        obtain ⟨hg_50, hf⟩ := gd_some hf
        exact hret' _ _ _ _ _ dX7_canAll_50 hg_50 hf hP hD hS
      · have hf := it_f hf hc_9
        refine lv_iload_n hx hb dX7_canAll_12 rfl (lv_at hl 2 rfl) ?_
        have hJ42 : ∀ (t0_42 : Int32) (H : Heap) (locs : List Loc) (ls : Array Slot), X7_canAll_J42 x3_4 self_4 t0_42 = some r → va_P D vwCl [(q0, oB 7 [.int z_thrown, .long z_trace, .ref q_text, .int z_typed, .int z_next, .int z_token, .int z_place, .int z_value, .int z_fault, .ref q_weight, .ref q_eats, .ref q_barred, .ref q_laws, .int z_houses, .int z_draftHouses, .ref q_s, .ref q_kept, .ref q_isKept, .ref q_years, .ref q_likely, .ref q_then, .long z_all, .ref q_row, .ref q_best]), (q_s, aI cy 67 z_s), (q_years, aI cy 4824 z_years)] H → va_D A [(q0, oB 7 [.int z_thrown, .long z_trace, .ref q_text, .int z_typed, .int z_next, .int z_token, .int z_place, .int z_value, .int z_fault, .ref q_weight, .ref q_eats, .ref q_barred, .ref q_laws, .int z_houses, .int z_draftHouses, .ref q_s, .ref q_kept, .ref q_isKept, .ref q_years, .ref q_likely, .ref q_then, .long z_all, .ref q_row, .ref q_best]), (q_s, aI cy 67 z_s), (q_years, aI cy 4824 z_years)] → va_S A s.heap H locs → lv_has ls 4 [(0, .ref q0), (1, .int x1), (3, .int x3_4)] → W p l e rmX7_canAll s m args below meth c H locs 0 0 Q (F0 m 42 ls [.int t0_42]) := by
          intro t0_42 H locs ls hf hP hD hS hl
          unfold X7_canAll_J42 at hf
          refine lv_istore_n (lv' := [(2, .int t0_42), (0, .ref q0), (1, .int x1), (3, .int x3_4)]) hx hb dX7_canAll_42 rfl hl (by decide) rfl (fun ls hl => ?_)
          obtain ⟨x3_43, ex3_43⟩ : ∃ y : Int32, y = x3_4 + (1 : Int32) := ⟨_, rfl⟩
          have hf := lets_at hf ex3_43
          refine lv_iinc (v := x3_43) (lv' := [(3, .int x3_43), (2, .int t0_42), (0, .ref q0), (1, .int x1)]) hx hb dX7_canAll_43 hl (k := 3) rfl (by rw [ex3_43]; rfl) (by decide) rfl (fun ls hl => ?_)
          refine lv_goto (tgt := 4) hx hb dX7_canAll_46 (by decide) ?_
          exact ih4 t0_42 x3_43 _ _ _ hf hP hD hS (lv_sub hl [2, 3, 1, 0] rfl)
        have hJ41 : ∀ (H : Heap) (locs : List Loc) (ls : Array Slot), X7_canAll_J41 x3_4 self_4 = some r → va_P D vwCl [(q0, oB 7 [.int z_thrown, .long z_trace, .ref q_text, .int z_typed, .int z_next, .int z_token, .int z_place, .int z_value, .int z_fault, .ref q_weight, .ref q_eats, .ref q_barred, .ref q_laws, .int z_houses, .int z_draftHouses, .ref q_s, .ref q_kept, .ref q_isKept, .ref q_years, .ref q_likely, .ref q_then, .long z_all, .ref q_row, .ref q_best]), (q_s, aI cy 67 z_s), (q_years, aI cy 4824 z_years)] H → va_D A [(q0, oB 7 [.int z_thrown, .long z_trace, .ref q_text, .int z_typed, .int z_next, .int z_token, .int z_place, .int z_value, .int z_fault, .ref q_weight, .ref q_eats, .ref q_barred, .ref q_laws, .int z_houses, .int z_draftHouses, .ref q_s, .ref q_kept, .ref q_isKept, .ref q_years, .ref q_likely, .ref q_then, .long z_all, .ref q_row, .ref q_best]), (q_s, aI cy 67 z_s), (q_years, aI cy 4824 z_years)] → va_S A s.heap H locs → lv_has ls 4 [(0, .ref q0), (1, .int x1), (3, .int x3_4)] → W p l e rmX7_canAll s m args below meth c H locs 0 0 Q (F0 m 41 ls []) := by
          intro H locs ls hf hP hD hS hl
          unfold X7_canAll_J41 at hf
          refine lv_iconst (v := 0) hx hb dX7_canAll_41 (by decide) ?_
          exact hJ42 (0 : Int32) _ _ _ hf hP hD hS (lv_sub hl [0, 1, 2] rfl)
        refine lv_if_eq (tgt := 41) hx hb dX7_canAll_13 (by decide) (fun hc_13 => ?_) (fun hc_13 => ?_)
        · have hf := it_t hf hc_13
          exact hJ41 _ _ _ hf hP hD hS (lv_sub hl [0, 1, 3] rfl)
        · have hf := it_f hf hc_13
          refine lv_iload_n hx hb dX7_canAll_16 rfl (lv_at hl 1 rfl) ?_
          refine lv_iload_n hx hb dX7_canAll_17 rfl (lv_at hl 3 rfl) ?_
          refine lv_ishr hx hb dX7_canAll_18 ?_
          refine lv_iconst (v := 1) hx hb dX7_canAll_19 (by decide) ?_
          refine lv_iand hx hb dX7_canAll_20 ?_
          have hJ37 : ∀ (H : Heap) (locs : List Loc) (ls : Array Slot), X7_canAll_J37 x3_4 self_4 = some r → va_P D vwCl [(q0, oB 7 [.int z_thrown, .long z_trace, .ref q_text, .int z_typed, .int z_next, .int z_token, .int z_place, .int z_value, .int z_fault, .ref q_weight, .ref q_eats, .ref q_barred, .ref q_laws, .int z_houses, .int z_draftHouses, .ref q_s, .ref q_kept, .ref q_isKept, .ref q_years, .ref q_likely, .ref q_then, .long z_all, .ref q_row, .ref q_best]), (q_s, aI cy 67 z_s), (q_years, aI cy 4824 z_years)] H → va_D A [(q0, oB 7 [.int z_thrown, .long z_trace, .ref q_text, .int z_typed, .int z_next, .int z_token, .int z_place, .int z_value, .int z_fault, .ref q_weight, .ref q_eats, .ref q_barred, .ref q_laws, .int z_houses, .int z_draftHouses, .ref q_s, .ref q_kept, .ref q_isKept, .ref q_years, .ref q_likely, .ref q_then, .long z_all, .ref q_row, .ref q_best]), (q_s, aI cy 67 z_s), (q_years, aI cy 4824 z_years)] → va_S A s.heap H locs → lv_has ls 4 [(0, .ref q0), (1, .int x1), (3, .int x3_4)] → W p l e rmX7_canAll s m args below meth c H locs 0 0 Q (F0 m 37 ls []) := by
            intro H locs ls hf hP hD hS hl
            unfold X7_canAll_J37 at hf
            refine lv_iconst (v := 1) hx hb dX7_canAll_37 (by decide) ?_
            refine lv_goto (tgt := 42) hx hb dX7_canAll_38 (by decide) ?_
            exact hJ42 (1 : Int32) _ _ _ hf hP hD hS (lv_sub hl [0, 1, 2] rfl)
          refine lv_if_eq (tgt := 37) hx hb dX7_canAll_21 (by decide) (fun hc_21 => ?_) (fun hc_21 => ?_)
          · have hf := it_t hf hc_21
            exact hJ37 _ _ _ hf hP hD hS (lv_sub hl [0, 1, 3] rfl)
          · have hf := it_f hf hc_21
            refine lv_aload_n hx hb dX7_canAll_24 rfl (lv_at hl 0 rfl) ?_
            refine lv_iconst (v := 4) hx hb dX7_canAll_25 (by decide) ?_
            refine lv_iload_n hx hb dX7_canAll_26 rfl (lv_at hl 3 rfl) ?_
            refine lv_imul hx hb dX7_canAll_27 ?_
            refine lv_iconst (v := 1) hx hb dX7_canAll_28 (by decide) ?_
            obtain ⟨r_29, hr_29, hf⟩ := bd_some hf
            refine cl_i (wc := [(q0, oB 7 [.int z_thrown, .long z_trace, .ref q_text, .int z_typed, .int z_next, .int z_token, .int z_place, .int z_value, .int z_fault, .ref q_weight, .ref q_eats, .ref q_barred, .ref q_laws, .int z_houses, .int z_draftHouses, .ref q_s, .ref q_kept, .ref q_isKept, .ref q_years, .ref q_likely, .ref q_then, .long z_all, .ref q_row, .ref q_best]), (q_s, aI cy 67 z_s), (q_years, aI cy 4824 z_years)]) (w1 := [(q0, oB 7 [.int z_thrown, .long z_trace, .ref q_text, .int z_typed, .int z_next, .int z_token, .int z_place, .int z_value, .int z_fault, .ref q_weight, .ref q_eats, .ref q_barred, .ref q_laws, .int z_houses, .int z_draftHouses, .ref q_s, .ref q_kept, .ref q_isKept, .ref q_years, .ref q_likely, .ref q_then, .long z_all, .ref q_row, .ref q_best]), (q_s, aI cy 67 z_s), (q_years, aI cy 4824 z_years)]) (wr := []) (w2 := [(q0, oB 7 [.int z_thrown, .long z_trace, .ref q_text, .int z_typed, .int z_next, .int z_token, .int z_place, .int z_value, .int z_fault, .ref q_weight, .ref q_eats, .ref q_barred, .ref q_laws, .int z_houses, .int z_draftHouses, .ref q_s, .ref q_kept, .ref q_isKept, .ref q_years, .ref q_likely, .ref q_then, .long z_all, .ref q_row, .ref q_best]), (q_s, aI cy 67 z_s), (q_years, aI cy 4824 z_years)]) (va_runV (As := [.int ((4 : Int32) * x3_4), .int (1 : Int32)]) (rest := []) ⟨hx, hb, hml, hown, hts⟩ (ktX7_greatest l D cy q0 q_text q_weight q_eats q_barred q_laws q_s q_kept q_isKept q_years q_likely q_then q_row q_best z_thrown z_trace z_typed z_next z_token z_place z_value z_fault z_houses z_draftHouses z_all z_s z_years ((4 : Int32) * x3_4) (1 : Int32) r_29 hr_29 _) (cwV 2 hts gX7_canAll_X7_greatest rfl rfl rfl (by decide +kernel) ⟨Nat.le_of_ble_eq_true rfl, Nat.le_of_ble_eq_true rfl⟩) (pre_V (wc := [(q0, oB 7 [.int z_thrown, .long z_trace, .ref q_text, .int z_typed, .int z_next, .int z_token, .int z_place, .int z_value, .int z_fault, .ref q_weight, .ref q_eats, .ref q_barred, .ref q_laws, .int z_houses, .int z_draftHouses, .ref q_s, .ref q_kept, .ref q_isKept, .ref q_years, .ref q_likely, .ref q_then, .long z_all, .ref q_row, .ref q_best]), (q_s, aI cy 67 z_s), (q_years, aI cy 4824 z_years)]) (ci := 7) hcx hsx hS hA hP hD [0, 1, 2] rfl (by decide) rfl rfl) rfl rfl hl.1 rfl (lv_room (Nat.le_of_ble_eq_true rfl)) dX7_canAll_29 ⟨Nat.zero_le _, Nat.zero_le _⟩) hP hD hS hA [0, 1, 2] [] [0, 1, 2] rfl rfl (by decide) (by decide) (by decide) rfl (fun H locs hP hD hS => ?_)
            refine lv_bipush (v := -9) hx hb dX7_canAll_32 (by decide) ?_
            refine lv_icmp_eq (tgt := 41) hx hb dX7_canAll_34 (by decide) (fun hc_34 => ?_) (fun hc_34 => ?_)
            · have hf := it_t hf hc_34
              exact hJ41 _ _ _ hf hP hD hS (lv_sub hl [0, 1, 3] rfl)
            · have hf := it_f hf hc_34
              exact hJ37 _ _ _ hf hP hD hS (lv_sub hl [0, 1, 3] rfl)
  exact hL4 _ (1 : Int32) (0 : Int32) _ _ _ hf hP hD hS (lv_sub hl [2, 3, 1, 0] rfl)

def X7_rests_J100 (x3 : Int32) (x4_100 : Int32) (x5_100 : Int32) : Option (Int32 × Int32) := if x3 = 0 then (some (x4_100, (0 : Int32))) else (some (x5_100, (0 : Int32)))
def X7_rests_J94 (x6_46 : Int32) (self_46 : Int32 → Int32 → Int32 → Option (Int32 × Int32)) (x4_94 : Int32) (x5_94 : Int32) : Option (Int32 × Int32) := lets (x6_46 + (1 : Int32)) (fun x6_94 => self_46 x4_94 x5_94 x6_94)
def X7_rests_J89 (x4_46 : Int32) (x6_46 : Int32) (self_46 : Int32 → Int32 → Int32 → Option (Int32 × Int32)) (t0_89 : Int32) : Option (Int32 × Int32) := lets (x4_46 + (1 : Int32)) (fun x4_91 => X7_rests_J94 x6_46 self_46 x4_91 t0_89)
def X7_rests_S46 (z_houses : Int32) (z_s : Nat → Int32) (z_years : Nat → Int32) (x1 : Int32) (x2 : Int32) (x3 : Int32) (self_46 : Int32 → Int32 → Int32 → Option (Int32 × Int32)) (x4_46 : Int32) (x5_46 : Int32) (x6_46 : Int32) : Option (Int32 × Int32) := if ((1 : Int32) <<< (z_houses &&& 31)) ≤ x6_46 then (X7_rests_J100 x3 x4_46 x5_46) else ((fX7_canAll z_houses z_s z_years x6_46).bind (fun r_60 => if r_60 = 0 then (X7_rests_J94 x6_46 self_46 x4_46 x5_46) else ((fX7_areAtRest z_houses z_s z_years x6_46 x1 x2).bind (fun r_71 => if r_71 = 0 then (X7_rests_J94 x6_46 self_46 x4_46 x5_46) else (if x4_46 = 0 then (X7_rests_J89 x4_46 x6_46 self_46 x6_46) else (X7_rests_J89 x4_46 x6_46 self_46 x5_46))))))
def fX7_rests (z_houses : Int32) (z_s : Nat → Int32) (z_years : Nat → Int32) (x1 : Int32) (x2 : Int32) (x3 : Int32) : Option (Int32 × Int32) := (fX7_in x1 (1 : Int32) (99 : Int32)).bind (fun r_9 => if r_9 = 0 then (some ((-1 : Int32), (0 : Int32))) else ((fX7_in x2 (1 : Int32) (99 : Int32)).bind (fun r_19 => if r_19 = 0 then (some ((-1 : Int32), (0 : Int32))) else ((fX7_in x3 (0 : Int32) (1 : Int32)).bind (fun r_28 => if r_28 = 0 then (some ((-1 : Int32), (0 : Int32))) else (it3 (X7_rests_S46 z_houses z_s z_years x1 x2 x3) 100000 (0 : Int32) (-9 : Int32) (0 : Int32)))))))
abbrev rmX7_rests : Room := { frames := 3, cells := 0, slots := 0, locals := 79 }
set_option maxHeartbeats 4000000 in
set_option maxRecDepth 100000 in
theorem ktX7_rests (l : Launch) (D : va_G) (cy : Nat → ClassId) (q0 : Nat) (q_text : Nat) (q_weight : Nat) (q_eats : Nat) (q_barred : Nat) (q_laws : Nat) (q_s : Nat) (q_kept : Nat) (q_isKept : Nat) (q_years : Nat) (q_likely : Nat) (q_then : Nat) (q_row : Nat) (q_best : Nat) (z_thrown : Int32) (z_trace : Int64) (z_typed : Int32) (z_next : Int32) (z_token : Int32) (z_place : Int32) (z_value : Int32) (z_fault : Int32) (z_houses : Int32) (z_draftHouses : Int32) (z_all : Int64) (z_s : Nat → Int32) (z_years : Nat → Int32) (x1 : Int32) (x2 : Int32) (x3 : Int32) (r : Int32 × Int32) (hf : fX7_rests z_houses z_s z_years x1 x2 x3 = some r) : CtI l yX7_rests wsX7_rests rmX7_rests D cy [.ref q0, .int x1, .int x2, .int x3] [(q0, oB 7 [.int z_thrown, .long z_trace, .ref q_text, .int z_typed, .int z_next, .int z_token, .int z_place, .int z_value, .int z_fault, .ref q_weight, .ref q_eats, .ref q_barred, .ref q_laws, .int z_houses, .int z_draftHouses, .ref q_s, .ref q_kept, .ref q_isKept, .ref q_years, .ref q_likely, .ref q_then, .long z_all, .ref q_row, .ref q_best]), (q_s, aI cy 67 z_s), (q_years, aI cy 4824 z_years)] [(q0, oB 7 [.int r.2, .long z_trace, .ref q_text, .int z_typed, .int z_next, .int z_token, .int z_place, .int z_value, .int z_fault, .ref q_weight, .ref q_eats, .ref q_barred, .ref q_laws, .int z_houses, .int z_draftHouses, .ref q_s, .ref q_kept, .ref q_isKept, .ref q_years, .ref q_likely, .ref q_then, .long z_all, .ref q_row, .ref q_best]), (q_s, aI cy 67 z_s), (q_years, aI cy 4824 z_years)] r.1 := by
  refine Ct_ofI (cc := cX7_rests) (nL := 7) (by decide) rfl (Nat.le_of_ble_eq_true rfl) ?_
  intro p e s m args below meth c A Q hM hret hP hD hS ls hl
  obtain ⟨hx, hb, hml, hown, hts, hcx, hA, hsx⟩ := hM
  have hown : s.vm.findClass RX7 = some m.cls := hown
  have hK := hcx.1
  have hN := hcx.2
  have kw0 := hts (.fieldLink RX7 54 "EachBringsModel" "thrown" "I") (List.mem_of_getElem? (i := 1) rfl)
  have kc1 : ∀ w ∈ wsX70, w ∈ wsX7_rests := fun _ h => List.mem_cons_of_mem _ (List.mem_append_right _ h)
  have kw2 := hts (.fieldLink RX7 122 "EachBringsModel" "houses" "I") (List.mem_of_getElem? (i := 2) rfl)
  have hl : lv_has ls 7 [(0, .ref q0), (1, .int x1), (2, .int x2), (3, .int x3)] := hl
  have hret' : ∀ (pc : Nat) (ls : Array Slot) (H : Heap) (locs : List Loc) (v : Int32) (w0 : Int32), decode cX7_rests pc = .ok (.ireturn, 1) → some (v, w0) = some r → va_P D vwCl [(q0, oB 7 [.int w0, .long z_trace, .ref q_text, .int z_typed, .int z_next, .int z_token, .int z_place, .int z_value, .int z_fault, .ref q_weight, .ref q_eats, .ref q_barred, .ref q_laws, .int z_houses, .int z_draftHouses, .ref q_s, .ref q_kept, .ref q_isKept, .ref q_years, .ref q_likely, .ref q_then, .long z_all, .ref q_row, .ref q_best]), (q_s, aI cy 67 z_s), (q_years, aI cy 4824 z_years)] H → va_D A [(q0, oB 7 [.int w0, .long z_trace, .ref q_text, .int z_typed, .int z_next, .int z_token, .int z_place, .int z_value, .int z_fault, .ref q_weight, .ref q_eats, .ref q_barred, .ref q_laws, .int z_houses, .int z_draftHouses, .ref q_s, .ref q_kept, .ref q_isKept, .ref q_years, .ref q_likely, .ref q_then, .long z_all, .ref q_row, .ref q_best]), (q_s, aI cy 67 z_s), (q_years, aI cy 4824 z_years)] → va_S A s.heap H locs → W p l e rmX7_rests s m args below meth c H locs 0 0 Q (F0 m pc ls [.int v]) := by
    intro pc ls H locs v w0 hd he hP hD hS
    cases he
    exact hret _ _ _ _ _ hd rfl hP hD hS
  unfold fX7_rests at hf
  refine lv_aload_n hx hb dX7_rests_0 rfl (lv_at hl 0 rfl) ?_
  refine lv_iconst (v := 0) hx hb dX7_rests_1 (by decide) ?_
  refine va_put (D := D) (ci := 7) (v := .int (0 : Int32)) (ty := .int) (C := RX7) (T := TX7) (N := 24) hx hb hts kc1 tyX7 tyX7_ok nmX7 hown hK hP hD hS 0 rfl rfl 0 (by decide) kw0 (fun _ h9 => h9) rfl pfI rfl rfl (Nat.le_of_ble_eq_true rfl) dX7_rests_2 (fun H locs hP hD hS => ?_)
  have hP : va_P D vwCl [(q0, oB 7 [.int (0 : Int32), .long z_trace, .ref q_text, .int z_typed, .int z_next, .int z_token, .int z_place, .int z_value, .int z_fault, .ref q_weight, .ref q_eats, .ref q_barred, .ref q_laws, .int z_houses, .int z_draftHouses, .ref q_s, .ref q_kept, .ref q_isKept, .ref q_years, .ref q_likely, .ref q_then, .long z_all, .ref q_row, .ref q_best]), (q_s, aI cy 67 z_s), (q_years, aI cy 4824 z_years)] H := hP
  have hD : va_D A [(q0, oB 7 [.int (0 : Int32), .long z_trace, .ref q_text, .int z_typed, .int z_next, .int z_token, .int z_place, .int z_value, .int z_fault, .ref q_weight, .ref q_eats, .ref q_barred, .ref q_laws, .int z_houses, .int z_draftHouses, .ref q_s, .ref q_kept, .ref q_isKept, .ref q_years, .ref q_likely, .ref q_then, .long z_all, .ref q_row, .ref q_best]), (q_s, aI cy 67 z_s), (q_years, aI cy 4824 z_years)] := hD
  refine lv_iload_n hx hb dX7_rests_5 rfl (lv_at hl 1 rfl) ?_
  refine lv_iconst (v := 1) hx hb dX7_rests_6 (by decide) ?_
  refine lv_bipush (v := 99) hx hb dX7_rests_7 (by decide) ?_
  obtain ⟨r_9, hr_9, hf⟩ := bd_some hf
  refine cl_i (wc := []) (w1 := []) (wr := [(q0, oB 7 [.int (0 : Int32), .long z_trace, .ref q_text, .int z_typed, .int z_next, .int z_token, .int z_place, .int z_value, .int z_fault, .ref q_weight, .ref q_eats, .ref q_barred, .ref q_laws, .int z_houses, .int z_draftHouses, .ref q_s, .ref q_kept, .ref q_isKept, .ref q_years, .ref q_likely, .ref q_then, .long z_all, .ref q_row, .ref q_best]), (q_s, aI cy 67 z_s), (q_years, aI cy 4824 z_years)]) (w2 := [(q0, oB 7 [.int (0 : Int32), .long z_trace, .ref q_text, .int z_typed, .int z_next, .int z_token, .int z_place, .int z_value, .int z_fault, .ref q_weight, .ref q_eats, .ref q_barred, .ref q_laws, .int z_houses, .int z_draftHouses, .ref q_s, .ref q_kept, .ref q_isKept, .ref q_years, .ref q_likely, .ref q_then, .long z_all, .ref q_row, .ref q_best]), (q_s, aI cy 67 z_s), (q_years, aI cy 4824 z_years)]) (va_runS (As := [.int x1, .int (1 : Int32), .int (99 : Int32)]) (rest := []) ⟨hx, hb, hml, hown, hts⟩ (ktX7_in l D cy x1 (1 : Int32) (99 : Int32) r_9 hr_9 _) (va_cwS 3 hts gX7_rests_X7_in rfl rfl rfl (by decide +kernel) ⟨Nat.le_of_ble_eq_true rfl, Nat.le_of_ble_eq_true rfl⟩) (pre_S (wc := []) hcx hsx hS hA hP hD [] rfl (by decide)) rfl rfl hl.1 rfl (lv_room (Nat.le_of_ble_eq_true rfl)) dX7_rests_9 ⟨Nat.zero_le _, Nat.zero_le _⟩) hP hD hS hA [] [0, 1, 2] [0, 1, 2] rfl rfl (by decide) (by decide) (by decide) rfl (fun H locs hP hD hS => ?_)
  refine lv_if_eq (tgt := 34) hx hb dX7_rests_12 (by decide) (fun hc_12 => ?_) (fun hc_12 => ?_)
  · have hf := it_t hf hc_12
    refine lv_iconst (v := -1) hx hb dX7_rests_34 (by decide) ?_
    exact hret' _ _ _ _ _ _ dX7_rests_35 hf hP hD hS
  · have hf := it_f hf hc_12
    refine lv_iload_n hx hb dX7_rests_15 rfl (lv_at hl 2 rfl) ?_
    refine lv_iconst (v := 1) hx hb dX7_rests_16 (by decide) ?_
    refine lv_bipush (v := 99) hx hb dX7_rests_17 (by decide) ?_
    obtain ⟨r_19, hr_19, hf⟩ := bd_some hf
    refine cl_i (wc := []) (w1 := []) (wr := [(q0, oB 7 [.int (0 : Int32), .long z_trace, .ref q_text, .int z_typed, .int z_next, .int z_token, .int z_place, .int z_value, .int z_fault, .ref q_weight, .ref q_eats, .ref q_barred, .ref q_laws, .int z_houses, .int z_draftHouses, .ref q_s, .ref q_kept, .ref q_isKept, .ref q_years, .ref q_likely, .ref q_then, .long z_all, .ref q_row, .ref q_best]), (q_s, aI cy 67 z_s), (q_years, aI cy 4824 z_years)]) (w2 := [(q0, oB 7 [.int (0 : Int32), .long z_trace, .ref q_text, .int z_typed, .int z_next, .int z_token, .int z_place, .int z_value, .int z_fault, .ref q_weight, .ref q_eats, .ref q_barred, .ref q_laws, .int z_houses, .int z_draftHouses, .ref q_s, .ref q_kept, .ref q_isKept, .ref q_years, .ref q_likely, .ref q_then, .long z_all, .ref q_row, .ref q_best]), (q_s, aI cy 67 z_s), (q_years, aI cy 4824 z_years)]) (va_runS (As := [.int x2, .int (1 : Int32), .int (99 : Int32)]) (rest := []) ⟨hx, hb, hml, hown, hts⟩ (ktX7_in l D cy x2 (1 : Int32) (99 : Int32) r_19 hr_19 _) (va_cwS 3 hts gX7_rests_X7_in rfl rfl rfl (by decide +kernel) ⟨Nat.le_of_ble_eq_true rfl, Nat.le_of_ble_eq_true rfl⟩) (pre_S (wc := []) hcx hsx hS hA hP hD [] rfl (by decide)) rfl rfl hl.1 rfl (lv_room (Nat.le_of_ble_eq_true rfl)) dX7_rests_19 ⟨Nat.zero_le _, Nat.zero_le _⟩) hP hD hS hA [] [0, 1, 2] [0, 1, 2] rfl rfl (by decide) (by decide) (by decide) rfl (fun H locs hP hD hS => ?_)
    refine lv_if_eq (tgt := 34) hx hb dX7_rests_22 (by decide) (fun hc_22 => ?_) (fun hc_22 => ?_)
    · have hf := it_t hf hc_22
      refine lv_iconst (v := -1) hx hb dX7_rests_34 (by decide) ?_
      exact hret' _ _ _ _ _ _ dX7_rests_35 hf hP hD hS
    · have hf := it_f hf hc_22
      refine lv_iload_n hx hb dX7_rests_25 rfl (lv_at hl 3 rfl) ?_
      refine lv_iconst (v := 0) hx hb dX7_rests_26 (by decide) ?_
      refine lv_iconst (v := 1) hx hb dX7_rests_27 (by decide) ?_
      obtain ⟨r_28, hr_28, hf⟩ := bd_some hf
      refine cl_i (wc := []) (w1 := []) (wr := [(q0, oB 7 [.int (0 : Int32), .long z_trace, .ref q_text, .int z_typed, .int z_next, .int z_token, .int z_place, .int z_value, .int z_fault, .ref q_weight, .ref q_eats, .ref q_barred, .ref q_laws, .int z_houses, .int z_draftHouses, .ref q_s, .ref q_kept, .ref q_isKept, .ref q_years, .ref q_likely, .ref q_then, .long z_all, .ref q_row, .ref q_best]), (q_s, aI cy 67 z_s), (q_years, aI cy 4824 z_years)]) (w2 := [(q0, oB 7 [.int (0 : Int32), .long z_trace, .ref q_text, .int z_typed, .int z_next, .int z_token, .int z_place, .int z_value, .int z_fault, .ref q_weight, .ref q_eats, .ref q_barred, .ref q_laws, .int z_houses, .int z_draftHouses, .ref q_s, .ref q_kept, .ref q_isKept, .ref q_years, .ref q_likely, .ref q_then, .long z_all, .ref q_row, .ref q_best]), (q_s, aI cy 67 z_s), (q_years, aI cy 4824 z_years)]) (va_runS (As := [.int x3, .int (0 : Int32), .int (1 : Int32)]) (rest := []) ⟨hx, hb, hml, hown, hts⟩ (ktX7_in l D cy x3 (0 : Int32) (1 : Int32) r_28 hr_28 _) (va_cwS 3 hts gX7_rests_X7_in rfl rfl rfl (by decide +kernel) ⟨Nat.le_of_ble_eq_true rfl, Nat.le_of_ble_eq_true rfl⟩) (pre_S (wc := []) hcx hsx hS hA hP hD [] rfl (by decide)) rfl rfl hl.1 rfl (lv_room (Nat.le_of_ble_eq_true rfl)) dX7_rests_28 ⟨Nat.zero_le _, Nat.zero_le _⟩) hP hD hS hA [] [0, 1, 2] [0, 1, 2] rfl rfl (by decide) (by decide) (by decide) rfl (fun H locs hP hD hS => ?_)
      refine lv_if_ne (tgt := 36) hx hb dX7_rests_31 (by decide) (fun hc_31 => ?_) (fun hc_31 => ?_)
      · have hf := it_f hf hc_31
        refine lv_iconst (v := 0) hx hb dX7_rests_36 (by decide) ?_
        refine lv_istore (lv' := [(4, .int (0 : Int32)), (0, .ref q0), (1, .int x1), (2, .int x2), (3, .int x3)]) hx hb dX7_rests_37 hl (by decide) rfl (fun ls hl => ?_)
        refine lv_bipush (v := -9) hx hb dX7_rests_39 (by decide) ?_
        refine lv_istore (lv' := [(5, .int (-9 : Int32)), (4, .int (0 : Int32)), (0, .ref q0), (1, .int x1), (2, .int x2), (3, .int x3)]) hx hb dX7_rests_41 hl (by decide) rfl (fun ls hl => ?_)
        refine lv_iconst (v := 0) hx hb dX7_rests_43 (by decide) ?_
        refine lv_istore (lv' := [(6, .int (0 : Int32)), (5, .int (-9 : Int32)), (4, .int (0 : Int32)), (0, .ref q0), (1, .int x1), (2, .int x2), (3, .int x3)]) hx hb dX7_rests_44 hl (by decide) rfl (fun ls hl => ?_)
        have hJ100 : ∀ (x4_100 : Int32) (x5_100 : Int32) (H : Heap) (locs : List Loc) (ls : Array Slot), X7_rests_J100 x3 x4_100 x5_100 = some r → va_P D vwCl [(q0, oB 7 [.int (0 : Int32), .long z_trace, .ref q_text, .int z_typed, .int z_next, .int z_token, .int z_place, .int z_value, .int z_fault, .ref q_weight, .ref q_eats, .ref q_barred, .ref q_laws, .int z_houses, .int z_draftHouses, .ref q_s, .ref q_kept, .ref q_isKept, .ref q_years, .ref q_likely, .ref q_then, .long z_all, .ref q_row, .ref q_best]), (q_s, aI cy 67 z_s), (q_years, aI cy 4824 z_years)] H → va_D A [(q0, oB 7 [.int (0 : Int32), .long z_trace, .ref q_text, .int z_typed, .int z_next, .int z_token, .int z_place, .int z_value, .int z_fault, .ref q_weight, .ref q_eats, .ref q_barred, .ref q_laws, .int z_houses, .int z_draftHouses, .ref q_s, .ref q_kept, .ref q_isKept, .ref q_years, .ref q_likely, .ref q_then, .long z_all, .ref q_row, .ref q_best]), (q_s, aI cy 67 z_s), (q_years, aI cy 4824 z_years)] → va_S A s.heap H locs → lv_has ls 7 [(3, .int x3), (4, .int x4_100), (5, .int x5_100)] → W p l e rmX7_rests s m args below meth c H locs 0 0 Q (F0 m 100 ls []) := by
          intro x4_100 x5_100 H locs ls hf hP hD hS hl
          unfold X7_rests_J100 at hf
          refine lv_iload_n hx hb dX7_rests_100 rfl (lv_at hl 0 rfl) ?_
          refine lv_if_ne (tgt := 109) hx hb dX7_rests_101 (by decide) (fun hc_101 => ?_) (fun hc_101 => ?_)
          · have hf := it_f hf hc_101
            refine lv_iload hx hb dX7_rests_109 (lv_at hl 2 rfl) ?_
            exact hret' _ _ _ _ _ _ dX7_rests_111 hf hP hD hS
          · have hf := it_t hf hc_101
            refine lv_iload hx hb dX7_rests_104 (lv_at hl 1 rfl) ?_
            refine lv_goto (tgt := 111) hx hb dX7_rests_106 (by decide) ?_
            exact hret' _ _ _ _ _ _ dX7_rests_111 hf hP hD hS
        have hL46 : ∀ (n : Nat) (x4_46 : Int32) (x5_46 : Int32) (x6_46 : Int32) (H : Heap) (locs : List Loc) (ls : Array Slot), it3 (X7_rests_S46 z_houses z_s z_years x1 x2 x3) n x4_46 x5_46 x6_46 = some r → va_P D vwCl [(q0, oB 7 [.int (0 : Int32), .long z_trace, .ref q_text, .int z_typed, .int z_next, .int z_token, .int z_place, .int z_value, .int z_fault, .ref q_weight, .ref q_eats, .ref q_barred, .ref q_laws, .int z_houses, .int z_draftHouses, .ref q_s, .ref q_kept, .ref q_isKept, .ref q_years, .ref q_likely, .ref q_then, .long z_all, .ref q_row, .ref q_best]), (q_s, aI cy 67 z_s), (q_years, aI cy 4824 z_years)] H → va_D A [(q0, oB 7 [.int (0 : Int32), .long z_trace, .ref q_text, .int z_typed, .int z_next, .int z_token, .int z_place, .int z_value, .int z_fault, .ref q_weight, .ref q_eats, .ref q_barred, .ref q_laws, .int z_houses, .int z_draftHouses, .ref q_s, .ref q_kept, .ref q_isKept, .ref q_years, .ref q_likely, .ref q_then, .long z_all, .ref q_row, .ref q_best]), (q_s, aI cy 67 z_s), (q_years, aI cy 4824 z_years)] → va_S A s.heap H locs → lv_has ls 7 [(0, .ref q0), (1, .int x1), (2, .int x2), (3, .int x3), (4, .int x4_46), (5, .int x5_46), (6, .int x6_46)] → W p l e rmX7_rests s m args below meth c H locs 0 0 Q (F0 m 46 ls []) := by
          intro n
          induction n with
          | zero => intro x4_46 x5_46 x6_46 H locs ls hf; exact absurd hf (by simp [it3])
          | succ n ih46 =>
            intro x4_46 x5_46 x6_46 H locs ls hf hP hD hS hl
            have hf : X7_rests_S46 z_houses z_s z_years x1 x2 x3 (it3 (X7_rests_S46 z_houses z_s z_years x1 x2 x3) n) x4_46 x5_46 x6_46 = some r := hf
            generalize it3 (X7_rests_S46 z_houses z_s z_years x1 x2 x3) n = self_46 at hf ih46
            unfold X7_rests_S46 at hf
            refine lv_iload hx hb dX7_rests_46 (lv_at hl 6 rfl) ?_
            refine lv_iconst (v := 1) hx hb dX7_rests_48 (by decide) ?_
            refine lv_aload_n hx hb dX7_rests_49 rfl (lv_at hl 0 rfl) ?_
            refine va_get (D := D) (ci := 7) (v := .int z_houses) (C := RX7) (T := TX7) (N := 24) hx hb hts kc1 hown hK hP 0 rfl rfl 13 (by decide) kw2 (fun _ h9 => h9) rfl dX7_rests_50 ?_
            refine lv_ishl hx hb dX7_rests_53 ?_
            refine lv_icmp_ge (tgt := 100) hx hb dX7_rests_54 (by decide) (fun hc_54 => ?_) (fun hc_54 => ?_)
            · have hf := it_t hf hc_54
              exact hJ100 x4_46 x5_46 _ _ _ hf hP hD hS (lv_sub hl [3, 4, 5] rfl)
            · have hf := it_f hf hc_54
              refine lv_aload_n hx hb dX7_rests_57 rfl (lv_at hl 0 rfl) ?_
              refine lv_iload hx hb dX7_rests_58 (lv_at hl 6 rfl) ?_
              obtain ⟨r_60, hr_60, hf⟩ := bd_some hf
              refine cl_i (wc := [(q0, oB 7 [.int (0 : Int32), .long z_trace, .ref q_text, .int z_typed, .int z_next, .int z_token, .int z_place, .int z_value, .int z_fault, .ref q_weight, .ref q_eats, .ref q_barred, .ref q_laws, .int z_houses, .int z_draftHouses, .ref q_s, .ref q_kept, .ref q_isKept, .ref q_years, .ref q_likely, .ref q_then, .long z_all, .ref q_row, .ref q_best]), (q_s, aI cy 67 z_s), (q_years, aI cy 4824 z_years)]) (w1 := [(q0, oB 7 [.int (0 : Int32), .long z_trace, .ref q_text, .int z_typed, .int z_next, .int z_token, .int z_place, .int z_value, .int z_fault, .ref q_weight, .ref q_eats, .ref q_barred, .ref q_laws, .int z_houses, .int z_draftHouses, .ref q_s, .ref q_kept, .ref q_isKept, .ref q_years, .ref q_likely, .ref q_then, .long z_all, .ref q_row, .ref q_best]), (q_s, aI cy 67 z_s), (q_years, aI cy 4824 z_years)]) (wr := []) (w2 := [(q0, oB 7 [.int (0 : Int32), .long z_trace, .ref q_text, .int z_typed, .int z_next, .int z_token, .int z_place, .int z_value, .int z_fault, .ref q_weight, .ref q_eats, .ref q_barred, .ref q_laws, .int z_houses, .int z_draftHouses, .ref q_s, .ref q_kept, .ref q_isKept, .ref q_years, .ref q_likely, .ref q_then, .long z_all, .ref q_row, .ref q_best]), (q_s, aI cy 67 z_s), (q_years, aI cy 4824 z_years)]) (va_runV (As := [.int x6_46]) (rest := []) ⟨hx, hb, hml, hown, hts⟩ (ktX7_canAll l D cy q0 q_text q_weight q_eats q_barred q_laws q_s q_kept q_isKept q_years q_likely q_then q_row q_best (0 : Int32) z_trace z_typed z_next z_token z_place z_value z_fault z_houses z_draftHouses z_all z_s z_years x6_46 r_60 hr_60 _) (cwV 1 hts gX7_rests_X7_canAll rfl rfl rfl (by decide +kernel) ⟨Nat.le_of_ble_eq_true rfl, Nat.le_of_ble_eq_true rfl⟩) (pre_V (wc := [(q0, oB 7 [.int (0 : Int32), .long z_trace, .ref q_text, .int z_typed, .int z_next, .int z_token, .int z_place, .int z_value, .int z_fault, .ref q_weight, .ref q_eats, .ref q_barred, .ref q_laws, .int z_houses, .int z_draftHouses, .ref q_s, .ref q_kept, .ref q_isKept, .ref q_years, .ref q_likely, .ref q_then, .long z_all, .ref q_row, .ref q_best]), (q_s, aI cy 67 z_s), (q_years, aI cy 4824 z_years)]) (ci := 7) hcx hsx hS hA hP hD [0, 1, 2] rfl (by decide) rfl rfl) rfl rfl hl.1 rfl (lv_room (Nat.le_of_ble_eq_true rfl)) dX7_rests_60 ⟨Nat.zero_le _, Nat.zero_le _⟩) hP hD hS hA [0, 1, 2] [] [0, 1, 2] rfl rfl (by decide) (by decide) (by decide) rfl (fun H locs hP hD hS => ?_)
              have hJ94 : ∀ (x4_94 : Int32) (x5_94 : Int32) (H : Heap) (locs : List Loc) (ls : Array Slot), X7_rests_J94 x6_46 self_46 x4_94 x5_94 = some r → va_P D vwCl [(q0, oB 7 [.int (0 : Int32), .long z_trace, .ref q_text, .int z_typed, .int z_next, .int z_token, .int z_place, .int z_value, .int z_fault, .ref q_weight, .ref q_eats, .ref q_barred, .ref q_laws, .int z_houses, .int z_draftHouses, .ref q_s, .ref q_kept, .ref q_isKept, .ref q_years, .ref q_likely, .ref q_then, .long z_all, .ref q_row, .ref q_best]), (q_s, aI cy 67 z_s), (q_years, aI cy 4824 z_years)] H → va_D A [(q0, oB 7 [.int (0 : Int32), .long z_trace, .ref q_text, .int z_typed, .int z_next, .int z_token, .int z_place, .int z_value, .int z_fault, .ref q_weight, .ref q_eats, .ref q_barred, .ref q_laws, .int z_houses, .int z_draftHouses, .ref q_s, .ref q_kept, .ref q_isKept, .ref q_years, .ref q_likely, .ref q_then, .long z_all, .ref q_row, .ref q_best]), (q_s, aI cy 67 z_s), (q_years, aI cy 4824 z_years)] → va_S A s.heap H locs → lv_has ls 7 [(0, .ref q0), (1, .int x1), (2, .int x2), (3, .int x3), (4, .int x4_94), (5, .int x5_94), (6, .int x6_46)] → W p l e rmX7_rests s m args below meth c H locs 0 0 Q (F0 m 94 ls []) := by
                intro x4_94 x5_94 H locs ls hf hP hD hS hl
                unfold X7_rests_J94 at hf
                obtain ⟨x6_94, ex6_94⟩ : ∃ y : Int32, y = x6_46 + (1 : Int32) := ⟨_, rfl⟩
                have hf := lets_at hf ex6_94
                refine lv_iinc (v := x6_94) (lv' := [(6, .int x6_94), (0, .ref q0), (1, .int x1), (2, .int x2), (3, .int x3), (4, .int x4_94), (5, .int x5_94)]) hx hb dX7_rests_94 hl (k := 6) rfl (by rw [ex6_94]; rfl) (by decide) rfl (fun ls hl => ?_)
                refine lv_goto (tgt := 46) hx hb dX7_rests_97 (by decide) ?_
                exact ih46 x4_94 x5_94 x6_94 _ _ _ hf hP hD hS (lv_sub hl [1, 2, 3, 4, 5, 6, 0] rfl)
              refine lv_if_eq (tgt := 94) hx hb dX7_rests_63 (by decide) (fun hc_63 => ?_) (fun hc_63 => ?_)
              · have hf := it_t hf hc_63
                exact hJ94 x4_46 x5_46 _ _ _ hf hP hD hS (lv_sub hl [0, 1, 2, 3, 4, 5, 6] rfl)
              · have hf := it_f hf hc_63
                refine lv_aload_n hx hb dX7_rests_66 rfl (lv_at hl 0 rfl) ?_
                refine lv_iload hx hb dX7_rests_67 (lv_at hl 6 rfl) ?_
                refine lv_iload_n hx hb dX7_rests_69 rfl (lv_at hl 1 rfl) ?_
                refine lv_iload_n hx hb dX7_rests_70 rfl (lv_at hl 2 rfl) ?_
                obtain ⟨r_71, hr_71, hf⟩ := bd_some hf
                refine cl_i (wc := [(q0, oB 7 [.int (0 : Int32), .long z_trace, .ref q_text, .int z_typed, .int z_next, .int z_token, .int z_place, .int z_value, .int z_fault, .ref q_weight, .ref q_eats, .ref q_barred, .ref q_laws, .int z_houses, .int z_draftHouses, .ref q_s, .ref q_kept, .ref q_isKept, .ref q_years, .ref q_likely, .ref q_then, .long z_all, .ref q_row, .ref q_best]), (q_s, aI cy 67 z_s), (q_years, aI cy 4824 z_years)]) (w1 := [(q0, oB 7 [.int (0 : Int32), .long z_trace, .ref q_text, .int z_typed, .int z_next, .int z_token, .int z_place, .int z_value, .int z_fault, .ref q_weight, .ref q_eats, .ref q_barred, .ref q_laws, .int z_houses, .int z_draftHouses, .ref q_s, .ref q_kept, .ref q_isKept, .ref q_years, .ref q_likely, .ref q_then, .long z_all, .ref q_row, .ref q_best]), (q_s, aI cy 67 z_s), (q_years, aI cy 4824 z_years)]) (wr := []) (w2 := [(q0, oB 7 [.int (0 : Int32), .long z_trace, .ref q_text, .int z_typed, .int z_next, .int z_token, .int z_place, .int z_value, .int z_fault, .ref q_weight, .ref q_eats, .ref q_barred, .ref q_laws, .int z_houses, .int z_draftHouses, .ref q_s, .ref q_kept, .ref q_isKept, .ref q_years, .ref q_likely, .ref q_then, .long z_all, .ref q_row, .ref q_best]), (q_s, aI cy 67 z_s), (q_years, aI cy 4824 z_years)]) (va_runV (As := [.int x6_46, .int x1, .int x2]) (rest := []) ⟨hx, hb, hml, hown, hts⟩ (ktX7_areAtRest l D cy q0 q_text q_weight q_eats q_barred q_laws q_s q_kept q_isKept q_years q_likely q_then q_row q_best (0 : Int32) z_trace z_typed z_next z_token z_place z_value z_fault z_houses z_draftHouses z_all z_s z_years x6_46 x1 x2 r_71 hr_71 _) (cwV 3 hts gX7_rests_X7_areAtRest rfl rfl rfl (by decide +kernel) ⟨Nat.le_of_ble_eq_true rfl, Nat.le_of_ble_eq_true rfl⟩) (pre_V (wc := [(q0, oB 7 [.int (0 : Int32), .long z_trace, .ref q_text, .int z_typed, .int z_next, .int z_token, .int z_place, .int z_value, .int z_fault, .ref q_weight, .ref q_eats, .ref q_barred, .ref q_laws, .int z_houses, .int z_draftHouses, .ref q_s, .ref q_kept, .ref q_isKept, .ref q_years, .ref q_likely, .ref q_then, .long z_all, .ref q_row, .ref q_best]), (q_s, aI cy 67 z_s), (q_years, aI cy 4824 z_years)]) (ci := 7) hcx hsx hS hA hP hD [0, 1, 2] rfl (by decide) rfl rfl) rfl rfl hl.1 rfl (lv_room (Nat.le_of_ble_eq_true rfl)) dX7_rests_71 ⟨Nat.zero_le _, Nat.zero_le _⟩) hP hD hS hA [0, 1, 2] [] [0, 1, 2] rfl rfl (by decide) (by decide) (by decide) rfl (fun H locs hP hD hS => ?_)
                refine lv_if_eq (tgt := 94) hx hb dX7_rests_74 (by decide) (fun hc_74 => ?_) (fun hc_74 => ?_)
                · have hf := it_t hf hc_74
                  exact hJ94 x4_46 x5_46 _ _ _ hf hP hD hS (lv_sub hl [0, 1, 2, 3, 4, 5, 6] rfl)
                · have hf := it_f hf hc_74
                  refine lv_iload hx hb dX7_rests_77 (lv_at hl 4 rfl) ?_
                  have hJ89 : ∀ (t0_89 : Int32) (H : Heap) (locs : List Loc) (ls : Array Slot), X7_rests_J89 x4_46 x6_46 self_46 t0_89 = some r → va_P D vwCl [(q0, oB 7 [.int (0 : Int32), .long z_trace, .ref q_text, .int z_typed, .int z_next, .int z_token, .int z_place, .int z_value, .int z_fault, .ref q_weight, .ref q_eats, .ref q_barred, .ref q_laws, .int z_houses, .int z_draftHouses, .ref q_s, .ref q_kept, .ref q_isKept, .ref q_years, .ref q_likely, .ref q_then, .long z_all, .ref q_row, .ref q_best]), (q_s, aI cy 67 z_s), (q_years, aI cy 4824 z_years)] H → va_D A [(q0, oB 7 [.int (0 : Int32), .long z_trace, .ref q_text, .int z_typed, .int z_next, .int z_token, .int z_place, .int z_value, .int z_fault, .ref q_weight, .ref q_eats, .ref q_barred, .ref q_laws, .int z_houses, .int z_draftHouses, .ref q_s, .ref q_kept, .ref q_isKept, .ref q_years, .ref q_likely, .ref q_then, .long z_all, .ref q_row, .ref q_best]), (q_s, aI cy 67 z_s), (q_years, aI cy 4824 z_years)] → va_S A s.heap H locs → lv_has ls 7 [(0, .ref q0), (1, .int x1), (2, .int x2), (3, .int x3), (4, .int x4_46), (6, .int x6_46)] → W p l e rmX7_rests s m args below meth c H locs 0 0 Q (F0 m 89 ls [.int t0_89]) := by
                    intro t0_89 H locs ls hf hP hD hS hl
                    unfold X7_rests_J89 at hf
                    refine lv_istore (lv' := [(5, .int t0_89), (0, .ref q0), (1, .int x1), (2, .int x2), (3, .int x3), (4, .int x4_46), (6, .int x6_46)]) hx hb dX7_rests_89 hl (by decide) rfl (fun ls hl => ?_)
                    obtain ⟨x4_91, ex4_91⟩ : ∃ y : Int32, y = x4_46 + (1 : Int32) := ⟨_, rfl⟩
                    have hf := lets_at hf ex4_91
                    refine lv_iinc (v := x4_91) (lv' := [(4, .int x4_91), (5, .int t0_89), (0, .ref q0), (1, .int x1), (2, .int x2), (3, .int x3), (6, .int x6_46)]) hx hb dX7_rests_91 hl (k := 5) rfl (by rw [ex4_91]; rfl) (by decide) rfl (fun ls hl => ?_)
                    exact hJ94 x4_91 t0_89 _ _ _ hf hP hD hS (lv_sub hl [2, 3, 4, 5, 0, 1, 6] rfl)
                  refine lv_if_ne (tgt := 87) hx hb dX7_rests_79 (by decide) (fun hc_79 => ?_) (fun hc_79 => ?_)
                  · have hf := it_f hf hc_79
                    refine lv_iload hx hb dX7_rests_87 (lv_at hl 5 rfl) ?_
                    exact hJ89 x5_46 _ _ _ hf hP hD hS (lv_sub hl [0, 1, 2, 3, 4, 6] rfl)
                  · have hf := it_t hf hc_79
                    refine lv_iload hx hb dX7_rests_82 (lv_at hl 6 rfl) ?_
                    refine lv_goto (tgt := 89) hx hb dX7_rests_84 (by decide) ?_
                    exact hJ89 x6_46 _ _ _ hf hP hD hS (lv_sub hl [0, 1, 2, 3, 4, 6] rfl)
        exact hL46 _ (0 : Int32) (-9 : Int32) (0 : Int32) _ _ _ hf hP hD hS (lv_sub hl [3, 4, 5, 6, 2, 1, 0] rfl)
      · have hf := it_t hf hc_31
        refine lv_iconst (v := -1) hx hb dX7_rests_34 (by decide) ?_
        exact hret' _ _ _ _ _ _ dX7_rests_35 hf hP hD hS

def X7_rate_J22 (z_trace : Int64) : Option (Int32 × Int32 × Int64) := some ((-1000000 : Int32), (0 : Int32), z_trace)
def X7_rate_J143 (z_trace : Int64) (z_eats : Nat → Int32) (z_s : Nat → Int32) (x1 : Int32) (x2 : Int32) (x3_69 : Int32) (x4_81 : Int32) (t2_143 : Int64) : Option (Int32 × Int32 × Int64) := lets (z_trace + t2_143) (fun z_trace_144 => if x1 = 0 then (gd (okx x2 12) (some (z_eats x2.toNatClampNeg, (0 : Int32), z_trace_144))) else (if x1 = (1 : Int32) then (some (x3_69, (0 : Int32), z_trace_144)) else (if x1 = (2 : Int32) then (some (x4_81, (0 : Int32), z_trace_144)) else (if x1 = (3 : Int32) then (some ((2 : Int32) * x3_69, (0 : Int32), z_trace_144)) else (if x1 = (4 : Int32) then (some (x4_81 + x2, (0 : Int32), z_trace_144)) else (gd (okx x2 12) (some ((z_eats x2.toNatClampNeg) + (z_s (65 : Int32).toNatClampNeg), (0 : Int32), z_trace_144))))))))
def X7_rate_J69 (z_trace : Int64) (z_eats : Nat → Int32) (z_s : Nat → Int32) (x1 : Int32) (x2 : Int32) (x3_69 : Int32) : Option (Int32 × Int32 × Int64) := gd (okx x2 12) ((fX7_eatenBy z_s x2).bind (fun r_77 => lets ((z_eats x2.toNatClampNeg) - r_77) (fun x4_81 => if x1 = 0 then (X7_rate_J143 z_trace z_eats z_s x1 x2 x3_69 x4_81 (1 : Int64)) else (if x1 = (1 : Int32) then (X7_rate_J143 z_trace z_eats z_s x1 x2 x3_69 x4_81 (11 : Int64)) else (if x1 = (2 : Int32) then (X7_rate_J143 z_trace z_eats z_s x1 x2 x3_69 x4_81 (101 : Int64)) else (if x1 = (3 : Int32) then (X7_rate_J143 z_trace z_eats z_s x1 x2 x3_69 x4_81 (1011 : Int64)) else (if x1 = (4 : Int32) then (X7_rate_J143 z_trace z_eats z_s x1 x2 x3_69 x4_81 (10101 : Int64)) else (X7_rate_J143 z_trace z_eats z_s x1 x2 x3_69 x4_81 (100001 : Int64)))))))))
def X7_rate_J61 (x3_35 : Int32) (x4_35 : Int32) (self_35 : Int32 → Int32 → Option (Int32 × Int32 × Int64)) (t1_61 : Int32) : Option (Int32 × Int32 × Int64) := lets (x3_35 + t1_61) (fun x3_62 => lets (x4_35 + (1 : Int32)) (fun x4_63 => self_35 x3_62 x4_63))
def X7_rate_S35 (z_trace : Int64) (z_eats : Nat → Int32) (z_s : Nat → Int32) (x1 : Int32) (x2 : Int32) (self_35 : Int32 → Int32 → Option (Int32 × Int32 × Int64)) (x3_35 : Int32) (x4_35 : Int32) : Option (Int32 × Int32 × Int64) := if (4 : Int32) ≤ x4_35 then (X7_rate_J69 z_trace z_eats z_s x1 x2 x3_35) else (gd (okx (((4 : Int32) * x2) + x4_35) 67) (if (z_s (((4 : Int32) * x2) + x4_35).toNatClampNeg) ≤ 0 then (X7_rate_J61 x3_35 x4_35 self_35 (0 : Int32)) else (X7_rate_J61 x3_35 x4_35 self_35 (1 : Int32))))
def fX7_rate (z_trace : Int64) (z_houses : Int32) (z_eats : Nat → Int32) (z_s : Nat → Int32) (x1 : Int32) (x2 : Int32) : Option (Int32 × Int32 × Int64) := (fX7_in x1 (0 : Int32) (5 : Int32)).bind (fun r_8 => if r_8 = 0 then (X7_rate_J22 z_trace) else ((fX7_isHouse z_houses x2).bind (fun r_16 => if r_16 = 0 then (X7_rate_J22 z_trace) else (gd (okx x2 12) (lets (z_eats x2.toNatClampNeg) (fun x3_31 => it2 (X7_rate_S35 z_trace z_eats z_s x1 x2) 100000 x3_31 (0 : Int32)))))))
abbrev rmX7_rate : Room := { frames := 2, cells := 0, slots := 0, locals := 43 }
set_option maxHeartbeats 4000000 in
set_option maxRecDepth 100000 in
theorem ktX7_rate (l : Launch) (D : va_G) (cy : Nat → ClassId) (q0 : Nat) (q_text : Nat) (q_weight : Nat) (q_eats : Nat) (q_barred : Nat) (q_laws : Nat) (q_s : Nat) (q_kept : Nat) (q_isKept : Nat) (q_years : Nat) (q_likely : Nat) (q_then : Nat) (q_row : Nat) (q_best : Nat) (z_thrown : Int32) (z_trace : Int64) (z_typed : Int32) (z_next : Int32) (z_token : Int32) (z_place : Int32) (z_value : Int32) (z_fault : Int32) (z_houses : Int32) (z_draftHouses : Int32) (z_all : Int64) (z_eats : Nat → Int32) (z_s : Nat → Int32) (x1 : Int32) (x2 : Int32) (r : Int32 × Int32 × Int64) (hf : fX7_rate z_trace z_houses z_eats z_s x1 x2 = some r) : CtI l yX7_rate wsX7_rate rmX7_rate D cy [.ref q0, .int x1, .int x2] [(q0, oB 7 [.int z_thrown, .long z_trace, .ref q_text, .int z_typed, .int z_next, .int z_token, .int z_place, .int z_value, .int z_fault, .ref q_weight, .ref q_eats, .ref q_barred, .ref q_laws, .int z_houses, .int z_draftHouses, .ref q_s, .ref q_kept, .ref q_isKept, .ref q_years, .ref q_likely, .ref q_then, .long z_all, .ref q_row, .ref q_best]), (q_eats, aI cy 12 z_eats), (q_s, aI cy 67 z_s)] [(q0, oB 7 [.int r.2.1, .long r.2.2, .ref q_text, .int z_typed, .int z_next, .int z_token, .int z_place, .int z_value, .int z_fault, .ref q_weight, .ref q_eats, .ref q_barred, .ref q_laws, .int z_houses, .int z_draftHouses, .ref q_s, .ref q_kept, .ref q_isKept, .ref q_years, .ref q_likely, .ref q_then, .long z_all, .ref q_row, .ref q_best]), (q_eats, aI cy 12 z_eats), (q_s, aI cy 67 z_s)] r.1 := by
  refine Ct_ofI (cc := cX7_rate) (nL := 5) (by decide) rfl (Nat.le_of_ble_eq_true rfl) ?_
  intro p e s m args below meth c A Q hM hret hP hD hS ls hl
  obtain ⟨hx, hb, hml, hown, hts, hcx, hA, hsx⟩ := hM
  have hown : s.vm.findClass RX7 = some m.cls := hown
  have hK := hcx.1
  have hN := hcx.2
  have kw0 := hts (.fieldLink RX7 54 "EachBringsModel" "thrown" "I") (List.mem_of_getElem? (i := 1) rfl)
  have kc1 : ∀ w ∈ wsX70, w ∈ wsX7_rate := fun _ h => List.mem_cons_of_mem _ (List.mem_append_right _ h)
  have kw2 := hts (.constant RX7 209 (-1000000)) (List.mem_of_getElem? (i := 2) rfl)
  have kw3 := hts (.fieldLink RX7 16 "EachBringsModel" "eats" "[I") (List.mem_of_getElem? (i := 3) rfl)
  have kw4 := hts (.fieldLink RX7 210 "EachBringsModel" "trace" "J") (List.mem_of_getElem? (i := 5) rfl)
  have kw5 := hts (.fieldLink RX7 25 "EachBringsModel" "s" "[I") (List.mem_of_getElem? (i := 4) rfl)
  have kw6 := hts (.constantLong RX7 221 (100001)) (List.mem_of_getElem? (i := 10) rfl)
  have kw7 := hts (.constantLong RX7 219 (10101)) (List.mem_of_getElem? (i := 9) rfl)
  have kw8 := hts (.constantLong RX7 217 (1011)) (List.mem_of_getElem? (i := 8) rfl)
  have kw9 := hts (.constantLong RX7 215 (101)) (List.mem_of_getElem? (i := 7) rfl)
  have kw10 := hts (.constantLong RX7 213 (11)) (List.mem_of_getElem? (i := 6) rfl)
  have hl : lv_has ls 5 [(0, .ref q0), (1, .int x1), (2, .int x2)] := hl
  have hret' : ∀ (pc : Nat) (ls : Array Slot) (H : Heap) (locs : List Loc) (v : Int32) (w0 : Int32) (w1 : Int64), decode cX7_rate pc = .ok (.ireturn, 1) → some (v, w0, w1) = some r → va_P D vwCl [(q0, oB 7 [.int w0, .long w1, .ref q_text, .int z_typed, .int z_next, .int z_token, .int z_place, .int z_value, .int z_fault, .ref q_weight, .ref q_eats, .ref q_barred, .ref q_laws, .int z_houses, .int z_draftHouses, .ref q_s, .ref q_kept, .ref q_isKept, .ref q_years, .ref q_likely, .ref q_then, .long z_all, .ref q_row, .ref q_best]), (q_eats, aI cy 12 z_eats), (q_s, aI cy 67 z_s)] H → va_D A [(q0, oB 7 [.int w0, .long w1, .ref q_text, .int z_typed, .int z_next, .int z_token, .int z_place, .int z_value, .int z_fault, .ref q_weight, .ref q_eats, .ref q_barred, .ref q_laws, .int z_houses, .int z_draftHouses, .ref q_s, .ref q_kept, .ref q_isKept, .ref q_years, .ref q_likely, .ref q_then, .long z_all, .ref q_row, .ref q_best]), (q_eats, aI cy 12 z_eats), (q_s, aI cy 67 z_s)] → va_S A s.heap H locs → W p l e rmX7_rate s m args below meth c H locs 0 0 Q (F0 m pc ls [.int v]) := by
    intro pc ls H locs v w0 w1 hd he hP hD hS
    cases he
    exact hret _ _ _ _ _ hd rfl hP hD hS
  unfold fX7_rate at hf
  refine lv_aload_n hx hb dX7_rate_0 rfl (lv_at hl 0 rfl) ?_
  refine lv_iconst (v := 0) hx hb dX7_rate_1 (by decide) ?_
  refine va_put (D := D) (ci := 7) (v := .int (0 : Int32)) (ty := .int) (C := RX7) (T := TX7) (N := 24) hx hb hts kc1 tyX7 tyX7_ok nmX7 hown hK hP hD hS 0 rfl rfl 0 (by decide) kw0 (fun _ h9 => h9) rfl pfI rfl rfl (Nat.le_of_ble_eq_true rfl) dX7_rate_2 (fun H locs hP hD hS => ?_)
  have hP : va_P D vwCl [(q0, oB 7 [.int (0 : Int32), .long z_trace, .ref q_text, .int z_typed, .int z_next, .int z_token, .int z_place, .int z_value, .int z_fault, .ref q_weight, .ref q_eats, .ref q_barred, .ref q_laws, .int z_houses, .int z_draftHouses, .ref q_s, .ref q_kept, .ref q_isKept, .ref q_years, .ref q_likely, .ref q_then, .long z_all, .ref q_row, .ref q_best]), (q_eats, aI cy 12 z_eats), (q_s, aI cy 67 z_s)] H := hP
  have hD : va_D A [(q0, oB 7 [.int (0 : Int32), .long z_trace, .ref q_text, .int z_typed, .int z_next, .int z_token, .int z_place, .int z_value, .int z_fault, .ref q_weight, .ref q_eats, .ref q_barred, .ref q_laws, .int z_houses, .int z_draftHouses, .ref q_s, .ref q_kept, .ref q_isKept, .ref q_years, .ref q_likely, .ref q_then, .long z_all, .ref q_row, .ref q_best]), (q_eats, aI cy 12 z_eats), (q_s, aI cy 67 z_s)] := hD
  refine lv_iload_n hx hb dX7_rate_5 rfl (lv_at hl 1 rfl) ?_
  refine lv_iconst (v := 0) hx hb dX7_rate_6 (by decide) ?_
  refine lv_iconst (v := 5) hx hb dX7_rate_7 (by decide) ?_
  obtain ⟨r_8, hr_8, hf⟩ := bd_some hf
  refine cl_i (wc := []) (w1 := []) (wr := [(q0, oB 7 [.int (0 : Int32), .long z_trace, .ref q_text, .int z_typed, .int z_next, .int z_token, .int z_place, .int z_value, .int z_fault, .ref q_weight, .ref q_eats, .ref q_barred, .ref q_laws, .int z_houses, .int z_draftHouses, .ref q_s, .ref q_kept, .ref q_isKept, .ref q_years, .ref q_likely, .ref q_then, .long z_all, .ref q_row, .ref q_best]), (q_eats, aI cy 12 z_eats), (q_s, aI cy 67 z_s)]) (w2 := [(q0, oB 7 [.int (0 : Int32), .long z_trace, .ref q_text, .int z_typed, .int z_next, .int z_token, .int z_place, .int z_value, .int z_fault, .ref q_weight, .ref q_eats, .ref q_barred, .ref q_laws, .int z_houses, .int z_draftHouses, .ref q_s, .ref q_kept, .ref q_isKept, .ref q_years, .ref q_likely, .ref q_then, .long z_all, .ref q_row, .ref q_best]), (q_eats, aI cy 12 z_eats), (q_s, aI cy 67 z_s)]) (va_runS (As := [.int x1, .int (0 : Int32), .int (5 : Int32)]) (rest := []) ⟨hx, hb, hml, hown, hts⟩ (ktX7_in l D cy x1 (0 : Int32) (5 : Int32) r_8 hr_8 _) (va_cwS 3 hts gX7_rate_X7_in rfl rfl rfl (by decide +kernel) ⟨Nat.le_of_ble_eq_true rfl, Nat.le_of_ble_eq_true rfl⟩) (pre_S (wc := []) hcx hsx hS hA hP hD [] rfl (by decide)) rfl rfl hl.1 rfl (lv_room (Nat.le_of_ble_eq_true rfl)) dX7_rate_8 ⟨Nat.zero_le _, Nat.zero_le _⟩) hP hD hS hA [] [0, 1, 2] [0, 1, 2] rfl rfl (by decide) (by decide) (by decide) rfl (fun H locs hP hD hS => ?_)
  have hJ22 : ∀ (H : Heap) (locs : List Loc) (ls : Array Slot), X7_rate_J22 z_trace = some r → va_P D vwCl [(q0, oB 7 [.int (0 : Int32), .long z_trace, .ref q_text, .int z_typed, .int z_next, .int z_token, .int z_place, .int z_value, .int z_fault, .ref q_weight, .ref q_eats, .ref q_barred, .ref q_laws, .int z_houses, .int z_draftHouses, .ref q_s, .ref q_kept, .ref q_isKept, .ref q_years, .ref q_likely, .ref q_then, .long z_all, .ref q_row, .ref q_best]), (q_eats, aI cy 12 z_eats), (q_s, aI cy 67 z_s)] H → va_D A [(q0, oB 7 [.int (0 : Int32), .long z_trace, .ref q_text, .int z_typed, .int z_next, .int z_token, .int z_place, .int z_value, .int z_fault, .ref q_weight, .ref q_eats, .ref q_barred, .ref q_laws, .int z_houses, .int z_draftHouses, .ref q_s, .ref q_kept, .ref q_isKept, .ref q_years, .ref q_likely, .ref q_then, .long z_all, .ref q_row, .ref q_best]), (q_eats, aI cy 12 z_eats), (q_s, aI cy 67 z_s)] → va_S A s.heap H locs → lv_has ls 5 [] → W p l e rmX7_rate s m args below meth c H locs 0 0 Q (F0 m 22 ls []) := by
    intro H locs ls hf hP hD hS hl
    unfold X7_rate_J22 at hf
    refine lv_ldc (v := -1000000) hx hb hown kw2 dX7_rate_22 ?_
    exact hret' _ _ _ _ _ _ _ dX7_rate_24 hf hP hD hS
  refine lv_if_eq (tgt := 22) hx hb dX7_rate_11 (by decide) (fun hc_11 => ?_) (fun hc_11 => ?_)
  · have hf := it_t hf hc_11
    exact hJ22 _ _ _ hf hP hD hS (lv_sub hl [] rfl)
  · have hf := it_f hf hc_11
    refine lv_aload_n hx hb dX7_rate_14 rfl (lv_at hl 0 rfl) ?_
    refine lv_iload_n hx hb dX7_rate_15 rfl (lv_at hl 2 rfl) ?_
    obtain ⟨r_16, hr_16, hf⟩ := bd_some hf
    refine cl_i (wc := [(q0, oB 7 [.int (0 : Int32), .long z_trace, .ref q_text, .int z_typed, .int z_next, .int z_token, .int z_place, .int z_value, .int z_fault, .ref q_weight, .ref q_eats, .ref q_barred, .ref q_laws, .int z_houses, .int z_draftHouses, .ref q_s, .ref q_kept, .ref q_isKept, .ref q_years, .ref q_likely, .ref q_then, .long z_all, .ref q_row, .ref q_best])]) (w1 := [(q0, oB 7 [.int (0 : Int32), .long z_trace, .ref q_text, .int z_typed, .int z_next, .int z_token, .int z_place, .int z_value, .int z_fault, .ref q_weight, .ref q_eats, .ref q_barred, .ref q_laws, .int z_houses, .int z_draftHouses, .ref q_s, .ref q_kept, .ref q_isKept, .ref q_years, .ref q_likely, .ref q_then, .long z_all, .ref q_row, .ref q_best])]) (wr := [(q_eats, aI cy 12 z_eats), (q_s, aI cy 67 z_s)]) (w2 := [(q0, oB 7 [.int (0 : Int32), .long z_trace, .ref q_text, .int z_typed, .int z_next, .int z_token, .int z_place, .int z_value, .int z_fault, .ref q_weight, .ref q_eats, .ref q_barred, .ref q_laws, .int z_houses, .int z_draftHouses, .ref q_s, .ref q_kept, .ref q_isKept, .ref q_years, .ref q_likely, .ref q_then, .long z_all, .ref q_row, .ref q_best]), (q_eats, aI cy 12 z_eats), (q_s, aI cy 67 z_s)]) (va_runV (As := [.int x2]) (rest := []) ⟨hx, hb, hml, hown, hts⟩ (ktX7_isHouse l D cy q0 q_text q_weight q_eats q_barred q_laws q_s q_kept q_isKept q_years q_likely q_then q_row q_best (0 : Int32) z_trace z_typed z_next z_token z_place z_value z_fault z_houses z_draftHouses z_all x2 r_16 hr_16 _) (cwV 1 hts gX7_rate_X7_isHouse rfl rfl rfl (by decide +kernel) ⟨Nat.le_of_ble_eq_true rfl, Nat.le_of_ble_eq_true rfl⟩) (pre_V (wc := [(q0, oB 7 [.int (0 : Int32), .long z_trace, .ref q_text, .int z_typed, .int z_next, .int z_token, .int z_place, .int z_value, .int z_fault, .ref q_weight, .ref q_eats, .ref q_barred, .ref q_laws, .int z_houses, .int z_draftHouses, .ref q_s, .ref q_kept, .ref q_isKept, .ref q_years, .ref q_likely, .ref q_then, .long z_all, .ref q_row, .ref q_best])]) (ci := 7) hcx hsx hS hA hP hD [0] rfl (by decide) rfl rfl) rfl rfl hl.1 rfl (lv_room (Nat.le_of_ble_eq_true rfl)) dX7_rate_16 ⟨Nat.zero_le _, Nat.zero_le _⟩) hP hD hS hA [0] [1, 2] [2, 0, 1] rfl rfl (by decide) (by decide) (by decide) rfl (fun H locs hP hD hS => ?_)
    refine lv_if_ne (tgt := 25) hx hb dX7_rate_19 (by decide) (fun hc_19 => ?_) (fun hc_19 => ?_)
    · have hf := it_f hf hc_19
      refine lv_aload_n hx hb dX7_rate_25 rfl (lv_at hl 0 rfl) ?_
      refine va_get (D := D) (ci := 7) (v := .ref q_eats) (C := RX7) (T := TX7) (N := 24) hx hb hts kc1 hown hK hP 0 rfl rfl 10 (by decide) kw3 (fun _ h9 => h9) rfl dX7_rate_26 ?_
      refine lv_iload_n hx hb dX7_rate_29 rfl (lv_at hl 2 rfl) ?_
      obtain ⟨hg_30, hf⟩ := gd_some hf
      refine va_iald hx hb hK hP 1 0 rfl rfl hg_30 dX7_rate_30 ?_
      refine lv_topi (fun x3_31 ex3_31 => ?_)
      have hf := lets_at hf ex3_31
      refine lv_istore_n (lv' := [(3, .int x3_31), (0, .ref q0), (1, .int x1), (2, .int x2)]) hx hb dX7_rate_31 rfl hl (by decide) rfl (fun ls hl => ?_)
      refine lv_iconst (v := 0) hx hb dX7_rate_32 (by decide) ?_
      refine lv_istore (lv' := [(4, .int (0 : Int32)), (3, .int x3_31), (0, .ref q0), (1, .int x1), (2, .int x2)]) hx hb dX7_rate_33 hl (by decide) rfl (fun ls hl => ?_)
      have hJ69 : ∀ (x3_69 : Int32) (H : Heap) (locs : List Loc) (ls : Array Slot), X7_rate_J69 z_trace z_eats z_s x1 x2 x3_69 = some r → va_P D vwCl [(q0, oB 7 [.int (0 : Int32), .long z_trace, .ref q_text, .int z_typed, .int z_next, .int z_token, .int z_place, .int z_value, .int z_fault, .ref q_weight, .ref q_eats, .ref q_barred, .ref q_laws, .int z_houses, .int z_draftHouses, .ref q_s, .ref q_kept, .ref q_isKept, .ref q_years, .ref q_likely, .ref q_then, .long z_all, .ref q_row, .ref q_best]), (q_eats, aI cy 12 z_eats), (q_s, aI cy 67 z_s)] H → va_D A [(q0, oB 7 [.int (0 : Int32), .long z_trace, .ref q_text, .int z_typed, .int z_next, .int z_token, .int z_place, .int z_value, .int z_fault, .ref q_weight, .ref q_eats, .ref q_barred, .ref q_laws, .int z_houses, .int z_draftHouses, .ref q_s, .ref q_kept, .ref q_isKept, .ref q_years, .ref q_likely, .ref q_then, .long z_all, .ref q_row, .ref q_best]), (q_eats, aI cy 12 z_eats), (q_s, aI cy 67 z_s)] → va_S A s.heap H locs → lv_has ls 5 [(0, .ref q0), (1, .int x1), (2, .int x2), (3, .int x3_69)] → W p l e rmX7_rate s m args below meth c H locs 0 0 Q (F0 m 69 ls []) := by
        intro x3_69 H locs ls hf hP hD hS hl
        unfold X7_rate_J69 at hf
        refine lv_aload_n hx hb dX7_rate_69 rfl (lv_at hl 0 rfl) ?_
        refine va_get (D := D) (ci := 7) (v := .ref q_eats) (C := RX7) (T := TX7) (N := 24) hx hb hts kc1 hown hK hP 0 rfl rfl 10 (by decide) kw3 (fun _ h9 => h9) rfl dX7_rate_70 ?_
        refine lv_iload_n hx hb dX7_rate_73 rfl (lv_at hl 2 rfl) ?_
        obtain ⟨hg_74, hf⟩ := gd_some hf
        refine va_iald hx hb hK hP 1 0 rfl rfl hg_74 dX7_rate_74 ?_
        refine lv_aload_n hx hb dX7_rate_75 rfl (lv_at hl 0 rfl) ?_
        refine lv_iload_n hx hb dX7_rate_76 rfl (lv_at hl 2 rfl) ?_
        obtain ⟨r_77, hr_77, hf⟩ := bd_some hf
        refine cl_i (wc := [(q0, oB 7 [.int (0 : Int32), .long z_trace, .ref q_text, .int z_typed, .int z_next, .int z_token, .int z_place, .int z_value, .int z_fault, .ref q_weight, .ref q_eats, .ref q_barred, .ref q_laws, .int z_houses, .int z_draftHouses, .ref q_s, .ref q_kept, .ref q_isKept, .ref q_years, .ref q_likely, .ref q_then, .long z_all, .ref q_row, .ref q_best]), (q_s, aI cy 67 z_s)]) (w1 := [(q0, oB 7 [.int (0 : Int32), .long z_trace, .ref q_text, .int z_typed, .int z_next, .int z_token, .int z_place, .int z_value, .int z_fault, .ref q_weight, .ref q_eats, .ref q_barred, .ref q_laws, .int z_houses, .int z_draftHouses, .ref q_s, .ref q_kept, .ref q_isKept, .ref q_years, .ref q_likely, .ref q_then, .long z_all, .ref q_row, .ref q_best]), (q_s, aI cy 67 z_s)]) (wr := [(q_eats, aI cy 12 z_eats)]) (w2 := [(q0, oB 7 [.int (0 : Int32), .long z_trace, .ref q_text, .int z_typed, .int z_next, .int z_token, .int z_place, .int z_value, .int z_fault, .ref q_weight, .ref q_eats, .ref q_barred, .ref q_laws, .int z_houses, .int z_draftHouses, .ref q_s, .ref q_kept, .ref q_isKept, .ref q_years, .ref q_likely, .ref q_then, .long z_all, .ref q_row, .ref q_best]), (q_eats, aI cy 12 z_eats), (q_s, aI cy 67 z_s)]) (va_runV (As := [.int x2]) (rest := [.int (z_eats x2.toNatClampNeg)]) ⟨hx, hb, hml, hown, hts⟩ (ktX7_eatenBy l D cy q0 q_text q_weight q_eats q_barred q_laws q_s q_kept q_isKept q_years q_likely q_then q_row q_best (0 : Int32) z_trace z_typed z_next z_token z_place z_value z_fault z_houses z_draftHouses z_all z_s x2 r_77 hr_77 _) (cwV 1 hts gX7_rate_X7_eatenBy rfl rfl rfl (by decide +kernel) ⟨Nat.le_of_ble_eq_true rfl, Nat.le_of_ble_eq_true rfl⟩) (pre_V (wc := [(q0, oB 7 [.int (0 : Int32), .long z_trace, .ref q_text, .int z_typed, .int z_next, .int z_token, .int z_place, .int z_value, .int z_fault, .ref q_weight, .ref q_eats, .ref q_barred, .ref q_laws, .int z_houses, .int z_draftHouses, .ref q_s, .ref q_kept, .ref q_isKept, .ref q_years, .ref q_likely, .ref q_then, .long z_all, .ref q_row, .ref q_best]), (q_s, aI cy 67 z_s)]) (ci := 7) hcx hsx hS hA hP hD [0, 2] rfl (by decide) rfl rfl) rfl rfl hl.1 rfl (lv_room (Nat.le_of_ble_eq_true rfl)) dX7_rate_77 ⟨Nat.zero_le _, Nat.zero_le _⟩) hP hD hS hA [0, 2] [1] [1, 0, 2] rfl rfl (by decide) (by decide) (by decide) rfl (fun H locs hP hD hS => ?_)
        refine lv_isub hx hb dX7_rate_80 ?_
        refine lv_topi (fun x4_81 ex4_81 => ?_)
        have hf := lets_at hf ex4_81
        refine lv_istore (lv' := [(4, .int x4_81), (0, .ref q0), (1, .int x1), (2, .int x2), (3, .int x3_69)]) hx hb dX7_rate_81 hl (by decide) rfl (fun ls hl => ?_)
        refine lv_aload_n hx hb dX7_rate_83 rfl (lv_at hl 1 rfl) ?_
        refine lv_dup hx hb dX7_rate_84 rfl ?_
        refine va_get (D := D) (ci := 7) (v := .long z_trace) (C := RX7) (T := TX7) (N := 24) hx hb hts kc1 hown hK hP 0 rfl rfl 1 (by decide) kw4 (fun _ h9 => h9) rfl dX7_rate_85 ?_
        refine lv_iload_n hx hb dX7_rate_88 rfl (lv_at hl 2 rfl) ?_
        have hJ143 : ∀ (t2_143 : Int64) (H : Heap) (locs : List Loc) (ls : Array Slot), X7_rate_J143 z_trace z_eats z_s x1 x2 x3_69 x4_81 t2_143 = some r → va_P D vwCl [(q0, oB 7 [.int (0 : Int32), .long z_trace, .ref q_text, .int z_typed, .int z_next, .int z_token, .int z_place, .int z_value, .int z_fault, .ref q_weight, .ref q_eats, .ref q_barred, .ref q_laws, .int z_houses, .int z_draftHouses, .ref q_s, .ref q_kept, .ref q_isKept, .ref q_years, .ref q_likely, .ref q_then, .long z_all, .ref q_row, .ref q_best]), (q_eats, aI cy 12 z_eats), (q_s, aI cy 67 z_s)] H → va_D A [(q0, oB 7 [.int (0 : Int32), .long z_trace, .ref q_text, .int z_typed, .int z_next, .int z_token, .int z_place, .int z_value, .int z_fault, .ref q_weight, .ref q_eats, .ref q_barred, .ref q_laws, .int z_houses, .int z_draftHouses, .ref q_s, .ref q_kept, .ref q_isKept, .ref q_years, .ref q_likely, .ref q_then, .long z_all, .ref q_row, .ref q_best]), (q_eats, aI cy 12 z_eats), (q_s, aI cy 67 z_s)] → va_S A s.heap H locs → lv_has ls 5 [(0, .ref q0), (1, .int x1), (2, .int x2), (3, .int x3_69), (4, .int x4_81)] → W p l e rmX7_rate s m args below meth c H locs 0 0 Q (F0 m 143 ls [.long t2_143, .long z_trace, .ref q0]) := by
          intro t2_143 H locs ls hf hP hD hS hl
          unfold X7_rate_J143 at hf
          refine lv_ladd hx hb dX7_rate_143 ?_
          refine lv_topl (fun z_trace_144 ez_trace_144 => ?_)
          have hf := lets_at hf ez_trace_144
          refine va_put (D := D) (ci := 7) (v := .long z_trace_144) (ty := .long) (C := RX7) (T := TX7) (N := 24) hx hb hts kc1 tyX7 tyX7_ok nmX7 hown hK hP hD hS 0 rfl rfl 1 (by decide) kw4 (fun _ h9 => h9) rfl pfJ rfl rfl (Nat.le_of_ble_eq_true rfl) dX7_rate_144 (fun H locs hP hD hS => ?_)
          have hP : va_P D vwCl [(q0, oB 7 [.int (0 : Int32), .long z_trace_144, .ref q_text, .int z_typed, .int z_next, .int z_token, .int z_place, .int z_value, .int z_fault, .ref q_weight, .ref q_eats, .ref q_barred, .ref q_laws, .int z_houses, .int z_draftHouses, .ref q_s, .ref q_kept, .ref q_isKept, .ref q_years, .ref q_likely, .ref q_then, .long z_all, .ref q_row, .ref q_best]), (q_eats, aI cy 12 z_eats), (q_s, aI cy 67 z_s)] H := hP
          have hD : va_D A [(q0, oB 7 [.int (0 : Int32), .long z_trace_144, .ref q_text, .int z_typed, .int z_next, .int z_token, .int z_place, .int z_value, .int z_fault, .ref q_weight, .ref q_eats, .ref q_barred, .ref q_laws, .int z_houses, .int z_draftHouses, .ref q_s, .ref q_kept, .ref q_isKept, .ref q_years, .ref q_likely, .ref q_then, .long z_all, .ref q_row, .ref q_best]), (q_eats, aI cy 12 z_eats), (q_s, aI cy 67 z_s)] := hD
          refine lv_iload_n hx hb dX7_rate_147 rfl (lv_at hl 1 rfl) ?_
          refine lv_if_ne (tgt := 160) hx hb dX7_rate_148 (by decide) (fun hc_148 => ?_) (fun hc_148 => ?_)
          · have hf := it_f hf hc_148
            refine lv_iload_n hx hb dX7_rate_160 rfl (lv_at hl 1 rfl) ?_
            refine lv_iconst (v := 1) hx hb dX7_rate_161 (by decide) ?_
            refine lv_icmp_ne (tgt := 169) hx hb dX7_rate_162 (by decide) (fun hc_162 => ?_) (fun hc_162 => ?_)
            · have hf := it_f hf hc_162
              refine lv_iload_n hx hb dX7_rate_169 rfl (lv_at hl 1 rfl) ?_
              refine lv_iconst (v := 2) hx hb dX7_rate_170 (by decide) ?_
              refine lv_icmp_ne (tgt := 179) hx hb dX7_rate_171 (by decide) (fun hc_171 => ?_) (fun hc_171 => ?_)
              · have hf := it_f hf hc_171
                refine lv_iload_n hx hb dX7_rate_179 rfl (lv_at hl 1 rfl) ?_
                refine lv_iconst (v := 3) hx hb dX7_rate_180 (by decide) ?_
                refine lv_icmp_ne (tgt := 190) hx hb dX7_rate_181 (by decide) (fun hc_181 => ?_) (fun hc_181 => ?_)
                · have hf := it_f hf hc_181
                  refine lv_iload_n hx hb dX7_rate_190 rfl (lv_at hl 1 rfl) ?_
                  refine lv_iconst (v := 4) hx hb dX7_rate_191 (by decide) ?_
                  refine lv_icmp_ne (tgt := 202) hx hb dX7_rate_192 (by decide) (fun hc_192 => ?_) (fun hc_192 => ?_)
                  · have hf := it_f hf hc_192
                    refine lv_aload_n hx hb dX7_rate_202 rfl (lv_at hl 0 rfl) ?_
                    refine va_get (D := D) (ci := 7) (v := .ref q_eats) (C := RX7) (T := TX7) (N := 24) hx hb hts kc1 hown hK hP 0 rfl rfl 10 (by decide) kw3 (fun _ h9 => h9) rfl dX7_rate_203 ?_
                    refine lv_iload_n hx hb dX7_rate_206 rfl (lv_at hl 2 rfl) ?_
                    obtain ⟨hg_207, hf⟩ := gd_some hf
                    refine va_iald hx hb hK hP 1 0 rfl rfl hg_207 dX7_rate_207 ?_
                    refine lv_aload_n hx hb dX7_rate_208 rfl (lv_at hl 0 rfl) ?_
                    refine va_get (D := D) (ci := 7) (v := .ref q_s) (C := RX7) (T := TX7) (N := 24) hx hb hts kc1 hown hK hP 0 rfl rfl 15 (by decide) kw5 (fun _ h9 => h9) rfl dX7_rate_209 ?_
                    refine lv_bipush (v := 65) hx hb dX7_rate_212 (by decide) ?_
                    refine va_iald hx hb hK hP 2 0 rfl rfl (by decide : okx (65 : Int32) 67) dX7_rate_214 ?_
                    refine lv_iadd hx hb dX7_rate_215 ?_
                    exact hret' _ _ _ _ _ _ _ dX7_rate_216 hf hP hD hS
                  · have hf := it_t hf hc_192
                    refine lv_iload hx hb dX7_rate_195 (lv_at hl 4 rfl) ?_
                    refine lv_iload_n hx hb dX7_rate_197 rfl (lv_at hl 2 rfl) ?_
                    refine lv_iadd hx hb dX7_rate_198 ?_
                    refine lv_goto (tgt := 216) hx hb dX7_rate_199 (by decide) ?_
                    exact hret' _ _ _ _ _ _ _ dX7_rate_216 hf hP hD hS
                · have hf := it_t hf hc_181
                  refine lv_iconst (v := 2) hx hb dX7_rate_184 (by decide) ?_
                  refine lv_iload_n hx hb dX7_rate_185 rfl (lv_at hl 3 rfl) ?_
                  refine lv_imul hx hb dX7_rate_186 ?_
                  refine lv_goto (tgt := 216) hx hb dX7_rate_187 (by decide) ?_
                  exact hret' _ _ _ _ _ _ _ dX7_rate_216 hf hP hD hS
              · have hf := it_t hf hc_171
                refine lv_iload hx hb dX7_rate_174 (lv_at hl 4 rfl) ?_
                refine lv_goto (tgt := 216) hx hb dX7_rate_176 (by decide) ?_
                exact hret' _ _ _ _ _ _ _ dX7_rate_216 hf hP hD hS
            · have hf := it_t hf hc_162
              refine lv_iload_n hx hb dX7_rate_165 rfl (lv_at hl 3 rfl) ?_
              refine lv_goto (tgt := 216) hx hb dX7_rate_166 (by decide) ?_
              exact hret' _ _ _ _ _ _ _ dX7_rate_216 hf hP hD hS
          · have hf := it_t hf hc_148
            refine lv_aload_n hx hb dX7_rate_151 rfl (lv_at hl 0 rfl) ?_
            refine va_get (D := D) (ci := 7) (v := .ref q_eats) (C := RX7) (T := TX7) (N := 24) hx hb hts kc1 hown hK hP 0 rfl rfl 10 (by decide) kw3 (fun _ h9 => h9) rfl dX7_rate_152 ?_
            refine lv_iload_n hx hb dX7_rate_155 rfl (lv_at hl 2 rfl) ?_
            obtain ⟨hg_156, hf⟩ := gd_some hf
            refine va_iald hx hb hK hP 1 0 rfl rfl hg_156 dX7_rate_156 ?_
            refine lv_goto (tgt := 216) hx hb dX7_rate_157 (by decide) ?_
            exact hret' _ _ _ _ _ _ _ dX7_rate_216 hf hP hD hS
        refine lv_if_ne (tgt := 96) hx hb dX7_rate_89 (by decide) (fun hc_89 => ?_) (fun hc_89 => ?_)
        · have hf := it_f hf hc_89
          refine lv_iload_n hx hb dX7_rate_96 rfl (lv_at hl 2 rfl) ?_
          refine lv_iconst (v := 1) hx hb dX7_rate_97 (by decide) ?_
          refine lv_icmp_ne (tgt := 107) hx hb dX7_rate_98 (by decide) (fun hc_98 => ?_) (fun hc_98 => ?_)
          · have hf := it_f hf hc_98
            refine lv_iload_n hx hb dX7_rate_107 rfl (lv_at hl 2 rfl) ?_
            refine lv_iconst (v := 2) hx hb dX7_rate_108 (by decide) ?_
            refine lv_icmp_ne (tgt := 118) hx hb dX7_rate_109 (by decide) (fun hc_109 => ?_) (fun hc_109 => ?_)
            · have hf := it_f hf hc_109
              refine lv_iload_n hx hb dX7_rate_118 rfl (lv_at hl 2 rfl) ?_
              refine lv_iconst (v := 3) hx hb dX7_rate_119 (by decide) ?_
              refine lv_icmp_ne (tgt := 129) hx hb dX7_rate_120 (by decide) (fun hc_120 => ?_) (fun hc_120 => ?_)
              · have hf := it_f hf hc_120
                refine lv_iload_n hx hb dX7_rate_129 rfl (lv_at hl 2 rfl) ?_
                refine lv_iconst (v := 4) hx hb dX7_rate_130 (by decide) ?_
                refine lv_icmp_ne (tgt := 140) hx hb dX7_rate_131 (by decide) (fun hc_131 => ?_) (fun hc_131 => ?_)
                · have hf := it_f hf hc_131
                  refine lv_ldc2 (v := 100001) hx hb hown kw6 dX7_rate_140 ?_
                  exact hJ143 (100001 : Int64) _ _ _ hf hP hD hS (lv_sub hl [1, 2, 3, 4, 0] rfl)
                · have hf := it_t hf hc_131
                  refine lv_ldc2 (v := 10101) hx hb hown kw7 dX7_rate_134 ?_
                  refine lv_goto (tgt := 143) hx hb dX7_rate_137 (by decide) ?_
                  exact hJ143 (10101 : Int64) _ _ _ hf hP hD hS (lv_sub hl [1, 2, 3, 4, 0] rfl)
              · have hf := it_t hf hc_120
                refine lv_ldc2 (v := 1011) hx hb hown kw8 dX7_rate_123 ?_
                refine lv_goto (tgt := 143) hx hb dX7_rate_126 (by decide) ?_
                exact hJ143 (1011 : Int64) _ _ _ hf hP hD hS (lv_sub hl [1, 2, 3, 4, 0] rfl)
            · have hf := it_t hf hc_109
              refine lv_ldc2 (v := 101) hx hb hown kw9 dX7_rate_112 ?_
              refine lv_goto (tgt := 143) hx hb dX7_rate_115 (by decide) ?_
              exact hJ143 (101 : Int64) _ _ _ hf hP hD hS (lv_sub hl [1, 2, 3, 4, 0] rfl)
          · have hf := it_t hf hc_98
            refine lv_ldc2 (v := 11) hx hb hown kw10 dX7_rate_101 ?_
            refine lv_goto (tgt := 143) hx hb dX7_rate_104 (by decide) ?_
            exact hJ143 (11 : Int64) _ _ _ hf hP hD hS (lv_sub hl [1, 2, 3, 4, 0] rfl)
        · have hf := it_t hf hc_89
          refine lv_lconst (v := 1) hx hb dX7_rate_92 (by decide) ?_
          refine lv_goto (tgt := 143) hx hb dX7_rate_93 (by decide) ?_
          exact hJ143 (1 : Int64) _ _ _ hf hP hD hS (lv_sub hl [1, 2, 3, 4, 0] rfl)
      have hL35 : ∀ (n : Nat) (x3_35 : Int32) (x4_35 : Int32) (H : Heap) (locs : List Loc) (ls : Array Slot), it2 (X7_rate_S35 z_trace z_eats z_s x1 x2) n x3_35 x4_35 = some r → va_P D vwCl [(q0, oB 7 [.int (0 : Int32), .long z_trace, .ref q_text, .int z_typed, .int z_next, .int z_token, .int z_place, .int z_value, .int z_fault, .ref q_weight, .ref q_eats, .ref q_barred, .ref q_laws, .int z_houses, .int z_draftHouses, .ref q_s, .ref q_kept, .ref q_isKept, .ref q_years, .ref q_likely, .ref q_then, .long z_all, .ref q_row, .ref q_best]), (q_eats, aI cy 12 z_eats), (q_s, aI cy 67 z_s)] H → va_D A [(q0, oB 7 [.int (0 : Int32), .long z_trace, .ref q_text, .int z_typed, .int z_next, .int z_token, .int z_place, .int z_value, .int z_fault, .ref q_weight, .ref q_eats, .ref q_barred, .ref q_laws, .int z_houses, .int z_draftHouses, .ref q_s, .ref q_kept, .ref q_isKept, .ref q_years, .ref q_likely, .ref q_then, .long z_all, .ref q_row, .ref q_best]), (q_eats, aI cy 12 z_eats), (q_s, aI cy 67 z_s)] → va_S A s.heap H locs → lv_has ls 5 [(0, .ref q0), (1, .int x1), (2, .int x2), (3, .int x3_35), (4, .int x4_35)] → W p l e rmX7_rate s m args below meth c H locs 0 0 Q (F0 m 35 ls []) := by
        intro n
        induction n with
        | zero => intro x3_35 x4_35 H locs ls hf; exact absurd hf (by simp [it2])
        | succ n ih35 =>
          intro x3_35 x4_35 H locs ls hf hP hD hS hl
          have hf : X7_rate_S35 z_trace z_eats z_s x1 x2 (it2 (X7_rate_S35 z_trace z_eats z_s x1 x2) n) x3_35 x4_35 = some r := hf
          generalize it2 (X7_rate_S35 z_trace z_eats z_s x1 x2) n = self_35 at hf ih35
          unfold X7_rate_S35 at hf
          refine lv_iload hx hb dX7_rate_35 (lv_at hl 4 rfl) ?_
          refine lv_iconst (v := 4) hx hb dX7_rate_37 (by decide) ?_
          refine lv_icmp_ge (tgt := 69) hx hb dX7_rate_38 (by decide) (fun hc_38 => ?_) (fun hc_38 => ?_)
          · have hf := it_t hf hc_38
            exact hJ69 x3_35 _ _ _ hf hP hD hS (lv_sub hl [0, 1, 2, 3] rfl)
          · have hf := it_f hf hc_38
            refine lv_iload_n hx hb dX7_rate_41 rfl (lv_at hl 3 rfl) ?_
            refine lv_aload_n hx hb dX7_rate_42 rfl (lv_at hl 0 rfl) ?_
            refine va_get (D := D) (ci := 7) (v := .ref q_s) (C := RX7) (T := TX7) (N := 24) hx hb hts kc1 hown hK hP 0 rfl rfl 15 (by decide) kw5 (fun _ h9 => h9) rfl dX7_rate_43 ?_
            refine lv_iconst (v := 4) hx hb dX7_rate_46 (by decide) ?_
            refine lv_iload_n hx hb dX7_rate_47 rfl (lv_at hl 2 rfl) ?_
            refine lv_imul hx hb dX7_rate_48 ?_
            refine lv_iload hx hb dX7_rate_49 (lv_at hl 4 rfl) ?_
            refine lv_iadd hx hb dX7_rate_51 ?_
            obtain ⟨hg_52, hf⟩ := gd_some hf
            refine va_iald hx hb hK hP 2 0 rfl rfl hg_52 dX7_rate_52 ?_
            have hJ61 : ∀ (t1_61 : Int32) (H : Heap) (locs : List Loc) (ls : Array Slot), X7_rate_J61 x3_35 x4_35 self_35 t1_61 = some r → va_P D vwCl [(q0, oB 7 [.int (0 : Int32), .long z_trace, .ref q_text, .int z_typed, .int z_next, .int z_token, .int z_place, .int z_value, .int z_fault, .ref q_weight, .ref q_eats, .ref q_barred, .ref q_laws, .int z_houses, .int z_draftHouses, .ref q_s, .ref q_kept, .ref q_isKept, .ref q_years, .ref q_likely, .ref q_then, .long z_all, .ref q_row, .ref q_best]), (q_eats, aI cy 12 z_eats), (q_s, aI cy 67 z_s)] H → va_D A [(q0, oB 7 [.int (0 : Int32), .long z_trace, .ref q_text, .int z_typed, .int z_next, .int z_token, .int z_place, .int z_value, .int z_fault, .ref q_weight, .ref q_eats, .ref q_barred, .ref q_laws, .int z_houses, .int z_draftHouses, .ref q_s, .ref q_kept, .ref q_isKept, .ref q_years, .ref q_likely, .ref q_then, .long z_all, .ref q_row, .ref q_best]), (q_eats, aI cy 12 z_eats), (q_s, aI cy 67 z_s)] → va_S A s.heap H locs → lv_has ls 5 [(0, .ref q0), (1, .int x1), (2, .int x2), (4, .int x4_35)] → W p l e rmX7_rate s m args below meth c H locs 0 0 Q (F0 m 61 ls [.int t1_61, .int x3_35]) := by
              intro t1_61 H locs ls hf hP hD hS hl
              unfold X7_rate_J61 at hf
              refine lv_iadd hx hb dX7_rate_61 ?_
              refine lv_topi (fun x3_62 ex3_62 => ?_)
              have hf := lets_at hf ex3_62
              refine lv_istore_n (lv' := [(3, .int x3_62), (0, .ref q0), (1, .int x1), (2, .int x2), (4, .int x4_35)]) hx hb dX7_rate_62 rfl hl (by decide) rfl (fun ls hl => ?_)
              obtain ⟨x4_63, ex4_63⟩ : ∃ y : Int32, y = x4_35 + (1 : Int32) := ⟨_, rfl⟩
              have hf := lets_at hf ex4_63
              refine lv_iinc (v := x4_63) (lv' := [(4, .int x4_63), (3, .int x3_62), (0, .ref q0), (1, .int x1), (2, .int x2)]) hx hb dX7_rate_63 hl (k := 4) rfl (by rw [ex4_63]; rfl) (by decide) rfl (fun ls hl => ?_)
              refine lv_goto (tgt := 35) hx hb dX7_rate_66 (by decide) ?_
              exact ih35 x3_62 x4_63 _ _ _ hf hP hD hS (lv_sub hl [2, 3, 4, 1, 0] rfl)
            refine lv_if_le (tgt := 60) hx hb dX7_rate_53 (by decide) (fun hc_53 => ?_) (fun hc_53 => ?_)
            · have hf := it_t hf hc_53
              refine lv_iconst (v := 0) hx hb dX7_rate_60 (by decide) ?_
              exact hJ61 (0 : Int32) _ _ _ hf hP hD hS (lv_sub hl [0, 1, 2, 4] rfl)
            · have hf := it_f hf hc_53
              refine lv_iconst (v := 1) hx hb dX7_rate_56 (by decide) ?_
              refine lv_goto (tgt := 61) hx hb dX7_rate_57 (by decide) ?_
              exact hJ61 (1 : Int32) _ _ _ hf hP hD hS (lv_sub hl [0, 1, 2, 4] rfl)
      exact hL35 _ x3_31 (0 : Int32) _ _ _ hf hP hD hS (lv_sub hl [2, 3, 4, 1, 0] rfl)
    · have hf := it_t hf hc_19
      exact hJ22 _ _ _ hf hP hD hS (lv_sub hl [] rfl)

def X7_keep_J47 (z_s : Nat → Int32) (z_isKept : Nat → Int32) (x1 : Int32) (z_kept_47 : Nat → Int32) : Option (Int32 × Int32 × (Nat → Int32) × (Nat → Int32)) := gd (okx x1 2) (lets (upd z_isKept x1.toNatClampNeg (vp_nar .boolean (1 : Int32))) (fun z_isKept_53 => some (z_s (65 : Int32).toNatClampNeg, (0 : Int32), z_kept_47, z_isKept_53)))
def X7_keep_S18 (z_s : Nat → Int32) (z_isKept : Nat → Int32) (x1 : Int32) (self_18 : Int32 → (Nat → Int32) → Option (Int32 × Int32 × (Nat → Int32) × (Nat → Int32))) (x2_18 : Int32) (z_kept_18 : Nat → Int32) : Option (Int32 × Int32 × (Nat → Int32) × (Nat → Int32)) := if (67 : Int32) ≤ x2_18 then (X7_keep_J47 z_s z_isKept x1 z_kept_18) else (gd (okx x2_18 67) (gd (okx (((67 : Int32) * x1) + x2_18) 134) (lets (upd z_kept_18 (((67 : Int32) * x1) + x2_18).toNatClampNeg (z_s x2_18.toNatClampNeg)) (fun z_kept_40 => lets (x2_18 + (1 : Int32)) (fun x2_41 => self_18 x2_41 z_kept_40)))))
def fX7_keep (z_s : Nat → Int32) (z_kept : Nat → Int32) (z_isKept : Nat → Int32) (x1 : Int32) : Option (Int32 × Int32 × (Nat → Int32) × (Nat → Int32)) := (fX7_in x1 (0 : Int32) (1 : Int32)).bind (fun r_8 => if r_8 = 0 then (some ((-1 : Int32), (0 : Int32), z_kept, z_isKept)) else (it2 (X7_keep_S18 z_s z_isKept x1) 100000 (0 : Int32) z_kept))
abbrev rmX7_keep : Room := { frames := 1, cells := 0, slots := 0, locals := 22 }
set_option maxHeartbeats 4000000 in
set_option maxRecDepth 100000 in
theorem ktX7_keep (l : Launch) (D : va_G) (cy : Nat → ClassId) (q0 : Nat) (q_text : Nat) (q_weight : Nat) (q_eats : Nat) (q_barred : Nat) (q_laws : Nat) (q_s : Nat) (q_kept : Nat) (q_isKept : Nat) (q_years : Nat) (q_likely : Nat) (q_then : Nat) (q_row : Nat) (q_best : Nat) (z_thrown : Int32) (z_trace : Int64) (z_typed : Int32) (z_next : Int32) (z_token : Int32) (z_place : Int32) (z_value : Int32) (z_fault : Int32) (z_houses : Int32) (z_draftHouses : Int32) (z_all : Int64) (z_s : Nat → Int32) (z_kept : Nat → Int32) (z_isKept : Nat → Int32) (x1 : Int32) (r : Int32 × Int32 × (Nat → Int32) × (Nat → Int32)) (hf : fX7_keep z_s z_kept z_isKept x1 = some r) : CtI l yX7_keep wsX7_keep rmX7_keep D cy [.ref q0, .int x1] [(q0, oB 7 [.int z_thrown, .long z_trace, .ref q_text, .int z_typed, .int z_next, .int z_token, .int z_place, .int z_value, .int z_fault, .ref q_weight, .ref q_eats, .ref q_barred, .ref q_laws, .int z_houses, .int z_draftHouses, .ref q_s, .ref q_kept, .ref q_isKept, .ref q_years, .ref q_likely, .ref q_then, .long z_all, .ref q_row, .ref q_best]), (q_s, aI cy 67 z_s), (q_kept, aI cy 134 z_kept), (q_isKept, aZ cy 2 z_isKept)] [(q0, oB 7 [.int r.2.1, .long z_trace, .ref q_text, .int z_typed, .int z_next, .int z_token, .int z_place, .int z_value, .int z_fault, .ref q_weight, .ref q_eats, .ref q_barred, .ref q_laws, .int z_houses, .int z_draftHouses, .ref q_s, .ref q_kept, .ref q_isKept, .ref q_years, .ref q_likely, .ref q_then, .long z_all, .ref q_row, .ref q_best]), (q_s, aI cy 67 z_s), (q_kept, aI cy 134 r.2.2.1), (q_isKept, aZ cy 2 r.2.2.2)] r.1 := by
  refine Ct_ofI (cc := cX7_keep) (nL := 3) (by decide) rfl (Nat.le_of_ble_eq_true rfl) ?_
  intro p e s m args below meth c A Q hM hret hP hD hS ls hl
  obtain ⟨hx, hb, hml, hown, hts, hcx, hA, hsx⟩ := hM
  have hown : s.vm.findClass RX7 = some m.cls := hown
  have hK := hcx.1
  have hN := hcx.2
  have kw0 := hts (.fieldLink RX7 54 "EachBringsModel" "thrown" "I") (List.mem_of_getElem? (i := 1) rfl)
  have kc1 : ∀ w ∈ wsX70, w ∈ wsX7_keep := fun _ h => List.mem_cons_of_mem _ (List.mem_append_right _ h)
  have kw2 := hts (.fieldLink RX7 31 "EachBringsModel" "isKept" "[Z") (List.mem_of_getElem? (i := 4) rfl)
  have kw3 := hts (.fieldLink RX7 25 "EachBringsModel" "s" "[I") (List.mem_of_getElem? (i := 3) rfl)
  have kw4 := hts (.fieldLink RX7 28 "EachBringsModel" "kept" "[I") (List.mem_of_getElem? (i := 2) rfl)
  have hl : lv_has ls 3 [(0, .ref q0), (1, .int x1)] := hl
  have hret' : ∀ (pc : Nat) (ls : Array Slot) (H : Heap) (locs : List Loc) (v : Int32) (w0 : Int32) (w1 : Nat → Int32) (w2 : Nat → Int32), decode cX7_keep pc = .ok (.ireturn, 1) → some (v, w0, w1, w2) = some r → va_P D vwCl [(q0, oB 7 [.int w0, .long z_trace, .ref q_text, .int z_typed, .int z_next, .int z_token, .int z_place, .int z_value, .int z_fault, .ref q_weight, .ref q_eats, .ref q_barred, .ref q_laws, .int z_houses, .int z_draftHouses, .ref q_s, .ref q_kept, .ref q_isKept, .ref q_years, .ref q_likely, .ref q_then, .long z_all, .ref q_row, .ref q_best]), (q_s, aI cy 67 z_s), (q_kept, aI cy 134 w1), (q_isKept, aZ cy 2 w2)] H → va_D A [(q0, oB 7 [.int w0, .long z_trace, .ref q_text, .int z_typed, .int z_next, .int z_token, .int z_place, .int z_value, .int z_fault, .ref q_weight, .ref q_eats, .ref q_barred, .ref q_laws, .int z_houses, .int z_draftHouses, .ref q_s, .ref q_kept, .ref q_isKept, .ref q_years, .ref q_likely, .ref q_then, .long z_all, .ref q_row, .ref q_best]), (q_s, aI cy 67 z_s), (q_kept, aI cy 134 w1), (q_isKept, aZ cy 2 w2)] → va_S A s.heap H locs → W p l e rmX7_keep s m args below meth c H locs 0 0 Q (F0 m pc ls [.int v]) := by
    intro pc ls H locs v w0 w1 w2 hd he hP hD hS
    cases he
    exact hret _ _ _ _ _ hd rfl hP hD hS
  unfold fX7_keep at hf
  refine lv_aload_n hx hb dX7_keep_0 rfl (lv_at hl 0 rfl) ?_
  refine lv_iconst (v := 0) hx hb dX7_keep_1 (by decide) ?_
  refine va_put (D := D) (ci := 7) (v := .int (0 : Int32)) (ty := .int) (C := RX7) (T := TX7) (N := 24) hx hb hts kc1 tyX7 tyX7_ok nmX7 hown hK hP hD hS 0 rfl rfl 0 (by decide) kw0 (fun _ h9 => h9) rfl pfI rfl rfl (Nat.le_of_ble_eq_true rfl) dX7_keep_2 (fun H locs hP hD hS => ?_)
  have hP : va_P D vwCl [(q0, oB 7 [.int (0 : Int32), .long z_trace, .ref q_text, .int z_typed, .int z_next, .int z_token, .int z_place, .int z_value, .int z_fault, .ref q_weight, .ref q_eats, .ref q_barred, .ref q_laws, .int z_houses, .int z_draftHouses, .ref q_s, .ref q_kept, .ref q_isKept, .ref q_years, .ref q_likely, .ref q_then, .long z_all, .ref q_row, .ref q_best]), (q_s, aI cy 67 z_s), (q_kept, aI cy 134 z_kept), (q_isKept, aZ cy 2 z_isKept)] H := hP
  have hD : va_D A [(q0, oB 7 [.int (0 : Int32), .long z_trace, .ref q_text, .int z_typed, .int z_next, .int z_token, .int z_place, .int z_value, .int z_fault, .ref q_weight, .ref q_eats, .ref q_barred, .ref q_laws, .int z_houses, .int z_draftHouses, .ref q_s, .ref q_kept, .ref q_isKept, .ref q_years, .ref q_likely, .ref q_then, .long z_all, .ref q_row, .ref q_best]), (q_s, aI cy 67 z_s), (q_kept, aI cy 134 z_kept), (q_isKept, aZ cy 2 z_isKept)] := hD
  refine lv_iload_n hx hb dX7_keep_5 rfl (lv_at hl 1 rfl) ?_
  refine lv_iconst (v := 0) hx hb dX7_keep_6 (by decide) ?_
  refine lv_iconst (v := 1) hx hb dX7_keep_7 (by decide) ?_
  obtain ⟨r_8, hr_8, hf⟩ := bd_some hf
  refine cl_i (wc := []) (w1 := []) (wr := [(q0, oB 7 [.int (0 : Int32), .long z_trace, .ref q_text, .int z_typed, .int z_next, .int z_token, .int z_place, .int z_value, .int z_fault, .ref q_weight, .ref q_eats, .ref q_barred, .ref q_laws, .int z_houses, .int z_draftHouses, .ref q_s, .ref q_kept, .ref q_isKept, .ref q_years, .ref q_likely, .ref q_then, .long z_all, .ref q_row, .ref q_best]), (q_s, aI cy 67 z_s), (q_kept, aI cy 134 z_kept), (q_isKept, aZ cy 2 z_isKept)]) (w2 := [(q0, oB 7 [.int (0 : Int32), .long z_trace, .ref q_text, .int z_typed, .int z_next, .int z_token, .int z_place, .int z_value, .int z_fault, .ref q_weight, .ref q_eats, .ref q_barred, .ref q_laws, .int z_houses, .int z_draftHouses, .ref q_s, .ref q_kept, .ref q_isKept, .ref q_years, .ref q_likely, .ref q_then, .long z_all, .ref q_row, .ref q_best]), (q_s, aI cy 67 z_s), (q_kept, aI cy 134 z_kept), (q_isKept, aZ cy 2 z_isKept)]) (va_runS (As := [.int x1, .int (0 : Int32), .int (1 : Int32)]) (rest := []) ⟨hx, hb, hml, hown, hts⟩ (ktX7_in l D cy x1 (0 : Int32) (1 : Int32) r_8 hr_8 _) (va_cwS 3 hts gX7_keep_X7_in rfl rfl rfl (by decide +kernel) ⟨Nat.le_of_ble_eq_true rfl, Nat.le_of_ble_eq_true rfl⟩) (pre_S (wc := []) hcx hsx hS hA hP hD [] rfl (by decide)) rfl rfl hl.1 rfl (lv_room (Nat.le_of_ble_eq_true rfl)) dX7_keep_8 ⟨Nat.zero_le _, Nat.zero_le _⟩) hP hD hS hA [] [0, 1, 2, 3] [0, 1, 2, 3] rfl rfl (by decide) (by decide) (by decide) rfl (fun H locs hP hD hS => ?_)
  refine lv_if_ne (tgt := 16) hx hb dX7_keep_11 (by decide) (fun hc_11 => ?_) (fun hc_11 => ?_)
  · have hf := it_f hf hc_11
    refine lv_iconst (v := 0) hx hb dX7_keep_16 (by decide) ?_
    refine lv_istore_n (lv' := [(2, .int (0 : Int32)), (0, .ref q0), (1, .int x1)]) hx hb dX7_keep_17 rfl hl (by decide) rfl (fun ls hl => ?_)
    have hJ47 : ∀ (z_kept_47 : Nat → Int32) (H : Heap) (locs : List Loc) (ls : Array Slot), X7_keep_J47 z_s z_isKept x1 z_kept_47 = some r → va_P D vwCl [(q0, oB 7 [.int (0 : Int32), .long z_trace, .ref q_text, .int z_typed, .int z_next, .int z_token, .int z_place, .int z_value, .int z_fault, .ref q_weight, .ref q_eats, .ref q_barred, .ref q_laws, .int z_houses, .int z_draftHouses, .ref q_s, .ref q_kept, .ref q_isKept, .ref q_years, .ref q_likely, .ref q_then, .long z_all, .ref q_row, .ref q_best]), (q_s, aI cy 67 z_s), (q_kept, aI cy 134 z_kept_47), (q_isKept, aZ cy 2 z_isKept)] H → va_D A [(q0, oB 7 [.int (0 : Int32), .long z_trace, .ref q_text, .int z_typed, .int z_next, .int z_token, .int z_place, .int z_value, .int z_fault, .ref q_weight, .ref q_eats, .ref q_barred, .ref q_laws, .int z_houses, .int z_draftHouses, .ref q_s, .ref q_kept, .ref q_isKept, .ref q_years, .ref q_likely, .ref q_then, .long z_all, .ref q_row, .ref q_best]), (q_s, aI cy 67 z_s), (q_kept, aI cy 134 z_kept_47), (q_isKept, aZ cy 2 z_isKept)] → va_S A s.heap H locs → lv_has ls 3 [(0, .ref q0), (1, .int x1)] → W p l e rmX7_keep s m args below meth c H locs 0 0 Q (F0 m 47 ls []) := by
      intro z_kept_47 H locs ls hf hP hD hS hl
      unfold X7_keep_J47 at hf
      refine lv_aload_n hx hb dX7_keep_47 rfl (lv_at hl 0 rfl) ?_
      refine va_get (D := D) (ci := 7) (v := .ref q_isKept) (C := RX7) (T := TX7) (N := 24) hx hb hts kc1 hown hK hP 0 rfl rfl 17 (by decide) kw2 (fun _ h9 => h9) rfl dX7_keep_48 ?_
      refine lv_iload_n hx hb dX7_keep_51 rfl (lv_at hl 1 rfl) ?_
      refine lv_iconst (v := 1) hx hb dX7_keep_52 (by decide) ?_
      obtain ⟨hg_53, hf⟩ := gd_some hf
      refine va_zast hx hb hK hP hD hS 3 3 rfl rfl hg_53 dX7_keep_53 (fun H locs hP hD hS => ?_)
      obtain ⟨z_isKept_53, ez_isKept_53⟩ : ∃ y : Nat → Int32, y = upd z_isKept x1.toNatClampNeg (vp_nar .boolean (1 : Int32)) := ⟨_, rfl⟩
      have hf := lets_at hf ez_isKept_53
      rw [← ez_isKept_53] at hP hD
      have hP : va_P D vwCl [(q0, oB 7 [.int (0 : Int32), .long z_trace, .ref q_text, .int z_typed, .int z_next, .int z_token, .int z_place, .int z_value, .int z_fault, .ref q_weight, .ref q_eats, .ref q_barred, .ref q_laws, .int z_houses, .int z_draftHouses, .ref q_s, .ref q_kept, .ref q_isKept, .ref q_years, .ref q_likely, .ref q_then, .long z_all, .ref q_row, .ref q_best]), (q_s, aI cy 67 z_s), (q_kept, aI cy 134 z_kept_47), (q_isKept, aZ cy 2 z_isKept_53)] H := hP
      have hD : va_D A [(q0, oB 7 [.int (0 : Int32), .long z_trace, .ref q_text, .int z_typed, .int z_next, .int z_token, .int z_place, .int z_value, .int z_fault, .ref q_weight, .ref q_eats, .ref q_barred, .ref q_laws, .int z_houses, .int z_draftHouses, .ref q_s, .ref q_kept, .ref q_isKept, .ref q_years, .ref q_likely, .ref q_then, .long z_all, .ref q_row, .ref q_best]), (q_s, aI cy 67 z_s), (q_kept, aI cy 134 z_kept_47), (q_isKept, aZ cy 2 z_isKept_53)] := hD
      refine lv_aload_n hx hb dX7_keep_54 rfl (lv_at hl 0 rfl) ?_
      refine va_get (D := D) (ci := 7) (v := .ref q_s) (C := RX7) (T := TX7) (N := 24) hx hb hts kc1 hown hK hP 0 rfl rfl 15 (by decide) kw3 (fun _ h9 => h9) rfl dX7_keep_55 ?_
      refine lv_bipush (v := 65) hx hb dX7_keep_58 (by decide) ?_
      refine va_iald hx hb hK hP 1 0 rfl rfl (by decide : okx (65 : Int32) 67) dX7_keep_60 ?_
      exact hret' _ _ _ _ _ _ _ _ dX7_keep_61 hf hP hD hS
    have hL18 : ∀ (n : Nat) (x2_18 : Int32) (z_kept_18 : Nat → Int32) (H : Heap) (locs : List Loc) (ls : Array Slot), it2 (X7_keep_S18 z_s z_isKept x1) n x2_18 z_kept_18 = some r → va_P D vwCl [(q0, oB 7 [.int (0 : Int32), .long z_trace, .ref q_text, .int z_typed, .int z_next, .int z_token, .int z_place, .int z_value, .int z_fault, .ref q_weight, .ref q_eats, .ref q_barred, .ref q_laws, .int z_houses, .int z_draftHouses, .ref q_s, .ref q_kept, .ref q_isKept, .ref q_years, .ref q_likely, .ref q_then, .long z_all, .ref q_row, .ref q_best]), (q_s, aI cy 67 z_s), (q_kept, aI cy 134 z_kept_18), (q_isKept, aZ cy 2 z_isKept)] H → va_D A [(q0, oB 7 [.int (0 : Int32), .long z_trace, .ref q_text, .int z_typed, .int z_next, .int z_token, .int z_place, .int z_value, .int z_fault, .ref q_weight, .ref q_eats, .ref q_barred, .ref q_laws, .int z_houses, .int z_draftHouses, .ref q_s, .ref q_kept, .ref q_isKept, .ref q_years, .ref q_likely, .ref q_then, .long z_all, .ref q_row, .ref q_best]), (q_s, aI cy 67 z_s), (q_kept, aI cy 134 z_kept_18), (q_isKept, aZ cy 2 z_isKept)] → va_S A s.heap H locs → lv_has ls 3 [(0, .ref q0), (1, .int x1), (2, .int x2_18)] → W p l e rmX7_keep s m args below meth c H locs 0 0 Q (F0 m 18 ls []) := by
      intro n
      induction n with
      | zero => intro x2_18 z_kept_18 H locs ls hf; exact absurd hf (by simp [it2])
      | succ n ih18 =>
        intro x2_18 z_kept_18 H locs ls hf hP hD hS hl
        have hf : X7_keep_S18 z_s z_isKept x1 (it2 (X7_keep_S18 z_s z_isKept x1) n) x2_18 z_kept_18 = some r := hf
        generalize it2 (X7_keep_S18 z_s z_isKept x1) n = self_18 at hf ih18
        unfold X7_keep_S18 at hf
        refine lv_iload_n hx hb dX7_keep_18 rfl (lv_at hl 2 rfl) ?_
        refine lv_bipush (v := 67) hx hb dX7_keep_19 (by decide) ?_
        refine lv_icmp_ge (tgt := 47) hx hb dX7_keep_21 (by decide) (fun hc_21 => ?_) (fun hc_21 => ?_)
        · have hf := it_t hf hc_21
          exact hJ47 z_kept_18 _ _ _ hf hP hD hS (lv_sub hl [0, 1] rfl)
        · have hf := it_f hf hc_21
          refine lv_aload_n hx hb dX7_keep_24 rfl (lv_at hl 0 rfl) ?_
          refine va_get (D := D) (ci := 7) (v := .ref q_kept) (C := RX7) (T := TX7) (N := 24) hx hb hts kc1 hown hK hP 0 rfl rfl 16 (by decide) kw4 (fun _ h9 => h9) rfl dX7_keep_25 ?_
          refine lv_bipush (v := 67) hx hb dX7_keep_28 (by decide) ?_
          refine lv_iload_n hx hb dX7_keep_30 rfl (lv_at hl 1 rfl) ?_
          refine lv_imul hx hb dX7_keep_31 ?_
          refine lv_iload_n hx hb dX7_keep_32 rfl (lv_at hl 2 rfl) ?_
          refine lv_iadd hx hb dX7_keep_33 ?_
          refine lv_aload_n hx hb dX7_keep_34 rfl (lv_at hl 0 rfl) ?_
          refine va_get (D := D) (ci := 7) (v := .ref q_s) (C := RX7) (T := TX7) (N := 24) hx hb hts kc1 hown hK hP 0 rfl rfl 15 (by decide) kw3 (fun _ h9 => h9) rfl dX7_keep_35 ?_
          refine lv_iload_n hx hb dX7_keep_38 rfl (lv_at hl 2 rfl) ?_
          obtain ⟨hg_39, hf⟩ := gd_some hf
          refine va_iald hx hb hK hP 1 0 rfl rfl hg_39 dX7_keep_39 ?_
          obtain ⟨hg_40, hf⟩ := gd_some hf
          refine va_iast hx hb hK hP hD hS 2 0 rfl rfl hg_40 dX7_keep_40 (fun H locs hP hD hS => ?_)
          obtain ⟨z_kept_40, ez_kept_40⟩ : ∃ y : Nat → Int32, y = upd z_kept_18 (((67 : Int32) * x1) + x2_18).toNatClampNeg (z_s x2_18.toNatClampNeg) := ⟨_, rfl⟩
          have hf := lets_at hf ez_kept_40
          rw [← ez_kept_40] at hP hD
          have hP : va_P D vwCl [(q0, oB 7 [.int (0 : Int32), .long z_trace, .ref q_text, .int z_typed, .int z_next, .int z_token, .int z_place, .int z_value, .int z_fault, .ref q_weight, .ref q_eats, .ref q_barred, .ref q_laws, .int z_houses, .int z_draftHouses, .ref q_s, .ref q_kept, .ref q_isKept, .ref q_years, .ref q_likely, .ref q_then, .long z_all, .ref q_row, .ref q_best]), (q_s, aI cy 67 z_s), (q_kept, aI cy 134 z_kept_40), (q_isKept, aZ cy 2 z_isKept)] H := hP
          have hD : va_D A [(q0, oB 7 [.int (0 : Int32), .long z_trace, .ref q_text, .int z_typed, .int z_next, .int z_token, .int z_place, .int z_value, .int z_fault, .ref q_weight, .ref q_eats, .ref q_barred, .ref q_laws, .int z_houses, .int z_draftHouses, .ref q_s, .ref q_kept, .ref q_isKept, .ref q_years, .ref q_likely, .ref q_then, .long z_all, .ref q_row, .ref q_best]), (q_s, aI cy 67 z_s), (q_kept, aI cy 134 z_kept_40), (q_isKept, aZ cy 2 z_isKept)] := hD
          obtain ⟨x2_41, ex2_41⟩ : ∃ y : Int32, y = x2_18 + (1 : Int32) := ⟨_, rfl⟩
          have hf := lets_at hf ex2_41
          refine lv_iinc (v := x2_41) (lv' := [(2, .int x2_41), (0, .ref q0), (1, .int x1)]) hx hb dX7_keep_41 hl (k := 2) rfl (by rw [ex2_41]; rfl) (by decide) rfl (fun ls hl => ?_)
          refine lv_goto (tgt := 18) hx hb dX7_keep_44 (by decide) ?_
          exact ih18 x2_41 z_kept_40 _ _ _ hf hP hD hS (lv_sub hl [1, 2, 0] rfl)
    exact hL18 _ (0 : Int32) z_kept _ _ _ hf hP hD hS (lv_sub hl [1, 2, 0] rfl)
  · have hf := it_t hf hc_11
    refine lv_iconst (v := -1) hx hb dX7_keep_14 (by decide) ?_
    exact hret' _ _ _ _ _ _ _ _ dX7_keep_15 hf hP hD hS
