def X1_clearTable_J73 (z_brought_29 : Nat → Int32) (z_health_29 : Nat → Int32) (z_left_49 : Nat → Int32) (z_spoons_73 : Nat → Int32) : Option (Int32 × (Nat → Int32) × (Nat → Int32) × (Nat → Int32) × (Nat → Int32)) := some ((0 : Int32), z_brought_29, z_left_49, z_spoons_73, z_health_29)
def X1_clearTable_S51 (z_brought_29 : Nat → Int32) (z_health_29 : Nat → Int32) (z_left_49 : Nat → Int32) (self_51 : Int32 → (Nat → Int32) → Option (Int32 × (Nat → Int32) × (Nat → Int32) × (Nat → Int32) × (Nat → Int32))) (x1_51 : Int32) (z_spoons_51 : Nat → Int32) : Option (Int32 × (Nat → Int32) × (Nat → Int32) × (Nat → Int32) × (Nat → Int32)) := if (24 : Int32) ≤ x1_51 then (X1_clearTable_J73 z_brought_29 z_health_29 z_left_49 z_spoons_51) else (gd (okx x1_51 24) (lets (upd z_spoons_51 x1_51.toNatClampNeg (0 : Int32)) (fun z_spoons_66 => lets (x1_51 + (1 : Int32)) (fun x1_67 => self_51 x1_67 z_spoons_66))))
def X1_clearTable_J49 (z_spoons : Nat → Int32) (z_brought_29 : Nat → Int32) (z_health_29 : Nat → Int32) (z_left_49 : Nat → Int32) : Option (Int32 × (Nat → Int32) × (Nat → Int32) × (Nat → Int32) × (Nat → Int32)) := it2 (X1_clearTable_S51 z_brought_29 z_health_29 z_left_49) 100000 (0 : Int32) z_spoons
def X1_clearTable_S31 (z_spoons : Nat → Int32) (z_brought_29 : Nat → Int32) (z_health_29 : Nat → Int32) (self_31 : Int32 → (Nat → Int32) → Option (Int32 × (Nat → Int32) × (Nat → Int32) × (Nat → Int32) × (Nat → Int32))) (x1_31 : Int32) (z_left_31 : Nat → Int32) : Option (Int32 × (Nat → Int32) × (Nat → Int32) × (Nat → Int32) × (Nat → Int32)) := if (4 : Int32) ≤ x1_31 then (X1_clearTable_J49 z_spoons z_brought_29 z_health_29 z_left_31) else (gd (okx x1_31 4) (lets (upd z_left_31 x1_31.toNatClampNeg (0 : Int32)) (fun z_left_42 => lets (x1_31 + (1 : Int32)) (fun x1_43 => self_31 x1_43 z_left_42))))
def X1_clearTable_J29 (z_left : Nat → Int32) (z_spoons : Nat → Int32) (z_brought_29 : Nat → Int32) (z_health_29 : Nat → Int32) : Option (Int32 × (Nat → Int32) × (Nat → Int32) × (Nat → Int32) × (Nat → Int32)) := it2 (X1_clearTable_S31 z_spoons z_brought_29 z_health_29) 100000 (0 : Int32) z_left
def X1_clearTable_S2 (z_left : Nat → Int32) (z_spoons : Nat → Int32) (self_2 : Int32 → (Nat → Int32) → (Nat → Int32) → Option (Int32 × (Nat → Int32) × (Nat → Int32) × (Nat → Int32) × (Nat → Int32))) (x1_2 : Int32) (z_brought_2 : Nat → Int32) (z_health_2 : Nat → Int32) : Option (Int32 × (Nat → Int32) × (Nat → Int32) × (Nat → Int32) × (Nat → Int32)) := if (6 : Int32) ≤ x1_2 then (X1_clearTable_J29 z_left z_spoons z_brought_2 z_health_2) else (gd (okx x1_2 6) (lets (upd z_brought_2 x1_2.toNatClampNeg (-9 : Int32)) (fun z_brought_15 => gd (okx x1_2 6) (lets (upd z_health_2 x1_2.toNatClampNeg (0 : Int32)) (fun z_health_22 => lets (x1_2 + (1 : Int32)) (fun x1_23 => self_2 x1_23 z_brought_15 z_health_22))))))
def fX1_clearTable (z_brought : Nat → Int32) (z_left : Nat → Int32) (z_spoons : Nat → Int32) (z_health : Nat → Int32) : Option (Int32 × (Nat → Int32) × (Nat → Int32) × (Nat → Int32) × (Nat → Int32)) := it3 (X1_clearTable_S2 z_left z_spoons) 100000 (0 : Int32) z_brought z_health
abbrev rmX1_clearTable : Room := { frames := 0, cells := 0, slots := 0, locals := 0 }
set_option maxHeartbeats 4000000 in
set_option maxRecDepth 100000 in
theorem ktX1_clearTable (l : Launch) (D : va_G) (cy : Nat → ClassId) (q0 : Nat) (q_weights : Nat) (q_brought : Nat) (q_left : Nat) (q_spoons : Nat) (q_health : Nat) (z_eaten : Int32) (z_year : Int32) (z_lot : Int32) (z_brought : Nat → Int32) (z_left : Nat → Int32) (z_spoons : Nat → Int32) (z_health : Nat → Int32) (r : Int32 × (Nat → Int32) × (Nat → Int32) × (Nat → Int32) × (Nat → Int32)) (hf : fX1_clearTable z_brought z_left z_spoons z_health = some r) : CtV l yX1_clearTable wsX1_clearTable rmX1_clearTable D cy [.ref q0] [(q0, oB 1 [.ref q_weights, .ref q_brought, .ref q_left, .ref q_spoons, .ref q_health, .int z_eaten, .int z_year, .int z_lot]), (q_brought, aI cy 6 z_brought), (q_left, aI cy 4 z_left), (q_spoons, aI cy 24 z_spoons), (q_health, aI cy 6 z_health)] [(q0, oB 1 [.ref q_weights, .ref q_brought, .ref q_left, .ref q_spoons, .ref q_health, .int r.1, .int z_year, .int z_lot]), (q_brought, aI cy 6 r.2.1), (q_left, aI cy 4 r.2.2.1), (q_spoons, aI cy 24 r.2.2.2.1), (q_health, aI cy 6 r.2.2.2.2)] := by
  refine Ct_ofV (cc := cX1_clearTable) (nL := 2) (by decide) rfl (Nat.le_of_ble_eq_true rfl) ?_
  intro p e s m args below meth c A Q hM hret hP hD hS ls hl
  obtain ⟨hx, hb, hml, hown, hts, hcx, hA, hsx⟩ := hM
  have hown : s.vm.findClass RX1 = some m.cls := hown
  have hK := hcx.1
  have hN := hcx.2
  have kw0 := hts (.fieldLink RX1 31 "EachBrings$Now" "eaten" "Z") (List.mem_of_getElem? (i := 5) rfl)
  have kc1 : ∀ w ∈ wsX10, w ∈ wsX1_clearTable := fun _ h => List.mem_cons_of_mem _ (List.mem_append_right _ h)
  have kw2 := hts (.fieldLink RX1 25 "EachBrings$Now" "spoons" "[I") (List.mem_of_getElem? (i := 4) rfl)
  have kw3 := hts (.fieldLink RX1 22 "EachBrings$Now" "left" "[I") (List.mem_of_getElem? (i := 3) rfl)
  have kw4 := hts (.fieldLink RX1 18 "EachBrings$Now" "brought" "[I") (List.mem_of_getElem? (i := 1) rfl)
  have kw5 := hts (.fieldLink RX1 28 "EachBrings$Now" "health" "[I") (List.mem_of_getElem? (i := 2) rfl)
  have hl : lv_has ls 2 [(0, .ref q0)] := hl
  have hret' : ∀ (pc : Nat) (ls : Array Slot) (H : Heap) (locs : List Loc) (w0 : Int32) (w1 : Nat → Int32) (w2 : Nat → Int32) (w3 : Nat → Int32) (w4 : Nat → Int32), decode cX1_clearTable pc = .ok (.return_, 1) → some (w0, w1, w2, w3, w4) = some r → va_P D vwCl [(q0, oB 1 [.ref q_weights, .ref q_brought, .ref q_left, .ref q_spoons, .ref q_health, .int w0, .int z_year, .int z_lot]), (q_brought, aI cy 6 w1), (q_left, aI cy 4 w2), (q_spoons, aI cy 24 w3), (q_health, aI cy 6 w4)] H → va_D A [(q0, oB 1 [.ref q_weights, .ref q_brought, .ref q_left, .ref q_spoons, .ref q_health, .int w0, .int z_year, .int z_lot]), (q_brought, aI cy 6 w1), (q_left, aI cy 4 w2), (q_spoons, aI cy 24 w3), (q_health, aI cy 6 w4)] → va_S A s.heap H locs → W p l e rmX1_clearTable s m args below meth c H locs 0 0 Q (F0 m pc ls []) := by
    intro pc ls H locs w0 w1 w2 w3 w4 hd he hP hD hS
    cases he
    exact hret _ _ _ _ hd hP hD hS
  unfold fX1_clearTable at hf
  refine lv_iconst (v := 0) hx hb dX1_clearTable_0 (by decide) ?_
  refine lv_istore_n (lv' := [(1, .int (0 : Int32)), (0, .ref q0)]) hx hb dX1_clearTable_1 rfl hl (by decide) rfl (fun ls hl => ?_)
  have hJ29 : ∀ (z_brought_29 : Nat → Int32) (z_health_29 : Nat → Int32) (H : Heap) (locs : List Loc) (ls : Array Slot), X1_clearTable_J29 z_left z_spoons z_brought_29 z_health_29 = some r → va_P D vwCl [(q0, oB 1 [.ref q_weights, .ref q_brought, .ref q_left, .ref q_spoons, .ref q_health, .int z_eaten, .int z_year, .int z_lot]), (q_brought, aI cy 6 z_brought_29), (q_left, aI cy 4 z_left), (q_spoons, aI cy 24 z_spoons), (q_health, aI cy 6 z_health_29)] H → va_D A [(q0, oB 1 [.ref q_weights, .ref q_brought, .ref q_left, .ref q_spoons, .ref q_health, .int z_eaten, .int z_year, .int z_lot]), (q_brought, aI cy 6 z_brought_29), (q_left, aI cy 4 z_left), (q_spoons, aI cy 24 z_spoons), (q_health, aI cy 6 z_health_29)] → va_S A s.heap H locs → lv_has ls 2 [(0, .ref q0)] → W p l e rmX1_clearTable s m args below meth c H locs 0 0 Q (F0 m 29 ls []) := by
    intro z_brought_29 z_health_29 H locs ls hf hP hD hS hl
    unfold X1_clearTable_J29 at hf
    refine lv_iconst (v := 0) hx hb dX1_clearTable_29 (by decide) ?_
    refine lv_istore_n (lv' := [(1, .int (0 : Int32)), (0, .ref q0)]) hx hb dX1_clearTable_30 rfl hl (by decide) rfl (fun ls hl => ?_)
    have hJ49 : ∀ (z_left_49 : Nat → Int32) (H : Heap) (locs : List Loc) (ls : Array Slot), X1_clearTable_J49 z_spoons z_brought_29 z_health_29 z_left_49 = some r → va_P D vwCl [(q0, oB 1 [.ref q_weights, .ref q_brought, .ref q_left, .ref q_spoons, .ref q_health, .int z_eaten, .int z_year, .int z_lot]), (q_brought, aI cy 6 z_brought_29), (q_left, aI cy 4 z_left_49), (q_spoons, aI cy 24 z_spoons), (q_health, aI cy 6 z_health_29)] H → va_D A [(q0, oB 1 [.ref q_weights, .ref q_brought, .ref q_left, .ref q_spoons, .ref q_health, .int z_eaten, .int z_year, .int z_lot]), (q_brought, aI cy 6 z_brought_29), (q_left, aI cy 4 z_left_49), (q_spoons, aI cy 24 z_spoons), (q_health, aI cy 6 z_health_29)] → va_S A s.heap H locs → lv_has ls 2 [(0, .ref q0)] → W p l e rmX1_clearTable s m args below meth c H locs 0 0 Q (F0 m 49 ls []) := by
      intro z_left_49 H locs ls hf hP hD hS hl
      unfold X1_clearTable_J49 at hf
      refine lv_iconst (v := 0) hx hb dX1_clearTable_49 (by decide) ?_
      refine lv_istore_n (lv' := [(1, .int (0 : Int32)), (0, .ref q0)]) hx hb dX1_clearTable_50 rfl hl (by decide) rfl (fun ls hl => ?_)
      have hJ73 : ∀ (z_spoons_73 : Nat → Int32) (H : Heap) (locs : List Loc) (ls : Array Slot), X1_clearTable_J73 z_brought_29 z_health_29 z_left_49 z_spoons_73 = some r → va_P D vwCl [(q0, oB 1 [.ref q_weights, .ref q_brought, .ref q_left, .ref q_spoons, .ref q_health, .int z_eaten, .int z_year, .int z_lot]), (q_brought, aI cy 6 z_brought_29), (q_left, aI cy 4 z_left_49), (q_spoons, aI cy 24 z_spoons_73), (q_health, aI cy 6 z_health_29)] H → va_D A [(q0, oB 1 [.ref q_weights, .ref q_brought, .ref q_left, .ref q_spoons, .ref q_health, .int z_eaten, .int z_year, .int z_lot]), (q_brought, aI cy 6 z_brought_29), (q_left, aI cy 4 z_left_49), (q_spoons, aI cy 24 z_spoons_73), (q_health, aI cy 6 z_health_29)] → va_S A s.heap H locs → lv_has ls 2 [(0, .ref q0)] → W p l e rmX1_clearTable s m args below meth c H locs 0 0 Q (F0 m 73 ls []) := by
        intro z_spoons_73 H locs ls hf hP hD hS hl
        unfold X1_clearTable_J73 at hf
        refine lv_aload_n hx hb dX1_clearTable_73 rfl (lv_at hl 0 rfl) ?_
        refine lv_iconst (v := 0) hx hb dX1_clearTable_74 (by decide) ?_
        refine va_put (D := D) (ci := 1) (v := .int (0 : Int32)) (ty := .boolean) (C := RX1) (T := TX1) (N := 8) hx hb hts kc1 tyX1 tyX1_ok nmX1 hown hK hP hD hS 0 rfl rfl 5 (by decide) kw0 (fun _ h9 => h9) rfl pfZ (isB.nar (by decide : isB 0)) (isB.fit (by decide : isB 0)) (Nat.le_of_ble_eq_true rfl) dX1_clearTable_75 (fun H locs hP hD hS => ?_)
        have hP : va_P D vwCl [(q0, oB 1 [.ref q_weights, .ref q_brought, .ref q_left, .ref q_spoons, .ref q_health, .int (0 : Int32), .int z_year, .int z_lot]), (q_brought, aI cy 6 z_brought_29), (q_left, aI cy 4 z_left_49), (q_spoons, aI cy 24 z_spoons_73), (q_health, aI cy 6 z_health_29)] H := hP
        have hD : va_D A [(q0, oB 1 [.ref q_weights, .ref q_brought, .ref q_left, .ref q_spoons, .ref q_health, .int (0 : Int32), .int z_year, .int z_lot]), (q_brought, aI cy 6 z_brought_29), (q_left, aI cy 4 z_left_49), (q_spoons, aI cy 24 z_spoons_73), (q_health, aI cy 6 z_health_29)] := hD
        exact hret' _ _ _ _ _ _ _ _ _ dX1_clearTable_78 hf hP hD hS
      have hL51 : ∀ (n : Nat) (x1_51 : Int32) (z_spoons_51 : Nat → Int32) (H : Heap) (locs : List Loc) (ls : Array Slot), it2 (X1_clearTable_S51 z_brought_29 z_health_29 z_left_49) n x1_51 z_spoons_51 = some r → va_P D vwCl [(q0, oB 1 [.ref q_weights, .ref q_brought, .ref q_left, .ref q_spoons, .ref q_health, .int z_eaten, .int z_year, .int z_lot]), (q_brought, aI cy 6 z_brought_29), (q_left, aI cy 4 z_left_49), (q_spoons, aI cy 24 z_spoons_51), (q_health, aI cy 6 z_health_29)] H → va_D A [(q0, oB 1 [.ref q_weights, .ref q_brought, .ref q_left, .ref q_spoons, .ref q_health, .int z_eaten, .int z_year, .int z_lot]), (q_brought, aI cy 6 z_brought_29), (q_left, aI cy 4 z_left_49), (q_spoons, aI cy 24 z_spoons_51), (q_health, aI cy 6 z_health_29)] → va_S A s.heap H locs → lv_has ls 2 [(0, .ref q0), (1, .int x1_51)] → W p l e rmX1_clearTable s m args below meth c H locs 0 0 Q (F0 m 51 ls []) := by
        intro n
        induction n with
        | zero => intro x1_51 z_spoons_51 H locs ls hf; exact absurd hf (by simp [it2])
        | succ n ih51 =>
          intro x1_51 z_spoons_51 H locs ls hf hP hD hS hl
          have hf : X1_clearTable_S51 z_brought_29 z_health_29 z_left_49 (it2 (X1_clearTable_S51 z_brought_29 z_health_29 z_left_49) n) x1_51 z_spoons_51 = some r := hf
          generalize it2 (X1_clearTable_S51 z_brought_29 z_health_29 z_left_49) n = self_51 at hf ih51
          unfold X1_clearTable_S51 at hf
          refine lv_iload_n hx hb dX1_clearTable_51 rfl (lv_at hl 1 rfl) ?_
          refine lv_aload_n hx hb dX1_clearTable_52 rfl (lv_at hl 0 rfl) ?_
          refine va_get (D := D) (ci := 1) (v := .ref q_spoons) (C := RX1) (T := TX1) (N := 8) hx hb hts kc1 hown hK hP 0 rfl rfl 3 (by decide) kw2 (fun _ h9 => h9) rfl dX1_clearTable_53 ?_
          refine va_alen (v := 24) hx hb hK hP 3 0 rfl rfl rfl dX1_clearTable_56 ?_
          refine lv_icmp_ge (tgt := 73) hx hb dX1_clearTable_57 (by decide) (fun hc_57 => ?_) (fun hc_57 => ?_)
          · have hf := it_t hf hc_57
            exact hJ73 z_spoons_51 _ _ _ hf hP hD hS (lv_sub hl [0] rfl)
          · have hf := it_f hf hc_57
            refine lv_aload_n hx hb dX1_clearTable_60 rfl (lv_at hl 0 rfl) ?_
            refine va_get (D := D) (ci := 1) (v := .ref q_spoons) (C := RX1) (T := TX1) (N := 8) hx hb hts kc1 hown hK hP 0 rfl rfl 3 (by decide) kw2 (fun _ h9 => h9) rfl dX1_clearTable_61 ?_
            refine lv_iload_n hx hb dX1_clearTable_64 rfl (lv_at hl 1 rfl) ?_
            refine lv_iconst (v := 0) hx hb dX1_clearTable_65 (by decide) ?_
            obtain ⟨hg_66, hf⟩ := gd_some hf
            refine va_iast hx hb hK hP hD hS 3 0 rfl rfl hg_66 dX1_clearTable_66 (fun H locs hP hD hS => ?_)
            obtain ⟨z_spoons_66, ez_spoons_66⟩ : ∃ y : Nat → Int32, y = upd z_spoons_51 x1_51.toNatClampNeg (0 : Int32) := ⟨_, rfl⟩
            have hf := lets_at hf ez_spoons_66
            rw [← ez_spoons_66] at hP hD
            have hP : va_P D vwCl [(q0, oB 1 [.ref q_weights, .ref q_brought, .ref q_left, .ref q_spoons, .ref q_health, .int z_eaten, .int z_year, .int z_lot]), (q_brought, aI cy 6 z_brought_29), (q_left, aI cy 4 z_left_49), (q_spoons, aI cy 24 z_spoons_66), (q_health, aI cy 6 z_health_29)] H := hP
            have hD : va_D A [(q0, oB 1 [.ref q_weights, .ref q_brought, .ref q_left, .ref q_spoons, .ref q_health, .int z_eaten, .int z_year, .int z_lot]), (q_brought, aI cy 6 z_brought_29), (q_left, aI cy 4 z_left_49), (q_spoons, aI cy 24 z_spoons_66), (q_health, aI cy 6 z_health_29)] := hD
            obtain ⟨x1_67, ex1_67⟩ : ∃ y : Int32, y = x1_51 + (1 : Int32) := ⟨_, rfl⟩
            have hf := lets_at hf ex1_67
            refine lv_iinc (v := x1_67) (lv' := [(1, .int x1_67), (0, .ref q0)]) hx hb dX1_clearTable_67 hl (k := 1) rfl (by rw [ex1_67]; rfl) (by decide) rfl (fun ls hl => ?_)
            refine lv_goto (tgt := 51) hx hb dX1_clearTable_70 (by decide) ?_
            exact ih51 x1_67 z_spoons_66 _ _ _ hf hP hD hS (lv_sub hl [1, 0] rfl)
      exact hL51 _ (0 : Int32) z_spoons _ _ _ hf hP hD hS (lv_sub hl [1, 0] rfl)
    have hL31 : ∀ (n : Nat) (x1_31 : Int32) (z_left_31 : Nat → Int32) (H : Heap) (locs : List Loc) (ls : Array Slot), it2 (X1_clearTable_S31 z_spoons z_brought_29 z_health_29) n x1_31 z_left_31 = some r → va_P D vwCl [(q0, oB 1 [.ref q_weights, .ref q_brought, .ref q_left, .ref q_spoons, .ref q_health, .int z_eaten, .int z_year, .int z_lot]), (q_brought, aI cy 6 z_brought_29), (q_left, aI cy 4 z_left_31), (q_spoons, aI cy 24 z_spoons), (q_health, aI cy 6 z_health_29)] H → va_D A [(q0, oB 1 [.ref q_weights, .ref q_brought, .ref q_left, .ref q_spoons, .ref q_health, .int z_eaten, .int z_year, .int z_lot]), (q_brought, aI cy 6 z_brought_29), (q_left, aI cy 4 z_left_31), (q_spoons, aI cy 24 z_spoons), (q_health, aI cy 6 z_health_29)] → va_S A s.heap H locs → lv_has ls 2 [(0, .ref q0), (1, .int x1_31)] → W p l e rmX1_clearTable s m args below meth c H locs 0 0 Q (F0 m 31 ls []) := by
      intro n
      induction n with
      | zero => intro x1_31 z_left_31 H locs ls hf; exact absurd hf (by simp [it2])
      | succ n ih31 =>
        intro x1_31 z_left_31 H locs ls hf hP hD hS hl
        have hf : X1_clearTable_S31 z_spoons z_brought_29 z_health_29 (it2 (X1_clearTable_S31 z_spoons z_brought_29 z_health_29) n) x1_31 z_left_31 = some r := hf
        generalize it2 (X1_clearTable_S31 z_spoons z_brought_29 z_health_29) n = self_31 at hf ih31
        unfold X1_clearTable_S31 at hf
        refine lv_iload_n hx hb dX1_clearTable_31 rfl (lv_at hl 1 rfl) ?_
        refine lv_iconst (v := 4) hx hb dX1_clearTable_32 (by decide) ?_
        refine lv_icmp_ge (tgt := 49) hx hb dX1_clearTable_33 (by decide) (fun hc_33 => ?_) (fun hc_33 => ?_)
        · have hf := it_t hf hc_33
          exact hJ49 z_left_31 _ _ _ hf hP hD hS (lv_sub hl [0] rfl)
        · have hf := it_f hf hc_33
          refine lv_aload_n hx hb dX1_clearTable_36 rfl (lv_at hl 0 rfl) ?_
          refine va_get (D := D) (ci := 1) (v := .ref q_left) (C := RX1) (T := TX1) (N := 8) hx hb hts kc1 hown hK hP 0 rfl rfl 2 (by decide) kw3 (fun _ h9 => h9) rfl dX1_clearTable_37 ?_
          refine lv_iload_n hx hb dX1_clearTable_40 rfl (lv_at hl 1 rfl) ?_
          refine lv_iconst (v := 0) hx hb dX1_clearTable_41 (by decide) ?_
          obtain ⟨hg_42, hf⟩ := gd_some hf
          refine va_iast hx hb hK hP hD hS 2 0 rfl rfl hg_42 dX1_clearTable_42 (fun H locs hP hD hS => ?_)
          obtain ⟨z_left_42, ez_left_42⟩ : ∃ y : Nat → Int32, y = upd z_left_31 x1_31.toNatClampNeg (0 : Int32) := ⟨_, rfl⟩
          have hf := lets_at hf ez_left_42
          rw [← ez_left_42] at hP hD
          have hP : va_P D vwCl [(q0, oB 1 [.ref q_weights, .ref q_brought, .ref q_left, .ref q_spoons, .ref q_health, .int z_eaten, .int z_year, .int z_lot]), (q_brought, aI cy 6 z_brought_29), (q_left, aI cy 4 z_left_42), (q_spoons, aI cy 24 z_spoons), (q_health, aI cy 6 z_health_29)] H := hP
          have hD : va_D A [(q0, oB 1 [.ref q_weights, .ref q_brought, .ref q_left, .ref q_spoons, .ref q_health, .int z_eaten, .int z_year, .int z_lot]), (q_brought, aI cy 6 z_brought_29), (q_left, aI cy 4 z_left_42), (q_spoons, aI cy 24 z_spoons), (q_health, aI cy 6 z_health_29)] := hD
          obtain ⟨x1_43, ex1_43⟩ : ∃ y : Int32, y = x1_31 + (1 : Int32) := ⟨_, rfl⟩
          have hf := lets_at hf ex1_43
          refine lv_iinc (v := x1_43) (lv' := [(1, .int x1_43), (0, .ref q0)]) hx hb dX1_clearTable_43 hl (k := 1) rfl (by rw [ex1_43]; rfl) (by decide) rfl (fun ls hl => ?_)
          refine lv_goto (tgt := 31) hx hb dX1_clearTable_46 (by decide) ?_
          exact ih31 x1_43 z_left_42 _ _ _ hf hP hD hS (lv_sub hl [1, 0] rfl)
    exact hL31 _ (0 : Int32) z_left _ _ _ hf hP hD hS (lv_sub hl [1, 0] rfl)
  have hL2 : ∀ (n : Nat) (x1_2 : Int32) (z_brought_2 : Nat → Int32) (z_health_2 : Nat → Int32) (H : Heap) (locs : List Loc) (ls : Array Slot), it3 (X1_clearTable_S2 z_left z_spoons) n x1_2 z_brought_2 z_health_2 = some r → va_P D vwCl [(q0, oB 1 [.ref q_weights, .ref q_brought, .ref q_left, .ref q_spoons, .ref q_health, .int z_eaten, .int z_year, .int z_lot]), (q_brought, aI cy 6 z_brought_2), (q_left, aI cy 4 z_left), (q_spoons, aI cy 24 z_spoons), (q_health, aI cy 6 z_health_2)] H → va_D A [(q0, oB 1 [.ref q_weights, .ref q_brought, .ref q_left, .ref q_spoons, .ref q_health, .int z_eaten, .int z_year, .int z_lot]), (q_brought, aI cy 6 z_brought_2), (q_left, aI cy 4 z_left), (q_spoons, aI cy 24 z_spoons), (q_health, aI cy 6 z_health_2)] → va_S A s.heap H locs → lv_has ls 2 [(0, .ref q0), (1, .int x1_2)] → W p l e rmX1_clearTable s m args below meth c H locs 0 0 Q (F0 m 2 ls []) := by
    intro n
    induction n with
    | zero => intro x1_2 z_brought_2 z_health_2 H locs ls hf; exact absurd hf (by simp [it3])
    | succ n ih2 =>
      intro x1_2 z_brought_2 z_health_2 H locs ls hf hP hD hS hl
      have hf : X1_clearTable_S2 z_left z_spoons (it3 (X1_clearTable_S2 z_left z_spoons) n) x1_2 z_brought_2 z_health_2 = some r := hf
      generalize it3 (X1_clearTable_S2 z_left z_spoons) n = self_2 at hf ih2
      unfold X1_clearTable_S2 at hf
      refine lv_iload_n hx hb dX1_clearTable_2 rfl (lv_at hl 1 rfl) ?_
      refine lv_bipush (v := 6) hx hb dX1_clearTable_3 (by decide) ?_
      refine lv_icmp_ge (tgt := 29) hx hb dX1_clearTable_5 (by decide) (fun hc_5 => ?_) (fun hc_5 => ?_)
      · have hf := it_t hf hc_5
        exact hJ29 z_brought_2 z_health_2 _ _ _ hf hP hD hS (lv_sub hl [0] rfl)
      · have hf := it_f hf hc_5
        refine lv_aload_n hx hb dX1_clearTable_8 rfl (lv_at hl 0 rfl) ?_
        refine va_get (D := D) (ci := 1) (v := .ref q_brought) (C := RX1) (T := TX1) (N := 8) hx hb hts kc1 hown hK hP 0 rfl rfl 1 (by decide) kw4 (fun _ h9 => h9) rfl dX1_clearTable_9 ?_
        refine lv_iload_n hx hb dX1_clearTable_12 rfl (lv_at hl 1 rfl) ?_
        refine lv_bipush (v := -9) hx hb dX1_clearTable_13 (by decide) ?_
        obtain ⟨hg_15, hf⟩ := gd_some hf
        refine va_iast hx hb hK hP hD hS 1 0 rfl rfl hg_15 dX1_clearTable_15 (fun H locs hP hD hS => ?_)
        obtain ⟨z_brought_15, ez_brought_15⟩ : ∃ y : Nat → Int32, y = upd z_brought_2 x1_2.toNatClampNeg (-9 : Int32) := ⟨_, rfl⟩
        have hf := lets_at hf ez_brought_15
        rw [← ez_brought_15] at hP hD
        have hP : va_P D vwCl [(q0, oB 1 [.ref q_weights, .ref q_brought, .ref q_left, .ref q_spoons, .ref q_health, .int z_eaten, .int z_year, .int z_lot]), (q_brought, aI cy 6 z_brought_15), (q_left, aI cy 4 z_left), (q_spoons, aI cy 24 z_spoons), (q_health, aI cy 6 z_health_2)] H := hP
        have hD : va_D A [(q0, oB 1 [.ref q_weights, .ref q_brought, .ref q_left, .ref q_spoons, .ref q_health, .int z_eaten, .int z_year, .int z_lot]), (q_brought, aI cy 6 z_brought_15), (q_left, aI cy 4 z_left), (q_spoons, aI cy 24 z_spoons), (q_health, aI cy 6 z_health_2)] := hD
        refine lv_aload_n hx hb dX1_clearTable_16 rfl (lv_at hl 0 rfl) ?_
        refine va_get (D := D) (ci := 1) (v := .ref q_health) (C := RX1) (T := TX1) (N := 8) hx hb hts kc1 hown hK hP 0 rfl rfl 4 (by decide) kw5 (fun _ h9 => h9) rfl dX1_clearTable_17 ?_
        refine lv_iload_n hx hb dX1_clearTable_20 rfl (lv_at hl 1 rfl) ?_
        refine lv_iconst (v := 0) hx hb dX1_clearTable_21 (by decide) ?_
        obtain ⟨hg_22, hf⟩ := gd_some hf
        refine va_iast hx hb hK hP hD hS 4 0 rfl rfl hg_22 dX1_clearTable_22 (fun H locs hP hD hS => ?_)
        obtain ⟨z_health_22, ez_health_22⟩ : ∃ y : Nat → Int32, y = upd z_health_2 x1_2.toNatClampNeg (0 : Int32) := ⟨_, rfl⟩
        have hf := lets_at hf ez_health_22
        rw [← ez_health_22] at hP hD
        have hP : va_P D vwCl [(q0, oB 1 [.ref q_weights, .ref q_brought, .ref q_left, .ref q_spoons, .ref q_health, .int z_eaten, .int z_year, .int z_lot]), (q_brought, aI cy 6 z_brought_15), (q_left, aI cy 4 z_left), (q_spoons, aI cy 24 z_spoons), (q_health, aI cy 6 z_health_22)] H := hP
        have hD : va_D A [(q0, oB 1 [.ref q_weights, .ref q_brought, .ref q_left, .ref q_spoons, .ref q_health, .int z_eaten, .int z_year, .int z_lot]), (q_brought, aI cy 6 z_brought_15), (q_left, aI cy 4 z_left), (q_spoons, aI cy 24 z_spoons), (q_health, aI cy 6 z_health_22)] := hD
        obtain ⟨x1_23, ex1_23⟩ : ∃ y : Int32, y = x1_2 + (1 : Int32) := ⟨_, rfl⟩
        have hf := lets_at hf ex1_23
        refine lv_iinc (v := x1_23) (lv' := [(1, .int x1_23), (0, .ref q0)]) hx hb dX1_clearTable_23 hl (k := 1) rfl (by rw [ex1_23]; rfl) (by decide) rfl (fun ls hl => ?_)
        refine lv_goto (tgt := 2) hx hb dX1_clearTable_26 (by decide) ?_
        exact ih2 x1_23 z_brought_15 z_health_22 _ _ _ hf hP hD hS (lv_sub hl [1, 0] rfl)
  exact hL2 _ (0 : Int32) z_brought z_health _ _ _ hf hP hD hS (lv_sub hl [1, 0] rfl)

def fX1_begin (z_weights_cells : Nat → Int32) (z_brought : Nat → Int32) (z_left : Nat → Int32) (z_spoons : Nat → Int32) (z_health : Nat → Int32) (zb_cells : Nat → Int32) : Option (Int32 × Int32 × (Nat → Int32) × (Nat → Int32) × (Nat → Int32) × (Nat → Int32) × (Nat → Int32)) := (fX4_copyFrom z_weights_cells zb_cells).bind (fun r_5 => (fX1_clearTable z_brought z_left z_spoons z_health).bind (fun r_9 => some (r_9.1, (0 : Int32), r_5, r_9.2.1, r_9.2.2.1, r_9.2.2.2.1, r_9.2.2.2.2)))
abbrev rmX1_begin : Room := { frames := 2, cells := 0, slots := 0, locals := 81 }
set_option maxHeartbeats 4000000 in
set_option maxRecDepth 100000 in
theorem ktX1_begin (l : Launch) (D : va_G) (cy : Nat → ClassId) (q0 : Nat) (q_weights : Nat) (q_brought : Nat) (q_left : Nat) (q_spoons : Nat) (q_health : Nat) (q_weights_cells : Nat) (qb : Nat) (qb_cells : Nat) (z_eaten : Int32) (z_year : Int32) (z_lot : Int32) (z_weights_cells : Nat → Int32) (z_brought : Nat → Int32) (z_left : Nat → Int32) (z_spoons : Nat → Int32) (z_health : Nat → Int32) (zb_cells : Nat → Int32) (r : Int32 × Int32 × (Nat → Int32) × (Nat → Int32) × (Nat → Int32) × (Nat → Int32) × (Nat → Int32)) (hf : fX1_begin z_weights_cells z_brought z_left z_spoons z_health zb_cells = some r) : CtV l yX1_begin wsX1_begin rmX1_begin D cy [.ref q0, .ref qb] [(q0, oB 1 [.ref q_weights, .ref q_brought, .ref q_left, .ref q_spoons, .ref q_health, .int z_eaten, .int z_year, .int z_lot]), (q_weights, oB 4 [.ref q_weights_cells]), (q_weights_cells, aI cy 24 z_weights_cells), (q_brought, aI cy 6 z_brought), (q_left, aI cy 4 z_left), (q_spoons, aI cy 24 z_spoons), (q_health, aI cy 6 z_health), (qb, oB 4 [.ref qb_cells]), (qb_cells, aI cy 24 zb_cells)] [(q0, oB 1 [.ref q_weights, .ref q_brought, .ref q_left, .ref q_spoons, .ref q_health, .int r.1, .int r.2.1, .int z_lot]), (q_weights, oB 4 [.ref q_weights_cells]), (q_weights_cells, aI cy 24 r.2.2.1), (q_brought, aI cy 6 r.2.2.2.1), (q_left, aI cy 4 r.2.2.2.2.1), (q_spoons, aI cy 24 r.2.2.2.2.2.1), (q_health, aI cy 6 r.2.2.2.2.2.2), (qb, oB 4 [.ref qb_cells]), (qb_cells, aI cy 24 zb_cells)] := by
  refine Ct_ofV (cc := cX1_begin) (nL := 2) (by decide) rfl (Nat.le_of_ble_eq_true rfl) ?_
  intro p e s m args below meth c A Q hM hret hP hD hS ls hl
  obtain ⟨hx, hb, hml, hown, hts, hcx, hA, hsx⟩ := hM
  have hown : s.vm.findClass RX1 = some m.cls := hown
  have hK := hcx.1
  have hN := hcx.2
  have kw0 := hts (.fieldLink RX1 12 "EachBrings$Now" "weights" "LEachBrings$Weights;") (List.mem_of_getElem? (i := 1) rfl)
  have kc1 : ∀ w ∈ wsX10, w ∈ wsX1_begin := fun _ h => List.mem_cons_of_mem _ (List.mem_append_left _ (List.mem_append_right _ h))
  have kw2 := hts (.initialized RX4) (List.mem_of_getElem? (i := 4) rfl)
  have kw3 := hts (.instanceMethod yX4_copyFrom) (List.mem_of_getElem? (i := 3) rfl)
  have kw4 := hts (.selects RX4 yX4_copyFrom yX4_copyFrom) (List.mem_of_getElem? (i := 5) rfl)
  have kw5 := hts (.fieldLink RX1 35 "EachBrings$Now" "year" "I") (List.mem_of_getElem? (i := 2) rfl)
  have hl : lv_has ls 2 [(0, .ref q0), (1, .ref qb)] := hl
  have hret' : ∀ (pc : Nat) (ls : Array Slot) (H : Heap) (locs : List Loc) (w0 : Int32) (w1 : Int32) (w2 : Nat → Int32) (w3 : Nat → Int32) (w4 : Nat → Int32) (w5 : Nat → Int32) (w6 : Nat → Int32), decode cX1_begin pc = .ok (.return_, 1) → some (w0, w1, w2, w3, w4, w5, w6) = some r → va_P D vwCl [(q0, oB 1 [.ref q_weights, .ref q_brought, .ref q_left, .ref q_spoons, .ref q_health, .int w0, .int w1, .int z_lot]), (q_weights, oB 4 [.ref q_weights_cells]), (q_weights_cells, aI cy 24 w2), (q_brought, aI cy 6 w3), (q_left, aI cy 4 w4), (q_spoons, aI cy 24 w5), (q_health, aI cy 6 w6), (qb, oB 4 [.ref qb_cells]), (qb_cells, aI cy 24 zb_cells)] H → va_D A [(q0, oB 1 [.ref q_weights, .ref q_brought, .ref q_left, .ref q_spoons, .ref q_health, .int w0, .int w1, .int z_lot]), (q_weights, oB 4 [.ref q_weights_cells]), (q_weights_cells, aI cy 24 w2), (q_brought, aI cy 6 w3), (q_left, aI cy 4 w4), (q_spoons, aI cy 24 w5), (q_health, aI cy 6 w6), (qb, oB 4 [.ref qb_cells]), (qb_cells, aI cy 24 zb_cells)] → va_S A s.heap H locs → W p l e rmX1_begin s m args below meth c H locs 0 0 Q (F0 m pc ls []) := by
    intro pc ls H locs w0 w1 w2 w3 w4 w5 w6 hd he hP hD hS
    cases he
    exact hret _ _ _ _ hd hP hD hS
  unfold fX1_begin at hf
  refine lv_aload_n hx hb dX1_begin_0 rfl (lv_at hl 0 rfl) ?_
  refine va_get (D := D) (ci := 1) (v := .ref q_weights) (C := RX1) (T := TX1) (N := 8) hx hb hts kc1 hown hK hP 0 rfl rfl 0 (by decide) kw0 (fun _ h9 => h9) rfl dX1_begin_1 ?_
  refine lv_aload_n hx hb dX1_begin_4 rfl (lv_at hl 1 rfl) ?_
  obtain ⟨r_5, hr_5, hf⟩ := bd_some hf
  refine cl_v (wc := [(q_weights, oB 4 [.ref q_weights_cells]), (q_weights_cells, aI cy 24 z_weights_cells), (qb, oB 4 [.ref qb_cells]), (qb_cells, aI cy 24 zb_cells)]) (w1 := [(q_weights, oB 4 [.ref q_weights_cells]), (q_weights_cells, aI cy 24 r_5), (qb, oB 4 [.ref qb_cells]), (qb_cells, aI cy 24 zb_cells)]) (wr := [(q0, oB 1 [.ref q_weights, .ref q_brought, .ref q_left, .ref q_spoons, .ref q_health, .int z_eaten, .int z_year, .int z_lot]), (q_brought, aI cy 6 z_brought), (q_left, aI cy 4 z_left), (q_spoons, aI cy 24 z_spoons), (q_health, aI cy 6 z_health)]) (w2 := [(q0, oB 1 [.ref q_weights, .ref q_brought, .ref q_left, .ref q_spoons, .ref q_health, .int z_eaten, .int z_year, .int z_lot]), (q_weights, oB 4 [.ref q_weights_cells]), (q_weights_cells, aI cy 24 r_5), (q_brought, aI cy 6 z_brought), (q_left, aI cy 4 z_left), (q_spoons, aI cy 24 z_spoons), (q_health, aI cy 6 z_health), (qb, oB 4 [.ref qb_cells]), (qb_cells, aI cy 24 zb_cells)]) (va_runVN (C := RX4) (host := "EachBrings") (As := [.ref qb]) (rest := []) ⟨hx, hb, hml, hown, hts⟩ (ktX4_copyFrom l D cy q_weights q_weights_cells qb qb_cells z_weights_cells zb_cells r_5 hr_5 _) ⟨va_cnB 1 hts gX1_begin_X4_copyFrom_n45 rfl rfl rfl (hN.at 42 rfl) kw2 (by decide +kernel) ⟨Nat.le_of_ble_eq_true rfl, Nat.le_of_ble_eq_true rfl⟩, kw3, kw4⟩ (pre_V (wc := [(q_weights, oB 4 [.ref q_weights_cells]), (q_weights_cells, aI cy 24 z_weights_cells), (qb, oB 4 [.ref qb_cells]), (qb_cells, aI cy 24 zb_cells)]) (ci := 4) hcx hsx hS hA hP hD [1, 2, 7, 8] rfl (by decide) rfl rfl) rfl rfl hl.1 rfl (lv_room (Nat.le_of_ble_eq_true rfl)) dX1_begin_5 ⟨Nat.zero_le _, Nat.zero_le _⟩) hP hD hS hA [1, 2, 7, 8] [0, 3, 4, 5, 6] [0, 5, 6, 1, 2, 3, 4, 7, 8] rfl rfl (by decide) (by decide) (by decide) rfl (fun H locs hP hD hS => ?_)
  refine lv_aload_n hx hb dX1_begin_8 rfl (lv_at hl 0 rfl) ?_
  obtain ⟨r_9, hr_9, hf⟩ := bd_some hf
  refine cl_v (wc := [(q0, oB 1 [.ref q_weights, .ref q_brought, .ref q_left, .ref q_spoons, .ref q_health, .int z_eaten, .int z_year, .int z_lot]), (q_brought, aI cy 6 z_brought), (q_left, aI cy 4 z_left), (q_spoons, aI cy 24 z_spoons), (q_health, aI cy 6 z_health)]) (w1 := [(q0, oB 1 [.ref q_weights, .ref q_brought, .ref q_left, .ref q_spoons, .ref q_health, .int r_9.1, .int z_year, .int z_lot]), (q_brought, aI cy 6 r_9.2.1), (q_left, aI cy 4 r_9.2.2.1), (q_spoons, aI cy 24 r_9.2.2.2.1), (q_health, aI cy 6 r_9.2.2.2.2)]) (wr := [(q_weights, oB 4 [.ref q_weights_cells]), (q_weights_cells, aI cy 24 r_5), (qb, oB 4 [.ref qb_cells]), (qb_cells, aI cy 24 zb_cells)]) (w2 := [(q0, oB 1 [.ref q_weights, .ref q_brought, .ref q_left, .ref q_spoons, .ref q_health, .int r_9.1, .int z_year, .int z_lot]), (q_weights, oB 4 [.ref q_weights_cells]), (q_weights_cells, aI cy 24 r_5), (q_brought, aI cy 6 r_9.2.1), (q_left, aI cy 4 r_9.2.2.1), (q_spoons, aI cy 24 r_9.2.2.2.1), (q_health, aI cy 6 r_9.2.2.2.2), (qb, oB 4 [.ref qb_cells]), (qb_cells, aI cy 24 zb_cells)]) (va_runV (As := []) (rest := []) ⟨hx, hb, hml, hown, hts⟩ (ktX1_clearTable l D cy q0 q_weights q_brought q_left q_spoons q_health z_eaten z_year z_lot z_brought z_left z_spoons z_health r_9 hr_9 _) (cwV 0 hts gX1_begin_X1_clearTable rfl rfl rfl (by decide +kernel) ⟨Nat.le_of_ble_eq_true rfl, Nat.le_of_ble_eq_true rfl⟩) (pre_V (wc := [(q0, oB 1 [.ref q_weights, .ref q_brought, .ref q_left, .ref q_spoons, .ref q_health, .int z_eaten, .int z_year, .int z_lot]), (q_brought, aI cy 6 z_brought), (q_left, aI cy 4 z_left), (q_spoons, aI cy 24 z_spoons), (q_health, aI cy 6 z_health)]) (ci := 1) hcx hsx hS hA hP hD [0, 3, 4, 5, 6] rfl (by decide) rfl rfl) rfl rfl hl.1 rfl (lv_room (Nat.le_of_ble_eq_true rfl)) dX1_begin_9 ⟨Nat.zero_le _, Nat.zero_le _⟩) hP hD hS hA [0, 3, 4, 5, 6] [1, 2, 7, 8] [4, 0, 1, 5, 6, 7, 8, 2, 3] rfl rfl (by decide) (by decide) (by decide) rfl (fun H locs hP hD hS => ?_)
  refine lv_aload_n hx hb dX1_begin_12 rfl (lv_at hl 0 rfl) ?_
  refine lv_iconst (v := 0) hx hb dX1_begin_13 (by decide) ?_
  refine va_put (D := D) (ci := 1) (v := .int (0 : Int32)) (ty := .int) (C := RX1) (T := TX1) (N := 8) hx hb hts kc1 tyX1 tyX1_ok nmX1 hown hK hP hD hS 0 rfl rfl 6 (by decide) kw5 (fun _ h9 => h9) rfl pfI rfl rfl (Nat.le_of_ble_eq_true rfl) dX1_begin_14 (fun H locs hP hD hS => ?_)
  have hP : va_P D vwCl [(q0, oB 1 [.ref q_weights, .ref q_brought, .ref q_left, .ref q_spoons, .ref q_health, .int r_9.1, .int (0 : Int32), .int z_lot]), (q_weights, oB 4 [.ref q_weights_cells]), (q_weights_cells, aI cy 24 r_5), (q_brought, aI cy 6 r_9.2.1), (q_left, aI cy 4 r_9.2.2.1), (q_spoons, aI cy 24 r_9.2.2.2.1), (q_health, aI cy 6 r_9.2.2.2.2), (qb, oB 4 [.ref qb_cells]), (qb_cells, aI cy 24 zb_cells)] H := hP
  have hD : va_D A [(q0, oB 1 [.ref q_weights, .ref q_brought, .ref q_left, .ref q_spoons, .ref q_health, .int r_9.1, .int (0 : Int32), .int z_lot]), (q_weights, oB 4 [.ref q_weights_cells]), (q_weights_cells, aI cy 24 r_5), (q_brought, aI cy 6 r_9.2.1), (q_left, aI cy 4 r_9.2.2.1), (q_spoons, aI cy 24 r_9.2.2.2.1), (q_health, aI cy 6 r_9.2.2.2.2), (qb, oB 4 [.ref qb_cells]), (qb_cells, aI cy 24 zb_cells)] := hD
  exact hret' _ _ _ _ _ _ _ _ _ _ _ dX1_begin_17 hf hP hD hS

def fX1_copyFrom (z_weights_cells : Nat → Int32) (z_brought : Nat → Int32) (z_left : Nat → Int32) (z_spoons : Nat → Int32) (z_health : Nat → Int32) (zb_eaten : Int32) (zb_year : Int32) (zb_lot : Int32) (zb_weights_cells : Nat → Int32) (zb_brought : Nat → Int32) (zb_left : Nat → Int32) (zb_spoons : Nat → Int32) (zb_health : Nat → Int32) : Option (Int32 × Int32 × Int32 × (Nat → Int32) × (Nat → Int32) × (Nat → Int32) × (Nat → Int32) × (Nat → Int32)) := (fX4_copyFrom z_weights_cells zb_weights_cells).bind (fun r_8 => lets (va_cpy zb_brought z_brought 0 0 6) (fun z_brought_23 => lets (va_cpy zb_left z_left 0 0 4) (fun z_left_37 => lets (va_cpy zb_spoons z_spoons 0 0 24) (fun z_spoons_55 => lets (va_cpy zb_health z_health 0 0 6) (fun z_health_70 => gd (isB zb_eaten) (some (zb_eaten, zb_year, zb_lot, r_8, z_brought_23, z_left_37, z_spoons_55, z_health_70)))))))
abbrev rmX1_copyFrom : Room := { frames := 2, cells := 0, slots := 0, locals := 81 }
set_option maxHeartbeats 4000000 in
set_option maxRecDepth 100000 in
theorem ktX1_copyFrom (l : Launch) (D : va_G) (cy : Nat → ClassId) (q0 : Nat) (q_weights : Nat) (q_brought : Nat) (q_left : Nat) (q_spoons : Nat) (q_health : Nat) (q_weights_cells : Nat) (qb : Nat) (qb_weights : Nat) (qb_brought : Nat) (qb_left : Nat) (qb_spoons : Nat) (qb_health : Nat) (qb_weights_cells : Nat) (z_eaten : Int32) (z_year : Int32) (z_lot : Int32) (z_weights_cells : Nat → Int32) (z_brought : Nat → Int32) (z_left : Nat → Int32) (z_spoons : Nat → Int32) (z_health : Nat → Int32) (zb_eaten : Int32) (zb_year : Int32) (zb_lot : Int32) (zb_weights_cells : Nat → Int32) (zb_brought : Nat → Int32) (zb_left : Nat → Int32) (zb_spoons : Nat → Int32) (zb_health : Nat → Int32) (r : Int32 × Int32 × Int32 × (Nat → Int32) × (Nat → Int32) × (Nat → Int32) × (Nat → Int32) × (Nat → Int32)) (hf : fX1_copyFrom z_weights_cells z_brought z_left z_spoons z_health zb_eaten zb_year zb_lot zb_weights_cells zb_brought zb_left zb_spoons zb_health = some r) : CtV l yX1_copyFrom wsX1_copyFrom rmX1_copyFrom D cy [.ref q0, .ref qb] [(q0, oB 1 [.ref q_weights, .ref q_brought, .ref q_left, .ref q_spoons, .ref q_health, .int z_eaten, .int z_year, .int z_lot]), (q_weights, oB 4 [.ref q_weights_cells]), (q_weights_cells, aI cy 24 z_weights_cells), (q_brought, aI cy 6 z_brought), (q_left, aI cy 4 z_left), (q_spoons, aI cy 24 z_spoons), (q_health, aI cy 6 z_health), (qb, oB 1 [.ref qb_weights, .ref qb_brought, .ref qb_left, .ref qb_spoons, .ref qb_health, .int zb_eaten, .int zb_year, .int zb_lot]), (qb_weights, oB 4 [.ref qb_weights_cells]), (qb_weights_cells, aI cy 24 zb_weights_cells), (qb_brought, aI cy 6 zb_brought), (qb_left, aI cy 4 zb_left), (qb_spoons, aI cy 24 zb_spoons), (qb_health, aI cy 6 zb_health)] [(q0, oB 1 [.ref q_weights, .ref q_brought, .ref q_left, .ref q_spoons, .ref q_health, .int r.1, .int r.2.1, .int r.2.2.1]), (q_weights, oB 4 [.ref q_weights_cells]), (q_weights_cells, aI cy 24 r.2.2.2.1), (q_brought, aI cy 6 r.2.2.2.2.1), (q_left, aI cy 4 r.2.2.2.2.2.1), (q_spoons, aI cy 24 r.2.2.2.2.2.2.1), (q_health, aI cy 6 r.2.2.2.2.2.2.2), (qb, oB 1 [.ref qb_weights, .ref qb_brought, .ref qb_left, .ref qb_spoons, .ref qb_health, .int zb_eaten, .int zb_year, .int zb_lot]), (qb_weights, oB 4 [.ref qb_weights_cells]), (qb_weights_cells, aI cy 24 zb_weights_cells), (qb_brought, aI cy 6 zb_brought), (qb_left, aI cy 4 zb_left), (qb_spoons, aI cy 24 zb_spoons), (qb_health, aI cy 6 zb_health)] := by
  refine Ct_ofV (cc := cX1_copyFrom) (nL := 2) (by decide) rfl (Nat.le_of_ble_eq_true rfl) ?_
  intro p e s m args below meth c A Q hM hret hP hD hS ls hl
  obtain ⟨hx, hb, hml, hown, hts, hcx, hA, hsx⟩ := hM
  have hown : s.vm.findClass RX1 = some m.cls := hown
  have hK := hcx.1
  have hN := hcx.2
  have kw0 := hts (.fieldLink RX1 12 "EachBrings$Now" "weights" "LEachBrings$Weights;") (List.mem_of_getElem? (i := 1) rfl)
  have kc1 : ∀ w ∈ wsX10, w ∈ wsX1_copyFrom := fun _ h => List.mem_cons_of_mem _ (List.mem_append_left _ (List.mem_append_right _ h))
  have kw2 := hts (.initialized RX4) (List.mem_of_getElem? (i := 14) rfl)
  have kw3 := hts (.instanceMethod yX4_copyFrom) (List.mem_of_getElem? (i := 13) rfl)
  have kw4 := hts (.selects RX4 yX4_copyFrom yX4_copyFrom) (List.mem_of_getElem? (i := 15) rfl)
  have kw5 := hts (.fieldLink RX1 18 "EachBrings$Now" "brought" "[I") (List.mem_of_getElem? (i := 2) rfl)
  have kw6 := hts (.methodLink RX1 49 arraycopyName) (List.mem_of_getElem? (i := 3) rfl)
  have kw7 := hts (.native arraycopyName) (List.mem_of_getElem? (i := 4) rfl)
  have kw8 := hts (.static arraycopyName) (List.mem_of_getElem? (i := 5) rfl)
  have kw9 := hts (.initialized "java/lang/System") (List.mem_of_getElem? (i := 6) rfl)
  have kw10 := hts (.fieldLink RX1 22 "EachBrings$Now" "left" "[I") (List.mem_of_getElem? (i := 7) rfl)
  have kw11 := hts (.fieldLink RX1 25 "EachBrings$Now" "spoons" "[I") (List.mem_of_getElem? (i := 8) rfl)
  have kw12 := hts (.fieldLink RX1 28 "EachBrings$Now" "health" "[I") (List.mem_of_getElem? (i := 9) rfl)
  have kw13 := hts (.fieldLink RX1 31 "EachBrings$Now" "eaten" "Z") (List.mem_of_getElem? (i := 10) rfl)
  have kw14 := hts (.fieldLink RX1 35 "EachBrings$Now" "year" "I") (List.mem_of_getElem? (i := 11) rfl)
  have kw15 := hts (.fieldLink RX1 39 "EachBrings$Now" "lot" "I") (List.mem_of_getElem? (i := 12) rfl)
  have hl : lv_has ls 2 [(0, .ref q0), (1, .ref qb)] := hl
  have hret' : ∀ (pc : Nat) (ls : Array Slot) (H : Heap) (locs : List Loc) (w0 : Int32) (w1 : Int32) (w2 : Int32) (w3 : Nat → Int32) (w4 : Nat → Int32) (w5 : Nat → Int32) (w6 : Nat → Int32) (w7 : Nat → Int32), decode cX1_copyFrom pc = .ok (.return_, 1) → some (w0, w1, w2, w3, w4, w5, w6, w7) = some r → va_P D vwCl [(q0, oB 1 [.ref q_weights, .ref q_brought, .ref q_left, .ref q_spoons, .ref q_health, .int w0, .int w1, .int w2]), (q_weights, oB 4 [.ref q_weights_cells]), (q_weights_cells, aI cy 24 w3), (q_brought, aI cy 6 w4), (q_left, aI cy 4 w5), (q_spoons, aI cy 24 w6), (q_health, aI cy 6 w7), (qb, oB 1 [.ref qb_weights, .ref qb_brought, .ref qb_left, .ref qb_spoons, .ref qb_health, .int zb_eaten, .int zb_year, .int zb_lot]), (qb_weights, oB 4 [.ref qb_weights_cells]), (qb_weights_cells, aI cy 24 zb_weights_cells), (qb_brought, aI cy 6 zb_brought), (qb_left, aI cy 4 zb_left), (qb_spoons, aI cy 24 zb_spoons), (qb_health, aI cy 6 zb_health)] H → va_D A [(q0, oB 1 [.ref q_weights, .ref q_brought, .ref q_left, .ref q_spoons, .ref q_health, .int w0, .int w1, .int w2]), (q_weights, oB 4 [.ref q_weights_cells]), (q_weights_cells, aI cy 24 w3), (q_brought, aI cy 6 w4), (q_left, aI cy 4 w5), (q_spoons, aI cy 24 w6), (q_health, aI cy 6 w7), (qb, oB 1 [.ref qb_weights, .ref qb_brought, .ref qb_left, .ref qb_spoons, .ref qb_health, .int zb_eaten, .int zb_year, .int zb_lot]), (qb_weights, oB 4 [.ref qb_weights_cells]), (qb_weights_cells, aI cy 24 zb_weights_cells), (qb_brought, aI cy 6 zb_brought), (qb_left, aI cy 4 zb_left), (qb_spoons, aI cy 24 zb_spoons), (qb_health, aI cy 6 zb_health)] → va_S A s.heap H locs → W p l e rmX1_copyFrom s m args below meth c H locs 0 0 Q (F0 m pc ls []) := by
    intro pc ls H locs w0 w1 w2 w3 w4 w5 w6 w7 hd he hP hD hS
    cases he
    exact hret _ _ _ _ hd hP hD hS
  unfold fX1_copyFrom at hf
  refine lv_aload_n hx hb dX1_copyFrom_0 rfl (lv_at hl 0 rfl) ?_
  refine va_get (D := D) (ci := 1) (v := .ref q_weights) (C := RX1) (T := TX1) (N := 8) hx hb hts kc1 hown hK hP 0 rfl rfl 0 (by decide) kw0 (fun _ h9 => h9) rfl dX1_copyFrom_1 ?_
  refine lv_aload_n hx hb dX1_copyFrom_4 rfl (lv_at hl 1 rfl) ?_
  refine va_get (D := D) (ci := 1) (v := .ref qb_weights) (C := RX1) (T := TX1) (N := 8) hx hb hts kc1 hown hK hP 7 rfl rfl 0 (by decide) kw0 (fun _ h9 => h9) rfl dX1_copyFrom_5 ?_
  obtain ⟨r_8, hr_8, hf⟩ := bd_some hf
  refine cl_v (wc := [(q_weights, oB 4 [.ref q_weights_cells]), (q_weights_cells, aI cy 24 z_weights_cells), (qb_weights, oB 4 [.ref qb_weights_cells]), (qb_weights_cells, aI cy 24 zb_weights_cells)]) (w1 := [(q_weights, oB 4 [.ref q_weights_cells]), (q_weights_cells, aI cy 24 r_8), (qb_weights, oB 4 [.ref qb_weights_cells]), (qb_weights_cells, aI cy 24 zb_weights_cells)]) (wr := [(q0, oB 1 [.ref q_weights, .ref q_brought, .ref q_left, .ref q_spoons, .ref q_health, .int z_eaten, .int z_year, .int z_lot]), (q_brought, aI cy 6 z_brought), (q_left, aI cy 4 z_left), (q_spoons, aI cy 24 z_spoons), (q_health, aI cy 6 z_health), (qb, oB 1 [.ref qb_weights, .ref qb_brought, .ref qb_left, .ref qb_spoons, .ref qb_health, .int zb_eaten, .int zb_year, .int zb_lot]), (qb_brought, aI cy 6 zb_brought), (qb_left, aI cy 4 zb_left), (qb_spoons, aI cy 24 zb_spoons), (qb_health, aI cy 6 zb_health)]) (w2 := [(q0, oB 1 [.ref q_weights, .ref q_brought, .ref q_left, .ref q_spoons, .ref q_health, .int z_eaten, .int z_year, .int z_lot]), (q_weights, oB 4 [.ref q_weights_cells]), (q_weights_cells, aI cy 24 r_8), (q_brought, aI cy 6 z_brought), (q_left, aI cy 4 z_left), (q_spoons, aI cy 24 z_spoons), (q_health, aI cy 6 z_health), (qb, oB 1 [.ref qb_weights, .ref qb_brought, .ref qb_left, .ref qb_spoons, .ref qb_health, .int zb_eaten, .int zb_year, .int zb_lot]), (qb_weights, oB 4 [.ref qb_weights_cells]), (qb_weights_cells, aI cy 24 zb_weights_cells), (qb_brought, aI cy 6 zb_brought), (qb_left, aI cy 4 zb_left), (qb_spoons, aI cy 24 zb_spoons), (qb_health, aI cy 6 zb_health)]) (va_runVN (C := RX4) (host := "EachBrings") (As := [.ref qb_weights]) (rest := []) ⟨hx, hb, hml, hown, hts⟩ (ktX4_copyFrom l D cy q_weights q_weights_cells qb_weights qb_weights_cells z_weights_cells zb_weights_cells r_8 hr_8 _) ⟨va_cnB 1 hts gX1_copyFrom_X4_copyFrom_n45 rfl rfl rfl (hN.at 42 rfl) kw2 (by decide +kernel) ⟨Nat.le_of_ble_eq_true rfl, Nat.le_of_ble_eq_true rfl⟩, kw3, kw4⟩ (pre_V (wc := [(q_weights, oB 4 [.ref q_weights_cells]), (q_weights_cells, aI cy 24 z_weights_cells), (qb_weights, oB 4 [.ref qb_weights_cells]), (qb_weights_cells, aI cy 24 zb_weights_cells)]) (ci := 4) hcx hsx hS hA hP hD [1, 2, 8, 9] rfl (by decide) rfl rfl) rfl rfl hl.1 rfl (lv_room (Nat.le_of_ble_eq_true rfl)) dX1_copyFrom_8 ⟨Nat.zero_le _, Nat.zero_le _⟩) hP hD hS hA [1, 2, 8, 9] [0, 3, 4, 5, 6, 7, 10, 11, 12, 13] [0, 10, 11, 1, 2, 3, 4, 5, 12, 13, 6, 7, 8, 9] rfl rfl (by decide) (by decide) (by decide) rfl (fun H locs hP hD hS => ?_)
  refine lv_aload_n hx hb dX1_copyFrom_11 rfl (lv_at hl 1 rfl) ?_
  refine va_get (D := D) (ci := 1) (v := .ref qb_brought) (C := RX1) (T := TX1) (N := 8) hx hb hts kc1 hown hK hP 7 rfl rfl 1 (by decide) kw5 (fun _ h9 => h9) rfl dX1_copyFrom_12 ?_
  refine lv_iconst (v := 0) hx hb dX1_copyFrom_15 (by decide) ?_
  refine lv_aload_n hx hb dX1_copyFrom_16 rfl (lv_at hl 0 rfl) ?_
  refine va_get (D := D) (ci := 1) (v := .ref q_brought) (C := RX1) (T := TX1) (N := 8) hx hb hts kc1 hown hK hP 0 rfl rfl 1 (by decide) kw5 (fun _ h9 => h9) rfl dX1_copyFrom_17 ?_
  refine lv_iconst (v := 0) hx hb dX1_copyFrom_20 (by decide) ?_
  refine lv_bipush (v := 6) hx hb dX1_copyFrom_21 (by decide) ?_
  refine va_copyi (ty := .int) hx hb (hml.trans hl.1.symm) hown kw6 kw7 kw8 kw9 hK hP hD hS 10 3 0 0 rfl rfl rfl rfl rfl (by decide) (by decide) (by decide) (by decide) (by decide) (fun _ _ => rfl) (Nat.le_of_ble_eq_true rfl) (by decide) dX1_copyFrom_23 (fun H locs hP hD hS => ?_)
  obtain ⟨z_brought_23, ez_brought_23⟩ : ∃ y : Nat → Int32, y = va_cpy zb_brought z_brought 0 0 6 := ⟨_, rfl⟩
  have hf := lets_at hf ez_brought_23
  have hP : va_P D vwCl [(q0, oB 1 [.ref q_weights, .ref q_brought, .ref q_left, .ref q_spoons, .ref q_health, .int z_eaten, .int z_year, .int z_lot]), (q_weights, oB 4 [.ref q_weights_cells]), (q_weights_cells, aI cy 24 r_8), (q_brought, aI cy 6 z_brought_23), (q_left, aI cy 4 z_left), (q_spoons, aI cy 24 z_spoons), (q_health, aI cy 6 z_health), (qb, oB 1 [.ref qb_weights, .ref qb_brought, .ref qb_left, .ref qb_spoons, .ref qb_health, .int zb_eaten, .int zb_year, .int zb_lot]), (qb_weights, oB 4 [.ref qb_weights_cells]), (qb_weights_cells, aI cy 24 zb_weights_cells), (qb_brought, aI cy 6 zb_brought), (qb_left, aI cy 4 zb_left), (qb_spoons, aI cy 24 zb_spoons), (qb_health, aI cy 6 zb_health)] H := by rw [ez_brought_23]; exact hP
  have hD : va_D A [(q0, oB 1 [.ref q_weights, .ref q_brought, .ref q_left, .ref q_spoons, .ref q_health, .int z_eaten, .int z_year, .int z_lot]), (q_weights, oB 4 [.ref q_weights_cells]), (q_weights_cells, aI cy 24 r_8), (q_brought, aI cy 6 z_brought_23), (q_left, aI cy 4 z_left), (q_spoons, aI cy 24 z_spoons), (q_health, aI cy 6 z_health), (qb, oB 1 [.ref qb_weights, .ref qb_brought, .ref qb_left, .ref qb_spoons, .ref qb_health, .int zb_eaten, .int zb_year, .int zb_lot]), (qb_weights, oB 4 [.ref qb_weights_cells]), (qb_weights_cells, aI cy 24 zb_weights_cells), (qb_brought, aI cy 6 zb_brought), (qb_left, aI cy 4 zb_left), (qb_spoons, aI cy 24 zb_spoons), (qb_health, aI cy 6 zb_health)] := by rw [ez_brought_23]; exact hD
  refine lv_aload_n hx hb dX1_copyFrom_26 rfl (lv_at hl 1 rfl) ?_
  refine va_get (D := D) (ci := 1) (v := .ref qb_left) (C := RX1) (T := TX1) (N := 8) hx hb hts kc1 hown hK hP 7 rfl rfl 2 (by decide) kw10 (fun _ h9 => h9) rfl dX1_copyFrom_27 ?_
  refine lv_iconst (v := 0) hx hb dX1_copyFrom_30 (by decide) ?_
  refine lv_aload_n hx hb dX1_copyFrom_31 rfl (lv_at hl 0 rfl) ?_
  refine va_get (D := D) (ci := 1) (v := .ref q_left) (C := RX1) (T := TX1) (N := 8) hx hb hts kc1 hown hK hP 0 rfl rfl 2 (by decide) kw10 (fun _ h9 => h9) rfl dX1_copyFrom_32 ?_
  refine lv_iconst (v := 0) hx hb dX1_copyFrom_35 (by decide) ?_
  refine lv_iconst (v := 4) hx hb dX1_copyFrom_36 (by decide) ?_
  refine va_copyi (ty := .int) hx hb (hml.trans hl.1.symm) hown kw6 kw7 kw8 kw9 hK hP hD hS 11 4 0 0 rfl rfl rfl rfl rfl (by decide) (by decide) (by decide) (by decide) (by decide) (fun _ _ => rfl) (Nat.le_of_ble_eq_true rfl) (by decide) dX1_copyFrom_37 (fun H locs hP hD hS => ?_)
  obtain ⟨z_left_37, ez_left_37⟩ : ∃ y : Nat → Int32, y = va_cpy zb_left z_left 0 0 4 := ⟨_, rfl⟩
  have hf := lets_at hf ez_left_37
  have hP : va_P D vwCl [(q0, oB 1 [.ref q_weights, .ref q_brought, .ref q_left, .ref q_spoons, .ref q_health, .int z_eaten, .int z_year, .int z_lot]), (q_weights, oB 4 [.ref q_weights_cells]), (q_weights_cells, aI cy 24 r_8), (q_brought, aI cy 6 z_brought_23), (q_left, aI cy 4 z_left_37), (q_spoons, aI cy 24 z_spoons), (q_health, aI cy 6 z_health), (qb, oB 1 [.ref qb_weights, .ref qb_brought, .ref qb_left, .ref qb_spoons, .ref qb_health, .int zb_eaten, .int zb_year, .int zb_lot]), (qb_weights, oB 4 [.ref qb_weights_cells]), (qb_weights_cells, aI cy 24 zb_weights_cells), (qb_brought, aI cy 6 zb_brought), (qb_left, aI cy 4 zb_left), (qb_spoons, aI cy 24 zb_spoons), (qb_health, aI cy 6 zb_health)] H := by rw [ez_left_37]; exact hP
  have hD : va_D A [(q0, oB 1 [.ref q_weights, .ref q_brought, .ref q_left, .ref q_spoons, .ref q_health, .int z_eaten, .int z_year, .int z_lot]), (q_weights, oB 4 [.ref q_weights_cells]), (q_weights_cells, aI cy 24 r_8), (q_brought, aI cy 6 z_brought_23), (q_left, aI cy 4 z_left_37), (q_spoons, aI cy 24 z_spoons), (q_health, aI cy 6 z_health), (qb, oB 1 [.ref qb_weights, .ref qb_brought, .ref qb_left, .ref qb_spoons, .ref qb_health, .int zb_eaten, .int zb_year, .int zb_lot]), (qb_weights, oB 4 [.ref qb_weights_cells]), (qb_weights_cells, aI cy 24 zb_weights_cells), (qb_brought, aI cy 6 zb_brought), (qb_left, aI cy 4 zb_left), (qb_spoons, aI cy 24 zb_spoons), (qb_health, aI cy 6 zb_health)] := by rw [ez_left_37]; exact hD
  refine lv_aload_n hx hb dX1_copyFrom_40 rfl (lv_at hl 1 rfl) ?_
  refine va_get (D := D) (ci := 1) (v := .ref qb_spoons) (C := RX1) (T := TX1) (N := 8) hx hb hts kc1 hown hK hP 7 rfl rfl 3 (by decide) kw11 (fun _ h9 => h9) rfl dX1_copyFrom_41 ?_
  refine lv_iconst (v := 0) hx hb dX1_copyFrom_44 (by decide) ?_
  refine lv_aload_n hx hb dX1_copyFrom_45 rfl (lv_at hl 0 rfl) ?_
  refine va_get (D := D) (ci := 1) (v := .ref q_spoons) (C := RX1) (T := TX1) (N := 8) hx hb hts kc1 hown hK hP 0 rfl rfl 3 (by decide) kw11 (fun _ h9 => h9) rfl dX1_copyFrom_46 ?_
  refine lv_iconst (v := 0) hx hb dX1_copyFrom_49 (by decide) ?_
  refine lv_aload_n hx hb dX1_copyFrom_50 rfl (lv_at hl 0 rfl) ?_
  refine va_get (D := D) (ci := 1) (v := .ref q_spoons) (C := RX1) (T := TX1) (N := 8) hx hb hts kc1 hown hK hP 0 rfl rfl 3 (by decide) kw11 (fun _ h9 => h9) rfl dX1_copyFrom_51 ?_
  refine va_alen (v := 24) hx hb hK hP 5 0 rfl rfl rfl dX1_copyFrom_54 ?_
  refine va_copyi (ty := .int) hx hb (hml.trans hl.1.symm) hown kw6 kw7 kw8 kw9 hK hP hD hS 12 5 0 0 rfl rfl rfl rfl rfl (by decide) (by decide) (by decide) (by decide) (by decide) (fun _ _ => rfl) (Nat.le_of_ble_eq_true rfl) (by decide) dX1_copyFrom_55 (fun H locs hP hD hS => ?_)
  obtain ⟨z_spoons_55, ez_spoons_55⟩ : ∃ y : Nat → Int32, y = va_cpy zb_spoons z_spoons 0 0 24 := ⟨_, rfl⟩
  have hf := lets_at hf ez_spoons_55
  have hP : va_P D vwCl [(q0, oB 1 [.ref q_weights, .ref q_brought, .ref q_left, .ref q_spoons, .ref q_health, .int z_eaten, .int z_year, .int z_lot]), (q_weights, oB 4 [.ref q_weights_cells]), (q_weights_cells, aI cy 24 r_8), (q_brought, aI cy 6 z_brought_23), (q_left, aI cy 4 z_left_37), (q_spoons, aI cy 24 z_spoons_55), (q_health, aI cy 6 z_health), (qb, oB 1 [.ref qb_weights, .ref qb_brought, .ref qb_left, .ref qb_spoons, .ref qb_health, .int zb_eaten, .int zb_year, .int zb_lot]), (qb_weights, oB 4 [.ref qb_weights_cells]), (qb_weights_cells, aI cy 24 zb_weights_cells), (qb_brought, aI cy 6 zb_brought), (qb_left, aI cy 4 zb_left), (qb_spoons, aI cy 24 zb_spoons), (qb_health, aI cy 6 zb_health)] H := by rw [ez_spoons_55]; exact hP
  have hD : va_D A [(q0, oB 1 [.ref q_weights, .ref q_brought, .ref q_left, .ref q_spoons, .ref q_health, .int z_eaten, .int z_year, .int z_lot]), (q_weights, oB 4 [.ref q_weights_cells]), (q_weights_cells, aI cy 24 r_8), (q_brought, aI cy 6 z_brought_23), (q_left, aI cy 4 z_left_37), (q_spoons, aI cy 24 z_spoons_55), (q_health, aI cy 6 z_health), (qb, oB 1 [.ref qb_weights, .ref qb_brought, .ref qb_left, .ref qb_spoons, .ref qb_health, .int zb_eaten, .int zb_year, .int zb_lot]), (qb_weights, oB 4 [.ref qb_weights_cells]), (qb_weights_cells, aI cy 24 zb_weights_cells), (qb_brought, aI cy 6 zb_brought), (qb_left, aI cy 4 zb_left), (qb_spoons, aI cy 24 zb_spoons), (qb_health, aI cy 6 zb_health)] := by rw [ez_spoons_55]; exact hD
  refine lv_aload_n hx hb dX1_copyFrom_58 rfl (lv_at hl 1 rfl) ?_
  refine va_get (D := D) (ci := 1) (v := .ref qb_health) (C := RX1) (T := TX1) (N := 8) hx hb hts kc1 hown hK hP 7 rfl rfl 4 (by decide) kw12 (fun _ h9 => h9) rfl dX1_copyFrom_59 ?_
  refine lv_iconst (v := 0) hx hb dX1_copyFrom_62 (by decide) ?_
  refine lv_aload_n hx hb dX1_copyFrom_63 rfl (lv_at hl 0 rfl) ?_
  refine va_get (D := D) (ci := 1) (v := .ref q_health) (C := RX1) (T := TX1) (N := 8) hx hb hts kc1 hown hK hP 0 rfl rfl 4 (by decide) kw12 (fun _ h9 => h9) rfl dX1_copyFrom_64 ?_
  refine lv_iconst (v := 0) hx hb dX1_copyFrom_67 (by decide) ?_
  refine lv_bipush (v := 6) hx hb dX1_copyFrom_68 (by decide) ?_
  refine va_copyi (ty := .int) hx hb (hml.trans hl.1.symm) hown kw6 kw7 kw8 kw9 hK hP hD hS 13 6 0 0 rfl rfl rfl rfl rfl (by decide) (by decide) (by decide) (by decide) (by decide) (fun _ _ => rfl) (Nat.le_of_ble_eq_true rfl) (by decide) dX1_copyFrom_70 (fun H locs hP hD hS => ?_)
  obtain ⟨z_health_70, ez_health_70⟩ : ∃ y : Nat → Int32, y = va_cpy zb_health z_health 0 0 6 := ⟨_, rfl⟩
  have hf := lets_at hf ez_health_70
  have hP : va_P D vwCl [(q0, oB 1 [.ref q_weights, .ref q_brought, .ref q_left, .ref q_spoons, .ref q_health, .int z_eaten, .int z_year, .int z_lot]), (q_weights, oB 4 [.ref q_weights_cells]), (q_weights_cells, aI cy 24 r_8), (q_brought, aI cy 6 z_brought_23), (q_left, aI cy 4 z_left_37), (q_spoons, aI cy 24 z_spoons_55), (q_health, aI cy 6 z_health_70), (qb, oB 1 [.ref qb_weights, .ref qb_brought, .ref qb_left, .ref qb_spoons, .ref qb_health, .int zb_eaten, .int zb_year, .int zb_lot]), (qb_weights, oB 4 [.ref qb_weights_cells]), (qb_weights_cells, aI cy 24 zb_weights_cells), (qb_brought, aI cy 6 zb_brought), (qb_left, aI cy 4 zb_left), (qb_spoons, aI cy 24 zb_spoons), (qb_health, aI cy 6 zb_health)] H := by rw [ez_health_70]; exact hP
  have hD : va_D A [(q0, oB 1 [.ref q_weights, .ref q_brought, .ref q_left, .ref q_spoons, .ref q_health, .int z_eaten, .int z_year, .int z_lot]), (q_weights, oB 4 [.ref q_weights_cells]), (q_weights_cells, aI cy 24 r_8), (q_brought, aI cy 6 z_brought_23), (q_left, aI cy 4 z_left_37), (q_spoons, aI cy 24 z_spoons_55), (q_health, aI cy 6 z_health_70), (qb, oB 1 [.ref qb_weights, .ref qb_brought, .ref qb_left, .ref qb_spoons, .ref qb_health, .int zb_eaten, .int zb_year, .int zb_lot]), (qb_weights, oB 4 [.ref qb_weights_cells]), (qb_weights_cells, aI cy 24 zb_weights_cells), (qb_brought, aI cy 6 zb_brought), (qb_left, aI cy 4 zb_left), (qb_spoons, aI cy 24 zb_spoons), (qb_health, aI cy 6 zb_health)] := by rw [ez_health_70]; exact hD
  refine lv_aload_n hx hb dX1_copyFrom_73 rfl (lv_at hl 0 rfl) ?_
  refine lv_aload_n hx hb dX1_copyFrom_74 rfl (lv_at hl 1 rfl) ?_
  refine va_get (D := D) (ci := 1) (v := .int zb_eaten) (C := RX1) (T := TX1) (N := 8) hx hb hts kc1 hown hK hP 7 rfl rfl 5 (by decide) kw13 (fun _ h9 => h9) rfl dX1_copyFrom_75 ?_
  obtain ⟨hg_78, hf⟩ := gd_some hf
  refine va_put (D := D) (ci := 1) (v := .int zb_eaten) (ty := .boolean) (C := RX1) (T := TX1) (N := 8) hx hb hts kc1 tyX1 tyX1_ok nmX1 hown hK hP hD hS 0 rfl rfl 5 (by decide) kw13 (fun _ h9 => h9) rfl pfZ (isB.nar hg_78) (isB.fit hg_78) (Nat.le_of_ble_eq_true rfl) dX1_copyFrom_78 (fun H locs hP hD hS => ?_)
  have hP : va_P D vwCl [(q0, oB 1 [.ref q_weights, .ref q_brought, .ref q_left, .ref q_spoons, .ref q_health, .int zb_eaten, .int z_year, .int z_lot]), (q_weights, oB 4 [.ref q_weights_cells]), (q_weights_cells, aI cy 24 r_8), (q_brought, aI cy 6 z_brought_23), (q_left, aI cy 4 z_left_37), (q_spoons, aI cy 24 z_spoons_55), (q_health, aI cy 6 z_health_70), (qb, oB 1 [.ref qb_weights, .ref qb_brought, .ref qb_left, .ref qb_spoons, .ref qb_health, .int zb_eaten, .int zb_year, .int zb_lot]), (qb_weights, oB 4 [.ref qb_weights_cells]), (qb_weights_cells, aI cy 24 zb_weights_cells), (qb_brought, aI cy 6 zb_brought), (qb_left, aI cy 4 zb_left), (qb_spoons, aI cy 24 zb_spoons), (qb_health, aI cy 6 zb_health)] H := hP
  have hD : va_D A [(q0, oB 1 [.ref q_weights, .ref q_brought, .ref q_left, .ref q_spoons, .ref q_health, .int zb_eaten, .int z_year, .int z_lot]), (q_weights, oB 4 [.ref q_weights_cells]), (q_weights_cells, aI cy 24 r_8), (q_brought, aI cy 6 z_brought_23), (q_left, aI cy 4 z_left_37), (q_spoons, aI cy 24 z_spoons_55), (q_health, aI cy 6 z_health_70), (qb, oB 1 [.ref qb_weights, .ref qb_brought, .ref qb_left, .ref qb_spoons, .ref qb_health, .int zb_eaten, .int zb_year, .int zb_lot]), (qb_weights, oB 4 [.ref qb_weights_cells]), (qb_weights_cells, aI cy 24 zb_weights_cells), (qb_brought, aI cy 6 zb_brought), (qb_left, aI cy 4 zb_left), (qb_spoons, aI cy 24 zb_spoons), (qb_health, aI cy 6 zb_health)] := hD
  refine lv_aload_n hx hb dX1_copyFrom_81 rfl (lv_at hl 0 rfl) ?_
  refine lv_aload_n hx hb dX1_copyFrom_82 rfl (lv_at hl 1 rfl) ?_
  refine va_get (D := D) (ci := 1) (v := .int zb_year) (C := RX1) (T := TX1) (N := 8) hx hb hts kc1 hown hK hP 7 rfl rfl 6 (by decide) kw14 (fun _ h9 => h9) rfl dX1_copyFrom_83 ?_
  refine va_put (D := D) (ci := 1) (v := .int zb_year) (ty := .int) (C := RX1) (T := TX1) (N := 8) hx hb hts kc1 tyX1 tyX1_ok nmX1 hown hK hP hD hS 0 rfl rfl 6 (by decide) kw14 (fun _ h9 => h9) rfl pfI rfl rfl (Nat.le_of_ble_eq_true rfl) dX1_copyFrom_86 (fun H locs hP hD hS => ?_)
  have hP : va_P D vwCl [(q0, oB 1 [.ref q_weights, .ref q_brought, .ref q_left, .ref q_spoons, .ref q_health, .int zb_eaten, .int zb_year, .int z_lot]), (q_weights, oB 4 [.ref q_weights_cells]), (q_weights_cells, aI cy 24 r_8), (q_brought, aI cy 6 z_brought_23), (q_left, aI cy 4 z_left_37), (q_spoons, aI cy 24 z_spoons_55), (q_health, aI cy 6 z_health_70), (qb, oB 1 [.ref qb_weights, .ref qb_brought, .ref qb_left, .ref qb_spoons, .ref qb_health, .int zb_eaten, .int zb_year, .int zb_lot]), (qb_weights, oB 4 [.ref qb_weights_cells]), (qb_weights_cells, aI cy 24 zb_weights_cells), (qb_brought, aI cy 6 zb_brought), (qb_left, aI cy 4 zb_left), (qb_spoons, aI cy 24 zb_spoons), (qb_health, aI cy 6 zb_health)] H := hP
  have hD : va_D A [(q0, oB 1 [.ref q_weights, .ref q_brought, .ref q_left, .ref q_spoons, .ref q_health, .int zb_eaten, .int zb_year, .int z_lot]), (q_weights, oB 4 [.ref q_weights_cells]), (q_weights_cells, aI cy 24 r_8), (q_brought, aI cy 6 z_brought_23), (q_left, aI cy 4 z_left_37), (q_spoons, aI cy 24 z_spoons_55), (q_health, aI cy 6 z_health_70), (qb, oB 1 [.ref qb_weights, .ref qb_brought, .ref qb_left, .ref qb_spoons, .ref qb_health, .int zb_eaten, .int zb_year, .int zb_lot]), (qb_weights, oB 4 [.ref qb_weights_cells]), (qb_weights_cells, aI cy 24 zb_weights_cells), (qb_brought, aI cy 6 zb_brought), (qb_left, aI cy 4 zb_left), (qb_spoons, aI cy 24 zb_spoons), (qb_health, aI cy 6 zb_health)] := hD
  refine lv_aload_n hx hb dX1_copyFrom_89 rfl (lv_at hl 0 rfl) ?_
  refine lv_aload_n hx hb dX1_copyFrom_90 rfl (lv_at hl 1 rfl) ?_
  refine va_get (D := D) (ci := 1) (v := .int zb_lot) (C := RX1) (T := TX1) (N := 8) hx hb hts kc1 hown hK hP 7 rfl rfl 7 (by decide) kw15 (fun _ h9 => h9) rfl dX1_copyFrom_91 ?_
  refine va_put (D := D) (ci := 1) (v := .int zb_lot) (ty := .int) (C := RX1) (T := TX1) (N := 8) hx hb hts kc1 tyX1 tyX1_ok nmX1 hown hK hP hD hS 0 rfl rfl 7 (by decide) kw15 (fun _ h9 => h9) rfl pfI rfl rfl (Nat.le_of_ble_eq_true rfl) dX1_copyFrom_94 (fun H locs hP hD hS => ?_)
  have hP : va_P D vwCl [(q0, oB 1 [.ref q_weights, .ref q_brought, .ref q_left, .ref q_spoons, .ref q_health, .int zb_eaten, .int zb_year, .int zb_lot]), (q_weights, oB 4 [.ref q_weights_cells]), (q_weights_cells, aI cy 24 r_8), (q_brought, aI cy 6 z_brought_23), (q_left, aI cy 4 z_left_37), (q_spoons, aI cy 24 z_spoons_55), (q_health, aI cy 6 z_health_70), (qb, oB 1 [.ref qb_weights, .ref qb_brought, .ref qb_left, .ref qb_spoons, .ref qb_health, .int zb_eaten, .int zb_year, .int zb_lot]), (qb_weights, oB 4 [.ref qb_weights_cells]), (qb_weights_cells, aI cy 24 zb_weights_cells), (qb_brought, aI cy 6 zb_brought), (qb_left, aI cy 4 zb_left), (qb_spoons, aI cy 24 zb_spoons), (qb_health, aI cy 6 zb_health)] H := hP
  have hD : va_D A [(q0, oB 1 [.ref q_weights, .ref q_brought, .ref q_left, .ref q_spoons, .ref q_health, .int zb_eaten, .int zb_year, .int zb_lot]), (q_weights, oB 4 [.ref q_weights_cells]), (q_weights_cells, aI cy 24 r_8), (q_brought, aI cy 6 z_brought_23), (q_left, aI cy 4 z_left_37), (q_spoons, aI cy 24 z_spoons_55), (q_health, aI cy 6 z_health_70), (qb, oB 1 [.ref qb_weights, .ref qb_brought, .ref qb_left, .ref qb_spoons, .ref qb_health, .int zb_eaten, .int zb_year, .int zb_lot]), (qb_weights, oB 4 [.ref qb_weights_cells]), (qb_weights_cells, aI cy 24 zb_weights_cells), (qb_brought, aI cy 6 zb_brought), (qb_left, aI cy 4 zb_left), (qb_spoons, aI cy 24 zb_spoons), (qb_health, aI cy 6 zb_health)] := hD
  exact hret' _ _ _ _ _ _ _ _ _ _ _ _ dX1_copyFrom_97 hf hP hD hS

def fX1_carry (z_brought : Nat → Int32) (z_left : Nat → Int32) (x1 : Int32) (x2 : Int32) (x3 : Int32) : Option ((Nat → Int32) × (Nat → Int32)) := gd (okx x1 6) (lets (upd z_brought x1.toNatClampNeg x2) (fun z_brought_6 => gd (okx x2 4) (gd (okx x2 4) (lets (upd z_left x2.toNatClampNeg ((z_left x2.toNatClampNeg) + x3)) (fun z_left_16 => some (z_brought_6, z_left_16))))))
abbrev rmX1_carry : Room := { frames := 0, cells := 0, slots := 0, locals := 0 }
set_option maxHeartbeats 4000000 in
set_option maxRecDepth 100000 in
theorem ktX1_carry (l : Launch) (D : va_G) (cy : Nat → ClassId) (q0 : Nat) (q_weights : Nat) (q_brought : Nat) (q_left : Nat) (q_spoons : Nat) (q_health : Nat) (z_eaten : Int32) (z_year : Int32) (z_lot : Int32) (z_brought : Nat → Int32) (z_left : Nat → Int32) (x1 : Int32) (x2 : Int32) (x3 : Int32) (r : (Nat → Int32) × (Nat → Int32)) (hf : fX1_carry z_brought z_left x1 x2 x3 = some r) : CtV l yX1_carry wsX1_carry rmX1_carry D cy [.ref q0, .int x1, .int x2, .int x3] [(q0, oB 1 [.ref q_weights, .ref q_brought, .ref q_left, .ref q_spoons, .ref q_health, .int z_eaten, .int z_year, .int z_lot]), (q_brought, aI cy 6 z_brought), (q_left, aI cy 4 z_left)] [(q0, oB 1 [.ref q_weights, .ref q_brought, .ref q_left, .ref q_spoons, .ref q_health, .int z_eaten, .int z_year, .int z_lot]), (q_brought, aI cy 6 r.1), (q_left, aI cy 4 r.2)] := by
  refine Ct_ofV (cc := cX1_carry) (nL := 4) (by decide) rfl (Nat.le_of_ble_eq_true rfl) ?_
  intro p e s m args below meth c A Q hM hret hP hD hS ls hl
  obtain ⟨hx, hb, hml, hown, hts, hcx, hA, hsx⟩ := hM
  have hown : s.vm.findClass RX1 = some m.cls := hown
  have hK := hcx.1
  have hN := hcx.2
  have kw0 := hts (.fieldLink RX1 18 "EachBrings$Now" "brought" "[I") (List.mem_of_getElem? (i := 1) rfl)
  have kc1 : ∀ w ∈ wsX10, w ∈ wsX1_carry := fun _ h => List.mem_cons_of_mem _ (List.mem_append_right _ h)
  have kw2 := hts (.fieldLink RX1 22 "EachBrings$Now" "left" "[I") (List.mem_of_getElem? (i := 2) rfl)
  have hl : lv_has ls 4 [(0, .ref q0), (1, .int x1), (2, .int x2), (3, .int x3)] := hl
  have hret' : ∀ (pc : Nat) (ls : Array Slot) (H : Heap) (locs : List Loc) (w0 : Nat → Int32) (w1 : Nat → Int32), decode cX1_carry pc = .ok (.return_, 1) → some (w0, w1) = some r → va_P D vwCl [(q0, oB 1 [.ref q_weights, .ref q_brought, .ref q_left, .ref q_spoons, .ref q_health, .int z_eaten, .int z_year, .int z_lot]), (q_brought, aI cy 6 w0), (q_left, aI cy 4 w1)] H → va_D A [(q0, oB 1 [.ref q_weights, .ref q_brought, .ref q_left, .ref q_spoons, .ref q_health, .int z_eaten, .int z_year, .int z_lot]), (q_brought, aI cy 6 w0), (q_left, aI cy 4 w1)] → va_S A s.heap H locs → W p l e rmX1_carry s m args below meth c H locs 0 0 Q (F0 m pc ls []) := by
    intro pc ls H locs w0 w1 hd he hP hD hS
    cases he
    exact hret _ _ _ _ hd hP hD hS
  unfold fX1_carry at hf
  refine lv_aload_n hx hb dX1_carry_0 rfl (lv_at hl 0 rfl) ?_
  refine va_get (D := D) (ci := 1) (v := .ref q_brought) (C := RX1) (T := TX1) (N := 8) hx hb hts kc1 hown hK hP 0 rfl rfl 1 (by decide) kw0 (fun _ h9 => h9) rfl dX1_carry_1 ?_
  refine lv_iload_n hx hb dX1_carry_4 rfl (lv_at hl 1 rfl) ?_
  refine lv_iload_n hx hb dX1_carry_5 rfl (lv_at hl 2 rfl) ?_
  obtain ⟨hg_6, hf⟩ := gd_some hf
  refine va_iast hx hb hK hP hD hS 1 0 rfl rfl hg_6 dX1_carry_6 (fun H locs hP hD hS => ?_)
  obtain ⟨z_brought_6, ez_brought_6⟩ : ∃ y : Nat → Int32, y = upd z_brought x1.toNatClampNeg x2 := ⟨_, rfl⟩
  have hf := lets_at hf ez_brought_6
  rw [← ez_brought_6] at hP hD
  have hP : va_P D vwCl [(q0, oB 1 [.ref q_weights, .ref q_brought, .ref q_left, .ref q_spoons, .ref q_health, .int z_eaten, .int z_year, .int z_lot]), (q_brought, aI cy 6 z_brought_6), (q_left, aI cy 4 z_left)] H := hP
  have hD : va_D A [(q0, oB 1 [.ref q_weights, .ref q_brought, .ref q_left, .ref q_spoons, .ref q_health, .int z_eaten, .int z_year, .int z_lot]), (q_brought, aI cy 6 z_brought_6), (q_left, aI cy 4 z_left)] := hD
  refine lv_aload_n hx hb dX1_carry_7 rfl (lv_at hl 0 rfl) ?_
  refine va_get (D := D) (ci := 1) (v := .ref q_left) (C := RX1) (T := TX1) (N := 8) hx hb hts kc1 hown hK hP 0 rfl rfl 2 (by decide) kw2 (fun _ h9 => h9) rfl dX1_carry_8 ?_
  refine lv_iload_n hx hb dX1_carry_11 rfl (lv_at hl 2 rfl) ?_
  refine lv_dup2_11 hx hb dX1_carry_12 rfl rfl ?_
  obtain ⟨hg_13, hf⟩ := gd_some hf
  refine va_iald hx hb hK hP 2 0 rfl rfl hg_13 dX1_carry_13 ?_
  refine lv_iload_n hx hb dX1_carry_14 rfl (lv_at hl 3 rfl) ?_
  refine lv_iadd hx hb dX1_carry_15 ?_
  obtain ⟨hg_16, hf⟩ := gd_some hf
  refine va_iast hx hb hK hP hD hS 2 0 rfl rfl hg_16 dX1_carry_16 (fun H locs hP hD hS => ?_)
  obtain ⟨z_left_16, ez_left_16⟩ : ∃ y : Nat → Int32, y = upd z_left x2.toNatClampNeg ((z_left x2.toNatClampNeg) + x3) := ⟨_, rfl⟩
  have hf := lets_at hf ez_left_16
  rw [← ez_left_16] at hP hD
  have hP : va_P D vwCl [(q0, oB 1 [.ref q_weights, .ref q_brought, .ref q_left, .ref q_spoons, .ref q_health, .int z_eaten, .int z_year, .int z_lot]), (q_brought, aI cy 6 z_brought_6), (q_left, aI cy 4 z_left_16)] H := hP
  have hD : va_D A [(q0, oB 1 [.ref q_weights, .ref q_brought, .ref q_left, .ref q_spoons, .ref q_health, .int z_eaten, .int z_year, .int z_lot]), (q_brought, aI cy 6 z_brought_6), (q_left, aI cy 4 z_left_16)] := hD
  exact hret' _ _ _ _ _ _ dX1_carry_17 hf hP hD hS

def X1_drawn_S47 (z_weights_cells : Nat → Int32) (x1 : Int32) (z_lot_28 : Int32) (x3_40 : Int32) (self_47 : Int32 → Int32 → Option (Int32 × Int32)) (x4_47 : Int32) (x5_47 : Int32) : Option (Int32 × Int32) := if (4 : Int32) ≤ x5_47 then (some ((-9 : Int32), z_lot_28)) else ((fX4_of z_weights_cells x1 x5_47).bind (fun r_62 => lets (x4_47 + r_62) (fun x4_66 => if x4_66 ≤ x3_40 then (lets (x5_47 + (1 : Int32)) (fun x5_77 => self_47 x4_66 x5_77)) else (some (x5_47, z_lot_28)))))
def fX1_drawn (z_lot : Int32) (z_weights_cells : Nat → Int32) (x1 : Int32) : Option (Int32 × Int32) := (fX4_together z_weights_cells x1).bind (fun r_5 => if r_5 = 0 then (some ((-9 : Int32), z_lot)) else (lets ((z_lot * (1103515245 : Int32)) + (12345 : Int32)) (fun z_lot_28 => gd (¬ r_5 = 0) (lets (((z_lot_28.toUInt32 >>> ((16 : Int32).toUInt32 &&& Int32.toUInt32 31)).toInt32) - ((z_lot_28.toUInt32 >>> ((16 : Int32).toUInt32 &&& Int32.toUInt32 31)).toInt32) / r_5 * r_5) (fun x3_40 => it2 (X1_drawn_S47 z_weights_cells x1 z_lot_28 x3_40) 100000 (0 : Int32) (0 : Int32))))))
abbrev rmX1_drawn : Room := { frames := 2, cells := 0, slots := 0, locals := 45 }
set_option maxHeartbeats 4000000 in
set_option maxRecDepth 100000 in
theorem ktX1_drawn (l : Launch) (D : va_G) (cy : Nat → ClassId) (q0 : Nat) (q_weights : Nat) (q_brought : Nat) (q_left : Nat) (q_spoons : Nat) (q_health : Nat) (q_weights_cells : Nat) (z_eaten : Int32) (z_year : Int32) (z_lot : Int32) (z_weights_cells : Nat → Int32) (x1 : Int32) (r : Int32 × Int32) (hf : fX1_drawn z_lot z_weights_cells x1 = some r) : CtI l yX1_drawn wsX1_drawn rmX1_drawn D cy [.ref q0, .int x1] [(q0, oB 1 [.ref q_weights, .ref q_brought, .ref q_left, .ref q_spoons, .ref q_health, .int z_eaten, .int z_year, .int z_lot]), (q_weights, oB 4 [.ref q_weights_cells]), (q_weights_cells, aI cy 24 z_weights_cells)] [(q0, oB 1 [.ref q_weights, .ref q_brought, .ref q_left, .ref q_spoons, .ref q_health, .int z_eaten, .int z_year, .int r.2]), (q_weights, oB 4 [.ref q_weights_cells]), (q_weights_cells, aI cy 24 z_weights_cells)] r.1 := by
  refine Ct_ofI (cc := cX1_drawn) (nL := 6) (by decide) rfl (Nat.le_of_ble_eq_true rfl) ?_
  intro p e s m args below meth c A Q hM hret hP hD hS ls hl
  obtain ⟨hx, hb, hml, hown, hts, hcx, hA, hsx⟩ := hM
  have hown : s.vm.findClass RX1 = some m.cls := hown
  have hK := hcx.1
  have hN := hcx.2
  have kw0 := hts (.fieldLink RX1 12 "EachBrings$Now" "weights" "LEachBrings$Weights;") (List.mem_of_getElem? (i := 1) rfl)
  have kc1 : ∀ w ∈ wsX10, w ∈ wsX1_drawn := fun _ h => List.mem_cons_of_mem _ (List.mem_append_left _ (List.mem_append_right _ h))
  have kw2 := hts (.initialized RX4) (List.mem_of_getElem? (i := 5) rfl)
  have kw3 := hts (.instanceMethod yX4_together) (List.mem_of_getElem? (i := 4) rfl)
  have kw4 := hts (.selects RX4 yX4_together yX4_together) (List.mem_of_getElem? (i := 6) rfl)
  have kw5 := hts (.fieldLink RX1 39 "EachBrings$Now" "lot" "I") (List.mem_of_getElem? (i := 2) rfl)
  have kw6 := hts (.constant RX1 59 (1103515245)) (List.mem_of_getElem? (i := 3) rfl)
  have kw7 := hts (.instanceMethod yX4_of) (List.mem_of_getElem? (i := 9) rfl)
  have kw8 := hts (.selects RX4 yX4_of yX4_of) (List.mem_of_getElem? (i := 10) rfl)
  have hl : lv_has ls 6 [(0, .ref q0), (1, .int x1)] := hl
  have hret' : ∀ (pc : Nat) (ls : Array Slot) (H : Heap) (locs : List Loc) (v : Int32) (w0 : Int32), decode cX1_drawn pc = .ok (.ireturn, 1) → some (v, w0) = some r → va_P D vwCl [(q0, oB 1 [.ref q_weights, .ref q_brought, .ref q_left, .ref q_spoons, .ref q_health, .int z_eaten, .int z_year, .int w0]), (q_weights, oB 4 [.ref q_weights_cells]), (q_weights_cells, aI cy 24 z_weights_cells)] H → va_D A [(q0, oB 1 [.ref q_weights, .ref q_brought, .ref q_left, .ref q_spoons, .ref q_health, .int z_eaten, .int z_year, .int w0]), (q_weights, oB 4 [.ref q_weights_cells]), (q_weights_cells, aI cy 24 z_weights_cells)] → va_S A s.heap H locs → W p l e rmX1_drawn s m args below meth c H locs 0 0 Q (F0 m pc ls [.int v]) := by
    intro pc ls H locs v w0 hd he hP hD hS
    cases he
    exact hret _ _ _ _ _ hd rfl hP hD hS
  unfold fX1_drawn at hf
  refine lv_aload_n hx hb dX1_drawn_0 rfl (lv_at hl 0 rfl) ?_
  refine va_get (D := D) (ci := 1) (v := .ref q_weights) (C := RX1) (T := TX1) (N := 8) hx hb hts kc1 hown hK hP 0 rfl rfl 0 (by decide) kw0 (fun _ h9 => h9) rfl dX1_drawn_1 ?_
  refine lv_iload_n hx hb dX1_drawn_4 rfl (lv_at hl 1 rfl) ?_
  obtain ⟨r_5, hr_5, hf⟩ := bd_some hf
  refine cl_i (wc := [(q_weights, oB 4 [.ref q_weights_cells]), (q_weights_cells, aI cy 24 z_weights_cells)]) (w1 := [(q_weights, oB 4 [.ref q_weights_cells]), (q_weights_cells, aI cy 24 z_weights_cells)]) (wr := [(q0, oB 1 [.ref q_weights, .ref q_brought, .ref q_left, .ref q_spoons, .ref q_health, .int z_eaten, .int z_year, .int z_lot])]) (w2 := [(q0, oB 1 [.ref q_weights, .ref q_brought, .ref q_left, .ref q_spoons, .ref q_health, .int z_eaten, .int z_year, .int z_lot]), (q_weights, oB 4 [.ref q_weights_cells]), (q_weights_cells, aI cy 24 z_weights_cells)]) (va_runVN (C := RX4) (host := "EachBrings") (As := [.int x1]) (rest := []) ⟨hx, hb, hml, hown, hts⟩ (ktX4_together l D cy q_weights q_weights_cells z_weights_cells x1 r_5 hr_5 _) ⟨va_cnB 1 hts gX1_drawn_X4_together_n55 rfl rfl rfl (hN.at 46 rfl) kw2 (by decide +kernel) ⟨Nat.le_of_ble_eq_true rfl, Nat.le_of_ble_eq_true rfl⟩, kw3, kw4⟩ (pre_V (wc := [(q_weights, oB 4 [.ref q_weights_cells]), (q_weights_cells, aI cy 24 z_weights_cells)]) (ci := 4) hcx hsx hS hA hP hD [1, 2] rfl (by decide) rfl rfl) rfl rfl hl.1 rfl (lv_room (Nat.le_of_ble_eq_true rfl)) dX1_drawn_5 ⟨Nat.zero_le _, Nat.zero_le _⟩) hP hD hS hA [1, 2] [0] [0, 1, 2] rfl rfl (by decide) (by decide) (by decide) rfl (fun H locs hP hD hS => ?_)
  refine lv_istore_n (lv' := [(2, .int r_5), (0, .ref q0), (1, .int x1)]) hx hb dX1_drawn_8 rfl hl (by decide) rfl (fun ls hl => ?_)
  refine lv_iload_n hx hb dX1_drawn_9 rfl (lv_at hl 0 rfl) ?_
  refine lv_if_ne (tgt := 16) hx hb dX1_drawn_10 (by decide) (fun hc_10 => ?_) (fun hc_10 => ?_)
  · have hf := it_f hf hc_10
    refine lv_aload_n hx hb dX1_drawn_16 rfl (lv_at hl 1 rfl) ?_
    refine lv_aload_n hx hb dX1_drawn_17 rfl (lv_at hl 1 rfl) ?_
    refine va_get (D := D) (ci := 1) (v := .int z_lot) (C := RX1) (T := TX1) (N := 8) hx hb hts kc1 hown hK hP 0 rfl rfl 7 (by decide) kw5 (fun _ h9 => h9) rfl dX1_drawn_18 ?_
    refine lv_ldc (v := 1103515245) hx hb hown kw6 dX1_drawn_21 ?_
    refine lv_imul hx hb dX1_drawn_23 ?_
    refine lv_sipush (v := 12345) hx hb dX1_drawn_24 (by decide) ?_
    refine lv_iadd hx hb dX1_drawn_27 ?_
    refine lv_topi (fun z_lot_28 ez_lot_28 => ?_)
    have hf := lets_at hf ez_lot_28
    refine va_put (D := D) (ci := 1) (v := .int z_lot_28) (ty := .int) (C := RX1) (T := TX1) (N := 8) hx hb hts kc1 tyX1 tyX1_ok nmX1 hown hK hP hD hS 0 rfl rfl 7 (by decide) kw5 (fun _ h9 => h9) rfl pfI rfl rfl (Nat.le_of_ble_eq_true rfl) dX1_drawn_28 (fun H locs hP hD hS => ?_)
    have hP : va_P D vwCl [(q0, oB 1 [.ref q_weights, .ref q_brought, .ref q_left, .ref q_spoons, .ref q_health, .int z_eaten, .int z_year, .int z_lot_28]), (q_weights, oB 4 [.ref q_weights_cells]), (q_weights_cells, aI cy 24 z_weights_cells)] H := hP
    have hD : va_D A [(q0, oB 1 [.ref q_weights, .ref q_brought, .ref q_left, .ref q_spoons, .ref q_health, .int z_eaten, .int z_year, .int z_lot_28]), (q_weights, oB 4 [.ref q_weights_cells]), (q_weights_cells, aI cy 24 z_weights_cells)] := hD
    refine lv_aload_n hx hb dX1_drawn_31 rfl (lv_at hl 1 rfl) ?_
    refine va_get (D := D) (ci := 1) (v := .int z_lot_28) (C := RX1) (T := TX1) (N := 8) hx hb hts kc1 hown hK hP 0 rfl rfl 7 (by decide) kw5 (fun _ h9 => h9) rfl dX1_drawn_32 ?_
    refine lv_bipush (v := 16) hx hb dX1_drawn_35 (by decide) ?_
    refine lv_iushr (v := (z_lot_28.toUInt32 >>> ((16 : Int32).toUInt32 &&& Int32.toUInt32 31)).toInt32) hx hb dX1_drawn_37 rfl ?_
    refine lv_iload_n hx hb dX1_drawn_38 rfl (lv_at hl 0 rfl) ?_
    obtain ⟨hg_39, hf⟩ := gd_some hf
    refine lv_irem hx hb dX1_drawn_39 hg_39 ?_
    refine lv_topi (fun x3_40 ex3_40 => ?_)
    have hf := lets_at hf ex3_40
    refine lv_istore_n (lv' := [(3, .int x3_40), (2, .int r_5), (0, .ref q0), (1, .int x1)]) hx hb dX1_drawn_40 rfl hl (by decide) rfl (fun ls hl => ?_)
    refine lv_iconst (v := 0) hx hb dX1_drawn_41 (by decide) ?_
    refine lv_istore (lv' := [(4, .int (0 : Int32)), (3, .int x3_40), (2, .int r_5), (0, .ref q0), (1, .int x1)]) hx hb dX1_drawn_42 hl (by decide) rfl (fun ls hl => ?_)
    refine lv_iconst (v := 0) hx hb dX1_drawn_44 (by decide) ?_
    refine lv_istore (lv' := [(5, .int (0 : Int32)), (4, .int (0 : Int32)), (3, .int x3_40), (2, .int r_5), (0, .ref q0), (1, .int x1)]) hx hb dX1_drawn_45 hl (by decide) rfl (fun ls hl => ?_)
    have hL47 : ∀ (n : Nat) (x4_47 : Int32) (x5_47 : Int32) (H : Heap) (locs : List Loc) (ls : Array Slot), it2 (X1_drawn_S47 z_weights_cells x1 z_lot_28 x3_40) n x4_47 x5_47 = some r → va_P D vwCl [(q0, oB 1 [.ref q_weights, .ref q_brought, .ref q_left, .ref q_spoons, .ref q_health, .int z_eaten, .int z_year, .int z_lot_28]), (q_weights, oB 4 [.ref q_weights_cells]), (q_weights_cells, aI cy 24 z_weights_cells)] H → va_D A [(q0, oB 1 [.ref q_weights, .ref q_brought, .ref q_left, .ref q_spoons, .ref q_health, .int z_eaten, .int z_year, .int z_lot_28]), (q_weights, oB 4 [.ref q_weights_cells]), (q_weights_cells, aI cy 24 z_weights_cells)] → va_S A s.heap H locs → lv_has ls 6 [(0, .ref q0), (1, .int x1), (3, .int x3_40), (4, .int x4_47), (5, .int x5_47)] → W p l e rmX1_drawn s m args below meth c H locs 0 0 Q (F0 m 47 ls []) := by
      intro n
      induction n with
      | zero => intro x4_47 x5_47 H locs ls hf; exact absurd hf (by simp [it2])
      | succ n ih47 =>
        intro x4_47 x5_47 H locs ls hf hP hD hS hl
        have hf : X1_drawn_S47 z_weights_cells x1 z_lot_28 x3_40 (it2 (X1_drawn_S47 z_weights_cells x1 z_lot_28 x3_40) n) x4_47 x5_47 = some r := hf
        generalize it2 (X1_drawn_S47 z_weights_cells x1 z_lot_28 x3_40) n = self_47 at hf ih47
        unfold X1_drawn_S47 at hf
        refine lv_iload hx hb dX1_drawn_47 (lv_at hl 4 rfl) ?_
        refine lv_iconst (v := 4) hx hb dX1_drawn_49 (by decide) ?_
        refine lv_icmp_ge (tgt := 83) hx hb dX1_drawn_50 (by decide) (fun hc_50 => ?_) (fun hc_50 => ?_)
        · have hf := it_t hf hc_50
          refine lv_bipush (v := -9) hx hb dX1_drawn_83 (by decide) ?_
          exact hret' _ _ _ _ _ _ dX1_drawn_85 hf hP hD hS
        · have hf := it_f hf hc_50
          refine lv_iload hx hb dX1_drawn_53 (lv_at hl 3 rfl) ?_
          refine lv_aload_n hx hb dX1_drawn_55 rfl (lv_at hl 0 rfl) ?_
          refine va_get (D := D) (ci := 1) (v := .ref q_weights) (C := RX1) (T := TX1) (N := 8) hx hb hts kc1 hown hK hP 0 rfl rfl 0 (by decide) kw0 (fun _ h9 => h9) rfl dX1_drawn_56 ?_
          refine lv_iload_n hx hb dX1_drawn_59 rfl (lv_at hl 1 rfl) ?_
          refine lv_iload hx hb dX1_drawn_60 (lv_at hl 4 rfl) ?_
          obtain ⟨r_62, hr_62, hf⟩ := bd_some hf
          refine cl_i (wc := [(q_weights, oB 4 [.ref q_weights_cells]), (q_weights_cells, aI cy 24 z_weights_cells)]) (w1 := [(q_weights, oB 4 [.ref q_weights_cells]), (q_weights_cells, aI cy 24 z_weights_cells)]) (wr := [(q0, oB 1 [.ref q_weights, .ref q_brought, .ref q_left, .ref q_spoons, .ref q_health, .int z_eaten, .int z_year, .int z_lot_28])]) (w2 := [(q0, oB 1 [.ref q_weights, .ref q_brought, .ref q_left, .ref q_spoons, .ref q_health, .int z_eaten, .int z_year, .int z_lot_28]), (q_weights, oB 4 [.ref q_weights_cells]), (q_weights_cells, aI cy 24 z_weights_cells)]) (va_runVN (C := RX4) (host := "EachBrings") (As := [.int x1, .int x5_47]) (rest := [.int x4_47]) ⟨hx, hb, hml, hown, hts⟩ (ktX4_of l D cy q_weights q_weights_cells z_weights_cells x1 x5_47 r_62 hr_62 _) ⟨va_cnB 2 hts gX1_drawn_X4_of_n60 rfl rfl rfl (hN.at 47 rfl) kw2 (by decide +kernel) ⟨Nat.le_of_ble_eq_true rfl, Nat.le_of_ble_eq_true rfl⟩, kw7, kw8⟩ (pre_V (wc := [(q_weights, oB 4 [.ref q_weights_cells]), (q_weights_cells, aI cy 24 z_weights_cells)]) (ci := 4) hcx hsx hS hA hP hD [1, 2] rfl (by decide) rfl rfl) rfl rfl hl.1 rfl (lv_room (Nat.le_of_ble_eq_true rfl)) dX1_drawn_62 ⟨Nat.zero_le _, Nat.zero_le _⟩) hP hD hS hA [1, 2] [0] [0, 1, 2] rfl rfl (by decide) (by decide) (by decide) rfl (fun H locs hP hD hS => ?_)
          refine lv_iadd hx hb dX1_drawn_65 ?_
          refine lv_topi (fun x4_66 ex4_66 => ?_)
          have hf := lets_at hf ex4_66
          refine lv_istore (lv' := [(4, .int x4_66), (0, .ref q0), (1, .int x1), (3, .int x3_40), (5, .int x5_47)]) hx hb dX1_drawn_66 hl (by decide) rfl (fun ls hl => ?_)
          refine lv_iload hx hb dX1_drawn_68 (lv_at hl 0 rfl) ?_
          refine lv_iload_n hx hb dX1_drawn_70 rfl (lv_at hl 3 rfl) ?_
          refine lv_icmp_le (tgt := 77) hx hb dX1_drawn_71 (by decide) (fun hc_71 => ?_) (fun hc_71 => ?_)
          · have hf := it_t hf hc_71
            obtain ⟨x5_77, ex5_77⟩ : ∃ y : Int32, y = x5_47 + (1 : Int32) := ⟨_, rfl⟩
            have hf := lets_at hf ex5_77
            refine lv_iinc (v := x5_77) (lv' := [(5, .int x5_77), (4, .int x4_66), (0, .ref q0), (1, .int x1), (3, .int x3_40)]) hx hb dX1_drawn_77 hl (k := 4) rfl (by rw [ex5_77]; rfl) (by decide) rfl (fun ls hl => ?_)
            refine lv_goto (tgt := 47) hx hb dX1_drawn_80 (by decide) ?_
            exact ih47 x4_66 x5_77 _ _ _ hf hP hD hS (lv_sub hl [2, 3, 4, 1, 0] rfl)
          · have hf := it_f hf hc_71
            refine lv_iload hx hb dX1_drawn_74 (lv_at hl 4 rfl) ?_
            exact hret' _ _ _ _ _ _ dX1_drawn_76 hf hP hD hS
    exact hL47 _ (0 : Int32) (0 : Int32) _ _ _ hf hP hD hS (lv_sub hl [4, 5, 2, 1, 0] rfl)
  · have hf := it_t hf hc_10
    refine lv_bipush (v := -9) hx hb dX1_drawn_13 (by decide) ?_
    exact hret' _ _ _ _ _ _ dX1_drawn_15 hf hP hD hS

def X1_bringersOf_J23 (x3_4 : Int32) (self_4 : Int32 → Int32 → Option Int32) (x2_23 : Int32) : Option Int32 := lets (x3_4 + (1 : Int32)) (fun x3_23 => self_4 x2_23 x3_23)
def X1_bringersOf_S4 (z_brought : Nat → Int32) (x1 : Int32) (self_4 : Int32 → Int32 → Option Int32) (x2_4 : Int32) (x3_4 : Int32) : Option Int32 := if (6 : Int32) ≤ x3_4 then (some x2_4) else (gd (okx x3_4 6) (if (z_brought x3_4.toNatClampNeg) = x1 then (lets (x2_4 + (1 : Int32)) (fun x2_20 => X1_bringersOf_J23 x3_4 self_4 x2_20)) else (X1_bringersOf_J23 x3_4 self_4 x2_4)))
def fX1_bringersOf (z_brought : Nat → Int32) (x1 : Int32) : Option Int32 := it2 (X1_bringersOf_S4 z_brought x1) 100000 (0 : Int32) (0 : Int32)
abbrev rmX1_bringersOf : Room := { frames := 0, cells := 0, slots := 0, locals := 0 }
set_option maxHeartbeats 4000000 in
set_option maxRecDepth 100000 in
theorem ktX1_bringersOf (l : Launch) (D : va_G) (cy : Nat → ClassId) (q0 : Nat) (q_weights : Nat) (q_brought : Nat) (q_left : Nat) (q_spoons : Nat) (q_health : Nat) (z_eaten : Int32) (z_year : Int32) (z_lot : Int32) (z_brought : Nat → Int32) (x1 : Int32) (r : Int32) (hf : fX1_bringersOf z_brought x1 = some r) : CtI l yX1_bringersOf wsX1_bringersOf rmX1_bringersOf D cy [.ref q0, .int x1] [(q0, oB 1 [.ref q_weights, .ref q_brought, .ref q_left, .ref q_spoons, .ref q_health, .int z_eaten, .int z_year, .int z_lot]), (q_brought, aI cy 6 z_brought)] [(q0, oB 1 [.ref q_weights, .ref q_brought, .ref q_left, .ref q_spoons, .ref q_health, .int z_eaten, .int z_year, .int z_lot]), (q_brought, aI cy 6 z_brought)] r := by
  refine Ct_ofI (cc := cX1_bringersOf) (nL := 4) (by decide) rfl (Nat.le_of_ble_eq_true rfl) ?_
  intro p e s m args below meth c A Q hM hret hP hD hS ls hl
  obtain ⟨hx, hb, hml, hown, hts, hcx, hA, hsx⟩ := hM
  have hown : s.vm.findClass RX1 = some m.cls := hown
  have hK := hcx.1
  have hN := hcx.2
  have kw0 := hts (.fieldLink RX1 18 "EachBrings$Now" "brought" "[I") (List.mem_of_getElem? (i := 1) rfl)
  have kc1 : ∀ w ∈ wsX10, w ∈ wsX1_bringersOf := fun _ h => List.mem_cons_of_mem _ (List.mem_append_right _ h)
  have hl : lv_has ls 4 [(0, .ref q0), (1, .int x1)] := hl
  have hret' : ∀ (pc : Nat) (ls : Array Slot) (H : Heap) (locs : List Loc) (v : Int32), decode cX1_bringersOf pc = .ok (.ireturn, 1) → some v = some r → va_P D vwCl [(q0, oB 1 [.ref q_weights, .ref q_brought, .ref q_left, .ref q_spoons, .ref q_health, .int z_eaten, .int z_year, .int z_lot]), (q_brought, aI cy 6 z_brought)] H → va_D A [(q0, oB 1 [.ref q_weights, .ref q_brought, .ref q_left, .ref q_spoons, .ref q_health, .int z_eaten, .int z_year, .int z_lot]), (q_brought, aI cy 6 z_brought)] → va_S A s.heap H locs → W p l e rmX1_bringersOf s m args below meth c H locs 0 0 Q (F0 m pc ls [.int v]) := by
    intro pc ls H locs v hd he hP hD hS
    cases he
    exact hret _ _ _ _ _ hd rfl hP hD hS
  unfold fX1_bringersOf at hf
  refine lv_iconst (v := 0) hx hb dX1_bringersOf_0 (by decide) ?_
  refine lv_istore_n (lv' := [(2, .int (0 : Int32)), (0, .ref q0), (1, .int x1)]) hx hb dX1_bringersOf_1 rfl hl (by decide) rfl (fun ls hl => ?_)
  refine lv_iconst (v := 0) hx hb dX1_bringersOf_2 (by decide) ?_
  refine lv_istore_n (lv' := [(3, .int (0 : Int32)), (2, .int (0 : Int32)), (0, .ref q0), (1, .int x1)]) hx hb dX1_bringersOf_3 rfl hl (by decide) rfl (fun ls hl => ?_)
  have hL4 : ∀ (n : Nat) (x2_4 : Int32) (x3_4 : Int32) (H : Heap) (locs : List Loc) (ls : Array Slot), it2 (X1_bringersOf_S4 z_brought x1) n x2_4 x3_4 = some r → va_P D vwCl [(q0, oB 1 [.ref q_weights, .ref q_brought, .ref q_left, .ref q_spoons, .ref q_health, .int z_eaten, .int z_year, .int z_lot]), (q_brought, aI cy 6 z_brought)] H → va_D A [(q0, oB 1 [.ref q_weights, .ref q_brought, .ref q_left, .ref q_spoons, .ref q_health, .int z_eaten, .int z_year, .int z_lot]), (q_brought, aI cy 6 z_brought)] → va_S A s.heap H locs → lv_has ls 4 [(0, .ref q0), (1, .int x1), (2, .int x2_4), (3, .int x3_4)] → W p l e rmX1_bringersOf s m args below meth c H locs 0 0 Q (F0 m 4 ls []) := by
    intro n
    induction n with
    | zero => intro x2_4 x3_4 H locs ls hf; exact absurd hf (by simp [it2])
    | succ n ih4 =>
      intro x2_4 x3_4 H locs ls hf hP hD hS hl
      have hf : X1_bringersOf_S4 z_brought x1 (it2 (X1_bringersOf_S4 z_brought x1) n) x2_4 x3_4 = some r := hf
      generalize it2 (X1_bringersOf_S4 z_brought x1) n = self_4 at hf ih4
      unfold X1_bringersOf_S4 at hf
      refine lv_iload_n hx hb dX1_bringersOf_4 rfl (lv_at hl 3 rfl) ?_
      refine lv_bipush (v := 6) hx hb dX1_bringersOf_5 (by decide) ?_
      refine lv_icmp_ge (tgt := 29) hx hb dX1_bringersOf_7 (by decide) (fun hc_7 => ?_) (fun hc_7 => ?_)
      · have hf := it_t hf hc_7
        refine lv_iload_n hx hb dX1_bringersOf_29 rfl (lv_at hl 2 rfl) ?_
        exact hret' _ _ _ _ _ dX1_bringersOf_30 hf hP hD hS
      · have hf := it_f hf hc_7
        refine lv_aload_n hx hb dX1_bringersOf_10 rfl (lv_at hl 0 rfl) ?_
        refine va_get (D := D) (ci := 1) (v := .ref q_brought) (C := RX1) (T := TX1) (N := 8) hx hb hts kc1 hown hK hP 0 rfl rfl 1 (by decide) kw0 (fun _ h9 => h9) rfl dX1_bringersOf_11 ?_
        refine lv_iload_n hx hb dX1_bringersOf_14 rfl (lv_at hl 3 rfl) ?_
        obtain ⟨hg_15, hf⟩ := gd_some hf
        refine va_iald hx hb hK hP 1 0 rfl rfl hg_15 dX1_bringersOf_15 ?_
        refine lv_iload_n hx hb dX1_bringersOf_16 rfl (lv_at hl 1 rfl) ?_
        have hJ23 : ∀ (x2_23 : Int32) (H : Heap) (locs : List Loc) (ls : Array Slot), X1_bringersOf_J23 x3_4 self_4 x2_23 = some r → va_P D vwCl [(q0, oB 1 [.ref q_weights, .ref q_brought, .ref q_left, .ref q_spoons, .ref q_health, .int z_eaten, .int z_year, .int z_lot]), (q_brought, aI cy 6 z_brought)] H → va_D A [(q0, oB 1 [.ref q_weights, .ref q_brought, .ref q_left, .ref q_spoons, .ref q_health, .int z_eaten, .int z_year, .int z_lot]), (q_brought, aI cy 6 z_brought)] → va_S A s.heap H locs → lv_has ls 4 [(0, .ref q0), (1, .int x1), (2, .int x2_23), (3, .int x3_4)] → W p l e rmX1_bringersOf s m args below meth c H locs 0 0 Q (F0 m 23 ls []) := by
          intro x2_23 H locs ls hf hP hD hS hl
          unfold X1_bringersOf_J23 at hf
          obtain ⟨x3_23, ex3_23⟩ : ∃ y : Int32, y = x3_4 + (1 : Int32) := ⟨_, rfl⟩
          have hf := lets_at hf ex3_23
          refine lv_iinc (v := x3_23) (lv' := [(3, .int x3_23), (0, .ref q0), (1, .int x1), (2, .int x2_23)]) hx hb dX1_bringersOf_23 hl (k := 3) rfl (by rw [ex3_23]; rfl) (by decide) rfl (fun ls hl => ?_)
          refine lv_goto (tgt := 4) hx hb dX1_bringersOf_26 (by decide) ?_
          exact ih4 x2_23 x3_23 _ _ _ hf hP hD hS (lv_sub hl [1, 2, 3, 0] rfl)
        refine lv_icmp_ne (tgt := 23) hx hb dX1_bringersOf_17 (by decide) (fun hc_17 => ?_) (fun hc_17 => ?_)
        · have hf := it_f hf hc_17
          exact hJ23 x2_4 _ _ _ hf hP hD hS (lv_sub hl [0, 1, 2, 3] rfl)
        · have hf := it_t hf hc_17
          obtain ⟨x2_20, ex2_20⟩ : ∃ y : Int32, y = x2_4 + (1 : Int32) := ⟨_, rfl⟩
          have hf := lets_at hf ex2_20
          refine lv_iinc (v := x2_20) (lv' := [(2, .int x2_20), (0, .ref q0), (1, .int x1), (3, .int x3_4)]) hx hb dX1_bringersOf_20 hl (k := 2) rfl (by rw [ex2_20]; rfl) (by decide) rfl (fun ls hl => ?_)
          exact hJ23 x2_20 _ _ _ hf hP hD hS (lv_sub hl [1, 2, 0, 3] rfl)
  exact hL4 _ (0 : Int32) (0 : Int32) _ _ _ hf hP hD hS (lv_sub hl [2, 3, 1, 0] rfl)

def X1_isBetter_J44 : Option Int32 := some (1 : Int32)
def fX1_isBetter (z_weights_cells : Nat → Int32) (z_brought : Nat → Int32) (x1 : Int32) (x2 : Int32) (x3 : Int32) : Option Int32 := (fX1_bringersOf z_brought x3).bind (fun r_2 => (fX1_bringersOf z_brought x2).bind (fun r_7 => lets (r_2 - r_7) (fun x4_11 => if 0 < x4_11 then (X1_isBetter_J44) else (if x4_11 = 0 then ((fX4_of z_weights_cells x1 x2).bind (fun r_29 => (fX4_of z_weights_cells x1 x3).bind (fun r_38 => if r_29 ≤ r_38 then (some (0 : Int32)) else (X1_isBetter_J44)))) else (some (0 : Int32))))))
abbrev rmX1_isBetter : Room := { frames := 1, cells := 0, slots := 0, locals := 23 }
set_option maxHeartbeats 4000000 in
set_option maxRecDepth 100000 in
theorem ktX1_isBetter (l : Launch) (D : va_G) (cy : Nat → ClassId) (q0 : Nat) (q_weights : Nat) (q_brought : Nat) (q_left : Nat) (q_spoons : Nat) (q_health : Nat) (q_weights_cells : Nat) (z_eaten : Int32) (z_year : Int32) (z_lot : Int32) (z_weights_cells : Nat → Int32) (z_brought : Nat → Int32) (x1 : Int32) (x2 : Int32) (x3 : Int32) (r : Int32) (hf : fX1_isBetter z_weights_cells z_brought x1 x2 x3 = some r) : CtI l yX1_isBetter wsX1_isBetter rmX1_isBetter D cy [.ref q0, .int x1, .int x2, .int x3] [(q0, oB 1 [.ref q_weights, .ref q_brought, .ref q_left, .ref q_spoons, .ref q_health, .int z_eaten, .int z_year, .int z_lot]), (q_weights, oB 4 [.ref q_weights_cells]), (q_weights_cells, aI cy 24 z_weights_cells), (q_brought, aI cy 6 z_brought)] [(q0, oB 1 [.ref q_weights, .ref q_brought, .ref q_left, .ref q_spoons, .ref q_health, .int z_eaten, .int z_year, .int z_lot]), (q_weights, oB 4 [.ref q_weights_cells]), (q_weights_cells, aI cy 24 z_weights_cells), (q_brought, aI cy 6 z_brought)] r := by
  refine Ct_ofZ (cc := cX1_isBetter) (nL := 5) (by decide) rfl (Nat.le_of_ble_eq_true rfl) ?_
  intro p e s m args below meth c A Q hM hret hP hD hS ls hl
  obtain ⟨hx, hb, hml, hown, hts, hcx, hA, hsx⟩ := hM
  have hown : s.vm.findClass RX1 = some m.cls := hown
  have hK := hcx.1
  have hN := hcx.2
  have kw0 := hts (.fieldLink RX1 12 "EachBrings$Now" "weights" "LEachBrings$Weights;") (List.mem_of_getElem? (i := 1) rfl)
  have kc1 : ∀ w ∈ wsX10, w ∈ wsX1_isBetter := fun _ h => List.mem_cons_of_mem _ (List.mem_append_left _ (List.mem_append_right _ h))
  have kw2 := hts (.initialized RX4) (List.mem_of_getElem? (i := 9) rfl)
  have kw3 := hts (.instanceMethod yX4_of) (List.mem_of_getElem? (i := 8) rfl)
  have kw4 := hts (.selects RX4 yX4_of yX4_of) (List.mem_of_getElem? (i := 10) rfl)
  have hl : lv_has ls 5 [(0, .ref q0), (1, .int x1), (2, .int x2), (3, .int x3)] := hl
  have hret' : ∀ (pc : Nat) (ls : Array Slot) (H : Heap) (locs : List Loc) (v : Int32), decode cX1_isBetter pc = .ok (.ireturn, 1) → isB v → some v = some r → va_P D vwCl [(q0, oB 1 [.ref q_weights, .ref q_brought, .ref q_left, .ref q_spoons, .ref q_health, .int z_eaten, .int z_year, .int z_lot]), (q_weights, oB 4 [.ref q_weights_cells]), (q_weights_cells, aI cy 24 z_weights_cells), (q_brought, aI cy 6 z_brought)] H → va_D A [(q0, oB 1 [.ref q_weights, .ref q_brought, .ref q_left, .ref q_spoons, .ref q_health, .int z_eaten, .int z_year, .int z_lot]), (q_weights, oB 4 [.ref q_weights_cells]), (q_weights_cells, aI cy 24 z_weights_cells), (q_brought, aI cy 6 z_brought)] → va_S A s.heap H locs → W p l e rmX1_isBetter s m args below meth c H locs 0 0 Q (F0 m pc ls [.int v]) := by
    intro pc ls H locs v hd hbv he hP hD hS
    cases he
    exact hret _ _ _ _ _ hd hbv rfl hP hD hS
  unfold fX1_isBetter at hf
  refine lv_aload_n hx hb dX1_isBetter_0 rfl (lv_at hl 0 rfl) ?_
  refine lv_iload_n hx hb dX1_isBetter_1 rfl (lv_at hl 3 rfl) ?_
  obtain ⟨r_2, hr_2, hf⟩ := bd_some hf
  refine cl_i (wc := [(q0, oB 1 [.ref q_weights, .ref q_brought, .ref q_left, .ref q_spoons, .ref q_health, .int z_eaten, .int z_year, .int z_lot]), (q_brought, aI cy 6 z_brought)]) (w1 := [(q0, oB 1 [.ref q_weights, .ref q_brought, .ref q_left, .ref q_spoons, .ref q_health, .int z_eaten, .int z_year, .int z_lot]), (q_brought, aI cy 6 z_brought)]) (wr := [(q_weights, oB 4 [.ref q_weights_cells]), (q_weights_cells, aI cy 24 z_weights_cells)]) (w2 := [(q0, oB 1 [.ref q_weights, .ref q_brought, .ref q_left, .ref q_spoons, .ref q_health, .int z_eaten, .int z_year, .int z_lot]), (q_weights, oB 4 [.ref q_weights_cells]), (q_weights_cells, aI cy 24 z_weights_cells), (q_brought, aI cy 6 z_brought)]) (va_runV (As := [.int x3]) (rest := []) ⟨hx, hb, hml, hown, hts⟩ (ktX1_bringersOf l D cy q0 q_weights q_brought q_left q_spoons q_health z_eaten z_year z_lot z_brought x3 r_2 hr_2 _) (cwV 1 hts gX1_isBetter_X1_bringersOf rfl rfl rfl (by decide +kernel) ⟨Nat.le_of_ble_eq_true rfl, Nat.le_of_ble_eq_true rfl⟩) (pre_V (wc := [(q0, oB 1 [.ref q_weights, .ref q_brought, .ref q_left, .ref q_spoons, .ref q_health, .int z_eaten, .int z_year, .int z_lot]), (q_brought, aI cy 6 z_brought)]) (ci := 1) hcx hsx hS hA hP hD [0, 3] rfl (by decide) rfl rfl) rfl rfl hl.1 rfl (lv_room (Nat.le_of_ble_eq_true rfl)) dX1_isBetter_2 ⟨Nat.zero_le _, Nat.zero_le _⟩) hP hD hS hA [0, 3] [1, 2] [2, 0, 1, 3] rfl rfl (by decide) (by decide) (by decide) rfl (fun H locs hP hD hS => ?_)
  refine lv_aload_n hx hb dX1_isBetter_5 rfl (lv_at hl 0 rfl) ?_
  refine lv_iload_n hx hb dX1_isBetter_6 rfl (lv_at hl 2 rfl) ?_
  obtain ⟨r_7, hr_7, hf⟩ := bd_some hf
  refine cl_i (wc := [(q0, oB 1 [.ref q_weights, .ref q_brought, .ref q_left, .ref q_spoons, .ref q_health, .int z_eaten, .int z_year, .int z_lot]), (q_brought, aI cy 6 z_brought)]) (w1 := [(q0, oB 1 [.ref q_weights, .ref q_brought, .ref q_left, .ref q_spoons, .ref q_health, .int z_eaten, .int z_year, .int z_lot]), (q_brought, aI cy 6 z_brought)]) (wr := [(q_weights, oB 4 [.ref q_weights_cells]), (q_weights_cells, aI cy 24 z_weights_cells)]) (w2 := [(q0, oB 1 [.ref q_weights, .ref q_brought, .ref q_left, .ref q_spoons, .ref q_health, .int z_eaten, .int z_year, .int z_lot]), (q_weights, oB 4 [.ref q_weights_cells]), (q_weights_cells, aI cy 24 z_weights_cells), (q_brought, aI cy 6 z_brought)]) (va_runV (As := [.int x2]) (rest := [.int r_2]) ⟨hx, hb, hml, hown, hts⟩ (ktX1_bringersOf l D cy q0 q_weights q_brought q_left q_spoons q_health z_eaten z_year z_lot z_brought x2 r_7 hr_7 _) (cwV 1 hts gX1_isBetter_X1_bringersOf rfl rfl rfl (by decide +kernel) ⟨Nat.le_of_ble_eq_true rfl, Nat.le_of_ble_eq_true rfl⟩) (pre_V (wc := [(q0, oB 1 [.ref q_weights, .ref q_brought, .ref q_left, .ref q_spoons, .ref q_health, .int z_eaten, .int z_year, .int z_lot]), (q_brought, aI cy 6 z_brought)]) (ci := 1) hcx hsx hS hA hP hD [0, 3] rfl (by decide) rfl rfl) rfl rfl hl.1 rfl (lv_room (Nat.le_of_ble_eq_true rfl)) dX1_isBetter_7 ⟨Nat.zero_le _, Nat.zero_le _⟩) hP hD hS hA [0, 3] [1, 2] [2, 0, 1, 3] rfl rfl (by decide) (by decide) (by decide) rfl (fun H locs hP hD hS => ?_)
  refine lv_isub hx hb dX1_isBetter_10 ?_
  refine lv_topi (fun x4_11 ex4_11 => ?_)
  have hf := lets_at hf ex4_11
  refine lv_istore (lv' := [(4, .int x4_11), (0, .ref q0), (1, .int x1), (2, .int x2), (3, .int x3)]) hx hb dX1_isBetter_11 hl (by decide) rfl (fun ls hl => ?_)
  refine lv_iload hx hb dX1_isBetter_13 (lv_at hl 0 rfl) ?_
  have hJ44 : ∀ (H : Heap) (locs : List Loc) (ls : Array Slot), X1_isBetter_J44 = some r → va_P D vwCl [(q0, oB 1 [.ref q_weights, .ref q_brought, .ref q_left, .ref q_spoons, .ref q_health, .int z_eaten, .int z_year, .int z_lot]), (q_weights, oB 4 [.ref q_weights_cells]), (q_weights_cells, aI cy 24 z_weights_cells), (q_brought, aI cy 6 z_brought)] H → va_D A [(q0, oB 1 [.ref q_weights, .ref q_brought, .ref q_left, .ref q_spoons, .ref q_health, .int z_eaten, .int z_year, .int z_lot]), (q_weights, oB 4 [.ref q_weights_cells]), (q_weights_cells, aI cy 24 z_weights_cells), (q_brought, aI cy 6 z_brought)] → va_S A s.heap H locs → lv_has ls 5 [] → W p l e rmX1_isBetter s m args below meth c H locs 0 0 Q (F0 m 44 ls []) := by
    intro H locs ls hf hP hD hS hl
    unfold X1_isBetter_J44 at hf
    refine lv_iconst (v := 1) hx hb dX1_isBetter_44 (by decide) ?_
    refine lv_goto (tgt := 49) hx hb dX1_isBetter_45 (by decide) ?_
    exact hret' _ _ _ _ _ dX1_isBetter_49 (by decide) hf hP hD hS
  refine lv_if_gt (tgt := 44) hx hb dX1_isBetter_15 (by decide) (fun hc_15 => ?_) (fun hc_15 => ?_)
  · have hf := it_t hf hc_15
    exact hJ44 _ _ _ hf hP hD hS (lv_sub hl [] rfl)
  · have hf := it_f hf hc_15
    refine lv_iload hx hb dX1_isBetter_18 (lv_at hl 0 rfl) ?_
    refine lv_if_ne (tgt := 48) hx hb dX1_isBetter_20 (by decide) (fun hc_20 => ?_) (fun hc_20 => ?_)
    · have hf := it_f hf hc_20
      refine lv_iconst (v := 0) hx hb dX1_isBetter_48 (by decide) ?_
      exact hret' _ _ _ _ _ dX1_isBetter_49 (by decide) hf hP hD hS
    · have hf := it_t hf hc_20
      refine lv_aload_n hx hb dX1_isBetter_23 rfl (lv_at hl 1 rfl) ?_
      refine va_get (D := D) (ci := 1) (v := .ref q_weights) (C := RX1) (T := TX1) (N := 8) hx hb hts kc1 hown hK hP 0 rfl rfl 0 (by decide) kw0 (fun _ h9 => h9) rfl dX1_isBetter_24 ?_
      refine lv_iload_n hx hb dX1_isBetter_27 rfl (lv_at hl 2 rfl) ?_
      refine lv_iload_n hx hb dX1_isBetter_28 rfl (lv_at hl 3 rfl) ?_
      obtain ⟨r_29, hr_29, hf⟩ := bd_some hf
      refine cl_i (wc := [(q_weights, oB 4 [.ref q_weights_cells]), (q_weights_cells, aI cy 24 z_weights_cells)]) (w1 := [(q_weights, oB 4 [.ref q_weights_cells]), (q_weights_cells, aI cy 24 z_weights_cells)]) (wr := [(q0, oB 1 [.ref q_weights, .ref q_brought, .ref q_left, .ref q_spoons, .ref q_health, .int z_eaten, .int z_year, .int z_lot]), (q_brought, aI cy 6 z_brought)]) (w2 := [(q0, oB 1 [.ref q_weights, .ref q_brought, .ref q_left, .ref q_spoons, .ref q_health, .int z_eaten, .int z_year, .int z_lot]), (q_weights, oB 4 [.ref q_weights_cells]), (q_weights_cells, aI cy 24 z_weights_cells), (q_brought, aI cy 6 z_brought)]) (va_runVN (C := RX4) (host := "EachBrings") (As := [.int x1, .int x2]) (rest := []) ⟨hx, hb, hml, hown, hts⟩ (ktX4_of l D cy q_weights q_weights_cells z_weights_cells x1 x2 r_29 hr_29 _) ⟨va_cnB 2 hts gX1_isBetter_X4_of_n60 rfl rfl rfl (hN.at 47 rfl) kw2 (by decide +kernel) ⟨Nat.le_of_ble_eq_true rfl, Nat.le_of_ble_eq_true rfl⟩, kw3, kw4⟩ (pre_V (wc := [(q_weights, oB 4 [.ref q_weights_cells]), (q_weights_cells, aI cy 24 z_weights_cells)]) (ci := 4) hcx hsx hS hA hP hD [1, 2] rfl (by decide) rfl rfl) rfl rfl hl.1 rfl (lv_room (Nat.le_of_ble_eq_true rfl)) dX1_isBetter_29 ⟨Nat.zero_le _, Nat.zero_le _⟩) hP hD hS hA [1, 2] [0, 3] [0, 2, 3, 1] rfl rfl (by decide) (by decide) (by decide) rfl (fun H locs hP hD hS => ?_)
      refine lv_aload_n hx hb dX1_isBetter_32 rfl (lv_at hl 1 rfl) ?_
      refine va_get (D := D) (ci := 1) (v := .ref q_weights) (C := RX1) (T := TX1) (N := 8) hx hb hts kc1 hown hK hP 0 rfl rfl 0 (by decide) kw0 (fun _ h9 => h9) rfl dX1_isBetter_33 ?_
      refine lv_iload_n hx hb dX1_isBetter_36 rfl (lv_at hl 2 rfl) ?_
      refine lv_iload_n hx hb dX1_isBetter_37 rfl (lv_at hl 4 rfl) ?_
      obtain ⟨r_38, hr_38, hf⟩ := bd_some hf
      refine cl_i (wc := [(q_weights, oB 4 [.ref q_weights_cells]), (q_weights_cells, aI cy 24 z_weights_cells)]) (w1 := [(q_weights, oB 4 [.ref q_weights_cells]), (q_weights_cells, aI cy 24 z_weights_cells)]) (wr := [(q0, oB 1 [.ref q_weights, .ref q_brought, .ref q_left, .ref q_spoons, .ref q_health, .int z_eaten, .int z_year, .int z_lot]), (q_brought, aI cy 6 z_brought)]) (w2 := [(q0, oB 1 [.ref q_weights, .ref q_brought, .ref q_left, .ref q_spoons, .ref q_health, .int z_eaten, .int z_year, .int z_lot]), (q_weights, oB 4 [.ref q_weights_cells]), (q_weights_cells, aI cy 24 z_weights_cells), (q_brought, aI cy 6 z_brought)]) (va_runVN (C := RX4) (host := "EachBrings") (As := [.int x1, .int x3]) (rest := [.int r_29]) ⟨hx, hb, hml, hown, hts⟩ (ktX4_of l D cy q_weights q_weights_cells z_weights_cells x1 x3 r_38 hr_38 _) ⟨va_cnB 2 hts gX1_isBetter_X4_of_n60 rfl rfl rfl (hN.at 47 rfl) kw2 (by decide +kernel) ⟨Nat.le_of_ble_eq_true rfl, Nat.le_of_ble_eq_true rfl⟩, kw3, kw4⟩ (pre_V (wc := [(q_weights, oB 4 [.ref q_weights_cells]), (q_weights_cells, aI cy 24 z_weights_cells)]) (ci := 4) hcx hsx hS hA hP hD [1, 2] rfl (by decide) rfl rfl) rfl rfl hl.1 rfl (lv_room (Nat.le_of_ble_eq_true rfl)) dX1_isBetter_38 ⟨Nat.zero_le _, Nat.zero_le _⟩) hP hD hS hA [1, 2] [0, 3] [0, 2, 3, 1] rfl rfl (by decide) (by decide) (by decide) rfl (fun H locs hP hD hS => ?_)
      refine lv_icmp_le (tgt := 48) hx hb dX1_isBetter_41 (by decide) (fun hc_41 => ?_) (fun hc_41 => ?_)
      · have hf := it_t hf hc_41
        refine lv_iconst (v := 0) hx hb dX1_isBetter_48 (by decide) ?_
        exact hret' _ _ _ _ _ dX1_isBetter_49 (by decide) hf hP hD hS
      · have hf := it_f hf hc_41
        exact hJ44 _ _ _ hf hP hD hS (lv_sub hl [] rfl)

def X1_seenOnBoard_J40 (x3_5 : Int32) (self_5 : Int32 → Int32 → Option Int32) (x2_40 : Int32) : Option Int32 := lets (x3_5 + (1 : Int32)) (fun x3_40 => self_5 x2_40 x3_40)
def X1_seenOnBoard_J38 (x3_5 : Int32) (self_5 : Int32 → Int32 → Option Int32) : Option Int32 := X1_seenOnBoard_J40 x3_5 self_5 x3_5
def X1_seenOnBoard_S5 (z_weights_cells : Nat → Int32) (z_brought : Nat → Int32) (x1 : Int32) (self_5 : Int32 → Int32 → Option Int32) (x2_5 : Int32) (x3_5 : Int32) : Option Int32 := if (4 : Int32) ≤ x3_5 then (some x2_5) else ((fX4_of z_weights_cells x1 x3_5).bind (fun r_16 => if r_16 ≤ 0 then (X1_seenOnBoard_J40 x3_5 self_5 x2_5) else (if x2_5 = (-9 : Int32) then (X1_seenOnBoard_J38 x3_5 self_5) else ((fX1_isBetter z_weights_cells z_brought x1 x3_5 x2_5).bind (fun r_32 => if r_32 = 0 then (X1_seenOnBoard_J40 x3_5 self_5 x2_5) else (X1_seenOnBoard_J38 x3_5 self_5))))))
def fX1_seenOnBoard (z_weights_cells : Nat → Int32) (z_brought : Nat → Int32) (x1 : Int32) : Option Int32 := it2 (X1_seenOnBoard_S5 z_weights_cells z_brought x1) 100000 (-9 : Int32) (0 : Int32)
abbrev rmX1_seenOnBoard : Room := { frames := 2, cells := 0, slots := 0, locals := 47 }
set_option maxHeartbeats 4000000 in
set_option maxRecDepth 100000 in
theorem ktX1_seenOnBoard (l : Launch) (D : va_G) (cy : Nat → ClassId) (q0 : Nat) (q_weights : Nat) (q_brought : Nat) (q_left : Nat) (q_spoons : Nat) (q_health : Nat) (q_weights_cells : Nat) (z_eaten : Int32) (z_year : Int32) (z_lot : Int32) (z_weights_cells : Nat → Int32) (z_brought : Nat → Int32) (x1 : Int32) (r : Int32) (hf : fX1_seenOnBoard z_weights_cells z_brought x1 = some r) : CtI l yX1_seenOnBoard wsX1_seenOnBoard rmX1_seenOnBoard D cy [.ref q0, .int x1] [(q0, oB 1 [.ref q_weights, .ref q_brought, .ref q_left, .ref q_spoons, .ref q_health, .int z_eaten, .int z_year, .int z_lot]), (q_weights, oB 4 [.ref q_weights_cells]), (q_weights_cells, aI cy 24 z_weights_cells), (q_brought, aI cy 6 z_brought)] [(q0, oB 1 [.ref q_weights, .ref q_brought, .ref q_left, .ref q_spoons, .ref q_health, .int z_eaten, .int z_year, .int z_lot]), (q_weights, oB 4 [.ref q_weights_cells]), (q_weights_cells, aI cy 24 z_weights_cells), (q_brought, aI cy 6 z_brought)] r := by
  refine Ct_ofI (cc := cX1_seenOnBoard) (nL := 4) (by decide) rfl (Nat.le_of_ble_eq_true rfl) ?_
  intro p e s m args below meth c A Q hM hret hP hD hS ls hl
  obtain ⟨hx, hb, hml, hown, hts, hcx, hA, hsx⟩ := hM
  have hown : s.vm.findClass RX1 = some m.cls := hown
  have hK := hcx.1
  have hN := hcx.2
  have kw0 := hts (.fieldLink RX1 12 "EachBrings$Now" "weights" "LEachBrings$Weights;") (List.mem_of_getElem? (i := 1) rfl)
  have kc1 : ∀ w ∈ wsX10, w ∈ wsX1_seenOnBoard := fun _ h => List.mem_cons_of_mem _ (List.mem_append_left _ (List.mem_append_right _ h))
  have kw2 := hts (.initialized RX4) (List.mem_of_getElem? (i := 3) rfl)
  have kw3 := hts (.instanceMethod yX4_of) (List.mem_of_getElem? (i := 2) rfl)
  have kw4 := hts (.selects RX4 yX4_of yX4_of) (List.mem_of_getElem? (i := 4) rfl)
  have hl : lv_has ls 4 [(0, .ref q0), (1, .int x1)] := hl
  have hret' : ∀ (pc : Nat) (ls : Array Slot) (H : Heap) (locs : List Loc) (v : Int32), decode cX1_seenOnBoard pc = .ok (.ireturn, 1) → some v = some r → va_P D vwCl [(q0, oB 1 [.ref q_weights, .ref q_brought, .ref q_left, .ref q_spoons, .ref q_health, .int z_eaten, .int z_year, .int z_lot]), (q_weights, oB 4 [.ref q_weights_cells]), (q_weights_cells, aI cy 24 z_weights_cells), (q_brought, aI cy 6 z_brought)] H → va_D A [(q0, oB 1 [.ref q_weights, .ref q_brought, .ref q_left, .ref q_spoons, .ref q_health, .int z_eaten, .int z_year, .int z_lot]), (q_weights, oB 4 [.ref q_weights_cells]), (q_weights_cells, aI cy 24 z_weights_cells), (q_brought, aI cy 6 z_brought)] → va_S A s.heap H locs → W p l e rmX1_seenOnBoard s m args below meth c H locs 0 0 Q (F0 m pc ls [.int v]) := by
    intro pc ls H locs v hd he hP hD hS
    cases he
    exact hret _ _ _ _ _ hd rfl hP hD hS
  unfold fX1_seenOnBoard at hf
  refine lv_bipush (v := -9) hx hb dX1_seenOnBoard_0 (by decide) ?_
  refine lv_istore_n (lv' := [(2, .int (-9 : Int32)), (0, .ref q0), (1, .int x1)]) hx hb dX1_seenOnBoard_2 rfl hl (by decide) rfl (fun ls hl => ?_)
  refine lv_iconst (v := 0) hx hb dX1_seenOnBoard_3 (by decide) ?_
  refine lv_istore_n (lv' := [(3, .int (0 : Int32)), (2, .int (-9 : Int32)), (0, .ref q0), (1, .int x1)]) hx hb dX1_seenOnBoard_4 rfl hl (by decide) rfl (fun ls hl => ?_)
  have hL5 : ∀ (n : Nat) (x2_5 : Int32) (x3_5 : Int32) (H : Heap) (locs : List Loc) (ls : Array Slot), it2 (X1_seenOnBoard_S5 z_weights_cells z_brought x1) n x2_5 x3_5 = some r → va_P D vwCl [(q0, oB 1 [.ref q_weights, .ref q_brought, .ref q_left, .ref q_spoons, .ref q_health, .int z_eaten, .int z_year, .int z_lot]), (q_weights, oB 4 [.ref q_weights_cells]), (q_weights_cells, aI cy 24 z_weights_cells), (q_brought, aI cy 6 z_brought)] H → va_D A [(q0, oB 1 [.ref q_weights, .ref q_brought, .ref q_left, .ref q_spoons, .ref q_health, .int z_eaten, .int z_year, .int z_lot]), (q_weights, oB 4 [.ref q_weights_cells]), (q_weights_cells, aI cy 24 z_weights_cells), (q_brought, aI cy 6 z_brought)] → va_S A s.heap H locs → lv_has ls 4 [(0, .ref q0), (1, .int x1), (2, .int x2_5), (3, .int x3_5)] → W p l e rmX1_seenOnBoard s m args below meth c H locs 0 0 Q (F0 m 5 ls []) := by
    intro n
    induction n with
    | zero => intro x2_5 x3_5 H locs ls hf; exact absurd hf (by simp [it2])
    | succ n ih5 =>
      intro x2_5 x3_5 H locs ls hf hP hD hS hl
      have hf : X1_seenOnBoard_S5 z_weights_cells z_brought x1 (it2 (X1_seenOnBoard_S5 z_weights_cells z_brought x1) n) x2_5 x3_5 = some r := hf
      generalize it2 (X1_seenOnBoard_S5 z_weights_cells z_brought x1) n = self_5 at hf ih5
      unfold X1_seenOnBoard_S5 at hf
      refine lv_iload_n hx hb dX1_seenOnBoard_5 rfl (lv_at hl 3 rfl) ?_
      refine lv_iconst (v := 4) hx hb dX1_seenOnBoard_6 (by decide) ?_
      refine lv_icmp_ge (tgt := 46) hx hb dX1_seenOnBoard_7 (by decide) (fun hc_7 => ?_) (fun hc_7 => ?_)
      · have hf := it_t hf hc_7
        refine lv_iload_n hx hb dX1_seenOnBoard_46 rfl (lv_at hl 2 rfl) ?_
        exact hret' _ _ _ _ _ dX1_seenOnBoard_47 hf hP hD hS
      · have hf := it_f hf hc_7
        refine lv_aload_n hx hb dX1_seenOnBoard_10 rfl (lv_at hl 0 rfl) ?_
        refine va_get (D := D) (ci := 1) (v := .ref q_weights) (C := RX1) (T := TX1) (N := 8) hx hb hts kc1 hown hK hP 0 rfl rfl 0 (by decide) kw0 (fun _ h9 => h9) rfl dX1_seenOnBoard_11 ?_
        refine lv_iload_n hx hb dX1_seenOnBoard_14 rfl (lv_at hl 1 rfl) ?_
        refine lv_iload_n hx hb dX1_seenOnBoard_15 rfl (lv_at hl 3 rfl) ?_
        obtain ⟨r_16, hr_16, hf⟩ := bd_some hf
        refine cl_i (wc := [(q_weights, oB 4 [.ref q_weights_cells]), (q_weights_cells, aI cy 24 z_weights_cells)]) (w1 := [(q_weights, oB 4 [.ref q_weights_cells]), (q_weights_cells, aI cy 24 z_weights_cells)]) (wr := [(q0, oB 1 [.ref q_weights, .ref q_brought, .ref q_left, .ref q_spoons, .ref q_health, .int z_eaten, .int z_year, .int z_lot]), (q_brought, aI cy 6 z_brought)]) (w2 := [(q0, oB 1 [.ref q_weights, .ref q_brought, .ref q_left, .ref q_spoons, .ref q_health, .int z_eaten, .int z_year, .int z_lot]), (q_weights, oB 4 [.ref q_weights_cells]), (q_weights_cells, aI cy 24 z_weights_cells), (q_brought, aI cy 6 z_brought)]) (va_runVN (C := RX4) (host := "EachBrings") (As := [.int x1, .int x3_5]) (rest := []) ⟨hx, hb, hml, hown, hts⟩ (ktX4_of l D cy q_weights q_weights_cells z_weights_cells x1 x3_5 r_16 hr_16 _) ⟨va_cnB 2 hts gX1_seenOnBoard_X4_of_n60 rfl rfl rfl (hN.at 47 rfl) kw2 (by decide +kernel) ⟨Nat.le_of_ble_eq_true rfl, Nat.le_of_ble_eq_true rfl⟩, kw3, kw4⟩ (pre_V (wc := [(q_weights, oB 4 [.ref q_weights_cells]), (q_weights_cells, aI cy 24 z_weights_cells)]) (ci := 4) hcx hsx hS hA hP hD [1, 2] rfl (by decide) rfl rfl) rfl rfl hl.1 rfl (lv_room (Nat.le_of_ble_eq_true rfl)) dX1_seenOnBoard_16 ⟨Nat.zero_le _, Nat.zero_le _⟩) hP hD hS hA [1, 2] [0, 3] [0, 2, 3, 1] rfl rfl (by decide) (by decide) (by decide) rfl (fun H locs hP hD hS => ?_)
        have hJ40 : ∀ (x2_40 : Int32) (H : Heap) (locs : List Loc) (ls : Array Slot), X1_seenOnBoard_J40 x3_5 self_5 x2_40 = some r → va_P D vwCl [(q0, oB 1 [.ref q_weights, .ref q_brought, .ref q_left, .ref q_spoons, .ref q_health, .int z_eaten, .int z_year, .int z_lot]), (q_weights, oB 4 [.ref q_weights_cells]), (q_weights_cells, aI cy 24 z_weights_cells), (q_brought, aI cy 6 z_brought)] H → va_D A [(q0, oB 1 [.ref q_weights, .ref q_brought, .ref q_left, .ref q_spoons, .ref q_health, .int z_eaten, .int z_year, .int z_lot]), (q_weights, oB 4 [.ref q_weights_cells]), (q_weights_cells, aI cy 24 z_weights_cells), (q_brought, aI cy 6 z_brought)] → va_S A s.heap H locs → lv_has ls 4 [(0, .ref q0), (1, .int x1), (2, .int x2_40), (3, .int x3_5)] → W p l e rmX1_seenOnBoard s m args below meth c H locs 0 0 Q (F0 m 40 ls []) := by
          intro x2_40 H locs ls hf hP hD hS hl
          unfold X1_seenOnBoard_J40 at hf
          obtain ⟨x3_40, ex3_40⟩ : ∃ y : Int32, y = x3_5 + (1 : Int32) := ⟨_, rfl⟩
          have hf := lets_at hf ex3_40
          refine lv_iinc (v := x3_40) (lv' := [(3, .int x3_40), (0, .ref q0), (1, .int x1), (2, .int x2_40)]) hx hb dX1_seenOnBoard_40 hl (k := 3) rfl (by rw [ex3_40]; rfl) (by decide) rfl (fun ls hl => ?_)
          refine lv_goto (tgt := 5) hx hb dX1_seenOnBoard_43 (by decide) ?_
          exact ih5 x2_40 x3_40 _ _ _ hf hP hD hS (lv_sub hl [1, 2, 3, 0] rfl)
        refine lv_if_le (tgt := 40) hx hb dX1_seenOnBoard_19 (by decide) (fun hc_19 => ?_) (fun hc_19 => ?_)
        · have hf := it_t hf hc_19
          exact hJ40 x2_5 _ _ _ hf hP hD hS (lv_sub hl [0, 1, 2, 3] rfl)
        · have hf := it_f hf hc_19
          refine lv_iload_n hx hb dX1_seenOnBoard_22 rfl (lv_at hl 2 rfl) ?_
          refine lv_bipush (v := -9) hx hb dX1_seenOnBoard_23 (by decide) ?_
          have hJ38 : ∀ (H : Heap) (locs : List Loc) (ls : Array Slot), X1_seenOnBoard_J38 x3_5 self_5 = some r → va_P D vwCl [(q0, oB 1 [.ref q_weights, .ref q_brought, .ref q_left, .ref q_spoons, .ref q_health, .int z_eaten, .int z_year, .int z_lot]), (q_weights, oB 4 [.ref q_weights_cells]), (q_weights_cells, aI cy 24 z_weights_cells), (q_brought, aI cy 6 z_brought)] H → va_D A [(q0, oB 1 [.ref q_weights, .ref q_brought, .ref q_left, .ref q_spoons, .ref q_health, .int z_eaten, .int z_year, .int z_lot]), (q_weights, oB 4 [.ref q_weights_cells]), (q_weights_cells, aI cy 24 z_weights_cells), (q_brought, aI cy 6 z_brought)] → va_S A s.heap H locs → lv_has ls 4 [(0, .ref q0), (1, .int x1), (3, .int x3_5)] → W p l e rmX1_seenOnBoard s m args below meth c H locs 0 0 Q (F0 m 38 ls []) := by
            intro H locs ls hf hP hD hS hl
            unfold X1_seenOnBoard_J38 at hf
            refine lv_iload_n hx hb dX1_seenOnBoard_38 rfl (lv_at hl 2 rfl) ?_
            refine lv_istore_n (lv' := [(2, .int x3_5), (0, .ref q0), (1, .int x1), (3, .int x3_5)]) hx hb dX1_seenOnBoard_39 rfl hl (by decide) rfl (fun ls hl => ?_)
            exact hJ40 x3_5 _ _ _ hf hP hD hS (lv_sub hl [1, 2, 0, 3] rfl)
          refine lv_icmp_eq (tgt := 38) hx hb dX1_seenOnBoard_25 (by decide) (fun hc_25 => ?_) (fun hc_25 => ?_)
          · have hf := it_t hf hc_25
            exact hJ38 _ _ _ hf hP hD hS (lv_sub hl [0, 1, 3] rfl)
          · have hf := it_f hf hc_25
            refine lv_aload_n hx hb dX1_seenOnBoard_28 rfl (lv_at hl 0 rfl) ?_
            refine lv_iload_n hx hb dX1_seenOnBoard_29 rfl (lv_at hl 1 rfl) ?_
            refine lv_iload_n hx hb dX1_seenOnBoard_30 rfl (lv_at hl 3 rfl) ?_
            refine lv_iload_n hx hb dX1_seenOnBoard_31 rfl (lv_at hl 2 rfl) ?_
            obtain ⟨r_32, hr_32, hf⟩ := bd_some hf
            refine cl_i (wc := [(q0, oB 1 [.ref q_weights, .ref q_brought, .ref q_left, .ref q_spoons, .ref q_health, .int z_eaten, .int z_year, .int z_lot]), (q_weights, oB 4 [.ref q_weights_cells]), (q_weights_cells, aI cy 24 z_weights_cells), (q_brought, aI cy 6 z_brought)]) (w1 := [(q0, oB 1 [.ref q_weights, .ref q_brought, .ref q_left, .ref q_spoons, .ref q_health, .int z_eaten, .int z_year, .int z_lot]), (q_weights, oB 4 [.ref q_weights_cells]), (q_weights_cells, aI cy 24 z_weights_cells), (q_brought, aI cy 6 z_brought)]) (wr := []) (w2 := [(q0, oB 1 [.ref q_weights, .ref q_brought, .ref q_left, .ref q_spoons, .ref q_health, .int z_eaten, .int z_year, .int z_lot]), (q_weights, oB 4 [.ref q_weights_cells]), (q_weights_cells, aI cy 24 z_weights_cells), (q_brought, aI cy 6 z_brought)]) (va_runV (As := [.int x1, .int x3_5, .int x2_5]) (rest := []) ⟨hx, hb, hml, hown, hts⟩ (ktX1_isBetter l D cy q0 q_weights q_brought q_left q_spoons q_health q_weights_cells z_eaten z_year z_lot z_weights_cells z_brought x1 x3_5 x2_5 r_32 hr_32 _) (cwV 3 hts gX1_seenOnBoard_X1_isBetter rfl rfl rfl (by decide +kernel) ⟨Nat.le_of_ble_eq_true rfl, Nat.le_of_ble_eq_true rfl⟩) (pre_V (wc := [(q0, oB 1 [.ref q_weights, .ref q_brought, .ref q_left, .ref q_spoons, .ref q_health, .int z_eaten, .int z_year, .int z_lot]), (q_weights, oB 4 [.ref q_weights_cells]), (q_weights_cells, aI cy 24 z_weights_cells), (q_brought, aI cy 6 z_brought)]) (ci := 1) hcx hsx hS hA hP hD [0, 1, 2, 3] rfl (by decide) rfl rfl) rfl rfl hl.1 rfl (lv_room (Nat.le_of_ble_eq_true rfl)) dX1_seenOnBoard_32 ⟨Nat.zero_le _, Nat.zero_le _⟩) hP hD hS hA [0, 1, 2, 3] [] [0, 1, 2, 3] rfl rfl (by decide) (by decide) (by decide) rfl (fun H locs hP hD hS => ?_)
            refine lv_if_eq (tgt := 40) hx hb dX1_seenOnBoard_35 (by decide) (fun hc_35 => ?_) (fun hc_35 => ?_)
            · have hf := it_t hf hc_35
              exact hJ40 x2_5 _ _ _ hf hP hD hS (lv_sub hl [0, 1, 2, 3] rfl)
            · have hf := it_f hf hc_35
              exact hJ38 _ _ _ hf hP hD hS (lv_sub hl [0, 1, 3] rfl)
  exact hL5 _ (-9 : Int32) (0 : Int32) _ _ _ hf hP hD hS (lv_sub hl [2, 3, 1, 0] rfl)

def X1_fullest_J45 (x4_8 : Int32) (self_8 : Int32 → Int32 → Int32 → Option Int32) (x2_45 : Int32) (x3_45 : Int32) : Option Int32 := lets (x4_8 + (1 : Int32)) (fun x4_45 => self_8 x2_45 x3_45 x4_45)
def X1_fullest_S8 (z_left : Nat → Int32) (x1 : Int32) (self_8 : Int32 → Int32 → Int32 → Option Int32) (x2_8 : Int32) (x3_8 : Int32) (x4_8 : Int32) : Option Int32 := if (4 : Int32) ≤ x4_8 then (some x2_8) else (if ((x1 >>> (x4_8 &&& 31)) &&& (1 : Int32)) = 0 then (gd (okx x4_8 4) (if (z_left x4_8.toNatClampNeg) ≤ x3_8 then (X1_fullest_J45 x4_8 self_8 x2_8 x3_8) else (gd (okx x4_8 4) (lets (z_left x4_8.toNatClampNeg) (fun x3_44 => X1_fullest_J45 x4_8 self_8 x4_8 x3_44))))) else (X1_fullest_J45 x4_8 self_8 x2_8 x3_8))
def fX1_fullest (z_left : Nat → Int32) (x1 : Int32) : Option Int32 := it3 (X1_fullest_S8 z_left x1) 100000 (-9 : Int32) (0 : Int32) (0 : Int32)
abbrev rmX1_fullest : Room := { frames := 0, cells := 0, slots := 0, locals := 0 }
set_option maxHeartbeats 4000000 in
set_option maxRecDepth 100000 in
theorem ktX1_fullest (l : Launch) (D : va_G) (cy : Nat → ClassId) (q0 : Nat) (q_weights : Nat) (q_brought : Nat) (q_left : Nat) (q_spoons : Nat) (q_health : Nat) (z_eaten : Int32) (z_year : Int32) (z_lot : Int32) (z_left : Nat → Int32) (x1 : Int32) (r : Int32) (hf : fX1_fullest z_left x1 = some r) : CtI l yX1_fullest wsX1_fullest rmX1_fullest D cy [.ref q0, .int x1] [(q0, oB 1 [.ref q_weights, .ref q_brought, .ref q_left, .ref q_spoons, .ref q_health, .int z_eaten, .int z_year, .int z_lot]), (q_left, aI cy 4 z_left)] [(q0, oB 1 [.ref q_weights, .ref q_brought, .ref q_left, .ref q_spoons, .ref q_health, .int z_eaten, .int z_year, .int z_lot]), (q_left, aI cy 4 z_left)] r := by
  refine Ct_ofI (cc := cX1_fullest) (nL := 5) (by decide) rfl (Nat.le_of_ble_eq_true rfl) ?_
  intro p e s m args below meth c A Q hM hret hP hD hS ls hl
  obtain ⟨hx, hb, hml, hown, hts, hcx, hA, hsx⟩ := hM
  have hown : s.vm.findClass RX1 = some m.cls := hown
  have hK := hcx.1
  have hN := hcx.2
  have kw0 := hts (.fieldLink RX1 22 "EachBrings$Now" "left" "[I") (List.mem_of_getElem? (i := 1) rfl)
  have kc1 : ∀ w ∈ wsX10, w ∈ wsX1_fullest := fun _ h => List.mem_cons_of_mem _ (List.mem_append_right _ h)
  have hl : lv_has ls 5 [(0, .ref q0), (1, .int x1)] := hl
  have hret' : ∀ (pc : Nat) (ls : Array Slot) (H : Heap) (locs : List Loc) (v : Int32), decode cX1_fullest pc = .ok (.ireturn, 1) → some v = some r → va_P D vwCl [(q0, oB 1 [.ref q_weights, .ref q_brought, .ref q_left, .ref q_spoons, .ref q_health, .int z_eaten, .int z_year, .int z_lot]), (q_left, aI cy 4 z_left)] H → va_D A [(q0, oB 1 [.ref q_weights, .ref q_brought, .ref q_left, .ref q_spoons, .ref q_health, .int z_eaten, .int z_year, .int z_lot]), (q_left, aI cy 4 z_left)] → va_S A s.heap H locs → W p l e rmX1_fullest s m args below meth c H locs 0 0 Q (F0 m pc ls [.int v]) := by
    intro pc ls H locs v hd he hP hD hS
    cases he
    exact hret _ _ _ _ _ hd rfl hP hD hS
  unfold fX1_fullest at hf
  refine lv_bipush (v := -9) hx hb dX1_fullest_0 (by decide) ?_
  refine lv_istore_n (lv' := [(2, .int (-9 : Int32)), (0, .ref q0), (1, .int x1)]) hx hb dX1_fullest_2 rfl hl (by decide) rfl (fun ls hl => ?_)
  refine lv_iconst (v := 0) hx hb dX1_fullest_3 (by decide) ?_
  refine lv_istore_n (lv' := [(3, .int (0 : Int32)), (2, .int (-9 : Int32)), (0, .ref q0), (1, .int x1)]) hx hb dX1_fullest_4 rfl hl (by decide) rfl (fun ls hl => ?_)
  refine lv_iconst (v := 0) hx hb dX1_fullest_5 (by decide) ?_
  refine lv_istore (lv' := [(4, .int (0 : Int32)), (3, .int (0 : Int32)), (2, .int (-9 : Int32)), (0, .ref q0), (1, .int x1)]) hx hb dX1_fullest_6 hl (by decide) rfl (fun ls hl => ?_)
  have hL8 : ∀ (n : Nat) (x2_8 : Int32) (x3_8 : Int32) (x4_8 : Int32) (H : Heap) (locs : List Loc) (ls : Array Slot), it3 (X1_fullest_S8 z_left x1) n x2_8 x3_8 x4_8 = some r → va_P D vwCl [(q0, oB 1 [.ref q_weights, .ref q_brought, .ref q_left, .ref q_spoons, .ref q_health, .int z_eaten, .int z_year, .int z_lot]), (q_left, aI cy 4 z_left)] H → va_D A [(q0, oB 1 [.ref q_weights, .ref q_brought, .ref q_left, .ref q_spoons, .ref q_health, .int z_eaten, .int z_year, .int z_lot]), (q_left, aI cy 4 z_left)] → va_S A s.heap H locs → lv_has ls 5 [(0, .ref q0), (1, .int x1), (2, .int x2_8), (3, .int x3_8), (4, .int x4_8)] → W p l e rmX1_fullest s m args below meth c H locs 0 0 Q (F0 m 8 ls []) := by
    intro n
    induction n with
    | zero => intro x2_8 x3_8 x4_8 H locs ls hf; exact absurd hf (by simp [it3])
    | succ n ih8 =>
      intro x2_8 x3_8 x4_8 H locs ls hf hP hD hS hl
      have hf : X1_fullest_S8 z_left x1 (it3 (X1_fullest_S8 z_left x1) n) x2_8 x3_8 x4_8 = some r := hf
      generalize it3 (X1_fullest_S8 z_left x1) n = self_8 at hf ih8
      unfold X1_fullest_S8 at hf
      refine lv_iload hx hb dX1_fullest_8 (lv_at hl 4 rfl) ?_
      refine lv_iconst (v := 4) hx hb dX1_fullest_10 (by decide) ?_
      refine lv_icmp_ge (tgt := 51) hx hb dX1_fullest_11 (by decide) (fun hc_11 => ?_) (fun hc_11 => ?_)
      · have hf := it_t hf hc_11
        refine lv_iload_n hx hb dX1_fullest_51 rfl (lv_at hl 2 rfl) ?_
        exact hret' _ _ _ _ _ dX1_fullest_52 hf hP hD hS
      · have hf := it_f hf hc_11
        refine lv_iload_n hx hb dX1_fullest_14 rfl (lv_at hl 1 rfl) ?_
        refine lv_iload hx hb dX1_fullest_15 (lv_at hl 4 rfl) ?_
        refine lv_ishr hx hb dX1_fullest_17 ?_
        refine lv_iconst (v := 1) hx hb dX1_fullest_18 (by decide) ?_
        refine lv_iand hx hb dX1_fullest_19 ?_
        have hJ45 : ∀ (x2_45 : Int32) (x3_45 : Int32) (H : Heap) (locs : List Loc) (ls : Array Slot), X1_fullest_J45 x4_8 self_8 x2_45 x3_45 = some r → va_P D vwCl [(q0, oB 1 [.ref q_weights, .ref q_brought, .ref q_left, .ref q_spoons, .ref q_health, .int z_eaten, .int z_year, .int z_lot]), (q_left, aI cy 4 z_left)] H → va_D A [(q0, oB 1 [.ref q_weights, .ref q_brought, .ref q_left, .ref q_spoons, .ref q_health, .int z_eaten, .int z_year, .int z_lot]), (q_left, aI cy 4 z_left)] → va_S A s.heap H locs → lv_has ls 5 [(0, .ref q0), (1, .int x1), (2, .int x2_45), (3, .int x3_45), (4, .int x4_8)] → W p l e rmX1_fullest s m args below meth c H locs 0 0 Q (F0 m 45 ls []) := by
          intro x2_45 x3_45 H locs ls hf hP hD hS hl
          unfold X1_fullest_J45 at hf
          obtain ⟨x4_45, ex4_45⟩ : ∃ y : Int32, y = x4_8 + (1 : Int32) := ⟨_, rfl⟩
          have hf := lets_at hf ex4_45
          refine lv_iinc (v := x4_45) (lv' := [(4, .int x4_45), (0, .ref q0), (1, .int x1), (2, .int x2_45), (3, .int x3_45)]) hx hb dX1_fullest_45 hl (k := 4) rfl (by rw [ex4_45]; rfl) (by decide) rfl (fun ls hl => ?_)
          refine lv_goto (tgt := 8) hx hb dX1_fullest_48 (by decide) ?_
          exact ih8 x2_45 x3_45 x4_45 _ _ _ hf hP hD hS (lv_sub hl [1, 2, 3, 4, 0] rfl)
        refine lv_if_ne (tgt := 45) hx hb dX1_fullest_20 (by decide) (fun hc_20 => ?_) (fun hc_20 => ?_)
        · have hf := it_f hf hc_20
          exact hJ45 x2_8 x3_8 _ _ _ hf hP hD hS (lv_sub hl [0, 1, 2, 3, 4] rfl)
        · have hf := it_t hf hc_20
          refine lv_aload_n hx hb dX1_fullest_23 rfl (lv_at hl 0 rfl) ?_
          refine va_get (D := D) (ci := 1) (v := .ref q_left) (C := RX1) (T := TX1) (N := 8) hx hb hts kc1 hown hK hP 0 rfl rfl 2 (by decide) kw0 (fun _ h9 => h9) rfl dX1_fullest_24 ?_
          refine lv_iload hx hb dX1_fullest_27 (lv_at hl 4 rfl) ?_
          obtain ⟨hg_29, hf⟩ := gd_some hf
          refine va_iald hx hb hK hP 1 0 rfl rfl hg_29 dX1_fullest_29 ?_
          refine lv_iload_n hx hb dX1_fullest_30 rfl (lv_at hl 3 rfl) ?_
          refine lv_icmp_le (tgt := 45) hx hb dX1_fullest_31 (by decide) (fun hc_31 => ?_) (fun hc_31 => ?_)
          · have hf := it_t hf hc_31
            exact hJ45 x2_8 x3_8 _ _ _ hf hP hD hS (lv_sub hl [0, 1, 2, 3, 4] rfl)
          · have hf := it_f hf hc_31
            refine lv_iload hx hb dX1_fullest_34 (lv_at hl 4 rfl) ?_
            refine lv_istore_n (lv' := [(2, .int x4_8), (0, .ref q0), (1, .int x1), (3, .int x3_8), (4, .int x4_8)]) hx hb dX1_fullest_36 rfl hl (by decide) rfl (fun ls hl => ?_)
            refine lv_aload_n hx hb dX1_fullest_37 rfl (lv_at hl 1 rfl) ?_
            refine va_get (D := D) (ci := 1) (v := .ref q_left) (C := RX1) (T := TX1) (N := 8) hx hb hts kc1 hown hK hP 0 rfl rfl 2 (by decide) kw0 (fun _ h9 => h9) rfl dX1_fullest_38 ?_
            refine lv_iload hx hb dX1_fullest_41 (lv_at hl 4 rfl) ?_
            obtain ⟨hg_43, hf⟩ := gd_some hf
            refine va_iald hx hb hK hP 1 0 rfl rfl hg_43 dX1_fullest_43 ?_
            refine lv_topi (fun x3_44 ex3_44 => ?_)
            have hf := lets_at hf ex3_44
            refine lv_istore_n (lv' := [(3, .int x3_44), (2, .int x4_8), (0, .ref q0), (1, .int x1), (4, .int x4_8)]) hx hb dX1_fullest_44 rfl hl (by decide) rfl (fun ls hl => ?_)
            exact hJ45 x4_8 x3_44 _ _ _ hf hP hD hS (lv_sub hl [2, 3, 1, 0, 4] rfl)
  exact hL8 _ (-9 : Int32) (0 : Int32) (0 : Int32) _ _ _ hf hP hD hS (lv_sub hl [3, 4, 2, 1, 0] rfl)

def X1_feed_S3 (x1 : Int32) (x2 : Int32) (x3 : Int32) (self_3 : Int32 → (Nat → Int32) → (Nat → Int32) → Option (Int32 × (Nat → Int32) × (Nat → Int32))) (x4_3 : Int32) (z_left_3 : Nat → Int32) (z_spoons_3 : Nat → Int32) : Option (Int32 × (Nat → Int32) × (Nat → Int32)) := if x2 ≤ x4_3 then (some (x2, z_left_3, z_spoons_3)) else ((fX1_fullest z_left_3 x3).bind (fun r_11 => if r_11 = (-9 : Int32) then (some (x4_3, z_left_3, z_spoons_3)) else (gd (okx r_11 4) (gd (okx r_11 4) (lets (upd z_left_3 r_11.toNatClampNeg ((z_left_3 r_11.toNatClampNeg) - (1 : Int32))) (fun z_left_36 => gd (okx ((x1 * (4 : Int32)) + r_11) 24) (gd (okx ((x1 * (4 : Int32)) + r_11) 24) (lets (upd z_spoons_3 ((x1 * (4 : Int32)) + r_11).toNatClampNeg ((z_spoons_3 ((x1 * (4 : Int32)) + r_11).toNatClampNeg) + (1 : Int32))) (fun z_spoons_51 => lets (x4_3 + (1 : Int32)) (fun x4_52 => self_3 x4_52 z_left_36 z_spoons_51))))))))))
def fX1_feed (z_left : Nat → Int32) (z_spoons : Nat → Int32) (x1 : Int32) (x2 : Int32) (x3 : Int32) : Option (Int32 × (Nat → Int32) × (Nat → Int32)) := it3 (X1_feed_S3 x1 x2 x3) 100000 (0 : Int32) z_left z_spoons
abbrev rmX1_feed : Room := { frames := 1, cells := 0, slots := 0, locals := 24 }
set_option maxHeartbeats 4000000 in
set_option maxRecDepth 100000 in
theorem ktX1_feed (l : Launch) (D : va_G) (cy : Nat → ClassId) (q0 : Nat) (q_weights : Nat) (q_brought : Nat) (q_left : Nat) (q_spoons : Nat) (q_health : Nat) (z_eaten : Int32) (z_year : Int32) (z_lot : Int32) (z_left : Nat → Int32) (z_spoons : Nat → Int32) (x1 : Int32) (x2 : Int32) (x3 : Int32) (r : Int32 × (Nat → Int32) × (Nat → Int32)) (hf : fX1_feed z_left z_spoons x1 x2 x3 = some r) : CtI l yX1_feed wsX1_feed rmX1_feed D cy [.ref q0, .int x1, .int x2, .int x3] [(q0, oB 1 [.ref q_weights, .ref q_brought, .ref q_left, .ref q_spoons, .ref q_health, .int z_eaten, .int z_year, .int z_lot]), (q_left, aI cy 4 z_left), (q_spoons, aI cy 24 z_spoons)] [(q0, oB 1 [.ref q_weights, .ref q_brought, .ref q_left, .ref q_spoons, .ref q_health, .int z_eaten, .int z_year, .int z_lot]), (q_left, aI cy 4 r.2.1), (q_spoons, aI cy 24 r.2.2)] r.1 := by
  refine Ct_ofI (cc := cX1_feed) (nL := 6) (by decide) rfl (Nat.le_of_ble_eq_true rfl) ?_
  intro p e s m args below meth c A Q hM hret hP hD hS ls hl
  obtain ⟨hx, hb, hml, hown, hts, hcx, hA, hsx⟩ := hM
  have hown : s.vm.findClass RX1 = some m.cls := hown
  have hK := hcx.1
  have hN := hcx.2
  have kw0 := hts (.fieldLink RX1 22 "EachBrings$Now" "left" "[I") (List.mem_of_getElem? (i := 1) rfl)
  have kc1 : ∀ w ∈ wsX10, w ∈ wsX1_feed := fun _ h => List.mem_cons_of_mem _ (List.mem_append_right _ h)
  have kw2 := hts (.fieldLink RX1 25 "EachBrings$Now" "spoons" "[I") (List.mem_of_getElem? (i := 2) rfl)
  have hl : lv_has ls 6 [(0, .ref q0), (1, .int x1), (2, .int x2), (3, .int x3)] := hl
  have hret' : ∀ (pc : Nat) (ls : Array Slot) (H : Heap) (locs : List Loc) (v : Int32) (w0 : Nat → Int32) (w1 : Nat → Int32), decode cX1_feed pc = .ok (.ireturn, 1) → some (v, w0, w1) = some r → va_P D vwCl [(q0, oB 1 [.ref q_weights, .ref q_brought, .ref q_left, .ref q_spoons, .ref q_health, .int z_eaten, .int z_year, .int z_lot]), (q_left, aI cy 4 w0), (q_spoons, aI cy 24 w1)] H → va_D A [(q0, oB 1 [.ref q_weights, .ref q_brought, .ref q_left, .ref q_spoons, .ref q_health, .int z_eaten, .int z_year, .int z_lot]), (q_left, aI cy 4 w0), (q_spoons, aI cy 24 w1)] → va_S A s.heap H locs → W p l e rmX1_feed s m args below meth c H locs 0 0 Q (F0 m pc ls [.int v]) := by
    intro pc ls H locs v w0 w1 hd he hP hD hS
    cases he
    exact hret _ _ _ _ _ hd rfl hP hD hS
  unfold fX1_feed at hf
  refine lv_iconst (v := 0) hx hb dX1_feed_0 (by decide) ?_
  refine lv_istore (lv' := [(4, .int (0 : Int32)), (0, .ref q0), (1, .int x1), (2, .int x2), (3, .int x3)]) hx hb dX1_feed_1 hl (by decide) rfl (fun ls hl => ?_)
  have hL3 : ∀ (n : Nat) (x4_3 : Int32) (z_left_3 : Nat → Int32) (z_spoons_3 : Nat → Int32) (H : Heap) (locs : List Loc) (ls : Array Slot), it3 (X1_feed_S3 x1 x2 x3) n x4_3 z_left_3 z_spoons_3 = some r → va_P D vwCl [(q0, oB 1 [.ref q_weights, .ref q_brought, .ref q_left, .ref q_spoons, .ref q_health, .int z_eaten, .int z_year, .int z_lot]), (q_left, aI cy 4 z_left_3), (q_spoons, aI cy 24 z_spoons_3)] H → va_D A [(q0, oB 1 [.ref q_weights, .ref q_brought, .ref q_left, .ref q_spoons, .ref q_health, .int z_eaten, .int z_year, .int z_lot]), (q_left, aI cy 4 z_left_3), (q_spoons, aI cy 24 z_spoons_3)] → va_S A s.heap H locs → lv_has ls 6 [(0, .ref q0), (1, .int x1), (2, .int x2), (3, .int x3), (4, .int x4_3)] → W p l e rmX1_feed s m args below meth c H locs 0 0 Q (F0 m 3 ls []) := by
    intro n
    induction n with
    | zero => intro x4_3 z_left_3 z_spoons_3 H locs ls hf; exact absurd hf (by simp [it3])
    | succ n ih3 =>
      intro x4_3 z_left_3 z_spoons_3 H locs ls hf hP hD hS hl
      have hf : X1_feed_S3 x1 x2 x3 (it3 (X1_feed_S3 x1 x2 x3) n) x4_3 z_left_3 z_spoons_3 = some r := hf
      generalize it3 (X1_feed_S3 x1 x2 x3) n = self_3 at hf ih3
      unfold X1_feed_S3 at hf
      refine lv_iload hx hb dX1_feed_3 (lv_at hl 4 rfl) ?_
      refine lv_iload_n hx hb dX1_feed_5 rfl (lv_at hl 2 rfl) ?_
      refine lv_icmp_ge (tgt := 58) hx hb dX1_feed_6 (by decide) (fun hc_6 => ?_) (fun hc_6 => ?_)
      · have hf := it_t hf hc_6
        refine lv_iload_n hx hb dX1_feed_58 rfl (lv_at hl 2 rfl) ?_
        exact hret' _ _ _ _ _ _ _ dX1_feed_59 hf hP hD hS
      · have hf := it_f hf hc_6
        refine lv_aload_n hx hb dX1_feed_9 rfl (lv_at hl 0 rfl) ?_
        refine lv_iload_n hx hb dX1_feed_10 rfl (lv_at hl 3 rfl) ?_
        obtain ⟨r_11, hr_11, hf⟩ := bd_some hf
        refine cl_i (wc := [(q0, oB 1 [.ref q_weights, .ref q_brought, .ref q_left, .ref q_spoons, .ref q_health, .int z_eaten, .int z_year, .int z_lot]), (q_left, aI cy 4 z_left_3)]) (w1 := [(q0, oB 1 [.ref q_weights, .ref q_brought, .ref q_left, .ref q_spoons, .ref q_health, .int z_eaten, .int z_year, .int z_lot]), (q_left, aI cy 4 z_left_3)]) (wr := [(q_spoons, aI cy 24 z_spoons_3)]) (w2 := [(q0, oB 1 [.ref q_weights, .ref q_brought, .ref q_left, .ref q_spoons, .ref q_health, .int z_eaten, .int z_year, .int z_lot]), (q_left, aI cy 4 z_left_3), (q_spoons, aI cy 24 z_spoons_3)]) (va_runV (As := [.int x3]) (rest := []) ⟨hx, hb, hml, hown, hts⟩ (ktX1_fullest l D cy q0 q_weights q_brought q_left q_spoons q_health z_eaten z_year z_lot z_left_3 x3 r_11 hr_11 _) (cwV 1 hts gX1_feed_X1_fullest rfl rfl rfl (by decide +kernel) ⟨Nat.le_of_ble_eq_true rfl, Nat.le_of_ble_eq_true rfl⟩) (pre_V (wc := [(q0, oB 1 [.ref q_weights, .ref q_brought, .ref q_left, .ref q_spoons, .ref q_health, .int z_eaten, .int z_year, .int z_lot]), (q_left, aI cy 4 z_left_3)]) (ci := 1) hcx hsx hS hA hP hD [0, 1] rfl (by decide) rfl rfl) rfl rfl hl.1 rfl (lv_room (Nat.le_of_ble_eq_true rfl)) dX1_feed_11 ⟨Nat.zero_le _, Nat.zero_le _⟩) hP hD hS hA [0, 1] [2] [1, 2, 0] rfl rfl (by decide) (by decide) (by decide) rfl (fun H locs hP hD hS => ?_)
        refine lv_istore (lv' := [(5, .int r_11), (0, .ref q0), (1, .int x1), (2, .int x2), (3, .int x3), (4, .int x4_3)]) hx hb dX1_feed_14 hl (by decide) rfl (fun ls hl => ?_)
        refine lv_iload hx hb dX1_feed_16 (lv_at hl 0 rfl) ?_
        refine lv_bipush (v := -9) hx hb dX1_feed_18 (by decide) ?_
        refine lv_icmp_ne (tgt := 26) hx hb dX1_feed_20 (by decide) (fun hc_20 => ?_) (fun hc_20 => ?_)
        · have hf := it_f hf hc_20
          refine lv_aload_n hx hb dX1_feed_26 rfl (lv_at hl 1 rfl) ?_
          refine va_get (D := D) (ci := 1) (v := .ref q_left) (C := RX1) (T := TX1) (N := 8) hx hb hts kc1 hown hK hP 0 rfl rfl 2 (by decide) kw0 (fun _ h9 => h9) rfl dX1_feed_27 ?_
          refine lv_iload hx hb dX1_feed_30 (lv_at hl 0 rfl) ?_
          refine lv_dup2_11 hx hb dX1_feed_32 rfl rfl ?_
          obtain ⟨hg_33, hf⟩ := gd_some hf
          refine va_iald hx hb hK hP 1 0 rfl rfl hg_33 dX1_feed_33 ?_
          refine lv_iconst (v := 1) hx hb dX1_feed_34 (by decide) ?_
          refine lv_isub hx hb dX1_feed_35 ?_
          obtain ⟨hg_36, hf⟩ := gd_some hf
          refine va_iast hx hb hK hP hD hS 1 0 rfl rfl hg_36 dX1_feed_36 (fun H locs hP hD hS => ?_)
          obtain ⟨z_left_36, ez_left_36⟩ : ∃ y : Nat → Int32, y = upd z_left_3 r_11.toNatClampNeg ((z_left_3 r_11.toNatClampNeg) - (1 : Int32)) := ⟨_, rfl⟩
          have hf := lets_at hf ez_left_36
          rw [← ez_left_36] at hP hD
          have hP : va_P D vwCl [(q0, oB 1 [.ref q_weights, .ref q_brought, .ref q_left, .ref q_spoons, .ref q_health, .int z_eaten, .int z_year, .int z_lot]), (q_left, aI cy 4 z_left_36), (q_spoons, aI cy 24 z_spoons_3)] H := hP
          have hD : va_D A [(q0, oB 1 [.ref q_weights, .ref q_brought, .ref q_left, .ref q_spoons, .ref q_health, .int z_eaten, .int z_year, .int z_lot]), (q_left, aI cy 4 z_left_36), (q_spoons, aI cy 24 z_spoons_3)] := hD
          refine lv_aload_n hx hb dX1_feed_37 rfl (lv_at hl 1 rfl) ?_
          refine va_get (D := D) (ci := 1) (v := .ref q_spoons) (C := RX1) (T := TX1) (N := 8) hx hb hts kc1 hown hK hP 0 rfl rfl 3 (by decide) kw2 (fun _ h9 => h9) rfl dX1_feed_38 ?_
          refine lv_iload_n hx hb dX1_feed_41 rfl (lv_at hl 2 rfl) ?_
          refine lv_iconst (v := 4) hx hb dX1_feed_42 (by decide) ?_
          refine lv_imul hx hb dX1_feed_43 ?_
          refine lv_iload hx hb dX1_feed_44 (lv_at hl 0 rfl) ?_
          refine lv_iadd hx hb dX1_feed_46 ?_
          refine lv_dup2_11 hx hb dX1_feed_47 rfl rfl ?_
          obtain ⟨hg_48, hf⟩ := gd_some hf
          refine va_iald hx hb hK hP 2 0 rfl rfl hg_48 dX1_feed_48 ?_
          refine lv_iconst (v := 1) hx hb dX1_feed_49 (by decide) ?_
          refine lv_iadd hx hb dX1_feed_50 ?_
          obtain ⟨hg_51, hf⟩ := gd_some hf
          refine va_iast hx hb hK hP hD hS 2 0 rfl rfl hg_51 dX1_feed_51 (fun H locs hP hD hS => ?_)
          obtain ⟨z_spoons_51, ez_spoons_51⟩ : ∃ y : Nat → Int32, y = upd z_spoons_3 ((x1 * (4 : Int32)) + r_11).toNatClampNeg ((z_spoons_3 ((x1 * (4 : Int32)) + r_11).toNatClampNeg) + (1 : Int32)) := ⟨_, rfl⟩
          have hf := lets_at hf ez_spoons_51
          rw [← ez_spoons_51] at hP hD
          have hP : va_P D vwCl [(q0, oB 1 [.ref q_weights, .ref q_brought, .ref q_left, .ref q_spoons, .ref q_health, .int z_eaten, .int z_year, .int z_lot]), (q_left, aI cy 4 z_left_36), (q_spoons, aI cy 24 z_spoons_51)] H := hP
          have hD : va_D A [(q0, oB 1 [.ref q_weights, .ref q_brought, .ref q_left, .ref q_spoons, .ref q_health, .int z_eaten, .int z_year, .int z_lot]), (q_left, aI cy 4 z_left_36), (q_spoons, aI cy 24 z_spoons_51)] := hD
          obtain ⟨x4_52, ex4_52⟩ : ∃ y : Int32, y = x4_3 + (1 : Int32) := ⟨_, rfl⟩
          have hf := lets_at hf ex4_52
          refine lv_iinc (v := x4_52) (lv' := [(4, .int x4_52), (5, .int r_11), (0, .ref q0), (1, .int x1), (2, .int x2), (3, .int x3)]) hx hb dX1_feed_52 hl (k := 5) rfl (by rw [ex4_52]; rfl) (by decide) rfl (fun ls hl => ?_)
          refine lv_goto (tgt := 3) hx hb dX1_feed_55 (by decide) ?_
          exact ih3 x4_52 z_left_36 z_spoons_51 _ _ _ hf hP hD hS (lv_sub hl [2, 3, 4, 5, 0] rfl)
        · have hf := it_t hf hc_20
          refine lv_iload hx hb dX1_feed_23 (lv_at hl 5 rfl) ?_
          exact hret' _ _ _ _ _ _ _ dX1_feed_25 hf hP hD hS
  exact hL3 _ (0 : Int32) z_left z_spoons _ _ _ hf hP hD hS (lv_sub hl [1, 2, 3, 4, 0] rfl)

def fX1_spoonsOf (z_spoons : Nat → Int32) (x1 : Int32) (x2 : Int32) : Option Int32 := gd (okx ((x1 * (4 : Int32)) + x2) 24) (some (z_spoons ((x1 * (4 : Int32)) + x2).toNatClampNeg))
abbrev rmX1_spoonsOf : Room := { frames := 0, cells := 0, slots := 0, locals := 0 }
set_option maxHeartbeats 4000000 in
set_option maxRecDepth 100000 in
theorem ktX1_spoonsOf (l : Launch) (D : va_G) (cy : Nat → ClassId) (q0 : Nat) (q_weights : Nat) (q_brought : Nat) (q_left : Nat) (q_spoons : Nat) (q_health : Nat) (z_eaten : Int32) (z_year : Int32) (z_lot : Int32) (z_spoons : Nat → Int32) (x1 : Int32) (x2 : Int32) (r : Int32) (hf : fX1_spoonsOf z_spoons x1 x2 = some r) : CtI l yX1_spoonsOf wsX1_spoonsOf rmX1_spoonsOf D cy [.ref q0, .int x1, .int x2] [(q0, oB 1 [.ref q_weights, .ref q_brought, .ref q_left, .ref q_spoons, .ref q_health, .int z_eaten, .int z_year, .int z_lot]), (q_spoons, aI cy 24 z_spoons)] [(q0, oB 1 [.ref q_weights, .ref q_brought, .ref q_left, .ref q_spoons, .ref q_health, .int z_eaten, .int z_year, .int z_lot]), (q_spoons, aI cy 24 z_spoons)] r := by
  refine Ct_ofI (cc := cX1_spoonsOf) (nL := 3) (by decide) rfl (Nat.le_of_ble_eq_true rfl) ?_
  intro p e s m args below meth c A Q hM hret hP hD hS ls hl
  obtain ⟨hx, hb, hml, hown, hts, hcx, hA, hsx⟩ := hM
  have hown : s.vm.findClass RX1 = some m.cls := hown
  have hK := hcx.1
  have hN := hcx.2
  have kw0 := hts (.fieldLink RX1 25 "EachBrings$Now" "spoons" "[I") (List.mem_of_getElem? (i := 1) rfl)
  have kc1 : ∀ w ∈ wsX10, w ∈ wsX1_spoonsOf := fun _ h => List.mem_cons_of_mem _ (List.mem_append_right _ h)
  have hl : lv_has ls 3 [(0, .ref q0), (1, .int x1), (2, .int x2)] := hl
  have hret' : ∀ (pc : Nat) (ls : Array Slot) (H : Heap) (locs : List Loc) (v : Int32), decode cX1_spoonsOf pc = .ok (.ireturn, 1) → some v = some r → va_P D vwCl [(q0, oB 1 [.ref q_weights, .ref q_brought, .ref q_left, .ref q_spoons, .ref q_health, .int z_eaten, .int z_year, .int z_lot]), (q_spoons, aI cy 24 z_spoons)] H → va_D A [(q0, oB 1 [.ref q_weights, .ref q_brought, .ref q_left, .ref q_spoons, .ref q_health, .int z_eaten, .int z_year, .int z_lot]), (q_spoons, aI cy 24 z_spoons)] → va_S A s.heap H locs → W p l e rmX1_spoonsOf s m args below meth c H locs 0 0 Q (F0 m pc ls [.int v]) := by
    intro pc ls H locs v hd he hP hD hS
    cases he
    exact hret _ _ _ _ _ hd rfl hP hD hS
  unfold fX1_spoonsOf at hf
  refine lv_aload_n hx hb dX1_spoonsOf_0 rfl (lv_at hl 0 rfl) ?_
  refine va_get (D := D) (ci := 1) (v := .ref q_spoons) (C := RX1) (T := TX1) (N := 8) hx hb hts kc1 hown hK hP 0 rfl rfl 3 (by decide) kw0 (fun _ h9 => h9) rfl dX1_spoonsOf_1 ?_
  refine lv_iload_n hx hb dX1_spoonsOf_4 rfl (lv_at hl 1 rfl) ?_
  refine lv_iconst (v := 4) hx hb dX1_spoonsOf_5 (by decide) ?_
  refine lv_imul hx hb dX1_spoonsOf_6 ?_
  refine lv_iload_n hx hb dX1_spoonsOf_7 rfl (lv_at hl 2 rfl) ?_
  refine lv_iadd hx hb dX1_spoonsOf_8 ?_
  obtain ⟨hg_9, hf⟩ := gd_some hf
  refine va_iald hx hb hK hP 1 0 rfl rfl hg_9 dX1_spoonsOf_9 ?_
  exact hret' _ _ _ _ _ dX1_spoonsOf_10 hf hP hD hS

def X1_allSpoonsOf_S4 (z_spoons : Nat → Int32) (x1 : Int32) (self_4 : Int32 → Int32 → Option Int32) (x2_4 : Int32) (x3_4 : Int32) : Option Int32 := if (4 : Int32) ≤ x3_4 then (some x2_4) else ((fX1_spoonsOf z_spoons x1 x3_4).bind (fun r_13 => lets (x2_4 + r_13) (fun x2_17 => lets (x3_4 + (1 : Int32)) (fun x3_18 => self_4 x2_17 x3_18))))
def fX1_allSpoonsOf (z_spoons : Nat → Int32) (x1 : Int32) : Option Int32 := it2 (X1_allSpoonsOf_S4 z_spoons x1) 100000 (0 : Int32) (0 : Int32)
abbrev rmX1_allSpoonsOf : Room := { frames := 1, cells := 0, slots := 0, locals := 22 }
set_option maxHeartbeats 4000000 in
set_option maxRecDepth 100000 in
theorem ktX1_allSpoonsOf (l : Launch) (D : va_G) (cy : Nat → ClassId) (q0 : Nat) (q_weights : Nat) (q_brought : Nat) (q_left : Nat) (q_spoons : Nat) (q_health : Nat) (z_eaten : Int32) (z_year : Int32) (z_lot : Int32) (z_spoons : Nat → Int32) (x1 : Int32) (r : Int32) (hf : fX1_allSpoonsOf z_spoons x1 = some r) : CtI l yX1_allSpoonsOf wsX1_allSpoonsOf rmX1_allSpoonsOf D cy [.ref q0, .int x1] [(q0, oB 1 [.ref q_weights, .ref q_brought, .ref q_left, .ref q_spoons, .ref q_health, .int z_eaten, .int z_year, .int z_lot]), (q_spoons, aI cy 24 z_spoons)] [(q0, oB 1 [.ref q_weights, .ref q_brought, .ref q_left, .ref q_spoons, .ref q_health, .int z_eaten, .int z_year, .int z_lot]), (q_spoons, aI cy 24 z_spoons)] r := by
  refine Ct_ofI (cc := cX1_allSpoonsOf) (nL := 4) (by decide) rfl (Nat.le_of_ble_eq_true rfl) ?_
  intro p e s m args below meth c A Q hM hret hP hD hS ls hl
  obtain ⟨hx, hb, hml, hown, hts, hcx, hA, hsx⟩ := hM
  have hown : s.vm.findClass RX1 = some m.cls := hown
  have hK := hcx.1
  have hN := hcx.2
  have hl : lv_has ls 4 [(0, .ref q0), (1, .int x1)] := hl
  have hret' : ∀ (pc : Nat) (ls : Array Slot) (H : Heap) (locs : List Loc) (v : Int32), decode cX1_allSpoonsOf pc = .ok (.ireturn, 1) → some v = some r → va_P D vwCl [(q0, oB 1 [.ref q_weights, .ref q_brought, .ref q_left, .ref q_spoons, .ref q_health, .int z_eaten, .int z_year, .int z_lot]), (q_spoons, aI cy 24 z_spoons)] H → va_D A [(q0, oB 1 [.ref q_weights, .ref q_brought, .ref q_left, .ref q_spoons, .ref q_health, .int z_eaten, .int z_year, .int z_lot]), (q_spoons, aI cy 24 z_spoons)] → va_S A s.heap H locs → W p l e rmX1_allSpoonsOf s m args below meth c H locs 0 0 Q (F0 m pc ls [.int v]) := by
    intro pc ls H locs v hd he hP hD hS
    cases he
    exact hret _ _ _ _ _ hd rfl hP hD hS
  unfold fX1_allSpoonsOf at hf
  refine lv_iconst (v := 0) hx hb dX1_allSpoonsOf_0 (by decide) ?_
  refine lv_istore_n (lv' := [(2, .int (0 : Int32)), (0, .ref q0), (1, .int x1)]) hx hb dX1_allSpoonsOf_1 rfl hl (by decide) rfl (fun ls hl => ?_)
  refine lv_iconst (v := 0) hx hb dX1_allSpoonsOf_2 (by decide) ?_
  refine lv_istore_n (lv' := [(3, .int (0 : Int32)), (2, .int (0 : Int32)), (0, .ref q0), (1, .int x1)]) hx hb dX1_allSpoonsOf_3 rfl hl (by decide) rfl (fun ls hl => ?_)
  have hL4 : ∀ (n : Nat) (x2_4 : Int32) (x3_4 : Int32) (H : Heap) (locs : List Loc) (ls : Array Slot), it2 (X1_allSpoonsOf_S4 z_spoons x1) n x2_4 x3_4 = some r → va_P D vwCl [(q0, oB 1 [.ref q_weights, .ref q_brought, .ref q_left, .ref q_spoons, .ref q_health, .int z_eaten, .int z_year, .int z_lot]), (q_spoons, aI cy 24 z_spoons)] H → va_D A [(q0, oB 1 [.ref q_weights, .ref q_brought, .ref q_left, .ref q_spoons, .ref q_health, .int z_eaten, .int z_year, .int z_lot]), (q_spoons, aI cy 24 z_spoons)] → va_S A s.heap H locs → lv_has ls 4 [(0, .ref q0), (1, .int x1), (2, .int x2_4), (3, .int x3_4)] → W p l e rmX1_allSpoonsOf s m args below meth c H locs 0 0 Q (F0 m 4 ls []) := by
    intro n
    induction n with
    | zero => intro x2_4 x3_4 H locs ls hf; exact absurd hf (by simp [it2])
    | succ n ih4 =>
      intro x2_4 x3_4 H locs ls hf hP hD hS hl
      have hf : X1_allSpoonsOf_S4 z_spoons x1 (it2 (X1_allSpoonsOf_S4 z_spoons x1) n) x2_4 x3_4 = some r := hf
      generalize it2 (X1_allSpoonsOf_S4 z_spoons x1) n = self_4 at hf ih4
      unfold X1_allSpoonsOf_S4 at hf
      refine lv_iload_n hx hb dX1_allSpoonsOf_4 rfl (lv_at hl 3 rfl) ?_
      refine lv_iconst (v := 4) hx hb dX1_allSpoonsOf_5 (by decide) ?_
      refine lv_icmp_ge (tgt := 24) hx hb dX1_allSpoonsOf_6 (by decide) (fun hc_6 => ?_) (fun hc_6 => ?_)
      · have hf := it_t hf hc_6
        refine lv_iload_n hx hb dX1_allSpoonsOf_24 rfl (lv_at hl 2 rfl) ?_
        exact hret' _ _ _ _ _ dX1_allSpoonsOf_25 hf hP hD hS
      · have hf := it_f hf hc_6
        refine lv_iload_n hx hb dX1_allSpoonsOf_9 rfl (lv_at hl 2 rfl) ?_
        refine lv_aload_n hx hb dX1_allSpoonsOf_10 rfl (lv_at hl 0 rfl) ?_
        refine lv_iload_n hx hb dX1_allSpoonsOf_11 rfl (lv_at hl 1 rfl) ?_
        refine lv_iload_n hx hb dX1_allSpoonsOf_12 rfl (lv_at hl 3 rfl) ?_
        obtain ⟨r_13, hr_13, hf⟩ := bd_some hf
        refine cl_i (wc := [(q0, oB 1 [.ref q_weights, .ref q_brought, .ref q_left, .ref q_spoons, .ref q_health, .int z_eaten, .int z_year, .int z_lot]), (q_spoons, aI cy 24 z_spoons)]) (w1 := [(q0, oB 1 [.ref q_weights, .ref q_brought, .ref q_left, .ref q_spoons, .ref q_health, .int z_eaten, .int z_year, .int z_lot]), (q_spoons, aI cy 24 z_spoons)]) (wr := []) (w2 := [(q0, oB 1 [.ref q_weights, .ref q_brought, .ref q_left, .ref q_spoons, .ref q_health, .int z_eaten, .int z_year, .int z_lot]), (q_spoons, aI cy 24 z_spoons)]) (va_runV (As := [.int x1, .int x3_4]) (rest := [.int x2_4]) ⟨hx, hb, hml, hown, hts⟩ (ktX1_spoonsOf l D cy q0 q_weights q_brought q_left q_spoons q_health z_eaten z_year z_lot z_spoons x1 x3_4 r_13 hr_13 _) (cwV 2 hts gX1_allSpoonsOf_X1_spoonsOf rfl rfl rfl (by decide +kernel) ⟨Nat.le_of_ble_eq_true rfl, Nat.le_of_ble_eq_true rfl⟩) (pre_V (wc := [(q0, oB 1 [.ref q_weights, .ref q_brought, .ref q_left, .ref q_spoons, .ref q_health, .int z_eaten, .int z_year, .int z_lot]), (q_spoons, aI cy 24 z_spoons)]) (ci := 1) hcx hsx hS hA hP hD [0, 1] rfl (by decide) rfl rfl) rfl rfl hl.1 rfl (lv_room (Nat.le_of_ble_eq_true rfl)) dX1_allSpoonsOf_13 ⟨Nat.zero_le _, Nat.zero_le _⟩) hP hD hS hA [0, 1] [] [0, 1] rfl rfl (by decide) (by decide) (by decide) rfl (fun H locs hP hD hS => ?_)
        refine lv_iadd hx hb dX1_allSpoonsOf_16 ?_
        refine lv_topi (fun x2_17 ex2_17 => ?_)
        have hf := lets_at hf ex2_17
        refine lv_istore_n (lv' := [(2, .int x2_17), (0, .ref q0), (1, .int x1), (3, .int x3_4)]) hx hb dX1_allSpoonsOf_17 rfl hl (by decide) rfl (fun ls hl => ?_)
        obtain ⟨x3_18, ex3_18⟩ : ∃ y : Int32, y = x3_4 + (1 : Int32) := ⟨_, rfl⟩
        have hf := lets_at hf ex3_18
        refine lv_iinc (v := x3_18) (lv' := [(3, .int x3_18), (2, .int x2_17), (0, .ref q0), (1, .int x1)]) hx hb dX1_allSpoonsOf_18 hl (k := 3) rfl (by rw [ex3_18]; rfl) (by decide) rfl (fun ls hl => ?_)
        refine lv_goto (tgt := 4) hx hb dX1_allSpoonsOf_21 (by decide) ?_
        exact ih4 x2_17 x3_18 _ _ _ hf hP hD hS (lv_sub hl [2, 3, 1, 0] rfl)
  exact hL4 _ (0 : Int32) (0 : Int32) _ _ _ hf hP hD hS (lv_sub hl [2, 3, 1, 0] rfl)

def X1_bringers_S4 (z_brought : Nat → Int32) (self_4 : Int32 → Int32 → Option Int32) (x1_4 : Int32) (x2_4 : Int32) : Option Int32 := if (4 : Int32) ≤ x2_4 then (some x1_4) else ((fX1_bringersOf z_brought x2_4).bind (fun r_12 => lets (x1_4 + r_12) (fun x1_16 => lets (x2_4 + (1 : Int32)) (fun x2_17 => self_4 x1_16 x2_17))))
def fX1_bringers (z_brought : Nat → Int32) : Option Int32 := it2 (X1_bringers_S4 z_brought) 100000 (0 : Int32) (0 : Int32)
abbrev rmX1_bringers : Room := { frames := 1, cells := 0, slots := 0, locals := 23 }
set_option maxHeartbeats 4000000 in
set_option maxRecDepth 100000 in
theorem ktX1_bringers (l : Launch) (D : va_G) (cy : Nat → ClassId) (q0 : Nat) (q_weights : Nat) (q_brought : Nat) (q_left : Nat) (q_spoons : Nat) (q_health : Nat) (z_eaten : Int32) (z_year : Int32) (z_lot : Int32) (z_brought : Nat → Int32) (r : Int32) (hf : fX1_bringers z_brought = some r) : CtI l yX1_bringers wsX1_bringers rmX1_bringers D cy [.ref q0] [(q0, oB 1 [.ref q_weights, .ref q_brought, .ref q_left, .ref q_spoons, .ref q_health, .int z_eaten, .int z_year, .int z_lot]), (q_brought, aI cy 6 z_brought)] [(q0, oB 1 [.ref q_weights, .ref q_brought, .ref q_left, .ref q_spoons, .ref q_health, .int z_eaten, .int z_year, .int z_lot]), (q_brought, aI cy 6 z_brought)] r := by
  refine Ct_ofI (cc := cX1_bringers) (nL := 3) (by decide) rfl (Nat.le_of_ble_eq_true rfl) ?_
  intro p e s m args below meth c A Q hM hret hP hD hS ls hl
  obtain ⟨hx, hb, hml, hown, hts, hcx, hA, hsx⟩ := hM
  have hown : s.vm.findClass RX1 = some m.cls := hown
  have hK := hcx.1
  have hN := hcx.2
  have hl : lv_has ls 3 [(0, .ref q0)] := hl
  have hret' : ∀ (pc : Nat) (ls : Array Slot) (H : Heap) (locs : List Loc) (v : Int32), decode cX1_bringers pc = .ok (.ireturn, 1) → some v = some r → va_P D vwCl [(q0, oB 1 [.ref q_weights, .ref q_brought, .ref q_left, .ref q_spoons, .ref q_health, .int z_eaten, .int z_year, .int z_lot]), (q_brought, aI cy 6 z_brought)] H → va_D A [(q0, oB 1 [.ref q_weights, .ref q_brought, .ref q_left, .ref q_spoons, .ref q_health, .int z_eaten, .int z_year, .int z_lot]), (q_brought, aI cy 6 z_brought)] → va_S A s.heap H locs → W p l e rmX1_bringers s m args below meth c H locs 0 0 Q (F0 m pc ls [.int v]) := by
    intro pc ls H locs v hd he hP hD hS
    cases he
    exact hret _ _ _ _ _ hd rfl hP hD hS
  unfold fX1_bringers at hf
  refine lv_iconst (v := 0) hx hb dX1_bringers_0 (by decide) ?_
  refine lv_istore_n (lv' := [(1, .int (0 : Int32)), (0, .ref q0)]) hx hb dX1_bringers_1 rfl hl (by decide) rfl (fun ls hl => ?_)
  refine lv_iconst (v := 0) hx hb dX1_bringers_2 (by decide) ?_
  refine lv_istore_n (lv' := [(2, .int (0 : Int32)), (1, .int (0 : Int32)), (0, .ref q0)]) hx hb dX1_bringers_3 rfl hl (by decide) rfl (fun ls hl => ?_)
  have hL4 : ∀ (n : Nat) (x1_4 : Int32) (x2_4 : Int32) (H : Heap) (locs : List Loc) (ls : Array Slot), it2 (X1_bringers_S4 z_brought) n x1_4 x2_4 = some r → va_P D vwCl [(q0, oB 1 [.ref q_weights, .ref q_brought, .ref q_left, .ref q_spoons, .ref q_health, .int z_eaten, .int z_year, .int z_lot]), (q_brought, aI cy 6 z_brought)] H → va_D A [(q0, oB 1 [.ref q_weights, .ref q_brought, .ref q_left, .ref q_spoons, .ref q_health, .int z_eaten, .int z_year, .int z_lot]), (q_brought, aI cy 6 z_brought)] → va_S A s.heap H locs → lv_has ls 3 [(0, .ref q0), (1, .int x1_4), (2, .int x2_4)] → W p l e rmX1_bringers s m args below meth c H locs 0 0 Q (F0 m 4 ls []) := by
    intro n
    induction n with
    | zero => intro x1_4 x2_4 H locs ls hf; exact absurd hf (by simp [it2])
    | succ n ih4 =>
      intro x1_4 x2_4 H locs ls hf hP hD hS hl
      have hf : X1_bringers_S4 z_brought (it2 (X1_bringers_S4 z_brought) n) x1_4 x2_4 = some r := hf
      generalize it2 (X1_bringers_S4 z_brought) n = self_4 at hf ih4
      unfold X1_bringers_S4 at hf
      refine lv_iload_n hx hb dX1_bringers_4 rfl (lv_at hl 2 rfl) ?_
      refine lv_iconst (v := 4) hx hb dX1_bringers_5 (by decide) ?_
      refine lv_icmp_ge (tgt := 23) hx hb dX1_bringers_6 (by decide) (fun hc_6 => ?_) (fun hc_6 => ?_)
      · have hf := it_t hf hc_6
        refine lv_iload_n hx hb dX1_bringers_23 rfl (lv_at hl 1 rfl) ?_
        exact hret' _ _ _ _ _ dX1_bringers_24 hf hP hD hS
      · have hf := it_f hf hc_6
        refine lv_iload_n hx hb dX1_bringers_9 rfl (lv_at hl 1 rfl) ?_
        refine lv_aload_n hx hb dX1_bringers_10 rfl (lv_at hl 0 rfl) ?_
        refine lv_iload_n hx hb dX1_bringers_11 rfl (lv_at hl 2 rfl) ?_
        obtain ⟨r_12, hr_12, hf⟩ := bd_some hf
        refine cl_i (wc := [(q0, oB 1 [.ref q_weights, .ref q_brought, .ref q_left, .ref q_spoons, .ref q_health, .int z_eaten, .int z_year, .int z_lot]), (q_brought, aI cy 6 z_brought)]) (w1 := [(q0, oB 1 [.ref q_weights, .ref q_brought, .ref q_left, .ref q_spoons, .ref q_health, .int z_eaten, .int z_year, .int z_lot]), (q_brought, aI cy 6 z_brought)]) (wr := []) (w2 := [(q0, oB 1 [.ref q_weights, .ref q_brought, .ref q_left, .ref q_spoons, .ref q_health, .int z_eaten, .int z_year, .int z_lot]), (q_brought, aI cy 6 z_brought)]) (va_runV (As := [.int x2_4]) (rest := [.int x1_4]) ⟨hx, hb, hml, hown, hts⟩ (ktX1_bringersOf l D cy q0 q_weights q_brought q_left q_spoons q_health z_eaten z_year z_lot z_brought x2_4 r_12 hr_12 _) (cwV 1 hts gX1_bringers_X1_bringersOf rfl rfl rfl (by decide +kernel) ⟨Nat.le_of_ble_eq_true rfl, Nat.le_of_ble_eq_true rfl⟩) (pre_V (wc := [(q0, oB 1 [.ref q_weights, .ref q_brought, .ref q_left, .ref q_spoons, .ref q_health, .int z_eaten, .int z_year, .int z_lot]), (q_brought, aI cy 6 z_brought)]) (ci := 1) hcx hsx hS hA hP hD [0, 1] rfl (by decide) rfl rfl) rfl rfl hl.1 rfl (lv_room (Nat.le_of_ble_eq_true rfl)) dX1_bringers_12 ⟨Nat.zero_le _, Nat.zero_le _⟩) hP hD hS hA [0, 1] [] [0, 1] rfl rfl (by decide) (by decide) (by decide) rfl (fun H locs hP hD hS => ?_)
        refine lv_iadd hx hb dX1_bringers_15 ?_
        refine lv_topi (fun x1_16 ex1_16 => ?_)
        have hf := lets_at hf ex1_16
        refine lv_istore_n (lv' := [(1, .int x1_16), (0, .ref q0), (2, .int x2_4)]) hx hb dX1_bringers_16 rfl hl (by decide) rfl (fun ls hl => ?_)
        obtain ⟨x2_17, ex2_17⟩ : ∃ y : Int32, y = x2_4 + (1 : Int32) := ⟨_, rfl⟩
        have hf := lets_at hf ex2_17
        refine lv_iinc (v := x2_17) (lv' := [(2, .int x2_17), (1, .int x1_16), (0, .ref q0)]) hx hb dX1_bringers_17 hl (k := 2) rfl (by rw [ex2_17]; rfl) (by decide) rfl (fun ls hl => ?_)
        refine lv_goto (tgt := 4) hx hb dX1_bringers_20 (by decide) ?_
        exact ih4 x1_16 x2_17 _ _ _ hf hP hD hS (lv_sub hl [2, 1, 0] rfl)
  exact hL4 _ (0 : Int32) (0 : Int32) _ _ _ hf hP hD hS (lv_sub hl [2, 1, 0] rfl)

def X1_spoonsLeft_S4 (z_left : Nat → Int32) (self_4 : Int32 → Int32 → Option Int32) (x1_4 : Int32) (x2_4 : Int32) : Option Int32 := if (4 : Int32) ≤ x2_4 then (some x1_4) else (gd (okx x2_4 4) (lets (x1_4 + (z_left x2_4.toNatClampNeg)) (fun x1_17 => lets (x2_4 + (1 : Int32)) (fun x2_18 => self_4 x1_17 x2_18))))
def fX1_spoonsLeft (z_left : Nat → Int32) : Option Int32 := it2 (X1_spoonsLeft_S4 z_left) 100000 (0 : Int32) (0 : Int32)
abbrev rmX1_spoonsLeft : Room := { frames := 0, cells := 0, slots := 0, locals := 0 }
set_option maxHeartbeats 4000000 in
set_option maxRecDepth 100000 in
theorem ktX1_spoonsLeft (l : Launch) (D : va_G) (cy : Nat → ClassId) (q0 : Nat) (q_weights : Nat) (q_brought : Nat) (q_left : Nat) (q_spoons : Nat) (q_health : Nat) (z_eaten : Int32) (z_year : Int32) (z_lot : Int32) (z_left : Nat → Int32) (r : Int32) (hf : fX1_spoonsLeft z_left = some r) : CtI l yX1_spoonsLeft wsX1_spoonsLeft rmX1_spoonsLeft D cy [.ref q0] [(q0, oB 1 [.ref q_weights, .ref q_brought, .ref q_left, .ref q_spoons, .ref q_health, .int z_eaten, .int z_year, .int z_lot]), (q_left, aI cy 4 z_left)] [(q0, oB 1 [.ref q_weights, .ref q_brought, .ref q_left, .ref q_spoons, .ref q_health, .int z_eaten, .int z_year, .int z_lot]), (q_left, aI cy 4 z_left)] r := by
  refine Ct_ofI (cc := cX1_spoonsLeft) (nL := 3) (by decide) rfl (Nat.le_of_ble_eq_true rfl) ?_
  intro p e s m args below meth c A Q hM hret hP hD hS ls hl
  obtain ⟨hx, hb, hml, hown, hts, hcx, hA, hsx⟩ := hM
  have hown : s.vm.findClass RX1 = some m.cls := hown
  have hK := hcx.1
  have hN := hcx.2
  have kw0 := hts (.fieldLink RX1 22 "EachBrings$Now" "left" "[I") (List.mem_of_getElem? (i := 1) rfl)
  have kc1 : ∀ w ∈ wsX10, w ∈ wsX1_spoonsLeft := fun _ h => List.mem_cons_of_mem _ (List.mem_append_right _ h)
  have hl : lv_has ls 3 [(0, .ref q0)] := hl
  have hret' : ∀ (pc : Nat) (ls : Array Slot) (H : Heap) (locs : List Loc) (v : Int32), decode cX1_spoonsLeft pc = .ok (.ireturn, 1) → some v = some r → va_P D vwCl [(q0, oB 1 [.ref q_weights, .ref q_brought, .ref q_left, .ref q_spoons, .ref q_health, .int z_eaten, .int z_year, .int z_lot]), (q_left, aI cy 4 z_left)] H → va_D A [(q0, oB 1 [.ref q_weights, .ref q_brought, .ref q_left, .ref q_spoons, .ref q_health, .int z_eaten, .int z_year, .int z_lot]), (q_left, aI cy 4 z_left)] → va_S A s.heap H locs → W p l e rmX1_spoonsLeft s m args below meth c H locs 0 0 Q (F0 m pc ls [.int v]) := by
    intro pc ls H locs v hd he hP hD hS
    cases he
    exact hret _ _ _ _ _ hd rfl hP hD hS
  unfold fX1_spoonsLeft at hf
  refine lv_iconst (v := 0) hx hb dX1_spoonsLeft_0 (by decide) ?_
  refine lv_istore_n (lv' := [(1, .int (0 : Int32)), (0, .ref q0)]) hx hb dX1_spoonsLeft_1 rfl hl (by decide) rfl (fun ls hl => ?_)
  refine lv_iconst (v := 0) hx hb dX1_spoonsLeft_2 (by decide) ?_
  refine lv_istore_n (lv' := [(2, .int (0 : Int32)), (1, .int (0 : Int32)), (0, .ref q0)]) hx hb dX1_spoonsLeft_3 rfl hl (by decide) rfl (fun ls hl => ?_)
  have hL4 : ∀ (n : Nat) (x1_4 : Int32) (x2_4 : Int32) (H : Heap) (locs : List Loc) (ls : Array Slot), it2 (X1_spoonsLeft_S4 z_left) n x1_4 x2_4 = some r → va_P D vwCl [(q0, oB 1 [.ref q_weights, .ref q_brought, .ref q_left, .ref q_spoons, .ref q_health, .int z_eaten, .int z_year, .int z_lot]), (q_left, aI cy 4 z_left)] H → va_D A [(q0, oB 1 [.ref q_weights, .ref q_brought, .ref q_left, .ref q_spoons, .ref q_health, .int z_eaten, .int z_year, .int z_lot]), (q_left, aI cy 4 z_left)] → va_S A s.heap H locs → lv_has ls 3 [(0, .ref q0), (1, .int x1_4), (2, .int x2_4)] → W p l e rmX1_spoonsLeft s m args below meth c H locs 0 0 Q (F0 m 4 ls []) := by
    intro n
    induction n with
    | zero => intro x1_4 x2_4 H locs ls hf; exact absurd hf (by simp [it2])
    | succ n ih4 =>
      intro x1_4 x2_4 H locs ls hf hP hD hS hl
      have hf : X1_spoonsLeft_S4 z_left (it2 (X1_spoonsLeft_S4 z_left) n) x1_4 x2_4 = some r := hf
      generalize it2 (X1_spoonsLeft_S4 z_left) n = self_4 at hf ih4
      unfold X1_spoonsLeft_S4 at hf
      refine lv_iload_n hx hb dX1_spoonsLeft_4 rfl (lv_at hl 2 rfl) ?_
      refine lv_iconst (v := 4) hx hb dX1_spoonsLeft_5 (by decide) ?_
      refine lv_icmp_ge (tgt := 24) hx hb dX1_spoonsLeft_6 (by decide) (fun hc_6 => ?_) (fun hc_6 => ?_)
      · have hf := it_t hf hc_6
        refine lv_iload_n hx hb dX1_spoonsLeft_24 rfl (lv_at hl 1 rfl) ?_
        exact hret' _ _ _ _ _ dX1_spoonsLeft_25 hf hP hD hS
      · have hf := it_f hf hc_6
        refine lv_iload_n hx hb dX1_spoonsLeft_9 rfl (lv_at hl 1 rfl) ?_
        refine lv_aload_n hx hb dX1_spoonsLeft_10 rfl (lv_at hl 0 rfl) ?_
        refine va_get (D := D) (ci := 1) (v := .ref q_left) (C := RX1) (T := TX1) (N := 8) hx hb hts kc1 hown hK hP 0 rfl rfl 2 (by decide) kw0 (fun _ h9 => h9) rfl dX1_spoonsLeft_11 ?_
        refine lv_iload_n hx hb dX1_spoonsLeft_14 rfl (lv_at hl 2 rfl) ?_
        obtain ⟨hg_15, hf⟩ := gd_some hf
        refine va_iald hx hb hK hP 1 0 rfl rfl hg_15 dX1_spoonsLeft_15 ?_
        refine lv_iadd hx hb dX1_spoonsLeft_16 ?_
        refine lv_topi (fun x1_17 ex1_17 => ?_)
        have hf := lets_at hf ex1_17
        refine lv_istore_n (lv' := [(1, .int x1_17), (0, .ref q0), (2, .int x2_4)]) hx hb dX1_spoonsLeft_17 rfl hl (by decide) rfl (fun ls hl => ?_)
        obtain ⟨x2_18, ex2_18⟩ : ∃ y : Int32, y = x2_4 + (1 : Int32) := ⟨_, rfl⟩
        have hf := lets_at hf ex2_18
        refine lv_iinc (v := x2_18) (lv' := [(2, .int x2_18), (1, .int x1_17), (0, .ref q0)]) hx hb dX1_spoonsLeft_18 hl (k := 2) rfl (by rw [ex2_18]; rfl) (by decide) rfl (fun ls hl => ?_)
        refine lv_goto (tgt := 4) hx hb dX1_spoonsLeft_21 (by decide) ?_
        exact ih4 x1_17 x2_18 _ _ _ hf hP hD hS (lv_sub hl [2, 1, 0] rfl)
  exact hL4 _ (0 : Int32) (0 : Int32) _ _ _ hf hP hD hS (lv_sub hl [2, 1, 0] rfl)

def X1_toldHealths_J22 (x2_4 : Int32) (self_4 : Int32 → Int32 → Option Int32) (x1_22 : Int32) : Option Int32 := lets (x2_4 + (1 : Int32)) (fun x2_22 => self_4 x1_22 x2_22)
def X1_toldHealths_S4 (z_health : Nat → Int32) (self_4 : Int32 → Int32 → Option Int32) (x1_4 : Int32) (x2_4 : Int32) : Option Int32 := if (6 : Int32) ≤ x2_4 then (some x1_4) else (gd (okx x2_4 6) (if (z_health x2_4.toNatClampNeg) = 0 then (X1_toldHealths_J22 x2_4 self_4 x1_4) else (lets (x1_4 + (1 : Int32)) (fun x1_19 => X1_toldHealths_J22 x2_4 self_4 x1_19))))
def fX1_toldHealths (z_health : Nat → Int32) : Option Int32 := it2 (X1_toldHealths_S4 z_health) 100000 (0 : Int32) (0 : Int32)
abbrev rmX1_toldHealths : Room := { frames := 0, cells := 0, slots := 0, locals := 0 }
set_option maxHeartbeats 4000000 in
set_option maxRecDepth 100000 in
theorem ktX1_toldHealths (l : Launch) (D : va_G) (cy : Nat → ClassId) (q0 : Nat) (q_weights : Nat) (q_brought : Nat) (q_left : Nat) (q_spoons : Nat) (q_health : Nat) (z_eaten : Int32) (z_year : Int32) (z_lot : Int32) (z_health : Nat → Int32) (r : Int32) (hf : fX1_toldHealths z_health = some r) : CtI l yX1_toldHealths wsX1_toldHealths rmX1_toldHealths D cy [.ref q0] [(q0, oB 1 [.ref q_weights, .ref q_brought, .ref q_left, .ref q_spoons, .ref q_health, .int z_eaten, .int z_year, .int z_lot]), (q_health, aI cy 6 z_health)] [(q0, oB 1 [.ref q_weights, .ref q_brought, .ref q_left, .ref q_spoons, .ref q_health, .int z_eaten, .int z_year, .int z_lot]), (q_health, aI cy 6 z_health)] r := by
  refine Ct_ofI (cc := cX1_toldHealths) (nL := 3) (by decide) rfl (Nat.le_of_ble_eq_true rfl) ?_
  intro p e s m args below meth c A Q hM hret hP hD hS ls hl
  obtain ⟨hx, hb, hml, hown, hts, hcx, hA, hsx⟩ := hM
  have hown : s.vm.findClass RX1 = some m.cls := hown
  have hK := hcx.1
  have hN := hcx.2
  have kw0 := hts (.fieldLink RX1 28 "EachBrings$Now" "health" "[I") (List.mem_of_getElem? (i := 1) rfl)
  have kc1 : ∀ w ∈ wsX10, w ∈ wsX1_toldHealths := fun _ h => List.mem_cons_of_mem _ (List.mem_append_right _ h)
  have hl : lv_has ls 3 [(0, .ref q0)] := hl
  have hret' : ∀ (pc : Nat) (ls : Array Slot) (H : Heap) (locs : List Loc) (v : Int32), decode cX1_toldHealths pc = .ok (.ireturn, 1) → some v = some r → va_P D vwCl [(q0, oB 1 [.ref q_weights, .ref q_brought, .ref q_left, .ref q_spoons, .ref q_health, .int z_eaten, .int z_year, .int z_lot]), (q_health, aI cy 6 z_health)] H → va_D A [(q0, oB 1 [.ref q_weights, .ref q_brought, .ref q_left, .ref q_spoons, .ref q_health, .int z_eaten, .int z_year, .int z_lot]), (q_health, aI cy 6 z_health)] → va_S A s.heap H locs → W p l e rmX1_toldHealths s m args below meth c H locs 0 0 Q (F0 m pc ls [.int v]) := by
    intro pc ls H locs v hd he hP hD hS
    cases he
    exact hret _ _ _ _ _ hd rfl hP hD hS
  unfold fX1_toldHealths at hf
  refine lv_iconst (v := 0) hx hb dX1_toldHealths_0 (by decide) ?_
  refine lv_istore_n (lv' := [(1, .int (0 : Int32)), (0, .ref q0)]) hx hb dX1_toldHealths_1 rfl hl (by decide) rfl (fun ls hl => ?_)
  refine lv_iconst (v := 0) hx hb dX1_toldHealths_2 (by decide) ?_
  refine lv_istore_n (lv' := [(2, .int (0 : Int32)), (1, .int (0 : Int32)), (0, .ref q0)]) hx hb dX1_toldHealths_3 rfl hl (by decide) rfl (fun ls hl => ?_)
  have hL4 : ∀ (n : Nat) (x1_4 : Int32) (x2_4 : Int32) (H : Heap) (locs : List Loc) (ls : Array Slot), it2 (X1_toldHealths_S4 z_health) n x1_4 x2_4 = some r → va_P D vwCl [(q0, oB 1 [.ref q_weights, .ref q_brought, .ref q_left, .ref q_spoons, .ref q_health, .int z_eaten, .int z_year, .int z_lot]), (q_health, aI cy 6 z_health)] H → va_D A [(q0, oB 1 [.ref q_weights, .ref q_brought, .ref q_left, .ref q_spoons, .ref q_health, .int z_eaten, .int z_year, .int z_lot]), (q_health, aI cy 6 z_health)] → va_S A s.heap H locs → lv_has ls 3 [(0, .ref q0), (1, .int x1_4), (2, .int x2_4)] → W p l e rmX1_toldHealths s m args below meth c H locs 0 0 Q (F0 m 4 ls []) := by
    intro n
    induction n with
    | zero => intro x1_4 x2_4 H locs ls hf; exact absurd hf (by simp [it2])
    | succ n ih4 =>
      intro x1_4 x2_4 H locs ls hf hP hD hS hl
      have hf : X1_toldHealths_S4 z_health (it2 (X1_toldHealths_S4 z_health) n) x1_4 x2_4 = some r := hf
      generalize it2 (X1_toldHealths_S4 z_health) n = self_4 at hf ih4
      unfold X1_toldHealths_S4 at hf
      refine lv_iload_n hx hb dX1_toldHealths_4 rfl (lv_at hl 2 rfl) ?_
      refine lv_bipush (v := 6) hx hb dX1_toldHealths_5 (by decide) ?_
      refine lv_icmp_ge (tgt := 28) hx hb dX1_toldHealths_7 (by decide) (fun hc_7 => ?_) (fun hc_7 => ?_)
      · have hf := it_t hf hc_7
        refine lv_iload_n hx hb dX1_toldHealths_28 rfl (lv_at hl 1 rfl) ?_
        exact hret' _ _ _ _ _ dX1_toldHealths_29 hf hP hD hS
      · have hf := it_f hf hc_7
        refine lv_aload_n hx hb dX1_toldHealths_10 rfl (lv_at hl 0 rfl) ?_
        refine va_get (D := D) (ci := 1) (v := .ref q_health) (C := RX1) (T := TX1) (N := 8) hx hb hts kc1 hown hK hP 0 rfl rfl 4 (by decide) kw0 (fun _ h9 => h9) rfl dX1_toldHealths_11 ?_
        refine lv_iload_n hx hb dX1_toldHealths_14 rfl (lv_at hl 2 rfl) ?_
        obtain ⟨hg_15, hf⟩ := gd_some hf
        refine va_iald hx hb hK hP 1 0 rfl rfl hg_15 dX1_toldHealths_15 ?_
        have hJ22 : ∀ (x1_22 : Int32) (H : Heap) (locs : List Loc) (ls : Array Slot), X1_toldHealths_J22 x2_4 self_4 x1_22 = some r → va_P D vwCl [(q0, oB 1 [.ref q_weights, .ref q_brought, .ref q_left, .ref q_spoons, .ref q_health, .int z_eaten, .int z_year, .int z_lot]), (q_health, aI cy 6 z_health)] H → va_D A [(q0, oB 1 [.ref q_weights, .ref q_brought, .ref q_left, .ref q_spoons, .ref q_health, .int z_eaten, .int z_year, .int z_lot]), (q_health, aI cy 6 z_health)] → va_S A s.heap H locs → lv_has ls 3 [(0, .ref q0), (1, .int x1_22), (2, .int x2_4)] → W p l e rmX1_toldHealths s m args below meth c H locs 0 0 Q (F0 m 22 ls []) := by
          intro x1_22 H locs ls hf hP hD hS hl
          unfold X1_toldHealths_J22 at hf
          obtain ⟨x2_22, ex2_22⟩ : ∃ y : Int32, y = x2_4 + (1 : Int32) := ⟨_, rfl⟩
          have hf := lets_at hf ex2_22
          refine lv_iinc (v := x2_22) (lv' := [(2, .int x2_22), (0, .ref q0), (1, .int x1_22)]) hx hb dX1_toldHealths_22 hl (k := 2) rfl (by rw [ex2_22]; rfl) (by decide) rfl (fun ls hl => ?_)
          refine lv_goto (tgt := 4) hx hb dX1_toldHealths_25 (by decide) ?_
          exact ih4 x1_22 x2_22 _ _ _ hf hP hD hS (lv_sub hl [1, 2, 0] rfl)
        refine lv_if_eq (tgt := 22) hx hb dX1_toldHealths_16 (by decide) (fun hc_16 => ?_) (fun hc_16 => ?_)
        · have hf := it_t hf hc_16
          exact hJ22 x1_4 _ _ _ hf hP hD hS (lv_sub hl [0, 1, 2] rfl)
        · have hf := it_f hf hc_16
          obtain ⟨x1_19, ex1_19⟩ : ∃ y : Int32, y = x1_4 + (1 : Int32) := ⟨_, rfl⟩
          have hf := lets_at hf ex1_19
          refine lv_iinc (v := x1_19) (lv' := [(1, .int x1_19), (0, .ref q0), (2, .int x2_4)]) hx hb dX1_toldHealths_19 hl (k := 1) rfl (by rw [ex1_19]; rfl) (by decide) rfl (fun ls hl => ?_)
          exact hJ22 x1_19 _ _ _ hf hP hD hS (lv_sub hl [1, 0, 2] rfl)
  exact hL4 _ (0 : Int32) (0 : Int32) _ _ _ hf hP hD hS (lv_sub hl [2, 1, 0] rfl)
