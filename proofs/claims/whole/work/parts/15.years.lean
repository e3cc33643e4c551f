def X5_yearLike_J41 (x2_2 : Int32) (self_2 : Int32 → Option Int32) : Option Int32 := lets (x2_2 + (1 : Int32)) (fun x2_41 => self_2 x2_41)
def X5_yearLike_S2 (z_early : Nat → Int64) (z_late : Nat → Int64) (x1 : Int32) (self_2 : Int32 → Option Int32) (x2_2 : Int32) : Option Int32 := if x1 ≤ x2_2 then (some (-9 : Int32)) else (gd (okx x2_2 201) (gd (okx x1 201) (if (lg_cmp (z_early x2_2.toNatClampNeg) (z_early x1.toNatClampNeg)) = 0 then (gd (okx x2_2 201) (gd (okx x1 201) (if (lg_cmp (z_late x2_2.toNatClampNeg) (z_late x1.toNatClampNeg)) = 0 then (some x2_2) else (X5_yearLike_J41 x2_2 self_2)))) else (X5_yearLike_J41 x2_2 self_2))))
def fX5_yearLike (z_early : Nat → Int64) (z_late : Nat → Int64) (x1 : Int32) : Option Int32 := it1 (X5_yearLike_S2 z_early z_late x1) 100000 (0 : Int32)
abbrev rmX5_yearLike : Room := { frames := 0, cells := 0, slots := 0, locals := 0 }
set_option maxHeartbeats 4000000 in
set_option maxRecDepth 100000 in
theorem ktX5_yearLike (l : Launch) (D : va_G) (cy : Nat → ClassId) (q0 : Nat) (q_weights : Nat) (q_early : Nat) (q_late : Nat) (q_bringers : Nat) (z_first : Int32) (z_later : Int32) (z_early : Nat → Int64) (z_late : Nat → Int64) (x1 : Int32) (r : Int32) (hf : fX5_yearLike z_early z_late x1 = some r) : CtI l yX5_yearLike wsX5_yearLike rmX5_yearLike D cy [.ref q0, .int x1] [(q0, oB 5 [.ref q_weights, .ref q_early, .ref q_late, .ref q_bringers, .int z_first, .int z_later]), (q_early, aJ cy 201 z_early), (q_late, aJ cy 201 z_late)] [(q0, oB 5 [.ref q_weights, .ref q_early, .ref q_late, .ref q_bringers, .int z_first, .int z_later]), (q_early, aJ cy 201 z_early), (q_late, aJ cy 201 z_late)] r := by
  refine Ct_ofI (cc := cX5_yearLike) (nL := 3) (by decide) rfl (Nat.le_of_ble_eq_true rfl) ?_
  intro p e s m args below meth c A Q hM hret hP hD hS ls hl
  obtain ⟨hx, hb, hml, hown, hts, hcx, hA, hsx⟩ := hM
  have hown : s.vm.findClass RX5 = some m.cls := hown
  have hK := hcx.1
  have hN := hcx.2
  have kw0 := hts (.fieldLink RX5 18 "EachBrings$Years" "early" "[J") (List.mem_of_getElem? (i := 1) rfl)
  have kc1 : ∀ w ∈ wsX50, w ∈ wsX5_yearLike := fun _ h => List.mem_cons_of_mem _ (List.mem_append_right _ h)
  have kw2 := hts (.fieldLink RX5 22 "EachBrings$Years" "late" "[J") (List.mem_of_getElem? (i := 2) rfl)
  have hl : lv_has ls 3 [(0, .ref q0), (1, .int x1)] := hl
  have hret' : ∀ (pc : Nat) (ls : Array Slot) (H : Heap) (locs : List Loc) (v : Int32), decode cX5_yearLike pc = .ok (.ireturn, 1) → some v = some r → va_P D vwCl [(q0, oB 5 [.ref q_weights, .ref q_early, .ref q_late, .ref q_bringers, .int z_first, .int z_later]), (q_early, aJ cy 201 z_early), (q_late, aJ cy 201 z_late)] H → va_D A [(q0, oB 5 [.ref q_weights, .ref q_early, .ref q_late, .ref q_bringers, .int z_first, .int z_later]), (q_early, aJ cy 201 z_early), (q_late, aJ cy 201 z_late)] → va_S A s.heap H locs → W p l e rmX5_yearLike s m args below meth c H locs 0 0 Q (F0 m pc ls [.int v]) := by
    intro pc ls H locs v hd he hP hD hS
    cases he
    exact hret _ _ _ _ _ hd rfl hP hD hS
  unfold fX5_yearLike at hf
  refine lv_iconst (v := 0) hx hb dX5_yearLike_0 (by decide) ?_
  refine lv_istore_n (lv' := [(2, .int (0 : Int32)), (0, .ref q0), (1, .int x1)]) hx hb dX5_yearLike_1 rfl hl (by decide) rfl (fun ls hl => ?_)
  have hL2 : ∀ (n : Nat) (x2_2 : Int32) (H : Heap) (locs : List Loc) (ls : Array Slot), it1 (X5_yearLike_S2 z_early z_late x1) n x2_2 = some r → va_P D vwCl [(q0, oB 5 [.ref q_weights, .ref q_early, .ref q_late, .ref q_bringers, .int z_first, .int z_later]), (q_early, aJ cy 201 z_early), (q_late, aJ cy 201 z_late)] H → va_D A [(q0, oB 5 [.ref q_weights, .ref q_early, .ref q_late, .ref q_bringers, .int z_first, .int z_later]), (q_early, aJ cy 201 z_early), (q_late, aJ cy 201 z_late)] → va_S A s.heap H locs → lv_has ls 3 [(0, .ref q0), (1, .int x1), (2, .int x2_2)] → W p l e rmX5_yearLike s m args below meth c H locs 0 0 Q (F0 m 2 ls []) := by
    intro n
    induction n with
    | zero => intro x2_2 H locs ls hf; exact absurd hf (by simp [it1])
    | succ n ih2 =>
      intro x2_2 H locs ls hf hP hD hS hl
      have hf : X5_yearLike_S2 z_early z_late x1 (it1 (X5_yearLike_S2 z_early z_late x1) n) x2_2 = some r := hf
      generalize it1 (X5_yearLike_S2 z_early z_late x1) n = self_2 at hf ih2
      unfold X5_yearLike_S2 at hf
      refine lv_iload_n hx hb dX5_yearLike_2 rfl (lv_at hl 2 rfl) ?_
      refine lv_iload_n hx hb dX5_yearLike_3 rfl (lv_at hl 1 rfl) ?_
      refine lv_icmp_ge (tgt := 47) hx hb dX5_yearLike_4 (by decide) (fun hc_4 => ?_) (fun hc_4 => ?_)
      · have hf := it_t hf hc_4
        refine lv_bipush (v := -9) hx hb dX5_yearLike_47 (by decide) ?_
        exact hret' _ _ _ _ _ dX5_yearLike_49 hf hP hD hS
      · have hf := it_f hf hc_4
        refine lv_aload_n hx hb dX5_yearLike_7 rfl (lv_at hl 0 rfl) ?_
        refine va_get (D := D) (ci := 5) (v := .ref q_early) (C := RX5) (T := TX5) (N := 6) hx hb hts kc1 hown hK hP 0 rfl rfl 1 (by decide) kw0 (fun _ h9 => h9) rfl dX5_yearLike_8 ?_
        refine lv_iload_n hx hb dX5_yearLike_11 rfl (lv_at hl 2 rfl) ?_
        obtain ⟨hg_12, hf⟩ := gd_some hf
        refine va_lald hx hb hK hP 1 1 rfl rfl hg_12 dX5_yearLike_12 ?_
        refine lv_aload_n hx hb dX5_yearLike_13 rfl (lv_at hl 0 rfl) ?_
        refine va_get (D := D) (ci := 5) (v := .ref q_early) (C := RX5) (T := TX5) (N := 6) hx hb hts kc1 hown hK hP 0 rfl rfl 1 (by decide) kw0 (fun _ h9 => h9) rfl dX5_yearLike_14 ?_
        refine lv_iload_n hx hb dX5_yearLike_17 rfl (lv_at hl 1 rfl) ?_
        obtain ⟨hg_18, hf⟩ := gd_some hf
        refine va_lald hx hb hK hP 1 1 rfl rfl hg_18 dX5_yearLike_18 ?_
        refine W.lcmp hx hb dX5_yearLike_19 ?_
        have hJ41 : ∀ (H : Heap) (locs : List Loc) (ls : Array Slot), X5_yearLike_J41 x2_2 self_2 = some r → va_P D vwCl [(q0, oB 5 [.ref q_weights, .ref q_early, .ref q_late, .ref q_bringers, .int z_first, .int z_later]), (q_early, aJ cy 201 z_early), (q_late, aJ cy 201 z_late)] H → va_D A [(q0, oB 5 [.ref q_weights, .ref q_early, .ref q_late, .ref q_bringers, .int z_first, .int z_later]), (q_early, aJ cy 201 z_early), (q_late, aJ cy 201 z_late)] → va_S A s.heap H locs → lv_has ls 3 [(0, .ref q0), (1, .int x1), (2, .int x2_2)] → W p l e rmX5_yearLike s m args below meth c H locs 0 0 Q (F0 m 41 ls []) := by
          intro H locs ls hf hP hD hS hl
          unfold X5_yearLike_J41 at hf
          obtain ⟨x2_41, ex2_41⟩ : ∃ y : Int32, y = x2_2 + (1 : Int32) := ⟨_, rfl⟩
          have hf := lets_at hf ex2_41
          refine lv_iinc (v := x2_41) (lv' := [(2, .int x2_41), (0, .ref q0), (1, .int x1)]) hx hb dX5_yearLike_41 hl (k := 2) rfl (by rw [ex2_41]; rfl) (by decide) rfl (fun ls hl => ?_)
          refine lv_goto (tgt := 2) hx hb dX5_yearLike_44 (by decide) ?_
          exact ih2 x2_41 _ _ _ hf hP hD hS (lv_sub hl [1, 2, 0] rfl)
        refine lv_if_ne (tgt := 41) hx hb dX5_yearLike_20 (by decide) (fun hc_20 => ?_) (fun hc_20 => ?_)
        · have hf := it_f hf hc_20
          exact hJ41 _ _ _ hf hP hD hS (lv_sub hl [0, 1, 2] rfl)
        · have hf := it_t hf hc_20
          refine lv_aload_n hx hb dX5_yearLike_23 rfl (lv_at hl 0 rfl) ?_
          refine va_get (D := D) (ci := 5) (v := .ref q_late) (C := RX5) (T := TX5) (N := 6) hx hb hts kc1 hown hK hP 0 rfl rfl 2 (by decide) kw2 (fun _ h9 => h9) rfl dX5_yearLike_24 ?_
          refine lv_iload_n hx hb dX5_yearLike_27 rfl (lv_at hl 2 rfl) ?_
          obtain ⟨hg_28, hf⟩ := gd_some hf
          refine va_lald hx hb hK hP 2 1 rfl rfl hg_28 dX5_yearLike_28 ?_
          refine lv_aload_n hx hb dX5_yearLike_29 rfl (lv_at hl 0 rfl) ?_
          refine va_get (D := D) (ci := 5) (v := .ref q_late) (C := RX5) (T := TX5) (N := 6) hx hb hts kc1 hown hK hP 0 rfl rfl 2 (by decide) kw2 (fun _ h9 => h9) rfl dX5_yearLike_30 ?_
          refine lv_iload_n hx hb dX5_yearLike_33 rfl (lv_at hl 1 rfl) ?_
          obtain ⟨hg_34, hf⟩ := gd_some hf
          refine va_lald hx hb hK hP 2 1 rfl rfl hg_34 dX5_yearLike_34 ?_
          refine W.lcmp hx hb dX5_yearLike_35 ?_
          refine lv_if_ne (tgt := 41) hx hb dX5_yearLike_36 (by decide) (fun hc_36 => ?_) (fun hc_36 => ?_)
          · have hf := it_f hf hc_36
            exact hJ41 _ _ _ hf hP hD hS (lv_sub hl [0, 1, 2] rfl)
          · have hf := it_t hf hc_36
            refine lv_iload_n hx hb dX5_yearLike_39 rfl (lv_at hl 2 rfl) ?_
            exact hret' _ _ _ _ _ dX5_yearLike_40 hf hP hD hS
  exact hL2 _ (0 : Int32) _ _ _ hf hP hD hS (lv_sub hl [1, 2, 0] rfl)

def X5_goOn_S61 (x1 : Int32) (z_bringers_59 : Nat → Int32) (self_61 : Int32 → (Nat → Int32) → Option ((Nat → Int32) × (Nat → Int32))) (x2_61 : Int32) (z_weights_cells_61 : Nat → Int32) : Option ((Nat → Int32) × (Nat → Int32)) := if (4 : Int32) ≤ x2_61 then (some (z_weights_cells_61, z_bringers_59)) else (gd (okx x2_61 4) ((fX4_pass z_weights_cells_61 x2_61 (z_bringers_59 x2_61.toNatClampNeg) x1).bind (fun r_78 => lets (x2_61 + (1 : Int32)) (fun x2_81 => self_61 x2_81 r_78))))
def X5_goOn_J59 (z_weights_cells : Nat → Int32) (x1 : Int32) (z_bringers_59 : Nat → Int32) : Option ((Nat → Int32) × (Nat → Int32)) := it2 (X5_goOn_S61 x1 z_bringers_59) 100000 (0 : Int32) z_weights_cells
def X5_goOn_J53 (x2_22 : Int32) (self_22 : Int32 → (Nat → Int32) → Option ((Nat → Int32) × (Nat → Int32))) (z_bringers_53 : Nat → Int32) : Option ((Nat → Int32) × (Nat → Int32)) := lets (x2_22 + (1 : Int32)) (fun x2_53 => self_22 x2_53 z_bringers_53)
def X5_goOn_S22 (z_weights_cells : Nat → Int32) (x1 : Int32) (self_22 : Int32 → (Nat → Int32) → Option ((Nat → Int32) × (Nat → Int32))) (x2_22 : Int32) (z_bringers_22 : Nat → Int32) : Option ((Nat → Int32) × (Nat → Int32)) := if (6 : Int32) ≤ x2_22 then (X5_goOn_J59 z_weights_cells x1 z_bringers_22) else ((fX4_heaviest z_weights_cells x2_22).bind (fun r_33 => if r_33 = (-9 : Int32) then (X5_goOn_J53 x2_22 self_22 z_bringers_22) else (gd (okx r_33 4) (gd (okx r_33 4) (lets (upd z_bringers_22 r_33.toNatClampNeg ((z_bringers_22 r_33.toNatClampNeg) + (1 : Int32))) (fun z_bringers_52 => X5_goOn_J53 x2_22 self_22 z_bringers_52))))))
def X5_goOn_J20 (z_weights_cells : Nat → Int32) (x1 : Int32) (z_bringers_20 : Nat → Int32) : Option ((Nat → Int32) × (Nat → Int32)) := it2 (X5_goOn_S22 z_weights_cells x1) 100000 (0 : Int32) z_bringers_20
def X5_goOn_S2 (z_weights_cells : Nat → Int32) (x1 : Int32) (self_2 : Int32 → (Nat → Int32) → Option ((Nat → Int32) × (Nat → Int32))) (x2_2 : Int32) (z_bringers_2 : Nat → Int32) : Option ((Nat → Int32) × (Nat → Int32)) := if (4 : Int32) ≤ x2_2 then (X5_goOn_J20 z_weights_cells x1 z_bringers_2) else (gd (okx x2_2 4) (lets (upd z_bringers_2 x2_2.toNatClampNeg (0 : Int32)) (fun z_bringers_13 => lets (x2_2 + (1 : Int32)) (fun x2_14 => self_2 x2_14 z_bringers_13))))
def fX5_goOn (z_weights_cells : Nat → Int32) (z_bringers : Nat → Int32) (x1 : Int32) : Option ((Nat → Int32) × (Nat → Int32)) := it2 (X5_goOn_S2 z_weights_cells x1) 100000 (0 : Int32) z_bringers
abbrev rmX5_goOn : Room := { frames := 2, cells := 0, slots := 0, locals := 49 }
set_option maxHeartbeats 4000000 in
set_option maxRecDepth 100000 in
theorem ktX5_goOn (l : Launch) (D : va_G) (cy : Nat → ClassId) (q0 : Nat) (q_weights : Nat) (q_early : Nat) (q_late : Nat) (q_bringers : Nat) (q_weights_cells : Nat) (z_first : Int32) (z_later : Int32) (z_weights_cells : Nat → Int32) (z_bringers : Nat → Int32) (x1 : Int32) (r : (Nat → Int32) × (Nat → Int32)) (hf : fX5_goOn z_weights_cells z_bringers x1 = some r) : CtV l yX5_goOn wsX5_goOn rmX5_goOn D cy [.ref q0, .int x1] [(q0, oB 5 [.ref q_weights, .ref q_early, .ref q_late, .ref q_bringers, .int z_first, .int z_later]), (q_weights, oB 4 [.ref q_weights_cells]), (q_weights_cells, aI cy 24 z_weights_cells), (q_bringers, aI cy 4 z_bringers)] [(q0, oB 5 [.ref q_weights, .ref q_early, .ref q_late, .ref q_bringers, .int z_first, .int z_later]), (q_weights, oB 4 [.ref q_weights_cells]), (q_weights_cells, aI cy 24 r.1), (q_bringers, aI cy 4 r.2)] := by
  refine Ct_ofV (cc := cX5_goOn) (nL := 4) (by decide) rfl (Nat.le_of_ble_eq_true rfl) ?_
  intro p e s m args below meth c A Q hM hret hP hD hS ls hl
  obtain ⟨hx, hb, hml, hown, hts, hcx, hA, hsx⟩ := hM
  have hown : s.vm.findClass RX5 = some m.cls := hown
  have hK := hcx.1
  have hN := hcx.2
  have kw0 := hts (.fieldLink RX5 12 "EachBrings$Years" "weights" "LEachBrings$Weights;") (List.mem_of_getElem? (i := 2) rfl)
  have kc1 : ∀ w ∈ wsX50, w ∈ wsX5_goOn := fun _ h => List.mem_cons_of_mem _ (List.mem_append_left _ (List.mem_append_right _ h))
  have kw2 := hts (.fieldLink RX5 25 "EachBrings$Years" "bringers" "[I") (List.mem_of_getElem? (i := 1) rfl)
  have kw3 := hts (.initialized RX4) (List.mem_of_getElem? (i := 4) rfl)
  have kw4 := hts (.instanceMethod yX4_pass) (List.mem_of_getElem? (i := 12) rfl)
  have kw5 := hts (.selects RX4 yX4_pass yX4_pass) (List.mem_of_getElem? (i := 13) rfl)
  have kw6 := hts (.instanceMethod yX4_heaviest) (List.mem_of_getElem? (i := 3) rfl)
  have kw7 := hts (.selects RX4 yX4_heaviest yX4_heaviest) (List.mem_of_getElem? (i := 5) rfl)
  have hl : lv_has ls 4 [(0, .ref q0), (1, .int x1)] := hl
  have hret' : ∀ (pc : Nat) (ls : Array Slot) (H : Heap) (locs : List Loc) (w0 : Nat → Int32) (w1 : Nat → Int32), decode cX5_goOn pc = .ok (.return_, 1) → some (w0, w1) = some r → va_P D vwCl [(q0, oB 5 [.ref q_weights, .ref q_early, .ref q_late, .ref q_bringers, .int z_first, .int z_later]), (q_weights, oB 4 [.ref q_weights_cells]), (q_weights_cells, aI cy 24 w0), (q_bringers, aI cy 4 w1)] H → va_D A [(q0, oB 5 [.ref q_weights, .ref q_early, .ref q_late, .ref q_bringers, .int z_first, .int z_later]), (q_weights, oB 4 [.ref q_weights_cells]), (q_weights_cells, aI cy 24 w0), (q_bringers, aI cy 4 w1)] → va_S A s.heap H locs → W p l e rmX5_goOn s m args below meth c H locs 0 0 Q (F0 m pc ls []) := by
    intro pc ls H locs w0 w1 hd he hP hD hS
    cases he
    exact hret _ _ _ _ hd hP hD hS
  unfold fX5_goOn at hf
  refine lv_iconst (v := 0) hx hb dX5_goOn_0 (by decide) ?_
  refine lv_istore_n (lv' := [(2, .int (0 : Int32)), (0, .ref q0), (1, .int x1)]) hx hb dX5_goOn_1 rfl hl (by decide) rfl (fun ls hl => ?_)
  have hJ20 : ∀ (z_bringers_20 : Nat → Int32) (H : Heap) (locs : List Loc) (ls : Array Slot), X5_goOn_J20 z_weights_cells x1 z_bringers_20 = some r → va_P D vwCl [(q0, oB 5 [.ref q_weights, .ref q_early, .ref q_late, .ref q_bringers, .int z_first, .int z_later]), (q_weights, oB 4 [.ref q_weights_cells]), (q_weights_cells, aI cy 24 z_weights_cells), (q_bringers, aI cy 4 z_bringers_20)] H → va_D A [(q0, oB 5 [.ref q_weights, .ref q_early, .ref q_late, .ref q_bringers, .int z_first, .int z_later]), (q_weights, oB 4 [.ref q_weights_cells]), (q_weights_cells, aI cy 24 z_weights_cells), (q_bringers, aI cy 4 z_bringers_20)] → va_S A s.heap H locs → lv_has ls 4 [(0, .ref q0), (1, .int x1)] → W p l e rmX5_goOn s m args below meth c H locs 0 0 Q (F0 m 20 ls []) := by
    intro z_bringers_20 H locs ls hf hP hD hS hl
    unfold X5_goOn_J20 at hf
    refine lv_iconst (v := 0) hx hb dX5_goOn_20 (by decide) ?_
    refine lv_istore_n (lv' := [(2, .int (0 : Int32)), (0, .ref q0), (1, .int x1)]) hx hb dX5_goOn_21 rfl hl (by decide) rfl (fun ls hl => ?_)
    have hJ59 : ∀ (z_bringers_59 : Nat → Int32) (H : Heap) (locs : List Loc) (ls : Array Slot), X5_goOn_J59 z_weights_cells x1 z_bringers_59 = some r → va_P D vwCl [(q0, oB 5 [.ref q_weights, .ref q_early, .ref q_late, .ref q_bringers, .int z_first, .int z_later]), (q_weights, oB 4 [.ref q_weights_cells]), (q_weights_cells, aI cy 24 z_weights_cells), (q_bringers, aI cy 4 z_bringers_59)] H → va_D A [(q0, oB 5 [.ref q_weights, .ref q_early, .ref q_late, .ref q_bringers, .int z_first, .int z_later]), (q_weights, oB 4 [.ref q_weights_cells]), (q_weights_cells, aI cy 24 z_weights_cells), (q_bringers, aI cy 4 z_bringers_59)] → va_S A s.heap H locs → lv_has ls 4 [(0, .ref q0), (1, .int x1)] → W p l e rmX5_goOn s m args below meth c H locs 0 0 Q (F0 m 59 ls []) := by
      intro z_bringers_59 H locs ls hf hP hD hS hl
      unfold X5_goOn_J59 at hf
      refine lv_iconst (v := 0) hx hb dX5_goOn_59 (by decide) ?_
      refine lv_istore_n (lv' := [(2, .int (0 : Int32)), (0, .ref q0), (1, .int x1)]) hx hb dX5_goOn_60 rfl hl (by decide) rfl (fun ls hl => ?_)
      have hL61 : ∀ (n : Nat) (x2_61 : Int32) (z_weights_cells_61 : Nat → Int32) (H : Heap) (locs : List Loc) (ls : Array Slot), it2 (X5_goOn_S61 x1 z_bringers_59) n x2_61 z_weights_cells_61 = some r → va_P D vwCl [(q0, oB 5 [.ref q_weights, .ref q_early, .ref q_late, .ref q_bringers, .int z_first, .int z_later]), (q_weights, oB 4 [.ref q_weights_cells]), (q_weights_cells, aI cy 24 z_weights_cells_61), (q_bringers, aI cy 4 z_bringers_59)] H → va_D A [(q0, oB 5 [.ref q_weights, .ref q_early, .ref q_late, .ref q_bringers, .int z_first, .int z_later]), (q_weights, oB 4 [.ref q_weights_cells]), (q_weights_cells, aI cy 24 z_weights_cells_61), (q_bringers, aI cy 4 z_bringers_59)] → va_S A s.heap H locs → lv_has ls 4 [(0, .ref q0), (1, .int x1), (2, .int x2_61)] → W p l e rmX5_goOn s m args below meth c H locs 0 0 Q (F0 m 61 ls []) := by
        intro n
        induction n with
        | zero => intro x2_61 z_weights_cells_61 H locs ls hf; exact absurd hf (by simp [it2])
        | succ n ih61 =>
          intro x2_61 z_weights_cells_61 H locs ls hf hP hD hS hl
          have hf : X5_goOn_S61 x1 z_bringers_59 (it2 (X5_goOn_S61 x1 z_bringers_59) n) x2_61 z_weights_cells_61 = some r := hf
          generalize it2 (X5_goOn_S61 x1 z_bringers_59) n = self_61 at hf ih61
          unfold X5_goOn_S61 at hf
          refine lv_iload_n hx hb dX5_goOn_61 rfl (lv_at hl 2 rfl) ?_
          refine lv_iconst (v := 4) hx hb dX5_goOn_62 (by decide) ?_
          refine lv_icmp_ge (tgt := 87) hx hb dX5_goOn_63 (by decide) (fun hc_63 => ?_) (fun hc_63 => ?_)
          · have hf := it_t hf hc_63
            exact hret' _ _ _ _ _ _ dX5_goOn_87 hf hP hD hS
          · have hf := it_f hf hc_63
            refine lv_aload_n hx hb dX5_goOn_66 rfl (lv_at hl 0 rfl) ?_
            refine va_get (D := D) (ci := 5) (v := .ref q_weights) (C := RX5) (T := TX5) (N := 6) hx hb hts kc1 hown hK hP 0 rfl rfl 0 (by decide) kw0 (fun _ h9 => h9) rfl dX5_goOn_67 ?_
            refine lv_iload_n hx hb dX5_goOn_70 rfl (lv_at hl 2 rfl) ?_
            refine lv_aload_n hx hb dX5_goOn_71 rfl (lv_at hl 0 rfl) ?_
            refine va_get (D := D) (ci := 5) (v := .ref q_bringers) (C := RX5) (T := TX5) (N := 6) hx hb hts kc1 hown hK hP 0 rfl rfl 3 (by decide) kw2 (fun _ h9 => h9) rfl dX5_goOn_72 ?_
            refine lv_iload_n hx hb dX5_goOn_75 rfl (lv_at hl 2 rfl) ?_
            obtain ⟨hg_76, hf⟩ := gd_some hf
            refine va_iald hx hb hK hP 3 0 rfl rfl hg_76 dX5_goOn_76 ?_
            refine lv_iload_n hx hb dX5_goOn_77 rfl (lv_at hl 1 rfl) ?_
            obtain ⟨r_78, hr_78, hf⟩ := bd_some hf
            refine cl_v (wc := [(q_weights, oB 4 [.ref q_weights_cells]), (q_weights_cells, aI cy 24 z_weights_cells_61)]) (w1 := [(q_weights, oB 4 [.ref q_weights_cells]), (q_weights_cells, aI cy 24 r_78)]) (wr := [(q0, oB 5 [.ref q_weights, .ref q_early, .ref q_late, .ref q_bringers, .int z_first, .int z_later]), (q_bringers, aI cy 4 z_bringers_59)]) (w2 := [(q0, oB 5 [.ref q_weights, .ref q_early, .ref q_late, .ref q_bringers, .int z_first, .int z_later]), (q_weights, oB 4 [.ref q_weights_cells]), (q_weights_cells, aI cy 24 r_78), (q_bringers, aI cy 4 z_bringers_59)]) (va_runVN (C := RX4) (host := "EachBrings") (As := [.int x2_61, .int (z_bringers_59 x2_61.toNatClampNeg), .int x1]) (rest := []) ⟨hx, hb, hml, hown, hts⟩ (ktX4_pass l D cy q_weights q_weights_cells z_weights_cells_61 x2_61 (z_bringers_59 x2_61.toNatClampNeg) x1 r_78 hr_78 _) ⟨va_cnB 3 hts gX5_goOn_X4_pass_n55 rfl rfl rfl (hN.at 68 rfl) kw3 (by decide +kernel) ⟨Nat.le_of_ble_eq_true rfl, Nat.le_of_ble_eq_true rfl⟩, kw4, kw5⟩ (pre_V (wc := [(q_weights, oB 4 [.ref q_weights_cells]), (q_weights_cells, aI cy 24 z_weights_cells_61)]) (ci := 4) hcx hsx hS hA hP hD [1, 2] rfl (by decide) rfl rfl) rfl rfl hl.1 rfl (lv_room (Nat.le_of_ble_eq_true rfl)) dX5_goOn_78 ⟨Nat.zero_le _, Nat.zero_le _⟩) hP hD hS hA [1, 2] [0, 3] [0, 2, 3, 1] rfl rfl (by decide) (by decide) (by decide) rfl (fun H locs hP hD hS => ?_)
            obtain ⟨x2_81, ex2_81⟩ : ∃ y : Int32, y = x2_61 + (1 : Int32) := ⟨_, rfl⟩
            have hf := lets_at hf ex2_81
            refine lv_iinc (v := x2_81) (lv' := [(2, .int x2_81), (0, .ref q0), (1, .int x1)]) hx hb dX5_goOn_81 hl (k := 2) rfl (by rw [ex2_81]; rfl) (by decide) rfl (fun ls hl => ?_)
            refine lv_goto (tgt := 61) hx hb dX5_goOn_84 (by decide) ?_
            exact ih61 x2_81 r_78 _ _ _ hf hP hD hS (lv_sub hl [1, 2, 0] rfl)
      exact hL61 _ (0 : Int32) z_weights_cells _ _ _ hf hP hD hS (lv_sub hl [1, 2, 0] rfl)
    have hL22 : ∀ (n : Nat) (x2_22 : Int32) (z_bringers_22 : Nat → Int32) (H : Heap) (locs : List Loc) (ls : Array Slot), it2 (X5_goOn_S22 z_weights_cells x1) n x2_22 z_bringers_22 = some r → va_P D vwCl [(q0, oB 5 [.ref q_weights, .ref q_early, .ref q_late, .ref q_bringers, .int z_first, .int z_later]), (q_weights, oB 4 [.ref q_weights_cells]), (q_weights_cells, aI cy 24 z_weights_cells), (q_bringers, aI cy 4 z_bringers_22)] H → va_D A [(q0, oB 5 [.ref q_weights, .ref q_early, .ref q_late, .ref q_bringers, .int z_first, .int z_later]), (q_weights, oB 4 [.ref q_weights_cells]), (q_weights_cells, aI cy 24 z_weights_cells), (q_bringers, aI cy 4 z_bringers_22)] → va_S A s.heap H locs → lv_has ls 4 [(0, .ref q0), (1, .int x1), (2, .int x2_22)] → W p l e rmX5_goOn s m args below meth c H locs 0 0 Q (F0 m 22 ls []) := by
      intro n
      induction n with
      | zero => intro x2_22 z_bringers_22 H locs ls hf; exact absurd hf (by simp [it2])
      | succ n ih22 =>
        intro x2_22 z_bringers_22 H locs ls hf hP hD hS hl
        have hf : X5_goOn_S22 z_weights_cells x1 (it2 (X5_goOn_S22 z_weights_cells x1) n) x2_22 z_bringers_22 = some r := hf
        generalize it2 (X5_goOn_S22 z_weights_cells x1) n = self_22 at hf ih22
        unfold X5_goOn_S22 at hf
        refine lv_iload_n hx hb dX5_goOn_22 rfl (lv_at hl 2 rfl) ?_
        refine lv_bipush (v := 6) hx hb dX5_goOn_23 (by decide) ?_
        refine lv_icmp_ge (tgt := 59) hx hb dX5_goOn_25 (by decide) (fun hc_25 => ?_) (fun hc_25 => ?_)
        · have hf := it_t hf hc_25
          exact hJ59 z_bringers_22 _ _ _ hf hP hD hS (lv_sub hl [0, 1] rfl)
        · have hf := it_f hf hc_25
          refine lv_aload_n hx hb dX5_goOn_28 rfl (lv_at hl 0 rfl) ?_
          refine va_get (D := D) (ci := 5) (v := .ref q_weights) (C := RX5) (T := TX5) (N := 6) hx hb hts kc1 hown hK hP 0 rfl rfl 0 (by decide) kw0 (fun _ h9 => h9) rfl dX5_goOn_29 ?_
          refine lv_iload_n hx hb dX5_goOn_32 rfl (lv_at hl 2 rfl) ?_
          obtain ⟨r_33, hr_33, hf⟩ := bd_some hf
          refine cl_i (wc := [(q_weights, oB 4 [.ref q_weights_cells]), (q_weights_cells, aI cy 24 z_weights_cells)]) (w1 := [(q_weights, oB 4 [.ref q_weights_cells]), (q_weights_cells, aI cy 24 z_weights_cells)]) (wr := [(q0, oB 5 [.ref q_weights, .ref q_early, .ref q_late, .ref q_bringers, .int z_first, .int z_later]), (q_bringers, aI cy 4 z_bringers_22)]) (w2 := [(q0, oB 5 [.ref q_weights, .ref q_early, .ref q_late, .ref q_bringers, .int z_first, .int z_later]), (q_weights, oB 4 [.ref q_weights_cells]), (q_weights_cells, aI cy 24 z_weights_cells), (q_bringers, aI cy 4 z_bringers_22)]) (va_runVN (C := RX4) (host := "EachBrings") (As := [.int x2_22]) (rest := []) ⟨hx, hb, hml, hown, hts⟩ (ktX4_heaviest l D cy q_weights q_weights_cells z_weights_cells x2_22 r_33 hr_33 _) ⟨va_cnB 1 hts gX5_goOn_X4_heaviest_n52 rfl rfl rfl (hN.at 67 rfl) kw3 (by decide +kernel) ⟨Nat.le_of_ble_eq_true rfl, Nat.le_of_ble_eq_true rfl⟩, kw6, kw7⟩ (pre_V (wc := [(q_weights, oB 4 [.ref q_weights_cells]), (q_weights_cells, aI cy 24 z_weights_cells)]) (ci := 4) hcx hsx hS hA hP hD [1, 2] rfl (by decide) rfl rfl) rfl rfl hl.1 rfl (lv_room (Nat.le_of_ble_eq_true rfl)) dX5_goOn_33 ⟨Nat.zero_le _, Nat.zero_le _⟩) hP hD hS hA [1, 2] [0, 3] [0, 2, 3, 1] rfl rfl (by decide) (by decide) (by decide) rfl (fun H locs hP hD hS => ?_)
          refine lv_istore_n (lv' := [(3, .int r_33), (0, .ref q0), (1, .int x1), (2, .int x2_22)]) hx hb dX5_goOn_36 rfl hl (by decide) rfl (fun ls hl => ?_)
          refine lv_iload_n hx hb dX5_goOn_37 rfl (lv_at hl 0 rfl) ?_
          refine lv_bipush (v := -9) hx hb dX5_goOn_38 (by decide) ?_
          have hJ53 : ∀ (z_bringers_53 : Nat → Int32) (H : Heap) (locs : List Loc) (ls : Array Slot), X5_goOn_J53 x2_22 self_22 z_bringers_53 = some r → va_P D vwCl [(q0, oB 5 [.ref q_weights, .ref q_early, .ref q_late, .ref q_bringers, .int z_first, .int z_later]), (q_weights, oB 4 [.ref q_weights_cells]), (q_weights_cells, aI cy 24 z_weights_cells), (q_bringers, aI cy 4 z_bringers_53)] H → va_D A [(q0, oB 5 [.ref q_weights, .ref q_early, .ref q_late, .ref q_bringers, .int z_first, .int z_later]), (q_weights, oB 4 [.ref q_weights_cells]), (q_weights_cells, aI cy 24 z_weights_cells), (q_bringers, aI cy 4 z_bringers_53)] → va_S A s.heap H locs → lv_has ls 4 [(0, .ref q0), (1, .int x1), (2, .int x2_22)] → W p l e rmX5_goOn s m args below meth c H locs 0 0 Q (F0 m 53 ls []) := by
            intro z_bringers_53 H locs ls hf hP hD hS hl
            unfold X5_goOn_J53 at hf
            obtain ⟨x2_53, ex2_53⟩ : ∃ y : Int32, y = x2_22 + (1 : Int32) := ⟨_, rfl⟩
            have hf := lets_at hf ex2_53
            refine lv_iinc (v := x2_53) (lv' := [(2, .int x2_53), (0, .ref q0), (1, .int x1)]) hx hb dX5_goOn_53 hl (k := 2) rfl (by rw [ex2_53]; rfl) (by decide) rfl (fun ls hl => ?_)
            refine lv_goto (tgt := 22) hx hb dX5_goOn_56 (by decide) ?_
            exact ih22 x2_53 z_bringers_53 _ _ _ hf hP hD hS (lv_sub hl [1, 2, 0] rfl)
          refine lv_icmp_eq (tgt := 53) hx hb dX5_goOn_40 (by decide) (fun hc_40 => ?_) (fun hc_40 => ?_)
          · have hf := it_t hf hc_40
            exact hJ53 z_bringers_22 _ _ _ hf hP hD hS (lv_sub hl [1, 2, 3] rfl)
          · have hf := it_f hf hc_40
            refine lv_aload_n hx hb dX5_goOn_43 rfl (lv_at hl 1 rfl) ?_
            refine va_get (D := D) (ci := 5) (v := .ref q_bringers) (C := RX5) (T := TX5) (N := 6) hx hb hts kc1 hown hK hP 0 rfl rfl 3 (by decide) kw2 (fun _ h9 => h9) rfl dX5_goOn_44 ?_
            refine lv_iload_n hx hb dX5_goOn_47 rfl (lv_at hl 0 rfl) ?_
            refine lv_dup2_11 hx hb dX5_goOn_48 rfl rfl ?_
            obtain ⟨hg_49, hf⟩ := gd_some hf
            refine va_iald hx hb hK hP 3 0 rfl rfl hg_49 dX5_goOn_49 ?_
            refine lv_iconst (v := 1) hx hb dX5_goOn_50 (by decide) ?_
            refine lv_iadd hx hb dX5_goOn_51 ?_
            obtain ⟨hg_52, hf⟩ := gd_some hf
            refine va_iast hx hb hK hP hD hS 3 0 rfl rfl hg_52 dX5_goOn_52 (fun H locs hP hD hS => ?_)
            obtain ⟨z_bringers_52, ez_bringers_52⟩ : ∃ y : Nat → Int32, y = upd z_bringers_22 r_33.toNatClampNeg ((z_bringers_22 r_33.toNatClampNeg) + (1 : Int32)) := ⟨_, rfl⟩
            have hf := lets_at hf ez_bringers_52
            rw [← ez_bringers_52] at hP hD
            have hP : va_P D vwCl [(q0, oB 5 [.ref q_weights, .ref q_early, .ref q_late, .ref q_bringers, .int z_first, .int z_later]), (q_weights, oB 4 [.ref q_weights_cells]), (q_weights_cells, aI cy 24 z_weights_cells), (q_bringers, aI cy 4 z_bringers_52)] H := hP
            have hD : va_D A [(q0, oB 5 [.ref q_weights, .ref q_early, .ref q_late, .ref q_bringers, .int z_first, .int z_later]), (q_weights, oB 4 [.ref q_weights_cells]), (q_weights_cells, aI cy 24 z_weights_cells), (q_bringers, aI cy 4 z_bringers_52)] := hD
            exact hJ53 z_bringers_52 _ _ _ hf hP hD hS (lv_sub hl [1, 2, 3] rfl)
    exact hL22 _ (0 : Int32) z_bringers_20 _ _ _ hf hP hD hS (lv_sub hl [1, 2, 0] rfl)
  have hL2 : ∀ (n : Nat) (x2_2 : Int32) (z_bringers_2 : Nat → Int32) (H : Heap) (locs : List Loc) (ls : Array Slot), it2 (X5_goOn_S2 z_weights_cells x1) n x2_2 z_bringers_2 = some r → va_P D vwCl [(q0, oB 5 [.ref q_weights, .ref q_early, .ref q_late, .ref q_bringers, .int z_first, .int z_later]), (q_weights, oB 4 [.ref q_weights_cells]), (q_weights_cells, aI cy 24 z_weights_cells), (q_bringers, aI cy 4 z_bringers_2)] H → va_D A [(q0, oB 5 [.ref q_weights, .ref q_early, .ref q_late, .ref q_bringers, .int z_first, .int z_later]), (q_weights, oB 4 [.ref q_weights_cells]), (q_weights_cells, aI cy 24 z_weights_cells), (q_bringers, aI cy 4 z_bringers_2)] → va_S A s.heap H locs → lv_has ls 4 [(0, .ref q0), (1, .int x1), (2, .int x2_2)] → W p l e rmX5_goOn s m args below meth c H locs 0 0 Q (F0 m 2 ls []) := by
    intro n
    induction n with
    | zero => intro x2_2 z_bringers_2 H locs ls hf; exact absurd hf (by simp [it2])
    | succ n ih2 =>
      intro x2_2 z_bringers_2 H locs ls hf hP hD hS hl
      have hf : X5_goOn_S2 z_weights_cells x1 (it2 (X5_goOn_S2 z_weights_cells x1) n) x2_2 z_bringers_2 = some r := hf
      generalize it2 (X5_goOn_S2 z_weights_cells x1) n = self_2 at hf ih2
      unfold X5_goOn_S2 at hf
      refine lv_iload_n hx hb dX5_goOn_2 rfl (lv_at hl 2 rfl) ?_
      refine lv_iconst (v := 4) hx hb dX5_goOn_3 (by decide) ?_
      refine lv_icmp_ge (tgt := 20) hx hb dX5_goOn_4 (by decide) (fun hc_4 => ?_) (fun hc_4 => ?_)
      · have hf := it_t hf hc_4
        exact hJ20 z_bringers_2 _ _ _ hf hP hD hS (lv_sub hl [0, 1] rfl)
      · have hf := it_f hf hc_4
        refine lv_aload_n hx hb dX5_goOn_7 rfl (lv_at hl 0 rfl) ?_
        refine va_get (D := D) (ci := 5) (v := .ref q_bringers) (C := RX5) (T := TX5) (N := 6) hx hb hts kc1 hown hK hP 0 rfl rfl 3 (by decide) kw2 (fun _ h9 => h9) rfl dX5_goOn_8 ?_
        refine lv_iload_n hx hb dX5_goOn_11 rfl (lv_at hl 2 rfl) ?_
        refine lv_iconst (v := 0) hx hb dX5_goOn_12 (by decide) ?_
        obtain ⟨hg_13, hf⟩ := gd_some hf
        refine va_iast hx hb hK hP hD hS 3 0 rfl rfl hg_13 dX5_goOn_13 (fun H locs hP hD hS => ?_)
        obtain ⟨z_bringers_13, ez_bringers_13⟩ : ∃ y : Nat → Int32, y = upd z_bringers_2 x2_2.toNatClampNeg (0 : Int32) := ⟨_, rfl⟩
        have hf := lets_at hf ez_bringers_13
        rw [← ez_bringers_13] at hP hD
        have hP : va_P D vwCl [(q0, oB 5 [.ref q_weights, .ref q_early, .ref q_late, .ref q_bringers, .int z_first, .int z_later]), (q_weights, oB 4 [.ref q_weights_cells]), (q_weights_cells, aI cy 24 z_weights_cells), (q_bringers, aI cy 4 z_bringers_13)] H := hP
        have hD : va_D A [(q0, oB 5 [.ref q_weights, .ref q_early, .ref q_late, .ref q_bringers, .int z_first, .int z_later]), (q_weights, oB 4 [.ref q_weights_cells]), (q_weights_cells, aI cy 24 z_weights_cells), (q_bringers, aI cy 4 z_bringers_13)] := hD
        obtain ⟨x2_14, ex2_14⟩ : ∃ y : Int32, y = x2_2 + (1 : Int32) := ⟨_, rfl⟩
        have hf := lets_at hf ex2_14
        refine lv_iinc (v := x2_14) (lv' := [(2, .int x2_14), (0, .ref q0), (1, .int x1)]) hx hb dX5_goOn_14 hl (k := 2) rfl (by rw [ex2_14]; rfl) (by decide) rfl (fun ls hl => ?_)
        refine lv_goto (tgt := 2) hx hb dX5_goOn_17 (by decide) ?_
        exact ih2 x2_14 z_bringers_13 _ _ _ hf hP hD hS (lv_sub hl [1, 2, 0] rfl)
  exact hL2 _ (0 : Int32) z_bringers _ _ _ hf hP hD hS (lv_sub hl [1, 2, 0] rfl)

def X5_comeRound_J63 (x3_63 : Int32) (z_first_63 : Int32) (z_weights_cells_63 : Nat → Int32) (z_early_63 : Nat → Int64) (z_late_63 : Nat → Int64) (z_bringers_63 : Nat → Int32) : Option (Int32 × Int32 × Int32 × (Nat → Int32) × (Nat → Int64) × (Nat → Int64) × (Nat → Int32)) := lets (x3_63 - z_first_63) (fun z_later_70 => some ((1 : Int32), z_first_63, z_later_70, z_weights_cells_63, z_early_63, z_late_63, z_bringers_63))
def X5_comeRound_S10 (z_later : Int32) (x2 : Int32) (self_10 : Int32 → Int32 → (Nat → Int32) → (Nat → Int64) → (Nat → Int64) → (Nat → Int32) → Option (Int32 × Int32 × Int32 × (Nat → Int32) × (Nat → Int64) × (Nat → Int64) × (Nat → Int32))) (x3_10 : Int32) (z_first_10 : Int32) (z_weights_cells_10 : Nat → Int32) (z_early_10 : Nat → Int64) (z_late_10 : Nat → Int64) (z_bringers_10 : Nat → Int32) : Option (Int32 × Int32 × Int32 × (Nat → Int32) × (Nat → Int64) × (Nat → Int64) × (Nat → Int32)) := if (200 : Int32) < x3_10 then (some ((0 : Int32), z_first_10, z_later, z_weights_cells_10, z_early_10, z_late_10, z_bringers_10)) else ((fX4_packed z_weights_cells_10 (0 : Int32)).bind (fun r_27 => gd (okx x3_10 201) (lets (vp_updL z_early_10 x3_10.toNatClampNeg r_27) (fun z_early_30 => (fX4_packed z_weights_cells_10 (3 : Int32)).bind (fun r_41 => gd (okx x3_10 201) (lets (vp_updL z_late_10 x3_10.toNatClampNeg r_41) (fun z_late_44 => (fX5_yearLike z_early_30 z_late_44 x3_10).bind (fun r_48 => if r_48 = (-9 : Int32) then ((fX5_goOn z_weights_cells_10 z_bringers_10 x2).bind (fun r_77 => lets (x3_10 + (1 : Int32)) (fun x3_80 => self_10 x3_80 r_48 r_77.1 z_early_30 z_late_44 r_77.2))) else (X5_comeRound_J63 x3_10 r_48 z_weights_cells_10 z_early_30 z_late_44 z_bringers_10)))))))))
def fX5_comeRound (z_first : Int32) (z_later : Int32) (z_weights_cells : Nat → Int32) (z_early : Nat → Int64) (z_late : Nat → Int64) (z_bringers : Nat → Int32) (zb_cells : Nat → Int32) (x2 : Int32) : Option (Int32 × Int32 × Int32 × (Nat → Int32) × (Nat → Int64) × (Nat → Int64) × (Nat → Int32)) := (fX4_copyFrom z_weights_cells zb_cells).bind (fun r_5 => it6 (X5_comeRound_S10 z_later x2) 100000 (0 : Int32) z_first r_5 z_early z_late z_bringers)
abbrev rmX5_comeRound : Room := { frames := 3, cells := 0, slots := 0, locals := 81 }
set_option maxHeartbeats 4000000 in
set_option maxRecDepth 100000 in
theorem ktX5_comeRound (l : Launch) (D : va_G) (cy : Nat → ClassId) (q0 : Nat) (q_weights : Nat) (q_early : Nat) (q_late : Nat) (q_bringers : Nat) (q_weights_cells : Nat) (qb : Nat) (qb_cells : Nat) (z_first : Int32) (z_later : Int32) (z_weights_cells : Nat → Int32) (z_early : Nat → Int64) (z_late : Nat → Int64) (z_bringers : Nat → Int32) (zb_cells : Nat → Int32) (x2 : Int32) (r : Int32 × Int32 × Int32 × (Nat → Int32) × (Nat → Int64) × (Nat → Int64) × (Nat → Int32)) (hf : fX5_comeRound z_first z_later z_weights_cells z_early z_late z_bringers zb_cells x2 = some r) : CtI l yX5_comeRound wsX5_comeRound rmX5_comeRound D cy [.ref q0, .ref qb, .int x2] [(q0, oB 5 [.ref q_weights, .ref q_early, .ref q_late, .ref q_bringers, .int z_first, .int z_later]), (q_weights, oB 4 [.ref q_weights_cells]), (q_weights_cells, aI cy 24 z_weights_cells), (q_early, aJ cy 201 z_early), (q_late, aJ cy 201 z_late), (q_bringers, aI cy 4 z_bringers), (qb, oB 4 [.ref qb_cells]), (qb_cells, aI cy 24 zb_cells)] [(q0, oB 5 [.ref q_weights, .ref q_early, .ref q_late, .ref q_bringers, .int r.2.1, .int r.2.2.1]), (q_weights, oB 4 [.ref q_weights_cells]), (q_weights_cells, aI cy 24 r.2.2.2.1), (q_early, aJ cy 201 r.2.2.2.2.1), (q_late, aJ cy 201 r.2.2.2.2.2.1), (q_bringers, aI cy 4 r.2.2.2.2.2.2), (qb, oB 4 [.ref qb_cells]), (qb_cells, aI cy 24 zb_cells)] r.1 := by
  refine Ct_ofZ (cc := cX5_comeRound) (nL := 4) (by decide) rfl (Nat.le_of_ble_eq_true rfl) ?_
  intro p e s m args below meth c A Q hM hret hP hD hS ls hl
  obtain ⟨hx, hb, hml, hown, hts, hcx, hA, hsx⟩ := hM
  have hown : s.vm.findClass RX5 = some m.cls := hown
  have hK := hcx.1
  have hN := hcx.2
  have kw0 := hts (.fieldLink RX5 12 "EachBrings$Years" "weights" "LEachBrings$Weights;") (List.mem_of_getElem? (i := 1) rfl)
  have kc1 : ∀ w ∈ wsX50, w ∈ wsX5_comeRound := fun _ h => List.mem_cons_of_mem _ (List.mem_append_left _ (List.mem_append_right _ h))
  have kw2 := hts (.initialized RX4) (List.mem_of_getElem? (i := 7) rfl)
  have kw3 := hts (.instanceMethod yX4_copyFrom) (List.mem_of_getElem? (i := 6) rfl)
  have kw4 := hts (.selects RX4 yX4_copyFrom yX4_copyFrom) (List.mem_of_getElem? (i := 8) rfl)
  have kw5 := hts (.fieldLink RX5 29 "EachBrings$Years" "first" "I") (List.mem_of_getElem? (i := 4) rfl)
  have kw6 := hts (.fieldLink RX5 33 "EachBrings$Years" "later" "I") (List.mem_of_getElem? (i := 5) rfl)
  have kw7 := hts (.fieldLink RX5 18 "EachBrings$Years" "early" "[J") (List.mem_of_getElem? (i := 2) rfl)
  have kw8 := hts (.instanceMethod yX4_packed) (List.mem_of_getElem? (i := 15) rfl)
  have kw9 := hts (.selects RX4 yX4_packed yX4_packed) (List.mem_of_getElem? (i := 16) rfl)
  have kw10 := hts (.fieldLink RX5 22 "EachBrings$Years" "late" "[J") (List.mem_of_getElem? (i := 3) rfl)
  have hl : lv_has ls 4 [(0, .ref q0), (1, .ref qb), (2, .int x2)] := hl
  have hret' : ∀ (pc : Nat) (ls : Array Slot) (H : Heap) (locs : List Loc) (v : Int32) (w0 : Int32) (w1 : Int32) (w2 : Nat → Int32) (w3 : Nat → Int64) (w4 : Nat → Int64) (w5 : Nat → Int32), decode cX5_comeRound pc = .ok (.ireturn, 1) → isB v → some (v, w0, w1, w2, w3, w4, w5) = some r → va_P D vwCl [(q0, oB 5 [.ref q_weights, .ref q_early, .ref q_late, .ref q_bringers, .int w0, .int w1]), (q_weights, oB 4 [.ref q_weights_cells]), (q_weights_cells, aI cy 24 w2), (q_early, aJ cy 201 w3), (q_late, aJ cy 201 w4), (q_bringers, aI cy 4 w5), (qb, oB 4 [.ref qb_cells]), (qb_cells, aI cy 24 zb_cells)] H → va_D A [(q0, oB 5 [.ref q_weights, .ref q_early, .ref q_late, .ref q_bringers, .int w0, .int w1]), (q_weights, oB 4 [.ref q_weights_cells]), (q_weights_cells, aI cy 24 w2), (q_early, aJ cy 201 w3), (q_late, aJ cy 201 w4), (q_bringers, aI cy 4 w5), (qb, oB 4 [.ref qb_cells]), (qb_cells, aI cy 24 zb_cells)] → va_S A s.heap H locs → W p l e rmX5_comeRound s m args below meth c H locs 0 0 Q (F0 m pc ls [.int v]) := by
    intro pc ls H locs v w0 w1 w2 w3 w4 w5 hd hbv he hP hD hS
    cases he
    exact hret _ _ _ _ _ hd hbv rfl hP hD hS
  unfold fX5_comeRound at hf
  refine lv_aload_n hx hb dX5_comeRound_0 rfl (lv_at hl 0 rfl) ?_
  refine va_get (D := D) (ci := 5) (v := .ref q_weights) (C := RX5) (T := TX5) (N := 6) hx hb hts kc1 hown hK hP 0 rfl rfl 0 (by decide) kw0 (fun _ h9 => h9) rfl dX5_comeRound_1 ?_
  refine lv_aload_n hx hb dX5_comeRound_4 rfl (lv_at hl 1 rfl) ?_
  obtain ⟨r_5, hr_5, hf⟩ := bd_some hf
  refine cl_v (wc := [(q_weights, oB 4 [.ref q_weights_cells]), (q_weights_cells, aI cy 24 z_weights_cells), (qb, oB 4 [.ref qb_cells]), (qb_cells, aI cy 24 zb_cells)]) (w1 := [(q_weights, oB 4 [.ref q_weights_cells]), (q_weights_cells, aI cy 24 r_5), (qb, oB 4 [.ref qb_cells]), (qb_cells, aI cy 24 zb_cells)]) (wr := [(q0, oB 5 [.ref q_weights, .ref q_early, .ref q_late, .ref q_bringers, .int z_first, .int z_later]), (q_early, aJ cy 201 z_early), (q_late, aJ cy 201 z_late), (q_bringers, aI cy 4 z_bringers)]) (w2 := [(q0, oB 5 [.ref q_weights, .ref q_early, .ref q_late, .ref q_bringers, .int z_first, .int z_later]), (q_weights, oB 4 [.ref q_weights_cells]), (q_weights_cells, aI cy 24 r_5), (q_early, aJ cy 201 z_early), (q_late, aJ cy 201 z_late), (q_bringers, aI cy 4 z_bringers), (qb, oB 4 [.ref qb_cells]), (qb_cells, aI cy 24 zb_cells)]) (va_runVN (C := RX4) (host := "EachBrings") (As := [.ref qb]) (rest := []) ⟨hx, hb, hml, hown, hts⟩ (ktX4_copyFrom l D cy q_weights q_weights_cells qb qb_cells z_weights_cells zb_cells r_5 hr_5 _) ⟨va_cnB 1 hts gX5_comeRound_X4_copyFrom_n36 rfl rfl rfl (hN.at 65 rfl) kw2 (by decide +kernel) ⟨Nat.le_of_ble_eq_true rfl, Nat.le_of_ble_eq_true rfl⟩, kw3, kw4⟩ (pre_V (wc := [(q_weights, oB 4 [.ref q_weights_cells]), (q_weights_cells, aI cy 24 z_weights_cells), (qb, oB 4 [.ref qb_cells]), (qb_cells, aI cy 24 zb_cells)]) (ci := 4) hcx hsx hS hA hP hD [1, 2, 6, 7] rfl (by decide) rfl rfl) rfl rfl hl.1 rfl (lv_room (Nat.le_of_ble_eq_true rfl)) dX5_comeRound_5 ⟨Nat.zero_le _, Nat.zero_le _⟩) hP hD hS hA [1, 2, 6, 7] [0, 3, 4, 5] [0, 4, 5, 1, 2, 3, 6, 7] rfl rfl (by decide) (by decide) (by decide) rfl (fun H locs hP hD hS => ?_)
  refine lv_iconst (v := 0) hx hb dX5_comeRound_8 (by decide) ?_
  refine lv_istore_n (lv' := [(3, .int (0 : Int32)), (0, .ref q0), (1, .ref qb), (2, .int x2)]) hx hb dX5_comeRound_9 rfl hl (by decide) rfl (fun ls hl => ?_)
  have hJ63 : ∀ (x3_63 : Int32) (z_first_63 : Int32) (z_weights_cells_63 : Nat → Int32) (z_early_63 : Nat → Int64) (z_late_63 : Nat → Int64) (z_bringers_63 : Nat → Int32) (H : Heap) (locs : List Loc) (ls : Array Slot), X5_comeRound_J63 x3_63 z_first_63 z_weights_cells_63 z_early_63 z_late_63 z_bringers_63 = some r → va_P D vwCl [(q0, oB 5 [.ref q_weights, .ref q_early, .ref q_late, .ref q_bringers, .int z_first_63, .int z_later]), (q_weights, oB 4 [.ref q_weights_cells]), (q_weights_cells, aI cy 24 z_weights_cells_63), (q_early, aJ cy 201 z_early_63), (q_late, aJ cy 201 z_late_63), (q_bringers, aI cy 4 z_bringers_63), (qb, oB 4 [.ref qb_cells]), (qb_cells, aI cy 24 zb_cells)] H → va_D A [(q0, oB 5 [.ref q_weights, .ref q_early, .ref q_late, .ref q_bringers, .int z_first_63, .int z_later]), (q_weights, oB 4 [.ref q_weights_cells]), (q_weights_cells, aI cy 24 z_weights_cells_63), (q_early, aJ cy 201 z_early_63), (q_late, aJ cy 201 z_late_63), (q_bringers, aI cy 4 z_bringers_63), (qb, oB 4 [.ref qb_cells]), (qb_cells, aI cy 24 zb_cells)] → va_S A s.heap H locs → lv_has ls 4 [(0, .ref q0), (3, .int x3_63)] → W p l e rmX5_comeRound s m args below meth c H locs 0 0 Q (F0 m 63 ls []) := by
    intro x3_63 z_first_63 z_weights_cells_63 z_early_63 z_late_63 z_bringers_63 H locs ls hf hP hD hS hl
    unfold X5_comeRound_J63 at hf
    refine lv_aload_n hx hb dX5_comeRound_63 rfl (lv_at hl 0 rfl) ?_
    refine lv_iload_n hx hb dX5_comeRound_64 rfl (lv_at hl 1 rfl) ?_
    refine lv_aload_n hx hb dX5_comeRound_65 rfl (lv_at hl 0 rfl) ?_
    refine va_get (D := D) (ci := 5) (v := .int z_first_63) (C := RX5) (T := TX5) (N := 6) hx hb hts kc1 hown hK hP 0 rfl rfl 4 (by decide) kw5 (fun _ h9 => h9) rfl dX5_comeRound_66 ?_
    refine lv_isub hx hb dX5_comeRound_69 ?_
    refine lv_topi (fun z_later_70 ez_later_70 => ?_)
    have hf := lets_at hf ez_later_70
    refine va_put (D := D) (ci := 5) (v := .int z_later_70) (ty := .int) (C := RX5) (T := TX5) (N := 6) hx hb hts kc1 tyX5 tyX5_ok nmX5 hown hK hP hD hS 0 rfl rfl 5 (by decide) kw6 (fun _ h9 => h9) rfl pfI rfl rfl (Nat.le_of_ble_eq_true rfl) dX5_comeRound_70 (fun H locs hP hD hS => ?_)
    have hP : va_P D vwCl [(q0, oB 5 [.ref q_weights, .ref q_early, .ref q_late, .ref q_bringers, .int z_first_63, .int z_later_70]), (q_weights, oB 4 [.ref q_weights_cells]), (q_weights_cells, aI cy 24 z_weights_cells_63), (q_early, aJ cy 201 z_early_63), (q_late, aJ cy 201 z_late_63), (q_bringers, aI cy 4 z_bringers_63), (qb, oB 4 [.ref qb_cells]), (qb_cells, aI cy 24 zb_cells)] H := hP
    have hD : va_D A [(q0, oB 5 [.ref q_weights, .ref q_early, .ref q_late, .ref q_bringers, .int z_first_63, .int z_later_70]), (q_weights, oB 4 [.ref q_weights_cells]), (q_weights_cells, aI cy 24 z_weights_cells_63), (q_early, aJ cy 201 z_early_63), (q_late, aJ cy 201 z_late_63), (q_bringers, aI cy 4 z_bringers_63), (qb, oB 4 [.ref qb_cells]), (qb_cells, aI cy 24 zb_cells)] := hD
    refine lv_iconst (v := 1) hx hb dX5_comeRound_73 (by decide) ?_
    exact hret' _ _ _ _ _ _ _ _ _ _ _ dX5_comeRound_74 (by decide) hf hP hD hS
  have hL10 : ∀ (n : Nat) (x3_10 : Int32) (z_first_10 : Int32) (z_weights_cells_10 : Nat → Int32) (z_early_10 : Nat → Int64) (z_late_10 : Nat → Int64) (z_bringers_10 : Nat → Int32) (H : Heap) (locs : List Loc) (ls : Array Slot), it6 (X5_comeRound_S10 z_later x2) n x3_10 z_first_10 z_weights_cells_10 z_early_10 z_late_10 z_bringers_10 = some r → va_P D vwCl [(q0, oB 5 [.ref q_weights, .ref q_early, .ref q_late, .ref q_bringers, .int z_first_10, .int z_later]), (q_weights, oB 4 [.ref q_weights_cells]), (q_weights_cells, aI cy 24 z_weights_cells_10), (q_early, aJ cy 201 z_early_10), (q_late, aJ cy 201 z_late_10), (q_bringers, aI cy 4 z_bringers_10), (qb, oB 4 [.ref qb_cells]), (qb_cells, aI cy 24 zb_cells)] H → va_D A [(q0, oB 5 [.ref q_weights, .ref q_early, .ref q_late, .ref q_bringers, .int z_first_10, .int z_later]), (q_weights, oB 4 [.ref q_weights_cells]), (q_weights_cells, aI cy 24 z_weights_cells_10), (q_early, aJ cy 201 z_early_10), (q_late, aJ cy 201 z_late_10), (q_bringers, aI cy 4 z_bringers_10), (qb, oB 4 [.ref qb_cells]), (qb_cells, aI cy 24 zb_cells)] → va_S A s.heap H locs → lv_has ls 4 [(0, .ref q0), (2, .int x2), (3, .int x3_10)] → W p l e rmX5_comeRound s m args below meth c H locs 0 0 Q (F0 m 10 ls []) := by
    intro n
    induction n with
    | zero => intro x3_10 z_first_10 z_weights_cells_10 z_early_10 z_late_10 z_bringers_10 H locs ls hf; exact absurd hf (by simp [it6])
    | succ n ih10 =>
      intro x3_10 z_first_10 z_weights_cells_10 z_early_10 z_late_10 z_bringers_10 H locs ls hf hP hD hS hl
      have hf : X5_comeRound_S10 z_later x2 (it6 (X5_comeRound_S10 z_later x2) n) x3_10 z_first_10 z_weights_cells_10 z_early_10 z_late_10 z_bringers_10 = some r := hf
      generalize it6 (X5_comeRound_S10 z_later x2) n = self_10 at hf ih10
      unfold X5_comeRound_S10 at hf
      refine lv_iload_n hx hb dX5_comeRound_10 rfl (lv_at hl 2 rfl) ?_
      refine lv_sipush (v := 200) hx hb dX5_comeRound_11 (by decide) ?_
      refine lv_icmp_gt (tgt := 86) hx hb dX5_comeRound_14 (by decide) (fun hc_14 => ?_) (fun hc_14 => ?_)
      · have hf := it_t hf hc_14
        refine lv_iconst (v := 0) hx hb dX5_comeRound_86 (by decide) ?_
        exact hret' _ _ _ _ _ _ _ _ _ _ _ dX5_comeRound_87 (by decide) hf hP hD hS
      · have hf := it_f hf hc_14
        refine lv_aload_n hx hb dX5_comeRound_17 rfl (lv_at hl 0 rfl) ?_
        refine va_get (D := D) (ci := 5) (v := .ref q_early) (C := RX5) (T := TX5) (N := 6) hx hb hts kc1 hown hK hP 0 rfl rfl 1 (by decide) kw7 (fun _ h9 => h9) rfl dX5_comeRound_18 ?_
        refine lv_iload_n hx hb dX5_comeRound_21 rfl (lv_at hl 2 rfl) ?_
        refine lv_aload_n hx hb dX5_comeRound_22 rfl (lv_at hl 0 rfl) ?_
        refine va_get (D := D) (ci := 5) (v := .ref q_weights) (C := RX5) (T := TX5) (N := 6) hx hb hts kc1 hown hK hP 0 rfl rfl 0 (by decide) kw0 (fun _ h9 => h9) rfl dX5_comeRound_23 ?_
        refine lv_iconst (v := 0) hx hb dX5_comeRound_26 (by decide) ?_
        obtain ⟨r_27, hr_27, hf⟩ := bd_some hf
        refine cl_l (wc := [(q_weights, oB 4 [.ref q_weights_cells]), (q_weights_cells, aI cy 24 z_weights_cells_10)]) (w1 := [(q_weights, oB 4 [.ref q_weights_cells]), (q_weights_cells, aI cy 24 z_weights_cells_10)]) (wr := [(q0, oB 5 [.ref q_weights, .ref q_early, .ref q_late, .ref q_bringers, .int z_first_10, .int z_later]), (q_early, aJ cy 201 z_early_10), (q_late, aJ cy 201 z_late_10), (q_bringers, aI cy 4 z_bringers_10), (qb, oB 4 [.ref qb_cells]), (qb_cells, aI cy 24 zb_cells)]) (w2 := [(q0, oB 5 [.ref q_weights, .ref q_early, .ref q_late, .ref q_bringers, .int z_first_10, .int z_later]), (q_weights, oB 4 [.ref q_weights_cells]), (q_weights_cells, aI cy 24 z_weights_cells_10), (q_early, aJ cy 201 z_early_10), (q_late, aJ cy 201 z_late_10), (q_bringers, aI cy 4 z_bringers_10), (qb, oB 4 [.ref qb_cells]), (qb_cells, aI cy 24 zb_cells)]) (va_runVN (C := RX4) (host := "EachBrings") (As := [.int (0 : Int32)]) (rest := [.int x3_10, .ref q_early]) ⟨hx, hb, hml, hown, hts⟩ (ktX4_packed l D cy q_weights q_weights_cells z_weights_cells_10 (0 : Int32) r_27 hr_27 _) ⟨va_cnB 1 hts gX5_comeRound_X4_packed_n40 rfl rfl rfl (hN.at 66 rfl) kw2 (by decide +kernel) ⟨Nat.le_of_ble_eq_true rfl, Nat.le_of_ble_eq_true rfl⟩, kw8, kw9⟩ (pre_V (wc := [(q_weights, oB 4 [.ref q_weights_cells]), (q_weights_cells, aI cy 24 z_weights_cells_10)]) (ci := 4) hcx hsx hS hA hP hD [1, 2] rfl (by decide) rfl rfl) rfl rfl hl.1 rfl (lv_room (Nat.le_of_ble_eq_true rfl)) dX5_comeRound_27 ⟨Nat.zero_le _, Nat.zero_le _⟩) hP hD hS hA [1, 2] [0, 3, 4, 5, 6, 7] [0, 6, 7, 1, 2, 3, 4, 5] rfl rfl (by decide) (by decide) (by decide) rfl (fun H locs hP hD hS => ?_)
        obtain ⟨hg_30, hf⟩ := gd_some hf
        refine va_last hx hb hK hP hD hS 3 1 rfl rfl hg_30 dX5_comeRound_30 (fun H locs hP hD hS => ?_)
        obtain ⟨z_early_30, ez_early_30⟩ : ∃ y : Nat → Int64, y = vp_updL z_early_10 x3_10.toNatClampNeg r_27 := ⟨_, rfl⟩
        have hf := lets_at hf ez_early_30
        rw [← ez_early_30] at hP hD
        have hP : va_P D vwCl [(q0, oB 5 [.ref q_weights, .ref q_early, .ref q_late, .ref q_bringers, .int z_first_10, .int z_later]), (q_weights, oB 4 [.ref q_weights_cells]), (q_weights_cells, aI cy 24 z_weights_cells_10), (q_early, aJ cy 201 z_early_30), (q_late, aJ cy 201 z_late_10), (q_bringers, aI cy 4 z_bringers_10), (qb, oB 4 [.ref qb_cells]), (qb_cells, aI cy 24 zb_cells)] H := hP
        have hD : va_D A [(q0, oB 5 [.ref q_weights, .ref q_early, .ref q_late, .ref q_bringers, .int z_first_10, .int z_later]), (q_weights, oB 4 [.ref q_weights_cells]), (q_weights_cells, aI cy 24 z_weights_cells_10), (q_early, aJ cy 201 z_early_30), (q_late, aJ cy 201 z_late_10), (q_bringers, aI cy 4 z_bringers_10), (qb, oB 4 [.ref qb_cells]), (qb_cells, aI cy 24 zb_cells)] := hD
        refine lv_aload_n hx hb dX5_comeRound_31 rfl (lv_at hl 0 rfl) ?_
        refine va_get (D := D) (ci := 5) (v := .ref q_late) (C := RX5) (T := TX5) (N := 6) hx hb hts kc1 hown hK hP 0 rfl rfl 2 (by decide) kw10 (fun _ h9 => h9) rfl dX5_comeRound_32 ?_
        refine lv_iload_n hx hb dX5_comeRound_35 rfl (lv_at hl 2 rfl) ?_
        refine lv_aload_n hx hb dX5_comeRound_36 rfl (lv_at hl 0 rfl) ?_
        refine va_get (D := D) (ci := 5) (v := .ref q_weights) (C := RX5) (T := TX5) (N := 6) hx hb hts kc1 hown hK hP 0 rfl rfl 0 (by decide) kw0 (fun _ h9 => h9) rfl dX5_comeRound_37 ?_
        refine lv_iconst (v := 3) hx hb dX5_comeRound_40 (by decide) ?_
        obtain ⟨r_41, hr_41, hf⟩ := bd_some hf
        refine cl_l (wc := [(q_weights, oB 4 [.ref q_weights_cells]), (q_weights_cells, aI cy 24 z_weights_cells_10)]) (w1 := [(q_weights, oB 4 [.ref q_weights_cells]), (q_weights_cells, aI cy 24 z_weights_cells_10)]) (wr := [(q0, oB 5 [.ref q_weights, .ref q_early, .ref q_late, .ref q_bringers, .int z_first_10, .int z_later]), (q_early, aJ cy 201 z_early_30), (q_late, aJ cy 201 z_late_10), (q_bringers, aI cy 4 z_bringers_10), (qb, oB 4 [.ref qb_cells]), (qb_cells, aI cy 24 zb_cells)]) (w2 := [(q0, oB 5 [.ref q_weights, .ref q_early, .ref q_late, .ref q_bringers, .int z_first_10, .int z_later]), (q_weights, oB 4 [.ref q_weights_cells]), (q_weights_cells, aI cy 24 z_weights_cells_10), (q_early, aJ cy 201 z_early_30), (q_late, aJ cy 201 z_late_10), (q_bringers, aI cy 4 z_bringers_10), (qb, oB 4 [.ref qb_cells]), (qb_cells, aI cy 24 zb_cells)]) (va_runVN (C := RX4) (host := "EachBrings") (As := [.int (3 : Int32)]) (rest := [.int x3_10, .ref q_late]) ⟨hx, hb, hml, hown, hts⟩ (ktX4_packed l D cy q_weights q_weights_cells z_weights_cells_10 (3 : Int32) r_41 hr_41 _) ⟨va_cnB 1 hts gX5_comeRound_X4_packed_n40 rfl rfl rfl (hN.at 66 rfl) kw2 (by decide +kernel) ⟨Nat.le_of_ble_eq_true rfl, Nat.le_of_ble_eq_true rfl⟩, kw8, kw9⟩ (pre_V (wc := [(q_weights, oB 4 [.ref q_weights_cells]), (q_weights_cells, aI cy 24 z_weights_cells_10)]) (ci := 4) hcx hsx hS hA hP hD [1, 2] rfl (by decide) rfl rfl) rfl rfl hl.1 rfl (lv_room (Nat.le_of_ble_eq_true rfl)) dX5_comeRound_41 ⟨Nat.zero_le _, Nat.zero_le _⟩) hP hD hS hA [1, 2] [0, 3, 4, 5, 6, 7] [0, 6, 7, 1, 2, 3, 4, 5] rfl rfl (by decide) (by decide) (by decide) rfl (fun H locs hP hD hS => ?_)
        obtain ⟨hg_44, hf⟩ := gd_some hf
        refine va_last hx hb hK hP hD hS 4 1 rfl rfl hg_44 dX5_comeRound_44 (fun H locs hP hD hS => ?_)
        obtain ⟨z_late_44, ez_late_44⟩ : ∃ y : Nat → Int64, y = vp_updL z_late_10 x3_10.toNatClampNeg r_41 := ⟨_, rfl⟩
        have hf := lets_at hf ez_late_44
        rw [← ez_late_44] at hP hD
        have hP : va_P D vwCl [(q0, oB 5 [.ref q_weights, .ref q_early, .ref q_late, .ref q_bringers, .int z_first_10, .int z_later]), (q_weights, oB 4 [.ref q_weights_cells]), (q_weights_cells, aI cy 24 z_weights_cells_10), (q_early, aJ cy 201 z_early_30), (q_late, aJ cy 201 z_late_44), (q_bringers, aI cy 4 z_bringers_10), (qb, oB 4 [.ref qb_cells]), (qb_cells, aI cy 24 zb_cells)] H := hP
        have hD : va_D A [(q0, oB 5 [.ref q_weights, .ref q_early, .ref q_late, .ref q_bringers, .int z_first_10, .int z_later]), (q_weights, oB 4 [.ref q_weights_cells]), (q_weights_cells, aI cy 24 z_weights_cells_10), (q_early, aJ cy 201 z_early_30), (q_late, aJ cy 201 z_late_44), (q_bringers, aI cy 4 z_bringers_10), (qb, oB 4 [.ref qb_cells]), (qb_cells, aI cy 24 zb_cells)] := hD
        refine lv_aload_n hx hb dX5_comeRound_45 rfl (lv_at hl 0 rfl) ?_
        refine lv_aload_n hx hb dX5_comeRound_46 rfl (lv_at hl 0 rfl) ?_
        refine lv_iload_n hx hb dX5_comeRound_47 rfl (lv_at hl 2 rfl) ?_
        obtain ⟨r_48, hr_48, hf⟩ := bd_some hf
        refine cl_i (wc := [(q0, oB 5 [.ref q_weights, .ref q_early, .ref q_late, .ref q_bringers, .int z_first_10, .int z_later]), (q_early, aJ cy 201 z_early_30), (q_late, aJ cy 201 z_late_44)]) (w1 := [(q0, oB 5 [.ref q_weights, .ref q_early, .ref q_late, .ref q_bringers, .int z_first_10, .int z_later]), (q_early, aJ cy 201 z_early_30), (q_late, aJ cy 201 z_late_44)]) (wr := [(q_weights, oB 4 [.ref q_weights_cells]), (q_weights_cells, aI cy 24 z_weights_cells_10), (q_bringers, aI cy 4 z_bringers_10), (qb, oB 4 [.ref qb_cells]), (qb_cells, aI cy 24 zb_cells)]) (w2 := [(q0, oB 5 [.ref q_weights, .ref q_early, .ref q_late, .ref q_bringers, .int z_first_10, .int z_later]), (q_weights, oB 4 [.ref q_weights_cells]), (q_weights_cells, aI cy 24 z_weights_cells_10), (q_early, aJ cy 201 z_early_30), (q_late, aJ cy 201 z_late_44), (q_bringers, aI cy 4 z_bringers_10), (qb, oB 4 [.ref qb_cells]), (qb_cells, aI cy 24 zb_cells)]) (va_runV (As := [.int x3_10]) (rest := [.ref q0]) ⟨hx, hb, hml, hown, hts⟩ (ktX5_yearLike l D cy q0 q_weights q_early q_late q_bringers z_first_10 z_later z_early_30 z_late_44 x3_10 r_48 hr_48 _) (cwV 1 hts gX5_comeRound_X5_yearLike rfl rfl rfl (by decide +kernel) ⟨Nat.le_of_ble_eq_true rfl, Nat.le_of_ble_eq_true rfl⟩) (pre_V (wc := [(q0, oB 5 [.ref q_weights, .ref q_early, .ref q_late, .ref q_bringers, .int z_first_10, .int z_later]), (q_early, aJ cy 201 z_early_30), (q_late, aJ cy 201 z_late_44)]) (ci := 5) hcx hsx hS hA hP hD [0, 3, 4] rfl (by decide) rfl rfl) rfl rfl hl.1 rfl (lv_room (Nat.le_of_ble_eq_true rfl)) dX5_comeRound_48 ⟨Nat.zero_le _, Nat.zero_le _⟩) hP hD hS hA [0, 3, 4] [1, 2, 5, 6, 7] [5, 0, 1, 6, 7, 2, 3, 4] rfl rfl (by decide) (by decide) (by decide) rfl (fun H locs hP hD hS => ?_)
        refine va_put (D := D) (ci := 5) (v := .int r_48) (ty := .int) (C := RX5) (T := TX5) (N := 6) hx hb hts kc1 tyX5 tyX5_ok nmX5 hown hK hP hD hS 0 rfl rfl 4 (by decide) kw5 (fun _ h9 => h9) rfl pfI rfl rfl (Nat.le_of_ble_eq_true rfl) dX5_comeRound_51 (fun H locs hP hD hS => ?_)
        have hP : va_P D vwCl [(q0, oB 5 [.ref q_weights, .ref q_early, .ref q_late, .ref q_bringers, .int r_48, .int z_later]), (q_weights, oB 4 [.ref q_weights_cells]), (q_weights_cells, aI cy 24 z_weights_cells_10), (q_early, aJ cy 201 z_early_30), (q_late, aJ cy 201 z_late_44), (q_bringers, aI cy 4 z_bringers_10), (qb, oB 4 [.ref qb_cells]), (qb_cells, aI cy 24 zb_cells)] H := hP
        have hD : va_D A [(q0, oB 5 [.ref q_weights, .ref q_early, .ref q_late, .ref q_bringers, .int r_48, .int z_later]), (q_weights, oB 4 [.ref q_weights_cells]), (q_weights_cells, aI cy 24 z_weights_cells_10), (q_early, aJ cy 201 z_early_30), (q_late, aJ cy 201 z_late_44), (q_bringers, aI cy 4 z_bringers_10), (qb, oB 4 [.ref qb_cells]), (qb_cells, aI cy 24 zb_cells)] := hD
        refine lv_aload_n hx hb dX5_comeRound_54 rfl (lv_at hl 0 rfl) ?_
        refine va_get (D := D) (ci := 5) (v := .int r_48) (C := RX5) (T := TX5) (N := 6) hx hb hts kc1 hown hK hP 0 rfl rfl 4 (by decide) kw5 (fun _ h9 => h9) rfl dX5_comeRound_55 ?_
        refine lv_bipush (v := -9) hx hb dX5_comeRound_58 (by decide) ?_
        refine lv_icmp_eq (tgt := 75) hx hb dX5_comeRound_60 (by decide) (fun hc_60 => ?_) (fun hc_60 => ?_)
        · have hf := it_t hf hc_60
          refine lv_aload_n hx hb dX5_comeRound_75 rfl (lv_at hl 0 rfl) ?_
          refine lv_iload_n hx hb dX5_comeRound_76 rfl (lv_at hl 1 rfl) ?_
          obtain ⟨r_77, hr_77, hf⟩ := bd_some hf
          refine cl_v (wc := [(q0, oB 5 [.ref q_weights, .ref q_early, .ref q_late, .ref q_bringers, .int r_48, .int z_later]), (q_weights, oB 4 [.ref q_weights_cells]), (q_weights_cells, aI cy 24 z_weights_cells_10), (q_bringers, aI cy 4 z_bringers_10)]) (w1 := [(q0, oB 5 [.ref q_weights, .ref q_early, .ref q_late, .ref q_bringers, .int r_48, .int z_later]), (q_weights, oB 4 [.ref q_weights_cells]), (q_weights_cells, aI cy 24 r_77.1), (q_bringers, aI cy 4 r_77.2)]) (wr := [(q_early, aJ cy 201 z_early_30), (q_late, aJ cy 201 z_late_44), (qb, oB 4 [.ref qb_cells]), (qb_cells, aI cy 24 zb_cells)]) (w2 := [(q0, oB 5 [.ref q_weights, .ref q_early, .ref q_late, .ref q_bringers, .int r_48, .int z_later]), (q_weights, oB 4 [.ref q_weights_cells]), (q_weights_cells, aI cy 24 r_77.1), (q_early, aJ cy 201 z_early_30), (q_late, aJ cy 201 z_late_44), (q_bringers, aI cy 4 r_77.2), (qb, oB 4 [.ref qb_cells]), (qb_cells, aI cy 24 zb_cells)]) (va_runV (As := [.int x2]) (rest := []) ⟨hx, hb, hml, hown, hts⟩ (ktX5_goOn l D cy q0 q_weights q_early q_late q_bringers q_weights_cells r_48 z_later z_weights_cells_10 z_bringers_10 x2 r_77 hr_77 _) (cwV 1 hts gX5_comeRound_X5_goOn rfl rfl rfl (by decide +kernel) ⟨Nat.le_of_ble_eq_true rfl, Nat.le_of_ble_eq_true rfl⟩) (pre_V (wc := [(q0, oB 5 [.ref q_weights, .ref q_early, .ref q_late, .ref q_bringers, .int r_48, .int z_later]), (q_weights, oB 4 [.ref q_weights_cells]), (q_weights_cells, aI cy 24 z_weights_cells_10), (q_bringers, aI cy 4 z_bringers_10)]) (ci := 5) hcx hsx hS hA hP hD [0, 1, 2, 5] rfl (by decide) rfl rfl) rfl rfl hl.1 rfl (lv_room (Nat.le_of_ble_eq_true rfl)) dX5_comeRound_77 ⟨Nat.zero_le _, Nat.zero_le _⟩) hP hD hS hA [0, 1, 2, 5] [3, 4, 6, 7] [4, 5, 6, 0, 1, 7, 2, 3] rfl rfl (by decide) (by decide) (by decide) rfl (fun H locs hP hD hS => ?_)
          obtain ⟨x3_80, ex3_80⟩ : ∃ y : Int32, y = x3_10 + (1 : Int32) := ⟨_, rfl⟩
          have hf := lets_at hf ex3_80
          refine lv_iinc (v := x3_80) (lv' := [(3, .int x3_80), (0, .ref q0), (2, .int x2)]) hx hb dX5_comeRound_80 hl (k := 2) rfl (by rw [ex3_80]; rfl) (by decide) rfl (fun ls hl => ?_)
          refine lv_goto (tgt := 10) hx hb dX5_comeRound_83 (by decide) ?_
          exact ih10 x3_80 r_48 r_77.1 z_early_30 z_late_44 r_77.2 _ _ _ hf hP hD hS (lv_sub hl [1, 2, 0] rfl)
        · have hf := it_f hf hc_60
          exact hJ63 x3_10 r_48 z_weights_cells_10 z_early_30 z_late_44 z_bringers_10 _ _ _ hf hP hD hS (lv_sub hl [0, 2] rfl)
  exact hL10 _ (0 : Int32) z_first r_5 z_early z_late z_bringers _ _ _ hf hP hD hS (lv_sub hl [1, 3, 0] rfl)
