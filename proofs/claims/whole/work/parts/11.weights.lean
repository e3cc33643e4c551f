def fX4_of (z_cells : Nat → Int32) (x1 : Int32) (x2 : Int32) : Option Int32 := gd (okx ((x1 * (4 : Int32)) + x2) 24) (some (z_cells ((x1 * (4 : Int32)) + x2).toNatClampNeg))
abbrev rmX4_of : Room := { frames := 0, cells := 0, slots := 0, locals := 0 }
set_option maxHeartbeats 4000000 in
set_option maxRecDepth 100000 in
theorem ktX4_of (l : Launch) (D : va_G) (cy : Nat → ClassId) (q0 : Nat) (q_cells : Nat) (z_cells : Nat → Int32) (x1 : Int32) (x2 : Int32) (r : Int32) (hf : fX4_of z_cells x1 x2 = some r) : CtI l yX4_of wsX4_of rmX4_of D cy [.ref q0, .int x1, .int x2] [(q0, oB 4 [.ref q_cells]), (q_cells, aI cy 24 z_cells)] [(q0, oB 4 [.ref q_cells]), (q_cells, aI cy 24 z_cells)] r := by
  refine Ct_ofI (cc := cX4_of) (nL := 3) (by decide) rfl (Nat.le_of_ble_eq_true rfl) ?_
  intro p e s m args below meth c A Q hM hret hP hD hS ls hl
  obtain ⟨hx, hb, hml, hown, hts, hcx, hA, hsx⟩ := hM
  have hown : s.vm.findClass RX4 = some m.cls := hown
  have hK := hcx.1
  have hN := hcx.2
  have kw0 := hts (.fieldLink RX4 9 "EachBrings$Weights" "cells" "[I") (List.mem_of_getElem? (i := 1) rfl)
  have kc1 : ∀ w ∈ wsX40, w ∈ wsX4_of := fun _ h => List.mem_cons_of_mem _ (List.mem_append_right _ h)
  have hl : lv_has ls 3 [(0, .ref q0), (1, .int x1), (2, .int x2)] := hl
  have hret' : ∀ (pc : Nat) (ls : Array Slot) (H : Heap) (locs : List Loc) (v : Int32), decode cX4_of pc = .ok (.ireturn, 1) → some v = some r → va_P D vwCl [(q0, oB 4 [.ref q_cells]), (q_cells, aI cy 24 z_cells)] H → va_D A [(q0, oB 4 [.ref q_cells]), (q_cells, aI cy 24 z_cells)] → va_S A s.heap H locs → W p l e rmX4_of s m args below meth c H locs 0 0 Q (F0 m pc ls [.int v]) := by
    intro pc ls H locs v hd he hP hD hS
    cases he
    exact hret _ _ _ _ _ hd rfl hP hD hS
  unfold fX4_of at hf
  refine lv_aload_n hx hb dX4_of_0 rfl (lv_at hl 0 rfl) ?_
  refine va_get (D := D) (ci := 4) (v := .ref q_cells) (C := RX4) (T := TX4) (N := 1) hx hb hts kc1 hown hK hP 0 rfl rfl 0 (by decide) kw0 (fun _ h9 => h9) rfl dX4_of_1 ?_
  refine lv_iload_n hx hb dX4_of_4 rfl (lv_at hl 1 rfl) ?_
  refine lv_iconst (v := 4) hx hb dX4_of_5 (by decide) ?_
  refine lv_imul hx hb dX4_of_6 ?_
  refine lv_iload_n hx hb dX4_of_7 rfl (lv_at hl 2 rfl) ?_
  refine lv_iadd hx hb dX4_of_8 ?_
  obtain ⟨hg_9, hf⟩ := gd_some hf
  refine va_iald hx hb hK hP 1 0 rfl rfl hg_9 dX4_of_9 ?_
  exact hret' _ _ _ _ _ dX4_of_10 hf hP hD hS

def X4_together_S4 (z_cells : Nat → Int32) (x1 : Int32) (self_4 : Int32 → Int32 → Option Int32) (x2_4 : Int32) (x3_4 : Int32) : Option Int32 := if (4 : Int32) ≤ x3_4 then (some x2_4) else ((fX4_of z_cells x1 x3_4).bind (fun r_13 => lets (x2_4 + r_13) (fun x2_17 => lets (x3_4 + (1 : Int32)) (fun x3_18 => self_4 x2_17 x3_18))))
def fX4_together (z_cells : Nat → Int32) (x1 : Int32) : Option Int32 := it2 (X4_together_S4 z_cells x1) 100000 (0 : Int32) (0 : Int32)
abbrev rmX4_together : Room := { frames := 1, cells := 0, slots := 0, locals := 22 }
set_option maxHeartbeats 4000000 in
set_option maxRecDepth 100000 in
theorem ktX4_together (l : Launch) (D : va_G) (cy : Nat → ClassId) (q0 : Nat) (q_cells : Nat) (z_cells : Nat → Int32) (x1 : Int32) (r : Int32) (hf : fX4_together z_cells x1 = some r) : CtI l yX4_together wsX4_together rmX4_together D cy [.ref q0, .int x1] [(q0, oB 4 [.ref q_cells]), (q_cells, aI cy 24 z_cells)] [(q0, oB 4 [.ref q_cells]), (q_cells, aI cy 24 z_cells)] r := by
  refine Ct_ofI (cc := cX4_together) (nL := 4) (by decide) rfl (Nat.le_of_ble_eq_true rfl) ?_
  intro p e s m args below meth c A Q hM hret hP hD hS ls hl
  obtain ⟨hx, hb, hml, hown, hts, hcx, hA, hsx⟩ := hM
  have hown : s.vm.findClass RX4 = some m.cls := hown
  have hK := hcx.1
  have hN := hcx.2
  have hl : lv_has ls 4 [(0, .ref q0), (1, .int x1)] := hl
  have hret' : ∀ (pc : Nat) (ls : Array Slot) (H : Heap) (locs : List Loc) (v : Int32), decode cX4_together pc = .ok (.ireturn, 1) → some v = some r → va_P D vwCl [(q0, oB 4 [.ref q_cells]), (q_cells, aI cy 24 z_cells)] H → va_D A [(q0, oB 4 [.ref q_cells]), (q_cells, aI cy 24 z_cells)] → va_S A s.heap H locs → W p l e rmX4_together s m args below meth c H locs 0 0 Q (F0 m pc ls [.int v]) := by
    intro pc ls H locs v hd he hP hD hS
    cases he
    exact hret _ _ _ _ _ hd rfl hP hD hS
  unfold fX4_together at hf
  refine lv_iconst (v := 0) hx hb dX4_together_0 (by decide) ?_
  refine lv_istore_n (lv' := [(2, .int (0 : Int32)), (0, .ref q0), (1, .int x1)]) hx hb dX4_together_1 rfl hl (by decide) rfl (fun ls hl => ?_)
  refine lv_iconst (v := 0) hx hb dX4_together_2 (by decide) ?_
  refine lv_istore_n (lv' := [(3, .int (0 : Int32)), (2, .int (0 : Int32)), (0, .ref q0), (1, .int x1)]) hx hb dX4_together_3 rfl hl (by decide) rfl (fun ls hl => ?_)
  have hL4 : ∀ (n : Nat) (x2_4 : Int32) (x3_4 : Int32) (H : Heap) (locs : List Loc) (ls : Array Slot), it2 (X4_together_S4 z_cells x1) n x2_4 x3_4 = some r → va_P D vwCl [(q0, oB 4 [.ref q_cells]), (q_cells, aI cy 24 z_cells)] H → va_D A [(q0, oB 4 [.ref q_cells]), (q_cells, aI cy 24 z_cells)] → va_S A s.heap H locs → lv_has ls 4 [(0, .ref q0), (1, .int x1), (2, .int x2_4), (3, .int x3_4)] → W p l e rmX4_together s m args below meth c H locs 0 0 Q (F0 m 4 ls []) := by
    intro n
    induction n with
    | zero => intro x2_4 x3_4 H locs ls hf; exact absurd hf (by simp [it2])
    | succ n ih4 =>
      intro x2_4 x3_4 H locs ls hf hP hD hS hl
      have hf : X4_together_S4 z_cells x1 (it2 (X4_together_S4 z_cells x1) n) x2_4 x3_4 = some r := hf
      generalize it2 (X4_together_S4 z_cells x1) n = self_4 at hf ih4
      unfold X4_together_S4 at hf
      refine lv_iload_n hx hb dX4_together_4 rfl (lv_at hl 3 rfl) ?_
      refine lv_iconst (v := 4) hx hb dX4_together_5 (by decide) ?_
      refine lv_icmp_ge (tgt := 24) hx hb dX4_together_6 (by decide) (fun hc_6 => ?_) (fun hc_6 => ?_)
      · have hf := it_t hf hc_6
        refine lv_iload_n hx hb dX4_together_24 rfl (lv_at hl 2 rfl) ?_
        exact hret' _ _ _ _ _ dX4_together_25 hf hP hD hS
      · have hf := it_f hf hc_6
        refine lv_iload_n hx hb dX4_together_9 rfl (lv_at hl 2 rfl) ?_
        refine lv_aload_n hx hb dX4_together_10 rfl (lv_at hl 0 rfl) ?_
        refine lv_iload_n hx hb dX4_together_11 rfl (lv_at hl 1 rfl) ?_
        refine lv_iload_n hx hb dX4_together_12 rfl (lv_at hl 3 rfl) ?_
        obtain ⟨r_13, hr_13, hf⟩ := bd_some hf
        refine cl_i (wc := [(q0, oB 4 [.ref q_cells]), (q_cells, aI cy 24 z_cells)]) (w1 := [(q0, oB 4 [.ref q_cells]), (q_cells, aI cy 24 z_cells)]) (wr := []) (w2 := [(q0, oB 4 [.ref q_cells]), (q_cells, aI cy 24 z_cells)]) (va_runV (As := [.int x1, .int x3_4]) (rest := [.int x2_4]) ⟨hx, hb, hml, hown, hts⟩ (ktX4_of l D cy q0 q_cells z_cells x1 x3_4 r_13 hr_13 _) (cwV 2 hts gX4_together_X4_of rfl rfl rfl (by decide +kernel) ⟨Nat.le_of_ble_eq_true rfl, Nat.le_of_ble_eq_true rfl⟩) (pre_V (wc := [(q0, oB 4 [.ref q_cells]), (q_cells, aI cy 24 z_cells)]) (ci := 4) hcx hsx hS hA hP hD [0, 1] rfl (by decide) rfl rfl) rfl rfl hl.1 rfl (lv_room (Nat.le_of_ble_eq_true rfl)) dX4_together_13 ⟨Nat.zero_le _, Nat.zero_le _⟩) hP hD hS hA [0, 1] [] [0, 1] rfl rfl (by decide) (by decide) (by decide) rfl (fun H locs hP hD hS => ?_)
        refine lv_iadd hx hb dX4_together_16 ?_
        refine lv_topi (fun x2_17 ex2_17 => ?_)
        have hf := lets_at hf ex2_17
        refine lv_istore_n (lv' := [(2, .int x2_17), (0, .ref q0), (1, .int x1), (3, .int x3_4)]) hx hb dX4_together_17 rfl hl (by decide) rfl (fun ls hl => ?_)
        obtain ⟨x3_18, ex3_18⟩ : ∃ y : Int32, y = x3_4 + (1 : Int32) := ⟨_, rfl⟩
        have hf := lets_at hf ex3_18
        refine lv_iinc (v := x3_18) (lv' := [(3, .int x3_18), (2, .int x2_17), (0, .ref q0), (1, .int x1)]) hx hb dX4_together_18 hl (k := 3) rfl (by rw [ex3_18]; rfl) (by decide) rfl (fun ls hl => ?_)
        refine lv_goto (tgt := 4) hx hb dX4_together_21 (by decide) ?_
        exact ih4 x2_17 x3_18 _ _ _ hf hP hD hS (lv_sub hl [2, 3, 1, 0] rfl)
  exact hL4 _ (0 : Int32) (0 : Int32) _ _ _ hf hP hD hS (lv_sub hl [2, 3, 1, 0] rfl)

def fX4_copyFrom (z_cells : Nat → Int32) (zb_cells : Nat → Int32) : Option ((Nat → Int32)) := lets (va_cpy zb_cells z_cells 0 0 24) (fun z_cells_15 => some z_cells_15)
abbrev rmX4_copyFrom : Room := { frames := 1, cells := 0, slots := 0, locals := 60 }
set_option maxHeartbeats 4000000 in
set_option maxRecDepth 100000 in
theorem ktX4_copyFrom (l : Launch) (D : va_G) (cy : Nat → ClassId) (q0 : Nat) (q_cells : Nat) (qb : Nat) (qb_cells : Nat) (z_cells : Nat → Int32) (zb_cells : Nat → Int32) (r : (Nat → Int32)) (hf : fX4_copyFrom z_cells zb_cells = some r) : CtV l yX4_copyFrom wsX4_copyFrom rmX4_copyFrom D cy [.ref q0, .ref qb] [(q0, oB 4 [.ref q_cells]), (q_cells, aI cy 24 z_cells), (qb, oB 4 [.ref qb_cells]), (qb_cells, aI cy 24 zb_cells)] [(q0, oB 4 [.ref q_cells]), (q_cells, aI cy 24 r), (qb, oB 4 [.ref qb_cells]), (qb_cells, aI cy 24 zb_cells)] := by
  refine Ct_ofV (cc := cX4_copyFrom) (nL := 2) (by decide) rfl (Nat.le_of_ble_eq_true rfl) ?_
  intro p e s m args below meth c A Q hM hret hP hD hS ls hl
  obtain ⟨hx, hb, hml, hown, hts, hcx, hA, hsx⟩ := hM
  have hown : s.vm.findClass RX4 = some m.cls := hown
  have hK := hcx.1
  have hN := hcx.2
  have kw0 := hts (.fieldLink RX4 9 "EachBrings$Weights" "cells" "[I") (List.mem_of_getElem? (i := 1) rfl)
  have kc1 : ∀ w ∈ wsX40, w ∈ wsX4_copyFrom := fun _ h => List.mem_cons_of_mem _ (List.mem_append_right _ h)
  have kw2 := hts (.methodLink RX4 15 arraycopyName) (List.mem_of_getElem? (i := 2) rfl)
  have kw3 := hts (.native arraycopyName) (List.mem_of_getElem? (i := 3) rfl)
  have kw4 := hts (.static arraycopyName) (List.mem_of_getElem? (i := 4) rfl)
  have kw5 := hts (.initialized "java/lang/System") (List.mem_of_getElem? (i := 5) rfl)
  have hl : lv_has ls 2 [(0, .ref q0), (1, .ref qb)] := hl
  have hret' : ∀ (pc : Nat) (ls : Array Slot) (H : Heap) (locs : List Loc) (w0 : Nat → Int32), decode cX4_copyFrom pc = .ok (.return_, 1) → some w0 = some r → va_P D vwCl [(q0, oB 4 [.ref q_cells]), (q_cells, aI cy 24 w0), (qb, oB 4 [.ref qb_cells]), (qb_cells, aI cy 24 zb_cells)] H → va_D A [(q0, oB 4 [.ref q_cells]), (q_cells, aI cy 24 w0), (qb, oB 4 [.ref qb_cells]), (qb_cells, aI cy 24 zb_cells)] → va_S A s.heap H locs → W p l e rmX4_copyFrom s m args below meth c H locs 0 0 Q (F0 m pc ls []) := by
    intro pc ls H locs w0 hd he hP hD hS
    cases he
    exact hret _ _ _ _ hd hP hD hS
  unfold fX4_copyFrom at hf
  refine lv_aload_n hx hb dX4_copyFrom_0 rfl (lv_at hl 1 rfl) ?_
  refine va_get (D := D) (ci := 4) (v := .ref qb_cells) (C := RX4) (T := TX4) (N := 1) hx hb hts kc1 hown hK hP 2 rfl rfl 0 (by decide) kw0 (fun _ h9 => h9) rfl dX4_copyFrom_1 ?_
  refine lv_iconst (v := 0) hx hb dX4_copyFrom_4 (by decide) ?_
  refine lv_aload_n hx hb dX4_copyFrom_5 rfl (lv_at hl 0 rfl) ?_
  refine va_get (D := D) (ci := 4) (v := .ref q_cells) (C := RX4) (T := TX4) (N := 1) hx hb hts kc1 hown hK hP 0 rfl rfl 0 (by decide) kw0 (fun _ h9 => h9) rfl dX4_copyFrom_6 ?_
  refine lv_iconst (v := 0) hx hb dX4_copyFrom_9 (by decide) ?_
  refine lv_aload_n hx hb dX4_copyFrom_10 rfl (lv_at hl 0 rfl) ?_
  refine va_get (D := D) (ci := 4) (v := .ref q_cells) (C := RX4) (T := TX4) (N := 1) hx hb hts kc1 hown hK hP 0 rfl rfl 0 (by decide) kw0 (fun _ h9 => h9) rfl dX4_copyFrom_11 ?_
  refine va_alen (v := 24) hx hb hK hP 1 0 rfl rfl rfl dX4_copyFrom_14 ?_
  refine va_copyi (ty := .int) hx hb (hml.trans hl.1.symm) hown kw2 kw3 kw4 kw5 hK hP hD hS 3 1 0 0 rfl rfl rfl rfl rfl (by decide) (by decide) (by decide) (by decide) (by decide) (fun _ _ => rfl) (Nat.le_of_ble_eq_true rfl) (by decide) dX4_copyFrom_15 (fun H locs hP hD hS => ?_)
  obtain ⟨z_cells_15, ez_cells_15⟩ : ∃ y : Nat → Int32, y = va_cpy zb_cells z_cells 0 0 24 := ⟨_, rfl⟩
  have hf := lets_at hf ez_cells_15
  have hP : va_P D vwCl [(q0, oB 4 [.ref q_cells]), (q_cells, aI cy 24 z_cells_15), (qb, oB 4 [.ref qb_cells]), (qb_cells, aI cy 24 zb_cells)] H := by rw [ez_cells_15]; exact hP
  have hD : va_D A [(q0, oB 4 [.ref q_cells]), (q_cells, aI cy 24 z_cells_15), (qb, oB 4 [.ref qb_cells]), (qb_cells, aI cy 24 zb_cells)] := by rw [ez_cells_15]; exact hD
  exact hret' _ _ _ _ _ dX4_copyFrom_18 hf hP hD hS

def X4_empty_S2 (self_2 : Int32 → (Nat → Int32) → Option ((Nat → Int32))) (x1_2 : Int32) (z_cells_2 : Nat → Int32) : Option ((Nat → Int32)) := if (24 : Int32) ≤ x1_2 then (some z_cells_2) else (gd (okx x1_2 24) (lets (upd z_cells_2 x1_2.toNatClampNeg (0 : Int32)) (fun z_cells_17 => lets (x1_2 + (1 : Int32)) (fun x1_18 => self_2 x1_18 z_cells_17))))
def fX4_empty (z_cells : Nat → Int32) : Option ((Nat → Int32)) := it2 (X4_empty_S2) 100000 (0 : Int32) z_cells
abbrev rmX4_empty : Room := { frames := 0, cells := 0, slots := 0, locals := 0 }
set_option maxHeartbeats 4000000 in
set_option maxRecDepth 100000 in
theorem ktX4_empty (l : Launch) (D : va_G) (cy : Nat → ClassId) (q0 : Nat) (q_cells : Nat) (z_cells : Nat → Int32) (r : (Nat → Int32)) (hf : fX4_empty z_cells = some r) : CtV l yX4_empty wsX4_empty rmX4_empty D cy [.ref q0] [(q0, oB 4 [.ref q_cells]), (q_cells, aI cy 24 z_cells)] [(q0, oB 4 [.ref q_cells]), (q_cells, aI cy 24 r)] := by
  refine Ct_ofV (cc := cX4_empty) (nL := 2) (by decide) rfl (Nat.le_of_ble_eq_true rfl) ?_
  intro p e s m args below meth c A Q hM hret hP hD hS ls hl
  obtain ⟨hx, hb, hml, hown, hts, hcx, hA, hsx⟩ := hM
  have hown : s.vm.findClass RX4 = some m.cls := hown
  have hK := hcx.1
  have hN := hcx.2
  have kw0 := hts (.fieldLink RX4 9 "EachBrings$Weights" "cells" "[I") (List.mem_of_getElem? (i := 1) rfl)
  have kc1 : ∀ w ∈ wsX40, w ∈ wsX4_empty := fun _ h => List.mem_cons_of_mem _ (List.mem_append_right _ h)
  have hl : lv_has ls 2 [(0, .ref q0)] := hl
  have hret' : ∀ (pc : Nat) (ls : Array Slot) (H : Heap) (locs : List Loc) (w0 : Nat → Int32), decode cX4_empty pc = .ok (.return_, 1) → some w0 = some r → va_P D vwCl [(q0, oB 4 [.ref q_cells]), (q_cells, aI cy 24 w0)] H → va_D A [(q0, oB 4 [.ref q_cells]), (q_cells, aI cy 24 w0)] → va_S A s.heap H locs → W p l e rmX4_empty s m args below meth c H locs 0 0 Q (F0 m pc ls []) := by
    intro pc ls H locs w0 hd he hP hD hS
    cases he
    exact hret _ _ _ _ hd hP hD hS
  unfold fX4_empty at hf
  refine lv_iconst (v := 0) hx hb dX4_empty_0 (by decide) ?_
  refine lv_istore_n (lv' := [(1, .int (0 : Int32)), (0, .ref q0)]) hx hb dX4_empty_1 rfl hl (by decide) rfl (fun ls hl => ?_)
  have hL2 : ∀ (n : Nat) (x1_2 : Int32) (z_cells_2 : Nat → Int32) (H : Heap) (locs : List Loc) (ls : Array Slot), it2 (X4_empty_S2) n x1_2 z_cells_2 = some r → va_P D vwCl [(q0, oB 4 [.ref q_cells]), (q_cells, aI cy 24 z_cells_2)] H → va_D A [(q0, oB 4 [.ref q_cells]), (q_cells, aI cy 24 z_cells_2)] → va_S A s.heap H locs → lv_has ls 2 [(0, .ref q0), (1, .int x1_2)] → W p l e rmX4_empty s m args below meth c H locs 0 0 Q (F0 m 2 ls []) := by
    intro n
    induction n with
    | zero => intro x1_2 z_cells_2 H locs ls hf; exact absurd hf (by simp [it2])
    | succ n ih2 =>
      intro x1_2 z_cells_2 H locs ls hf hP hD hS hl
      have hf : X4_empty_S2 (it2 (X4_empty_S2) n) x1_2 z_cells_2 = some r := hf
      generalize it2 (X4_empty_S2) n = self_2 at hf ih2
      unfold X4_empty_S2 at hf
      refine lv_iload_n hx hb dX4_empty_2 rfl (lv_at hl 1 rfl) ?_
      refine lv_aload_n hx hb dX4_empty_3 rfl (lv_at hl 0 rfl) ?_
      refine va_get (D := D) (ci := 4) (v := .ref q_cells) (C := RX4) (T := TX4) (N := 1) hx hb hts kc1 hown hK hP 0 rfl rfl 0 (by decide) kw0 (fun _ h9 => h9) rfl dX4_empty_4 ?_
      refine va_alen (v := 24) hx hb hK hP 1 0 rfl rfl rfl dX4_empty_7 ?_
      refine lv_icmp_ge (tgt := 24) hx hb dX4_empty_8 (by decide) (fun hc_8 => ?_) (fun hc_8 => ?_)
      · have hf := it_t hf hc_8
        exact hret' _ _ _ _ _ dX4_empty_24 hf hP hD hS
      · have hf := it_f hf hc_8
        refine lv_aload_n hx hb dX4_empty_11 rfl (lv_at hl 0 rfl) ?_
        refine va_get (D := D) (ci := 4) (v := .ref q_cells) (C := RX4) (T := TX4) (N := 1) hx hb hts kc1 hown hK hP 0 rfl rfl 0 (by decide) kw0 (fun _ h9 => h9) rfl dX4_empty_12 ?_
        refine lv_iload_n hx hb dX4_empty_15 rfl (lv_at hl 1 rfl) ?_
        refine lv_iconst (v := 0) hx hb dX4_empty_16 (by decide) ?_
        obtain ⟨hg_17, hf⟩ := gd_some hf
        refine va_iast hx hb hK hP hD hS 1 0 rfl rfl hg_17 dX4_empty_17 (fun H locs hP hD hS => ?_)
        obtain ⟨z_cells_17, ez_cells_17⟩ : ∃ y : Nat → Int32, y = upd z_cells_2 x1_2.toNatClampNeg (0 : Int32) := ⟨_, rfl⟩
        have hf := lets_at hf ez_cells_17
        rw [← ez_cells_17] at hP hD
        have hP : va_P D vwCl [(q0, oB 4 [.ref q_cells]), (q_cells, aI cy 24 z_cells_17)] H := hP
        have hD : va_D A [(q0, oB 4 [.ref q_cells]), (q_cells, aI cy 24 z_cells_17)] := hD
        obtain ⟨x1_18, ex1_18⟩ : ∃ y : Int32, y = x1_2 + (1 : Int32) := ⟨_, rfl⟩
        have hf := lets_at hf ex1_18
        refine lv_iinc (v := x1_18) (lv' := [(1, .int x1_18), (0, .ref q0)]) hx hb dX4_empty_18 hl (k := 1) rfl (by rw [ex1_18]; rfl) (by decide) rfl (fun ls hl => ?_)
        refine lv_goto (tgt := 2) hx hb dX4_empty_21 (by decide) ?_
        exact ih2 x1_18 z_cells_17 _ _ _ hf hP hD hS (lv_sub hl [1, 0] rfl)
  exact hL2 _ (0 : Int32) z_cells _ _ _ hf hP hD hS (lv_sub hl [1, 0] rfl)

def fX4_put (z_cells : Nat → Int32) (x1 : Int32) (x2 : Int32) (x3 : Int32) : Option ((Nat → Int32)) := gd (okx ((x1 * (4 : Int32)) + x2) 24) (lets (upd z_cells ((x1 * (4 : Int32)) + x2).toNatClampNeg x3) (fun z_cells_10 => some z_cells_10))
abbrev rmX4_put : Room := { frames := 0, cells := 0, slots := 0, locals := 0 }
set_option maxHeartbeats 4000000 in
set_option maxRecDepth 100000 in
theorem ktX4_put (l : Launch) (D : va_G) (cy : Nat → ClassId) (q0 : Nat) (q_cells : Nat) (z_cells : Nat → Int32) (x1 : Int32) (x2 : Int32) (x3 : Int32) (r : (Nat → Int32)) (hf : fX4_put z_cells x1 x2 x3 = some r) : CtV l yX4_put wsX4_put rmX4_put D cy [.ref q0, .int x1, .int x2, .int x3] [(q0, oB 4 [.ref q_cells]), (q_cells, aI cy 24 z_cells)] [(q0, oB 4 [.ref q_cells]), (q_cells, aI cy 24 r)] := by
  refine Ct_ofV (cc := cX4_put) (nL := 4) (by decide) rfl (Nat.le_of_ble_eq_true rfl) ?_
  intro p e s m args below meth c A Q hM hret hP hD hS ls hl
  obtain ⟨hx, hb, hml, hown, hts, hcx, hA, hsx⟩ := hM
  have hown : s.vm.findClass RX4 = some m.cls := hown
  have hK := hcx.1
  have hN := hcx.2
  have kw0 := hts (.fieldLink RX4 9 "EachBrings$Weights" "cells" "[I") (List.mem_of_getElem? (i := 1) rfl)
  have kc1 : ∀ w ∈ wsX40, w ∈ wsX4_put := fun _ h => List.mem_cons_of_mem _ (List.mem_append_right _ h)
  have hl : lv_has ls 4 [(0, .ref q0), (1, .int x1), (2, .int x2), (3, .int x3)] := hl
  have hret' : ∀ (pc : Nat) (ls : Array Slot) (H : Heap) (locs : List Loc) (w0 : Nat → Int32), decode cX4_put pc = .ok (.return_, 1) → some w0 = some r → va_P D vwCl [(q0, oB 4 [.ref q_cells]), (q_cells, aI cy 24 w0)] H → va_D A [(q0, oB 4 [.ref q_cells]), (q_cells, aI cy 24 w0)] → va_S A s.heap H locs → W p l e rmX4_put s m args below meth c H locs 0 0 Q (F0 m pc ls []) := by
    intro pc ls H locs w0 hd he hP hD hS
    cases he
    exact hret _ _ _ _ hd hP hD hS
  unfold fX4_put at hf
  refine lv_aload_n hx hb dX4_put_0 rfl (lv_at hl 0 rfl) ?_
  refine va_get (D := D) (ci := 4) (v := .ref q_cells) (C := RX4) (T := TX4) (N := 1) hx hb hts kc1 hown hK hP 0 rfl rfl 0 (by decide) kw0 (fun _ h9 => h9) rfl dX4_put_1 ?_
  refine lv_iload_n hx hb dX4_put_4 rfl (lv_at hl 1 rfl) ?_
  refine lv_iconst (v := 4) hx hb dX4_put_5 (by decide) ?_
  refine lv_imul hx hb dX4_put_6 ?_
  refine lv_iload_n hx hb dX4_put_7 rfl (lv_at hl 2 rfl) ?_
  refine lv_iadd hx hb dX4_put_8 ?_
  refine lv_iload_n hx hb dX4_put_9 rfl (lv_at hl 3 rfl) ?_
  obtain ⟨hg_10, hf⟩ := gd_some hf
  refine va_iast hx hb hK hP hD hS 1 0 rfl rfl hg_10 dX4_put_10 (fun H locs hP hD hS => ?_)
  obtain ⟨z_cells_10, ez_cells_10⟩ : ∃ y : Nat → Int32, y = upd z_cells ((x1 * (4 : Int32)) + x2).toNatClampNeg x3 := ⟨_, rfl⟩
  have hf := lets_at hf ez_cells_10
  rw [← ez_cells_10] at hP hD
  have hP : va_P D vwCl [(q0, oB 4 [.ref q_cells]), (q_cells, aI cy 24 z_cells_10)] H := hP
  have hD : va_D A [(q0, oB 4 [.ref q_cells]), (q_cells, aI cy 24 z_cells_10)] := hD
  exact hret' _ _ _ _ _ dX4_put_11 hf hP hD hS

def X4_sortsOf_J21 (x3_4 : Int32) (self_4 : Int32 → Int32 → Option Int32) (x2_21 : Int32) : Option Int32 := lets (x3_4 + (1 : Int32)) (fun x3_21 => self_4 x2_21 x3_21)
def X4_sortsOf_S4 (z_cells : Nat → Int32) (x1 : Int32) (self_4 : Int32 → Int32 → Option Int32) (x2_4 : Int32) (x3_4 : Int32) : Option Int32 := if (4 : Int32) ≤ x3_4 then (some x2_4) else ((fX4_of z_cells x1 x3_4).bind (fun r_12 => if r_12 ≤ 0 then (X4_sortsOf_J21 x3_4 self_4 x2_4) else (lets (x2_4 + (1 : Int32)) (fun x2_18 => X4_sortsOf_J21 x3_4 self_4 x2_18))))
def fX4_sortsOf (z_cells : Nat → Int32) (x1 : Int32) : Option Int32 := it2 (X4_sortsOf_S4 z_cells x1) 100000 (0 : Int32) (0 : Int32)
abbrev rmX4_sortsOf : Room := { frames := 1, cells := 0, slots := 0, locals := 22 }
set_option maxHeartbeats 4000000 in
set_option maxRecDepth 100000 in
theorem ktX4_sortsOf (l : Launch) (D : va_G) (cy : Nat → ClassId) (q0 : Nat) (q_cells : Nat) (z_cells : Nat → Int32) (x1 : Int32) (r : Int32) (hf : fX4_sortsOf z_cells x1 = some r) : CtI l yX4_sortsOf wsX4_sortsOf rmX4_sortsOf D cy [.ref q0, .int x1] [(q0, oB 4 [.ref q_cells]), (q_cells, aI cy 24 z_cells)] [(q0, oB 4 [.ref q_cells]), (q_cells, aI cy 24 z_cells)] r := by
  refine Ct_ofI (cc := cX4_sortsOf) (nL := 4) (by decide) rfl (Nat.le_of_ble_eq_true rfl) ?_
  intro p e s m args below meth c A Q hM hret hP hD hS ls hl
  obtain ⟨hx, hb, hml, hown, hts, hcx, hA, hsx⟩ := hM
  have hown : s.vm.findClass RX4 = some m.cls := hown
  have hK := hcx.1
  have hN := hcx.2
  have hl : lv_has ls 4 [(0, .ref q0), (1, .int x1)] := hl
  have hret' : ∀ (pc : Nat) (ls : Array Slot) (H : Heap) (locs : List Loc) (v : Int32), decode cX4_sortsOf pc = .ok (.ireturn, 1) → some v = some r → va_P D vwCl [(q0, oB 4 [.ref q_cells]), (q_cells, aI cy 24 z_cells)] H → va_D A [(q0, oB 4 [.ref q_cells]), (q_cells, aI cy 24 z_cells)] → va_S A s.heap H locs → W p l e rmX4_sortsOf s m args below meth c H locs 0 0 Q (F0 m pc ls [.int v]) := by
    intro pc ls H locs v hd he hP hD hS
    cases he
    exact hret _ _ _ _ _ hd rfl hP hD hS
  unfold fX4_sortsOf at hf
  refine lv_iconst (v := 0) hx hb dX4_sortsOf_0 (by decide) ?_
  refine lv_istore_n (lv' := [(2, .int (0 : Int32)), (0, .ref q0), (1, .int x1)]) hx hb dX4_sortsOf_1 rfl hl (by decide) rfl (fun ls hl => ?_)
  refine lv_iconst (v := 0) hx hb dX4_sortsOf_2 (by decide) ?_
  refine lv_istore_n (lv' := [(3, .int (0 : Int32)), (2, .int (0 : Int32)), (0, .ref q0), (1, .int x1)]) hx hb dX4_sortsOf_3 rfl hl (by decide) rfl (fun ls hl => ?_)
  have hL4 : ∀ (n : Nat) (x2_4 : Int32) (x3_4 : Int32) (H : Heap) (locs : List Loc) (ls : Array Slot), it2 (X4_sortsOf_S4 z_cells x1) n x2_4 x3_4 = some r → va_P D vwCl [(q0, oB 4 [.ref q_cells]), (q_cells, aI cy 24 z_cells)] H → va_D A [(q0, oB 4 [.ref q_cells]), (q_cells, aI cy 24 z_cells)] → va_S A s.heap H locs → lv_has ls 4 [(0, .ref q0), (1, .int x1), (2, .int x2_4), (3, .int x3_4)] → W p l e rmX4_sortsOf s m args below meth c H locs 0 0 Q (F0 m 4 ls []) := by
    intro n
    induction n with
    | zero => intro x2_4 x3_4 H locs ls hf; exact absurd hf (by simp [it2])
    | succ n ih4 =>
      intro x2_4 x3_4 H locs ls hf hP hD hS hl
      have hf : X4_sortsOf_S4 z_cells x1 (it2 (X4_sortsOf_S4 z_cells x1) n) x2_4 x3_4 = some r := hf
      generalize it2 (X4_sortsOf_S4 z_cells x1) n = self_4 at hf ih4
      unfold X4_sortsOf_S4 at hf
      refine lv_iload_n hx hb dX4_sortsOf_4 rfl (lv_at hl 3 rfl) ?_
      refine lv_iconst (v := 4) hx hb dX4_sortsOf_5 (by decide) ?_
      refine lv_icmp_ge (tgt := 27) hx hb dX4_sortsOf_6 (by decide) (fun hc_6 => ?_) (fun hc_6 => ?_)
      · have hf := it_t hf hc_6
        refine lv_iload_n hx hb dX4_sortsOf_27 rfl (lv_at hl 2 rfl) ?_
        exact hret' _ _ _ _ _ dX4_sortsOf_28 hf hP hD hS
      · have hf := it_f hf hc_6
        refine lv_aload_n hx hb dX4_sortsOf_9 rfl (lv_at hl 0 rfl) ?_
        refine lv_iload_n hx hb dX4_sortsOf_10 rfl (lv_at hl 1 rfl) ?_
        refine lv_iload_n hx hb dX4_sortsOf_11 rfl (lv_at hl 3 rfl) ?_
        obtain ⟨r_12, hr_12, hf⟩ := bd_some hf
        refine cl_i (wc := [(q0, oB 4 [.ref q_cells]), (q_cells, aI cy 24 z_cells)]) (w1 := [(q0, oB 4 [.ref q_cells]), (q_cells, aI cy 24 z_cells)]) (wr := []) (w2 := [(q0, oB 4 [.ref q_cells]), (q_cells, aI cy 24 z_cells)]) (va_runV (As := [.int x1, .int x3_4]) (rest := []) ⟨hx, hb, hml, hown, hts⟩ (ktX4_of l D cy q0 q_cells z_cells x1 x3_4 r_12 hr_12 _) (cwV 2 hts gX4_sortsOf_X4_of rfl rfl rfl (by decide +kernel) ⟨Nat.le_of_ble_eq_true rfl, Nat.le_of_ble_eq_true rfl⟩) (pre_V (wc := [(q0, oB 4 [.ref q_cells]), (q_cells, aI cy 24 z_cells)]) (ci := 4) hcx hsx hS hA hP hD [0, 1] rfl (by decide) rfl rfl) rfl rfl hl.1 rfl (lv_room (Nat.le_of_ble_eq_true rfl)) dX4_sortsOf_12 ⟨Nat.zero_le _, Nat.zero_le _⟩) hP hD hS hA [0, 1] [] [0, 1] rfl rfl (by decide) (by decide) (by decide) rfl (fun H locs hP hD hS => ?_)
        have hJ21 : ∀ (x2_21 : Int32) (H : Heap) (locs : List Loc) (ls : Array Slot), X4_sortsOf_J21 x3_4 self_4 x2_21 = some r → va_P D vwCl [(q0, oB 4 [.ref q_cells]), (q_cells, aI cy 24 z_cells)] H → va_D A [(q0, oB 4 [.ref q_cells]), (q_cells, aI cy 24 z_cells)] → va_S A s.heap H locs → lv_has ls 4 [(0, .ref q0), (1, .int x1), (2, .int x2_21), (3, .int x3_4)] → W p l e rmX4_sortsOf s m args below meth c H locs 0 0 Q (F0 m 21 ls []) := by
          intro x2_21 H locs ls hf hP hD hS hl
          unfold X4_sortsOf_J21 at hf
          obtain ⟨x3_21, ex3_21⟩ : ∃ y : Int32, y = x3_4 + (1 : Int32) := ⟨_, rfl⟩
          have hf := lets_at hf ex3_21
          refine lv_iinc (v := x3_21) (lv' := [(3, .int x3_21), (0, .ref q0), (1, .int x1), (2, .int x2_21)]) hx hb dX4_sortsOf_21 hl (k := 3) rfl (by rw [ex3_21]; rfl) (by decide) rfl (fun ls hl => ?_)
          refine lv_goto (tgt := 4) hx hb dX4_sortsOf_24 (by decide) ?_
          exact ih4 x2_21 x3_21 _ _ _ hf hP hD hS (lv_sub hl [1, 2, 3, 0] rfl)
        refine lv_if_le (tgt := 21) hx hb dX4_sortsOf_15 (by decide) (fun hc_15 => ?_) (fun hc_15 => ?_)
        · have hf := it_t hf hc_15
          exact hJ21 x2_4 _ _ _ hf hP hD hS (lv_sub hl [0, 1, 2, 3] rfl)
        · have hf := it_f hf hc_15
          obtain ⟨x2_18, ex2_18⟩ : ∃ y : Int32, y = x2_4 + (1 : Int32) := ⟨_, rfl⟩
          have hf := lets_at hf ex2_18
          refine lv_iinc (v := x2_18) (lv' := [(2, .int x2_18), (0, .ref q0), (1, .int x1), (3, .int x3_4)]) hx hb dX4_sortsOf_18 hl (k := 2) rfl (by rw [ex2_18]; rfl) (by decide) rfl (fun ls hl => ?_)
          exact hJ21 x2_18 _ _ _ hf hP hD hS (lv_sub hl [1, 2, 0, 3] rfl)
  exact hL4 _ (0 : Int32) (0 : Int32) _ _ _ hf hP hD hS (lv_sub hl [2, 3, 1, 0] rfl)

def X4_heaviest_J36 (x4_8 : Int32) (self_8 : Int32 → Int32 → Int32 → Option Int32) (x2_36 : Int32) (x3_36 : Int32) : Option Int32 := lets (x4_8 + (1 : Int32)) (fun x4_36 => self_8 x2_36 x3_36 x4_36)
def X4_heaviest_S8 (z_cells : Nat → Int32) (x1 : Int32) (self_8 : Int32 → Int32 → Int32 → Option Int32) (x2_8 : Int32) (x3_8 : Int32) (x4_8 : Int32) : Option Int32 := if (4 : Int32) ≤ x4_8 then (some x2_8) else ((fX4_of z_cells x1 x4_8).bind (fun r_18 => if r_18 ≤ x3_8 then (X4_heaviest_J36 x4_8 self_8 x2_8 x3_8) else ((fX4_of z_cells x1 x4_8).bind (fun r_32 => X4_heaviest_J36 x4_8 self_8 x4_8 r_32))))
def fX4_heaviest (z_cells : Nat → Int32) (x1 : Int32) : Option Int32 := it3 (X4_heaviest_S8 z_cells x1) 100000 (-9 : Int32) (0 : Int32) (0 : Int32)
abbrev rmX4_heaviest : Room := { frames := 1, cells := 0, slots := 0, locals := 22 }
set_option maxHeartbeats 4000000 in
set_option maxRecDepth 100000 in
theorem ktX4_heaviest (l : Launch) (D : va_G) (cy : Nat → ClassId) (q0 : Nat) (q_cells : Nat) (z_cells : Nat → Int32) (x1 : Int32) (r : Int32) (hf : fX4_heaviest z_cells x1 = some r) : CtI l yX4_heaviest wsX4_heaviest rmX4_heaviest D cy [.ref q0, .int x1] [(q0, oB 4 [.ref q_cells]), (q_cells, aI cy 24 z_cells)] [(q0, oB 4 [.ref q_cells]), (q_cells, aI cy 24 z_cells)] r := by
  refine Ct_ofI (cc := cX4_heaviest) (nL := 5) (by decide) rfl (Nat.le_of_ble_eq_true rfl) ?_
  intro p e s m args below meth c A Q hM hret hP hD hS ls hl
  obtain ⟨hx, hb, hml, hown, hts, hcx, hA, hsx⟩ := hM
  have hown : s.vm.findClass RX4 = some m.cls := hown
  have hK := hcx.1
  have hN := hcx.2
  have hl : lv_has ls 5 [(0, .ref q0), (1, .int x1)] := hl
  have hret' : ∀ (pc : Nat) (ls : Array Slot) (H : Heap) (locs : List Loc) (v : Int32), decode cX4_heaviest pc = .ok (.ireturn, 1) → some v = some r → va_P D vwCl [(q0, oB 4 [.ref q_cells]), (q_cells, aI cy 24 z_cells)] H → va_D A [(q0, oB 4 [.ref q_cells]), (q_cells, aI cy 24 z_cells)] → va_S A s.heap H locs → W p l e rmX4_heaviest s m args below meth c H locs 0 0 Q (F0 m pc ls [.int v]) := by
    intro pc ls H locs v hd he hP hD hS
    cases he
    exact hret _ _ _ _ _ hd rfl hP hD hS
  unfold fX4_heaviest at hf
  refine lv_bipush (v := -9) hx hb dX4_heaviest_0 (by decide) ?_
  refine lv_istore_n (lv' := [(2, .int (-9 : Int32)), (0, .ref q0), (1, .int x1)]) hx hb dX4_heaviest_2 rfl hl (by decide) rfl (fun ls hl => ?_)
  refine lv_iconst (v := 0) hx hb dX4_heaviest_3 (by decide) ?_
  refine lv_istore_n (lv' := [(3, .int (0 : Int32)), (2, .int (-9 : Int32)), (0, .ref q0), (1, .int x1)]) hx hb dX4_heaviest_4 rfl hl (by decide) rfl (fun ls hl => ?_)
  refine lv_iconst (v := 0) hx hb dX4_heaviest_5 (by decide) ?_
  refine lv_istore (lv' := [(4, .int (0 : Int32)), (3, .int (0 : Int32)), (2, .int (-9 : Int32)), (0, .ref q0), (1, .int x1)]) hx hb dX4_heaviest_6 hl (by decide) rfl (fun ls hl => ?_)
  have hL8 : ∀ (n : Nat) (x2_8 : Int32) (x3_8 : Int32) (x4_8 : Int32) (H : Heap) (locs : List Loc) (ls : Array Slot), it3 (X4_heaviest_S8 z_cells x1) n x2_8 x3_8 x4_8 = some r → va_P D vwCl [(q0, oB 4 [.ref q_cells]), (q_cells, aI cy 24 z_cells)] H → va_D A [(q0, oB 4 [.ref q_cells]), (q_cells, aI cy 24 z_cells)] → va_S A s.heap H locs → lv_has ls 5 [(0, .ref q0), (1, .int x1), (2, .int x2_8), (3, .int x3_8), (4, .int x4_8)] → W p l e rmX4_heaviest s m args below meth c H locs 0 0 Q (F0 m 8 ls []) := by
    intro n
    induction n with
    | zero => intro x2_8 x3_8 x4_8 H locs ls hf; exact absurd hf (by simp [it3])
    | succ n ih8 =>
      intro x2_8 x3_8 x4_8 H locs ls hf hP hD hS hl
      have hf : X4_heaviest_S8 z_cells x1 (it3 (X4_heaviest_S8 z_cells x1) n) x2_8 x3_8 x4_8 = some r := hf
      generalize it3 (X4_heaviest_S8 z_cells x1) n = self_8 at hf ih8
      unfold X4_heaviest_S8 at hf
      refine lv_iload hx hb dX4_heaviest_8 (lv_at hl 4 rfl) ?_
      refine lv_iconst (v := 4) hx hb dX4_heaviest_10 (by decide) ?_
      refine lv_icmp_ge (tgt := 42) hx hb dX4_heaviest_11 (by decide) (fun hc_11 => ?_) (fun hc_11 => ?_)
      · have hf := it_t hf hc_11
        refine lv_iload_n hx hb dX4_heaviest_42 rfl (lv_at hl 2 rfl) ?_
        exact hret' _ _ _ _ _ dX4_heaviest_43 hf hP hD hS
      · have hf := it_f hf hc_11
        refine lv_aload_n hx hb dX4_heaviest_14 rfl (lv_at hl 0 rfl) ?_
        refine lv_iload_n hx hb dX4_heaviest_15 rfl (lv_at hl 1 rfl) ?_
        refine lv_iload hx hb dX4_heaviest_16 (lv_at hl 4 rfl) ?_
        obtain ⟨r_18, hr_18, hf⟩ := bd_some hf
        refine cl_i (wc := [(q0, oB 4 [.ref q_cells]), (q_cells, aI cy 24 z_cells)]) (w1 := [(q0, oB 4 [.ref q_cells]), (q_cells, aI cy 24 z_cells)]) (wr := []) (w2 := [(q0, oB 4 [.ref q_cells]), (q_cells, aI cy 24 z_cells)]) (va_runV (As := [.int x1, .int x4_8]) (rest := []) ⟨hx, hb, hml, hown, hts⟩ (ktX4_of l D cy q0 q_cells z_cells x1 x4_8 r_18 hr_18 _) (cwV 2 hts gX4_heaviest_X4_of rfl rfl rfl (by decide +kernel) ⟨Nat.le_of_ble_eq_true rfl, Nat.le_of_ble_eq_true rfl⟩) (pre_V (wc := [(q0, oB 4 [.ref q_cells]), (q_cells, aI cy 24 z_cells)]) (ci := 4) hcx hsx hS hA hP hD [0, 1] rfl (by decide) rfl rfl) rfl rfl hl.1 rfl (lv_room (Nat.le_of_ble_eq_true rfl)) dX4_heaviest_18 ⟨Nat.zero_le _, Nat.zero_le _⟩) hP hD hS hA [0, 1] [] [0, 1] rfl rfl (by decide) (by decide) (by decide) rfl (fun H locs hP hD hS => ?_)
        refine lv_iload_n hx hb dX4_heaviest_21 rfl (lv_at hl 3 rfl) ?_
        have hJ36 : ∀ (x2_36 : Int32) (x3_36 : Int32) (H : Heap) (locs : List Loc) (ls : Array Slot), X4_heaviest_J36 x4_8 self_8 x2_36 x3_36 = some r → va_P D vwCl [(q0, oB 4 [.ref q_cells]), (q_cells, aI cy 24 z_cells)] H → va_D A [(q0, oB 4 [.ref q_cells]), (q_cells, aI cy 24 z_cells)] → va_S A s.heap H locs → lv_has ls 5 [(0, .ref q0), (1, .int x1), (2, .int x2_36), (3, .int x3_36), (4, .int x4_8)] → W p l e rmX4_heaviest s m args below meth c H locs 0 0 Q (F0 m 36 ls []) := by
          intro x2_36 x3_36 H locs ls hf hP hD hS hl
          unfold X4_heaviest_J36 at hf
          obtain ⟨x4_36, ex4_36⟩ : ∃ y : Int32, y = x4_8 + (1 : Int32) := ⟨_, rfl⟩
          have hf := lets_at hf ex4_36
          refine lv_iinc (v := x4_36) (lv' := [(4, .int x4_36), (0, .ref q0), (1, .int x1), (2, .int x2_36), (3, .int x3_36)]) hx hb dX4_heaviest_36 hl (k := 4) rfl (by rw [ex4_36]; rfl) (by decide) rfl (fun ls hl => ?_)
          refine lv_goto (tgt := 8) hx hb dX4_heaviest_39 (by decide) ?_
          exact ih8 x2_36 x3_36 x4_36 _ _ _ hf hP hD hS (lv_sub hl [1, 2, 3, 4, 0] rfl)
        refine lv_icmp_le (tgt := 36) hx hb dX4_heaviest_22 (by decide) (fun hc_22 => ?_) (fun hc_22 => ?_)
        · have hf := it_t hf hc_22
          exact hJ36 x2_8 x3_8 _ _ _ hf hP hD hS (lv_sub hl [0, 1, 2, 3, 4] rfl)
        · have hf := it_f hf hc_22
          refine lv_iload hx hb dX4_heaviest_25 (lv_at hl 4 rfl) ?_
          refine lv_istore_n (lv' := [(2, .int x4_8), (0, .ref q0), (1, .int x1), (3, .int x3_8), (4, .int x4_8)]) hx hb dX4_heaviest_27 rfl hl (by decide) rfl (fun ls hl => ?_)
          refine lv_aload_n hx hb dX4_heaviest_28 rfl (lv_at hl 1 rfl) ?_
          refine lv_iload_n hx hb dX4_heaviest_29 rfl (lv_at hl 2 rfl) ?_
          refine lv_iload hx hb dX4_heaviest_30 (lv_at hl 4 rfl) ?_
          obtain ⟨r_32, hr_32, hf⟩ := bd_some hf
          refine cl_i (wc := [(q0, oB 4 [.ref q_cells]), (q_cells, aI cy 24 z_cells)]) (w1 := [(q0, oB 4 [.ref q_cells]), (q_cells, aI cy 24 z_cells)]) (wr := []) (w2 := [(q0, oB 4 [.ref q_cells]), (q_cells, aI cy 24 z_cells)]) (va_runV (As := [.int x1, .int x4_8]) (rest := []) ⟨hx, hb, hml, hown, hts⟩ (ktX4_of l D cy q0 q_cells z_cells x1 x4_8 r_32 hr_32 _) (cwV 2 hts gX4_heaviest_X4_of rfl rfl rfl (by decide +kernel) ⟨Nat.le_of_ble_eq_true rfl, Nat.le_of_ble_eq_true rfl⟩) (pre_V (wc := [(q0, oB 4 [.ref q_cells]), (q_cells, aI cy 24 z_cells)]) (ci := 4) hcx hsx hS hA hP hD [0, 1] rfl (by decide) rfl rfl) rfl rfl hl.1 rfl (lv_room (Nat.le_of_ble_eq_true rfl)) dX4_heaviest_32 ⟨Nat.zero_le _, Nat.zero_le _⟩) hP hD hS hA [0, 1] [] [0, 1] rfl rfl (by decide) (by decide) (by decide) rfl (fun H locs hP hD hS => ?_)
          refine lv_istore_n (lv' := [(3, .int r_32), (2, .int x4_8), (0, .ref q0), (1, .int x1), (4, .int x4_8)]) hx hb dX4_heaviest_35 rfl hl (by decide) rfl (fun ls hl => ?_)
          exact hJ36 x4_8 r_32 _ _ _ hf hP hD hS (lv_sub hl [2, 3, 1, 0, 4] rfl)
  exact hL8 _ (-9 : Int32) (0 : Int32) (0 : Int32) _ _ _ hf hP hD hS (lv_sub hl [3, 4, 2, 1, 0] rfl)

def X4_nextFrom_S2 (z_cells : Nat → Int32) (x1 : Int32) (x2 : Int32) (self_2 : Int32 → Option Int32) (x3_2 : Int32) : Option Int32 := if (4 : Int32) ≤ x3_2 then (some (-9 : Int32)) else (lets ((x1 + x3_2) - (x1 + x3_2) / (4 : Int32) * (4 : Int32)) (fun x4_12 => (fX4_of z_cells x2 x4_12).bind (fun r_18 => if r_18 ≤ 0 then (lets (x3_2 + (1 : Int32)) (fun x3_27 => self_2 x3_27)) else (some x4_12))))
def fX4_nextFrom (z_cells : Nat → Int32) (x1 : Int32) (x2 : Int32) : Option Int32 := it1 (X4_nextFrom_S2 z_cells x1 x2) 100000 (0 : Int32)
abbrev rmX4_nextFrom : Room := { frames := 1, cells := 0, slots := 0, locals := 22 }
set_option maxHeartbeats 4000000 in
set_option maxRecDepth 100000 in
theorem ktX4_nextFrom (l : Launch) (D : va_G) (cy : Nat → ClassId) (q0 : Nat) (q_cells : Nat) (z_cells : Nat → Int32) (x1 : Int32) (x2 : Int32) (r : Int32) (hf : fX4_nextFrom z_cells x1 x2 = some r) : CtI l yX4_nextFrom wsX4_nextFrom rmX4_nextFrom D cy [.ref q0, .int x1, .int x2] [(q0, oB 4 [.ref q_cells]), (q_cells, aI cy 24 z_cells)] [(q0, oB 4 [.ref q_cells]), (q_cells, aI cy 24 z_cells)] r := by
  refine Ct_ofI (cc := cX4_nextFrom) (nL := 5) (by decide) rfl (Nat.le_of_ble_eq_true rfl) ?_
  intro p e s m args below meth c A Q hM hret hP hD hS ls hl
  obtain ⟨hx, hb, hml, hown, hts, hcx, hA, hsx⟩ := hM
  have hown : s.vm.findClass RX4 = some m.cls := hown
  have hK := hcx.1
  have hN := hcx.2
  have hl : lv_has ls 5 [(0, .ref q0), (1, .int x1), (2, .int x2)] := hl
  have hret' : ∀ (pc : Nat) (ls : Array Slot) (H : Heap) (locs : List Loc) (v : Int32), decode cX4_nextFrom pc = .ok (.ireturn, 1) → some v = some r → va_P D vwCl [(q0, oB 4 [.ref q_cells]), (q_cells, aI cy 24 z_cells)] H → va_D A [(q0, oB 4 [.ref q_cells]), (q_cells, aI cy 24 z_cells)] → va_S A s.heap H locs → W p l e rmX4_nextFrom s m args below meth c H locs 0 0 Q (F0 m pc ls [.int v]) := by
    intro pc ls H locs v hd he hP hD hS
    cases he
    exact hret _ _ _ _ _ hd rfl hP hD hS
  unfold fX4_nextFrom at hf
  refine lv_iconst (v := 0) hx hb dX4_nextFrom_0 (by decide) ?_
  refine lv_istore_n (lv' := [(3, .int (0 : Int32)), (0, .ref q0), (1, .int x1), (2, .int x2)]) hx hb dX4_nextFrom_1 rfl hl (by decide) rfl (fun ls hl => ?_)
  have hL2 : ∀ (n : Nat) (x3_2 : Int32) (H : Heap) (locs : List Loc) (ls : Array Slot), it1 (X4_nextFrom_S2 z_cells x1 x2) n x3_2 = some r → va_P D vwCl [(q0, oB 4 [.ref q_cells]), (q_cells, aI cy 24 z_cells)] H → va_D A [(q0, oB 4 [.ref q_cells]), (q_cells, aI cy 24 z_cells)] → va_S A s.heap H locs → lv_has ls 5 [(0, .ref q0), (1, .int x1), (2, .int x2), (3, .int x3_2)] → W p l e rmX4_nextFrom s m args below meth c H locs 0 0 Q (F0 m 2 ls []) := by
    intro n
    induction n with
    | zero => intro x3_2 H locs ls hf; exact absurd hf (by simp [it1])
    | succ n ih2 =>
      intro x3_2 H locs ls hf hP hD hS hl
      have hf : X4_nextFrom_S2 z_cells x1 x2 (it1 (X4_nextFrom_S2 z_cells x1 x2) n) x3_2 = some r := hf
      generalize it1 (X4_nextFrom_S2 z_cells x1 x2) n = self_2 at hf ih2
      unfold X4_nextFrom_S2 at hf
      refine lv_iload_n hx hb dX4_nextFrom_2 rfl (lv_at hl 3 rfl) ?_
      refine lv_iconst (v := 4) hx hb dX4_nextFrom_3 (by decide) ?_
      refine lv_icmp_ge (tgt := 33) hx hb dX4_nextFrom_4 (by decide) (fun hc_4 => ?_) (fun hc_4 => ?_)
      · have hf := it_t hf hc_4
        refine lv_bipush (v := -9) hx hb dX4_nextFrom_33 (by decide) ?_
        exact hret' _ _ _ _ _ dX4_nextFrom_35 hf hP hD hS
      · have hf := it_f hf hc_4
        refine lv_iload_n hx hb dX4_nextFrom_7 rfl (lv_at hl 1 rfl) ?_
        refine lv_iload_n hx hb dX4_nextFrom_8 rfl (lv_at hl 3 rfl) ?_
        refine lv_iadd hx hb dX4_nextFrom_9 ?_
        refine lv_iconst (v := 4) hx hb dX4_nextFrom_10 (by decide) ?_
        refine lv_irem hx hb dX4_nextFrom_11 (by decide) ?_
        refine lv_topi (fun x4_12 ex4_12 => ?_)
        have hf := lets_at hf ex4_12
        refine lv_istore (lv' := [(4, .int x4_12), (0, .ref q0), (1, .int x1), (2, .int x2), (3, .int x3_2)]) hx hb dX4_nextFrom_12 hl (by decide) rfl (fun ls hl => ?_)
        refine lv_aload_n hx hb dX4_nextFrom_14 rfl (lv_at hl 1 rfl) ?_
        refine lv_iload_n hx hb dX4_nextFrom_15 rfl (lv_at hl 3 rfl) ?_
        refine lv_iload hx hb dX4_nextFrom_16 (lv_at hl 0 rfl) ?_
        obtain ⟨r_18, hr_18, hf⟩ := bd_some hf
        refine cl_i (wc := [(q0, oB 4 [.ref q_cells]), (q_cells, aI cy 24 z_cells)]) (w1 := [(q0, oB 4 [.ref q_cells]), (q_cells, aI cy 24 z_cells)]) (wr := []) (w2 := [(q0, oB 4 [.ref q_cells]), (q_cells, aI cy 24 z_cells)]) (va_runV (As := [.int x2, .int x4_12]) (rest := []) ⟨hx, hb, hml, hown, hts⟩ (ktX4_of l D cy q0 q_cells z_cells x2 x4_12 r_18 hr_18 _) (cwV 2 hts gX4_nextFrom_X4_of rfl rfl rfl (by decide +kernel) ⟨Nat.le_of_ble_eq_true rfl, Nat.le_of_ble_eq_true rfl⟩) (pre_V (wc := [(q0, oB 4 [.ref q_cells]), (q_cells, aI cy 24 z_cells)]) (ci := 4) hcx hsx hS hA hP hD [0, 1] rfl (by decide) rfl rfl) rfl rfl hl.1 rfl (lv_room (Nat.le_of_ble_eq_true rfl)) dX4_nextFrom_18 ⟨Nat.zero_le _, Nat.zero_le _⟩) hP hD hS hA [0, 1] [] [0, 1] rfl rfl (by decide) (by decide) (by decide) rfl (fun H locs hP hD hS => ?_)
        refine lv_if_le (tgt := 27) hx hb dX4_nextFrom_21 (by decide) (fun hc_21 => ?_) (fun hc_21 => ?_)
        · have hf := it_t hf hc_21
          obtain ⟨x3_27, ex3_27⟩ : ∃ y : Int32, y = x3_2 + (1 : Int32) := ⟨_, rfl⟩
          have hf := lets_at hf ex3_27
          refine lv_iinc (v := x3_27) (lv' := [(3, .int x3_27), (4, .int x4_12), (0, .ref q0), (1, .int x1), (2, .int x2)]) hx hb dX4_nextFrom_27 hl (k := 4) rfl (by rw [ex3_27]; rfl) (by decide) rfl (fun ls hl => ?_)
          refine lv_goto (tgt := 2) hx hb dX4_nextFrom_30 (by decide) ?_
          exact ih2 x3_27 _ _ _ hf hP hD hS (lv_sub hl [2, 3, 4, 0] rfl)
        · have hf := it_f hf hc_21
          refine lv_iload hx hb dX4_nextFrom_24 (lv_at hl 0 rfl) ?_
          exact hret' _ _ _ _ _ dX4_nextFrom_26 hf hP hD hS
  exact hL2 _ (0 : Int32) _ _ _ hf hP hD hS (lv_sub hl [1, 2, 3, 0] rfl)

def X4_pass_J66 (x5_24 : Int32) (self_24 : Int32 → (Nat → Int32) → Option ((Nat → Int32))) (z_cells_66 : Nat → Int32) : Option ((Nat → Int32)) := lets (x5_24 + (1 : Int32)) (fun x5_66 => self_24 x5_66 z_cells_66)
def X4_pass_S24 (x1 : Int32) (t0_19 : Int32) (self_24 : Int32 → (Nat → Int32) → Option ((Nat → Int32))) (x5_24 : Int32) (z_cells_24 : Nat → Int32) : Option ((Nat → Int32)) := if (6 : Int32) ≤ x5_24 then (some z_cells_24) else ((fX4_of z_cells_24 x5_24 x1).bind (fun r_35 => if r_35 ≤ 0 then (X4_pass_J66 x5_24 self_24 z_cells_24) else ((fX4_put z_cells_24 x5_24 x1 (if (1 : Int32) < (if (r_35 + t0_19) < (9 : Int32) then (r_35 + t0_19) else (9 : Int32)) then (if (r_35 + t0_19) < (9 : Int32) then (r_35 + t0_19) else (9 : Int32)) else (1 : Int32))).bind (fun r_63 => X4_pass_J66 x5_24 self_24 r_63))))
def X4_pass_J19 (z_cells : Nat → Int32) (x1 : Int32) (t0_19 : Int32) : Option ((Nat → Int32)) := it2 (X4_pass_S24 x1 t0_19) 100000 (0 : Int32) z_cells
def fX4_pass (z_cells : Nat → Int32) (x1 : Int32) (x2 : Int32) (x3 : Int32) : Option ((Nat → Int32)) := if x2 = 0 then (X4_pass_J19 z_cells x1 x3) else (if x2 = (1 : Int32) then (X4_pass_J19 z_cells x1 (0 : Int32)) else (X4_pass_J19 z_cells x1 (-x3)))
abbrev rmX4_pass : Room := { frames := 1, cells := 0, slots := 0, locals := 23 }
set_option maxHeartbeats 4000000 in
set_option maxRecDepth 100000 in
theorem ktX4_pass (l : Launch) (D : va_G) (cy : Nat → ClassId) (q0 : Nat) (q_cells : Nat) (z_cells : Nat → Int32) (x1 : Int32) (x2 : Int32) (x3 : Int32) (r : (Nat → Int32)) (hf : fX4_pass z_cells x1 x2 x3 = some r) : CtV l yX4_pass wsX4_pass rmX4_pass D cy [.ref q0, .int x1, .int x2, .int x3] [(q0, oB 4 [.ref q_cells]), (q_cells, aI cy 24 z_cells)] [(q0, oB 4 [.ref q_cells]), (q_cells, aI cy 24 r)] := by
  refine Ct_ofV (cc := cX4_pass) (nL := 7) (by decide) rfl (Nat.le_of_ble_eq_true rfl) ?_
  intro p e s m args below meth c A Q hM hret hP hD hS ls hl
  obtain ⟨hx, hb, hml, hown, hts, hcx, hA, hsx⟩ := hM
  have hown : s.vm.findClass RX4 = some m.cls := hown
  have hK := hcx.1
  have hN := hcx.2
  have kw0 := hts (.methodLink RX4 25 Lib.Math.min.name) (List.mem_of_getElem? (i := 1) rfl)
  have kw1 := hts (.static Lib.Math.min.name) (List.mem_of_getElem? (i := 2) rfl)
  have kw2 := hts (.initialized "java/lang/Math") (List.mem_of_getElem? (i := 3) rfl)
  have kw3 := hts (.code Lib.Math.min.name Lib.Math.min.code 2 (some .int)) (List.mem_of_getElem? (i := 4) rfl)
  have kw4 := hts (.methodLink RX4 30 Lib.Math.max.name) (List.mem_of_getElem? (i := 5) rfl)
  have kw5 := hts (.static Lib.Math.max.name) (List.mem_of_getElem? (i := 6) rfl)
  have kw6 := hts (.code Lib.Math.max.name Lib.Math.max.code 2 (some .int)) (List.mem_of_getElem? (i := 7) rfl)
  have hl : lv_has ls 7 [(0, .ref q0), (1, .int x1), (2, .int x2), (3, .int x3)] := hl
  have hret' : ∀ (pc : Nat) (ls : Array Slot) (H : Heap) (locs : List Loc) (w0 : Nat → Int32), decode cX4_pass pc = .ok (.return_, 1) → some w0 = some r → va_P D vwCl [(q0, oB 4 [.ref q_cells]), (q_cells, aI cy 24 w0)] H → va_D A [(q0, oB 4 [.ref q_cells]), (q_cells, aI cy 24 w0)] → va_S A s.heap H locs → W p l e rmX4_pass s m args below meth c H locs 0 0 Q (F0 m pc ls []) := by
    intro pc ls H locs w0 hd he hP hD hS
    cases he
    exact hret _ _ _ _ hd hP hD hS
  unfold fX4_pass at hf
  refine lv_iload_n hx hb dX4_pass_0 rfl (lv_at hl 2 rfl) ?_
  have hJ19 : ∀ (t0_19 : Int32) (H : Heap) (locs : List Loc) (ls : Array Slot), X4_pass_J19 z_cells x1 t0_19 = some r → va_P D vwCl [(q0, oB 4 [.ref q_cells]), (q_cells, aI cy 24 z_cells)] H → va_D A [(q0, oB 4 [.ref q_cells]), (q_cells, aI cy 24 z_cells)] → va_S A s.heap H locs → lv_has ls 7 [(0, .ref q0), (1, .int x1)] → W p l e rmX4_pass s m args below meth c H locs 0 0 Q (F0 m 19 ls [.int t0_19]) := by
    intro t0_19 H locs ls hf hP hD hS hl
    unfold X4_pass_J19 at hf
    refine lv_istore (lv' := [(4, .int t0_19), (0, .ref q0), (1, .int x1)]) hx hb dX4_pass_19 hl (by decide) rfl (fun ls hl => ?_)
    refine lv_iconst (v := 0) hx hb dX4_pass_21 (by decide) ?_
    refine lv_istore (lv' := [(5, .int (0 : Int32)), (4, .int t0_19), (0, .ref q0), (1, .int x1)]) hx hb dX4_pass_22 hl (by decide) rfl (fun ls hl => ?_)
    have hL24 : ∀ (n : Nat) (x5_24 : Int32) (z_cells_24 : Nat → Int32) (H : Heap) (locs : List Loc) (ls : Array Slot), it2 (X4_pass_S24 x1 t0_19) n x5_24 z_cells_24 = some r → va_P D vwCl [(q0, oB 4 [.ref q_cells]), (q_cells, aI cy 24 z_cells_24)] H → va_D A [(q0, oB 4 [.ref q_cells]), (q_cells, aI cy 24 z_cells_24)] → va_S A s.heap H locs → lv_has ls 7 [(0, .ref q0), (1, .int x1), (4, .int t0_19), (5, .int x5_24)] → W p l e rmX4_pass s m args below meth c H locs 0 0 Q (F0 m 24 ls []) := by
      intro n
      induction n with
      | zero => intro x5_24 z_cells_24 H locs ls hf; exact absurd hf (by simp [it2])
      | succ n ih24 =>
        intro x5_24 z_cells_24 H locs ls hf hP hD hS hl
        have hf : X4_pass_S24 x1 t0_19 (it2 (X4_pass_S24 x1 t0_19) n) x5_24 z_cells_24 = some r := hf
        generalize it2 (X4_pass_S24 x1 t0_19) n = self_24 at hf ih24
        unfold X4_pass_S24 at hf
        refine lv_iload hx hb dX4_pass_24 (lv_at hl 3 rfl) ?_
        refine lv_bipush (v := 6) hx hb dX4_pass_26 (by decide) ?_
        refine lv_icmp_ge (tgt := 72) hx hb dX4_pass_28 (by decide) (fun hc_28 => ?_) (fun hc_28 => ?_)
        · have hf := it_t hf hc_28
          exact hret' _ _ _ _ _ dX4_pass_72 hf hP hD hS
        · have hf := it_f hf hc_28
          refine lv_aload_n hx hb dX4_pass_31 rfl (lv_at hl 0 rfl) ?_
          refine lv_iload hx hb dX4_pass_32 (lv_at hl 3 rfl) ?_
          refine lv_iload_n hx hb dX4_pass_34 rfl (lv_at hl 1 rfl) ?_
          obtain ⟨r_35, hr_35, hf⟩ := bd_some hf
          refine cl_i (wc := [(q0, oB 4 [.ref q_cells]), (q_cells, aI cy 24 z_cells_24)]) (w1 := [(q0, oB 4 [.ref q_cells]), (q_cells, aI cy 24 z_cells_24)]) (wr := []) (w2 := [(q0, oB 4 [.ref q_cells]), (q_cells, aI cy 24 z_cells_24)]) (va_runV (As := [.int x5_24, .int x1]) (rest := []) ⟨hx, hb, hml, hown, hts⟩ (ktX4_of l D cy q0 q_cells z_cells_24 x5_24 x1 r_35 hr_35 _) (cwV 2 hts gX4_pass_X4_of rfl rfl rfl (by decide +kernel) ⟨Nat.le_of_ble_eq_true rfl, Nat.le_of_ble_eq_true rfl⟩) (pre_V (wc := [(q0, oB 4 [.ref q_cells]), (q_cells, aI cy 24 z_cells_24)]) (ci := 4) hcx hsx hS hA hP hD [0, 1] rfl (by decide) rfl rfl) rfl rfl hl.1 rfl (lv_room (Nat.le_of_ble_eq_true rfl)) dX4_pass_35 ⟨Nat.zero_le _, Nat.zero_le _⟩) hP hD hS hA [0, 1] [] [0, 1] rfl rfl (by decide) (by decide) (by decide) rfl (fun H locs hP hD hS => ?_)
          refine lv_istore (lv' := [(6, .int r_35), (0, .ref q0), (1, .int x1), (4, .int t0_19), (5, .int x5_24)]) hx hb dX4_pass_38 hl (by decide) rfl (fun ls hl => ?_)
          refine lv_iload hx hb dX4_pass_40 (lv_at hl 0 rfl) ?_
          have hJ66 : ∀ (z_cells_66 : Nat → Int32) (H : Heap) (locs : List Loc) (ls : Array Slot), X4_pass_J66 x5_24 self_24 z_cells_66 = some r → va_P D vwCl [(q0, oB 4 [.ref q_cells]), (q_cells, aI cy 24 z_cells_66)] H → va_D A [(q0, oB 4 [.ref q_cells]), (q_cells, aI cy 24 z_cells_66)] → va_S A s.heap H locs → lv_has ls 7 [(0, .ref q0), (1, .int x1), (4, .int t0_19), (5, .int x5_24)] → W p l e rmX4_pass s m args below meth c H locs 0 0 Q (F0 m 66 ls []) := by
            intro z_cells_66 H locs ls hf hP hD hS hl
            unfold X4_pass_J66 at hf
            obtain ⟨x5_66, ex5_66⟩ : ∃ y : Int32, y = x5_24 + (1 : Int32) := ⟨_, rfl⟩
            have hf := lets_at hf ex5_66
            refine lv_iinc (v := x5_66) (lv' := [(5, .int x5_66), (0, .ref q0), (1, .int x1), (4, .int t0_19)]) hx hb dX4_pass_66 hl (k := 3) rfl (by rw [ex5_66]; rfl) (by decide) rfl (fun ls hl => ?_)
            refine lv_goto (tgt := 24) hx hb dX4_pass_69 (by decide) ?_
            exact ih24 x5_66 z_cells_66 _ _ _ hf hP hD hS (lv_sub hl [1, 2, 3, 0] rfl)
          refine lv_if_le (tgt := 66) hx hb dX4_pass_42 (by decide) (fun hc_42 => ?_) (fun hc_42 => ?_)
          · have hf := it_t hf hc_42
            exact hJ66 z_cells_24 _ _ _ hf hP hD hS (lv_sub hl [1, 2, 3, 4] rfl)
          · have hf := it_f hf hc_42
            refine lv_aload_n hx hb dX4_pass_45 rfl (lv_at hl 1 rfl) ?_
            refine lv_iload hx hb dX4_pass_46 (lv_at hl 4 rfl) ?_
            refine lv_iload_n hx hb dX4_pass_48 rfl (lv_at hl 2 rfl) ?_
            refine lv_iconst (v := 1) hx hb dX4_pass_49 (by decide) ?_
            refine lv_bipush (v := 9) hx hb dX4_pass_50 (by decide) ?_
            refine lv_iload hx hb dX4_pass_52 (lv_at hl 0 rfl) ?_
            refine lv_iload hx hb dX4_pass_54 (lv_at hl 3 rfl) ?_
            refine lv_iadd hx hb dX4_pass_56 ?_
            refine va_mmin hx hb (hml.trans hl.1.symm) hown kw0 kw1 kw2 kw3 (Nat.le_of_ble_eq_true rfl) (Nat.le_of_ble_eq_true rfl) (Nat.zero_le _) (Nat.zero_le _) dX4_pass_57 ?_
            refine va_mmax hx hb (hml.trans hl.1.symm) hown kw4 kw5 kw2 kw6 (Nat.le_of_ble_eq_true rfl) (Nat.le_of_ble_eq_true rfl) (Nat.zero_le _) (Nat.zero_le _) dX4_pass_60 ?_
            obtain ⟨r_63, hr_63, hf⟩ := bd_some hf
            refine cl_v (wc := [(q0, oB 4 [.ref q_cells]), (q_cells, aI cy 24 z_cells_24)]) (w1 := [(q0, oB 4 [.ref q_cells]), (q_cells, aI cy 24 r_63)]) (wr := []) (w2 := [(q0, oB 4 [.ref q_cells]), (q_cells, aI cy 24 r_63)]) (va_runV (As := [.int x5_24, .int x1, .int (if (1 : Int32) < (if (r_35 + t0_19) < (9 : Int32) then (r_35 + t0_19) else (9 : Int32)) then (if (r_35 + t0_19) < (9 : Int32) then (r_35 + t0_19) else (9 : Int32)) else (1 : Int32))]) (rest := []) ⟨hx, hb, hml, hown, hts⟩ (ktX4_put l D cy q0 q_cells z_cells_24 x5_24 x1 (if (1 : Int32) < (if (r_35 + t0_19) < (9 : Int32) then (r_35 + t0_19) else (9 : Int32)) then (if (r_35 + t0_19) < (9 : Int32) then (r_35 + t0_19) else (9 : Int32)) else (1 : Int32)) r_63 hr_63 _) (cwV 3 hts gX4_pass_X4_put rfl rfl rfl (by decide +kernel) ⟨Nat.le_of_ble_eq_true rfl, Nat.le_of_ble_eq_true rfl⟩) (pre_V (wc := [(q0, oB 4 [.ref q_cells]), (q_cells, aI cy 24 z_cells_24)]) (ci := 4) hcx hsx hS hA hP hD [0, 1] rfl (by decide) rfl rfl) rfl rfl hl.1 rfl (lv_room (Nat.le_of_ble_eq_true rfl)) dX4_pass_63 ⟨Nat.zero_le _, Nat.zero_le _⟩) hP hD hS hA [0, 1] [] [0, 1] rfl rfl (by decide) (by decide) (by decide) rfl (fun H locs hP hD hS => ?_)
            exact hJ66 r_63 _ _ _ hf hP hD hS (lv_sub hl [1, 2, 3, 4] rfl)
    exact hL24 _ (0 : Int32) z_cells _ _ _ hf hP hD hS (lv_sub hl [2, 3, 1, 0] rfl)
  refine lv_if_ne (tgt := 8) hx hb dX4_pass_1 (by decide) (fun hc_1 => ?_) (fun hc_1 => ?_)
  · have hf := it_f hf hc_1
    refine lv_iload_n hx hb dX4_pass_8 rfl (lv_at hl 2 rfl) ?_
    refine lv_iconst (v := 1) hx hb dX4_pass_9 (by decide) ?_
    refine lv_icmp_ne (tgt := 17) hx hb dX4_pass_10 (by decide) (fun hc_10 => ?_) (fun hc_10 => ?_)
    · have hf := it_f hf hc_10
      refine lv_iload_n hx hb dX4_pass_17 rfl (lv_at hl 3 rfl) ?_
      refine lv_ineg hx hb dX4_pass_18 ?_
      exact hJ19 (-x3) _ _ _ hf hP hD hS (lv_sub hl [0, 1] rfl)
    · have hf := it_t hf hc_10
      refine lv_iconst (v := 0) hx hb dX4_pass_13 (by decide) ?_
      refine lv_goto (tgt := 19) hx hb dX4_pass_14 (by decide) ?_
      exact hJ19 (0 : Int32) _ _ _ hf hP hD hS (lv_sub hl [0, 1] rfl)
  · have hf := it_t hf hc_1
    refine lv_iload_n hx hb dX4_pass_4 rfl (lv_at hl 3 rfl) ?_
    refine lv_goto (tgt := 19) hx hb dX4_pass_5 (by decide) ?_
    exact hJ19 x3 _ _ _ hf hP hD hS (lv_sub hl [0, 1] rfl)

def X4_packed_J42 (x4_5 : Int32) (self_5 : Int64 → Int32 → Option Int64) (x2_42 : Int64) : Option Int64 := lets (x4_5 + (1 : Int32)) (fun x4_42 => self_5 x2_42 x4_42)
def X4_packed_S16 (z_cells : Nat → Int32) (x4_5 : Int32) (self_5 : Int64 → Int32 → Option Int64) (self_16 : Int64 → Int32 → Option Int64) (x2_16 : Int64) (x5_16 : Int32) : Option Int64 := if (4 : Int32) ≤ x5_16 then (X4_packed_J42 x4_5 self_5 x2_16) else ((fX4_of z_cells x4_5 x5_16).bind (fun r_30 => lets ((x2_16 <<< ((4 : Int32).toInt64 &&& 63)) ||| r_30.toInt64) (fun x2_35 => lets (x5_16 + (1 : Int32)) (fun x5_36 => self_16 x2_35 x5_36))))
def X4_packed_S5 (z_cells : Nat → Int32) (x1 : Int32) (self_5 : Int64 → Int32 → Option Int64) (x2_5 : Int64) (x4_5 : Int32) : Option Int64 := if (x1 + (3 : Int32)) ≤ x4_5 then (some x2_5) else (it2 (X4_packed_S16 z_cells x4_5 self_5) 100000 x2_5 (0 : Int32))
def fX4_packed (z_cells : Nat → Int32) (x1 : Int32) : Option Int64 := it2 (X4_packed_S5 z_cells x1) 100000 (0 : Int64) x1
abbrev rmX4_packed : Room := { frames := 1, cells := 0, slots := 0, locals := 22 }
set_option maxHeartbeats 4000000 in
set_option maxRecDepth 100000 in
theorem ktX4_packed (l : Launch) (D : va_G) (cy : Nat → ClassId) (q0 : Nat) (q_cells : Nat) (z_cells : Nat → Int32) (x1 : Int32) (r : Int64) (hf : fX4_packed z_cells x1 = some r) : CtL l yX4_packed wsX4_packed rmX4_packed D cy [.ref q0, .int x1] [(q0, oB 4 [.ref q_cells]), (q_cells, aI cy 24 z_cells)] [(q0, oB 4 [.ref q_cells]), (q_cells, aI cy 24 z_cells)] r := by
  refine Ct_ofL (cc := cX4_packed) (nL := 6) (by decide) rfl (Nat.le_of_ble_eq_true rfl) ?_
  intro p e s m args below meth c A Q hM hret hP hD hS ls hl
  obtain ⟨hx, hb, hml, hown, hts, hcx, hA, hsx⟩ := hM
  have hown : s.vm.findClass RX4 = some m.cls := hown
  have hK := hcx.1
  have hN := hcx.2
  have hl : lv_has ls 6 [(0, .ref q0), (1, .int x1)] := hl
  have hret' : ∀ (pc : Nat) (ls : Array Slot) (H : Heap) (locs : List Loc) (v : Int64), decode cX4_packed pc = .ok (.lreturn, 1) → some v = some r → va_P D vwCl [(q0, oB 4 [.ref q_cells]), (q_cells, aI cy 24 z_cells)] H → va_D A [(q0, oB 4 [.ref q_cells]), (q_cells, aI cy 24 z_cells)] → va_S A s.heap H locs → W p l e rmX4_packed s m args below meth c H locs 0 0 Q (F0 m pc ls [.long v]) := by
    intro pc ls H locs v hd he hP hD hS
    cases he
    exact hret _ _ _ _ _ hd rfl hP hD hS
  unfold fX4_packed at hf
  refine lv_lconst (v := 0) hx hb dX4_packed_0 (by decide) ?_
  refine lv_lstore_n (lv' := [(2, .long (0 : Int64)), (0, .ref q0), (1, .int x1)]) hx hb dX4_packed_1 rfl hl (by decide) rfl (fun ls hl => ?_)
  refine lv_iload_n hx hb dX4_packed_2 rfl (lv_at hl 2 rfl) ?_
  refine lv_istore (lv' := [(4, .int x1), (2, .long (0 : Int64)), (0, .ref q0), (1, .int x1)]) hx hb dX4_packed_3 hl (by decide) rfl (fun ls hl => ?_)
  have hL5 : ∀ (n : Nat) (x2_5 : Int64) (x4_5 : Int32) (H : Heap) (locs : List Loc) (ls : Array Slot), it2 (X4_packed_S5 z_cells x1) n x2_5 x4_5 = some r → va_P D vwCl [(q0, oB 4 [.ref q_cells]), (q_cells, aI cy 24 z_cells)] H → va_D A [(q0, oB 4 [.ref q_cells]), (q_cells, aI cy 24 z_cells)] → va_S A s.heap H locs → lv_has ls 6 [(0, .ref q0), (1, .int x1), (2, .long x2_5), (4, .int x4_5)] → W p l e rmX4_packed s m args below meth c H locs 0 0 Q (F0 m 5 ls []) := by
    intro n
    induction n with
    | zero => intro x2_5 x4_5 H locs ls hf; exact absurd hf (by simp [it2])
    | succ n ih5 =>
      intro x2_5 x4_5 H locs ls hf hP hD hS hl
      have hf : X4_packed_S5 z_cells x1 (it2 (X4_packed_S5 z_cells x1) n) x2_5 x4_5 = some r := hf
      generalize it2 (X4_packed_S5 z_cells x1) n = self_5 at hf ih5
      unfold X4_packed_S5 at hf
      refine lv_iload hx hb dX4_packed_5 (lv_at hl 3 rfl) ?_
      refine lv_iload_n hx hb dX4_packed_7 rfl (lv_at hl 1 rfl) ?_
      refine lv_iconst (v := 3) hx hb dX4_packed_8 (by decide) ?_
      refine lv_iadd hx hb dX4_packed_9 ?_
      refine lv_icmp_ge (tgt := 48) hx hb dX4_packed_10 (by decide) (fun hc_10 => ?_) (fun hc_10 => ?_)
      · have hf := it_t hf hc_10
        refine lv_lload_n hx hb dX4_packed_48 rfl (lv_at hl 2 rfl) ?_
        exact hret' _ _ _ _ _ dX4_packed_49 hf hP hD hS
      · have hf := it_f hf hc_10
        refine lv_iconst (v := 0) hx hb dX4_packed_13 (by decide) ?_
        refine lv_istore (lv' := [(5, .int (0 : Int32)), (0, .ref q0), (1, .int x1), (2, .long x2_5), (4, .int x4_5)]) hx hb dX4_packed_14 hl (by decide) rfl (fun ls hl => ?_)
        have hJ42 : ∀ (x2_42 : Int64) (H : Heap) (locs : List Loc) (ls : Array Slot), X4_packed_J42 x4_5 self_5 x2_42 = some r → va_P D vwCl [(q0, oB 4 [.ref q_cells]), (q_cells, aI cy 24 z_cells)] H → va_D A [(q0, oB 4 [.ref q_cells]), (q_cells, aI cy 24 z_cells)] → va_S A s.heap H locs → lv_has ls 6 [(0, .ref q0), (1, .int x1), (2, .long x2_42), (4, .int x4_5)] → W p l e rmX4_packed s m args below meth c H locs 0 0 Q (F0 m 42 ls []) := by
          intro x2_42 H locs ls hf hP hD hS hl
          unfold X4_packed_J42 at hf
          obtain ⟨x4_42, ex4_42⟩ : ∃ y : Int32, y = x4_5 + (1 : Int32) := ⟨_, rfl⟩
          have hf := lets_at hf ex4_42
          refine lv_iinc (v := x4_42) (lv' := [(4, .int x4_42), (0, .ref q0), (1, .int x1), (2, .long x2_42)]) hx hb dX4_packed_42 hl (k := 3) rfl (by rw [ex4_42]; rfl) (by decide) rfl (fun ls hl => ?_)
          refine lv_goto (tgt := 5) hx hb dX4_packed_45 (by decide) ?_
          exact ih5 x2_42 x4_42 _ _ _ hf hP hD hS (lv_sub hl [1, 2, 3, 0] rfl)
        have hL16 : ∀ (n : Nat) (x2_16 : Int64) (x5_16 : Int32) (H : Heap) (locs : List Loc) (ls : Array Slot), it2 (X4_packed_S16 z_cells x4_5 self_5) n x2_16 x5_16 = some r → va_P D vwCl [(q0, oB 4 [.ref q_cells]), (q_cells, aI cy 24 z_cells)] H → va_D A [(q0, oB 4 [.ref q_cells]), (q_cells, aI cy 24 z_cells)] → va_S A s.heap H locs → lv_has ls 6 [(0, .ref q0), (1, .int x1), (2, .long x2_16), (4, .int x4_5), (5, .int x5_16)] → W p l e rmX4_packed s m args below meth c H locs 0 0 Q (F0 m 16 ls []) := by
          intro n
          induction n with
          | zero => intro x2_16 x5_16 H locs ls hf; exact absurd hf (by simp [it2])
          | succ n ih16 =>
            intro x2_16 x5_16 H locs ls hf hP hD hS hl
            have hf : X4_packed_S16 z_cells x4_5 self_5 (it2 (X4_packed_S16 z_cells x4_5 self_5) n) x2_16 x5_16 = some r := hf
            generalize it2 (X4_packed_S16 z_cells x4_5 self_5) n = self_16 at hf ih16
            unfold X4_packed_S16 at hf
            refine lv_iload hx hb dX4_packed_16 (lv_at hl 4 rfl) ?_
            refine lv_iconst (v := 4) hx hb dX4_packed_18 (by decide) ?_
            refine lv_icmp_ge (tgt := 42) hx hb dX4_packed_19 (by decide) (fun hc_19 => ?_) (fun hc_19 => ?_)
            · have hf := it_t hf hc_19
              exact hJ42 x2_16 _ _ _ hf hP hD hS (lv_sub hl [0, 1, 2, 3] rfl)
            · have hf := it_f hf hc_19
              refine lv_lload_n hx hb dX4_packed_22 rfl (lv_at hl 2 rfl) ?_
              refine lv_iconst (v := 4) hx hb dX4_packed_23 (by decide) ?_
              refine lv_lshl (v := x2_16 <<< ((4 : Int32).toInt64 &&& 63)) hx hb dX4_packed_24 rfl ?_
              refine lv_aload_n hx hb dX4_packed_25 rfl (lv_at hl 0 rfl) ?_
              refine lv_iload hx hb dX4_packed_26 (lv_at hl 3 rfl) ?_
              refine lv_iload hx hb dX4_packed_28 (lv_at hl 4 rfl) ?_
              obtain ⟨r_30, hr_30, hf⟩ := bd_some hf
              refine cl_i (wc := [(q0, oB 4 [.ref q_cells]), (q_cells, aI cy 24 z_cells)]) (w1 := [(q0, oB 4 [.ref q_cells]), (q_cells, aI cy 24 z_cells)]) (wr := []) (w2 := [(q0, oB 4 [.ref q_cells]), (q_cells, aI cy 24 z_cells)]) (va_runV (As := [.int x4_5, .int x5_16]) (rest := [.long (x2_16 <<< ((4 : Int32).toInt64 &&& 63))]) ⟨hx, hb, hml, hown, hts⟩ (ktX4_of l D cy q0 q_cells z_cells x4_5 x5_16 r_30 hr_30 _) (cwV 2 hts gX4_packed_X4_of rfl rfl rfl (by decide +kernel) ⟨Nat.le_of_ble_eq_true rfl, Nat.le_of_ble_eq_true rfl⟩) (pre_V (wc := [(q0, oB 4 [.ref q_cells]), (q_cells, aI cy 24 z_cells)]) (ci := 4) hcx hsx hS hA hP hD [0, 1] rfl (by decide) rfl rfl) rfl rfl hl.1 rfl (lv_room (Nat.le_of_ble_eq_true rfl)) dX4_packed_30 ⟨Nat.zero_le _, Nat.zero_le _⟩) hP hD hS hA [0, 1] [] [0, 1] rfl rfl (by decide) (by decide) (by decide) rfl (fun H locs hP hD hS => ?_)
              refine lv_i2l (v := r_30.toInt64) hx hb dX4_packed_33 rfl ?_
              refine lv_lor hx hb dX4_packed_34 ?_
              refine lv_topl (fun x2_35 ex2_35 => ?_)
              have hf := lets_at hf ex2_35
              refine lv_lstore_n (lv' := [(2, .long x2_35), (0, .ref q0), (1, .int x1), (4, .int x4_5), (5, .int x5_16)]) hx hb dX4_packed_35 rfl hl (by decide) rfl (fun ls hl => ?_)
              obtain ⟨x5_36, ex5_36⟩ : ∃ y : Int32, y = x5_16 + (1 : Int32) := ⟨_, rfl⟩
              have hf := lets_at hf ex5_36
              refine lv_iinc (v := x5_36) (lv' := [(5, .int x5_36), (2, .long x2_35), (0, .ref q0), (1, .int x1), (4, .int x4_5)]) hx hb dX4_packed_36 hl (k := 4) rfl (by rw [ex5_36]; rfl) (by decide) rfl (fun ls hl => ?_)
              refine lv_goto (tgt := 16) hx hb dX4_packed_39 (by decide) ?_
              exact ih16 x2_35 x5_36 _ _ _ hf hP hD hS (lv_sub hl [2, 3, 1, 4, 0] rfl)
        exact hL16 _ x2_5 (0 : Int32) _ _ _ hf hP hD hS (lv_sub hl [1, 2, 3, 4, 0] rfl)
  exact hL5 _ (0 : Int64) x1 _ _ _ hf hP hD hS (lv_sub hl [2, 3, 1, 0] rfl)
