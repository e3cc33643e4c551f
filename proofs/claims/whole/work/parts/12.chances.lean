def fJ6_bitCount_0f7a4 (x0 : Int32) : Option Int32 := lets (x0 - (((x0.toUInt32 >>> ((1 : Int32).toUInt32 &&& Int32.toUInt32 31)).toInt32) &&& (1431655765 : Int32))) (fun x0_9 => lets ((x0_9 &&& (858993459 : Int32)) + (((x0_9.toUInt32 >>> ((2 : Int32).toUInt32 &&& Int32.toUInt32 31)).toInt32) &&& (858993459 : Int32))) (fun x0_23 => lets ((x0_23 + ((x0_23.toUInt32 >>> ((4 : Int32).toUInt32 &&& Int32.toUInt32 31)).toInt32)) &&& (252645135 : Int32)) (fun x0_33 => lets (x0_33 + ((x0_33.toUInt32 >>> ((8 : Int32).toUInt32 &&& Int32.toUInt32 31)).toInt32)) (fun x0_40 => lets (x0_40 + ((x0_40.toUInt32 >>> ((16 : Int32).toUInt32 &&& Int32.toUInt32 31)).toInt32)) (fun x0_47 => some (x0_47 &&& (63 : Int32)))))))
abbrev rmJ6_bitCount_0f7a4 : Room := { frames := 0, cells := 0, slots := 0, locals := 0 }
set_option maxHeartbeats 4000000 in
set_option maxRecDepth 100000 in
theorem ktJ6_bitCount_0f7a4 (l : Launch) (D : va_G) (cy : Nat → ClassId) (x0 : Int32) (r : Int32) (hf : fJ6_bitCount_0f7a4 x0 = some r) : CtI l yJ6_bitCount_0f7a4 wsJ6_bitCount_0f7a4 rmJ6_bitCount_0f7a4 D cy [.int x0] [] [] r := by
  refine Ct_ofI (cc := cJ6_bitCount_0f7a4) (nL := 1) (by decide) rfl (Nat.le_of_ble_eq_true rfl) ?_
  intro p e s m args below meth c A Q hM hret hP hD hS ls hl
  obtain ⟨hx, hb, hml, hown, hts, hcx, hA, hsx⟩ := hM
  have hown : s.vm.findClass RJ6 = some m.cls := hown
  have hK := hcx.1
  have hN := hcx.2
  have kw0 := hts (.constant RJ6 265 (1431655765)) (List.mem_of_getElem? (i := 1) rfl)
  have kw1 := hts (.constant RJ6 266 (858993459)) (List.mem_of_getElem? (i := 2) rfl)
  have kw2 := hts (.constant RJ6 267 (252645135)) (List.mem_of_getElem? (i := 3) rfl)
  have hl : lv_has ls 1 [(0, .int x0)] := hl
  have hret' : ∀ (pc : Nat) (ls : Array Slot) (H : Heap) (locs : List Loc) (v : Int32), decode cJ6_bitCount_0f7a4 pc = .ok (.ireturn, 1) → some v = some r → va_P D vwCl [] H → va_D A [] → va_S A s.heap H locs → W p l e rmJ6_bitCount_0f7a4 s m args below meth c H locs 0 0 Q (F0 m pc ls [.int v]) := by
    intro pc ls H locs v hd he hP hD hS
    cases he
    exact hret _ _ _ _ _ hd rfl hP hD hS
  unfold fJ6_bitCount_0f7a4 at hf
  refine lv_iload_n hx hb dJ6_bitCount_0f7a4_0 rfl (lv_at hl 0 rfl) ?_
  refine lv_iload_n hx hb dJ6_bitCount_0f7a4_1 rfl (lv_at hl 0 rfl) ?_
  refine lv_iconst (v := 1) hx hb dJ6_bitCount_0f7a4_2 (by decide) ?_
  refine lv_iushr (v := (x0.toUInt32 >>> ((1 : Int32).toUInt32 &&& Int32.toUInt32 31)).toInt32) hx hb dJ6_bitCount_0f7a4_3 rfl ?_
  refine lv_ldcw (v := 1431655765) hx hb hown kw0 dJ6_bitCount_0f7a4_4 ?_
  refine lv_iand hx hb dJ6_bitCount_0f7a4_7 ?_
  refine lv_isub hx hb dJ6_bitCount_0f7a4_8 ?_
  refine lv_topi (fun x0_9 ex0_9 => ?_)
  have hf := lets_at hf ex0_9
  refine lv_istore_n (lv' := [(0, .int x0_9)]) hx hb dJ6_bitCount_0f7a4_9 rfl hl (by decide) rfl (fun ls hl => ?_)
  refine lv_iload_n hx hb dJ6_bitCount_0f7a4_10 rfl (lv_at hl 0 rfl) ?_
  refine lv_ldcw (v := 858993459) hx hb hown kw1 dJ6_bitCount_0f7a4_11 ?_
  refine lv_iand hx hb dJ6_bitCount_0f7a4_14 ?_
  refine lv_iload_n hx hb dJ6_bitCount_0f7a4_15 rfl (lv_at hl 0 rfl) ?_
  refine lv_iconst (v := 2) hx hb dJ6_bitCount_0f7a4_16 (by decide) ?_
  refine lv_iushr (v := (x0_9.toUInt32 >>> ((2 : Int32).toUInt32 &&& Int32.toUInt32 31)).toInt32) hx hb dJ6_bitCount_0f7a4_17 rfl ?_
  refine lv_ldcw (v := 858993459) hx hb hown kw1 dJ6_bitCount_0f7a4_18 ?_
  refine lv_iand hx hb dJ6_bitCount_0f7a4_21 ?_
  refine lv_iadd hx hb dJ6_bitCount_0f7a4_22 ?_
  refine lv_topi (fun x0_23 ex0_23 => ?_)
  have hf := lets_at hf ex0_23
  refine lv_istore_n (lv' := [(0, .int x0_23)]) hx hb dJ6_bitCount_0f7a4_23 rfl hl (by decide) rfl (fun ls hl => ?_)
  refine lv_iload_n hx hb dJ6_bitCount_0f7a4_24 rfl (lv_at hl 0 rfl) ?_
  refine lv_iload_n hx hb dJ6_bitCount_0f7a4_25 rfl (lv_at hl 0 rfl) ?_
  refine lv_iconst (v := 4) hx hb dJ6_bitCount_0f7a4_26 (by decide) ?_
  refine lv_iushr (v := (x0_23.toUInt32 >>> ((4 : Int32).toUInt32 &&& Int32.toUInt32 31)).toInt32) hx hb dJ6_bitCount_0f7a4_27 rfl ?_
  refine lv_iadd hx hb dJ6_bitCount_0f7a4_28 ?_
  refine lv_ldcw (v := 252645135) hx hb hown kw2 dJ6_bitCount_0f7a4_29 ?_
  refine lv_iand hx hb dJ6_bitCount_0f7a4_32 ?_
  refine lv_topi (fun x0_33 ex0_33 => ?_)
  have hf := lets_at hf ex0_33
  refine lv_istore_n (lv' := [(0, .int x0_33)]) hx hb dJ6_bitCount_0f7a4_33 rfl hl (by decide) rfl (fun ls hl => ?_)
  refine lv_iload_n hx hb dJ6_bitCount_0f7a4_34 rfl (lv_at hl 0 rfl) ?_
  refine lv_iload_n hx hb dJ6_bitCount_0f7a4_35 rfl (lv_at hl 0 rfl) ?_
  refine lv_bipush (v := 8) hx hb dJ6_bitCount_0f7a4_36 (by decide) ?_
  refine lv_iushr (v := (x0_33.toUInt32 >>> ((8 : Int32).toUInt32 &&& Int32.toUInt32 31)).toInt32) hx hb dJ6_bitCount_0f7a4_38 rfl ?_
  refine lv_iadd hx hb dJ6_bitCount_0f7a4_39 ?_
  refine lv_topi (fun x0_40 ex0_40 => ?_)
  have hf := lets_at hf ex0_40
  refine lv_istore_n (lv' := [(0, .int x0_40)]) hx hb dJ6_bitCount_0f7a4_40 rfl hl (by decide) rfl (fun ls hl => ?_)
  refine lv_iload_n hx hb dJ6_bitCount_0f7a4_41 rfl (lv_at hl 0 rfl) ?_
  refine lv_iload_n hx hb dJ6_bitCount_0f7a4_42 rfl (lv_at hl 0 rfl) ?_
  refine lv_bipush (v := 16) hx hb dJ6_bitCount_0f7a4_43 (by decide) ?_
  refine lv_iushr (v := (x0_40.toUInt32 >>> ((16 : Int32).toUInt32 &&& Int32.toUInt32 31)).toInt32) hx hb dJ6_bitCount_0f7a4_45 rfl ?_
  refine lv_iadd hx hb dJ6_bitCount_0f7a4_46 ?_
  refine lv_topi (fun x0_47 ex0_47 => ?_)
  have hf := lets_at hf ex0_47
  refine lv_istore_n (lv' := [(0, .int x0_47)]) hx hb dJ6_bitCount_0f7a4_47 rfl hl (by decide) rfl (fun ls hl => ?_)
  refine lv_iload_n hx hb dJ6_bitCount_0f7a4_48 rfl (lv_at hl 0 rfl) ?_
  refine lv_bipush (v := 63) hx hb dJ6_bitCount_0f7a4_49 (by decide) ?_
  refine lv_iand hx hb dJ6_bitCount_0f7a4_51 ?_
  exact hret' _ _ _ _ _ dJ6_bitCount_0f7a4_52 hf hP hD hS

def X0_addBringer_J40 (x2 : Int32) (z_ways_40 : Nat → Int64) : Option ((Nat → Int64)) := lets (vp_updL z_ways_40 (0 : Int32).toNatClampNeg ((z_ways_40 (0 : Int32).toNatClampNeg) * x2.toInt64)) (fun z_ways_50 => some z_ways_50)
def X0_addBringer_S3 (x1 : Int32) (x2 : Int32) (self_3 : Int32 → (Nat → Int64) → Option ((Nat → Int64))) (x3_3 : Int32) (z_ways_3 : Nat → Int64) : Option ((Nat → Int64)) := if x3_3 ≤ 0 then (X0_addBringer_J40 x2 z_ways_3) else (gd (okx x3_3 7) (gd (okx (x3_3 - (1 : Int32)) 7) (gd (okx x3_3 7) (lets (vp_updL z_ways_3 x3_3.toNatClampNeg (((z_ways_3 x3_3.toNatClampNeg) * x2.toInt64) + ((z_ways_3 (x3_3 - (1 : Int32)).toNatClampNeg) * x1.toInt64))) (fun z_ways_33 => lets (x3_3 + (-1 : Int32)) (fun x3_34 => self_3 x3_34 z_ways_33))))))
def fX0_addBringer (z_ways : Nat → Int64) (x1 : Int32) (x2 : Int32) : Option ((Nat → Int64)) := it2 (X0_addBringer_S3 x1 x2) 100000 (6 : Int32) z_ways
abbrev rmX0_addBringer : Room := { frames := 0, cells := 0, slots := 0, locals := 0 }
set_option maxHeartbeats 4000000 in
set_option maxRecDepth 100000 in
theorem ktX0_addBringer (l : Launch) (D : va_G) (cy : Nat → ClassId) (q0 : Nat) (q_ways : Nat) (q_avoiding : Nat) (q_rows : Nat) (q_told : Nat) (z_a : Int32) (z_b : Int32) (z_ways : Nat → Int64) (x1 : Int32) (x2 : Int32) (r : (Nat → Int64)) (hf : fX0_addBringer z_ways x1 x2 = some r) : CtV l yX0_addBringer wsX0_addBringer rmX0_addBringer D cy [.ref q0, .int x1, .int x2] [(q0, oB 0 [.ref q_ways, .ref q_avoiding, .ref q_rows, .ref q_told, .int z_a, .int z_b]), (q_ways, aJ cy 7 z_ways)] [(q0, oB 0 [.ref q_ways, .ref q_avoiding, .ref q_rows, .ref q_told, .int z_a, .int z_b]), (q_ways, aJ cy 7 r)] := by
  refine Ct_ofV (cc := cX0_addBringer) (nL := 4) (by decide) rfl (Nat.le_of_ble_eq_true rfl) ?_
  intro p e s m args below meth c A Q hM hret hP hD hS ls hl
  obtain ⟨hx, hb, hml, hown, hts, hcx, hA, hsx⟩ := hM
  have hown : s.vm.findClass RX0 = some m.cls := hown
  have hK := hcx.1
  have hN := hcx.2
  have kw0 := hts (.fieldLink RX0 9 "EachBrings$Chances" "ways" "[J") (List.mem_of_getElem? (i := 1) rfl)
  have kc1 : ∀ w ∈ wsX00, w ∈ wsX0_addBringer := fun _ h => List.mem_cons_of_mem _ (List.mem_append_right _ h)
  have hl : lv_has ls 4 [(0, .ref q0), (1, .int x1), (2, .int x2)] := hl
  have hret' : ∀ (pc : Nat) (ls : Array Slot) (H : Heap) (locs : List Loc) (w0 : Nat → Int64), decode cX0_addBringer pc = .ok (.return_, 1) → some w0 = some r → va_P D vwCl [(q0, oB 0 [.ref q_ways, .ref q_avoiding, .ref q_rows, .ref q_told, .int z_a, .int z_b]), (q_ways, aJ cy 7 w0)] H → va_D A [(q0, oB 0 [.ref q_ways, .ref q_avoiding, .ref q_rows, .ref q_told, .int z_a, .int z_b]), (q_ways, aJ cy 7 w0)] → va_S A s.heap H locs → W p l e rmX0_addBringer s m args below meth c H locs 0 0 Q (F0 m pc ls []) := by
    intro pc ls H locs w0 hd he hP hD hS
    cases he
    exact hret _ _ _ _ hd hP hD hS
  unfold fX0_addBringer at hf
  refine lv_bipush (v := 6) hx hb dX0_addBringer_0 (by decide) ?_
  refine lv_istore_n (lv' := [(3, .int (6 : Int32)), (0, .ref q0), (1, .int x1), (2, .int x2)]) hx hb dX0_addBringer_2 rfl hl (by decide) rfl (fun ls hl => ?_)
  have hJ40 : ∀ (z_ways_40 : Nat → Int64) (H : Heap) (locs : List Loc) (ls : Array Slot), X0_addBringer_J40 x2 z_ways_40 = some r → va_P D vwCl [(q0, oB 0 [.ref q_ways, .ref q_avoiding, .ref q_rows, .ref q_told, .int z_a, .int z_b]), (q_ways, aJ cy 7 z_ways_40)] H → va_D A [(q0, oB 0 [.ref q_ways, .ref q_avoiding, .ref q_rows, .ref q_told, .int z_a, .int z_b]), (q_ways, aJ cy 7 z_ways_40)] → va_S A s.heap H locs → lv_has ls 4 [(0, .ref q0), (2, .int x2)] → W p l e rmX0_addBringer s m args below meth c H locs 0 0 Q (F0 m 40 ls []) := by
    intro z_ways_40 H locs ls hf hP hD hS hl
    unfold X0_addBringer_J40 at hf
    refine lv_aload_n hx hb dX0_addBringer_40 rfl (lv_at hl 0 rfl) ?_
    refine va_get (D := D) (ci := 0) (v := .ref q_ways) (C := RX0) (T := TX0) (N := 6) hx hb hts kc1 hown hK hP 0 rfl rfl 0 (by decide) kw0 (fun _ h9 => h9) rfl dX0_addBringer_41 ?_
    refine lv_iconst (v := 0) hx hb dX0_addBringer_44 (by decide) ?_
    refine lv_dup2_11 hx hb dX0_addBringer_45 rfl rfl ?_
    refine va_lald hx hb hK hP 1 1 rfl rfl (by decide : okx (0 : Int32) 7) dX0_addBringer_46 ?_
    refine lv_iload_n hx hb dX0_addBringer_47 rfl (lv_at hl 1 rfl) ?_
    refine lv_i2l (v := x2.toInt64) hx hb dX0_addBringer_48 rfl ?_
    refine lv_lmul hx hb dX0_addBringer_49 ?_
    refine va_last hx hb hK hP hD hS 1 1 rfl rfl (by decide : okx (0 : Int32) 7) dX0_addBringer_50 (fun H locs hP hD hS => ?_)
    obtain ⟨z_ways_50, ez_ways_50⟩ : ∃ y : Nat → Int64, y = vp_updL z_ways_40 (0 : Int32).toNatClampNeg ((z_ways_40 (0 : Int32).toNatClampNeg) * x2.toInt64) := ⟨_, rfl⟩
    have hf := lets_at hf ez_ways_50
    rw [← ez_ways_50] at hP hD
    have hP : va_P D vwCl [(q0, oB 0 [.ref q_ways, .ref q_avoiding, .ref q_rows, .ref q_told, .int z_a, .int z_b]), (q_ways, aJ cy 7 z_ways_50)] H := hP
    have hD : va_D A [(q0, oB 0 [.ref q_ways, .ref q_avoiding, .ref q_rows, .ref q_told, .int z_a, .int z_b]), (q_ways, aJ cy 7 z_ways_50)] := hD
    exact hret' _ _ _ _ _ dX0_addBringer_51 hf hP hD hS
  have hL3 : ∀ (n : Nat) (x3_3 : Int32) (z_ways_3 : Nat → Int64) (H : Heap) (locs : List Loc) (ls : Array Slot), it2 (X0_addBringer_S3 x1 x2) n x3_3 z_ways_3 = some r → va_P D vwCl [(q0, oB 0 [.ref q_ways, .ref q_avoiding, .ref q_rows, .ref q_told, .int z_a, .int z_b]), (q_ways, aJ cy 7 z_ways_3)] H → va_D A [(q0, oB 0 [.ref q_ways, .ref q_avoiding, .ref q_rows, .ref q_told, .int z_a, .int z_b]), (q_ways, aJ cy 7 z_ways_3)] → va_S A s.heap H locs → lv_has ls 4 [(0, .ref q0), (1, .int x1), (2, .int x2), (3, .int x3_3)] → W p l e rmX0_addBringer s m args below meth c H locs 0 0 Q (F0 m 3 ls []) := by
    intro n
    induction n with
    | zero => intro x3_3 z_ways_3 H locs ls hf; exact absurd hf (by simp [it2])
    | succ n ih3 =>
      intro x3_3 z_ways_3 H locs ls hf hP hD hS hl
      have hf : X0_addBringer_S3 x1 x2 (it2 (X0_addBringer_S3 x1 x2) n) x3_3 z_ways_3 = some r := hf
      generalize it2 (X0_addBringer_S3 x1 x2) n = self_3 at hf ih3
      unfold X0_addBringer_S3 at hf
      refine lv_iload_n hx hb dX0_addBringer_3 rfl (lv_at hl 3 rfl) ?_
      refine lv_if_le (tgt := 40) hx hb dX0_addBringer_4 (by decide) (fun hc_4 => ?_) (fun hc_4 => ?_)
      · have hf := it_t hf hc_4
        exact hJ40 z_ways_3 _ _ _ hf hP hD hS (lv_sub hl [0, 2] rfl)
      · have hf := it_f hf hc_4
        refine lv_aload_n hx hb dX0_addBringer_7 rfl (lv_at hl 0 rfl) ?_
        refine va_get (D := D) (ci := 0) (v := .ref q_ways) (C := RX0) (T := TX0) (N := 6) hx hb hts kc1 hown hK hP 0 rfl rfl 0 (by decide) kw0 (fun _ h9 => h9) rfl dX0_addBringer_8 ?_
        refine lv_iload_n hx hb dX0_addBringer_11 rfl (lv_at hl 3 rfl) ?_
        refine lv_aload_n hx hb dX0_addBringer_12 rfl (lv_at hl 0 rfl) ?_
        refine va_get (D := D) (ci := 0) (v := .ref q_ways) (C := RX0) (T := TX0) (N := 6) hx hb hts kc1 hown hK hP 0 rfl rfl 0 (by decide) kw0 (fun _ h9 => h9) rfl dX0_addBringer_13 ?_
        refine lv_iload_n hx hb dX0_addBringer_16 rfl (lv_at hl 3 rfl) ?_
        obtain ⟨hg_17, hf⟩ := gd_some hf
        refine va_lald hx hb hK hP 1 1 rfl rfl hg_17 dX0_addBringer_17 ?_
        refine lv_iload_n hx hb dX0_addBringer_18 rfl (lv_at hl 2 rfl) ?_
        refine lv_i2l (v := x2.toInt64) hx hb dX0_addBringer_19 rfl ?_
        refine lv_lmul hx hb dX0_addBringer_20 ?_
        refine lv_aload_n hx hb dX0_addBringer_21 rfl (lv_at hl 0 rfl) ?_
        refine va_get (D := D) (ci := 0) (v := .ref q_ways) (C := RX0) (T := TX0) (N := 6) hx hb hts kc1 hown hK hP 0 rfl rfl 0 (by decide) kw0 (fun _ h9 => h9) rfl dX0_addBringer_22 ?_
        refine lv_iload_n hx hb dX0_addBringer_25 rfl (lv_at hl 3 rfl) ?_
        refine lv_iconst (v := 1) hx hb dX0_addBringer_26 (by decide) ?_
        refine lv_isub hx hb dX0_addBringer_27 ?_
        obtain ⟨hg_28, hf⟩ := gd_some hf
        refine va_lald hx hb hK hP 1 1 rfl rfl hg_28 dX0_addBringer_28 ?_
        refine lv_iload_n hx hb dX0_addBringer_29 rfl (lv_at hl 1 rfl) ?_
        refine lv_i2l (v := x1.toInt64) hx hb dX0_addBringer_30 rfl ?_
        refine lv_lmul hx hb dX0_addBringer_31 ?_
        refine lv_ladd hx hb dX0_addBringer_32 ?_
        obtain ⟨hg_33, hf⟩ := gd_some hf
        refine va_last hx hb hK hP hD hS 1 1 rfl rfl hg_33 dX0_addBringer_33 (fun H locs hP hD hS => ?_)
        obtain ⟨z_ways_33, ez_ways_33⟩ : ∃ y : Nat → Int64, y = vp_updL z_ways_3 x3_3.toNatClampNeg (((z_ways_3 x3_3.toNatClampNeg) * x2.toInt64) + ((z_ways_3 (x3_3 - (1 : Int32)).toNatClampNeg) * x1.toInt64)) := ⟨_, rfl⟩
        have hf := lets_at hf ez_ways_33
        rw [← ez_ways_33] at hP hD
        have hP : va_P D vwCl [(q0, oB 0 [.ref q_ways, .ref q_avoiding, .ref q_rows, .ref q_told, .int z_a, .int z_b]), (q_ways, aJ cy 7 z_ways_33)] H := hP
        have hD : va_D A [(q0, oB 0 [.ref q_ways, .ref q_avoiding, .ref q_rows, .ref q_told, .int z_a, .int z_b]), (q_ways, aJ cy 7 z_ways_33)] := hD
        obtain ⟨x3_34, ex3_34⟩ : ∃ y : Int32, y = x3_3 + (-1 : Int32) := ⟨_, rfl⟩
        have hf := lets_at hf ex3_34
        refine lv_iinc (v := x3_34) (lv' := [(3, .int x3_34), (0, .ref q0), (1, .int x1), (2, .int x2)]) hx hb dX0_addBringer_34 hl (k := 3) rfl (by rw [ex3_34]; rfl) (by decide) rfl (fun ls hl => ?_)
        refine lv_goto (tgt := 3) hx hb dX0_addBringer_37 (by decide) ?_
        exact ih3 x3_34 z_ways_33 _ _ _ hf hP hD hS (lv_sub hl [1, 2, 3, 0] rfl)
  exact hL3 _ (6 : Int32) z_ways _ _ _ hf hP hD hS (lv_sub hl [1, 2, 3, 0] rfl)

def X0_countBringers_J71 (x3_34 : Int32) (self_34 : Int32 → (Nat → Int64) → Option ((Nat → Int64))) (z_ways_71 : Nat → Int64) : Option ((Nat → Int64)) := lets (x3_34 + (1 : Int32)) (fun x3_71 => self_34 x3_71 z_ways_71)
def X0_countBringers_S34 (zb_cells : Nat → Int32) (x2 : Int32) (self_34 : Int32 → (Nat → Int64) → Option ((Nat → Int64))) (x3_34 : Int32) (z_ways_34 : Nat → Int64) : Option ((Nat → Int64)) := if (6 : Int32) ≤ x3_34 then (some z_ways_34) else ((fX4_together zb_cells x3_34).bind (fun r_42 => if r_42 ≤ 0 then (X0_countBringers_J71 x3_34 self_34 z_ways_34) else ((fX4_of zb_cells x3_34 x2).bind (fun r_56 => (fX4_of zb_cells x3_34 x2).bind (fun r_64 => (fX0_addBringer z_ways_34 r_56 (r_42 - r_64)).bind (fun r_68 => X0_countBringers_J71 x3_34 self_34 r_68))))))
def X0_countBringers_J32 (zb_cells : Nat → Int32) (x2 : Int32) (z_ways_32 : Nat → Int64) : Option ((Nat → Int64)) := it2 (X0_countBringers_S34 zb_cells x2) 100000 (0 : Int32) z_ways_32
def X0_countBringers_J25 (x3_2 : Int32) (z_ways_2 : Nat → Int64) (self_2 : Int32 → (Nat → Int64) → Option ((Nat → Int64))) (t2_25 : Int64) : Option ((Nat → Int64)) := gd (okx x3_2 7) (lets (vp_updL z_ways_2 x3_2.toNatClampNeg t2_25) (fun z_ways_25 => lets (x3_2 + (1 : Int32)) (fun x3_26 => self_2 x3_26 z_ways_25)))
def X0_countBringers_S2 (zb_cells : Nat → Int32) (x2 : Int32) (self_2 : Int32 → (Nat → Int64) → Option ((Nat → Int64))) (x3_2 : Int32) (z_ways_2 : Nat → Int64) : Option ((Nat → Int64)) := if (7 : Int32) ≤ x3_2 then (X0_countBringers_J32 zb_cells x2 z_ways_2) else (if x3_2 = 0 then (X0_countBringers_J25 x3_2 z_ways_2 self_2 (1 : Int64)) else (X0_countBringers_J25 x3_2 z_ways_2 self_2 (0 : Int64)))
def fX0_countBringers (z_ways : Nat → Int64) (zb_cells : Nat → Int32) (x2 : Int32) : Option ((Nat → Int64)) := it2 (X0_countBringers_S2 zb_cells x2) 100000 (0 : Int32) z_ways
abbrev rmX0_countBringers : Room := { frames := 2, cells := 0, slots := 0, locals := 45 }
set_option maxHeartbeats 4000000 in
set_option maxRecDepth 100000 in
theorem ktX0_countBringers (l : Launch) (D : va_G) (cy : Nat → ClassId) (q0 : Nat) (q_ways : Nat) (q_avoiding : Nat) (q_rows : Nat) (q_told : Nat) (qb : Nat) (qb_cells : Nat) (z_a : Int32) (z_b : Int32) (z_ways : Nat → Int64) (zb_cells : Nat → Int32) (x2 : Int32) (r : (Nat → Int64)) (hf : fX0_countBringers z_ways zb_cells x2 = some r) : CtV l yX0_countBringers wsX0_countBringers rmX0_countBringers D cy [.ref q0, .ref qb, .int x2] [(q0, oB 0 [.ref q_ways, .ref q_avoiding, .ref q_rows, .ref q_told, .int z_a, .int z_b]), (q_ways, aJ cy 7 z_ways), (qb, oB 4 [.ref qb_cells]), (qb_cells, aI cy 24 zb_cells)] [(q0, oB 0 [.ref q_ways, .ref q_avoiding, .ref q_rows, .ref q_told, .int z_a, .int z_b]), (q_ways, aJ cy 7 r), (qb, oB 4 [.ref qb_cells]), (qb_cells, aI cy 24 zb_cells)] := by
  refine Ct_ofV (cc := cX0_countBringers) (nL := 5) (by decide) rfl (Nat.le_of_ble_eq_true rfl) ?_
  intro p e s m args below meth c A Q hM hret hP hD hS ls hl
  obtain ⟨hx, hb, hml, hown, hts, hcx, hA, hsx⟩ := hM
  have hown : s.vm.findClass RX0 = some m.cls := hown
  have hK := hcx.1
  have hN := hcx.2
  have kw0 := hts (.initialized RX4) (List.mem_of_getElem? (i := 3) rfl)
  have kw1 := hts (.instanceMethod yX4_together) (List.mem_of_getElem? (i := 2) rfl)
  have kw2 := hts (.selects RX4 yX4_together yX4_together) (List.mem_of_getElem? (i := 4) rfl)
  have kw3 := hts (.instanceMethod yX4_of) (List.mem_of_getElem? (i := 7) rfl)
  have kw4 := hts (.selects RX4 yX4_of yX4_of) (List.mem_of_getElem? (i := 8) rfl)
  have kw5 := hts (.fieldLink RX0 9 "EachBrings$Chances" "ways" "[J") (List.mem_of_getElem? (i := 1) rfl)
  have kc6 : ∀ w ∈ wsX00, w ∈ wsX0_countBringers := fun _ h => List.mem_cons_of_mem _ (List.mem_append_left _ (List.mem_append_right _ h))
  have hl : lv_has ls 5 [(0, .ref q0), (1, .ref qb), (2, .int x2)] := hl
  have hret' : ∀ (pc : Nat) (ls : Array Slot) (H : Heap) (locs : List Loc) (w0 : Nat → Int64), decode cX0_countBringers pc = .ok (.return_, 1) → some w0 = some r → va_P D vwCl [(q0, oB 0 [.ref q_ways, .ref q_avoiding, .ref q_rows, .ref q_told, .int z_a, .int z_b]), (q_ways, aJ cy 7 w0), (qb, oB 4 [.ref qb_cells]), (qb_cells, aI cy 24 zb_cells)] H → va_D A [(q0, oB 0 [.ref q_ways, .ref q_avoiding, .ref q_rows, .ref q_told, .int z_a, .int z_b]), (q_ways, aJ cy 7 w0), (qb, oB 4 [.ref qb_cells]), (qb_cells, aI cy 24 zb_cells)] → va_S A s.heap H locs → W p l e rmX0_countBringers s m args below meth c H locs 0 0 Q (F0 m pc ls []) := by
    intro pc ls H locs w0 hd he hP hD hS
    cases he
    exact hret _ _ _ _ hd hP hD hS
  unfold fX0_countBringers at hf
  refine lv_iconst (v := 0) hx hb dX0_countBringers_0 (by decide) ?_
  refine lv_istore_n (lv' := [(3, .int (0 : Int32)), (0, .ref q0), (1, .ref qb), (2, .int x2)]) hx hb dX0_countBringers_1 rfl hl (by decide) rfl (fun ls hl => ?_)
  have hJ32 : ∀ (z_ways_32 : Nat → Int64) (H : Heap) (locs : List Loc) (ls : Array Slot), X0_countBringers_J32 zb_cells x2 z_ways_32 = some r → va_P D vwCl [(q0, oB 0 [.ref q_ways, .ref q_avoiding, .ref q_rows, .ref q_told, .int z_a, .int z_b]), (q_ways, aJ cy 7 z_ways_32), (qb, oB 4 [.ref qb_cells]), (qb_cells, aI cy 24 zb_cells)] H → va_D A [(q0, oB 0 [.ref q_ways, .ref q_avoiding, .ref q_rows, .ref q_told, .int z_a, .int z_b]), (q_ways, aJ cy 7 z_ways_32), (qb, oB 4 [.ref qb_cells]), (qb_cells, aI cy 24 zb_cells)] → va_S A s.heap H locs → lv_has ls 5 [(0, .ref q0), (1, .ref qb), (2, .int x2)] → W p l e rmX0_countBringers s m args below meth c H locs 0 0 Q (F0 m 32 ls []) := by
    intro z_ways_32 H locs ls hf hP hD hS hl
    unfold X0_countBringers_J32 at hf
    refine lv_iconst (v := 0) hx hb dX0_countBringers_32 (by decide) ?_
    refine lv_istore_n (lv' := [(3, .int (0 : Int32)), (0, .ref q0), (1, .ref qb), (2, .int x2)]) hx hb dX0_countBringers_33 rfl hl (by decide) rfl (fun ls hl => ?_)
    have hL34 : ∀ (n : Nat) (x3_34 : Int32) (z_ways_34 : Nat → Int64) (H : Heap) (locs : List Loc) (ls : Array Slot), it2 (X0_countBringers_S34 zb_cells x2) n x3_34 z_ways_34 = some r → va_P D vwCl [(q0, oB 0 [.ref q_ways, .ref q_avoiding, .ref q_rows, .ref q_told, .int z_a, .int z_b]), (q_ways, aJ cy 7 z_ways_34), (qb, oB 4 [.ref qb_cells]), (qb_cells, aI cy 24 zb_cells)] H → va_D A [(q0, oB 0 [.ref q_ways, .ref q_avoiding, .ref q_rows, .ref q_told, .int z_a, .int z_b]), (q_ways, aJ cy 7 z_ways_34), (qb, oB 4 [.ref qb_cells]), (qb_cells, aI cy 24 zb_cells)] → va_S A s.heap H locs → lv_has ls 5 [(0, .ref q0), (1, .ref qb), (2, .int x2), (3, .int x3_34)] → W p l e rmX0_countBringers s m args below meth c H locs 0 0 Q (F0 m 34 ls []) := by
      intro n
      induction n with
      | zero => intro x3_34 z_ways_34 H locs ls hf; exact absurd hf (by simp [it2])
      | succ n ih34 =>
        intro x3_34 z_ways_34 H locs ls hf hP hD hS hl
        have hf : X0_countBringers_S34 zb_cells x2 (it2 (X0_countBringers_S34 zb_cells x2) n) x3_34 z_ways_34 = some r := hf
        generalize it2 (X0_countBringers_S34 zb_cells x2) n = self_34 at hf ih34
        unfold X0_countBringers_S34 at hf
        refine lv_iload_n hx hb dX0_countBringers_34 rfl (lv_at hl 3 rfl) ?_
        refine lv_bipush (v := 6) hx hb dX0_countBringers_35 (by decide) ?_
        refine lv_icmp_ge (tgt := 77) hx hb dX0_countBringers_37 (by decide) (fun hc_37 => ?_) (fun hc_37 => ?_)
        · have hf := it_t hf hc_37
          exact hret' _ _ _ _ _ dX0_countBringers_77 hf hP hD hS
        · have hf := it_f hf hc_37
          refine lv_aload_n hx hb dX0_countBringers_40 rfl (lv_at hl 1 rfl) ?_
          refine lv_iload_n hx hb dX0_countBringers_41 rfl (lv_at hl 3 rfl) ?_
          obtain ⟨r_42, hr_42, hf⟩ := bd_some hf
          refine cl_i (wc := [(qb, oB 4 [.ref qb_cells]), (qb_cells, aI cy 24 zb_cells)]) (w1 := [(qb, oB 4 [.ref qb_cells]), (qb_cells, aI cy 24 zb_cells)]) (wr := [(q0, oB 0 [.ref q_ways, .ref q_avoiding, .ref q_rows, .ref q_told, .int z_a, .int z_b]), (q_ways, aJ cy 7 z_ways_34)]) (w2 := [(q0, oB 0 [.ref q_ways, .ref q_avoiding, .ref q_rows, .ref q_told, .int z_a, .int z_b]), (q_ways, aJ cy 7 z_ways_34), (qb, oB 4 [.ref qb_cells]), (qb_cells, aI cy 24 zb_cells)]) (va_runVN (C := RX4) (host := "EachBrings") (As := [.int x3_34]) (rest := []) ⟨hx, hb, hml, hown, hts⟩ (ktX4_together l D cy qb qb_cells zb_cells x3_34 r_42 hr_42 _) ⟨va_cnB 1 hts gX0_countBringers_X4_together_n32 rfl rfl rfl (hN.at 57 rfl) kw0 (by decide +kernel) ⟨Nat.le_of_ble_eq_true rfl, Nat.le_of_ble_eq_true rfl⟩, kw1, kw2⟩ (pre_V (wc := [(qb, oB 4 [.ref qb_cells]), (qb_cells, aI cy 24 zb_cells)]) (ci := 4) hcx hsx hS hA hP hD [2, 3] rfl (by decide) rfl rfl) rfl rfl hl.1 rfl (lv_room (Nat.le_of_ble_eq_true rfl)) dX0_countBringers_42 ⟨Nat.zero_le _, Nat.zero_le _⟩) hP hD hS hA [2, 3] [0, 1] [0, 1, 2, 3] rfl rfl (by decide) (by decide) (by decide) rfl (fun H locs hP hD hS => ?_)
          refine lv_istore (lv' := [(4, .int r_42), (0, .ref q0), (1, .ref qb), (2, .int x2), (3, .int x3_34)]) hx hb dX0_countBringers_45 hl (by decide) rfl (fun ls hl => ?_)
          refine lv_iload hx hb dX0_countBringers_47 (lv_at hl 0 rfl) ?_
          have hJ71 : ∀ (z_ways_71 : Nat → Int64) (H : Heap) (locs : List Loc) (ls : Array Slot), X0_countBringers_J71 x3_34 self_34 z_ways_71 = some r → va_P D vwCl [(q0, oB 0 [.ref q_ways, .ref q_avoiding, .ref q_rows, .ref q_told, .int z_a, .int z_b]), (q_ways, aJ cy 7 z_ways_71), (qb, oB 4 [.ref qb_cells]), (qb_cells, aI cy 24 zb_cells)] H → va_D A [(q0, oB 0 [.ref q_ways, .ref q_avoiding, .ref q_rows, .ref q_told, .int z_a, .int z_b]), (q_ways, aJ cy 7 z_ways_71), (qb, oB 4 [.ref qb_cells]), (qb_cells, aI cy 24 zb_cells)] → va_S A s.heap H locs → lv_has ls 5 [(0, .ref q0), (1, .ref qb), (2, .int x2), (3, .int x3_34)] → W p l e rmX0_countBringers s m args below meth c H locs 0 0 Q (F0 m 71 ls []) := by
            intro z_ways_71 H locs ls hf hP hD hS hl
            unfold X0_countBringers_J71 at hf
            obtain ⟨x3_71, ex3_71⟩ : ∃ y : Int32, y = x3_34 + (1 : Int32) := ⟨_, rfl⟩
            have hf := lets_at hf ex3_71
            refine lv_iinc (v := x3_71) (lv' := [(3, .int x3_71), (0, .ref q0), (1, .ref qb), (2, .int x2)]) hx hb dX0_countBringers_71 hl (k := 3) rfl (by rw [ex3_71]; rfl) (by decide) rfl (fun ls hl => ?_)
            refine lv_goto (tgt := 34) hx hb dX0_countBringers_74 (by decide) ?_
            exact ih34 x3_71 z_ways_71 _ _ _ hf hP hD hS (lv_sub hl [1, 2, 3, 0] rfl)
          refine lv_if_le (tgt := 71) hx hb dX0_countBringers_49 (by decide) (fun hc_49 => ?_) (fun hc_49 => ?_)
          · have hf := it_t hf hc_49
            exact hJ71 z_ways_34 _ _ _ hf hP hD hS (lv_sub hl [1, 2, 3, 4] rfl)
          · have hf := it_f hf hc_49
            refine lv_aload_n hx hb dX0_countBringers_52 rfl (lv_at hl 1 rfl) ?_
            refine lv_aload_n hx hb dX0_countBringers_53 rfl (lv_at hl 2 rfl) ?_
            refine lv_iload_n hx hb dX0_countBringers_54 rfl (lv_at hl 4 rfl) ?_
            refine lv_iload_n hx hb dX0_countBringers_55 rfl (lv_at hl 3 rfl) ?_
            obtain ⟨r_56, hr_56, hf⟩ := bd_some hf
            refine cl_i (wc := [(qb, oB 4 [.ref qb_cells]), (qb_cells, aI cy 24 zb_cells)]) (w1 := [(qb, oB 4 [.ref qb_cells]), (qb_cells, aI cy 24 zb_cells)]) (wr := [(q0, oB 0 [.ref q_ways, .ref q_avoiding, .ref q_rows, .ref q_told, .int z_a, .int z_b]), (q_ways, aJ cy 7 z_ways_34)]) (w2 := [(q0, oB 0 [.ref q_ways, .ref q_avoiding, .ref q_rows, .ref q_told, .int z_a, .int z_b]), (q_ways, aJ cy 7 z_ways_34), (qb, oB 4 [.ref qb_cells]), (qb_cells, aI cy 24 zb_cells)]) (va_runVN (C := RX4) (host := "EachBrings") (As := [.int x3_34, .int x2]) (rest := [.ref q0]) ⟨hx, hb, hml, hown, hts⟩ (ktX4_of l D cy qb qb_cells zb_cells x3_34 x2 r_56 hr_56 _) ⟨va_cnB 2 hts gX0_countBringers_X4_of_n38 rfl rfl rfl (hN.at 58 rfl) kw0 (by decide +kernel) ⟨Nat.le_of_ble_eq_true rfl, Nat.le_of_ble_eq_true rfl⟩, kw3, kw4⟩ (pre_V (wc := [(qb, oB 4 [.ref qb_cells]), (qb_cells, aI cy 24 zb_cells)]) (ci := 4) hcx hsx hS hA hP hD [2, 3] rfl (by decide) rfl rfl) rfl rfl hl.1 rfl (lv_room (Nat.le_of_ble_eq_true rfl)) dX0_countBringers_56 ⟨Nat.zero_le _, Nat.zero_le _⟩) hP hD hS hA [2, 3] [0, 1] [0, 1, 2, 3] rfl rfl (by decide) (by decide) (by decide) rfl (fun H locs hP hD hS => ?_)
            refine lv_iload hx hb dX0_countBringers_59 (lv_at hl 0 rfl) ?_
            refine lv_aload_n hx hb dX0_countBringers_61 rfl (lv_at hl 2 rfl) ?_
            refine lv_iload_n hx hb dX0_countBringers_62 rfl (lv_at hl 4 rfl) ?_
            refine lv_iload_n hx hb dX0_countBringers_63 rfl (lv_at hl 3 rfl) ?_
            obtain ⟨r_64, hr_64, hf⟩ := bd_some hf
            refine cl_i (wc := [(qb, oB 4 [.ref qb_cells]), (qb_cells, aI cy 24 zb_cells)]) (w1 := [(qb, oB 4 [.ref qb_cells]), (qb_cells, aI cy 24 zb_cells)]) (wr := [(q0, oB 0 [.ref q_ways, .ref q_avoiding, .ref q_rows, .ref q_told, .int z_a, .int z_b]), (q_ways, aJ cy 7 z_ways_34)]) (w2 := [(q0, oB 0 [.ref q_ways, .ref q_avoiding, .ref q_rows, .ref q_told, .int z_a, .int z_b]), (q_ways, aJ cy 7 z_ways_34), (qb, oB 4 [.ref qb_cells]), (qb_cells, aI cy 24 zb_cells)]) (va_runVN (C := RX4) (host := "EachBrings") (As := [.int x3_34, .int x2]) (rest := [.int r_42, .int r_56, .ref q0]) ⟨hx, hb, hml, hown, hts⟩ (ktX4_of l D cy qb qb_cells zb_cells x3_34 x2 r_64 hr_64 _) ⟨va_cnB 2 hts gX0_countBringers_X4_of_n38 rfl rfl rfl (hN.at 58 rfl) kw0 (by decide +kernel) ⟨Nat.le_of_ble_eq_true rfl, Nat.le_of_ble_eq_true rfl⟩, kw3, kw4⟩ (pre_V (wc := [(qb, oB 4 [.ref qb_cells]), (qb_cells, aI cy 24 zb_cells)]) (ci := 4) hcx hsx hS hA hP hD [2, 3] rfl (by decide) rfl rfl) rfl rfl hl.1 rfl (lv_room (Nat.le_of_ble_eq_true rfl)) dX0_countBringers_64 ⟨Nat.zero_le _, Nat.zero_le _⟩) hP hD hS hA [2, 3] [0, 1] [0, 1, 2, 3] rfl rfl (by decide) (by decide) (by decide) rfl (fun H locs hP hD hS => ?_)
            refine lv_isub hx hb dX0_countBringers_67 ?_
            obtain ⟨r_68, hr_68, hf⟩ := bd_some hf
            refine cl_v (wc := [(q0, oB 0 [.ref q_ways, .ref q_avoiding, .ref q_rows, .ref q_told, .int z_a, .int z_b]), (q_ways, aJ cy 7 z_ways_34)]) (w1 := [(q0, oB 0 [.ref q_ways, .ref q_avoiding, .ref q_rows, .ref q_told, .int z_a, .int z_b]), (q_ways, aJ cy 7 r_68)]) (wr := [(qb, oB 4 [.ref qb_cells]), (qb_cells, aI cy 24 zb_cells)]) (w2 := [(q0, oB 0 [.ref q_ways, .ref q_avoiding, .ref q_rows, .ref q_told, .int z_a, .int z_b]), (q_ways, aJ cy 7 r_68), (qb, oB 4 [.ref qb_cells]), (qb_cells, aI cy 24 zb_cells)]) (va_runV (As := [.int r_56, .int (r_42 - r_64)]) (rest := []) ⟨hx, hb, hml, hown, hts⟩ (ktX0_addBringer l D cy q0 q_ways q_avoiding q_rows q_told z_a z_b z_ways_34 r_56 (r_42 - r_64) r_68 hr_68 _) (cwV 2 hts gX0_countBringers_X0_addBringer rfl rfl rfl (by decide +kernel) ⟨Nat.le_of_ble_eq_true rfl, Nat.le_of_ble_eq_true rfl⟩) (pre_V (wc := [(q0, oB 0 [.ref q_ways, .ref q_avoiding, .ref q_rows, .ref q_told, .int z_a, .int z_b]), (q_ways, aJ cy 7 z_ways_34)]) (ci := 0) hcx hsx hS hA hP hD [0, 1] rfl (by decide) rfl rfl) rfl rfl hl.1 rfl (lv_room (Nat.le_of_ble_eq_true rfl)) dX0_countBringers_68 ⟨Nat.zero_le _, Nat.zero_le _⟩) hP hD hS hA [0, 1] [2, 3] [2, 3, 0, 1] rfl rfl (by decide) (by decide) (by decide) rfl (fun H locs hP hD hS => ?_)
            exact hJ71 r_68 _ _ _ hf hP hD hS (lv_sub hl [1, 2, 3, 4] rfl)
    exact hL34 _ (0 : Int32) z_ways_32 _ _ _ hf hP hD hS (lv_sub hl [1, 2, 3, 0] rfl)
  have hL2 : ∀ (n : Nat) (x3_2 : Int32) (z_ways_2 : Nat → Int64) (H : Heap) (locs : List Loc) (ls : Array Slot), it2 (X0_countBringers_S2 zb_cells x2) n x3_2 z_ways_2 = some r → va_P D vwCl [(q0, oB 0 [.ref q_ways, .ref q_avoiding, .ref q_rows, .ref q_told, .int z_a, .int z_b]), (q_ways, aJ cy 7 z_ways_2), (qb, oB 4 [.ref qb_cells]), (qb_cells, aI cy 24 zb_cells)] H → va_D A [(q0, oB 0 [.ref q_ways, .ref q_avoiding, .ref q_rows, .ref q_told, .int z_a, .int z_b]), (q_ways, aJ cy 7 z_ways_2), (qb, oB 4 [.ref qb_cells]), (qb_cells, aI cy 24 zb_cells)] → va_S A s.heap H locs → lv_has ls 5 [(0, .ref q0), (1, .ref qb), (2, .int x2), (3, .int x3_2)] → W p l e rmX0_countBringers s m args below meth c H locs 0 0 Q (F0 m 2 ls []) := by
    intro n
    induction n with
    | zero => intro x3_2 z_ways_2 H locs ls hf; exact absurd hf (by simp [it2])
    | succ n ih2 =>
      intro x3_2 z_ways_2 H locs ls hf hP hD hS hl
      have hf : X0_countBringers_S2 zb_cells x2 (it2 (X0_countBringers_S2 zb_cells x2) n) x3_2 z_ways_2 = some r := hf
      generalize it2 (X0_countBringers_S2 zb_cells x2) n = self_2 at hf ih2
      unfold X0_countBringers_S2 at hf
      refine lv_iload_n hx hb dX0_countBringers_2 rfl (lv_at hl 3 rfl) ?_
      refine lv_aload_n hx hb dX0_countBringers_3 rfl (lv_at hl 0 rfl) ?_
      refine va_get (D := D) (ci := 0) (v := .ref q_ways) (C := RX0) (T := TX0) (N := 6) hx hb hts kc6 hown hK hP 0 rfl rfl 0 (by decide) kw5 (fun _ h9 => h9) rfl dX0_countBringers_4 ?_
      refine va_alen (v := 7) hx hb hK hP 1 1 rfl rfl rfl dX0_countBringers_7 ?_
      refine lv_icmp_ge (tgt := 32) hx hb dX0_countBringers_8 (by decide) (fun hc_8 => ?_) (fun hc_8 => ?_)
      · have hf := it_t hf hc_8
        exact hJ32 z_ways_2 _ _ _ hf hP hD hS (lv_sub hl [0, 1, 2] rfl)
      · have hf := it_f hf hc_8
        refine lv_aload_n hx hb dX0_countBringers_11 rfl (lv_at hl 0 rfl) ?_
        refine va_get (D := D) (ci := 0) (v := .ref q_ways) (C := RX0) (T := TX0) (N := 6) hx hb hts kc6 hown hK hP 0 rfl rfl 0 (by decide) kw5 (fun _ h9 => h9) rfl dX0_countBringers_12 ?_
        refine lv_iload_n hx hb dX0_countBringers_15 rfl (lv_at hl 3 rfl) ?_
        refine lv_iload_n hx hb dX0_countBringers_16 rfl (lv_at hl 3 rfl) ?_
        have hJ25 : ∀ (t2_25 : Int64) (H : Heap) (locs : List Loc) (ls : Array Slot), X0_countBringers_J25 x3_2 z_ways_2 self_2 t2_25 = some r → va_P D vwCl [(q0, oB 0 [.ref q_ways, .ref q_avoiding, .ref q_rows, .ref q_told, .int z_a, .int z_b]), (q_ways, aJ cy 7 z_ways_2), (qb, oB 4 [.ref qb_cells]), (qb_cells, aI cy 24 zb_cells)] H → va_D A [(q0, oB 0 [.ref q_ways, .ref q_avoiding, .ref q_rows, .ref q_told, .int z_a, .int z_b]), (q_ways, aJ cy 7 z_ways_2), (qb, oB 4 [.ref qb_cells]), (qb_cells, aI cy 24 zb_cells)] → va_S A s.heap H locs → lv_has ls 5 [(0, .ref q0), (1, .ref qb), (2, .int x2), (3, .int x3_2)] → W p l e rmX0_countBringers s m args below meth c H locs 0 0 Q (F0 m 25 ls [.long t2_25, .int x3_2, .ref q_ways]) := by
          intro t2_25 H locs ls hf hP hD hS hl
          unfold X0_countBringers_J25 at hf
          obtain ⟨hg_25, hf⟩ := gd_some hf
          refine va_last hx hb hK hP hD hS 1 1 rfl rfl hg_25 dX0_countBringers_25 (fun H locs hP hD hS => ?_)
          obtain ⟨z_ways_25, ez_ways_25⟩ : ∃ y : Nat → Int64, y = vp_updL z_ways_2 x3_2.toNatClampNeg t2_25 := ⟨_, rfl⟩
          have hf := lets_at hf ez_ways_25
          rw [← ez_ways_25] at hP hD
          have hP : va_P D vwCl [(q0, oB 0 [.ref q_ways, .ref q_avoiding, .ref q_rows, .ref q_told, .int z_a, .int z_b]), (q_ways, aJ cy 7 z_ways_25), (qb, oB 4 [.ref qb_cells]), (qb_cells, aI cy 24 zb_cells)] H := hP
          have hD : va_D A [(q0, oB 0 [.ref q_ways, .ref q_avoiding, .ref q_rows, .ref q_told, .int z_a, .int z_b]), (q_ways, aJ cy 7 z_ways_25), (qb, oB 4 [.ref qb_cells]), (qb_cells, aI cy 24 zb_cells)] := hD
          obtain ⟨x3_26, ex3_26⟩ : ∃ y : Int32, y = x3_2 + (1 : Int32) := ⟨_, rfl⟩
          have hf := lets_at hf ex3_26
          refine lv_iinc (v := x3_26) (lv' := [(3, .int x3_26), (0, .ref q0), (1, .ref qb), (2, .int x2)]) hx hb dX0_countBringers_26 hl (k := 3) rfl (by rw [ex3_26]; rfl) (by decide) rfl (fun ls hl => ?_)
          refine lv_goto (tgt := 2) hx hb dX0_countBringers_29 (by decide) ?_
          exact ih2 x3_26 z_ways_25 _ _ _ hf hP hD hS (lv_sub hl [1, 2, 3, 0] rfl)
        refine lv_if_ne (tgt := 24) hx hb dX0_countBringers_17 (by decide) (fun hc_17 => ?_) (fun hc_17 => ?_)
        · have hf := it_f hf hc_17
          refine lv_lconst (v := 0) hx hb dX0_countBringers_24 (by decide) ?_
          exact hJ25 (0 : Int64) _ _ _ hf hP hD hS (lv_sub hl [0, 1, 2, 3] rfl)
        · have hf := it_t hf hc_17
          refine lv_lconst (v := 1) hx hb dX0_countBringers_20 (by decide) ?_
          refine lv_goto (tgt := 25) hx hb dX0_countBringers_21 (by decide) ?_
          exact hJ25 (1 : Int64) _ _ _ hf hP hD hS (lv_sub hl [0, 1, 2, 3] rfl)
  exact hL2 _ (0 : Int32) z_ways _ _ _ hf hP hD hS (lv_sub hl [1, 2, 3, 0] rfl)

def X0_waysFrom_S5 (z_ways : Nat → Int64) (self_5 : Int64 → Int32 → Option Int64) (x2_5 : Int64) (x4_5 : Int32) : Option Int64 := if (6 : Int32) < x4_5 then (some x2_5) else (gd (okx x4_5 7) (lets (x2_5 + (z_ways x4_5.toNatClampNeg)) (fun x2_21 => lets (x4_5 + (1 : Int32)) (fun x4_22 => self_5 x2_21 x4_22))))
def fX0_waysFrom (z_ways : Nat → Int64) (x1 : Int32) : Option Int64 := it2 (X0_waysFrom_S5 z_ways) 100000 (0 : Int64) x1
abbrev rmX0_waysFrom : Room := { frames := 0, cells := 0, slots := 0, locals := 0 }
set_option maxHeartbeats 4000000 in
set_option maxRecDepth 100000 in
theorem ktX0_waysFrom (l : Launch) (D : va_G) (cy : Nat → ClassId) (q0 : Nat) (q_ways : Nat) (q_avoiding : Nat) (q_rows : Nat) (q_told : Nat) (z_a : Int32) (z_b : Int32) (z_ways : Nat → Int64) (x1 : Int32) (r : Int64) (hf : fX0_waysFrom z_ways x1 = some r) : CtL l yX0_waysFrom wsX0_waysFrom rmX0_waysFrom D cy [.ref q0, .int x1] [(q0, oB 0 [.ref q_ways, .ref q_avoiding, .ref q_rows, .ref q_told, .int z_a, .int z_b]), (q_ways, aJ cy 7 z_ways)] [(q0, oB 0 [.ref q_ways, .ref q_avoiding, .ref q_rows, .ref q_told, .int z_a, .int z_b]), (q_ways, aJ cy 7 z_ways)] r := by
  refine Ct_ofL (cc := cX0_waysFrom) (nL := 5) (by decide) rfl (Nat.le_of_ble_eq_true rfl) ?_
  intro p e s m args below meth c A Q hM hret hP hD hS ls hl
  obtain ⟨hx, hb, hml, hown, hts, hcx, hA, hsx⟩ := hM
  have hown : s.vm.findClass RX0 = some m.cls := hown
  have hK := hcx.1
  have hN := hcx.2
  have kw0 := hts (.fieldLink RX0 9 "EachBrings$Chances" "ways" "[J") (List.mem_of_getElem? (i := 1) rfl)
  have kc1 : ∀ w ∈ wsX00, w ∈ wsX0_waysFrom := fun _ h => List.mem_cons_of_mem _ (List.mem_append_right _ h)
  have hl : lv_has ls 5 [(0, .ref q0), (1, .int x1)] := hl
  have hret' : ∀ (pc : Nat) (ls : Array Slot) (H : Heap) (locs : List Loc) (v : Int64), decode cX0_waysFrom pc = .ok (.lreturn, 1) → some v = some r → va_P D vwCl [(q0, oB 0 [.ref q_ways, .ref q_avoiding, .ref q_rows, .ref q_told, .int z_a, .int z_b]), (q_ways, aJ cy 7 z_ways)] H → va_D A [(q0, oB 0 [.ref q_ways, .ref q_avoiding, .ref q_rows, .ref q_told, .int z_a, .int z_b]), (q_ways, aJ cy 7 z_ways)] → va_S A s.heap H locs → W p l e rmX0_waysFrom s m args below meth c H locs 0 0 Q (F0 m pc ls [.long v]) := by
    intro pc ls H locs v hd he hP hD hS
    cases he
    exact hret _ _ _ _ _ hd rfl hP hD hS
  unfold fX0_waysFrom at hf
  refine lv_lconst (v := 0) hx hb dX0_waysFrom_0 (by decide) ?_
  refine lv_lstore_n (lv' := [(2, .long (0 : Int64)), (0, .ref q0), (1, .int x1)]) hx hb dX0_waysFrom_1 rfl hl (by decide) rfl (fun ls hl => ?_)
  refine lv_iload_n hx hb dX0_waysFrom_2 rfl (lv_at hl 2 rfl) ?_
  refine lv_istore (lv' := [(4, .int x1), (2, .long (0 : Int64)), (0, .ref q0), (1, .int x1)]) hx hb dX0_waysFrom_3 hl (by decide) rfl (fun ls hl => ?_)
  have hL5 : ∀ (n : Nat) (x2_5 : Int64) (x4_5 : Int32) (H : Heap) (locs : List Loc) (ls : Array Slot), it2 (X0_waysFrom_S5 z_ways) n x2_5 x4_5 = some r → va_P D vwCl [(q0, oB 0 [.ref q_ways, .ref q_avoiding, .ref q_rows, .ref q_told, .int z_a, .int z_b]), (q_ways, aJ cy 7 z_ways)] H → va_D A [(q0, oB 0 [.ref q_ways, .ref q_avoiding, .ref q_rows, .ref q_told, .int z_a, .int z_b]), (q_ways, aJ cy 7 z_ways)] → va_S A s.heap H locs → lv_has ls 5 [(0, .ref q0), (2, .long x2_5), (4, .int x4_5)] → W p l e rmX0_waysFrom s m args below meth c H locs 0 0 Q (F0 m 5 ls []) := by
    intro n
    induction n with
    | zero => intro x2_5 x4_5 H locs ls hf; exact absurd hf (by simp [it2])
    | succ n ih5 =>
      intro x2_5 x4_5 H locs ls hf hP hD hS hl
      have hf : X0_waysFrom_S5 z_ways (it2 (X0_waysFrom_S5 z_ways) n) x2_5 x4_5 = some r := hf
      generalize it2 (X0_waysFrom_S5 z_ways) n = self_5 at hf ih5
      unfold X0_waysFrom_S5 at hf
      refine lv_iload hx hb dX0_waysFrom_5 (lv_at hl 2 rfl) ?_
      refine lv_bipush (v := 6) hx hb dX0_waysFrom_7 (by decide) ?_
      refine lv_icmp_gt (tgt := 28) hx hb dX0_waysFrom_9 (by decide) (fun hc_9 => ?_) (fun hc_9 => ?_)
      · have hf := it_t hf hc_9
        refine lv_lload_n hx hb dX0_waysFrom_28 rfl (lv_at hl 1 rfl) ?_
        exact hret' _ _ _ _ _ dX0_waysFrom_29 hf hP hD hS
      · have hf := it_f hf hc_9
        refine lv_lload_n hx hb dX0_waysFrom_12 rfl (lv_at hl 1 rfl) ?_
        refine lv_aload_n hx hb dX0_waysFrom_13 rfl (lv_at hl 0 rfl) ?_
        refine va_get (D := D) (ci := 0) (v := .ref q_ways) (C := RX0) (T := TX0) (N := 6) hx hb hts kc1 hown hK hP 0 rfl rfl 0 (by decide) kw0 (fun _ h9 => h9) rfl dX0_waysFrom_14 ?_
        refine lv_iload hx hb dX0_waysFrom_17 (lv_at hl 2 rfl) ?_
        obtain ⟨hg_19, hf⟩ := gd_some hf
        refine va_lald hx hb hK hP 1 1 rfl rfl hg_19 dX0_waysFrom_19 ?_
        refine lv_ladd hx hb dX0_waysFrom_20 ?_
        refine lv_topl (fun x2_21 ex2_21 => ?_)
        have hf := lets_at hf ex2_21
        refine lv_lstore_n (lv' := [(2, .long x2_21), (0, .ref q0), (4, .int x4_5)]) hx hb dX0_waysFrom_21 rfl hl (by decide) rfl (fun ls hl => ?_)
        obtain ⟨x4_22, ex4_22⟩ : ∃ y : Int32, y = x4_5 + (1 : Int32) := ⟨_, rfl⟩
        have hf := lets_at hf ex4_22
        refine lv_iinc (v := x4_22) (lv' := [(4, .int x4_22), (2, .long x2_21), (0, .ref q0)]) hx hb dX0_waysFrom_22 hl (k := 2) rfl (by rw [ex4_22]; rfl) (by decide) rfl (fun ls hl => ?_)
        refine lv_goto (tgt := 5) hx hb dX0_waysFrom_25 (by decide) ?_
        exact ih5 x2_21 x4_22 _ _ _ hf hP hD hS (lv_sub hl [2, 1, 0] rfl)
  exact hL5 _ (0 : Int64) x1 _ _ _ hf hP hD hS (lv_sub hl [2, 1, 0] rfl)

def X0_waysAvoiding_J41 (x5_15 : Int32) (self_15 : Int64 → Int32 → Option Int64) (x3_41 : Int64) : Option Int64 := lets (x5_15 + (1 : Int32)) (fun x5_41 => self_15 x3_41 x5_41)
def X0_waysAvoiding_S15 (z_cells : Nat → Int32) (x1 : Int32) (x2 : Int32) (self_15 : Int64 → Int32 → Option Int64) (x3_15 : Int64) (x5_15 : Int32) : Option Int64 := if (4 : Int32) ≤ x5_15 then (some x3_15) else (if ((x2 >>> (x5_15 &&& 31)) &&& (1 : Int32)) = 0 then ((fX4_of z_cells x1 x5_15).bind (fun r_35 => lets (x3_15 + r_35.toInt64) (fun x3_40 => X0_waysAvoiding_J41 x5_15 self_15 x3_40))) else (X0_waysAvoiding_J41 x5_15 self_15 x3_15))
def fX0_waysAvoiding (z_cells : Nat → Int32) (x1 : Int32) (x2 : Int32) : Option Int64 := (fX4_together z_cells x1).bind (fun r_2 => if r_2 = 0 then (some (1 : Int64)) else (it2 (X0_waysAvoiding_S15 z_cells x1 x2) 100000 (0 : Int64) (0 : Int32)))
abbrev rmX0_waysAvoiding : Room := { frames := 2, cells := 0, slots := 0, locals := 45 }
set_option maxHeartbeats 4000000 in
set_option maxRecDepth 100000 in
theorem ktX0_waysAvoiding (l : Launch) (D : va_G) (cy : Nat → ClassId) (q0 : Nat) (q_cells : Nat) (z_cells : Nat → Int32) (x1 : Int32) (x2 : Int32) (r : Int64) (hf : fX0_waysAvoiding z_cells x1 x2 = some r) : CtL l yX0_waysAvoiding wsX0_waysAvoiding rmX0_waysAvoiding D cy [.ref q0, .int x1, .int x2] [(q0, oB 4 [.ref q_cells]), (q_cells, aI cy 24 z_cells)] [(q0, oB 4 [.ref q_cells]), (q_cells, aI cy 24 z_cells)] r := by
  refine Ct_ofL (cc := cX0_waysAvoiding) (nL := 6) (by decide) rfl (Nat.le_of_ble_eq_true rfl) ?_
  intro p e s m args below meth c A Q hM hret hP hD hS ls hl
  obtain ⟨hx, hb, hml, hown, hts, hcx, hA, hsx⟩ := hM
  have hown : s.vm.findClass RX0 = some m.cls := hown
  have hK := hcx.1
  have hN := hcx.2
  have kw0 := hts (.initialized RX4) (List.mem_of_getElem? (i := 2) rfl)
  have kw1 := hts (.instanceMethod yX4_together) (List.mem_of_getElem? (i := 1) rfl)
  have kw2 := hts (.selects RX4 yX4_together yX4_together) (List.mem_of_getElem? (i := 3) rfl)
  have kw3 := hts (.instanceMethod yX4_of) (List.mem_of_getElem? (i := 6) rfl)
  have kw4 := hts (.selects RX4 yX4_of yX4_of) (List.mem_of_getElem? (i := 7) rfl)
  have hl : lv_has ls 6 [(0, .ref q0), (1, .int x1), (2, .int x2)] := hl
  have hret' : ∀ (pc : Nat) (ls : Array Slot) (H : Heap) (locs : List Loc) (v : Int64), decode cX0_waysAvoiding pc = .ok (.lreturn, 1) → some v = some r → va_P D vwCl [(q0, oB 4 [.ref q_cells]), (q_cells, aI cy 24 z_cells)] H → va_D A [(q0, oB 4 [.ref q_cells]), (q_cells, aI cy 24 z_cells)] → va_S A s.heap H locs → W p l e rmX0_waysAvoiding s m args below meth c H locs 0 0 Q (F0 m pc ls [.long v]) := by
    intro pc ls H locs v hd he hP hD hS
    cases he
    exact hret _ _ _ _ _ hd rfl hP hD hS
  unfold fX0_waysAvoiding at hf
  refine lv_aload_n hx hb dX0_waysAvoiding_0 rfl (lv_at hl 0 rfl) ?_
  refine lv_iload_n hx hb dX0_waysAvoiding_1 rfl (lv_at hl 1 rfl) ?_
  obtain ⟨r_2, hr_2, hf⟩ := bd_some hf
  refine cl_i (wc := [(q0, oB 4 [.ref q_cells]), (q_cells, aI cy 24 z_cells)]) (w1 := [(q0, oB 4 [.ref q_cells]), (q_cells, aI cy 24 z_cells)]) (wr := []) (w2 := [(q0, oB 4 [.ref q_cells]), (q_cells, aI cy 24 z_cells)]) (va_runVN (C := RX4) (host := "EachBrings") (As := [.int x1]) (rest := []) ⟨hx, hb, hml, hown, hts⟩ (ktX4_together l D cy q0 q_cells z_cells x1 r_2 hr_2 _) ⟨va_cnB 1 hts gX0_waysAvoiding_X4_together_n32 rfl rfl rfl (hN.at 57 rfl) kw0 (by decide +kernel) ⟨Nat.le_of_ble_eq_true rfl, Nat.le_of_ble_eq_true rfl⟩, kw1, kw2⟩ (pre_V (wc := [(q0, oB 4 [.ref q_cells]), (q_cells, aI cy 24 z_cells)]) (ci := 4) hcx hsx hS hA hP hD [0, 1] rfl (by decide) rfl rfl) rfl rfl hl.1 rfl (lv_room (Nat.le_of_ble_eq_true rfl)) dX0_waysAvoiding_2 ⟨Nat.zero_le _, Nat.zero_le _⟩) hP hD hS hA [0, 1] [] [0, 1] rfl rfl (by decide) (by decide) (by decide) rfl (fun H locs hP hD hS => ?_)
  refine lv_if_ne (tgt := 10) hx hb dX0_waysAvoiding_5 (by decide) (fun hc_5 => ?_) (fun hc_5 => ?_)
  · have hf := it_f hf hc_5
    refine lv_lconst (v := 0) hx hb dX0_waysAvoiding_10 (by decide) ?_
    refine lv_lstore_n (lv' := [(3, .long (0 : Int64)), (0, .ref q0), (1, .int x1), (2, .int x2)]) hx hb dX0_waysAvoiding_11 rfl hl (by decide) rfl (fun ls hl => ?_)
    refine lv_iconst (v := 0) hx hb dX0_waysAvoiding_12 (by decide) ?_
    refine lv_istore (lv' := [(5, .int (0 : Int32)), (3, .long (0 : Int64)), (0, .ref q0), (1, .int x1), (2, .int x2)]) hx hb dX0_waysAvoiding_13 hl (by decide) rfl (fun ls hl => ?_)
    have hL15 : ∀ (n : Nat) (x3_15 : Int64) (x5_15 : Int32) (H : Heap) (locs : List Loc) (ls : Array Slot), it2 (X0_waysAvoiding_S15 z_cells x1 x2) n x3_15 x5_15 = some r → va_P D vwCl [(q0, oB 4 [.ref q_cells]), (q_cells, aI cy 24 z_cells)] H → va_D A [(q0, oB 4 [.ref q_cells]), (q_cells, aI cy 24 z_cells)] → va_S A s.heap H locs → lv_has ls 6 [(0, .ref q0), (1, .int x1), (2, .int x2), (3, .long x3_15), (5, .int x5_15)] → W p l e rmX0_waysAvoiding s m args below meth c H locs 0 0 Q (F0 m 15 ls []) := by
      intro n
      induction n with
      | zero => intro x3_15 x5_15 H locs ls hf; exact absurd hf (by simp [it2])
      | succ n ih15 =>
        intro x3_15 x5_15 H locs ls hf hP hD hS hl
        have hf : X0_waysAvoiding_S15 z_cells x1 x2 (it2 (X0_waysAvoiding_S15 z_cells x1 x2) n) x3_15 x5_15 = some r := hf
        generalize it2 (X0_waysAvoiding_S15 z_cells x1 x2) n = self_15 at hf ih15
        unfold X0_waysAvoiding_S15 at hf
        refine lv_iload hx hb dX0_waysAvoiding_15 (lv_at hl 4 rfl) ?_
        refine lv_iconst (v := 4) hx hb dX0_waysAvoiding_17 (by decide) ?_
        refine lv_icmp_ge (tgt := 47) hx hb dX0_waysAvoiding_18 (by decide) (fun hc_18 => ?_) (fun hc_18 => ?_)
        · have hf := it_t hf hc_18
          refine lv_lload_n hx hb dX0_waysAvoiding_47 rfl (lv_at hl 3 rfl) ?_
          exact hret' _ _ _ _ _ dX0_waysAvoiding_48 hf hP hD hS
        · have hf := it_f hf hc_18
          refine lv_iload_n hx hb dX0_waysAvoiding_21 rfl (lv_at hl 2 rfl) ?_
          refine lv_iload hx hb dX0_waysAvoiding_22 (lv_at hl 4 rfl) ?_
          refine lv_ishr hx hb dX0_waysAvoiding_24 ?_
          refine lv_iconst (v := 1) hx hb dX0_waysAvoiding_25 (by decide) ?_
          refine lv_iand hx hb dX0_waysAvoiding_26 ?_
          have hJ41 : ∀ (x3_41 : Int64) (H : Heap) (locs : List Loc) (ls : Array Slot), X0_waysAvoiding_J41 x5_15 self_15 x3_41 = some r → va_P D vwCl [(q0, oB 4 [.ref q_cells]), (q_cells, aI cy 24 z_cells)] H → va_D A [(q0, oB 4 [.ref q_cells]), (q_cells, aI cy 24 z_cells)] → va_S A s.heap H locs → lv_has ls 6 [(0, .ref q0), (1, .int x1), (2, .int x2), (3, .long x3_41), (5, .int x5_15)] → W p l e rmX0_waysAvoiding s m args below meth c H locs 0 0 Q (F0 m 41 ls []) := by
            intro x3_41 H locs ls hf hP hD hS hl
            unfold X0_waysAvoiding_J41 at hf
            obtain ⟨x5_41, ex5_41⟩ : ∃ y : Int32, y = x5_15 + (1 : Int32) := ⟨_, rfl⟩
            have hf := lets_at hf ex5_41
            refine lv_iinc (v := x5_41) (lv' := [(5, .int x5_41), (0, .ref q0), (1, .int x1), (2, .int x2), (3, .long x3_41)]) hx hb dX0_waysAvoiding_41 hl (k := 4) rfl (by rw [ex5_41]; rfl) (by decide) rfl (fun ls hl => ?_)
            refine lv_goto (tgt := 15) hx hb dX0_waysAvoiding_44 (by decide) ?_
            exact ih15 x3_41 x5_41 _ _ _ hf hP hD hS (lv_sub hl [1, 2, 3, 4, 0] rfl)
          refine lv_if_ne (tgt := 41) hx hb dX0_waysAvoiding_27 (by decide) (fun hc_27 => ?_) (fun hc_27 => ?_)
          · have hf := it_f hf hc_27
            exact hJ41 x3_15 _ _ _ hf hP hD hS (lv_sub hl [0, 1, 2, 3, 4] rfl)
          · have hf := it_t hf hc_27
            refine lv_lload_n hx hb dX0_waysAvoiding_30 rfl (lv_at hl 3 rfl) ?_
            refine lv_aload_n hx hb dX0_waysAvoiding_31 rfl (lv_at hl 0 rfl) ?_
            refine lv_iload_n hx hb dX0_waysAvoiding_32 rfl (lv_at hl 1 rfl) ?_
            refine lv_iload hx hb dX0_waysAvoiding_33 (lv_at hl 4 rfl) ?_
            obtain ⟨r_35, hr_35, hf⟩ := bd_some hf
            refine cl_i (wc := [(q0, oB 4 [.ref q_cells]), (q_cells, aI cy 24 z_cells)]) (w1 := [(q0, oB 4 [.ref q_cells]), (q_cells, aI cy 24 z_cells)]) (wr := []) (w2 := [(q0, oB 4 [.ref q_cells]), (q_cells, aI cy 24 z_cells)]) (va_runVN (C := RX4) (host := "EachBrings") (As := [.int x1, .int x5_15]) (rest := [.long x3_15]) ⟨hx, hb, hml, hown, hts⟩ (ktX4_of l D cy q0 q_cells z_cells x1 x5_15 r_35 hr_35 _) ⟨va_cnB 2 hts gX0_waysAvoiding_X4_of_n38 rfl rfl rfl (hN.at 58 rfl) kw0 (by decide +kernel) ⟨Nat.le_of_ble_eq_true rfl, Nat.le_of_ble_eq_true rfl⟩, kw3, kw4⟩ (pre_V (wc := [(q0, oB 4 [.ref q_cells]), (q_cells, aI cy 24 z_cells)]) (ci := 4) hcx hsx hS hA hP hD [0, 1] rfl (by decide) rfl rfl) rfl rfl hl.1 rfl (lv_room (Nat.le_of_ble_eq_true rfl)) dX0_waysAvoiding_35 ⟨Nat.zero_le _, Nat.zero_le _⟩) hP hD hS hA [0, 1] [] [0, 1] rfl rfl (by decide) (by decide) (by decide) rfl (fun H locs hP hD hS => ?_)
            refine lv_i2l (v := r_35.toInt64) hx hb dX0_waysAvoiding_38 rfl ?_
            refine lv_ladd hx hb dX0_waysAvoiding_39 ?_
            refine lv_topl (fun x3_40 ex3_40 => ?_)
            have hf := lets_at hf ex3_40
            refine lv_lstore_n (lv' := [(3, .long x3_40), (0, .ref q0), (1, .int x1), (2, .int x2), (5, .int x5_15)]) hx hb dX0_waysAvoiding_40 rfl hl (by decide) rfl (fun ls hl => ?_)
            exact hJ41 x3_40 _ _ _ hf hP hD hS (lv_sub hl [1, 2, 3, 0, 4] rfl)
    exact hL15 _ (0 : Int64) (0 : Int32) _ _ _ hf hP hD hS (lv_sub hl [2, 3, 4, 1, 0] rfl)
  · have hf := it_t hf hc_5
    refine lv_lconst (v := 1) hx hb dX0_waysAvoiding_8 (by decide) ?_
    exact hret' _ _ _ _ _ dX0_waysAvoiding_9 hf hP hD hS

def X0_prepare_J60 (x2_23 : Int32) (self_23 : Int32 → (Nat → Int64) → Option ((Nat → Int64) × (Nat → Int64))) (z_avoiding_60 : Nat → Int64) : Option ((Nat → Int64) × (Nat → Int64)) := lets (x2_23 + (1 : Int32)) (fun x2_60 => self_23 x2_60 z_avoiding_60)
def X0_prepare_S31 (zb_cells : Nat → Int32) (x2_23 : Int32) (self_23 : Int32 → (Nat → Int64) → Option ((Nat → Int64) × (Nat → Int64))) (self_31 : Int32 → (Nat → Int64) → Option ((Nat → Int64) × (Nat → Int64))) (x3_31 : Int32) (z_avoiding_31 : Nat → Int64) : Option ((Nat → Int64) × (Nat → Int64)) := if (16 : Int32) ≤ x3_31 then (X0_prepare_J60 x2_23 self_23 z_avoiding_31) else ((fX0_waysAvoiding zb_cells x2_23 x3_31).bind (fun r_50 => gd (okx ((x2_23 * (16 : Int32)) + x3_31) 96) (lets (vp_updL z_avoiding_31 ((x2_23 * (16 : Int32)) + x3_31).toNatClampNeg r_50) (fun z_avoiding_53 => lets (x3_31 + (1 : Int32)) (fun x3_54 => self_31 x3_54 z_avoiding_53)))))
def X0_prepare_S23 (zb_cells : Nat → Int32) (z_rows_21 : Nat → Int64) (self_23 : Int32 → (Nat → Int64) → Option ((Nat → Int64) × (Nat → Int64))) (x2_23 : Int32) (z_avoiding_23 : Nat → Int64) : Option ((Nat → Int64) × (Nat → Int64)) := if (6 : Int32) ≤ x2_23 then (some (z_avoiding_23, z_rows_21)) else (it2 (X0_prepare_S31 zb_cells x2_23 self_23) 100000 (0 : Int32) z_avoiding_23)
def X0_prepare_J21 (z_avoiding : Nat → Int64) (zb_cells : Nat → Int32) (z_rows_21 : Nat → Int64) : Option ((Nat → Int64) × (Nat → Int64)) := it2 (X0_prepare_S23 zb_cells z_rows_21) 100000 (0 : Int32) z_avoiding
def X0_prepare_S2 (z_avoiding : Nat → Int64) (zb_cells : Nat → Int32) (self_2 : Int32 → (Nat → Int64) → Option ((Nat → Int64) × (Nat → Int64))) (x2_2 : Int32) (z_rows_2 : Nat → Int64) : Option ((Nat → Int64) × (Nat → Int64)) := if (16 : Int32) ≤ x2_2 then (X0_prepare_J21 z_avoiding zb_cells z_rows_2) else (gd (okx x2_2 112) (lets (vp_updL z_rows_2 x2_2.toNatClampNeg (1 : Int64)) (fun z_rows_14 => lets (x2_2 + (1 : Int32)) (fun x2_15 => self_2 x2_15 z_rows_14))))
def fX0_prepare (z_avoiding : Nat → Int64) (z_rows : Nat → Int64) (zb_cells : Nat → Int32) : Option ((Nat → Int64) × (Nat → Int64)) := it2 (X0_prepare_S2 z_avoiding zb_cells) 100000 (0 : Int32) z_rows
abbrev rmX0_prepare : Room := { frames := 3, cells := 0, slots := 0, locals := 70 }
set_option maxHeartbeats 4000000 in
set_option maxRecDepth 100000 in
theorem ktX0_prepare (l : Launch) (D : va_G) (cy : Nat → ClassId) (q0 : Nat) (q_ways : Nat) (q_avoiding : Nat) (q_rows : Nat) (q_told : Nat) (qb : Nat) (qb_cells : Nat) (z_a : Int32) (z_b : Int32) (z_avoiding : Nat → Int64) (z_rows : Nat → Int64) (zb_cells : Nat → Int32) (r : (Nat → Int64) × (Nat → Int64)) (hf : fX0_prepare z_avoiding z_rows zb_cells = some r) : CtV l yX0_prepare wsX0_prepare rmX0_prepare D cy [.ref q0, .ref qb] [(q0, oB 0 [.ref q_ways, .ref q_avoiding, .ref q_rows, .ref q_told, .int z_a, .int z_b]), (q_avoiding, aJ cy 96 z_avoiding), (q_rows, aJ cy 112 z_rows), (qb, oB 4 [.ref qb_cells]), (qb_cells, aI cy 24 zb_cells)] [(q0, oB 0 [.ref q_ways, .ref q_avoiding, .ref q_rows, .ref q_told, .int z_a, .int z_b]), (q_avoiding, aJ cy 96 r.1), (q_rows, aJ cy 112 r.2), (qb, oB 4 [.ref qb_cells]), (qb_cells, aI cy 24 zb_cells)] := by
  refine Ct_ofV (cc := cX0_prepare) (nL := 4) (by decide) rfl (Nat.le_of_ble_eq_true rfl) ?_
  intro p e s m args below meth c A Q hM hret hP hD hS ls hl
  obtain ⟨hx, hb, hml, hown, hts, hcx, hA, hsx⟩ := hM
  have hown : s.vm.findClass RX0 = some m.cls := hown
  have hK := hcx.1
  have hN := hcx.2
  have kw0 := hts (.fieldLink RX0 15 "EachBrings$Chances" "avoiding" "[J") (List.mem_of_getElem? (i := 2) rfl)
  have kc1 : ∀ w ∈ wsX00, w ∈ wsX0_prepare := fun _ h => List.mem_cons_of_mem _ (List.mem_append_left _ (List.mem_append_right _ h))
  have kw2 := hts (.fieldLink RX0 18 "EachBrings$Chances" "rows" "[J") (List.mem_of_getElem? (i := 1) rfl)
  have hl : lv_has ls 4 [(0, .ref q0), (1, .ref qb)] := hl
  have hret' : ∀ (pc : Nat) (ls : Array Slot) (H : Heap) (locs : List Loc) (w0 : Nat → Int64) (w1 : Nat → Int64), decode cX0_prepare pc = .ok (.return_, 1) → some (w0, w1) = some r → va_P D vwCl [(q0, oB 0 [.ref q_ways, .ref q_avoiding, .ref q_rows, .ref q_told, .int z_a, .int z_b]), (q_avoiding, aJ cy 96 w0), (q_rows, aJ cy 112 w1), (qb, oB 4 [.ref qb_cells]), (qb_cells, aI cy 24 zb_cells)] H → va_D A [(q0, oB 0 [.ref q_ways, .ref q_avoiding, .ref q_rows, .ref q_told, .int z_a, .int z_b]), (q_avoiding, aJ cy 96 w0), (q_rows, aJ cy 112 w1), (qb, oB 4 [.ref qb_cells]), (qb_cells, aI cy 24 zb_cells)] → va_S A s.heap H locs → W p l e rmX0_prepare s m args below meth c H locs 0 0 Q (F0 m pc ls []) := by
    intro pc ls H locs w0 w1 hd he hP hD hS
    cases he
    exact hret _ _ _ _ hd hP hD hS
  unfold fX0_prepare at hf
  refine lv_iconst (v := 0) hx hb dX0_prepare_0 (by decide) ?_
  refine lv_istore_n (lv' := [(2, .int (0 : Int32)), (0, .ref q0), (1, .ref qb)]) hx hb dX0_prepare_1 rfl hl (by decide) rfl (fun ls hl => ?_)
  have hJ21 : ∀ (z_rows_21 : Nat → Int64) (H : Heap) (locs : List Loc) (ls : Array Slot), X0_prepare_J21 z_avoiding zb_cells z_rows_21 = some r → va_P D vwCl [(q0, oB 0 [.ref q_ways, .ref q_avoiding, .ref q_rows, .ref q_told, .int z_a, .int z_b]), (q_avoiding, aJ cy 96 z_avoiding), (q_rows, aJ cy 112 z_rows_21), (qb, oB 4 [.ref qb_cells]), (qb_cells, aI cy 24 zb_cells)] H → va_D A [(q0, oB 0 [.ref q_ways, .ref q_avoiding, .ref q_rows, .ref q_told, .int z_a, .int z_b]), (q_avoiding, aJ cy 96 z_avoiding), (q_rows, aJ cy 112 z_rows_21), (qb, oB 4 [.ref qb_cells]), (qb_cells, aI cy 24 zb_cells)] → va_S A s.heap H locs → lv_has ls 4 [(0, .ref q0), (1, .ref qb)] → W p l e rmX0_prepare s m args below meth c H locs 0 0 Q (F0 m 21 ls []) := by
    intro z_rows_21 H locs ls hf hP hD hS hl
    unfold X0_prepare_J21 at hf
    refine lv_iconst (v := 0) hx hb dX0_prepare_21 (by decide) ?_
    refine lv_istore_n (lv' := [(2, .int (0 : Int32)), (0, .ref q0), (1, .ref qb)]) hx hb dX0_prepare_22 rfl hl (by decide) rfl (fun ls hl => ?_)
    have hL23 : ∀ (n : Nat) (x2_23 : Int32) (z_avoiding_23 : Nat → Int64) (H : Heap) (locs : List Loc) (ls : Array Slot), it2 (X0_prepare_S23 zb_cells z_rows_21) n x2_23 z_avoiding_23 = some r → va_P D vwCl [(q0, oB 0 [.ref q_ways, .ref q_avoiding, .ref q_rows, .ref q_told, .int z_a, .int z_b]), (q_avoiding, aJ cy 96 z_avoiding_23), (q_rows, aJ cy 112 z_rows_21), (qb, oB 4 [.ref qb_cells]), (qb_cells, aI cy 24 zb_cells)] H → va_D A [(q0, oB 0 [.ref q_ways, .ref q_avoiding, .ref q_rows, .ref q_told, .int z_a, .int z_b]), (q_avoiding, aJ cy 96 z_avoiding_23), (q_rows, aJ cy 112 z_rows_21), (qb, oB 4 [.ref qb_cells]), (qb_cells, aI cy 24 zb_cells)] → va_S A s.heap H locs → lv_has ls 4 [(0, .ref q0), (1, .ref qb), (2, .int x2_23)] → W p l e rmX0_prepare s m args below meth c H locs 0 0 Q (F0 m 23 ls []) := by
      intro n
      induction n with
      | zero => intro x2_23 z_avoiding_23 H locs ls hf; exact absurd hf (by simp [it2])
      | succ n ih23 =>
        intro x2_23 z_avoiding_23 H locs ls hf hP hD hS hl
        have hf : X0_prepare_S23 zb_cells z_rows_21 (it2 (X0_prepare_S23 zb_cells z_rows_21) n) x2_23 z_avoiding_23 = some r := hf
        generalize it2 (X0_prepare_S23 zb_cells z_rows_21) n = self_23 at hf ih23
        unfold X0_prepare_S23 at hf
        refine lv_iload_n hx hb dX0_prepare_23 rfl (lv_at hl 2 rfl) ?_
        refine lv_bipush (v := 6) hx hb dX0_prepare_24 (by decide) ?_
        refine lv_icmp_ge (tgt := 66) hx hb dX0_prepare_26 (by decide) (fun hc_26 => ?_) (fun hc_26 => ?_)
        · have hf := it_t hf hc_26
          exact hret' _ _ _ _ _ _ dX0_prepare_66 hf hP hD hS
        · have hf := it_f hf hc_26
          refine lv_iconst (v := 0) hx hb dX0_prepare_29 (by decide) ?_
          refine lv_istore_n (lv' := [(3, .int (0 : Int32)), (0, .ref q0), (1, .ref qb), (2, .int x2_23)]) hx hb dX0_prepare_30 rfl hl (by decide) rfl (fun ls hl => ?_)
          have hJ60 : ∀ (z_avoiding_60 : Nat → Int64) (H : Heap) (locs : List Loc) (ls : Array Slot), X0_prepare_J60 x2_23 self_23 z_avoiding_60 = some r → va_P D vwCl [(q0, oB 0 [.ref q_ways, .ref q_avoiding, .ref q_rows, .ref q_told, .int z_a, .int z_b]), (q_avoiding, aJ cy 96 z_avoiding_60), (q_rows, aJ cy 112 z_rows_21), (qb, oB 4 [.ref qb_cells]), (qb_cells, aI cy 24 zb_cells)] H → va_D A [(q0, oB 0 [.ref q_ways, .ref q_avoiding, .ref q_rows, .ref q_told, .int z_a, .int z_b]), (q_avoiding, aJ cy 96 z_avoiding_60), (q_rows, aJ cy 112 z_rows_21), (qb, oB 4 [.ref qb_cells]), (qb_cells, aI cy 24 zb_cells)] → va_S A s.heap H locs → lv_has ls 4 [(0, .ref q0), (1, .ref qb), (2, .int x2_23)] → W p l e rmX0_prepare s m args below meth c H locs 0 0 Q (F0 m 60 ls []) := by
            intro z_avoiding_60 H locs ls hf hP hD hS hl
            unfold X0_prepare_J60 at hf
            obtain ⟨x2_60, ex2_60⟩ : ∃ y : Int32, y = x2_23 + (1 : Int32) := ⟨_, rfl⟩
            have hf := lets_at hf ex2_60
            refine lv_iinc (v := x2_60) (lv' := [(2, .int x2_60), (0, .ref q0), (1, .ref qb)]) hx hb dX0_prepare_60 hl (k := 2) rfl (by rw [ex2_60]; rfl) (by decide) rfl (fun ls hl => ?_)
            refine lv_goto (tgt := 23) hx hb dX0_prepare_63 (by decide) ?_
            exact ih23 x2_60 z_avoiding_60 _ _ _ hf hP hD hS (lv_sub hl [1, 2, 0] rfl)
          have hL31 : ∀ (n : Nat) (x3_31 : Int32) (z_avoiding_31 : Nat → Int64) (H : Heap) (locs : List Loc) (ls : Array Slot), it2 (X0_prepare_S31 zb_cells x2_23 self_23) n x3_31 z_avoiding_31 = some r → va_P D vwCl [(q0, oB 0 [.ref q_ways, .ref q_avoiding, .ref q_rows, .ref q_told, .int z_a, .int z_b]), (q_avoiding, aJ cy 96 z_avoiding_31), (q_rows, aJ cy 112 z_rows_21), (qb, oB 4 [.ref qb_cells]), (qb_cells, aI cy 24 zb_cells)] H → va_D A [(q0, oB 0 [.ref q_ways, .ref q_avoiding, .ref q_rows, .ref q_told, .int z_a, .int z_b]), (q_avoiding, aJ cy 96 z_avoiding_31), (q_rows, aJ cy 112 z_rows_21), (qb, oB 4 [.ref qb_cells]), (qb_cells, aI cy 24 zb_cells)] → va_S A s.heap H locs → lv_has ls 4 [(0, .ref q0), (1, .ref qb), (2, .int x2_23), (3, .int x3_31)] → W p l e rmX0_prepare s m args below meth c H locs 0 0 Q (F0 m 31 ls []) := by
            intro n
            induction n with
            | zero => intro x3_31 z_avoiding_31 H locs ls hf; exact absurd hf (by simp [it2])
            | succ n ih31 =>
              intro x3_31 z_avoiding_31 H locs ls hf hP hD hS hl
              have hf : X0_prepare_S31 zb_cells x2_23 self_23 (it2 (X0_prepare_S31 zb_cells x2_23 self_23) n) x3_31 z_avoiding_31 = some r := hf
              generalize it2 (X0_prepare_S31 zb_cells x2_23 self_23) n = self_31 at hf ih31
              unfold X0_prepare_S31 at hf
              refine lv_iload_n hx hb dX0_prepare_31 rfl (lv_at hl 3 rfl) ?_
              refine lv_bipush (v := 16) hx hb dX0_prepare_32 (by decide) ?_
              refine lv_icmp_ge (tgt := 60) hx hb dX0_prepare_34 (by decide) (fun hc_34 => ?_) (fun hc_34 => ?_)
              · have hf := it_t hf hc_34
                exact hJ60 z_avoiding_31 _ _ _ hf hP hD hS (lv_sub hl [0, 1, 2] rfl)
              · have hf := it_f hf hc_34
                refine lv_aload_n hx hb dX0_prepare_37 rfl (lv_at hl 0 rfl) ?_
                refine va_get (D := D) (ci := 0) (v := .ref q_avoiding) (C := RX0) (T := TX0) (N := 6) hx hb hts kc1 hown hK hP 0 rfl rfl 1 (by decide) kw0 (fun _ h9 => h9) rfl dX0_prepare_38 ?_
                refine lv_iload_n hx hb dX0_prepare_41 rfl (lv_at hl 2 rfl) ?_
                refine lv_bipush (v := 16) hx hb dX0_prepare_42 (by decide) ?_
                refine lv_imul hx hb dX0_prepare_44 ?_
                refine lv_iload_n hx hb dX0_prepare_45 rfl (lv_at hl 3 rfl) ?_
                refine lv_iadd hx hb dX0_prepare_46 ?_
                refine lv_aload_n hx hb dX0_prepare_47 rfl (lv_at hl 1 rfl) ?_
                refine lv_iload_n hx hb dX0_prepare_48 rfl (lv_at hl 2 rfl) ?_
                refine lv_iload_n hx hb dX0_prepare_49 rfl (lv_at hl 3 rfl) ?_
                obtain ⟨r_50, hr_50, hf⟩ := bd_some hf
                refine cl_l (wc := [(qb, oB 4 [.ref qb_cells]), (qb_cells, aI cy 24 zb_cells)]) (w1 := [(qb, oB 4 [.ref qb_cells]), (qb_cells, aI cy 24 zb_cells)]) (wr := [(q0, oB 0 [.ref q_ways, .ref q_avoiding, .ref q_rows, .ref q_told, .int z_a, .int z_b]), (q_avoiding, aJ cy 96 z_avoiding_31), (q_rows, aJ cy 112 z_rows_21)]) (w2 := [(q0, oB 0 [.ref q_ways, .ref q_avoiding, .ref q_rows, .ref q_told, .int z_a, .int z_b]), (q_avoiding, aJ cy 96 z_avoiding_31), (q_rows, aJ cy 112 z_rows_21), (qb, oB 4 [.ref qb_cells]), (qb_cells, aI cy 24 zb_cells)]) (va_runS (As := [.ref qb, .int x2_23, .int x3_31]) (rest := [.int ((x2_23 * (16 : Int32)) + x3_31), .ref q_avoiding]) ⟨hx, hb, hml, hown, hts⟩ (ktX0_waysAvoiding l D cy qb qb_cells zb_cells x2_23 x3_31 r_50 hr_50 _) (va_cwS 3 hts gX0_prepare_X0_waysAvoiding rfl rfl rfl (by decide +kernel) ⟨Nat.le_of_ble_eq_true rfl, Nat.le_of_ble_eq_true rfl⟩) (pre_S (wc := [(qb, oB 4 [.ref qb_cells]), (qb_cells, aI cy 24 zb_cells)]) hcx hsx hS hA hP hD [3, 4] rfl (by decide)) rfl rfl hl.1 rfl (lv_room (Nat.le_of_ble_eq_true rfl)) dX0_prepare_50 ⟨Nat.zero_le _, Nat.zero_le _⟩) hP hD hS hA [3, 4] [0, 1, 2] [0, 1, 2, 3, 4] rfl rfl (by decide) (by decide) (by decide) rfl (fun H locs hP hD hS => ?_)
                obtain ⟨hg_53, hf⟩ := gd_some hf
                refine va_last hx hb hK hP hD hS 1 1 rfl rfl hg_53 dX0_prepare_53 (fun H locs hP hD hS => ?_)
                obtain ⟨z_avoiding_53, ez_avoiding_53⟩ : ∃ y : Nat → Int64, y = vp_updL z_avoiding_31 ((x2_23 * (16 : Int32)) + x3_31).toNatClampNeg r_50 := ⟨_, rfl⟩
                have hf := lets_at hf ez_avoiding_53
                rw [← ez_avoiding_53] at hP hD
                have hP : va_P D vwCl [(q0, oB 0 [.ref q_ways, .ref q_avoiding, .ref q_rows, .ref q_told, .int z_a, .int z_b]), (q_avoiding, aJ cy 96 z_avoiding_53), (q_rows, aJ cy 112 z_rows_21), (qb, oB 4 [.ref qb_cells]), (qb_cells, aI cy 24 zb_cells)] H := hP
                have hD : va_D A [(q0, oB 0 [.ref q_ways, .ref q_avoiding, .ref q_rows, .ref q_told, .int z_a, .int z_b]), (q_avoiding, aJ cy 96 z_avoiding_53), (q_rows, aJ cy 112 z_rows_21), (qb, oB 4 [.ref qb_cells]), (qb_cells, aI cy 24 zb_cells)] := hD
                obtain ⟨x3_54, ex3_54⟩ : ∃ y : Int32, y = x3_31 + (1 : Int32) := ⟨_, rfl⟩
                have hf := lets_at hf ex3_54
                refine lv_iinc (v := x3_54) (lv' := [(3, .int x3_54), (0, .ref q0), (1, .ref qb), (2, .int x2_23)]) hx hb dX0_prepare_54 hl (k := 3) rfl (by rw [ex3_54]; rfl) (by decide) rfl (fun ls hl => ?_)
                refine lv_goto (tgt := 31) hx hb dX0_prepare_57 (by decide) ?_
                exact ih31 x3_54 z_avoiding_53 _ _ _ hf hP hD hS (lv_sub hl [1, 2, 3, 0] rfl)
          exact hL31 _ (0 : Int32) z_avoiding_23 _ _ _ hf hP hD hS (lv_sub hl [1, 2, 3, 0] rfl)
    exact hL23 _ (0 : Int32) z_avoiding _ _ _ hf hP hD hS (lv_sub hl [1, 2, 0] rfl)
  have hL2 : ∀ (n : Nat) (x2_2 : Int32) (z_rows_2 : Nat → Int64) (H : Heap) (locs : List Loc) (ls : Array Slot), it2 (X0_prepare_S2 z_avoiding zb_cells) n x2_2 z_rows_2 = some r → va_P D vwCl [(q0, oB 0 [.ref q_ways, .ref q_avoiding, .ref q_rows, .ref q_told, .int z_a, .int z_b]), (q_avoiding, aJ cy 96 z_avoiding), (q_rows, aJ cy 112 z_rows_2), (qb, oB 4 [.ref qb_cells]), (qb_cells, aI cy 24 zb_cells)] H → va_D A [(q0, oB 0 [.ref q_ways, .ref q_avoiding, .ref q_rows, .ref q_told, .int z_a, .int z_b]), (q_avoiding, aJ cy 96 z_avoiding), (q_rows, aJ cy 112 z_rows_2), (qb, oB 4 [.ref qb_cells]), (qb_cells, aI cy 24 zb_cells)] → va_S A s.heap H locs → lv_has ls 4 [(0, .ref q0), (1, .ref qb), (2, .int x2_2)] → W p l e rmX0_prepare s m args below meth c H locs 0 0 Q (F0 m 2 ls []) := by
    intro n
    induction n with
    | zero => intro x2_2 z_rows_2 H locs ls hf; exact absurd hf (by simp [it2])
    | succ n ih2 =>
      intro x2_2 z_rows_2 H locs ls hf hP hD hS hl
      have hf : X0_prepare_S2 z_avoiding zb_cells (it2 (X0_prepare_S2 z_avoiding zb_cells) n) x2_2 z_rows_2 = some r := hf
      generalize it2 (X0_prepare_S2 z_avoiding zb_cells) n = self_2 at hf ih2
      unfold X0_prepare_S2 at hf
      refine lv_iload_n hx hb dX0_prepare_2 rfl (lv_at hl 2 rfl) ?_
      refine lv_bipush (v := 16) hx hb dX0_prepare_3 (by decide) ?_
      refine lv_icmp_ge (tgt := 21) hx hb dX0_prepare_5 (by decide) (fun hc_5 => ?_) (fun hc_5 => ?_)
      · have hf := it_t hf hc_5
        exact hJ21 z_rows_2 _ _ _ hf hP hD hS (lv_sub hl [0, 1] rfl)
      · have hf := it_f hf hc_5
        refine lv_aload_n hx hb dX0_prepare_8 rfl (lv_at hl 0 rfl) ?_
        refine va_get (D := D) (ci := 0) (v := .ref q_rows) (C := RX0) (T := TX0) (N := 6) hx hb hts kc1 hown hK hP 0 rfl rfl 2 (by decide) kw2 (fun _ h9 => h9) rfl dX0_prepare_9 ?_
        refine lv_iload_n hx hb dX0_prepare_12 rfl (lv_at hl 2 rfl) ?_
        refine lv_lconst (v := 1) hx hb dX0_prepare_13 (by decide) ?_
        obtain ⟨hg_14, hf⟩ := gd_some hf
        refine va_last hx hb hK hP hD hS 2 1 rfl rfl hg_14 dX0_prepare_14 (fun H locs hP hD hS => ?_)
        obtain ⟨z_rows_14, ez_rows_14⟩ : ∃ y : Nat → Int64, y = vp_updL z_rows_2 x2_2.toNatClampNeg (1 : Int64) := ⟨_, rfl⟩
        have hf := lets_at hf ez_rows_14
        rw [← ez_rows_14] at hP hD
        have hP : va_P D vwCl [(q0, oB 0 [.ref q_ways, .ref q_avoiding, .ref q_rows, .ref q_told, .int z_a, .int z_b]), (q_avoiding, aJ cy 96 z_avoiding), (q_rows, aJ cy 112 z_rows_14), (qb, oB 4 [.ref qb_cells]), (qb_cells, aI cy 24 zb_cells)] H := hP
        have hD : va_D A [(q0, oB 0 [.ref q_ways, .ref q_avoiding, .ref q_rows, .ref q_told, .int z_a, .int z_b]), (q_avoiding, aJ cy 96 z_avoiding), (q_rows, aJ cy 112 z_rows_14), (qb, oB 4 [.ref qb_cells]), (qb_cells, aI cy 24 zb_cells)] := hD
        obtain ⟨x2_15, ex2_15⟩ : ∃ y : Int32, y = x2_2 + (1 : Int32) := ⟨_, rfl⟩
        have hf := lets_at hf ex2_15
        refine lv_iinc (v := x2_15) (lv' := [(2, .int x2_15), (0, .ref q0), (1, .ref qb)]) hx hb dX0_prepare_15 hl (k := 2) rfl (by rw [ex2_15]; rfl) (by decide) rfl (fun ls hl => ?_)
        refine lv_goto (tgt := 2) hx hb dX0_prepare_18 (by decide) ?_
        exact ih2 x2_15 z_rows_14 _ _ _ hf hP hD hS (lv_sub hl [1, 2, 0] rfl)
  exact hL2 _ (0 : Int32) z_rows _ _ _ hf hP hD hS (lv_sub hl [1, 2, 0] rfl)

def X0_decide_J58 (x1 : Int32) (x3_9 : Int32) (z_rows_9 : Nat → Int64) (self_9 : Int32 → (Nat → Int64) → Option ((Nat → Int64) × (Nat → Int32))) (x4_58 : Int64) : Option ((Nat → Int64) × (Nat → Int32)) := gd (okx ((x1 * (16 : Int32)) + x3_9) 112) (gd (okx (((x1 + (1 : Int32)) * (16 : Int32)) + x3_9) 112) (lets (vp_updL z_rows_9 (((x1 + (1 : Int32)) * (16 : Int32)) + x3_9).toNatClampNeg ((z_rows_9 ((x1 * (16 : Int32)) + x3_9).toNatClampNeg) * x4_58)) (fun z_rows_84 => lets (x3_9 + (1 : Int32)) (fun x3_85 => self_9 x3_85 z_rows_84))))
def X0_decide_J56 (x1 : Int32) (x3_9 : Int32) (z_rows_9 : Nat → Int64) (self_9 : Int32 → (Nat → Int64) → Option ((Nat → Int64) × (Nat → Int32))) (t0_56 : Int64) : Option ((Nat → Int64) × (Nat → Int32)) := X0_decide_J58 x1 x3_9 z_rows_9 self_9 t0_56
def X0_decide_S9 (z_avoiding : Nat → Int64) (x1 : Int32) (x2 : Int32) (z_told_6 : Nat → Int32) (self_9 : Int32 → (Nat → Int64) → Option ((Nat → Int64) × (Nat → Int32))) (x3_9 : Int32) (z_rows_9 : Nat → Int64) : Option ((Nat → Int64) × (Nat → Int32)) := if (16 : Int32) ≤ x3_9 then (some (z_rows_9, z_told_6)) else (gd (okx ((x1 * (16 : Int32)) + x3_9) 96) (lets (z_avoiding ((x1 * (16 : Int32)) + x3_9).toNatClampNeg) (fun x4_26 => if x2 = (9 : Int32) then (X0_decide_J58 x1 x3_9 z_rows_9 self_9 x4_26) else (if ((x3_9 >>> (x2 &&& 31)) &&& (1 : Int32)) = (1 : Int32) then (X0_decide_J56 x1 x3_9 z_rows_9 self_9 (0 : Int64)) else (gd (okx (x1 * (16 : Int32)) 96) (X0_decide_J56 x1 x3_9 z_rows_9 self_9 (z_avoiding (x1 * (16 : Int32)).toNatClampNeg)))))))
def fX0_decide (z_avoiding : Nat → Int64) (z_rows : Nat → Int64) (z_told : Nat → Int32) (x1 : Int32) (x2 : Int32) : Option ((Nat → Int64) × (Nat → Int32)) := gd (okx x1 6) (lets (upd z_told x1.toNatClampNeg x2) (fun z_told_6 => it2 (X0_decide_S9 z_avoiding x1 x2 z_told_6) 100000 (0 : Int32) z_rows))
abbrev rmX0_decide : Room := { frames := 0, cells := 0, slots := 0, locals := 0 }
set_option maxHeartbeats 4000000 in
set_option maxRecDepth 100000 in
theorem ktX0_decide (l : Launch) (D : va_G) (cy : Nat → ClassId) (q0 : Nat) (q_ways : Nat) (q_avoiding : Nat) (q_rows : Nat) (q_told : Nat) (z_a : Int32) (z_b : Int32) (z_avoiding : Nat → Int64) (z_rows : Nat → Int64) (z_told : Nat → Int32) (x1 : Int32) (x2 : Int32) (r : (Nat → Int64) × (Nat → Int32)) (hf : fX0_decide z_avoiding z_rows z_told x1 x2 = some r) : CtV l yX0_decide wsX0_decide rmX0_decide D cy [.ref q0, .int x1, .int x2] [(q0, oB 0 [.ref q_ways, .ref q_avoiding, .ref q_rows, .ref q_told, .int z_a, .int z_b]), (q_avoiding, aJ cy 96 z_avoiding), (q_rows, aJ cy 112 z_rows), (q_told, aI cy 6 z_told)] [(q0, oB 0 [.ref q_ways, .ref q_avoiding, .ref q_rows, .ref q_told, .int z_a, .int z_b]), (q_avoiding, aJ cy 96 z_avoiding), (q_rows, aJ cy 112 r.1), (q_told, aI cy 6 r.2)] := by
  refine Ct_ofV (cc := cX0_decide) (nL := 6) (by decide) rfl (Nat.le_of_ble_eq_true rfl) ?_
  intro p e s m args below meth c A Q hM hret hP hD hS ls hl
  obtain ⟨hx, hb, hml, hown, hts, hcx, hA, hsx⟩ := hM
  have hown : s.vm.findClass RX0 = some m.cls := hown
  have hK := hcx.1
  have hN := hcx.2
  have kw0 := hts (.fieldLink RX0 21 "EachBrings$Chances" "told" "[I") (List.mem_of_getElem? (i := 1) rfl)
  have kc1 : ∀ w ∈ wsX00, w ∈ wsX0_decide := fun _ h => List.mem_cons_of_mem _ (List.mem_append_right _ h)
  have kw2 := hts (.fieldLink RX0 15 "EachBrings$Chances" "avoiding" "[J") (List.mem_of_getElem? (i := 2) rfl)
  have kw3 := hts (.fieldLink RX0 18 "EachBrings$Chances" "rows" "[J") (List.mem_of_getElem? (i := 3) rfl)
  have hl : lv_has ls 6 [(0, .ref q0), (1, .int x1), (2, .int x2)] := hl
  have hret' : ∀ (pc : Nat) (ls : Array Slot) (H : Heap) (locs : List Loc) (w0 : Nat → Int64) (w1 : Nat → Int32), decode cX0_decide pc = .ok (.return_, 1) → some (w0, w1) = some r → va_P D vwCl [(q0, oB 0 [.ref q_ways, .ref q_avoiding, .ref q_rows, .ref q_told, .int z_a, .int z_b]), (q_avoiding, aJ cy 96 z_avoiding), (q_rows, aJ cy 112 w0), (q_told, aI cy 6 w1)] H → va_D A [(q0, oB 0 [.ref q_ways, .ref q_avoiding, .ref q_rows, .ref q_told, .int z_a, .int z_b]), (q_avoiding, aJ cy 96 z_avoiding), (q_rows, aJ cy 112 w0), (q_told, aI cy 6 w1)] → va_S A s.heap H locs → W p l e rmX0_decide s m args below meth c H locs 0 0 Q (F0 m pc ls []) := by
    intro pc ls H locs w0 w1 hd he hP hD hS
    cases he
    exact hret _ _ _ _ hd hP hD hS
  unfold fX0_decide at hf
  refine lv_aload_n hx hb dX0_decide_0 rfl (lv_at hl 0 rfl) ?_
  refine va_get (D := D) (ci := 0) (v := .ref q_told) (C := RX0) (T := TX0) (N := 6) hx hb hts kc1 hown hK hP 0 rfl rfl 3 (by decide) kw0 (fun _ h9 => h9) rfl dX0_decide_1 ?_
  refine lv_iload_n hx hb dX0_decide_4 rfl (lv_at hl 1 rfl) ?_
  refine lv_iload_n hx hb dX0_decide_5 rfl (lv_at hl 2 rfl) ?_
  obtain ⟨hg_6, hf⟩ := gd_some hf
  refine va_iast hx hb hK hP hD hS 3 0 rfl rfl hg_6 dX0_decide_6 (fun H locs hP hD hS => ?_)
  obtain ⟨z_told_6, ez_told_6⟩ : ∃ y : Nat → Int32, y = upd z_told x1.toNatClampNeg x2 := ⟨_, rfl⟩
  have hf := lets_at hf ez_told_6
  rw [← ez_told_6] at hP hD
  have hP : va_P D vwCl [(q0, oB 0 [.ref q_ways, .ref q_avoiding, .ref q_rows, .ref q_told, .int z_a, .int z_b]), (q_avoiding, aJ cy 96 z_avoiding), (q_rows, aJ cy 112 z_rows), (q_told, aI cy 6 z_told_6)] H := hP
  have hD : va_D A [(q0, oB 0 [.ref q_ways, .ref q_avoiding, .ref q_rows, .ref q_told, .int z_a, .int z_b]), (q_avoiding, aJ cy 96 z_avoiding), (q_rows, aJ cy 112 z_rows), (q_told, aI cy 6 z_told_6)] := hD
  refine lv_iconst (v := 0) hx hb dX0_decide_7 (by decide) ?_
  refine lv_istore_n (lv' := [(3, .int (0 : Int32)), (0, .ref q0), (1, .int x1), (2, .int x2)]) hx hb dX0_decide_8 rfl hl (by decide) rfl (fun ls hl => ?_)
  have hL9 : ∀ (n : Nat) (x3_9 : Int32) (z_rows_9 : Nat → Int64) (H : Heap) (locs : List Loc) (ls : Array Slot), it2 (X0_decide_S9 z_avoiding x1 x2 z_told_6) n x3_9 z_rows_9 = some r → va_P D vwCl [(q0, oB 0 [.ref q_ways, .ref q_avoiding, .ref q_rows, .ref q_told, .int z_a, .int z_b]), (q_avoiding, aJ cy 96 z_avoiding), (q_rows, aJ cy 112 z_rows_9), (q_told, aI cy 6 z_told_6)] H → va_D A [(q0, oB 0 [.ref q_ways, .ref q_avoiding, .ref q_rows, .ref q_told, .int z_a, .int z_b]), (q_avoiding, aJ cy 96 z_avoiding), (q_rows, aJ cy 112 z_rows_9), (q_told, aI cy 6 z_told_6)] → va_S A s.heap H locs → lv_has ls 6 [(0, .ref q0), (1, .int x1), (2, .int x2), (3, .int x3_9)] → W p l e rmX0_decide s m args below meth c H locs 0 0 Q (F0 m 9 ls []) := by
    intro n
    induction n with
    | zero => intro x3_9 z_rows_9 H locs ls hf; exact absurd hf (by simp [it2])
    | succ n ih9 =>
      intro x3_9 z_rows_9 H locs ls hf hP hD hS hl
      have hf : X0_decide_S9 z_avoiding x1 x2 z_told_6 (it2 (X0_decide_S9 z_avoiding x1 x2 z_told_6) n) x3_9 z_rows_9 = some r := hf
      generalize it2 (X0_decide_S9 z_avoiding x1 x2 z_told_6) n = self_9 at hf ih9
      unfold X0_decide_S9 at hf
      refine lv_iload_n hx hb dX0_decide_9 rfl (lv_at hl 3 rfl) ?_
      refine lv_bipush (v := 16) hx hb dX0_decide_10 (by decide) ?_
      refine lv_icmp_ge (tgt := 91) hx hb dX0_decide_12 (by decide) (fun hc_12 => ?_) (fun hc_12 => ?_)
      · have hf := it_t hf hc_12
        exact hret' _ _ _ _ _ _ dX0_decide_91 hf hP hD hS
      · have hf := it_f hf hc_12
        refine lv_aload_n hx hb dX0_decide_15 rfl (lv_at hl 0 rfl) ?_
        refine va_get (D := D) (ci := 0) (v := .ref q_avoiding) (C := RX0) (T := TX0) (N := 6) hx hb hts kc1 hown hK hP 0 rfl rfl 1 (by decide) kw2 (fun _ h9 => h9) rfl dX0_decide_16 ?_
        refine lv_iload_n hx hb dX0_decide_19 rfl (lv_at hl 1 rfl) ?_
        refine lv_bipush (v := 16) hx hb dX0_decide_20 (by decide) ?_
        refine lv_imul hx hb dX0_decide_22 ?_
        refine lv_iload_n hx hb dX0_decide_23 rfl (lv_at hl 3 rfl) ?_
        refine lv_iadd hx hb dX0_decide_24 ?_
        obtain ⟨hg_25, hf⟩ := gd_some hf
        refine va_lald hx hb hK hP 1 1 rfl rfl hg_25 dX0_decide_25 ?_
        refine lv_topl (fun x4_26 ex4_26 => ?_)
        have hf := lets_at hf ex4_26
        refine lv_lstore (lv' := [(4, .long x4_26), (0, .ref q0), (1, .int x1), (2, .int x2), (3, .int x3_9)]) hx hb dX0_decide_26 hl (by decide) rfl (fun ls hl => ?_)
        refine lv_iload_n hx hb dX0_decide_28 rfl (lv_at hl 3 rfl) ?_
        refine lv_bipush (v := 9) hx hb dX0_decide_29 (by decide) ?_
        have hJ58 : ∀ (x4_58 : Int64) (H : Heap) (locs : List Loc) (ls : Array Slot), X0_decide_J58 x1 x3_9 z_rows_9 self_9 x4_58 = some r → va_P D vwCl [(q0, oB 0 [.ref q_ways, .ref q_avoiding, .ref q_rows, .ref q_told, .int z_a, .int z_b]), (q_avoiding, aJ cy 96 z_avoiding), (q_rows, aJ cy 112 z_rows_9), (q_told, aI cy 6 z_told_6)] H → va_D A [(q0, oB 0 [.ref q_ways, .ref q_avoiding, .ref q_rows, .ref q_told, .int z_a, .int z_b]), (q_avoiding, aJ cy 96 z_avoiding), (q_rows, aJ cy 112 z_rows_9), (q_told, aI cy 6 z_told_6)] → va_S A s.heap H locs → lv_has ls 6 [(0, .ref q0), (1, .int x1), (2, .int x2), (3, .int x3_9), (4, .long x4_58)] → W p l e rmX0_decide s m args below meth c H locs 0 0 Q (F0 m 58 ls []) := by
          intro x4_58 H locs ls hf hP hD hS hl
          unfold X0_decide_J58 at hf
          refine lv_aload_n hx hb dX0_decide_58 rfl (lv_at hl 0 rfl) ?_
          refine va_get (D := D) (ci := 0) (v := .ref q_rows) (C := RX0) (T := TX0) (N := 6) hx hb hts kc1 hown hK hP 0 rfl rfl 2 (by decide) kw3 (fun _ h9 => h9) rfl dX0_decide_59 ?_
          refine lv_iload_n hx hb dX0_decide_62 rfl (lv_at hl 1 rfl) ?_
          refine lv_iconst (v := 1) hx hb dX0_decide_63 (by decide) ?_
          refine lv_iadd hx hb dX0_decide_64 ?_
          refine lv_bipush (v := 16) hx hb dX0_decide_65 (by decide) ?_
          refine lv_imul hx hb dX0_decide_67 ?_
          refine lv_iload_n hx hb dX0_decide_68 rfl (lv_at hl 3 rfl) ?_
          refine lv_iadd hx hb dX0_decide_69 ?_
          refine lv_aload_n hx hb dX0_decide_70 rfl (lv_at hl 0 rfl) ?_
          refine va_get (D := D) (ci := 0) (v := .ref q_rows) (C := RX0) (T := TX0) (N := 6) hx hb hts kc1 hown hK hP 0 rfl rfl 2 (by decide) kw3 (fun _ h9 => h9) rfl dX0_decide_71 ?_
          refine lv_iload_n hx hb dX0_decide_74 rfl (lv_at hl 1 rfl) ?_
          refine lv_bipush (v := 16) hx hb dX0_decide_75 (by decide) ?_
          refine lv_imul hx hb dX0_decide_77 ?_
          refine lv_iload_n hx hb dX0_decide_78 rfl (lv_at hl 3 rfl) ?_
          refine lv_iadd hx hb dX0_decide_79 ?_
          obtain ⟨hg_80, hf⟩ := gd_some hf
          refine va_lald hx hb hK hP 2 1 rfl rfl hg_80 dX0_decide_80 ?_
          refine lv_lload hx hb dX0_decide_81 (lv_at hl 4 rfl) ?_
          refine lv_lmul hx hb dX0_decide_83 ?_
          obtain ⟨hg_84, hf⟩ := gd_some hf
          refine va_last hx hb hK hP hD hS 2 1 rfl rfl hg_84 dX0_decide_84 (fun H locs hP hD hS => ?_)
          obtain ⟨z_rows_84, ez_rows_84⟩ : ∃ y : Nat → Int64, y = vp_updL z_rows_9 (((x1 + (1 : Int32)) * (16 : Int32)) + x3_9).toNatClampNeg ((z_rows_9 ((x1 * (16 : Int32)) + x3_9).toNatClampNeg) * x4_58) := ⟨_, rfl⟩
          have hf := lets_at hf ez_rows_84
          rw [← ez_rows_84] at hP hD
          have hP : va_P D vwCl [(q0, oB 0 [.ref q_ways, .ref q_avoiding, .ref q_rows, .ref q_told, .int z_a, .int z_b]), (q_avoiding, aJ cy 96 z_avoiding), (q_rows, aJ cy 112 z_rows_84), (q_told, aI cy 6 z_told_6)] H := hP
          have hD : va_D A [(q0, oB 0 [.ref q_ways, .ref q_avoiding, .ref q_rows, .ref q_told, .int z_a, .int z_b]), (q_avoiding, aJ cy 96 z_avoiding), (q_rows, aJ cy 112 z_rows_84), (q_told, aI cy 6 z_told_6)] := hD
          obtain ⟨x3_85, ex3_85⟩ : ∃ y : Int32, y = x3_9 + (1 : Int32) := ⟨_, rfl⟩
          have hf := lets_at hf ex3_85
          refine lv_iinc (v := x3_85) (lv' := [(3, .int x3_85), (0, .ref q0), (1, .int x1), (2, .int x2), (4, .long x4_58)]) hx hb dX0_decide_85 hl (k := 3) rfl (by rw [ex3_85]; rfl) (by decide) rfl (fun ls hl => ?_)
          refine lv_goto (tgt := 9) hx hb dX0_decide_88 (by decide) ?_
          exact ih9 x3_85 z_rows_84 _ _ _ hf hP hD hS (lv_sub hl [1, 2, 3, 0] rfl)
        refine lv_icmp_eq (tgt := 58) hx hb dX0_decide_31 (by decide) (fun hc_31 => ?_) (fun hc_31 => ?_)
        · have hf := it_t hf hc_31
          exact hJ58 x4_26 _ _ _ hf hP hD hS (lv_sub hl [1, 2, 3, 4, 0] rfl)
        · have hf := it_f hf hc_31
          refine lv_iload_n hx hb dX0_decide_34 rfl (lv_at hl 4 rfl) ?_
          refine lv_iload_n hx hb dX0_decide_35 rfl (lv_at hl 3 rfl) ?_
          refine lv_ishr hx hb dX0_decide_36 ?_
          refine lv_iconst (v := 1) hx hb dX0_decide_37 (by decide) ?_
          refine lv_iand hx hb dX0_decide_38 ?_
          refine lv_iconst (v := 1) hx hb dX0_decide_39 (by decide) ?_
          have hJ56 : ∀ (t0_56 : Int64) (H : Heap) (locs : List Loc) (ls : Array Slot), X0_decide_J56 x1 x3_9 z_rows_9 self_9 t0_56 = some r → va_P D vwCl [(q0, oB 0 [.ref q_ways, .ref q_avoiding, .ref q_rows, .ref q_told, .int z_a, .int z_b]), (q_avoiding, aJ cy 96 z_avoiding), (q_rows, aJ cy 112 z_rows_9), (q_told, aI cy 6 z_told_6)] H → va_D A [(q0, oB 0 [.ref q_ways, .ref q_avoiding, .ref q_rows, .ref q_told, .int z_a, .int z_b]), (q_avoiding, aJ cy 96 z_avoiding), (q_rows, aJ cy 112 z_rows_9), (q_told, aI cy 6 z_told_6)] → va_S A s.heap H locs → lv_has ls 6 [(0, .ref q0), (1, .int x1), (2, .int x2), (3, .int x3_9)] → W p l e rmX0_decide s m args below meth c H locs 0 0 Q (F0 m 56 ls [.long t0_56]) := by
            intro t0_56 H locs ls hf hP hD hS hl
            unfold X0_decide_J56 at hf
            refine lv_lstore (lv' := [(4, .long t0_56), (0, .ref q0), (1, .int x1), (2, .int x2), (3, .int x3_9)]) hx hb dX0_decide_56 hl (by decide) rfl (fun ls hl => ?_)
            exact hJ58 t0_56 _ _ _ hf hP hD hS (lv_sub hl [1, 2, 3, 4, 0] rfl)
          refine lv_icmp_ne (tgt := 47) hx hb dX0_decide_40 (by decide) (fun hc_40 => ?_) (fun hc_40 => ?_)
          · have hf := it_f hf hc_40
            refine lv_aload_n hx hb dX0_decide_47 rfl (lv_at hl 1 rfl) ?_
            refine va_get (D := D) (ci := 0) (v := .ref q_avoiding) (C := RX0) (T := TX0) (N := 6) hx hb hts kc1 hown hK hP 0 rfl rfl 1 (by decide) kw2 (fun _ h9 => h9) rfl dX0_decide_48 ?_
            refine lv_iload_n hx hb dX0_decide_51 rfl (lv_at hl 2 rfl) ?_
            refine lv_bipush (v := 16) hx hb dX0_decide_52 (by decide) ?_
            refine lv_imul hx hb dX0_decide_54 ?_
            obtain ⟨hg_55, hf⟩ := gd_some hf
            refine va_lald hx hb hK hP 1 1 rfl rfl hg_55 dX0_decide_55 ?_
            exact hJ56 (z_avoiding (x1 * (16 : Int32)).toNatClampNeg) _ _ _ hf hP hD hS (lv_sub hl [1, 2, 3, 4] rfl)
          · have hf := it_t hf hc_40
            refine lv_lconst (v := 0) hx hb dX0_decide_43 (by decide) ?_
            refine lv_goto (tgt := 56) hx hb dX0_decide_44 (by decide) ?_
            exact hJ56 (0 : Int64) _ _ _ hf hP hD hS (lv_sub hl [1, 2, 3, 4] rfl)
  exact hL9 _ (0 : Int32) z_rows _ _ _ hf hP hD hS (lv_sub hl [1, 2, 3, 0] rfl)

def X0_leaveAllFree_S7 (r_2 : (Nat → Int64) × (Nat → Int64)) (self_7 : Int32 → (Nat → Int64) → (Nat → Int32) → Option ((Nat → Int64) × (Nat → Int64) × (Nat → Int32))) (x2_7 : Int32) (z_rows_7 : Nat → Int64) (z_told_7 : Nat → Int32) : Option ((Nat → Int64) × (Nat → Int64) × (Nat → Int32)) := if (6 : Int32) ≤ x2_7 then (some (r_2.1, z_rows_7, z_told_7)) else ((fX0_decide r_2.1 z_rows_7 z_told_7 x2_7 (9 : Int32)).bind (fun r_17 => lets (x2_7 + (1 : Int32)) (fun x2_20 => self_7 x2_20 r_17.1 r_17.2)))
def fX0_leaveAllFree (z_avoiding : Nat → Int64) (z_rows : Nat → Int64) (z_told : Nat → Int32) (zb_cells : Nat → Int32) : Option ((Nat → Int64) × (Nat → Int64) × (Nat → Int32)) := (fX0_prepare z_avoiding z_rows zb_cells).bind (fun r_2 => it3 (X0_leaveAllFree_S7 r_2) 100000 (0 : Int32) r_2.2 z_told)
abbrev rmX0_leaveAllFree : Room := { frames := 4, cells := 0, slots := 0, locals := 93 }
set_option maxHeartbeats 4000000 in
set_option maxRecDepth 100000 in
theorem ktX0_leaveAllFree (l : Launch) (D : va_G) (cy : Nat → ClassId) (q0 : Nat) (q_ways : Nat) (q_avoiding : Nat) (q_rows : Nat) (q_told : Nat) (qb : Nat) (qb_cells : Nat) (z_a : Int32) (z_b : Int32) (z_avoiding : Nat → Int64) (z_rows : Nat → Int64) (z_told : Nat → Int32) (zb_cells : Nat → Int32) (r : (Nat → Int64) × (Nat → Int64) × (Nat → Int32)) (hf : fX0_leaveAllFree z_avoiding z_rows z_told zb_cells = some r) : CtV l yX0_leaveAllFree wsX0_leaveAllFree rmX0_leaveAllFree D cy [.ref q0, .ref qb] [(q0, oB 0 [.ref q_ways, .ref q_avoiding, .ref q_rows, .ref q_told, .int z_a, .int z_b]), (q_avoiding, aJ cy 96 z_avoiding), (q_rows, aJ cy 112 z_rows), (q_told, aI cy 6 z_told), (qb, oB 4 [.ref qb_cells]), (qb_cells, aI cy 24 zb_cells)] [(q0, oB 0 [.ref q_ways, .ref q_avoiding, .ref q_rows, .ref q_told, .int z_a, .int z_b]), (q_avoiding, aJ cy 96 r.1), (q_rows, aJ cy 112 r.2.1), (q_told, aI cy 6 r.2.2), (qb, oB 4 [.ref qb_cells]), (qb_cells, aI cy 24 zb_cells)] := by
  refine Ct_ofV (cc := cX0_leaveAllFree) (nL := 3) (by decide) rfl (Nat.le_of_ble_eq_true rfl) ?_
  intro p e s m args below meth c A Q hM hret hP hD hS ls hl
  obtain ⟨hx, hb, hml, hown, hts, hcx, hA, hsx⟩ := hM
  have hown : s.vm.findClass RX0 = some m.cls := hown
  have hK := hcx.1
  have hN := hcx.2
  have hl : lv_has ls 3 [(0, .ref q0), (1, .ref qb)] := hl
  have hret' : ∀ (pc : Nat) (ls : Array Slot) (H : Heap) (locs : List Loc) (w0 : Nat → Int64) (w1 : Nat → Int64) (w2 : Nat → Int32), decode cX0_leaveAllFree pc = .ok (.return_, 1) → some (w0, w1, w2) = some r → va_P D vwCl [(q0, oB 0 [.ref q_ways, .ref q_avoiding, .ref q_rows, .ref q_told, .int z_a, .int z_b]), (q_avoiding, aJ cy 96 w0), (q_rows, aJ cy 112 w1), (q_told, aI cy 6 w2), (qb, oB 4 [.ref qb_cells]), (qb_cells, aI cy 24 zb_cells)] H → va_D A [(q0, oB 0 [.ref q_ways, .ref q_avoiding, .ref q_rows, .ref q_told, .int z_a, .int z_b]), (q_avoiding, aJ cy 96 w0), (q_rows, aJ cy 112 w1), (q_told, aI cy 6 w2), (qb, oB 4 [.ref qb_cells]), (qb_cells, aI cy 24 zb_cells)] → va_S A s.heap H locs → W p l e rmX0_leaveAllFree s m args below meth c H locs 0 0 Q (F0 m pc ls []) := by
    intro pc ls H locs w0 w1 w2 hd he hP hD hS
    cases he
    exact hret _ _ _ _ hd hP hD hS
  unfold fX0_leaveAllFree at hf
  refine lv_aload_n hx hb dX0_leaveAllFree_0 rfl (lv_at hl 0 rfl) ?_
  refine lv_aload_n hx hb dX0_leaveAllFree_1 rfl (lv_at hl 1 rfl) ?_
  obtain ⟨r_2, hr_2, hf⟩ := bd_some hf
  refine cl_v (wc := [(q0, oB 0 [.ref q_ways, .ref q_avoiding, .ref q_rows, .ref q_told, .int z_a, .int z_b]), (q_avoiding, aJ cy 96 z_avoiding), (q_rows, aJ cy 112 z_rows), (qb, oB 4 [.ref qb_cells]), (qb_cells, aI cy 24 zb_cells)]) (w1 := [(q0, oB 0 [.ref q_ways, .ref q_avoiding, .ref q_rows, .ref q_told, .int z_a, .int z_b]), (q_avoiding, aJ cy 96 r_2.1), (q_rows, aJ cy 112 r_2.2), (qb, oB 4 [.ref qb_cells]), (qb_cells, aI cy 24 zb_cells)]) (wr := [(q_told, aI cy 6 z_told)]) (w2 := [(q0, oB 0 [.ref q_ways, .ref q_avoiding, .ref q_rows, .ref q_told, .int z_a, .int z_b]), (q_avoiding, aJ cy 96 r_2.1), (q_rows, aJ cy 112 r_2.2), (q_told, aI cy 6 z_told), (qb, oB 4 [.ref qb_cells]), (qb_cells, aI cy 24 zb_cells)]) (va_runV (As := [.ref qb]) (rest := []) ⟨hx, hb, hml, hown, hts⟩ (ktX0_prepare l D cy q0 q_ways q_avoiding q_rows q_told qb qb_cells z_a z_b z_avoiding z_rows zb_cells r_2 hr_2 _) (cwV 1 hts gX0_leaveAllFree_X0_prepare rfl rfl rfl (by decide +kernel) ⟨Nat.le_of_ble_eq_true rfl, Nat.le_of_ble_eq_true rfl⟩) (pre_V (wc := [(q0, oB 0 [.ref q_ways, .ref q_avoiding, .ref q_rows, .ref q_told, .int z_a, .int z_b]), (q_avoiding, aJ cy 96 z_avoiding), (q_rows, aJ cy 112 z_rows), (qb, oB 4 [.ref qb_cells]), (qb_cells, aI cy 24 zb_cells)]) (ci := 0) hcx hsx hS hA hP hD [0, 1, 2, 4, 5] rfl (by decide) rfl rfl) rfl rfl hl.1 rfl (lv_room (Nat.le_of_ble_eq_true rfl)) dX0_leaveAllFree_2 ⟨Nat.zero_le _, Nat.zero_le _⟩) hP hD hS hA [0, 1, 2, 4, 5] [3] [1, 2, 3, 0, 4, 5] rfl rfl (by decide) (by decide) (by decide) rfl (fun H locs hP hD hS => ?_)
  refine lv_iconst (v := 0) hx hb dX0_leaveAllFree_5 (by decide) ?_
  refine lv_istore_n (lv' := [(2, .int (0 : Int32)), (0, .ref q0), (1, .ref qb)]) hx hb dX0_leaveAllFree_6 rfl hl (by decide) rfl (fun ls hl => ?_)
  have hL7 : ∀ (n : Nat) (x2_7 : Int32) (z_rows_7 : Nat → Int64) (z_told_7 : Nat → Int32) (H : Heap) (locs : List Loc) (ls : Array Slot), it3 (X0_leaveAllFree_S7 r_2) n x2_7 z_rows_7 z_told_7 = some r → va_P D vwCl [(q0, oB 0 [.ref q_ways, .ref q_avoiding, .ref q_rows, .ref q_told, .int z_a, .int z_b]), (q_avoiding, aJ cy 96 r_2.1), (q_rows, aJ cy 112 z_rows_7), (q_told, aI cy 6 z_told_7), (qb, oB 4 [.ref qb_cells]), (qb_cells, aI cy 24 zb_cells)] H → va_D A [(q0, oB 0 [.ref q_ways, .ref q_avoiding, .ref q_rows, .ref q_told, .int z_a, .int z_b]), (q_avoiding, aJ cy 96 r_2.1), (q_rows, aJ cy 112 z_rows_7), (q_told, aI cy 6 z_told_7), (qb, oB 4 [.ref qb_cells]), (qb_cells, aI cy 24 zb_cells)] → va_S A s.heap H locs → lv_has ls 3 [(0, .ref q0), (2, .int x2_7)] → W p l e rmX0_leaveAllFree s m args below meth c H locs 0 0 Q (F0 m 7 ls []) := by
    intro n
    induction n with
    | zero => intro x2_7 z_rows_7 z_told_7 H locs ls hf; exact absurd hf (by simp [it3])
    | succ n ih7 =>
      intro x2_7 z_rows_7 z_told_7 H locs ls hf hP hD hS hl
      have hf : X0_leaveAllFree_S7 r_2 (it3 (X0_leaveAllFree_S7 r_2) n) x2_7 z_rows_7 z_told_7 = some r := hf
      generalize it3 (X0_leaveAllFree_S7 r_2) n = self_7 at hf ih7
      unfold X0_leaveAllFree_S7 at hf
      refine lv_iload_n hx hb dX0_leaveAllFree_7 rfl (lv_at hl 1 rfl) ?_
      refine lv_bipush (v := 6) hx hb dX0_leaveAllFree_8 (by decide) ?_
      refine lv_icmp_ge (tgt := 26) hx hb dX0_leaveAllFree_10 (by decide) (fun hc_10 => ?_) (fun hc_10 => ?_)
      · have hf := it_t hf hc_10
        exact hret' _ _ _ _ _ _ _ dX0_leaveAllFree_26 hf hP hD hS
      · have hf := it_f hf hc_10
        refine lv_aload_n hx hb dX0_leaveAllFree_13 rfl (lv_at hl 0 rfl) ?_
        refine lv_iload_n hx hb dX0_leaveAllFree_14 rfl (lv_at hl 1 rfl) ?_
        refine lv_bipush (v := 9) hx hb dX0_leaveAllFree_15 (by decide) ?_
        obtain ⟨r_17, hr_17, hf⟩ := bd_some hf
        refine cl_v (wc := [(q0, oB 0 [.ref q_ways, .ref q_avoiding, .ref q_rows, .ref q_told, .int z_a, .int z_b]), (q_avoiding, aJ cy 96 r_2.1), (q_rows, aJ cy 112 z_rows_7), (q_told, aI cy 6 z_told_7)]) (w1 := [(q0, oB 0 [.ref q_ways, .ref q_avoiding, .ref q_rows, .ref q_told, .int z_a, .int z_b]), (q_avoiding, aJ cy 96 r_2.1), (q_rows, aJ cy 112 r_17.1), (q_told, aI cy 6 r_17.2)]) (wr := [(qb, oB 4 [.ref qb_cells]), (qb_cells, aI cy 24 zb_cells)]) (w2 := [(q0, oB 0 [.ref q_ways, .ref q_avoiding, .ref q_rows, .ref q_told, .int z_a, .int z_b]), (q_avoiding, aJ cy 96 r_2.1), (q_rows, aJ cy 112 r_17.1), (q_told, aI cy 6 r_17.2), (qb, oB 4 [.ref qb_cells]), (qb_cells, aI cy 24 zb_cells)]) (va_runV (As := [.int x2_7, .int (9 : Int32)]) (rest := []) ⟨hx, hb, hml, hown, hts⟩ (ktX0_decide l D cy q0 q_ways q_avoiding q_rows q_told z_a z_b r_2.1 z_rows_7 z_told_7 x2_7 (9 : Int32) r_17 hr_17 _) (cwV 2 hts gX0_leaveAllFree_X0_decide rfl rfl rfl (by decide +kernel) ⟨Nat.le_of_ble_eq_true rfl, Nat.le_of_ble_eq_true rfl⟩) (pre_V (wc := [(q0, oB 0 [.ref q_ways, .ref q_avoiding, .ref q_rows, .ref q_told, .int z_a, .int z_b]), (q_avoiding, aJ cy 96 r_2.1), (q_rows, aJ cy 112 z_rows_7), (q_told, aI cy 6 z_told_7)]) (ci := 0) hcx hsx hS hA hP hD [0, 1, 2, 3] rfl (by decide) rfl rfl) rfl rfl hl.1 rfl (lv_room (Nat.le_of_ble_eq_true rfl)) dX0_leaveAllFree_17 ⟨Nat.zero_le _, Nat.zero_le _⟩) hP hD hS hA [0, 1, 2, 3] [4, 5] [2, 3, 4, 5, 0, 1] rfl rfl (by decide) (by decide) (by decide) rfl (fun H locs hP hD hS => ?_)
        obtain ⟨x2_20, ex2_20⟩ : ∃ y : Int32, y = x2_7 + (1 : Int32) := ⟨_, rfl⟩
        have hf := lets_at hf ex2_20
        refine lv_iinc (v := x2_20) (lv' := [(2, .int x2_20), (0, .ref q0)]) hx hb dX0_leaveAllFree_20 hl (k := 1) rfl (by rw [ex2_20]; rfl) (by decide) rfl (fun ls hl => ?_)
        refine lv_goto (tgt := 7) hx hb dX0_leaveAllFree_23 (by decide) ?_
        exact ih7 x2_20 r_17.1 r_17.2 _ _ _ hf hP hD hS (lv_sub hl [1, 0] rfl)
  exact hL7 _ (0 : Int32) r_2.2 z_told _ _ _ hf hP hD hS (lv_sub hl [1, 0] rfl)

def X0_waysToAll_J39 (x1_4 : Int64) (x3_4 : Int32) (self_4 : Int64 → Int32 → Option Int64) (t1_39 : Int64) : Option Int64 := lets (x1_4 + t1_39) (fun x1_40 => lets (x3_4 + (1 : Int32)) (fun x3_41 => self_4 x1_40 x3_41))
def X0_waysToAll_S4 (z_rows : Nat → Int64) (self_4 : Int64 → Int32 → Option Int64) (x1_4 : Int64) (x3_4 : Int32) : Option Int64 := if (16 : Int32) ≤ x3_4 then (some x1_4) else (gd (okx ((96 : Int32) + x3_4) 112) (lets (z_rows ((96 : Int32) + x3_4).toNatClampNeg) (fun x4_19 => (fJ6_bitCount_0f7a4 x3_4).bind (fun r_23 => if (r_23 - r_23 / (2 : Int32) * (2 : Int32)) = 0 then (X0_waysToAll_J39 x1_4 x3_4 self_4 x4_19) else (X0_waysToAll_J39 x1_4 x3_4 self_4 (-x4_19))))))
def fX0_waysToAll (z_rows : Nat → Int64) : Option Int64 := it2 (X0_waysToAll_S4 z_rows) 100000 (0 : Int64) (0 : Int32)
abbrev rmX0_waysToAll : Room := { frames := 1, cells := 0, slots := 0, locals := 20 }
set_option maxHeartbeats 4000000 in
set_option maxRecDepth 100000 in
theorem ktX0_waysToAll (l : Launch) (D : va_G) (cy : Nat → ClassId) (q0 : Nat) (q_ways : Nat) (q_avoiding : Nat) (q_rows : Nat) (q_told : Nat) (z_a : Int32) (z_b : Int32) (z_rows : Nat → Int64) (r : Int64) (hf : fX0_waysToAll z_rows = some r) : CtL l yX0_waysToAll wsX0_waysToAll rmX0_waysToAll D cy [.ref q0] [(q0, oB 0 [.ref q_ways, .ref q_avoiding, .ref q_rows, .ref q_told, .int z_a, .int z_b]), (q_rows, aJ cy 112 z_rows)] [(q0, oB 0 [.ref q_ways, .ref q_avoiding, .ref q_rows, .ref q_told, .int z_a, .int z_b]), (q_rows, aJ cy 112 z_rows)] r := by
  refine Ct_ofL (cc := cX0_waysToAll) (nL := 6) (by decide) rfl (Nat.le_of_ble_eq_true rfl) ?_
  intro p e s m args below meth c A Q hM hret hP hD hS ls hl
  obtain ⟨hx, hb, hml, hown, hts, hcx, hA, hsx⟩ := hM
  have hown : s.vm.findClass RX0 = some m.cls := hown
  have hK := hcx.1
  have hN := hcx.2
  have kw0 := hts (.fieldLink RX0 18 "EachBrings$Chances" "rows" "[J") (List.mem_of_getElem? (i := 1) rfl)
  have kc1 : ∀ w ∈ wsX00, w ∈ wsX0_waysToAll := fun _ h => List.mem_cons_of_mem _ (List.mem_append_right _ h)
  have hl : lv_has ls 6 [(0, .ref q0)] := hl
  have hret' : ∀ (pc : Nat) (ls : Array Slot) (H : Heap) (locs : List Loc) (v : Int64), decode cX0_waysToAll pc = .ok (.lreturn, 1) → some v = some r → va_P D vwCl [(q0, oB 0 [.ref q_ways, .ref q_avoiding, .ref q_rows, .ref q_told, .int z_a, .int z_b]), (q_rows, aJ cy 112 z_rows)] H → va_D A [(q0, oB 0 [.ref q_ways, .ref q_avoiding, .ref q_rows, .ref q_told, .int z_a, .int z_b]), (q_rows, aJ cy 112 z_rows)] → va_S A s.heap H locs → W p l e rmX0_waysToAll s m args below meth c H locs 0 0 Q (F0 m pc ls [.long v]) := by
    intro pc ls H locs v hd he hP hD hS
    cases he
    exact hret _ _ _ _ _ hd rfl hP hD hS
  unfold fX0_waysToAll at hf
  refine lv_lconst (v := 0) hx hb dX0_waysToAll_0 (by decide) ?_
  refine lv_lstore_n (lv' := [(1, .long (0 : Int64)), (0, .ref q0)]) hx hb dX0_waysToAll_1 rfl hl (by decide) rfl (fun ls hl => ?_)
  refine lv_iconst (v := 0) hx hb dX0_waysToAll_2 (by decide) ?_
  refine lv_istore_n (lv' := [(3, .int (0 : Int32)), (1, .long (0 : Int64)), (0, .ref q0)]) hx hb dX0_waysToAll_3 rfl hl (by decide) rfl (fun ls hl => ?_)
  have hL4 : ∀ (n : Nat) (x1_4 : Int64) (x3_4 : Int32) (H : Heap) (locs : List Loc) (ls : Array Slot), it2 (X0_waysToAll_S4 z_rows) n x1_4 x3_4 = some r → va_P D vwCl [(q0, oB 0 [.ref q_ways, .ref q_avoiding, .ref q_rows, .ref q_told, .int z_a, .int z_b]), (q_rows, aJ cy 112 z_rows)] H → va_D A [(q0, oB 0 [.ref q_ways, .ref q_avoiding, .ref q_rows, .ref q_told, .int z_a, .int z_b]), (q_rows, aJ cy 112 z_rows)] → va_S A s.heap H locs → lv_has ls 6 [(0, .ref q0), (1, .long x1_4), (3, .int x3_4)] → W p l e rmX0_waysToAll s m args below meth c H locs 0 0 Q (F0 m 4 ls []) := by
    intro n
    induction n with
    | zero => intro x1_4 x3_4 H locs ls hf; exact absurd hf (by simp [it2])
    | succ n ih4 =>
      intro x1_4 x3_4 H locs ls hf hP hD hS hl
      have hf : X0_waysToAll_S4 z_rows (it2 (X0_waysToAll_S4 z_rows) n) x1_4 x3_4 = some r := hf
      generalize it2 (X0_waysToAll_S4 z_rows) n = self_4 at hf ih4
      unfold X0_waysToAll_S4 at hf
      refine lv_iload_n hx hb dX0_waysToAll_4 rfl (lv_at hl 2 rfl) ?_
      refine lv_bipush (v := 16) hx hb dX0_waysToAll_5 (by decide) ?_
      refine lv_icmp_ge (tgt := 47) hx hb dX0_waysToAll_7 (by decide) (fun hc_7 => ?_) (fun hc_7 => ?_)
      · have hf := it_t hf hc_7
        refine lv_lload_n hx hb dX0_waysToAll_47 rfl (lv_at hl 1 rfl) ?_
        exact hret' _ _ _ _ _ dX0_waysToAll_48 hf hP hD hS
      · have hf := it_f hf hc_7
        refine lv_aload_n hx hb dX0_waysToAll_10 rfl (lv_at hl 0 rfl) ?_
        refine va_get (D := D) (ci := 0) (v := .ref q_rows) (C := RX0) (T := TX0) (N := 6) hx hb hts kc1 hown hK hP 0 rfl rfl 2 (by decide) kw0 (fun _ h9 => h9) rfl dX0_waysToAll_11 ?_
        refine lv_bipush (v := 96) hx hb dX0_waysToAll_14 (by decide) ?_
        refine lv_iload_n hx hb dX0_waysToAll_16 rfl (lv_at hl 2 rfl) ?_
        refine lv_iadd hx hb dX0_waysToAll_17 ?_
        obtain ⟨hg_18, hf⟩ := gd_some hf
        refine va_lald hx hb hK hP 1 1 rfl rfl hg_18 dX0_waysToAll_18 ?_
        refine lv_topl (fun x4_19 ex4_19 => ?_)
        have hf := lets_at hf ex4_19
        refine lv_lstore (lv' := [(4, .long x4_19), (0, .ref q0), (1, .long x1_4), (3, .int x3_4)]) hx hb dX0_waysToAll_19 hl (by decide) rfl (fun ls hl => ?_)
        refine lv_lload_n hx hb dX0_waysToAll_21 rfl (lv_at hl 2 rfl) ?_
        refine lv_iload_n hx hb dX0_waysToAll_22 rfl (lv_at hl 3 rfl) ?_
        obtain ⟨r_23, hr_23, hf⟩ := bd_some hf
        refine cl_i (wc := []) (w1 := []) (wr := [(q0, oB 0 [.ref q_ways, .ref q_avoiding, .ref q_rows, .ref q_told, .int z_a, .int z_b]), (q_rows, aJ cy 112 z_rows)]) (w2 := [(q0, oB 0 [.ref q_ways, .ref q_avoiding, .ref q_rows, .ref q_told, .int z_a, .int z_b]), (q_rows, aJ cy 112 z_rows)]) (va_runS (As := [.int x3_4]) (rest := [.long x1_4]) ⟨hx, hb, hml, hown, hts⟩ (ktJ6_bitCount_0f7a4 l D cy x3_4 r_23 hr_23 _) (va_cwS 1 hts gX0_waysToAll_J6_bitCount_0f7a4 rfl rfl rfl (by decide +kernel) ⟨Nat.le_of_ble_eq_true rfl, Nat.le_of_ble_eq_true rfl⟩) (pre_S (wc := []) hcx hsx hS hA hP hD [] rfl (by decide)) rfl rfl hl.1 rfl (lv_room (Nat.le_of_ble_eq_true rfl)) dX0_waysToAll_23 ⟨Nat.zero_le _, Nat.zero_le _⟩) hP hD hS hA [] [0, 1] [0, 1] rfl rfl (by decide) (by decide) (by decide) rfl (fun H locs hP hD hS => ?_)
        refine lv_iconst (v := 2) hx hb dX0_waysToAll_26 (by decide) ?_
        refine lv_irem hx hb dX0_waysToAll_27 (by decide) ?_
        have hJ39 : ∀ (t1_39 : Int64) (H : Heap) (locs : List Loc) (ls : Array Slot), X0_waysToAll_J39 x1_4 x3_4 self_4 t1_39 = some r → va_P D vwCl [(q0, oB 0 [.ref q_ways, .ref q_avoiding, .ref q_rows, .ref q_told, .int z_a, .int z_b]), (q_rows, aJ cy 112 z_rows)] H → va_D A [(q0, oB 0 [.ref q_ways, .ref q_avoiding, .ref q_rows, .ref q_told, .int z_a, .int z_b]), (q_rows, aJ cy 112 z_rows)] → va_S A s.heap H locs → lv_has ls 6 [(0, .ref q0), (3, .int x3_4)] → W p l e rmX0_waysToAll s m args below meth c H locs 0 0 Q (F0 m 39 ls [.long t1_39, .long x1_4]) := by
          intro t1_39 H locs ls hf hP hD hS hl
          unfold X0_waysToAll_J39 at hf
          refine lv_ladd hx hb dX0_waysToAll_39 ?_
          refine lv_topl (fun x1_40 ex1_40 => ?_)
          have hf := lets_at hf ex1_40
          refine lv_lstore_n (lv' := [(1, .long x1_40), (0, .ref q0), (3, .int x3_4)]) hx hb dX0_waysToAll_40 rfl hl (by decide) rfl (fun ls hl => ?_)
          obtain ⟨x3_41, ex3_41⟩ : ∃ y : Int32, y = x3_4 + (1 : Int32) := ⟨_, rfl⟩
          have hf := lets_at hf ex3_41
          refine lv_iinc (v := x3_41) (lv' := [(3, .int x3_41), (1, .long x1_40), (0, .ref q0)]) hx hb dX0_waysToAll_41 hl (k := 2) rfl (by rw [ex3_41]; rfl) (by decide) rfl (fun ls hl => ?_)
          refine lv_goto (tgt := 4) hx hb dX0_waysToAll_44 (by decide) ?_
          exact ih4 x1_40 x3_41 _ _ _ hf hP hD hS (lv_sub hl [2, 1, 0] rfl)
        refine lv_if_ne (tgt := 36) hx hb dX0_waysToAll_28 (by decide) (fun hc_28 => ?_) (fun hc_28 => ?_)
        · have hf := it_f hf hc_28
          refine lv_lload hx hb dX0_waysToAll_36 (lv_at hl 0 rfl) ?_
          refine lv_lneg hx hb dX0_waysToAll_38 ?_
          exact hJ39 (-x4_19) _ _ _ hf hP hD hS (lv_sub hl [1, 3] rfl)
        · have hf := it_t hf hc_28
          refine lv_lload hx hb dX0_waysToAll_31 (lv_at hl 0 rfl) ?_
          refine lv_goto (tgt := 39) hx hb dX0_waysToAll_33 (by decide) ?_
          exact hJ39 x4_19 _ _ _ hf hP hD hS (lv_sub hl [1, 3] rfl)
  exact hL4 _ (0 : Int64) (0 : Int32) _ _ _ hf hP hD hS (lv_sub hl [2, 1, 0] rfl)

def fX0_waysInAll (z_rows : Nat → Int64) : Option Int64 := some (z_rows (96 : Int32).toNatClampNeg)
abbrev rmX0_waysInAll : Room := { frames := 0, cells := 0, slots := 0, locals := 0 }
set_option maxHeartbeats 4000000 in
set_option maxRecDepth 100000 in
theorem ktX0_waysInAll (l : Launch) (D : va_G) (cy : Nat → ClassId) (q0 : Nat) (q_ways : Nat) (q_avoiding : Nat) (q_rows : Nat) (q_told : Nat) (z_a : Int32) (z_b : Int32) (z_rows : Nat → Int64) (r : Int64) (hf : fX0_waysInAll z_rows = some r) : CtL l yX0_waysInAll wsX0_waysInAll rmX0_waysInAll D cy [.ref q0] [(q0, oB 0 [.ref q_ways, .ref q_avoiding, .ref q_rows, .ref q_told, .int z_a, .int z_b]), (q_rows, aJ cy 112 z_rows)] [(q0, oB 0 [.ref q_ways, .ref q_avoiding, .ref q_rows, .ref q_told, .int z_a, .int z_b]), (q_rows, aJ cy 112 z_rows)] r := by
  refine Ct_ofL (cc := cX0_waysInAll) (nL := 1) (by decide) rfl (Nat.le_of_ble_eq_true rfl) ?_
  intro p e s m args below meth c A Q hM hret hP hD hS ls hl
  obtain ⟨hx, hb, hml, hown, hts, hcx, hA, hsx⟩ := hM
  have hown : s.vm.findClass RX0 = some m.cls := hown
  have hK := hcx.1
  have hN := hcx.2
  have kw0 := hts (.fieldLink RX0 18 "EachBrings$Chances" "rows" "[J") (List.mem_of_getElem? (i := 1) rfl)
  have kc1 : ∀ w ∈ wsX00, w ∈ wsX0_waysInAll := fun _ h => List.mem_cons_of_mem _ (List.mem_append_right _ h)
  have hl : lv_has ls 1 [(0, .ref q0)] := hl
  have hret' : ∀ (pc : Nat) (ls : Array Slot) (H : Heap) (locs : List Loc) (v : Int64), decode cX0_waysInAll pc = .ok (.lreturn, 1) → some v = some r → va_P D vwCl [(q0, oB 0 [.ref q_ways, .ref q_avoiding, .ref q_rows, .ref q_told, .int z_a, .int z_b]), (q_rows, aJ cy 112 z_rows)] H → va_D A [(q0, oB 0 [.ref q_ways, .ref q_avoiding, .ref q_rows, .ref q_told, .int z_a, .int z_b]), (q_rows, aJ cy 112 z_rows)] → va_S A s.heap H locs → W p l e rmX0_waysInAll s m args below meth c H locs 0 0 Q (F0 m pc ls [.long v]) := by
    intro pc ls H locs v hd he hP hD hS
    cases he
    exact hret _ _ _ _ _ hd rfl hP hD hS
  unfold fX0_waysInAll at hf
  refine lv_aload_n hx hb dX0_waysInAll_0 rfl (lv_at hl 0 rfl) ?_
  refine va_get (D := D) (ci := 0) (v := .ref q_rows) (C := RX0) (T := TX0) (N := 6) hx hb hts kc1 hown hK hP 0 rfl rfl 2 (by decide) kw0 (fun _ h9 => h9) rfl dX0_waysInAll_1 ?_
  refine lv_bipush (v := 96) hx hb dX0_waysInAll_4 (by decide) ?_
  refine va_lald hx hb hK hP 1 1 rfl rfl (by decide : okx (96 : Int32) 112) dX0_waysInAll_6 ?_
  exact hret' _ _ _ _ _ dX0_waysInAll_7 hf hP hD hS

def fX0_isLikely (z_a : Int32) (z_b : Int32) (z_rows : Nat → Int64) : Option Int32 := (fX0_waysToAll z_rows).bind (fun r_1 => (fX0_waysInAll z_rows).bind (fun r_11 => if (lg_cmp (r_1 * z_b.toInt64) (r_11 * z_a.toInt64)) < 0 then (some (0 : Int32)) else (some (1 : Int32))))
abbrev rmX0_isLikely : Room := { frames := 2, cells := 0, slots := 0, locals := 45 }
set_option maxHeartbeats 4000000 in
set_option maxRecDepth 100000 in
theorem ktX0_isLikely (l : Launch) (D : va_G) (cy : Nat → ClassId) (q0 : Nat) (q_ways : Nat) (q_avoiding : Nat) (q_rows : Nat) (q_told : Nat) (z_a : Int32) (z_b : Int32) (z_rows : Nat → Int64) (r : Int32) (hf : fX0_isLikely z_a z_b z_rows = some r) : CtI l yX0_isLikely wsX0_isLikely rmX0_isLikely D cy [.ref q0] [(q0, oB 0 [.ref q_ways, .ref q_avoiding, .ref q_rows, .ref q_told, .int z_a, .int z_b]), (q_rows, aJ cy 112 z_rows)] [(q0, oB 0 [.ref q_ways, .ref q_avoiding, .ref q_rows, .ref q_told, .int z_a, .int z_b]), (q_rows, aJ cy 112 z_rows)] r := by
  refine Ct_ofZ (cc := cX0_isLikely) (nL := 1) (by decide) rfl (Nat.le_of_ble_eq_true rfl) ?_
  intro p e s m args below meth c A Q hM hret hP hD hS ls hl
  obtain ⟨hx, hb, hml, hown, hts, hcx, hA, hsx⟩ := hM
  have hown : s.vm.findClass RX0 = some m.cls := hown
  have hK := hcx.1
  have hN := hcx.2
  have kw0 := hts (.fieldLink RX0 29 "EachBrings$Chances" "b" "I") (List.mem_of_getElem? (i := 1) rfl)
  have kc1 : ∀ w ∈ wsX00, w ∈ wsX0_isLikely := fun _ h => List.mem_cons_of_mem _ (List.mem_append_right _ h)
  have kw2 := hts (.fieldLink RX0 25 "EachBrings$Chances" "a" "I") (List.mem_of_getElem? (i := 2) rfl)
  have hl : lv_has ls 1 [(0, .ref q0)] := hl
  have hret' : ∀ (pc : Nat) (ls : Array Slot) (H : Heap) (locs : List Loc) (v : Int32), decode cX0_isLikely pc = .ok (.ireturn, 1) → isB v → some v = some r → va_P D vwCl [(q0, oB 0 [.ref q_ways, .ref q_avoiding, .ref q_rows, .ref q_told, .int z_a, .int z_b]), (q_rows, aJ cy 112 z_rows)] H → va_D A [(q0, oB 0 [.ref q_ways, .ref q_avoiding, .ref q_rows, .ref q_told, .int z_a, .int z_b]), (q_rows, aJ cy 112 z_rows)] → va_S A s.heap H locs → W p l e rmX0_isLikely s m args below meth c H locs 0 0 Q (F0 m pc ls [.int v]) := by
    intro pc ls H locs v hd hbv he hP hD hS
    cases he
    exact hret _ _ _ _ _ hd hbv rfl hP hD hS
  unfold fX0_isLikely at hf
  refine lv_aload_n hx hb dX0_isLikely_0 rfl (lv_at hl 0 rfl) ?_
  obtain ⟨r_1, hr_1, hf⟩ := bd_some hf
  refine cl_l (wc := [(q0, oB 0 [.ref q_ways, .ref q_avoiding, .ref q_rows, .ref q_told, .int z_a, .int z_b]), (q_rows, aJ cy 112 z_rows)]) (w1 := [(q0, oB 0 [.ref q_ways, .ref q_avoiding, .ref q_rows, .ref q_told, .int z_a, .int z_b]), (q_rows, aJ cy 112 z_rows)]) (wr := []) (w2 := [(q0, oB 0 [.ref q_ways, .ref q_avoiding, .ref q_rows, .ref q_told, .int z_a, .int z_b]), (q_rows, aJ cy 112 z_rows)]) (va_runV (As := []) (rest := []) ⟨hx, hb, hml, hown, hts⟩ (ktX0_waysToAll l D cy q0 q_ways q_avoiding q_rows q_told z_a z_b z_rows r_1 hr_1 _) (cwV 0 hts gX0_isLikely_X0_waysToAll rfl rfl rfl (by decide +kernel) ⟨Nat.le_of_ble_eq_true rfl, Nat.le_of_ble_eq_true rfl⟩) (pre_V (wc := [(q0, oB 0 [.ref q_ways, .ref q_avoiding, .ref q_rows, .ref q_told, .int z_a, .int z_b]), (q_rows, aJ cy 112 z_rows)]) (ci := 0) hcx hsx hS hA hP hD [0, 1] rfl (by decide) rfl rfl) rfl rfl hl.1 rfl (lv_room (Nat.le_of_ble_eq_true rfl)) dX0_isLikely_1 ⟨Nat.zero_le _, Nat.zero_le _⟩) hP hD hS hA [0, 1] [] [0, 1] rfl rfl (by decide) (by decide) (by decide) rfl (fun H locs hP hD hS => ?_)
  refine lv_aload_n hx hb dX0_isLikely_4 rfl (lv_at hl 0 rfl) ?_
  refine va_get (D := D) (ci := 0) (v := .int z_b) (C := RX0) (T := TX0) (N := 6) hx hb hts kc1 hown hK hP 0 rfl rfl 5 (by decide) kw0 (fun _ h9 => h9) rfl dX0_isLikely_5 ?_
  refine lv_i2l (v := z_b.toInt64) hx hb dX0_isLikely_8 rfl ?_
  refine lv_lmul hx hb dX0_isLikely_9 ?_
  refine lv_aload_n hx hb dX0_isLikely_10 rfl (lv_at hl 0 rfl) ?_
  obtain ⟨r_11, hr_11, hf⟩ := bd_some hf
  refine cl_l (wc := [(q0, oB 0 [.ref q_ways, .ref q_avoiding, .ref q_rows, .ref q_told, .int z_a, .int z_b]), (q_rows, aJ cy 112 z_rows)]) (w1 := [(q0, oB 0 [.ref q_ways, .ref q_avoiding, .ref q_rows, .ref q_told, .int z_a, .int z_b]), (q_rows, aJ cy 112 z_rows)]) (wr := []) (w2 := [(q0, oB 0 [.ref q_ways, .ref q_avoiding, .ref q_rows, .ref q_told, .int z_a, .int z_b]), (q_rows, aJ cy 112 z_rows)]) (va_runV (As := []) (rest := [.long (r_1 * z_b.toInt64)]) ⟨hx, hb, hml, hown, hts⟩ (ktX0_waysInAll l D cy q0 q_ways q_avoiding q_rows q_told z_a z_b z_rows r_11 hr_11 _) (cwV 0 hts gX0_isLikely_X0_waysInAll rfl rfl rfl (by decide +kernel) ⟨Nat.le_of_ble_eq_true rfl, Nat.le_of_ble_eq_true rfl⟩) (pre_V (wc := [(q0, oB 0 [.ref q_ways, .ref q_avoiding, .ref q_rows, .ref q_told, .int z_a, .int z_b]), (q_rows, aJ cy 112 z_rows)]) (ci := 0) hcx hsx hS hA hP hD [0, 1] rfl (by decide) rfl rfl) rfl rfl hl.1 rfl (lv_room (Nat.le_of_ble_eq_true rfl)) dX0_isLikely_11 ⟨Nat.zero_le _, Nat.zero_le _⟩) hP hD hS hA [0, 1] [] [0, 1] rfl rfl (by decide) (by decide) (by decide) rfl (fun H locs hP hD hS => ?_)
  refine lv_aload_n hx hb dX0_isLikely_14 rfl (lv_at hl 0 rfl) ?_
  refine va_get (D := D) (ci := 0) (v := .int z_a) (C := RX0) (T := TX0) (N := 6) hx hb hts kc1 hown hK hP 0 rfl rfl 4 (by decide) kw2 (fun _ h9 => h9) rfl dX0_isLikely_15 ?_
  refine lv_i2l (v := z_a.toInt64) hx hb dX0_isLikely_18 rfl ?_
  refine lv_lmul hx hb dX0_isLikely_19 ?_
  refine W.lcmp hx hb dX0_isLikely_20 ?_
  refine lv_if_lt (tgt := 28) hx hb dX0_isLikely_21 (by decide) (fun hc_21 => ?_) (fun hc_21 => ?_)
  · have hf := it_t hf hc_21
    refine lv_iconst (v := 0) hx hb dX0_isLikely_28 (by decide) ?_
    exact hret' _ _ _ _ _ dX0_isLikely_29 (by decide) hf hP hD hS
  · have hf := it_f hf hc_21
    refine lv_iconst (v := 1) hx hb dX0_isLikely_24 (by decide) ?_
    refine lv_goto (tgt := 29) hx hb dX0_isLikely_25 (by decide) ?_
    exact hret' _ _ _ _ _ dX0_isLikely_29 (by decide) hf hP hD hS

def X0_tell_J119 (x5_59 : Int32) (self_59 : Int32 → (Nat → Int64) → (Nat → Int32) → Option (Int32 × (Nat → Int64) × (Nat → Int32))) (z_rows_119 : Nat → Int64) (z_told_119 : Nat → Int32) : Option (Int32 × (Nat → Int64) × (Nat → Int32)) := lets (x5_59 + (1 : Int32)) (fun x5_119 => self_59 x5_119 z_rows_119 z_told_119)
def X0_tell_S59 (z_a : Int32) (z_b : Int32) (z_avoiding : Nat → Int64) (zb_cells : Nat → Int32) (x2 : Int32) (x3 : Int32) (x4 : Int32) (rec9 : Int32 → Int32 → (Nat → Int64) → (Nat → Int64) → (Nat → Int32) → (Nat → Int32) → Int32 → Int32 → Int32 → Option (Int32 × (Nat → Int64) × (Nat → Int32))) (self_59 : Int32 → (Nat → Int64) → (Nat → Int32) → Option (Int32 × (Nat → Int64) × (Nat → Int32))) (x5_59 : Int32) (z_rows_59 : Nat → Int64) (z_told_59 : Nat → Int32) : Option (Int32 × (Nat → Int64) × (Nat → Int32)) := if (4 : Int32) ≤ x5_59 then (some ((0 : Int32), z_rows_59, z_told_59)) else (if x3 ≤ 0 then (some ((0 : Int32), z_rows_59, z_told_59)) else ((fX4_of zb_cells x2 x5_59).bind (fun r_73 => if r_73 ≤ 0 then (X0_tell_J119 x5_59 self_59 z_rows_59 z_told_59) else (if ((x4 >>> (x5_59 &&& 31)) &&& (1 : Int32)) = 0 then ((fX0_decide z_avoiding z_rows_59 z_told_59 x2 x5_59).bind (fun r_93 => (rec9 z_a z_b z_avoiding r_93.1 r_93.2 zb_cells (x2 + (1 : Int32)) (x3 - (1 : Int32)) (x4 ||| ((1 : Int32) <<< (x5_59 &&& 31)))).bind (fun r_111 => if r_111.1 = 0 then (X0_tell_J119 x5_59 self_59 r_111.2.1 r_111.2.2) else (some ((1 : Int32), r_111.2.1, r_111.2.2))))) else (X0_tell_J119 x5_59 self_59 z_rows_59 z_told_59)))))
def fX0_tell_step (rec9 : Int32 → Int32 → (Nat → Int64) → (Nat → Int64) → (Nat → Int32) → (Nat → Int32) → Int32 → Int32 → Int32 → Option (Int32 × (Nat → Int64) × (Nat → Int32))) (z_a : Int32) (z_b : Int32) (z_avoiding : Nat → Int64) (z_rows : Nat → Int64) (z_told : Nat → Int32) (zb_cells : Nat → Int32) (x2 : Int32) (x3 : Int32) (x4 : Int32) : Option (Int32 × (Nat → Int64) × (Nat → Int32)) := if x2 < (6 : Int32) then (if x3 ≤ ((6 : Int32) - x2) then ((fX0_decide z_avoiding z_rows z_told x2 (9 : Int32)).bind (fun r_37 => (rec9 z_a z_b z_avoiding r_37.1 r_37.2 zb_cells (x2 + (1 : Int32)) x3 x4).bind (fun r_48 => if r_48.1 = 0 then (it3 (X0_tell_S59 z_a z_b z_avoiding zb_cells x2 x3 x4 rec9) 100000 (0 : Int32) r_48.2.1 r_48.2.2) else (some ((1 : Int32), r_48.2.1, r_48.2.2))))) else (some ((0 : Int32), z_rows, z_told))) else (if x3 = 0 then ((fX0_isLikely z_a z_b z_rows).bind (fun r_11 => if r_11 = 0 then (some ((0 : Int32), z_rows, z_told)) else (some ((1 : Int32), z_rows, z_told)))) else (some ((0 : Int32), z_rows, z_told)))
def fX0_tell : Nat → Int32 → Int32 → (Nat → Int64) → (Nat → Int64) → (Nat → Int32) → (Nat → Int32) → Int32 → Int32 → Int32 → Option (Int32 × (Nat → Int64) × (Nat → Int32))
  | 0 => fun _ _ _ _ _ _ _ _ _ => none
  | d + 1 => fX0_tell_step (fX0_tell d)
set_option maxHeartbeats 4000000 in
set_option maxRecDepth 100000 in
theorem ktX0_tell_s (l : Launch) (D : va_G) (cy : Nat → ClassId) (R8 R9 : Room) (h8c : R8.cells = 0) (h8s : R8.slots = 0) (hR0 : R8.frames + 1 ≤ R9.frames) (hR1 : 8 + (6 + 11) + R8.locals ≤ R9.locals) (hRf : 3 ≤ R9.frames) (hRl : 65 ≤ R9.locals) (rec9 : Int32 → Int32 → (Nat → Int64) → (Nat → Int64) → (Nat → Int32) → (Nat → Int32) → Int32 → Int32 → Int32 → Option (Int32 × (Nat → Int64) × (Nat → Int32))) (hrec : ∀ (q0 : Nat) (q_ways : Nat) (q_avoiding : Nat) (q_rows : Nat) (q_told : Nat) (qb : Nat) (qb_cells : Nat) (z_a : Int32) (z_b : Int32) (z_avoiding : Nat → Int64) (z_rows : Nat → Int64) (z_told : Nat → Int32) (zb_cells : Nat → Int32) (x2 : Int32) (x3 : Int32) (x4 : Int32) (r : Int32 × (Nat → Int64) × (Nat → Int32)), rec9 z_a z_b z_avoiding z_rows z_told zb_cells x2 x3 x4 = some r → CtI l yX0_tell wsX0_tell R8 D cy [.ref q0, .ref qb, .int x2, .int x3, .int x4] [(q0, oB 0 [.ref q_ways, .ref q_avoiding, .ref q_rows, .ref q_told, .int z_a, .int z_b]), (q_avoiding, aJ cy 96 z_avoiding), (q_rows, aJ cy 112 z_rows), (q_told, aI cy 6 z_told), (qb, oB 4 [.ref qb_cells]), (qb_cells, aI cy 24 zb_cells)] [(q0, oB 0 [.ref q_ways, .ref q_avoiding, .ref q_rows, .ref q_told, .int z_a, .int z_b]), (q_avoiding, aJ cy 96 z_avoiding), (q_rows, aJ cy 112 r.2.1), (q_told, aI cy 6 r.2.2), (qb, oB 4 [.ref qb_cells]), (qb_cells, aI cy 24 zb_cells)] r.1) (q0 : Nat) (q_ways : Nat) (q_avoiding : Nat) (q_rows : Nat) (q_told : Nat) (qb : Nat) (qb_cells : Nat) (z_a : Int32) (z_b : Int32) (z_avoiding : Nat → Int64) (z_rows : Nat → Int64) (z_told : Nat → Int32) (zb_cells : Nat → Int32) (x2 : Int32) (x3 : Int32) (x4 : Int32) (r : Int32 × (Nat → Int64) × (Nat → Int32)) (hf : fX0_tell_step rec9 z_a z_b z_avoiding z_rows z_told zb_cells x2 x3 x4 = some r) : CtI l yX0_tell wsX0_tell R9 D cy [.ref q0, .ref qb, .int x2, .int x3, .int x4] [(q0, oB 0 [.ref q_ways, .ref q_avoiding, .ref q_rows, .ref q_told, .int z_a, .int z_b]), (q_avoiding, aJ cy 96 z_avoiding), (q_rows, aJ cy 112 z_rows), (q_told, aI cy 6 z_told), (qb, oB 4 [.ref qb_cells]), (qb_cells, aI cy 24 zb_cells)] [(q0, oB 0 [.ref q_ways, .ref q_avoiding, .ref q_rows, .ref q_told, .int z_a, .int z_b]), (q_avoiding, aJ cy 96 z_avoiding), (q_rows, aJ cy 112 r.2.1), (q_told, aI cy 6 r.2.2), (qb, oB 4 [.ref qb_cells]), (qb_cells, aI cy 24 zb_cells)] r.1 := by
  refine Ct_ofZ (cc := cX0_tell) (nL := 6) (by decide) rfl (Nat.le_of_ble_eq_true rfl) ?_
  intro p e s m args below meth c A Q hM hret hP hD hS ls hl
  obtain ⟨hx, hb, hml, hown, hts, hcx, hA, hsx⟩ := hM
  have hown : s.vm.findClass RX0 = some m.cls := hown
  have hK := hcx.1
  have hN := hcx.2
  have kw0 := hts (.initialized RX4) (List.mem_of_getElem? (i := 33) rfl)
  have kw1 := hts (.instanceMethod yX4_of) (List.mem_of_getElem? (i := 32) rfl)
  have kw2 := hts (.selects RX4 yX4_of yX4_of) (List.mem_of_getElem? (i := 34) rfl)
  have hl : lv_has ls 6 [(0, .ref q0), (1, .ref qb), (2, .int x2), (3, .int x3), (4, .int x4)] := hl
  have hret' : ∀ (pc : Nat) (ls : Array Slot) (H : Heap) (locs : List Loc) (v : Int32) (w0 : Nat → Int64) (w1 : Nat → Int32), decode cX0_tell pc = .ok (.ireturn, 1) → isB v → some (v, w0, w1) = some r → va_P D vwCl [(q0, oB 0 [.ref q_ways, .ref q_avoiding, .ref q_rows, .ref q_told, .int z_a, .int z_b]), (q_avoiding, aJ cy 96 z_avoiding), (q_rows, aJ cy 112 w0), (q_told, aI cy 6 w1), (qb, oB 4 [.ref qb_cells]), (qb_cells, aI cy 24 zb_cells)] H → va_D A [(q0, oB 0 [.ref q_ways, .ref q_avoiding, .ref q_rows, .ref q_told, .int z_a, .int z_b]), (q_avoiding, aJ cy 96 z_avoiding), (q_rows, aJ cy 112 w0), (q_told, aI cy 6 w1), (qb, oB 4 [.ref qb_cells]), (qb_cells, aI cy 24 zb_cells)] → va_S A s.heap H locs → W p l e R9 s m args below meth c H locs 0 0 Q (F0 m pc ls [.int v]) := by
    intro pc ls H locs v w0 w1 hd hbv he hP hD hS
    cases he
    exact hret _ _ _ _ _ hd hbv rfl hP hD hS
  unfold fX0_tell_step at hf
  refine lv_iload_n hx hb dX0_tell_0 rfl (lv_at hl 2 rfl) ?_
  refine lv_bipush (v := 6) hx hb dX0_tell_1 (by decide) ?_
  refine lv_icmp_lt (tgt := 23) hx hb dX0_tell_3 (by decide) (fun hc_3 => ?_) (fun hc_3 => ?_)
  · have hf := it_t hf hc_3
    refine lv_iload_n hx hb dX0_tell_23 rfl (lv_at hl 3 rfl) ?_
    refine lv_bipush (v := 6) hx hb dX0_tell_24 (by decide) ?_
    refine lv_iload_n hx hb dX0_tell_26 rfl (lv_at hl 2 rfl) ?_
    refine lv_isub hx hb dX0_tell_27 ?_
    refine lv_icmp_le (tgt := 33) hx hb dX0_tell_28 (by decide) (fun hc_28 => ?_) (fun hc_28 => ?_)
    · have hf := it_t hf hc_28
      refine lv_aload_n hx hb dX0_tell_33 rfl (lv_at hl 0 rfl) ?_
      refine lv_iload_n hx hb dX0_tell_34 rfl (lv_at hl 2 rfl) ?_
      refine lv_bipush (v := 9) hx hb dX0_tell_35 (by decide) ?_
      obtain ⟨r_37, hr_37, hf⟩ := bd_some hf
      refine cl_v (wc := [(q0, oB 0 [.ref q_ways, .ref q_avoiding, .ref q_rows, .ref q_told, .int z_a, .int z_b]), (q_avoiding, aJ cy 96 z_avoiding), (q_rows, aJ cy 112 z_rows), (q_told, aI cy 6 z_told)]) (w1 := [(q0, oB 0 [.ref q_ways, .ref q_avoiding, .ref q_rows, .ref q_told, .int z_a, .int z_b]), (q_avoiding, aJ cy 96 z_avoiding), (q_rows, aJ cy 112 r_37.1), (q_told, aI cy 6 r_37.2)]) (wr := [(qb, oB 4 [.ref qb_cells]), (qb_cells, aI cy 24 zb_cells)]) (w2 := [(q0, oB 0 [.ref q_ways, .ref q_avoiding, .ref q_rows, .ref q_told, .int z_a, .int z_b]), (q_avoiding, aJ cy 96 z_avoiding), (q_rows, aJ cy 112 r_37.1), (q_told, aI cy 6 r_37.2), (qb, oB 4 [.ref qb_cells]), (qb_cells, aI cy 24 zb_cells)]) (va_runV (As := [.int x2, .int (9 : Int32)]) (rest := []) ⟨hx, hb, hml, hown, hts⟩ (ktX0_decide l D cy q0 q_ways q_avoiding q_rows q_told z_a z_b z_avoiding z_rows z_told x2 (9 : Int32) r_37 hr_37 _) (cwV 2 hts gX0_tell_X0_decide rfl rfl rfl (by decide +kernel) ⟨Nat.le_trans (Nat.le_of_ble_eq_true rfl : 0 + 1 ≤ 3) hRf, Nat.le_trans (Nat.le_of_ble_eq_true rfl : 8 + (6 + 11) + 0 ≤ 65) hRl⟩) (pre_V (wc := [(q0, oB 0 [.ref q_ways, .ref q_avoiding, .ref q_rows, .ref q_told, .int z_a, .int z_b]), (q_avoiding, aJ cy 96 z_avoiding), (q_rows, aJ cy 112 z_rows), (q_told, aI cy 6 z_told)]) (ci := 0) hcx hsx hS hA hP hD [0, 1, 2, 3] rfl (by decide) rfl rfl) rfl rfl hl.1 rfl (lv_room (Nat.le_of_ble_eq_true rfl)) dX0_tell_37 ⟨Nat.zero_le _, Nat.zero_le _⟩) hP hD hS hA [0, 1, 2, 3] [4, 5] [2, 3, 4, 5, 0, 1] rfl rfl (by decide) (by decide) (by decide) rfl (fun H locs hP hD hS => ?_)
      refine lv_aload_n hx hb dX0_tell_40 rfl (lv_at hl 0 rfl) ?_
      refine lv_aload_n hx hb dX0_tell_41 rfl (lv_at hl 1 rfl) ?_
      refine lv_iload_n hx hb dX0_tell_42 rfl (lv_at hl 2 rfl) ?_
      refine lv_iconst (v := 1) hx hb dX0_tell_43 (by decide) ?_
      refine lv_iadd hx hb dX0_tell_44 ?_
      refine lv_iload_n hx hb dX0_tell_45 rfl (lv_at hl 3 rfl) ?_
      refine lv_iload hx hb dX0_tell_46 (lv_at hl 4 rfl) ?_
      obtain ⟨r_48, hr_48, hf⟩ := bd_some hf
      refine cl_i (wc := [(q0, oB 0 [.ref q_ways, .ref q_avoiding, .ref q_rows, .ref q_told, .int z_a, .int z_b]), (q_avoiding, aJ cy 96 z_avoiding), (q_rows, aJ cy 112 r_37.1), (q_told, aI cy 6 r_37.2), (qb, oB 4 [.ref qb_cells]), (qb_cells, aI cy 24 zb_cells)]) (w1 := [(q0, oB 0 [.ref q_ways, .ref q_avoiding, .ref q_rows, .ref q_told, .int z_a, .int z_b]), (q_avoiding, aJ cy 96 z_avoiding), (q_rows, aJ cy 112 r_48.2.1), (q_told, aI cy 6 r_48.2.2), (qb, oB 4 [.ref qb_cells]), (qb_cells, aI cy 24 zb_cells)]) (wr := []) (w2 := [(q0, oB 0 [.ref q_ways, .ref q_avoiding, .ref q_rows, .ref q_told, .int z_a, .int z_b]), (q_avoiding, aJ cy 96 z_avoiding), (q_rows, aJ cy 112 r_48.2.1), (q_told, aI cy 6 r_48.2.2), (qb, oB 4 [.ref qb_cells]), (qb_cells, aI cy 24 zb_cells)]) (va_runS (As := [.ref q0, .ref qb, .int (x2 + (1 : Int32)), .int x3, .int x4]) (rest := []) ⟨hx, hb, hml, hown, hts⟩ (hrec q0 q_ways q_avoiding q_rows q_told qb qb_cells z_a z_b z_avoiding r_37.1 r_37.2 zb_cells (x2 + (1 : Int32)) x3 x4 r_48 hr_48 _) (va_cwS 5 hts gX0_tell_X0_tell rfl h8c h8s (by decide +kernel) ⟨hR0, hR1⟩) (pre_S (wc := [(q0, oB 0 [.ref q_ways, .ref q_avoiding, .ref q_rows, .ref q_told, .int z_a, .int z_b]), (q_avoiding, aJ cy 96 z_avoiding), (q_rows, aJ cy 112 r_37.1), (q_told, aI cy 6 r_37.2), (qb, oB 4 [.ref qb_cells]), (qb_cells, aI cy 24 zb_cells)]) hcx hsx hS hA hP hD [0, 1, 2, 3, 4, 5] rfl (by decide)) rfl rfl hl.1 rfl (lv_room (Nat.le_of_ble_eq_true rfl)) dX0_tell_48 ⟨Nat.zero_le _, Nat.zero_le _⟩) hP hD hS hA [0, 1, 2, 3, 4, 5] [] [0, 1, 2, 3, 4, 5] rfl rfl (by decide) (by decide) (by decide) rfl (fun H locs hP hD hS => ?_)
      refine lv_if_eq (tgt := 56) hx hb dX0_tell_51 (by decide) (fun hc_51 => ?_) (fun hc_51 => ?_)
      · have hf := it_t hf hc_51
        refine lv_iconst (v := 0) hx hb dX0_tell_56 (by decide) ?_
        refine lv_istore (lv' := [(5, .int (0 : Int32)), (0, .ref q0), (1, .ref qb), (2, .int x2), (3, .int x3), (4, .int x4)]) hx hb dX0_tell_57 hl (by decide) rfl (fun ls hl => ?_)
        have hL59 : ∀ (n : Nat) (x5_59 : Int32) (z_rows_59 : Nat → Int64) (z_told_59 : Nat → Int32) (H : Heap) (locs : List Loc) (ls : Array Slot), it3 (X0_tell_S59 z_a z_b z_avoiding zb_cells x2 x3 x4 rec9) n x5_59 z_rows_59 z_told_59 = some r → va_P D vwCl [(q0, oB 0 [.ref q_ways, .ref q_avoiding, .ref q_rows, .ref q_told, .int z_a, .int z_b]), (q_avoiding, aJ cy 96 z_avoiding), (q_rows, aJ cy 112 z_rows_59), (q_told, aI cy 6 z_told_59), (qb, oB 4 [.ref qb_cells]), (qb_cells, aI cy 24 zb_cells)] H → va_D A [(q0, oB 0 [.ref q_ways, .ref q_avoiding, .ref q_rows, .ref q_told, .int z_a, .int z_b]), (q_avoiding, aJ cy 96 z_avoiding), (q_rows, aJ cy 112 z_rows_59), (q_told, aI cy 6 z_told_59), (qb, oB 4 [.ref qb_cells]), (qb_cells, aI cy 24 zb_cells)] → va_S A s.heap H locs → lv_has ls 6 [(0, .ref q0), (1, .ref qb), (2, .int x2), (3, .int x3), (4, .int x4), (5, .int x5_59)] → W p l e R9 s m args below meth c H locs 0 0 Q (F0 m 59 ls []) := by
          intro n
          induction n with
          | zero => intro x5_59 z_rows_59 z_told_59 H locs ls hf; exact absurd hf (by simp [it3])
          | succ n ih59 =>
            intro x5_59 z_rows_59 z_told_59 H locs ls hf hP hD hS hl
            have hf : X0_tell_S59 z_a z_b z_avoiding zb_cells x2 x3 x4 rec9 (it3 (X0_tell_S59 z_a z_b z_avoiding zb_cells x2 x3 x4 rec9) n) x5_59 z_rows_59 z_told_59 = some r := hf
            generalize it3 (X0_tell_S59 z_a z_b z_avoiding zb_cells x2 x3 x4 rec9) n = self_59 at hf ih59
            unfold X0_tell_S59 at hf
            refine lv_iload hx hb dX0_tell_59 (lv_at hl 5 rfl) ?_
            refine lv_iconst (v := 4) hx hb dX0_tell_61 (by decide) ?_
            refine lv_icmp_ge (tgt := 125) hx hb dX0_tell_62 (by decide) (fun hc_62 => ?_) (fun hc_62 => ?_)
            · have hf := it_t hf hc_62
              refine lv_iconst (v := 0) hx hb dX0_tell_125 (by decide) ?_
              exact hret' _ _ _ _ _ _ _ dX0_tell_126 (by decide) hf hP hD hS
            · have hf := it_f hf hc_62
              refine lv_iload_n hx hb dX0_tell_65 rfl (lv_at hl 3 rfl) ?_
              refine lv_if_le (tgt := 125) hx hb dX0_tell_66 (by decide) (fun hc_66 => ?_) (fun hc_66 => ?_)
              · have hf := it_t hf hc_66
                refine lv_iconst (v := 0) hx hb dX0_tell_125 (by decide) ?_
                exact hret' _ _ _ _ _ _ _ dX0_tell_126 (by decide) hf hP hD hS
              · have hf := it_f hf hc_66
                refine lv_aload_n hx hb dX0_tell_69 rfl (lv_at hl 1 rfl) ?_
                refine lv_iload_n hx hb dX0_tell_70 rfl (lv_at hl 2 rfl) ?_
                refine lv_iload hx hb dX0_tell_71 (lv_at hl 5 rfl) ?_
                obtain ⟨r_73, hr_73, hf⟩ := bd_some hf
                refine cl_i (wc := [(qb, oB 4 [.ref qb_cells]), (qb_cells, aI cy 24 zb_cells)]) (w1 := [(qb, oB 4 [.ref qb_cells]), (qb_cells, aI cy 24 zb_cells)]) (wr := [(q0, oB 0 [.ref q_ways, .ref q_avoiding, .ref q_rows, .ref q_told, .int z_a, .int z_b]), (q_avoiding, aJ cy 96 z_avoiding), (q_rows, aJ cy 112 z_rows_59), (q_told, aI cy 6 z_told_59)]) (w2 := [(q0, oB 0 [.ref q_ways, .ref q_avoiding, .ref q_rows, .ref q_told, .int z_a, .int z_b]), (q_avoiding, aJ cy 96 z_avoiding), (q_rows, aJ cy 112 z_rows_59), (q_told, aI cy 6 z_told_59), (qb, oB 4 [.ref qb_cells]), (qb_cells, aI cy 24 zb_cells)]) (va_runVN (C := RX4) (host := "EachBrings") (As := [.int x2, .int x5_59]) (rest := []) ⟨hx, hb, hml, hown, hts⟩ (ktX4_of l D cy qb qb_cells zb_cells x2 x5_59 r_73 hr_73 _) ⟨va_cnB 2 hts gX0_tell_X4_of_n38 rfl rfl rfl (hN.at 58 rfl) kw0 (by decide +kernel) ⟨Nat.le_trans (Nat.le_of_ble_eq_true rfl : 0 + 1 ≤ 3) hRf, Nat.le_trans (Nat.le_of_ble_eq_true rfl : 8 + (3 + 11) + 0 ≤ 65) hRl⟩, kw1, kw2⟩ (pre_V (wc := [(qb, oB 4 [.ref qb_cells]), (qb_cells, aI cy 24 zb_cells)]) (ci := 4) hcx hsx hS hA hP hD [4, 5] rfl (by decide) rfl rfl) rfl rfl hl.1 rfl (lv_room (Nat.le_of_ble_eq_true rfl)) dX0_tell_73 ⟨Nat.zero_le _, Nat.zero_le _⟩) hP hD hS hA [4, 5] [0, 1, 2, 3] [0, 1, 2, 3, 4, 5] rfl rfl (by decide) (by decide) (by decide) rfl (fun H locs hP hD hS => ?_)
                have hJ119 : ∀ (z_rows_119 : Nat → Int64) (z_told_119 : Nat → Int32) (H : Heap) (locs : List Loc) (ls : Array Slot), X0_tell_J119 x5_59 self_59 z_rows_119 z_told_119 = some r → va_P D vwCl [(q0, oB 0 [.ref q_ways, .ref q_avoiding, .ref q_rows, .ref q_told, .int z_a, .int z_b]), (q_avoiding, aJ cy 96 z_avoiding), (q_rows, aJ cy 112 z_rows_119), (q_told, aI cy 6 z_told_119), (qb, oB 4 [.ref qb_cells]), (qb_cells, aI cy 24 zb_cells)] H → va_D A [(q0, oB 0 [.ref q_ways, .ref q_avoiding, .ref q_rows, .ref q_told, .int z_a, .int z_b]), (q_avoiding, aJ cy 96 z_avoiding), (q_rows, aJ cy 112 z_rows_119), (q_told, aI cy 6 z_told_119), (qb, oB 4 [.ref qb_cells]), (qb_cells, aI cy 24 zb_cells)] → va_S A s.heap H locs → lv_has ls 6 [(0, .ref q0), (1, .ref qb), (2, .int x2), (3, .int x3), (4, .int x4), (5, .int x5_59)] → W p l e R9 s m args below meth c H locs 0 0 Q (F0 m 119 ls []) := by
                  intro z_rows_119 z_told_119 H locs ls hf hP hD hS hl
                  unfold X0_tell_J119 at hf
                  obtain ⟨x5_119, ex5_119⟩ : ∃ y : Int32, y = x5_59 + (1 : Int32) := ⟨_, rfl⟩
                  have hf := lets_at hf ex5_119
                  refine lv_iinc (v := x5_119) (lv' := [(5, .int x5_119), (0, .ref q0), (1, .ref qb), (2, .int x2), (3, .int x3), (4, .int x4)]) hx hb dX0_tell_119 hl (k := 5) rfl (by rw [ex5_119]; rfl) (by decide) rfl (fun ls hl => ?_)
                  refine lv_goto (tgt := 59) hx hb dX0_tell_122 (by decide) ?_
                  exact ih59 x5_119 z_rows_119 z_told_119 _ _ _ hf hP hD hS (lv_sub hl [1, 2, 3, 4, 5, 0] rfl)
                refine lv_if_le (tgt := 119) hx hb dX0_tell_76 (by decide) (fun hc_76 => ?_) (fun hc_76 => ?_)
                · have hf := it_t hf hc_76
                  exact hJ119 z_rows_59 z_told_59 _ _ _ hf hP hD hS (lv_sub hl [0, 1, 2, 3, 4, 5] rfl)
                · have hf := it_f hf hc_76
                  refine lv_iload hx hb dX0_tell_79 (lv_at hl 4 rfl) ?_
                  refine lv_iload hx hb dX0_tell_81 (lv_at hl 5 rfl) ?_
                  refine lv_ishr hx hb dX0_tell_83 ?_
                  refine lv_iconst (v := 1) hx hb dX0_tell_84 (by decide) ?_
                  refine lv_iand hx hb dX0_tell_85 ?_
                  refine lv_if_ne (tgt := 119) hx hb dX0_tell_86 (by decide) (fun hc_86 => ?_) (fun hc_86 => ?_)
                  · have hf := it_f hf hc_86
                    exact hJ119 z_rows_59 z_told_59 _ _ _ hf hP hD hS (lv_sub hl [0, 1, 2, 3, 4, 5] rfl)
                  · have hf := it_t hf hc_86
                    refine lv_aload_n hx hb dX0_tell_89 rfl (lv_at hl 0 rfl) ?_
                    refine lv_iload_n hx hb dX0_tell_90 rfl (lv_at hl 2 rfl) ?_
                    refine lv_iload hx hb dX0_tell_91 (lv_at hl 5 rfl) ?_
                    obtain ⟨r_93, hr_93, hf⟩ := bd_some hf
                    refine cl_v (wc := [(q0, oB 0 [.ref q_ways, .ref q_avoiding, .ref q_rows, .ref q_told, .int z_a, .int z_b]), (q_avoiding, aJ cy 96 z_avoiding), (q_rows, aJ cy 112 z_rows_59), (q_told, aI cy 6 z_told_59)]) (w1 := [(q0, oB 0 [.ref q_ways, .ref q_avoiding, .ref q_rows, .ref q_told, .int z_a, .int z_b]), (q_avoiding, aJ cy 96 z_avoiding), (q_rows, aJ cy 112 r_93.1), (q_told, aI cy 6 r_93.2)]) (wr := [(qb, oB 4 [.ref qb_cells]), (qb_cells, aI cy 24 zb_cells)]) (w2 := [(q0, oB 0 [.ref q_ways, .ref q_avoiding, .ref q_rows, .ref q_told, .int z_a, .int z_b]), (q_avoiding, aJ cy 96 z_avoiding), (q_rows, aJ cy 112 r_93.1), (q_told, aI cy 6 r_93.2), (qb, oB 4 [.ref qb_cells]), (qb_cells, aI cy 24 zb_cells)]) (va_runV (As := [.int x2, .int x5_59]) (rest := []) ⟨hx, hb, hml, hown, hts⟩ (ktX0_decide l D cy q0 q_ways q_avoiding q_rows q_told z_a z_b z_avoiding z_rows_59 z_told_59 x2 x5_59 r_93 hr_93 _) (cwV 2 hts gX0_tell_X0_decide rfl rfl rfl (by decide +kernel) ⟨Nat.le_trans (Nat.le_of_ble_eq_true rfl : 0 + 1 ≤ 3) hRf, Nat.le_trans (Nat.le_of_ble_eq_true rfl : 8 + (6 + 11) + 0 ≤ 65) hRl⟩) (pre_V (wc := [(q0, oB 0 [.ref q_ways, .ref q_avoiding, .ref q_rows, .ref q_told, .int z_a, .int z_b]), (q_avoiding, aJ cy 96 z_avoiding), (q_rows, aJ cy 112 z_rows_59), (q_told, aI cy 6 z_told_59)]) (ci := 0) hcx hsx hS hA hP hD [0, 1, 2, 3] rfl (by decide) rfl rfl) rfl rfl hl.1 rfl (lv_room (Nat.le_of_ble_eq_true rfl)) dX0_tell_93 ⟨Nat.zero_le _, Nat.zero_le _⟩) hP hD hS hA [0, 1, 2, 3] [4, 5] [2, 3, 4, 5, 0, 1] rfl rfl (by decide) (by decide) (by decide) rfl (fun H locs hP hD hS => ?_)
                    refine lv_aload_n hx hb dX0_tell_96 rfl (lv_at hl 0 rfl) ?_
                    refine lv_aload_n hx hb dX0_tell_97 rfl (lv_at hl 1 rfl) ?_
                    refine lv_iload_n hx hb dX0_tell_98 rfl (lv_at hl 2 rfl) ?_
                    refine lv_iconst (v := 1) hx hb dX0_tell_99 (by decide) ?_
                    refine lv_iadd hx hb dX0_tell_100 ?_
                    refine lv_iload_n hx hb dX0_tell_101 rfl (lv_at hl 3 rfl) ?_
                    refine lv_iconst (v := 1) hx hb dX0_tell_102 (by decide) ?_
                    refine lv_isub hx hb dX0_tell_103 ?_
                    refine lv_iload hx hb dX0_tell_104 (lv_at hl 4 rfl) ?_
                    refine lv_iconst (v := 1) hx hb dX0_tell_106 (by decide) ?_
                    refine lv_iload hx hb dX0_tell_107 (lv_at hl 5 rfl) ?_
                    refine lv_ishl hx hb dX0_tell_109 ?_
                    refine lv_ior hx hb dX0_tell_110 ?_
                    obtain ⟨r_111, hr_111, hf⟩ := bd_some hf
                    refine cl_i (wc := [(q0, oB 0 [.ref q_ways, .ref q_avoiding, .ref q_rows, .ref q_told, .int z_a, .int z_b]), (q_avoiding, aJ cy 96 z_avoiding), (q_rows, aJ cy 112 r_93.1), (q_told, aI cy 6 r_93.2), (qb, oB 4 [.ref qb_cells]), (qb_cells, aI cy 24 zb_cells)]) (w1 := [(q0, oB 0 [.ref q_ways, .ref q_avoiding, .ref q_rows, .ref q_told, .int z_a, .int z_b]), (q_avoiding, aJ cy 96 z_avoiding), (q_rows, aJ cy 112 r_111.2.1), (q_told, aI cy 6 r_111.2.2), (qb, oB 4 [.ref qb_cells]), (qb_cells, aI cy 24 zb_cells)]) (wr := []) (w2 := [(q0, oB 0 [.ref q_ways, .ref q_avoiding, .ref q_rows, .ref q_told, .int z_a, .int z_b]), (q_avoiding, aJ cy 96 z_avoiding), (q_rows, aJ cy 112 r_111.2.1), (q_told, aI cy 6 r_111.2.2), (qb, oB 4 [.ref qb_cells]), (qb_cells, aI cy 24 zb_cells)]) (va_runS (As := [.ref q0, .ref qb, .int (x2 + (1 : Int32)), .int (x3 - (1 : Int32)), .int (x4 ||| ((1 : Int32) <<< (x5_59 &&& 31)))]) (rest := []) ⟨hx, hb, hml, hown, hts⟩ (hrec q0 q_ways q_avoiding q_rows q_told qb qb_cells z_a z_b z_avoiding r_93.1 r_93.2 zb_cells (x2 + (1 : Int32)) (x3 - (1 : Int32)) (x4 ||| ((1 : Int32) <<< (x5_59 &&& 31))) r_111 hr_111 _) (va_cwS 5 hts gX0_tell_X0_tell rfl h8c h8s (by decide +kernel) ⟨hR0, hR1⟩) (pre_S (wc := [(q0, oB 0 [.ref q_ways, .ref q_avoiding, .ref q_rows, .ref q_told, .int z_a, .int z_b]), (q_avoiding, aJ cy 96 z_avoiding), (q_rows, aJ cy 112 r_93.1), (q_told, aI cy 6 r_93.2), (qb, oB 4 [.ref qb_cells]), (qb_cells, aI cy 24 zb_cells)]) hcx hsx hS hA hP hD [0, 1, 2, 3, 4, 5] rfl (by decide)) rfl rfl hl.1 rfl (lv_room (Nat.le_of_ble_eq_true rfl)) dX0_tell_111 ⟨Nat.zero_le _, Nat.zero_le _⟩) hP hD hS hA [0, 1, 2, 3, 4, 5] [] [0, 1, 2, 3, 4, 5] rfl rfl (by decide) (by decide) (by decide) rfl (fun H locs hP hD hS => ?_)
                    refine lv_if_eq (tgt := 119) hx hb dX0_tell_114 (by decide) (fun hc_114 => ?_) (fun hc_114 => ?_)
                    · have hf := it_t hf hc_114
                      exact hJ119 r_111.2.1 r_111.2.2 _ _ _ hf hP hD hS (lv_sub hl [0, 1, 2, 3, 4, 5] rfl)
                    · have hf := it_f hf hc_114
                      refine lv_iconst (v := 1) hx hb dX0_tell_117 (by decide) ?_
                      exact hret' _ _ _ _ _ _ _ dX0_tell_118 (by decide) hf hP hD hS
        exact hL59 _ (0 : Int32) r_48.2.1 r_48.2.2 _ _ _ hf hP hD hS (lv_sub hl [1, 2, 3, 4, 5, 0] rfl)
      · have hf := it_f hf hc_51
        refine lv_iconst (v := 1) hx hb dX0_tell_54 (by decide) ?_
        exact hret' _ _ _ _ _ _ _ dX0_tell_55 (by decide) hf hP hD hS
    · have hf := it_f hf hc_28
      refine lv_iconst (v := 0) hx hb dX0_tell_31 (by decide) ?_
      exact hret' _ _ _ _ _ _ _ dX0_tell_32 (by decide) hf hP hD hS
  · have hf := it_f hf hc_3
    refine lv_iload_n hx hb dX0_tell_6 rfl (lv_at hl 3 rfl) ?_
    refine lv_if_ne (tgt := 21) hx hb dX0_tell_7 (by decide) (fun hc_7 => ?_) (fun hc_7 => ?_)
    · have hf := it_f hf hc_7
      refine lv_iconst (v := 0) hx hb dX0_tell_21 (by decide) ?_
      exact hret' _ _ _ _ _ _ _ dX0_tell_22 (by decide) hf hP hD hS
    · have hf := it_t hf hc_7
      refine lv_aload_n hx hb dX0_tell_10 rfl (lv_at hl 0 rfl) ?_
      obtain ⟨r_11, hr_11, hf⟩ := bd_some hf
      refine cl_i (wc := [(q0, oB 0 [.ref q_ways, .ref q_avoiding, .ref q_rows, .ref q_told, .int z_a, .int z_b]), (q_rows, aJ cy 112 z_rows)]) (w1 := [(q0, oB 0 [.ref q_ways, .ref q_avoiding, .ref q_rows, .ref q_told, .int z_a, .int z_b]), (q_rows, aJ cy 112 z_rows)]) (wr := [(q_avoiding, aJ cy 96 z_avoiding), (q_told, aI cy 6 z_told), (qb, oB 4 [.ref qb_cells]), (qb_cells, aI cy 24 zb_cells)]) (w2 := [(q0, oB 0 [.ref q_ways, .ref q_avoiding, .ref q_rows, .ref q_told, .int z_a, .int z_b]), (q_avoiding, aJ cy 96 z_avoiding), (q_rows, aJ cy 112 z_rows), (q_told, aI cy 6 z_told), (qb, oB 4 [.ref qb_cells]), (qb_cells, aI cy 24 zb_cells)]) (va_runV (As := []) (rest := []) ⟨hx, hb, hml, hown, hts⟩ (ktX0_isLikely l D cy q0 q_ways q_avoiding q_rows q_told z_a z_b z_rows r_11 hr_11 _) (cwV 0 hts gX0_tell_X0_isLikely rfl rfl rfl (by decide +kernel) ⟨Nat.le_trans (Nat.le_of_ble_eq_true rfl : 2 + 1 ≤ 3) hRf, Nat.le_trans (Nat.le_of_ble_eq_true rfl : 8 + (1 + 11) + 45 ≤ 65) hRl⟩) (pre_V (wc := [(q0, oB 0 [.ref q_ways, .ref q_avoiding, .ref q_rows, .ref q_told, .int z_a, .int z_b]), (q_rows, aJ cy 112 z_rows)]) (ci := 0) hcx hsx hS hA hP hD [0, 2] rfl (by decide) rfl rfl) rfl rfl hl.1 rfl (lv_room (Nat.le_of_ble_eq_true rfl)) dX0_tell_11 ⟨Nat.zero_le _, Nat.zero_le _⟩) hP hD hS hA [0, 2] [1, 3, 4, 5] [4, 0, 5, 1, 2, 3] rfl rfl (by decide) (by decide) (by decide) rfl (fun H locs hP hD hS => ?_)
      refine lv_if_eq (tgt := 21) hx hb dX0_tell_14 (by decide) (fun hc_14 => ?_) (fun hc_14 => ?_)
      · have hf := it_t hf hc_14
        refine lv_iconst (v := 0) hx hb dX0_tell_21 (by decide) ?_
        exact hret' _ _ _ _ _ _ _ dX0_tell_22 (by decide) hf hP hD hS
      · have hf := it_f hf hc_14
        refine lv_iconst (v := 1) hx hb dX0_tell_17 (by decide) ?_
        refine lv_goto (tgt := 22) hx hb dX0_tell_18 (by decide) ?_
        exact hret' _ _ _ _ _ _ _ dX0_tell_22 (by decide) hf hP hD hS
def rmX0_tell (d : Nat) : Room := { frames := 3 + d, cells := 0, slots := 0, locals := 65 + 25 * d }
theorem ktX0_tell_all (l : Launch) (D : va_G) (cy : Nat → ClassId) : ∀ (d : Nat) (q0 : Nat) (q_ways : Nat) (q_avoiding : Nat) (q_rows : Nat) (q_told : Nat) (qb : Nat) (qb_cells : Nat) (z_a : Int32) (z_b : Int32) (z_avoiding : Nat → Int64) (z_rows : Nat → Int64) (z_told : Nat → Int32) (zb_cells : Nat → Int32) (x2 : Int32) (x3 : Int32) (x4 : Int32) (r : Int32 × (Nat → Int64) × (Nat → Int32)), fX0_tell d z_a z_b z_avoiding z_rows z_told zb_cells x2 x3 x4 = some r → CtI l yX0_tell wsX0_tell (rmX0_tell d) D cy [.ref q0, .ref qb, .int x2, .int x3, .int x4] [(q0, oB 0 [.ref q_ways, .ref q_avoiding, .ref q_rows, .ref q_told, .int z_a, .int z_b]), (q_avoiding, aJ cy 96 z_avoiding), (q_rows, aJ cy 112 z_rows), (q_told, aI cy 6 z_told), (qb, oB 4 [.ref qb_cells]), (qb_cells, aI cy 24 zb_cells)] [(q0, oB 0 [.ref q_ways, .ref q_avoiding, .ref q_rows, .ref q_told, .int z_a, .int z_b]), (q_avoiding, aJ cy 96 z_avoiding), (q_rows, aJ cy 112 r.2.1), (q_told, aI cy 6 r.2.2), (qb, oB 4 [.ref qb_cells]), (qb_cells, aI cy 24 zb_cells)] r.1 := by
  intro d
  induction d with
  | zero => intro q0 q_ways q_avoiding q_rows q_told qb qb_cells z_a z_b z_avoiding z_rows z_told zb_cells x2 x3 x4 r hf; exact absurd hf (by simp [fX0_tell])
  | succ d ih => intro q0 q_ways q_avoiding q_rows q_told qb qb_cells z_a z_b z_avoiding z_rows z_told zb_cells x2 x3 x4 r hf; exact ktX0_tell_s l D cy (rmX0_tell d) (rmX0_tell (d + 1)) rfl rfl (by show _ ≤ 3 + (d + 1); simp only [rmX0_tell]; omega) (by show _ ≤ 65 + 25 * (d + 1); simp only [rmX0_tell]; omega) (by show _ ≤ 3 + (d + 1); omega) (by show _ ≤ 65 + 25 * (d + 1); omega) (fX0_tell d) ih q0 q_ways q_avoiding q_rows q_told qb qb_cells z_a z_b z_avoiding z_rows z_told zb_cells x2 x3 x4 r hf
theorem ktX0_tell7 (l : Launch) (D : va_G) (cy : Nat → ClassId) (q0 : Nat) (q_ways : Nat) (q_avoiding : Nat) (q_rows : Nat) (q_told : Nat) (qb : Nat) (qb_cells : Nat) (z_a : Int32) (z_b : Int32) (z_avoiding : Nat → Int64) (z_rows : Nat → Int64) (z_told : Nat → Int32) (zb_cells : Nat → Int32) (x2 : Int32) (x3 : Int32) (x4 : Int32) (r : Int32 × (Nat → Int64) × (Nat → Int32)) (hf : fX0_tell 7 z_a z_b z_avoiding z_rows z_told zb_cells x2 x3 x4 = some r) : CtI l yX0_tell wsX0_tell (rmX0_tell 7) D cy [.ref q0, .ref qb, .int x2, .int x3, .int x4] [(q0, oB 0 [.ref q_ways, .ref q_avoiding, .ref q_rows, .ref q_told, .int z_a, .int z_b]), (q_avoiding, aJ cy 96 z_avoiding), (q_rows, aJ cy 112 z_rows), (q_told, aI cy 6 z_told), (qb, oB 4 [.ref qb_cells]), (qb_cells, aI cy 24 zb_cells)] [(q0, oB 0 [.ref q_ways, .ref q_avoiding, .ref q_rows, .ref q_told, .int z_a, .int z_b]), (q_avoiding, aJ cy 96 z_avoiding), (q_rows, aJ cy 112 r.2.1), (q_told, aI cy 6 r.2.2), (qb, oB 4 [.ref qb_cells]), (qb_cells, aI cy 24 zb_cells)] r.1 := ktX0_tell_all l D cy 7 q0 q_ways q_avoiding q_rows q_told qb qb_cells z_a z_b z_avoiding z_rows z_told zb_cells x2 x3 x4 r hf

def X0_fewestTold_S18 (zb_cells : Nat → Int32) (x2 : Int32) (x3 : Int32) (r_12 : (Nat → Int64) × (Nat → Int64)) (self_18 : Int32 → (Nat → Int64) → (Nat → Int32) → Option (Int32 × Int32 × Int32 × (Nat → Int64) × (Nat → Int64) × (Nat → Int32))) (x4_18 : Int32) (z_rows_18 : Nat → Int64) (z_told_18 : Nat → Int32) : Option (Int32 × Int32 × Int32 × (Nat → Int64) × (Nat → Int64) × (Nat → Int32)) := if (4 : Int32) < x4_18 then (some ((-9 : Int32), x2, x3, r_12.1, z_rows_18, z_told_18)) else ((fX0_tell 7 x2 x3 r_12.1 z_rows_18 z_told_18 zb_cells (0 : Int32) x4_18 (0 : Int32)).bind (fun r_30 => if r_30.1 = 0 then (lets (x4_18 + (1 : Int32)) (fun x4_39 => self_18 x4_39 r_30.2.1 r_30.2.2)) else (some (x4_18, x2, x3, r_12.1, r_30.2.1, r_30.2.2))))
def fX0_fewestTold (z_avoiding : Nat → Int64) (z_rows : Nat → Int64) (z_told : Nat → Int32) (zb_cells : Nat → Int32) (x2 : Int32) (x3 : Int32) : Option (Int32 × Int32 × Int32 × (Nat → Int64) × (Nat → Int64) × (Nat → Int32)) := (fX0_prepare z_avoiding z_rows zb_cells).bind (fun r_12 => it3 (X0_fewestTold_S18 zb_cells x2 x3 r_12) 100000 (0 : Int32) r_12.2 z_told)
abbrev rmX0_fewestTold : Room := { frames := 11, cells := 0, slots := 0, locals := 265 }
set_option maxHeartbeats 4000000 in
set_option maxRecDepth 100000 in
theorem ktX0_fewestTold (l : Launch) (D : va_G) (cy : Nat → ClassId) (q0 : Nat) (q_ways : Nat) (q_avoiding : Nat) (q_rows : Nat) (q_told : Nat) (qb : Nat) (qb_cells : Nat) (z_a : Int32) (z_b : Int32) (z_avoiding : Nat → Int64) (z_rows : Nat → Int64) (z_told : Nat → Int32) (zb_cells : Nat → Int32) (x2 : Int32) (x3 : Int32) (r : Int32 × Int32 × Int32 × (Nat → Int64) × (Nat → Int64) × (Nat → Int32)) (hf : fX0_fewestTold z_avoiding z_rows z_told zb_cells x2 x3 = some r) : CtI l yX0_fewestTold wsX0_fewestTold rmX0_fewestTold D cy [.ref q0, .ref qb, .int x2, .int x3] [(q0, oB 0 [.ref q_ways, .ref q_avoiding, .ref q_rows, .ref q_told, .int z_a, .int z_b]), (q_avoiding, aJ cy 96 z_avoiding), (q_rows, aJ cy 112 z_rows), (q_told, aI cy 6 z_told), (qb, oB 4 [.ref qb_cells]), (qb_cells, aI cy 24 zb_cells)] [(q0, oB 0 [.ref q_ways, .ref q_avoiding, .ref q_rows, .ref q_told, .int r.2.1, .int r.2.2.1]), (q_avoiding, aJ cy 96 r.2.2.2.1), (q_rows, aJ cy 112 r.2.2.2.2.1), (q_told, aI cy 6 r.2.2.2.2.2), (qb, oB 4 [.ref qb_cells]), (qb_cells, aI cy 24 zb_cells)] r.1 := by
  refine Ct_ofI (cc := cX0_fewestTold) (nL := 5) (by decide) rfl (Nat.le_of_ble_eq_true rfl) ?_
  intro p e s m args below meth c A Q hM hret hP hD hS ls hl
  obtain ⟨hx, hb, hml, hown, hts, hcx, hA, hsx⟩ := hM
  have hown : s.vm.findClass RX0 = some m.cls := hown
  have hK := hcx.1
  have hN := hcx.2
  have kw0 := hts (.fieldLink RX0 25 "EachBrings$Chances" "a" "I") (List.mem_of_getElem? (i := 1) rfl)
  have kc1 : ∀ w ∈ wsX00, w ∈ wsX0_fewestTold := fun _ h => List.mem_cons_of_mem _ (List.mem_append_left _ (List.mem_append_right _ h))
  have kw2 := hts (.fieldLink RX0 29 "EachBrings$Chances" "b" "I") (List.mem_of_getElem? (i := 2) rfl)
  have hl : lv_has ls 5 [(0, .ref q0), (1, .ref qb), (2, .int x2), (3, .int x3)] := hl
  have hret' : ∀ (pc : Nat) (ls : Array Slot) (H : Heap) (locs : List Loc) (v : Int32) (w0 : Int32) (w1 : Int32) (w2 : Nat → Int64) (w3 : Nat → Int64) (w4 : Nat → Int32), decode cX0_fewestTold pc = .ok (.ireturn, 1) → some (v, w0, w1, w2, w3, w4) = some r → va_P D vwCl [(q0, oB 0 [.ref q_ways, .ref q_avoiding, .ref q_rows, .ref q_told, .int w0, .int w1]), (q_avoiding, aJ cy 96 w2), (q_rows, aJ cy 112 w3), (q_told, aI cy 6 w4), (qb, oB 4 [.ref qb_cells]), (qb_cells, aI cy 24 zb_cells)] H → va_D A [(q0, oB 0 [.ref q_ways, .ref q_avoiding, .ref q_rows, .ref q_told, .int w0, .int w1]), (q_avoiding, aJ cy 96 w2), (q_rows, aJ cy 112 w3), (q_told, aI cy 6 w4), (qb, oB 4 [.ref qb_cells]), (qb_cells, aI cy 24 zb_cells)] → va_S A s.heap H locs → W p l e rmX0_fewestTold s m args below meth c H locs 0 0 Q (F0 m pc ls [.int v]) := by
    intro pc ls H locs v w0 w1 w2 w3 w4 hd he hP hD hS
    cases he
    exact hret _ _ _ _ _ hd rfl hP hD hS
  unfold fX0_fewestTold at hf
  refine lv_aload_n hx hb dX0_fewestTold_0 rfl (lv_at hl 0 rfl) ?_
  refine lv_iload_n hx hb dX0_fewestTold_1 rfl (lv_at hl 2 rfl) ?_
  refine va_put (D := D) (ci := 0) (v := .int x2) (ty := .int) (C := RX0) (T := TX0) (N := 6) hx hb hts kc1 tyX0 tyX0_ok nmX0 hown hK hP hD hS 0 rfl rfl 4 (by decide) kw0 (fun _ h9 => h9) rfl pfI rfl rfl (Nat.le_of_ble_eq_true rfl) dX0_fewestTold_2 (fun H locs hP hD hS => ?_)
  have hP : va_P D vwCl [(q0, oB 0 [.ref q_ways, .ref q_avoiding, .ref q_rows, .ref q_told, .int x2, .int z_b]), (q_avoiding, aJ cy 96 z_avoiding), (q_rows, aJ cy 112 z_rows), (q_told, aI cy 6 z_told), (qb, oB 4 [.ref qb_cells]), (qb_cells, aI cy 24 zb_cells)] H := hP
  have hD : va_D A [(q0, oB 0 [.ref q_ways, .ref q_avoiding, .ref q_rows, .ref q_told, .int x2, .int z_b]), (q_avoiding, aJ cy 96 z_avoiding), (q_rows, aJ cy 112 z_rows), (q_told, aI cy 6 z_told), (qb, oB 4 [.ref qb_cells]), (qb_cells, aI cy 24 zb_cells)] := hD
  refine lv_aload_n hx hb dX0_fewestTold_5 rfl (lv_at hl 0 rfl) ?_
  refine lv_iload_n hx hb dX0_fewestTold_6 rfl (lv_at hl 3 rfl) ?_
  refine va_put (D := D) (ci := 0) (v := .int x3) (ty := .int) (C := RX0) (T := TX0) (N := 6) hx hb hts kc1 tyX0 tyX0_ok nmX0 hown hK hP hD hS 0 rfl rfl 5 (by decide) kw2 (fun _ h9 => h9) rfl pfI rfl rfl (Nat.le_of_ble_eq_true rfl) dX0_fewestTold_7 (fun H locs hP hD hS => ?_)
  have hP : va_P D vwCl [(q0, oB 0 [.ref q_ways, .ref q_avoiding, .ref q_rows, .ref q_told, .int x2, .int x3]), (q_avoiding, aJ cy 96 z_avoiding), (q_rows, aJ cy 112 z_rows), (q_told, aI cy 6 z_told), (qb, oB 4 [.ref qb_cells]), (qb_cells, aI cy 24 zb_cells)] H := hP
  have hD : va_D A [(q0, oB 0 [.ref q_ways, .ref q_avoiding, .ref q_rows, .ref q_told, .int x2, .int x3]), (q_avoiding, aJ cy 96 z_avoiding), (q_rows, aJ cy 112 z_rows), (q_told, aI cy 6 z_told), (qb, oB 4 [.ref qb_cells]), (qb_cells, aI cy 24 zb_cells)] := hD
  refine lv_aload_n hx hb dX0_fewestTold_10 rfl (lv_at hl 0 rfl) ?_
  refine lv_aload_n hx hb dX0_fewestTold_11 rfl (lv_at hl 1 rfl) ?_
  obtain ⟨r_12, hr_12, hf⟩ := bd_some hf
  refine cl_v (wc := [(q0, oB 0 [.ref q_ways, .ref q_avoiding, .ref q_rows, .ref q_told, .int x2, .int x3]), (q_avoiding, aJ cy 96 z_avoiding), (q_rows, aJ cy 112 z_rows), (qb, oB 4 [.ref qb_cells]), (qb_cells, aI cy 24 zb_cells)]) (w1 := [(q0, oB 0 [.ref q_ways, .ref q_avoiding, .ref q_rows, .ref q_told, .int x2, .int x3]), (q_avoiding, aJ cy 96 r_12.1), (q_rows, aJ cy 112 r_12.2), (qb, oB 4 [.ref qb_cells]), (qb_cells, aI cy 24 zb_cells)]) (wr := [(q_told, aI cy 6 z_told)]) (w2 := [(q0, oB 0 [.ref q_ways, .ref q_avoiding, .ref q_rows, .ref q_told, .int x2, .int x3]), (q_avoiding, aJ cy 96 r_12.1), (q_rows, aJ cy 112 r_12.2), (q_told, aI cy 6 z_told), (qb, oB 4 [.ref qb_cells]), (qb_cells, aI cy 24 zb_cells)]) (va_runV (As := [.ref qb]) (rest := []) ⟨hx, hb, hml, hown, hts⟩ (ktX0_prepare l D cy q0 q_ways q_avoiding q_rows q_told qb qb_cells x2 x3 z_avoiding z_rows zb_cells r_12 hr_12 _) (cwV 1 hts gX0_fewestTold_X0_prepare rfl rfl rfl (by decide +kernel) ⟨Nat.le_of_ble_eq_true rfl, Nat.le_of_ble_eq_true rfl⟩) (pre_V (wc := [(q0, oB 0 [.ref q_ways, .ref q_avoiding, .ref q_rows, .ref q_told, .int x2, .int x3]), (q_avoiding, aJ cy 96 z_avoiding), (q_rows, aJ cy 112 z_rows), (qb, oB 4 [.ref qb_cells]), (qb_cells, aI cy 24 zb_cells)]) (ci := 0) hcx hsx hS hA hP hD [0, 1, 2, 4, 5] rfl (by decide) rfl rfl) rfl rfl hl.1 rfl (lv_room (Nat.le_of_ble_eq_true rfl)) dX0_fewestTold_12 ⟨Nat.zero_le _, Nat.zero_le _⟩) hP hD hS hA [0, 1, 2, 4, 5] [3] [1, 2, 3, 0, 4, 5] rfl rfl (by decide) (by decide) (by decide) rfl (fun H locs hP hD hS => ?_)
  refine lv_iconst (v := 0) hx hb dX0_fewestTold_15 (by decide) ?_
  refine lv_istore (lv' := [(4, .int (0 : Int32)), (0, .ref q0), (1, .ref qb), (2, .int x2), (3, .int x3)]) hx hb dX0_fewestTold_16 hl (by decide) rfl (fun ls hl => ?_)
  have hL18 : ∀ (n : Nat) (x4_18 : Int32) (z_rows_18 : Nat → Int64) (z_told_18 : Nat → Int32) (H : Heap) (locs : List Loc) (ls : Array Slot), it3 (X0_fewestTold_S18 zb_cells x2 x3 r_12) n x4_18 z_rows_18 z_told_18 = some r → va_P D vwCl [(q0, oB 0 [.ref q_ways, .ref q_avoiding, .ref q_rows, .ref q_told, .int x2, .int x3]), (q_avoiding, aJ cy 96 r_12.1), (q_rows, aJ cy 112 z_rows_18), (q_told, aI cy 6 z_told_18), (qb, oB 4 [.ref qb_cells]), (qb_cells, aI cy 24 zb_cells)] H → va_D A [(q0, oB 0 [.ref q_ways, .ref q_avoiding, .ref q_rows, .ref q_told, .int x2, .int x3]), (q_avoiding, aJ cy 96 r_12.1), (q_rows, aJ cy 112 z_rows_18), (q_told, aI cy 6 z_told_18), (qb, oB 4 [.ref qb_cells]), (qb_cells, aI cy 24 zb_cells)] → va_S A s.heap H locs → lv_has ls 5 [(0, .ref q0), (1, .ref qb), (4, .int x4_18)] → W p l e rmX0_fewestTold s m args below meth c H locs 0 0 Q (F0 m 18 ls []) := by
    intro n
    induction n with
    | zero => intro x4_18 z_rows_18 z_told_18 H locs ls hf; exact absurd hf (by simp [it3])
    | succ n ih18 =>
      intro x4_18 z_rows_18 z_told_18 H locs ls hf hP hD hS hl
      have hf : X0_fewestTold_S18 zb_cells x2 x3 r_12 (it3 (X0_fewestTold_S18 zb_cells x2 x3 r_12) n) x4_18 z_rows_18 z_told_18 = some r := hf
      generalize it3 (X0_fewestTold_S18 zb_cells x2 x3 r_12) n = self_18 at hf ih18
      unfold X0_fewestTold_S18 at hf
      refine lv_iload hx hb dX0_fewestTold_18 (lv_at hl 2 rfl) ?_
      refine lv_iconst (v := 4) hx hb dX0_fewestTold_20 (by decide) ?_
      refine lv_icmp_gt (tgt := 45) hx hb dX0_fewestTold_21 (by decide) (fun hc_21 => ?_) (fun hc_21 => ?_)
      · have hf := it_t hf hc_21
        refine lv_bipush (v := -9) hx hb dX0_fewestTold_45 (by decide) ?_
        exact hret' _ _ _ _ _ _ _ _ _ _ dX0_fewestTold_47 hf hP hD hS
      · have hf := it_f hf hc_21
        refine lv_aload_n hx hb dX0_fewestTold_24 rfl (lv_at hl 0 rfl) ?_
        refine lv_aload_n hx hb dX0_fewestTold_25 rfl (lv_at hl 1 rfl) ?_
        refine lv_iconst (v := 0) hx hb dX0_fewestTold_26 (by decide) ?_
        refine lv_iload hx hb dX0_fewestTold_27 (lv_at hl 2 rfl) ?_
        refine lv_iconst (v := 0) hx hb dX0_fewestTold_29 (by decide) ?_
        obtain ⟨r_30, hr_30, hf⟩ := bd_some hf
        refine cl_i (wc := [(q0, oB 0 [.ref q_ways, .ref q_avoiding, .ref q_rows, .ref q_told, .int x2, .int x3]), (q_avoiding, aJ cy 96 r_12.1), (q_rows, aJ cy 112 z_rows_18), (q_told, aI cy 6 z_told_18), (qb, oB 4 [.ref qb_cells]), (qb_cells, aI cy 24 zb_cells)]) (w1 := [(q0, oB 0 [.ref q_ways, .ref q_avoiding, .ref q_rows, .ref q_told, .int x2, .int x3]), (q_avoiding, aJ cy 96 r_12.1), (q_rows, aJ cy 112 r_30.2.1), (q_told, aI cy 6 r_30.2.2), (qb, oB 4 [.ref qb_cells]), (qb_cells, aI cy 24 zb_cells)]) (wr := []) (w2 := [(q0, oB 0 [.ref q_ways, .ref q_avoiding, .ref q_rows, .ref q_told, .int x2, .int x3]), (q_avoiding, aJ cy 96 r_12.1), (q_rows, aJ cy 112 r_30.2.1), (q_told, aI cy 6 r_30.2.2), (qb, oB 4 [.ref qb_cells]), (qb_cells, aI cy 24 zb_cells)]) (va_runS (As := [.ref q0, .ref qb, .int (0 : Int32), .int x4_18, .int (0 : Int32)]) (rest := []) ⟨hx, hb, hml, hown, hts⟩ (ktX0_tell7 l D cy q0 q_ways q_avoiding q_rows q_told qb qb_cells x2 x3 r_12.1 z_rows_18 z_told_18 zb_cells (0 : Int32) x4_18 (0 : Int32) r_30 hr_30 _) (va_cwS 5 hts gX0_fewestTold_X0_tell rfl rfl rfl (by decide +kernel) ⟨Nat.le_of_ble_eq_true rfl, Nat.le_of_ble_eq_true rfl⟩) (pre_S (wc := [(q0, oB 0 [.ref q_ways, .ref q_avoiding, .ref q_rows, .ref q_told, .int x2, .int x3]), (q_avoiding, aJ cy 96 r_12.1), (q_rows, aJ cy 112 z_rows_18), (q_told, aI cy 6 z_told_18), (qb, oB 4 [.ref qb_cells]), (qb_cells, aI cy 24 zb_cells)]) hcx hsx hS hA hP hD [0, 1, 2, 3, 4, 5] rfl (by decide)) rfl rfl hl.1 rfl (lv_room (Nat.le_of_ble_eq_true rfl)) dX0_fewestTold_30 ⟨Nat.zero_le _, Nat.zero_le _⟩) hP hD hS hA [0, 1, 2, 3, 4, 5] [] [0, 1, 2, 3, 4, 5] rfl rfl (by decide) (by decide) (by decide) rfl (fun H locs hP hD hS => ?_)
        refine lv_if_eq (tgt := 39) hx hb dX0_fewestTold_33 (by decide) (fun hc_33 => ?_) (fun hc_33 => ?_)
        · have hf := it_t hf hc_33
          obtain ⟨x4_39, ex4_39⟩ : ∃ y : Int32, y = x4_18 + (1 : Int32) := ⟨_, rfl⟩
          have hf := lets_at hf ex4_39
          refine lv_iinc (v := x4_39) (lv' := [(4, .int x4_39), (0, .ref q0), (1, .ref qb)]) hx hb dX0_fewestTold_39 hl (k := 2) rfl (by rw [ex4_39]; rfl) (by decide) rfl (fun ls hl => ?_)
          refine lv_goto (tgt := 18) hx hb dX0_fewestTold_42 (by decide) ?_
          exact ih18 x4_39 r_30.2.1 r_30.2.2 _ _ _ hf hP hD hS (lv_sub hl [1, 2, 0] rfl)
        · have hf := it_f hf hc_33
          refine lv_iload hx hb dX0_fewestTold_36 (lv_at hl 2 rfl) ?_
          exact hret' _ _ _ _ _ _ _ _ _ _ dX0_fewestTold_38 hf hP hD hS
  exact hL18 _ (0 : Int32) r_12.2 z_told _ _ _ hf hP hD hS (lv_sub hl [1, 2, 0] rfl)
