/-! the JDK's own methods over the program's texts -/
def slen (i : Nat) : Int32 := nI (sLen.getD i 0)
def sch (i : Nat) (k : Int32) : Int32 := (((sByt.getD i []).getD k.toNatClampNeg 0 &&& 255).toUInt32 % 65536).toInt32
abbrev rmT0 : Room := { frames := 0, cells := 0, slots := 0, locals := 0 }
abbrev rmT1 : Room := { frames := 1, cells := 0, slots := 0, locals := 60 }
abbrev rmT2 : Room := { frames := 2, cells := 0, slots := 0, locals := 90 }
abbrev rmT3 : Room := { frames := 3, cells := 0, slots := 0, locals := 120 }
set_option maxHeartbeats 4000000 in
set_option maxRecDepth 100000 in
theorem ktJ0_coder (l : Launch) (D : va_G) (cy : Nat → ClassId) (i : Nat) (hi : i < 5) : CtI l yJ0_coder_7d493 wsJ0_coder_7d493 rmT0 D cy [.ref (cy (10 + i))] [] [] 0 := by
  refine Ct_ofT (cc := cJ0_coder_7d493) (nL := 1) .byte (by decide) rfl (Nat.le_of_ble_eq_true rfl) ?_
  intro p e s m args below meth c A Q hM hret hP hD hS ls hl
  obtain ⟨hx, hb, hml, hown, hts, hcx, hA, hsx⟩ := hM
  have hown : s.vm.findClass RJ0 = some m.cls := hown
  have k0 := hts (.fieldLink RJ0 38 "java/lang/String" "COMPACT_STRINGS" "Z") (List.mem_of_getElem? (i := 1) rfl)
  have k1 := hts (.fieldLink RJ0 15 "java/lang/String" "coder" "B") (List.mem_of_getElem? (i := 2) rfl)
  have hl : lv_has ls 1 [(0, .ref (cy (10 + i)))] := hl
  refine va_gets (C := "java/lang/String") (n := "COMPACT_STRINGS") (d := "Z") (v := .int 1) hx hb hsx.2.2.1 hS hown k0 (fun _ h9 => h9) dJ0_coder_7d493_0 ?_
  refine lv_if_eq (tgt := 13) hx hb dJ0_coder_7d493_3 (by decide) (fun h9 => absurd h9 (by decide)) (fun _ => ?_)
  refine lv_aload_n hx hb dJ0_coder_7d493_6 rfl (lv_at hl 0 rfl) ?_
  refine vk_getf (o := "java/lang/String") (n := "coder") (d := "B") (v := .int 0) hx hb (hsx.1.1 i hi).2.1 hS hown k1 (fun _ h9 => h9) dJ0_coder_7d493_7 ?_
  refine lv_goto (tgt := 14) hx hb dJ0_coder_7d493_10 (by decide) ?_
  exact hret _ _ _ _ _ dJ0_coder_7d493_14 (by decide) rfl hP hD hS
set_option maxHeartbeats 4000000 in
set_option maxRecDepth 100000 in
theorem ktJ0_isLatin1 (l : Launch) (D : va_G) (cy : Nat → ClassId) (i : Nat) (hi : i < 5) : CtI l yJ0_isLatin1_aae02 wsJ0_isLatin1_aae02 rmT0 D cy [.ref (cy (10 + i))] [] [] 1 := by
  refine Ct_ofT (cc := cJ0_isLatin1_aae02) (nL := 1) .boolean (by decide) rfl (Nat.le_of_ble_eq_true rfl) ?_
  intro p e s m args below meth c A Q hM hret hP hD hS ls hl
  obtain ⟨hx, hb, hml, hown, hts, hcx, hA, hsx⟩ := hM
  have hown : s.vm.findClass RJ0 = some m.cls := hown
  have k0 := hts (.fieldLink RJ0 38 "java/lang/String" "COMPACT_STRINGS" "Z") (List.mem_of_getElem? (i := 1) rfl)
  have k1 := hts (.fieldLink RJ0 15 "java/lang/String" "coder" "B") (List.mem_of_getElem? (i := 2) rfl)
  have hl : lv_has ls 1 [(0, .ref (cy (10 + i)))] := hl
  refine va_gets (C := "java/lang/String") (n := "COMPACT_STRINGS") (d := "Z") (v := .int 1) hx hb hsx.2.2.1 hS hown k0 (fun _ h9 => h9) dJ0_isLatin1_aae02_0 ?_
  refine lv_if_eq (tgt := 17) hx hb dJ0_isLatin1_aae02_3 (by decide) (fun h9 => absurd h9 (by decide)) (fun _ => ?_)
  refine lv_aload_n hx hb dJ0_isLatin1_aae02_6 rfl (lv_at hl 0 rfl) ?_
  refine vk_getf (o := "java/lang/String") (n := "coder") (d := "B") (v := .int 0) hx hb (hsx.1.1 i hi).2.1 hS hown k1 (fun _ h9 => h9) dJ0_isLatin1_aae02_7 ?_
  refine lv_if_ne (tgt := 17) hx hb dJ0_isLatin1_aae02_10 (by decide) (fun h9 => absurd rfl h9) (fun _ => ?_)
  refine lv_iconst (v := 1) hx hb dJ0_isLatin1_aae02_13 (by decide) ?_
  refine lv_goto (tgt := 18) hx hb dJ0_isLatin1_aae02_14 (by decide) ?_
  exact hret _ _ _ _ _ dJ0_isLatin1_aae02_18 (by decide) rfl hP hD hS
set_option maxHeartbeats 4000000 in
set_option maxRecDepth 100000 in
theorem ktJ0_length (l : Launch) (D : va_G) (cy : Nat → ClassId) (i : Nat) (hi : i < 5) : CtI l yJ0_length_8abf5 wsJ0_length_8abf5 rmT1 D cy [.ref (cy (10 + i))] [] [] (slen i) := by
  refine Ct_ofI (cc := cJ0_length_8abf5) (nL := 1) (by decide) rfl (Nat.le_of_ble_eq_true rfl) ?_
  intro p e s m args below meth c A Q hM hret hP hD hS ls hl
  obtain ⟨hx, hb, hml, hown, hts, hcx, hA, hsx⟩ := hM
  have hown : s.vm.findClass RJ0 = some m.cls := hown
  have k0 := hts (.fieldLink RJ0 9 "java/lang/String" "value" "[B") (List.mem_of_getElem? (i := 1) rfl)
  have hl : lv_has ls 1 [(0, .ref (cy (10 + i)))] := hl
  refine lv_aload_n hx hb dJ0_length_8abf5_0 rfl (lv_at hl 0 rfl) ?_
  refine vk_getf (o := "java/lang/String") (n := "value") (d := "[B") (v := .ref (cy (20 + i))) hx hb (hsx.1.1 i hi).2.2.1 hS hown k0 (fun _ h9 => h9) dJ0_length_8abf5_1 ?_
  refine va_tlen (v := slen i) hx hb (hsx.1.1 i hi).2.2.2 hS rfl dJ0_length_8abf5_4 ?_
  refine lv_aload_n hx hb dJ0_length_8abf5_5 rfl (lv_at hl 0 rfl) ?_
  refine cl_i (wc := []) (w1 := []) (wr := []) (w2 := []) (va_runV (As := []) (rest := [.int (slen i)]) ⟨hx, hb, hml, hown, hts⟩ (ktJ0_coder l D cy i hi _) (cwV 0 hts gJ0_length_8abf5_J0_coder_7d493 rfl rfl rfl (by decide +kernel) ⟨Nat.le_of_ble_eq_true rfl, Nat.le_of_ble_eq_true rfl⟩) (pre_T hi hcx hsx hS hA hP hD) rfl rfl hl.1 rfl (lv_room (Nat.le_of_ble_eq_true rfl)) dJ0_length_8abf5_6 ⟨Nat.zero_le _, Nat.zero_le _⟩) hP hD hS hA [] [] [] rfl rfl rfl (by decide) rfl rfl (fun H locs hP hD hS => ?_)
  refine lv_ishr hx hb dJ0_length_8abf5_9 ?_
  exact hret _ _ _ _ _ dJ0_length_8abf5_10 (sb_shr0 _) hP hD hS
set_option maxHeartbeats 4000000 in
set_option maxRecDepth 100000 in
theorem ktJ3_checkIndex_n (l : Launch) (D : va_G) (cy : Nat → ClassId) (x0 x1 : Int32) (h0 : ¬ x0 < 0) (h1 : x0 < x1) : CtI l yJ3_checkIndex_8e157 wsJ3_checkIndex_8e157 rmT0 D cy [.int x0, .int x1, .null] [] [] x0 := by
  refine Ct_ofI (cc := cJ3_checkIndex_8e157) (nL := 3) (by decide) rfl (Nat.le_of_ble_eq_true rfl) ?_
  intro p e s m args below meth c A Q hM hret hP hD hS ls hl
  obtain ⟨hx, hb, hml, hown, hts, hcx, hA, hsx⟩ := hM
  have hl : lv_has ls 3 [(0, .int x0), (1, .int x1), (2, .null)] := hl
  refine lv_iload_n hx hb dJ3_checkIndex_8e157_0 rfl (lv_at hl 0 rfl) ?_
  refine lv_if_lt (tgt := 9) hx hb dJ3_checkIndex_8e157_1 (by decide) (fun h9 => absurd h9 h0) (fun _ => ?_)
  refine lv_iload_n hx hb dJ3_checkIndex_8e157_4 rfl (lv_at hl 0 rfl) ?_
  refine lv_iload_n hx hb dJ3_checkIndex_8e157_5 rfl (lv_at hl 1 rfl) ?_
  refine lv_icmp_lt (tgt := 16) hx hb dJ3_checkIndex_8e157_6 (by decide) (fun _ => ?_) (fun h9 => absurd h1 h9)
  refine lv_iload_n hx hb dJ3_checkIndex_8e157_16 rfl (lv_at hl 0 rfl) ?_
  exact hret _ _ _ _ _ dJ3_checkIndex_8e157_17 rfl hP hD hS
set_option maxHeartbeats 4000000 in
set_option maxRecDepth 100000 in
theorem ktJ3_checkIndex_r (l : Launch) (D : va_G) (cy : Nat → ClassId) (fq : Nat) (x0 x1 : Int32) (h0 : ¬ x0 < 0) (h1 : x0 < x1) : CtI l yJ3_checkIndex_8e157 wsJ3_checkIndex_8e157 rmT0 D cy [.int x0, .int x1, .ref fq] [] [] x0 := by
  refine Ct_ofI (cc := cJ3_checkIndex_8e157) (nL := 3) (by decide) rfl (Nat.le_of_ble_eq_true rfl) ?_
  intro p e s m args below meth c A Q hM hret hP hD hS ls hl
  obtain ⟨hx, hb, hml, hown, hts, hcx, hA, hsx⟩ := hM
  have hl : lv_has ls 3 [(0, .int x0), (1, .int x1), (2, .ref fq)] := hl
  refine lv_iload_n hx hb dJ3_checkIndex_8e157_0 rfl (lv_at hl 0 rfl) ?_
  refine lv_if_lt (tgt := 9) hx hb dJ3_checkIndex_8e157_1 (by decide) (fun h9 => absurd h9 h0) (fun _ => ?_)
  refine lv_iload_n hx hb dJ3_checkIndex_8e157_4 rfl (lv_at hl 0 rfl) ?_
  refine lv_iload_n hx hb dJ3_checkIndex_8e157_5 rfl (lv_at hl 1 rfl) ?_
  refine lv_icmp_lt (tgt := 16) hx hb dJ3_checkIndex_8e157_6 (by decide) (fun _ => ?_) (fun h9 => absurd h1 h9)
  refine lv_iload_n hx hb dJ3_checkIndex_8e157_16 rfl (lv_at hl 0 rfl) ?_
  exact hret _ _ _ _ _ dJ3_checkIndex_8e157_17 rfl hP hD hS
set_option maxHeartbeats 4000000 in
set_option maxRecDepth 100000 in
theorem ktJ0_checkIndex (l : Launch) (D : va_G) (cy : Nat → ClassId) (x0 x1 : Int32) (h0 : ¬ x0 < 0) (h1 : x0 < x1) : CtV l yJ0_checkIndex_df160 wsJ0_checkIndex_df160 rmT1 D cy [.int x0, .int x1] [] [] := by
  refine Ct_ofV (cc := cJ0_checkIndex_df160) (nL := 2) (by decide) rfl (Nat.le_of_ble_eq_true rfl) ?_
  intro p e s m args below meth c A Q hM hret hP hD hS ls hl
  obtain ⟨hx, hb, hml, hown, hts, hcx, hA, hsx⟩ := hM
  have hown : s.vm.findClass RJ0 = some m.cls := hown
  have k0 := hts (.fieldLink RJ0 1053 "jdk/internal/util/Preconditions" "SIOOBE_FORMATTER" "Ljava/util/function/BiFunction;") (List.mem_of_getElem? (i := 1) rfl)
  have hl : lv_has ls 2 [(0, .int x0), (1, .int x1)] := hl
  refine lv_iload_n hx hb dJ0_checkIndex_df160_0 rfl (lv_at hl 0 rfl) ?_
  refine lv_iload_n hx hb dJ0_checkIndex_df160_1 rfl (lv_at hl 1 rfl) ?_
  rcases hsx.2.2.2 with hz | ⟨fq, hz⟩
  · refine va_gets (C := "jdk/internal/util/Preconditions") (n := "SIOOBE_FORMATTER") (d := "Ljava/util/function/BiFunction;") (v := .null) hx hb hz hS hown k0 (fun _ h9 => h9) dJ0_checkIndex_df160_2 ?_
    refine cl_i (wc := []) (w1 := []) (wr := []) (w2 := []) (va_runS (As := [.int x0, .int x1, .null]) (rest := []) ⟨hx, hb, hml, hown, hts⟩ (ktJ3_checkIndex_n l D cy x0 x1 h0 h1 _) (va_cwS 3 hts gJ0_checkIndex_df160_J3_checkIndex_8e157 rfl rfl rfl (by decide +kernel) ⟨Nat.le_of_ble_eq_true rfl, Nat.le_of_ble_eq_true rfl⟩) (pre_S (wc := []) hcx hsx hS hA hP hD [] rfl rfl) rfl rfl hl.1 rfl (lv_room (Nat.le_of_ble_eq_true rfl)) dJ0_checkIndex_df160_5 ⟨Nat.zero_le _, Nat.zero_le _⟩) hP hD hS hA [] [] [] rfl rfl rfl (by decide) rfl rfl (fun H locs hP hD hS => ?_)
    refine lv_pop hx hb dJ0_checkIndex_df160_8 rfl ?_
    exact hret _ _ _ _ dJ0_checkIndex_df160_9 hP hD hS
  · refine va_gets (C := "jdk/internal/util/Preconditions") (n := "SIOOBE_FORMATTER") (d := "Ljava/util/function/BiFunction;") (v := .ref fq) hx hb hz hS hown k0 (fun _ h9 => h9) dJ0_checkIndex_df160_2 ?_
    refine cl_i (wc := []) (w1 := []) (wr := []) (w2 := []) (va_runS (As := [.int x0, .int x1, .ref fq]) (rest := []) ⟨hx, hb, hml, hown, hts⟩ (ktJ3_checkIndex_r l D cy fq x0 x1 h0 h1 _) (va_cwS 3 hts gJ0_checkIndex_df160_J3_checkIndex_8e157 rfl rfl rfl (by decide +kernel) ⟨Nat.le_of_ble_eq_true rfl, Nat.le_of_ble_eq_true rfl⟩) (pre_S (wc := []) hcx hsx hS hA hP hD [] rfl rfl) rfl rfl hl.1 rfl (lv_room (Nat.le_of_ble_eq_true rfl)) dJ0_checkIndex_df160_5 ⟨Nat.zero_le _, Nat.zero_le _⟩) hP hD hS hA [] [] [] rfl rfl rfl (by decide) rfl rfl (fun H locs hP hD hS => ?_)
    refine lv_pop hx hb dJ0_checkIndex_df160_8 rfl ?_
    exact hret _ _ _ _ dJ0_checkIndex_df160_9 hP hD hS
set_option maxHeartbeats 4000000 in
set_option maxRecDepth 100000 in
theorem ktJ1_charAt (l : Launch) (D : va_G) (cy : Nat → ClassId) (i : Nat) (hi : i < 5) (x1 : Int32) (h0 : okx x1 (sLen.getD i 0)) (h1 : x1 < slen i) : CtI l yJ1_charAt_3b067 wsJ1_charAt_3b067 rmT2 D cy [.ref (cy (20 + i)), .int x1] [] [] (sch i x1) := by
  refine Ct_ofT (cc := cJ1_charAt_3b067) (nL := 2) .char (by decide) rfl (Nat.le_of_ble_eq_true rfl) ?_
  intro p e s m args below meth c A Q hM hret hP hD hS ls hl
  obtain ⟨hx, hb, hml, hown, hts, hcx, hA, hsx⟩ := hM
  have hown : s.vm.findClass RJ1 = some m.cls := hown
  have hl : lv_has ls 2 [(0, .ref (cy (20 + i))), (1, .int x1)] := hl
  refine lv_iload_n hx hb dJ1_charAt_3b067_0 rfl (lv_at hl 1 rfl) ?_
  refine lv_aload_n hx hb dJ1_charAt_3b067_1 rfl (lv_at hl 0 rfl) ?_
  refine va_tlen (v := slen i) hx hb (hsx.1.1 i hi).2.2.2 hS rfl dJ1_charAt_3b067_2 ?_
  refine cl_v (wc := []) (w1 := []) (wr := []) (w2 := []) (va_runS (As := [.int x1, .int (slen i)]) (rest := []) ⟨hx, hb, hml, hown, hts⟩ (ktJ0_checkIndex l D cy x1 (slen i) (fun h9 => h0 (Or.inl h9)) h1 _) (va_cwS 2 hts gJ1_charAt_3b067_J0_checkIndex_df160 rfl rfl rfl (by decide +kernel) ⟨Nat.le_of_ble_eq_true rfl, Nat.le_of_ble_eq_true rfl⟩) (pre_S (wc := []) hcx hsx hS hA hP hD [] rfl rfl) rfl rfl hl.1 rfl (lv_room (Nat.le_of_ble_eq_true rfl)) dJ1_charAt_3b067_3 ⟨Nat.zero_le _, Nat.zero_le _⟩) hP hD hS hA [] [] [] rfl rfl rfl (by decide) rfl rfl (fun H locs hP hD hS => ?_)
  refine lv_aload_n hx hb dJ1_charAt_3b067_6 rfl (lv_at hl 0 rfl) ?_
  refine lv_iload_n hx hb dJ1_charAt_3b067_7 rfl (lv_at hl 1 rfl) ?_
  refine va_tb (v := .int ((sByt.getD i []).getD x1.toNatClampNeg 0)) hx hb (hsx.1.1 i hi).2.2.2 hS h0 rfl dJ1_charAt_3b067_8 ?_
  refine lv_sipush (v := 255) hx hb dJ1_charAt_3b067_9 (by decide) ?_
  refine lv_iand hx hb dJ1_charAt_3b067_12 ?_
  refine lv_i2c (v := sch i x1) hx hb dJ1_charAt_3b067_13 rfl ?_
  exact hret _ _ _ _ _ dJ1_charAt_3b067_14 (pk_nc _) rfl hP hD hS
set_option maxHeartbeats 4000000 in
set_option maxRecDepth 100000 in
theorem ktJ0_charAt (l : Launch) (D : va_G) (cy : Nat → ClassId) (i : Nat) (hi : i < 5) (x1 : Int32) (h0 : okx x1 (sLen.getD i 0)) (h1 : x1 < slen i) : CtI l yJ0_charAt_5068e wsJ0_charAt_5068e rmT3 D cy [.ref (cy (10 + i)), .int x1] [] [] (sch i x1) := by
  refine Ct_ofT (cc := cJ0_charAt_5068e) (nL := 2) .char (by decide) rfl (Nat.le_of_ble_eq_true rfl) ?_
  intro p e s m args below meth c A Q hM hret hP hD hS ls hl
  obtain ⟨hx, hb, hml, hown, hts, hcx, hA, hsx⟩ := hM
  have hown : s.vm.findClass RJ0 = some m.cls := hown
  have k0 := hts (.fieldLink RJ0 9 "java/lang/String" "value" "[B") (List.mem_of_getElem? (i := 1) rfl)
  have hl : lv_has ls 2 [(0, .ref (cy (10 + i))), (1, .int x1)] := hl
  refine lv_aload_n hx hb dJ0_charAt_5068e_0 rfl (lv_at hl 0 rfl) ?_
  refine cl_i (wc := []) (w1 := []) (wr := []) (w2 := []) (va_runV (As := []) (rest := []) ⟨hx, hb, hml, hown, hts⟩ (ktJ0_isLatin1 l D cy i hi _) (cwV 0 hts gJ0_charAt_5068e_J0_isLatin1_aae02 rfl rfl rfl (by decide +kernel) ⟨Nat.le_of_ble_eq_true rfl, Nat.le_of_ble_eq_true rfl⟩) (pre_T hi hcx hsx hS hA hP hD) rfl rfl hl.1 rfl (lv_room (Nat.le_of_ble_eq_true rfl)) dJ0_charAt_5068e_1 ⟨Nat.zero_le _, Nat.zero_le _⟩) hP hD hS hA [] [] [] rfl rfl rfl (by decide) rfl rfl (fun H locs hP hD hS => ?_)
  refine lv_if_eq (tgt := 16) hx hb dJ0_charAt_5068e_4 (by decide) (fun h9 => absurd h9 (by decide)) (fun _ => ?_)
  refine lv_aload_n hx hb dJ0_charAt_5068e_7 rfl (lv_at hl 0 rfl) ?_
  refine vk_getf (o := "java/lang/String") (n := "value") (d := "[B") (v := .ref (cy (20 + i))) hx hb (hsx.1.1 i hi).2.2.1 hS hown k0 (fun _ h9 => h9) dJ0_charAt_5068e_8 ?_
  refine lv_iload_n hx hb dJ0_charAt_5068e_11 rfl (lv_at hl 1 rfl) ?_
  refine cl_i (wc := []) (w1 := []) (wr := []) (w2 := []) (va_runS (As := [.ref (cy (20 + i)), .int x1]) (rest := []) ⟨hx, hb, hml, hown, hts⟩ (ktJ1_charAt l D cy i hi x1 h0 h1 _) (va_cwS 2 hts gJ0_charAt_5068e_J1_charAt_3b067 rfl rfl rfl (by decide +kernel) ⟨Nat.le_of_ble_eq_true rfl, Nat.le_of_ble_eq_true rfl⟩) (pre_S (wc := []) hcx hsx hS hA hP hD [] rfl rfl) rfl rfl hl.1 rfl (lv_room (Nat.le_of_ble_eq_true rfl)) dJ0_charAt_5068e_12 ⟨Nat.zero_le _, Nat.zero_le _⟩) hP hD hS hA [] [] [] rfl rfl rfl (by decide) rfl rfl (fun H locs hP hD hS => ?_)
  exact hret _ _ _ _ _ dJ0_charAt_5068e_15 (pk_nc _) rfl hP hD hS

def X2_add_S8 (x1 : Int64) (self_8 : Int32 → Int32 → (Nat → Int32) → Option (Int32 × (Nat → Int32))) (x4_8 : Int32) (z_length_8 : Int32) (z_bytes_8 : Nat → Int32) : Option (Int32 × (Nat → Int32)) := if x4_8 < 0 then (some (z_length_8, z_bytes_8)) else (if (300 : Int32) ≤ z_length_8 then (some (z_length_8, z_bytes_8)) else (gd (okx z_length_8 300) (lets (upd z_bytes_8 z_length_8.toNatClampNeg (vp_nar .byte (((x1 >>> (x4_8.toInt64 &&& 63)).toInt32).toInt8.toInt32))) (fun z_bytes_37 => lets (z_length_8 + (1 : Int32)) (fun z_length_45 => lets (x4_8 + (-8 : Int32)) (fun x4_48 => self_8 x4_48 z_length_45 z_bytes_37))))))
def fX2_add (z_length : Int32) (z_bytes : Nat → Int32) (x1 : Int64) (x3 : Int32) : Option (Int32 × (Nat → Int32)) := lets ((8 : Int32) * (x3 - (1 : Int32))) (fun x4_6 => it3 (X2_add_S8 x1) 100000 x4_6 z_length z_bytes)
abbrev rmX2_add : Room := { frames := 0, cells := 0, slots := 0, locals := 0 }
set_option maxHeartbeats 4000000 in
set_option maxRecDepth 100000 in
theorem ktX2_add (l : Launch) (D : va_G) (cy : Nat → ClassId) (q0 : Nat) (q_bytes : Nat) (q_draft : Nat) (q_numbers : Nat) (z_length : Int32) (z_at : Int32) (z_place : Int32) (z_token : Int32) (z_number : Int32) (z_item : Int32) (z_taken : Int32) (z_once : Int32) (z_bytes : Nat → Int32) (x1 : Int64) (x3 : Int32) (r : Int32 × (Nat → Int32)) (hf : fX2_add z_length z_bytes x1 x3 = some r) : CtV l yX2_add wsX2_add rmX2_add D cy [.ref q0, .long x1, .int x3] [(q0, oB 2 [.ref q_bytes, .ref q_draft, .ref q_numbers, .int z_length, .int z_at, .int z_place, .int z_token, .int z_number, .int z_item, .int z_taken, .int z_once]), (q_bytes, aB cy 300 z_bytes)] [(q0, oB 2 [.ref q_bytes, .ref q_draft, .ref q_numbers, .int r.1, .int z_at, .int z_place, .int z_token, .int z_number, .int z_item, .int z_taken, .int z_once]), (q_bytes, aB cy 300 r.2)] := by
  refine Ct_ofV (cc := cX2_add) (nL := 5) (by decide) rfl (Nat.le_of_ble_eq_true rfl) ?_
  intro p e s m args below meth c A Q hM hret hP hD hS ls hl
  obtain ⟨hx, hb, hml, hown, hts, hcx, hA, hsx⟩ := hM
  have hown : s.vm.findClass RX2 = some m.cls := hown
  have hK := hcx.1
  have hN := hcx.2
  have kw0 := hts (.fieldLink RX2 26 "EachBrings$Text" "length" "I") (List.mem_of_getElem? (i := 1) rfl)
  have kc1 : ∀ w ∈ wsX20, w ∈ wsX2_add := fun _ h => List.mem_cons_of_mem _ (List.mem_append_right _ h)
  have kw2 := hts (.fieldLink RX2 9 "EachBrings$Text" "bytes" "[B") (List.mem_of_getElem? (i := 2) rfl)
  have hl : lv_has ls 5 [(0, .ref q0), (1, .long x1), (3, .int x3)] := hl
  have hret' : ∀ (pc : Nat) (ls : Array Slot) (H : Heap) (locs : List Loc) (w0 : Int32) (w1 : Nat → Int32), decode cX2_add pc = .ok (.return_, 1) → some (w0, w1) = some r → va_P D vwCl [(q0, oB 2 [.ref q_bytes, .ref q_draft, .ref q_numbers, .int w0, .int z_at, .int z_place, .int z_token, .int z_number, .int z_item, .int z_taken, .int z_once]), (q_bytes, aB cy 300 w1)] H → va_D A [(q0, oB 2 [.ref q_bytes, .ref q_draft, .ref q_numbers, .int w0, .int z_at, .int z_place, .int z_token, .int z_number, .int z_item, .int z_taken, .int z_once]), (q_bytes, aB cy 300 w1)] → va_S A s.heap H locs → W p l e rmX2_add s m args below meth c H locs 0 0 Q (F0 m pc ls []) := by
    intro pc ls H locs w0 w1 hd he hP hD hS
    cases he
    exact hret _ _ _ _ hd hP hD hS
  unfold fX2_add at hf
  refine lv_bipush (v := 8) hx hb dX2_add_0 (by decide) ?_
  refine lv_iload_n hx hb dX2_add_2 rfl (lv_at hl 2 rfl) ?_
  refine lv_iconst (v := 1) hx hb dX2_add_3 (by decide) ?_
  refine lv_isub hx hb dX2_add_4 ?_
  refine lv_imul hx hb dX2_add_5 ?_
  refine lv_topi (fun x4_6 ex4_6 => ?_)
  have hf := lets_at hf ex4_6
  refine lv_istore (lv' := [(4, .int x4_6), (0, .ref q0), (1, .long x1), (3, .int x3)]) hx hb dX2_add_6 hl (by decide) rfl (fun ls hl => ?_)
  have hL8 : ∀ (n : Nat) (x4_8 : Int32) (z_length_8 : Int32) (z_bytes_8 : Nat → Int32) (H : Heap) (locs : List Loc) (ls : Array Slot), it3 (X2_add_S8 x1) n x4_8 z_length_8 z_bytes_8 = some r → va_P D vwCl [(q0, oB 2 [.ref q_bytes, .ref q_draft, .ref q_numbers, .int z_length_8, .int z_at, .int z_place, .int z_token, .int z_number, .int z_item, .int z_taken, .int z_once]), (q_bytes, aB cy 300 z_bytes_8)] H → va_D A [(q0, oB 2 [.ref q_bytes, .ref q_draft, .ref q_numbers, .int z_length_8, .int z_at, .int z_place, .int z_token, .int z_number, .int z_item, .int z_taken, .int z_once]), (q_bytes, aB cy 300 z_bytes_8)] → va_S A s.heap H locs → lv_has ls 5 [(0, .ref q0), (1, .long x1), (4, .int x4_8)] → W p l e rmX2_add s m args below meth c H locs 0 0 Q (F0 m 8 ls []) := by
    intro n
    induction n with
    | zero => intro x4_8 z_length_8 z_bytes_8 H locs ls hf; exact absurd hf (by simp [it3])
    | succ n ih8 =>
      intro x4_8 z_length_8 z_bytes_8 H locs ls hf hP hD hS hl
      have hf : X2_add_S8 x1 (it3 (X2_add_S8 x1) n) x4_8 z_length_8 z_bytes_8 = some r := hf
      generalize it3 (X2_add_S8 x1) n = self_8 at hf ih8
      unfold X2_add_S8 at hf
      refine lv_iload hx hb dX2_add_8 (lv_at hl 2 rfl) ?_
      refine lv_if_lt (tgt := 54) hx hb dX2_add_10 (by decide) (fun hc_10 => ?_) (fun hc_10 => ?_)
      · have hf := it_t hf hc_10
        exact hret' _ _ _ _ _ _ dX2_add_54 hf hP hD hS
      · have hf := it_f hf hc_10
        refine lv_aload_n hx hb dX2_add_13 rfl (lv_at hl 0 rfl) ?_
        refine va_get (D := D) (ci := 2) (v := .int z_length_8) (C := RX2) (T := TX2) (N := 11) hx hb hts kc1 hown hK hP 0 rfl rfl 3 (by decide) kw0 (fun _ h9 => h9) rfl dX2_add_14 ?_
        refine lv_sipush (v := 300) hx hb dX2_add_17 (by decide) ?_
        refine lv_icmp_ge (tgt := 54) hx hb dX2_add_20 (by decide) (fun hc_20 => ?_) (fun hc_20 => ?_)
        · have hf := it_t hf hc_20
          exact hret' _ _ _ _ _ _ dX2_add_54 hf hP hD hS
        · have hf := it_f hf hc_20
          refine lv_aload_n hx hb dX2_add_23 rfl (lv_at hl 0 rfl) ?_
          refine va_get (D := D) (ci := 2) (v := .ref q_bytes) (C := RX2) (T := TX2) (N := 11) hx hb hts kc1 hown hK hP 0 rfl rfl 0 (by decide) kw2 (fun _ h9 => h9) rfl dX2_add_24 ?_
          refine lv_aload_n hx hb dX2_add_27 rfl (lv_at hl 0 rfl) ?_
          refine va_get (D := D) (ci := 2) (v := .int z_length_8) (C := RX2) (T := TX2) (N := 11) hx hb hts kc1 hown hK hP 0 rfl rfl 3 (by decide) kw0 (fun _ h9 => h9) rfl dX2_add_28 ?_
          refine lv_lload_n hx hb dX2_add_31 rfl (lv_at hl 1 rfl) ?_
          refine lv_iload hx hb dX2_add_32 (lv_at hl 2 rfl) ?_
          refine lv_lshr (v := x1 >>> (x4_8.toInt64 &&& 63)) hx hb dX2_add_34 rfl ?_
          refine lv_l2i (v := (x1 >>> (x4_8.toInt64 &&& 63)).toInt32) hx hb dX2_add_35 rfl ?_
          refine lv_i2b (v := ((x1 >>> (x4_8.toInt64 &&& 63)).toInt32).toInt8.toInt32) hx hb dX2_add_36 rfl ?_
          obtain ⟨hg_37, hf⟩ := gd_some hf
          refine va_bast hx hb hK hP hD hS 1 2 rfl rfl hg_37 dX2_add_37 (fun H locs hP hD hS => ?_)
          obtain ⟨z_bytes_37, ez_bytes_37⟩ : ∃ y : Nat → Int32, y = upd z_bytes_8 z_length_8.toNatClampNeg (vp_nar .byte (((x1 >>> (x4_8.toInt64 &&& 63)).toInt32).toInt8.toInt32)) := ⟨_, rfl⟩
          have hf := lets_at hf ez_bytes_37
          rw [← ez_bytes_37] at hP hD
          have hP : va_P D vwCl [(q0, oB 2 [.ref q_bytes, .ref q_draft, .ref q_numbers, .int z_length_8, .int z_at, .int z_place, .int z_token, .int z_number, .int z_item, .int z_taken, .int z_once]), (q_bytes, aB cy 300 z_bytes_37)] H := hP
          have hD : va_D A [(q0, oB 2 [.ref q_bytes, .ref q_draft, .ref q_numbers, .int z_length_8, .int z_at, .int z_place, .int z_token, .int z_number, .int z_item, .int z_taken, .int z_once]), (q_bytes, aB cy 300 z_bytes_37)] := hD
          refine lv_aload_n hx hb dX2_add_38 rfl (lv_at hl 0 rfl) ?_
          refine lv_dup hx hb dX2_add_39 rfl ?_
          refine va_get (D := D) (ci := 2) (v := .int z_length_8) (C := RX2) (T := TX2) (N := 11) hx hb hts kc1 hown hK hP 0 rfl rfl 3 (by decide) kw0 (fun _ h9 => h9) rfl dX2_add_40 ?_
          refine lv_iconst (v := 1) hx hb dX2_add_43 (by decide) ?_
          refine lv_iadd hx hb dX2_add_44 ?_
          refine lv_topi (fun z_length_45 ez_length_45 => ?_)
          have hf := lets_at hf ez_length_45
          refine va_put (D := D) (ci := 2) (v := .int z_length_45) (ty := .int) (C := RX2) (T := TX2) (N := 11) hx hb hts kc1 tyX2 tyX2_ok nmX2 hown hK hP hD hS 0 rfl rfl 3 (by decide) kw0 (fun _ h9 => h9) rfl pfI rfl rfl (Nat.le_of_ble_eq_true rfl) dX2_add_45 (fun H locs hP hD hS => ?_)
          have hP : va_P D vwCl [(q0, oB 2 [.ref q_bytes, .ref q_draft, .ref q_numbers, .int z_length_45, .int z_at, .int z_place, .int z_token, .int z_number, .int z_item, .int z_taken, .int z_once]), (q_bytes, aB cy 300 z_bytes_37)] H := hP
          have hD : va_D A [(q0, oB 2 [.ref q_bytes, .ref q_draft, .ref q_numbers, .int z_length_45, .int z_at, .int z_place, .int z_token, .int z_number, .int z_item, .int z_taken, .int z_once]), (q_bytes, aB cy 300 z_bytes_37)] := hD
          obtain ⟨x4_48, ex4_48⟩ : ∃ y : Int32, y = x4_8 + (-8 : Int32) := ⟨_, rfl⟩
          have hf := lets_at hf ex4_48
          refine lv_iinc (v := x4_48) (lv' := [(4, .int x4_48), (0, .ref q0), (1, .long x1)]) hx hb dX2_add_48 hl (k := 2) rfl (by rw [ex4_48]; rfl) (by decide) rfl (fun ls hl => ?_)
          refine lv_goto (tgt := 8) hx hb dX2_add_51 (by decide) ?_
          exact ih8 x4_48 z_length_45 z_bytes_37 _ _ _ hf hP hD hS (lv_sub hl [1, 2, 0] rfl)
  exact hL8 _ x4_6 z_length z_bytes _ _ _ hf hP hD hS (lv_sub hl [1, 2, 0] rfl)

def fX2_isLetter (x0 : Int32) : Option Int32 := if x0 < (97 : Int32) then (some (0 : Int32)) else (if (122 : Int32) < x0 then (some (0 : Int32)) else (some (1 : Int32)))
abbrev rmX2_isLetter : Room := { frames := 0, cells := 0, slots := 0, locals := 0 }
set_option maxHeartbeats 4000000 in
set_option maxRecDepth 100000 in
theorem ktX2_isLetter (l : Launch) (D : va_G) (cy : Nat → ClassId) (x0 : Int32) (r : Int32) (hf : fX2_isLetter x0 = some r) : CtI l yX2_isLetter wsX2_isLetter rmX2_isLetter D cy [.int x0] [] [] r := by
  refine Ct_ofZ (cc := cX2_isLetter) (nL := 1) (by decide) rfl (Nat.le_of_ble_eq_true rfl) ?_
  intro p e s m args below meth c A Q hM hret hP hD hS ls hl
  obtain ⟨hx, hb, hml, hown, hts, hcx, hA, hsx⟩ := hM
  have hown : s.vm.findClass RX2 = some m.cls := hown
  have hK := hcx.1
  have hN := hcx.2
  have hl : lv_has ls 1 [(0, .int x0)] := hl
  have hret' : ∀ (pc : Nat) (ls : Array Slot) (H : Heap) (locs : List Loc) (v : Int32), decode cX2_isLetter pc = .ok (.ireturn, 1) → isB v → some v = some r → va_P D vwCl [] H → va_D A [] → va_S A s.heap H locs → W p l e rmX2_isLetter s m args below meth c H locs 0 0 Q (F0 m pc ls [.int v]) := by
    intro pc ls H locs v hd hbv he hP hD hS
    cases he
    exact hret _ _ _ _ _ hd hbv rfl hP hD hS
  unfold fX2_isLetter at hf
  refine lv_iload_n hx hb dX2_isLetter_0 rfl (lv_at hl 0 rfl) ?_
  refine lv_bipush (v := 97) hx hb dX2_isLetter_1 (by decide) ?_
  refine lv_icmp_lt (tgt := 16) hx hb dX2_isLetter_3 (by decide) (fun hc_3 => ?_) (fun hc_3 => ?_)
  · have hf := it_t hf hc_3
    refine lv_iconst (v := 0) hx hb dX2_isLetter_16 (by decide) ?_
    exact hret' _ _ _ _ _ dX2_isLetter_17 (by decide) hf hP hD hS
  · have hf := it_f hf hc_3
    refine lv_iload_n hx hb dX2_isLetter_6 rfl (lv_at hl 0 rfl) ?_
    refine lv_bipush (v := 122) hx hb dX2_isLetter_7 (by decide) ?_
    refine lv_icmp_gt (tgt := 16) hx hb dX2_isLetter_9 (by decide) (fun hc_9 => ?_) (fun hc_9 => ?_)
    · have hf := it_t hf hc_9
      refine lv_iconst (v := 0) hx hb dX2_isLetter_16 (by decide) ?_
      exact hret' _ _ _ _ _ dX2_isLetter_17 (by decide) hf hP hD hS
    · have hf := it_f hf hc_9
      refine lv_iconst (v := 1) hx hb dX2_isLetter_12 (by decide) ?_
      refine lv_goto (tgt := 17) hx hb dX2_isLetter_13 (by decide) ?_
      exact hret' _ _ _ _ _ dX2_isLetter_17 (by decide) hf hP hD hS

def X2_isWord_S20 (z_place : Int32) (z_bytes : Nat → Int32) (i1 : Nat) (self_20 : Int32 → Option Int32) (x2_20 : Int32) : Option Int32 := gd (i1 < 5) (if (slen i1) ≤ x2_20 then (some (1 : Int32)) else (gd (okx (z_place + x2_20) 300) (gd (i1 < 5) (gd (okx x2_20 (sLen.getD i1 0)) (gd (x2_20 < slen i1) (if (z_bytes (z_place + x2_20).toNatClampNeg) = (sch i1 x2_20) then (lets (x2_20 + (1 : Int32)) (fun x2_49 => self_20 x2_49)) else (some (0 : Int32))))))))
def fX2_isWord (z_at : Int32) (z_place : Int32) (z_bytes : Nat → Int32) (i1 : Nat) : Option Int32 := gd (i1 < 5) (if (z_at - z_place) = (slen i1) then (it1 (X2_isWord_S20 z_place z_bytes i1) 100000 (0 : Int32)) else (some (0 : Int32)))
abbrev rmX2_isWord : Room := { frames := 4, cells := 0, slots := 0, locals := 141 }
set_option maxHeartbeats 4000000 in
set_option maxRecDepth 100000 in
theorem ktX2_isWord (l : Launch) (D : va_G) (cy : Nat → ClassId) (q0 : Nat) (q_bytes : Nat) (q_draft : Nat) (q_numbers : Nat) (z_length : Int32) (z_at : Int32) (z_place : Int32) (z_token : Int32) (z_number : Int32) (z_item : Int32) (z_taken : Int32) (z_once : Int32) (z_bytes : Nat → Int32) (i1 : Nat) (r : Int32) (hf : fX2_isWord z_at z_place z_bytes i1 = some r) : CtI l yX2_isWord wsX2_isWord rmX2_isWord D cy [.ref q0, .ref (cy (10 + i1))] [(q0, oB 2 [.ref q_bytes, .ref q_draft, .ref q_numbers, .int z_length, .int z_at, .int z_place, .int z_token, .int z_number, .int z_item, .int z_taken, .int z_once]), (q_bytes, aB cy 300 z_bytes)] [(q0, oB 2 [.ref q_bytes, .ref q_draft, .ref q_numbers, .int z_length, .int z_at, .int z_place, .int z_token, .int z_number, .int z_item, .int z_taken, .int z_once]), (q_bytes, aB cy 300 z_bytes)] r := by
  refine Ct_ofZ (cc := cX2_isWord) (nL := 3) (by decide) rfl (Nat.le_of_ble_eq_true rfl) ?_
  intro p e s m args below meth c A Q hM hret hP hD hS ls hl
  obtain ⟨hx, hb, hml, hown, hts, hcx, hA, hsx⟩ := hM
  have hown : s.vm.findClass RX2 = some m.cls := hown
  have hK := hcx.1
  have hN := hcx.2
  have kw0 := hts (.fieldLink RX2 30 "EachBrings$Text" "at" "I") (List.mem_of_getElem? (i := 1) rfl)
  have kc1 : ∀ w ∈ wsX20, w ∈ wsX2_isWord := fun _ h => List.mem_cons_of_mem _ (List.mem_append_right _ h)
  have kw2 := hts (.fieldLink RX2 33 "EachBrings$Text" "place" "I") (List.mem_of_getElem? (i := 2) rfl)
  have kw3 := hts (.fieldLink RX2 9 "EachBrings$Text" "bytes" "[B") (List.mem_of_getElem? (i := 3) rfl)
  have hl : lv_has ls 3 [(0, .ref q0), (1, .ref (cy (10 + i1)))] := hl
  have hret' : ∀ (pc : Nat) (ls : Array Slot) (H : Heap) (locs : List Loc) (v : Int32), decode cX2_isWord pc = .ok (.ireturn, 1) → isB v → some v = some r → va_P D vwCl [(q0, oB 2 [.ref q_bytes, .ref q_draft, .ref q_numbers, .int z_length, .int z_at, .int z_place, .int z_token, .int z_number, .int z_item, .int z_taken, .int z_once]), (q_bytes, aB cy 300 z_bytes)] H → va_D A [(q0, oB 2 [.ref q_bytes, .ref q_draft, .ref q_numbers, .int z_length, .int z_at, .int z_place, .int z_token, .int z_number, .int z_item, .int z_taken, .int z_once]), (q_bytes, aB cy 300 z_bytes)] → va_S A s.heap H locs → W p l e rmX2_isWord s m args below meth c H locs 0 0 Q (F0 m pc ls [.int v]) := by
    intro pc ls H locs v hd hbv he hP hD hS
    cases he
    exact hret _ _ _ _ _ hd hbv rfl hP hD hS
  unfold fX2_isWord at hf
  refine lv_aload_n hx hb dX2_isWord_0 rfl (lv_at hl 0 rfl) ?_
  refine va_get (D := D) (ci := 2) (v := .int z_at) (C := RX2) (T := TX2) (N := 11) hx hb hts kc1 hown hK hP 0 rfl rfl 4 (by decide) kw0 (fun _ h9 => h9) rfl dX2_isWord_1 ?_
  refine lv_aload_n hx hb dX2_isWord_4 rfl (lv_at hl 0 rfl) ?_
  refine va_get (D := D) (ci := 2) (v := .int z_place) (C := RX2) (T := TX2) (N := 11) hx hb hts kc1 hown hK hP 0 rfl rfl 5 (by decide) kw2 (fun _ h9 => h9) rfl dX2_isWord_5 ?_
  refine lv_isub hx hb dX2_isWord_8 ?_
  refine lv_aload_n hx hb dX2_isWord_9 rfl (lv_at hl 1 rfl) ?_
  obtain ⟨hg_10, hf⟩ := gd_some hf
  refine cl_i (wc := []) (w1 := []) (wr := [(q0, oB 2 [.ref q_bytes, .ref q_draft, .ref q_numbers, .int z_length, .int z_at, .int z_place, .int z_token, .int z_number, .int z_item, .int z_taken, .int z_once]), (q_bytes, aB cy 300 z_bytes)]) (w2 := [(q0, oB 2 [.ref q_bytes, .ref q_draft, .ref q_numbers, .int z_length, .int z_at, .int z_place, .int z_token, .int z_number, .int z_item, .int z_taken, .int z_once]), (q_bytes, aB cy 300 z_bytes)]) (va_runV (As := []) (rest := [.int (z_at - z_place)]) ⟨hx, hb, hml, hown, hts⟩ (ktJ0_length l D cy i1 hg_10 _) (cwV 0 hts gX2_isWord_J0_length_8abf5 rfl rfl rfl (by decide +kernel) ⟨Nat.le_of_ble_eq_true rfl, Nat.le_of_ble_eq_true rfl⟩) (pre_T hg_10 hcx hsx hS hA hP hD) rfl rfl hl.1 rfl (lv_room (Nat.le_of_ble_eq_true rfl)) dX2_isWord_10 ⟨Nat.zero_le _, Nat.zero_le _⟩) hP hD hS hA [] [0, 1] [0, 1] rfl rfl (by decide) (by decide) (by decide) rfl (fun H locs hP hD hS => ?_)
  refine lv_icmp_eq (tgt := 18) hx hb dX2_isWord_13 (by decide) (fun hc_13 => ?_) (fun hc_13 => ?_)
  · have hf := it_t hf hc_13
    refine lv_iconst (v := 0) hx hb dX2_isWord_18 (by decide) ?_
    refine lv_istore_n (lv' := [(2, .int (0 : Int32)), (0, .ref q0), (1, .ref (cy (10 + i1)))]) hx hb dX2_isWord_19 rfl hl (by decide) rfl (fun ls hl => ?_)
    have hL20 : ∀ (n : Nat) (x2_20 : Int32) (H : Heap) (locs : List Loc) (ls : Array Slot), it1 (X2_isWord_S20 z_place z_bytes i1) n x2_20 = some r → va_P D vwCl [(q0, oB 2 [.ref q_bytes, .ref q_draft, .ref q_numbers, .int z_length, .int z_at, .int z_place, .int z_token, .int z_number, .int z_item, .int z_taken, .int z_once]), (q_bytes, aB cy 300 z_bytes)] H → va_D A [(q0, oB 2 [.ref q_bytes, .ref q_draft, .ref q_numbers, .int z_length, .int z_at, .int z_place, .int z_token, .int z_number, .int z_item, .int z_taken, .int z_once]), (q_bytes, aB cy 300 z_bytes)] → va_S A s.heap H locs → lv_has ls 3 [(0, .ref q0), (1, .ref (cy (10 + i1))), (2, .int x2_20)] → W p l e rmX2_isWord s m args below meth c H locs 0 0 Q (F0 m 20 ls []) := by
      intro n
      induction n with
      | zero => intro x2_20 H locs ls hf; exact absurd hf (by simp [it1])
      | succ n ih20 =>
        intro x2_20 H locs ls hf hP hD hS hl
        have hf : X2_isWord_S20 z_place z_bytes i1 (it1 (X2_isWord_S20 z_place z_bytes i1) n) x2_20 = some r := hf
        generalize it1 (X2_isWord_S20 z_place z_bytes i1) n = self_20 at hf ih20
        unfold X2_isWord_S20 at hf
        refine lv_iload_n hx hb dX2_isWord_20 rfl (lv_at hl 2 rfl) ?_
        refine lv_aload_n hx hb dX2_isWord_21 rfl (lv_at hl 1 rfl) ?_
        obtain ⟨hg_22, hf⟩ := gd_some hf
        refine cl_i (wc := []) (w1 := []) (wr := [(q0, oB 2 [.ref q_bytes, .ref q_draft, .ref q_numbers, .int z_length, .int z_at, .int z_place, .int z_token, .int z_number, .int z_item, .int z_taken, .int z_once]), (q_bytes, aB cy 300 z_bytes)]) (w2 := [(q0, oB 2 [.ref q_bytes, .ref q_draft, .ref q_numbers, .int z_length, .int z_at, .int z_place, .int z_token, .int z_number, .int z_item, .int z_taken, .int z_once]), (q_bytes, aB cy 300 z_bytes)]) (va_runV (As := []) (rest := [.int x2_20]) ⟨hx, hb, hml, hown, hts⟩ (ktJ0_length l D cy i1 hg_22 _) (cwV 0 hts gX2_isWord_J0_length_8abf5 rfl rfl rfl (by decide +kernel) ⟨Nat.le_of_ble_eq_true rfl, Nat.le_of_ble_eq_true rfl⟩) (pre_T hg_22 hcx hsx hS hA hP hD) rfl rfl hl.1 rfl (lv_room (Nat.le_of_ble_eq_true rfl)) dX2_isWord_22 ⟨Nat.zero_le _, Nat.zero_le _⟩) hP hD hS hA [] [0, 1] [0, 1] rfl rfl (by decide) (by decide) (by decide) rfl (fun H locs hP hD hS => ?_)
        refine lv_icmp_ge (tgt := 55) hx hb dX2_isWord_25 (by decide) (fun hc_25 => ?_) (fun hc_25 => ?_)
        · have hf := it_t hf hc_25
          refine lv_iconst (v := 1) hx hb dX2_isWord_55 (by decide) ?_
          exact hret' _ _ _ _ _ dX2_isWord_56 (by decide) hf hP hD hS
        · have hf := it_f hf hc_25
          refine lv_aload_n hx hb dX2_isWord_28 rfl (lv_at hl 0 rfl) ?_
          refine va_get (D := D) (ci := 2) (v := .ref q_bytes) (C := RX2) (T := TX2) (N := 11) hx hb hts kc1 hown hK hP 0 rfl rfl 0 (by decide) kw3 (fun _ h9 => h9) rfl dX2_isWord_29 ?_
          refine lv_aload_n hx hb dX2_isWord_32 rfl (lv_at hl 0 rfl) ?_
          refine va_get (D := D) (ci := 2) (v := .int z_place) (C := RX2) (T := TX2) (N := 11) hx hb hts kc1 hown hK hP 0 rfl rfl 5 (by decide) kw2 (fun _ h9 => h9) rfl dX2_isWord_33 ?_
          refine lv_iload_n hx hb dX2_isWord_36 rfl (lv_at hl 2 rfl) ?_
          refine lv_iadd hx hb dX2_isWord_37 ?_
          obtain ⟨hg_38, hf⟩ := gd_some hf
          refine va_bald hx hb hK hP 1 2 rfl rfl hg_38 dX2_isWord_38 ?_
          refine lv_aload_n hx hb dX2_isWord_39 rfl (lv_at hl 1 rfl) ?_
          refine lv_iload_n hx hb dX2_isWord_40 rfl (lv_at hl 2 rfl) ?_
          obtain ⟨hg_41, hf⟩ := gd_some hf
          obtain ⟨ha_41, hf⟩ := gd_some hf
          obtain ⟨hb_41, hf⟩ := gd_some hf
          refine cl_i (wc := []) (w1 := []) (wr := [(q0, oB 2 [.ref q_bytes, .ref q_draft, .ref q_numbers, .int z_length, .int z_at, .int z_place, .int z_token, .int z_number, .int z_item, .int z_taken, .int z_once]), (q_bytes, aB cy 300 z_bytes)]) (w2 := [(q0, oB 2 [.ref q_bytes, .ref q_draft, .ref q_numbers, .int z_length, .int z_at, .int z_place, .int z_token, .int z_number, .int z_item, .int z_taken, .int z_once]), (q_bytes, aB cy 300 z_bytes)]) (va_runV (As := [.int x2_20]) (rest := [.int (z_bytes (z_place + x2_20).toNatClampNeg)]) ⟨hx, hb, hml, hown, hts⟩ (ktJ0_charAt l D cy i1 hg_41 x2_20 ha_41 hb_41 _) (cwV 1 hts gX2_isWord_J0_charAt_5068e rfl rfl rfl (by decide +kernel) ⟨Nat.le_of_ble_eq_true rfl, Nat.le_of_ble_eq_true rfl⟩) (pre_T hg_41 hcx hsx hS hA hP hD) rfl rfl hl.1 rfl (lv_room (Nat.le_of_ble_eq_true rfl)) dX2_isWord_41 ⟨Nat.zero_le _, Nat.zero_le _⟩) hP hD hS hA [] [0, 1] [0, 1] rfl rfl (by decide) (by decide) (by decide) rfl (fun H locs hP hD hS => ?_)
          refine lv_icmp_eq (tgt := 49) hx hb dX2_isWord_44 (by decide) (fun hc_44 => ?_) (fun hc_44 => ?_)
          · have hf := it_t hf hc_44
            obtain ⟨x2_49, ex2_49⟩ : ∃ y : Int32, y = x2_20 + (1 : Int32) := ⟨_, rfl⟩
            have hf := lets_at hf ex2_49
            refine lv_iinc (v := x2_49) (lv' := [(2, .int x2_49), (0, .ref q0), (1, .ref (cy (10 + i1)))]) hx hb dX2_isWord_49 hl (k := 2) rfl (by rw [ex2_49]; rfl) (by decide) rfl (fun ls hl => ?_)
            refine lv_goto (tgt := 20) hx hb dX2_isWord_52 (by decide) ?_
            exact ih20 x2_49 _ _ _ hf hP hD hS (lv_sub hl [1, 2, 0] rfl)
          · have hf := it_f hf hc_44
            refine lv_iconst (v := 0) hx hb dX2_isWord_47 (by decide) ?_
            exact hret' _ _ _ _ _ dX2_isWord_48 (by decide) hf hP hD hS
    exact hL20 _ (0 : Int32) _ _ _ hf hP hD hS (lv_sub hl [1, 2, 0] rfl)
  · have hf := it_f hf hc_13
    refine lv_iconst (v := 0) hx hb dX2_isWord_16 (by decide) ?_
    exact hret' _ _ _ _ _ dX2_isWord_17 (by decide) hf hP hD hS

def X2_nextWord_J39 (z_place : Int32) (z_bytes : Nat → Int32) (z_at_39 : Int32) : Option (Int32 × Int32) := (fX2_isWord z_at_39 z_place z_bytes 0).bind (fun r_42 => if r_42 = 0 then ((fX2_isWord z_at_39 z_place z_bytes 1).bind (fun r_59 => if r_59 = 0 then ((fX2_isWord z_at_39 z_place z_bytes 2).bind (fun r_76 => if r_76 = 0 then ((fX2_isWord z_at_39 z_place z_bytes 3).bind (fun r_94 => if r_94 = 0 then ((fX2_isWord z_at_39 z_place z_bytes 4).bind (fun r_112 => if r_112 = 0 then (some (z_at_39, (1 : Int32))) else (some (z_at_39, (8 : Int32))))) else (some (z_at_39, (7 : Int32))))) else (some (z_at_39, (6 : Int32))))) else (some (z_at_39, (5 : Int32))))) else (some (z_at_39, (4 : Int32))))
def X2_nextWord_S0 (z_length : Int32) (z_place : Int32) (z_bytes : Nat → Int32) (self_0 : Int32 → Option (Int32 × Int32)) (z_at_0 : Int32) : Option (Int32 × Int32) := if z_length ≤ z_at_0 then (X2_nextWord_J39 z_place z_bytes z_at_0) else (gd (okx z_at_0 300) ((fX2_isLetter (z_bytes z_at_0.toNatClampNeg)).bind (fun r_20 => if r_20 = 0 then (X2_nextWord_J39 z_place z_bytes z_at_0) else (lets (z_at_0 + (1 : Int32)) (fun z_at_33 => self_0 z_at_33)))))
def fX2_nextWord (z_length : Int32) (z_at : Int32) (z_place : Int32) (z_bytes : Nat → Int32) : Option (Int32 × Int32) := it1 (X2_nextWord_S0 z_length z_place z_bytes) 100000 z_at
abbrev rmX2_nextWord : Room := { frames := 5, cells := 0, slots := 0, locals := 163 }
set_option maxHeartbeats 4000000 in
set_option maxRecDepth 100000 in
theorem ktX2_nextWord (l : Launch) (D : va_G) (cy : Nat → ClassId) (q0 : Nat) (q_bytes : Nat) (q_draft : Nat) (q_numbers : Nat) (z_length : Int32) (z_at : Int32) (z_place : Int32) (z_token : Int32) (z_number : Int32) (z_item : Int32) (z_taken : Int32) (z_once : Int32) (z_bytes : Nat → Int32) (r : Int32 × Int32) (hf : fX2_nextWord z_length z_at z_place z_bytes = some r) : CtV l yX2_nextWord wsX2_nextWord rmX2_nextWord D cy [.ref q0] [(q0, oB 2 [.ref q_bytes, .ref q_draft, .ref q_numbers, .int z_length, .int z_at, .int z_place, .int z_token, .int z_number, .int z_item, .int z_taken, .int z_once]), (q_bytes, aB cy 300 z_bytes)] [(q0, oB 2 [.ref q_bytes, .ref q_draft, .ref q_numbers, .int z_length, .int r.1, .int z_place, .int r.2, .int z_number, .int z_item, .int z_taken, .int z_once]), (q_bytes, aB cy 300 z_bytes)] := by
  refine Ct_ofV (cc := cX2_nextWord) (nL := 1) (by decide) rfl (Nat.le_of_ble_eq_true rfl) ?_
  intro p e s m args below meth c A Q hM hret hP hD hS ls hl
  obtain ⟨hx, hb, hml, hown, hts, hcx, hA, hsx⟩ := hM
  have hown : s.vm.findClass RX2 = some m.cls := hown
  have hK := hcx.1
  have hN := hcx.2
  have kw0 := hts (.fieldLink RX2 36 "EachBrings$Text" "token" "I") (List.mem_of_getElem? (i := 4) rfl)
  have kc1 : ∀ w ∈ wsX20, w ∈ wsX2_nextWord := fun _ h => List.mem_cons_of_mem _ (List.mem_append_right _ h)
  have kw2 := hts (.fieldLink RX2 30 "EachBrings$Text" "at" "I") (List.mem_of_getElem? (i := 1) rfl)
  have kw3 := hts (.fieldLink RX2 26 "EachBrings$Text" "length" "I") (List.mem_of_getElem? (i := 2) rfl)
  have kw4 := hts (.fieldLink RX2 9 "EachBrings$Text" "bytes" "[B") (List.mem_of_getElem? (i := 3) rfl)
  have hl : lv_has ls 1 [(0, .ref q0)] := hl
  have hret' : ∀ (pc : Nat) (ls : Array Slot) (H : Heap) (locs : List Loc) (w0 : Int32) (w1 : Int32), decode cX2_nextWord pc = .ok (.return_, 1) → some (w0, w1) = some r → va_P D vwCl [(q0, oB 2 [.ref q_bytes, .ref q_draft, .ref q_numbers, .int z_length, .int w0, .int z_place, .int w1, .int z_number, .int z_item, .int z_taken, .int z_once]), (q_bytes, aB cy 300 z_bytes)] H → va_D A [(q0, oB 2 [.ref q_bytes, .ref q_draft, .ref q_numbers, .int z_length, .int w0, .int z_place, .int w1, .int z_number, .int z_item, .int z_taken, .int z_once]), (q_bytes, aB cy 300 z_bytes)] → va_S A s.heap H locs → W p l e rmX2_nextWord s m args below meth c H locs 0 0 Q (F0 m pc ls []) := by
    intro pc ls H locs w0 w1 hd he hP hD hS
    cases he
    exact hret _ _ _ _ hd hP hD hS
  unfold fX2_nextWord at hf
  have hJ39 : ∀ (z_at_39 : Int32) (H : Heap) (locs : List Loc) (ls : Array Slot), X2_nextWord_J39 z_place z_bytes z_at_39 = some r → va_P D vwCl [(q0, oB 2 [.ref q_bytes, .ref q_draft, .ref q_numbers, .int z_length, .int z_at_39, .int z_place, .int z_token, .int z_number, .int z_item, .int z_taken, .int z_once]), (q_bytes, aB cy 300 z_bytes)] H → va_D A [(q0, oB 2 [.ref q_bytes, .ref q_draft, .ref q_numbers, .int z_length, .int z_at_39, .int z_place, .int z_token, .int z_number, .int z_item, .int z_taken, .int z_once]), (q_bytes, aB cy 300 z_bytes)] → va_S A s.heap H locs → lv_has ls 1 [(0, .ref q0)] → W p l e rmX2_nextWord s m args below meth c H locs 0 0 Q (F0 m 39 ls []) := by
    intro z_at_39 H locs ls hf hP hD hS hl
    unfold X2_nextWord_J39 at hf
    refine lv_aload_n hx hb dX2_nextWord_39 rfl (lv_at hl 0 rfl) ?_
    refine va_ldcS (tx := sTx.getD 0 "") hx hb hown (hsx.2.1 0 (by decide)) dX2_nextWord_40 ?_
    obtain ⟨r_42, hr_42, hf⟩ := bd_some hf
    refine cl_i (wc := [(q0, oB 2 [.ref q_bytes, .ref q_draft, .ref q_numbers, .int z_length, .int z_at_39, .int z_place, .int z_token, .int z_number, .int z_item, .int z_taken, .int z_once]), (q_bytes, aB cy 300 z_bytes)]) (w1 := [(q0, oB 2 [.ref q_bytes, .ref q_draft, .ref q_numbers, .int z_length, .int z_at_39, .int z_place, .int z_token, .int z_number, .int z_item, .int z_taken, .int z_once]), (q_bytes, aB cy 300 z_bytes)]) (wr := []) (w2 := [(q0, oB 2 [.ref q_bytes, .ref q_draft, .ref q_numbers, .int z_length, .int z_at_39, .int z_place, .int z_token, .int z_number, .int z_item, .int z_taken, .int z_once]), (q_bytes, aB cy 300 z_bytes)]) (va_runV (As := [.ref (cy (10 + 0))]) (rest := []) ⟨hx, hb, hml, hown, hts⟩ (ktX2_isWord l D cy q0 q_bytes q_draft q_numbers z_length z_at_39 z_place z_token z_number z_item z_taken z_once z_bytes 0 r_42 hr_42 _) (cwV 1 hts gX2_nextWord_X2_isWord rfl rfl rfl (by decide +kernel) ⟨Nat.le_of_ble_eq_true rfl, Nat.le_of_ble_eq_true rfl⟩) (pre_V (wc := [(q0, oB 2 [.ref q_bytes, .ref q_draft, .ref q_numbers, .int z_length, .int z_at_39, .int z_place, .int z_token, .int z_number, .int z_item, .int z_taken, .int z_once]), (q_bytes, aB cy 300 z_bytes)]) (ci := 2) hcx hsx hS hA hP hD [0, 1] rfl (by decide) rfl rfl) rfl rfl hl.1 rfl (lv_room (Nat.le_of_ble_eq_true rfl)) dX2_nextWord_42 ⟨Nat.zero_le _, Nat.zero_le _⟩) hP hD hS hA [0, 1] [] [0, 1] rfl rfl (by decide) (by decide) (by decide) rfl (fun H locs hP hD hS => ?_)
    refine lv_if_eq (tgt := 56) hx hb dX2_nextWord_45 (by decide) (fun hc_45 => ?_) (fun hc_45 => ?_)
    · have hf := it_t hf hc_45
      refine lv_aload_n hx hb dX2_nextWord_56 rfl (lv_at hl 0 rfl) ?_
      refine va_ldcS (tx := sTx.getD 1 "") hx hb hown (hsx.2.1 1 (by decide)) dX2_nextWord_57 ?_
      obtain ⟨r_59, hr_59, hf⟩ := bd_some hf
      refine cl_i (wc := [(q0, oB 2 [.ref q_bytes, .ref q_draft, .ref q_numbers, .int z_length, .int z_at_39, .int z_place, .int z_token, .int z_number, .int z_item, .int z_taken, .int z_once]), (q_bytes, aB cy 300 z_bytes)]) (w1 := [(q0, oB 2 [.ref q_bytes, .ref q_draft, .ref q_numbers, .int z_length, .int z_at_39, .int z_place, .int z_token, .int z_number, .int z_item, .int z_taken, .int z_once]), (q_bytes, aB cy 300 z_bytes)]) (wr := []) (w2 := [(q0, oB 2 [.ref q_bytes, .ref q_draft, .ref q_numbers, .int z_length, .int z_at_39, .int z_place, .int z_token, .int z_number, .int z_item, .int z_taken, .int z_once]), (q_bytes, aB cy 300 z_bytes)]) (va_runV (As := [.ref (cy (10 + 1))]) (rest := []) ⟨hx, hb, hml, hown, hts⟩ (ktX2_isWord l D cy q0 q_bytes q_draft q_numbers z_length z_at_39 z_place z_token z_number z_item z_taken z_once z_bytes 1 r_59 hr_59 _) (cwV 1 hts gX2_nextWord_X2_isWord rfl rfl rfl (by decide +kernel) ⟨Nat.le_of_ble_eq_true rfl, Nat.le_of_ble_eq_true rfl⟩) (pre_V (wc := [(q0, oB 2 [.ref q_bytes, .ref q_draft, .ref q_numbers, .int z_length, .int z_at_39, .int z_place, .int z_token, .int z_number, .int z_item, .int z_taken, .int z_once]), (q_bytes, aB cy 300 z_bytes)]) (ci := 2) hcx hsx hS hA hP hD [0, 1] rfl (by decide) rfl rfl) rfl rfl hl.1 rfl (lv_room (Nat.le_of_ble_eq_true rfl)) dX2_nextWord_59 ⟨Nat.zero_le _, Nat.zero_le _⟩) hP hD hS hA [0, 1] [] [0, 1] rfl rfl (by decide) (by decide) (by decide) rfl (fun H locs hP hD hS => ?_)
      refine lv_if_eq (tgt := 73) hx hb dX2_nextWord_62 (by decide) (fun hc_62 => ?_) (fun hc_62 => ?_)
      · have hf := it_t hf hc_62
        refine lv_aload_n hx hb dX2_nextWord_73 rfl (lv_at hl 0 rfl) ?_
        refine va_ldcS (tx := sTx.getD 2 "") hx hb hown (hsx.2.1 2 (by decide)) dX2_nextWord_74 ?_
        obtain ⟨r_76, hr_76, hf⟩ := bd_some hf
        refine cl_i (wc := [(q0, oB 2 [.ref q_bytes, .ref q_draft, .ref q_numbers, .int z_length, .int z_at_39, .int z_place, .int z_token, .int z_number, .int z_item, .int z_taken, .int z_once]), (q_bytes, aB cy 300 z_bytes)]) (w1 := [(q0, oB 2 [.ref q_bytes, .ref q_draft, .ref q_numbers, .int z_length, .int z_at_39, .int z_place, .int z_token, .int z_number, .int z_item, .int z_taken, .int z_once]), (q_bytes, aB cy 300 z_bytes)]) (wr := []) (w2 := [(q0, oB 2 [.ref q_bytes, .ref q_draft, .ref q_numbers, .int z_length, .int z_at_39, .int z_place, .int z_token, .int z_number, .int z_item, .int z_taken, .int z_once]), (q_bytes, aB cy 300 z_bytes)]) (va_runV (As := [.ref (cy (10 + 2))]) (rest := []) ⟨hx, hb, hml, hown, hts⟩ (ktX2_isWord l D cy q0 q_bytes q_draft q_numbers z_length z_at_39 z_place z_token z_number z_item z_taken z_once z_bytes 2 r_76 hr_76 _) (cwV 1 hts gX2_nextWord_X2_isWord rfl rfl rfl (by decide +kernel) ⟨Nat.le_of_ble_eq_true rfl, Nat.le_of_ble_eq_true rfl⟩) (pre_V (wc := [(q0, oB 2 [.ref q_bytes, .ref q_draft, .ref q_numbers, .int z_length, .int z_at_39, .int z_place, .int z_token, .int z_number, .int z_item, .int z_taken, .int z_once]), (q_bytes, aB cy 300 z_bytes)]) (ci := 2) hcx hsx hS hA hP hD [0, 1] rfl (by decide) rfl rfl) rfl rfl hl.1 rfl (lv_room (Nat.le_of_ble_eq_true rfl)) dX2_nextWord_76 ⟨Nat.zero_le _, Nat.zero_le _⟩) hP hD hS hA [0, 1] [] [0, 1] rfl rfl (by decide) (by decide) (by decide) rfl (fun H locs hP hD hS => ?_)
        refine lv_if_eq (tgt := 91) hx hb dX2_nextWord_79 (by decide) (fun hc_79 => ?_) (fun hc_79 => ?_)
        · have hf := it_t hf hc_79
          refine lv_aload_n hx hb dX2_nextWord_91 rfl (lv_at hl 0 rfl) ?_
          refine va_ldcS (tx := sTx.getD 3 "") hx hb hown (hsx.2.1 3 (by decide)) dX2_nextWord_92 ?_
          obtain ⟨r_94, hr_94, hf⟩ := bd_some hf
          refine cl_i (wc := [(q0, oB 2 [.ref q_bytes, .ref q_draft, .ref q_numbers, .int z_length, .int z_at_39, .int z_place, .int z_token, .int z_number, .int z_item, .int z_taken, .int z_once]), (q_bytes, aB cy 300 z_bytes)]) (w1 := [(q0, oB 2 [.ref q_bytes, .ref q_draft, .ref q_numbers, .int z_length, .int z_at_39, .int z_place, .int z_token, .int z_number, .int z_item, .int z_taken, .int z_once]), (q_bytes, aB cy 300 z_bytes)]) (wr := []) (w2 := [(q0, oB 2 [.ref q_bytes, .ref q_draft, .ref q_numbers, .int z_length, .int z_at_39, .int z_place, .int z_token, .int z_number, .int z_item, .int z_taken, .int z_once]), (q_bytes, aB cy 300 z_bytes)]) (va_runV (As := [.ref (cy (10 + 3))]) (rest := []) ⟨hx, hb, hml, hown, hts⟩ (ktX2_isWord l D cy q0 q_bytes q_draft q_numbers z_length z_at_39 z_place z_token z_number z_item z_taken z_once z_bytes 3 r_94 hr_94 _) (cwV 1 hts gX2_nextWord_X2_isWord rfl rfl rfl (by decide +kernel) ⟨Nat.le_of_ble_eq_true rfl, Nat.le_of_ble_eq_true rfl⟩) (pre_V (wc := [(q0, oB 2 [.ref q_bytes, .ref q_draft, .ref q_numbers, .int z_length, .int z_at_39, .int z_place, .int z_token, .int z_number, .int z_item, .int z_taken, .int z_once]), (q_bytes, aB cy 300 z_bytes)]) (ci := 2) hcx hsx hS hA hP hD [0, 1] rfl (by decide) rfl rfl) rfl rfl hl.1 rfl (lv_room (Nat.le_of_ble_eq_true rfl)) dX2_nextWord_94 ⟨Nat.zero_le _, Nat.zero_le _⟩) hP hD hS hA [0, 1] [] [0, 1] rfl rfl (by decide) (by decide) (by decide) rfl (fun H locs hP hD hS => ?_)
          refine lv_if_eq (tgt := 109) hx hb dX2_nextWord_97 (by decide) (fun hc_97 => ?_) (fun hc_97 => ?_)
          · have hf := it_t hf hc_97
            refine lv_aload_n hx hb dX2_nextWord_109 rfl (lv_at hl 0 rfl) ?_
            refine va_ldcS (tx := sTx.getD 4 "") hx hb hown (hsx.2.1 4 (by decide)) dX2_nextWord_110 ?_
            obtain ⟨r_112, hr_112, hf⟩ := bd_some hf
            refine cl_i (wc := [(q0, oB 2 [.ref q_bytes, .ref q_draft, .ref q_numbers, .int z_length, .int z_at_39, .int z_place, .int z_token, .int z_number, .int z_item, .int z_taken, .int z_once]), (q_bytes, aB cy 300 z_bytes)]) (w1 := [(q0, oB 2 [.ref q_bytes, .ref q_draft, .ref q_numbers, .int z_length, .int z_at_39, .int z_place, .int z_token, .int z_number, .int z_item, .int z_taken, .int z_once]), (q_bytes, aB cy 300 z_bytes)]) (wr := []) (w2 := [(q0, oB 2 [.ref q_bytes, .ref q_draft, .ref q_numbers, .int z_length, .int z_at_39, .int z_place, .int z_token, .int z_number, .int z_item, .int z_taken, .int z_once]), (q_bytes, aB cy 300 z_bytes)]) (va_runV (As := [.ref (cy (10 + 4))]) (rest := []) ⟨hx, hb, hml, hown, hts⟩ (ktX2_isWord l D cy q0 q_bytes q_draft q_numbers z_length z_at_39 z_place z_token z_number z_item z_taken z_once z_bytes 4 r_112 hr_112 _) (cwV 1 hts gX2_nextWord_X2_isWord rfl rfl rfl (by decide +kernel) ⟨Nat.le_of_ble_eq_true rfl, Nat.le_of_ble_eq_true rfl⟩) (pre_V (wc := [(q0, oB 2 [.ref q_bytes, .ref q_draft, .ref q_numbers, .int z_length, .int z_at_39, .int z_place, .int z_token, .int z_number, .int z_item, .int z_taken, .int z_once]), (q_bytes, aB cy 300 z_bytes)]) (ci := 2) hcx hsx hS hA hP hD [0, 1] rfl (by decide) rfl rfl) rfl rfl hl.1 rfl (lv_room (Nat.le_of_ble_eq_true rfl)) dX2_nextWord_112 ⟨Nat.zero_le _, Nat.zero_le _⟩) hP hD hS hA [0, 1] [] [0, 1] rfl rfl (by decide) (by decide) (by decide) rfl (fun H locs hP hD hS => ?_)
            refine lv_if_eq (tgt := 127) hx hb dX2_nextWord_115 (by decide) (fun hc_115 => ?_) (fun hc_115 => ?_)
            · have hf := it_t hf hc_115
              refine lv_aload_n hx hb dX2_nextWord_127 rfl (lv_at hl 0 rfl) ?_
              refine lv_iconst (v := 1) hx hb dX2_nextWord_128 (by decide) ?_
              refine va_put (D := D) (ci := 2) (v := .int (1 : Int32)) (ty := .int) (C := RX2) (T := TX2) (N := 11) hx hb hts kc1 tyX2 tyX2_ok nmX2 hown hK hP hD hS 0 rfl rfl 6 (by decide) kw0 (fun _ h9 => h9) rfl pfI rfl rfl (Nat.le_of_ble_eq_true rfl) dX2_nextWord_129 (fun H locs hP hD hS => ?_)
              have hP : va_P D vwCl [(q0, oB 2 [.ref q_bytes, .ref q_draft, .ref q_numbers, .int z_length, .int z_at_39, .int z_place, .int (1 : Int32), .int z_number, .int z_item, .int z_taken, .int z_once]), (q_bytes, aB cy 300 z_bytes)] H := hP
              have hD : va_D A [(q0, oB 2 [.ref q_bytes, .ref q_draft, .ref q_numbers, .int z_length, .int z_at_39, .int z_place, .int (1 : Int32), .int z_number, .int z_item, .int z_taken, .int z_once]), (q_bytes, aB cy 300 z_bytes)] := hD
              exact hret' _ _ _ _ _ _ dX2_nextWord_132 hf hP hD hS
            · have hf := it_f hf hc_115
              refine lv_aload_n hx hb dX2_nextWord_118 rfl (lv_at hl 0 rfl) ?_
              refine lv_bipush (v := 8) hx hb dX2_nextWord_119 (by decide) ?_
              refine va_put (D := D) (ci := 2) (v := .int (8 : Int32)) (ty := .int) (C := RX2) (T := TX2) (N := 11) hx hb hts kc1 tyX2 tyX2_ok nmX2 hown hK hP hD hS 0 rfl rfl 6 (by decide) kw0 (fun _ h9 => h9) rfl pfI rfl rfl (Nat.le_of_ble_eq_true rfl) dX2_nextWord_121 (fun H locs hP hD hS => ?_)
              have hP : va_P D vwCl [(q0, oB 2 [.ref q_bytes, .ref q_draft, .ref q_numbers, .int z_length, .int z_at_39, .int z_place, .int (8 : Int32), .int z_number, .int z_item, .int z_taken, .int z_once]), (q_bytes, aB cy 300 z_bytes)] H := hP
              have hD : va_D A [(q0, oB 2 [.ref q_bytes, .ref q_draft, .ref q_numbers, .int z_length, .int z_at_39, .int z_place, .int (8 : Int32), .int z_number, .int z_item, .int z_taken, .int z_once]), (q_bytes, aB cy 300 z_bytes)] := hD
              refine lv_goto (tgt := 132) hx hb dX2_nextWord_124 (by decide) ?_
              exact hret' _ _ _ _ _ _ dX2_nextWord_132 hf hP hD hS
          · have hf := it_f hf hc_97
            refine lv_aload_n hx hb dX2_nextWord_100 rfl (lv_at hl 0 rfl) ?_
            refine lv_bipush (v := 7) hx hb dX2_nextWord_101 (by decide) ?_
            refine va_put (D := D) (ci := 2) (v := .int (7 : Int32)) (ty := .int) (C := RX2) (T := TX2) (N := 11) hx hb hts kc1 tyX2 tyX2_ok nmX2 hown hK hP hD hS 0 rfl rfl 6 (by decide) kw0 (fun _ h9 => h9) rfl pfI rfl rfl (Nat.le_of_ble_eq_true rfl) dX2_nextWord_103 (fun H locs hP hD hS => ?_)
            have hP : va_P D vwCl [(q0, oB 2 [.ref q_bytes, .ref q_draft, .ref q_numbers, .int z_length, .int z_at_39, .int z_place, .int (7 : Int32), .int z_number, .int z_item, .int z_taken, .int z_once]), (q_bytes, aB cy 300 z_bytes)] H := hP
            have hD : va_D A [(q0, oB 2 [.ref q_bytes, .ref q_draft, .ref q_numbers, .int z_length, .int z_at_39, .int z_place, .int (7 : Int32), .int z_number, .int z_item, .int z_taken, .int z_once]), (q_bytes, aB cy 300 z_bytes)] := hD
            refine lv_goto (tgt := 132) hx hb dX2_nextWord_106 (by decide) ?_
            exact hret' _ _ _ _ _ _ dX2_nextWord_132 hf hP hD hS
        · have hf := it_f hf hc_79
          refine lv_aload_n hx hb dX2_nextWord_82 rfl (lv_at hl 0 rfl) ?_
          refine lv_bipush (v := 6) hx hb dX2_nextWord_83 (by decide) ?_
          refine va_put (D := D) (ci := 2) (v := .int (6 : Int32)) (ty := .int) (C := RX2) (T := TX2) (N := 11) hx hb hts kc1 tyX2 tyX2_ok nmX2 hown hK hP hD hS 0 rfl rfl 6 (by decide) kw0 (fun _ h9 => h9) rfl pfI rfl rfl (Nat.le_of_ble_eq_true rfl) dX2_nextWord_85 (fun H locs hP hD hS => ?_)
          have hP : va_P D vwCl [(q0, oB 2 [.ref q_bytes, .ref q_draft, .ref q_numbers, .int z_length, .int z_at_39, .int z_place, .int (6 : Int32), .int z_number, .int z_item, .int z_taken, .int z_once]), (q_bytes, aB cy 300 z_bytes)] H := hP
          have hD : va_D A [(q0, oB 2 [.ref q_bytes, .ref q_draft, .ref q_numbers, .int z_length, .int z_at_39, .int z_place, .int (6 : Int32), .int z_number, .int z_item, .int z_taken, .int z_once]), (q_bytes, aB cy 300 z_bytes)] := hD
          refine lv_goto (tgt := 132) hx hb dX2_nextWord_88 (by decide) ?_
          exact hret' _ _ _ _ _ _ dX2_nextWord_132 hf hP hD hS
      · have hf := it_f hf hc_62
        refine lv_aload_n hx hb dX2_nextWord_65 rfl (lv_at hl 0 rfl) ?_
        refine lv_iconst (v := 5) hx hb dX2_nextWord_66 (by decide) ?_
        refine va_put (D := D) (ci := 2) (v := .int (5 : Int32)) (ty := .int) (C := RX2) (T := TX2) (N := 11) hx hb hts kc1 tyX2 tyX2_ok nmX2 hown hK hP hD hS 0 rfl rfl 6 (by decide) kw0 (fun _ h9 => h9) rfl pfI rfl rfl (Nat.le_of_ble_eq_true rfl) dX2_nextWord_67 (fun H locs hP hD hS => ?_)
        have hP : va_P D vwCl [(q0, oB 2 [.ref q_bytes, .ref q_draft, .ref q_numbers, .int z_length, .int z_at_39, .int z_place, .int (5 : Int32), .int z_number, .int z_item, .int z_taken, .int z_once]), (q_bytes, aB cy 300 z_bytes)] H := hP
        have hD : va_D A [(q0, oB 2 [.ref q_bytes, .ref q_draft, .ref q_numbers, .int z_length, .int z_at_39, .int z_place, .int (5 : Int32), .int z_number, .int z_item, .int z_taken, .int z_once]), (q_bytes, aB cy 300 z_bytes)] := hD
        refine lv_goto (tgt := 132) hx hb dX2_nextWord_70 (by decide) ?_
        exact hret' _ _ _ _ _ _ dX2_nextWord_132 hf hP hD hS
    · have hf := it_f hf hc_45
      refine lv_aload_n hx hb dX2_nextWord_48 rfl (lv_at hl 0 rfl) ?_
      refine lv_iconst (v := 4) hx hb dX2_nextWord_49 (by decide) ?_
      refine va_put (D := D) (ci := 2) (v := .int (4 : Int32)) (ty := .int) (C := RX2) (T := TX2) (N := 11) hx hb hts kc1 tyX2 tyX2_ok nmX2 hown hK hP hD hS 0 rfl rfl 6 (by decide) kw0 (fun _ h9 => h9) rfl pfI rfl rfl (Nat.le_of_ble_eq_true rfl) dX2_nextWord_50 (fun H locs hP hD hS => ?_)
      have hP : va_P D vwCl [(q0, oB 2 [.ref q_bytes, .ref q_draft, .ref q_numbers, .int z_length, .int z_at_39, .int z_place, .int (4 : Int32), .int z_number, .int z_item, .int z_taken, .int z_once]), (q_bytes, aB cy 300 z_bytes)] H := hP
      have hD : va_D A [(q0, oB 2 [.ref q_bytes, .ref q_draft, .ref q_numbers, .int z_length, .int z_at_39, .int z_place, .int (4 : Int32), .int z_number, .int z_item, .int z_taken, .int z_once]), (q_bytes, aB cy 300 z_bytes)] := hD
      refine lv_goto (tgt := 132) hx hb dX2_nextWord_53 (by decide) ?_
      exact hret' _ _ _ _ _ _ dX2_nextWord_132 hf hP hD hS
  have hL0 : ∀ (n : Nat) (z_at_0 : Int32) (H : Heap) (locs : List Loc) (ls : Array Slot), it1 (X2_nextWord_S0 z_length z_place z_bytes) n z_at_0 = some r → va_P D vwCl [(q0, oB 2 [.ref q_bytes, .ref q_draft, .ref q_numbers, .int z_length, .int z_at_0, .int z_place, .int z_token, .int z_number, .int z_item, .int z_taken, .int z_once]), (q_bytes, aB cy 300 z_bytes)] H → va_D A [(q0, oB 2 [.ref q_bytes, .ref q_draft, .ref q_numbers, .int z_length, .int z_at_0, .int z_place, .int z_token, .int z_number, .int z_item, .int z_taken, .int z_once]), (q_bytes, aB cy 300 z_bytes)] → va_S A s.heap H locs → lv_has ls 1 [(0, .ref q0)] → W p l e rmX2_nextWord s m args below meth c H locs 0 0 Q (F0 m 0 ls []) := by
    intro n
    induction n with
    | zero => intro z_at_0 H locs ls hf; exact absurd hf (by simp [it1])
    | succ n ih0 =>
      intro z_at_0 H locs ls hf hP hD hS hl
      have hf : X2_nextWord_S0 z_length z_place z_bytes (it1 (X2_nextWord_S0 z_length z_place z_bytes) n) z_at_0 = some r := hf
      generalize it1 (X2_nextWord_S0 z_length z_place z_bytes) n = self_0 at hf ih0
      unfold X2_nextWord_S0 at hf
      refine lv_aload_n hx hb dX2_nextWord_0 rfl (lv_at hl 0 rfl) ?_
      refine va_get (D := D) (ci := 2) (v := .int z_at_0) (C := RX2) (T := TX2) (N := 11) hx hb hts kc1 hown hK hP 0 rfl rfl 4 (by decide) kw2 (fun _ h9 => h9) rfl dX2_nextWord_1 ?_
      refine lv_aload_n hx hb dX2_nextWord_4 rfl (lv_at hl 0 rfl) ?_
      refine va_get (D := D) (ci := 2) (v := .int z_length) (C := RX2) (T := TX2) (N := 11) hx hb hts kc1 hown hK hP 0 rfl rfl 3 (by decide) kw3 (fun _ h9 => h9) rfl dX2_nextWord_5 ?_
      refine lv_icmp_ge (tgt := 39) hx hb dX2_nextWord_8 (by decide) (fun hc_8 => ?_) (fun hc_8 => ?_)
      · have hf := it_t hf hc_8
        exact hJ39 z_at_0 _ _ _ hf hP hD hS (lv_sub hl [0] rfl)
      · have hf := it_f hf hc_8
        refine lv_aload_n hx hb dX2_nextWord_11 rfl (lv_at hl 0 rfl) ?_
        refine va_get (D := D) (ci := 2) (v := .ref q_bytes) (C := RX2) (T := TX2) (N := 11) hx hb hts kc1 hown hK hP 0 rfl rfl 0 (by decide) kw4 (fun _ h9 => h9) rfl dX2_nextWord_12 ?_
        refine lv_aload_n hx hb dX2_nextWord_15 rfl (lv_at hl 0 rfl) ?_
        refine va_get (D := D) (ci := 2) (v := .int z_at_0) (C := RX2) (T := TX2) (N := 11) hx hb hts kc1 hown hK hP 0 rfl rfl 4 (by decide) kw2 (fun _ h9 => h9) rfl dX2_nextWord_16 ?_
        obtain ⟨hg_19, hf⟩ := gd_some hf
        refine va_bald hx hb hK hP 1 2 rfl rfl hg_19 dX2_nextWord_19 ?_
        obtain ⟨r_20, hr_20, hf⟩ := bd_some hf
        refine cl_i (wc := []) (w1 := []) (wr := [(q0, oB 2 [.ref q_bytes, .ref q_draft, .ref q_numbers, .int z_length, .int z_at_0, .int z_place, .int z_token, .int z_number, .int z_item, .int z_taken, .int z_once]), (q_bytes, aB cy 300 z_bytes)]) (w2 := [(q0, oB 2 [.ref q_bytes, .ref q_draft, .ref q_numbers, .int z_length, .int z_at_0, .int z_place, .int z_token, .int z_number, .int z_item, .int z_taken, .int z_once]), (q_bytes, aB cy 300 z_bytes)]) (va_runS (As := [.int (z_bytes z_at_0.toNatClampNeg)]) (rest := []) ⟨hx, hb, hml, hown, hts⟩ (ktX2_isLetter l D cy (z_bytes z_at_0.toNatClampNeg) r_20 hr_20 _) (va_cwS 1 hts gX2_nextWord_X2_isLetter rfl rfl rfl (by decide +kernel) ⟨Nat.le_of_ble_eq_true rfl, Nat.le_of_ble_eq_true rfl⟩) (pre_S (wc := []) hcx hsx hS hA hP hD [] rfl (by decide)) rfl rfl hl.1 rfl (lv_room (Nat.le_of_ble_eq_true rfl)) dX2_nextWord_20 ⟨Nat.zero_le _, Nat.zero_le _⟩) hP hD hS hA [] [0, 1] [0, 1] rfl rfl (by decide) (by decide) (by decide) rfl (fun H locs hP hD hS => ?_)
        refine lv_if_eq (tgt := 39) hx hb dX2_nextWord_23 (by decide) (fun hc_23 => ?_) (fun hc_23 => ?_)
        · have hf := it_t hf hc_23
          exact hJ39 z_at_0 _ _ _ hf hP hD hS (lv_sub hl [0] rfl)
        · have hf := it_f hf hc_23
          refine lv_aload_n hx hb dX2_nextWord_26 rfl (lv_at hl 0 rfl) ?_
          refine lv_dup hx hb dX2_nextWord_27 rfl ?_
          refine va_get (D := D) (ci := 2) (v := .int z_at_0) (C := RX2) (T := TX2) (N := 11) hx hb hts kc1 hown hK hP 0 rfl rfl 4 (by decide) kw2 (fun _ h9 => h9) rfl dX2_nextWord_28 ?_
          refine lv_iconst (v := 1) hx hb dX2_nextWord_31 (by decide) ?_
          refine lv_iadd hx hb dX2_nextWord_32 ?_
          refine lv_topi (fun z_at_33 ez_at_33 => ?_)
          have hf := lets_at hf ez_at_33
          refine va_put (D := D) (ci := 2) (v := .int z_at_33) (ty := .int) (C := RX2) (T := TX2) (N := 11) hx hb hts kc1 tyX2 tyX2_ok nmX2 hown hK hP hD hS 0 rfl rfl 4 (by decide) kw2 (fun _ h9 => h9) rfl pfI rfl rfl (Nat.le_of_ble_eq_true rfl) dX2_nextWord_33 (fun H locs hP hD hS => ?_)
          have hP : va_P D vwCl [(q0, oB 2 [.ref q_bytes, .ref q_draft, .ref q_numbers, .int z_length, .int z_at_33, .int z_place, .int z_token, .int z_number, .int z_item, .int z_taken, .int z_once]), (q_bytes, aB cy 300 z_bytes)] H := hP
          have hD : va_D A [(q0, oB 2 [.ref q_bytes, .ref q_draft, .ref q_numbers, .int z_length, .int z_at_33, .int z_place, .int z_token, .int z_number, .int z_item, .int z_taken, .int z_once]), (q_bytes, aB cy 300 z_bytes)] := hD
          refine lv_goto (tgt := 0) hx hb dX2_nextWord_36 (by decide) ?_
          exact ih0 z_at_33 _ _ _ hf hP hD hS (lv_sub hl [0] rfl)
  exact hL0 _ z_at _ _ _ hf hP hD hS (lv_sub hl [0] rfl)

def fX2_isDigit (x0 : Int32) : Option Int32 := if x0 < (48 : Int32) then (some (0 : Int32)) else (if (57 : Int32) < x0 then (some (0 : Int32)) else (some (1 : Int32)))
abbrev rmX2_isDigit : Room := { frames := 0, cells := 0, slots := 0, locals := 0 }
set_option maxHeartbeats 4000000 in
set_option maxRecDepth 100000 in
theorem ktX2_isDigit (l : Launch) (D : va_G) (cy : Nat → ClassId) (x0 : Int32) (r : Int32) (hf : fX2_isDigit x0 = some r) : CtI l yX2_isDigit wsX2_isDigit rmX2_isDigit D cy [.int x0] [] [] r := by
  refine Ct_ofZ (cc := cX2_isDigit) (nL := 1) (by decide) rfl (Nat.le_of_ble_eq_true rfl) ?_
  intro p e s m args below meth c A Q hM hret hP hD hS ls hl
  obtain ⟨hx, hb, hml, hown, hts, hcx, hA, hsx⟩ := hM
  have hown : s.vm.findClass RX2 = some m.cls := hown
  have hK := hcx.1
  have hN := hcx.2
  have hl : lv_has ls 1 [(0, .int x0)] := hl
  have hret' : ∀ (pc : Nat) (ls : Array Slot) (H : Heap) (locs : List Loc) (v : Int32), decode cX2_isDigit pc = .ok (.ireturn, 1) → isB v → some v = some r → va_P D vwCl [] H → va_D A [] → va_S A s.heap H locs → W p l e rmX2_isDigit s m args below meth c H locs 0 0 Q (F0 m pc ls [.int v]) := by
    intro pc ls H locs v hd hbv he hP hD hS
    cases he
    exact hret _ _ _ _ _ hd hbv rfl hP hD hS
  unfold fX2_isDigit at hf
  refine lv_iload_n hx hb dX2_isDigit_0 rfl (lv_at hl 0 rfl) ?_
  refine lv_bipush (v := 48) hx hb dX2_isDigit_1 (by decide) ?_
  refine lv_icmp_lt (tgt := 16) hx hb dX2_isDigit_3 (by decide) (fun hc_3 => ?_) (fun hc_3 => ?_)
  · have hf := it_t hf hc_3
    refine lv_iconst (v := 0) hx hb dX2_isDigit_16 (by decide) ?_
    exact hret' _ _ _ _ _ dX2_isDigit_17 (by decide) hf hP hD hS
  · have hf := it_f hf hc_3
    refine lv_iload_n hx hb dX2_isDigit_6 rfl (lv_at hl 0 rfl) ?_
    refine lv_bipush (v := 57) hx hb dX2_isDigit_7 (by decide) ?_
    refine lv_icmp_gt (tgt := 16) hx hb dX2_isDigit_9 (by decide) (fun hc_9 => ?_) (fun hc_9 => ?_)
    · have hf := it_t hf hc_9
      refine lv_iconst (v := 0) hx hb dX2_isDigit_16 (by decide) ?_
      exact hret' _ _ _ _ _ dX2_isDigit_17 (by decide) hf hP hD hS
    · have hf := it_f hf hc_9
      refine lv_iconst (v := 1) hx hb dX2_isDigit_12 (by decide) ?_
      refine lv_goto (tgt := 17) hx hb dX2_isDigit_13 (by decide) ?_
      exact hret' _ _ _ _ _ dX2_isDigit_17 (by decide) hf hP hD hS

def X2_nextNumber_J125 (z_at_73 : Int32) (z_number_73 : Int32) (t1_125 : Int32) : Option (Int32 × Int32 × Int32) := some (z_at_73, t1_125, z_number_73)
def X2_nextNumber_J120 (z_at_73 : Int32) (z_number_73 : Int32) : Option (Int32 × Int32 × Int32) := X2_nextNumber_J125 z_at_73 z_number_73 (1 : Int32)
def X2_nextNumber_J105 (z_at_73 : Int32) (z_number_73 : Int32) (t0_105 : Int32) : Option (Int32 × Int32 × Int32) := if (99 : Int32) < z_number_73 then (X2_nextNumber_J120 z_at_73 z_number_73) else (if t0_105 = 0 then (X2_nextNumber_J125 z_at_73 z_number_73 (2 : Int32)) else (X2_nextNumber_J120 z_at_73 z_number_73))
def X2_nextNumber_J104 (z_at_73 : Int32) (z_number_73 : Int32) : Option (Int32 × Int32 × Int32) := X2_nextNumber_J105 z_at_73 z_number_73 (0 : Int32)
def X2_nextNumber_J73 (z_place : Int32) (z_bytes : Nat → Int32) (z_at_73 : Int32) (z_number_73 : Int32) : Option (Int32 × Int32 × Int32) := if (z_at_73 - z_place) ≤ (1 : Int32) then (X2_nextNumber_J104 z_at_73 z_number_73) else (gd (okx z_place 300) (if (z_bytes z_place.toNatClampNeg) = (48 : Int32) then (X2_nextNumber_J105 z_at_73 z_number_73 (1 : Int32)) else (X2_nextNumber_J104 z_at_73 z_number_73)))
def X2_nextNumber_S5 (z_length : Int32) (z_place : Int32) (z_bytes : Nat → Int32) (self_5 : Int32 → Int32 → Option (Int32 × Int32 × Int32)) (z_at_5 : Int32) (z_number_5 : Int32) : Option (Int32 × Int32 × Int32) := if z_length ≤ z_at_5 then (X2_nextNumber_J73 z_place z_bytes z_at_5 z_number_5) else (gd (okx z_at_5 300) ((fX2_isDigit (z_bytes z_at_5.toNatClampNeg)).bind (fun r_25 => if r_25 = 0 then (X2_nextNumber_J73 z_place z_bytes z_at_5 z_number_5) else (gd (okx z_at_5 300) (lets (if (((z_number_5 * (10 : Int32)) + (z_bytes z_at_5.toNatClampNeg)) - (48 : Int32)) < (100 : Int32) then (((z_number_5 * (10 : Int32)) + (z_bytes z_at_5.toNatClampNeg)) - (48 : Int32)) else (100 : Int32)) (fun z_number_57 => lets (z_at_5 + (1 : Int32)) (fun z_at_67 => self_5 z_at_67 z_number_57)))))))
def fX2_nextNumber (z_length : Int32) (z_at : Int32) (z_place : Int32) (z_bytes : Nat → Int32) : Option (Int32 × Int32 × Int32) := it2 (X2_nextNumber_S5 z_length z_place z_bytes) 100000 z_at (0 : Int32)
abbrev rmX2_nextNumber : Room := { frames := 1, cells := 0, slots := 0, locals := 21 }
set_option maxHeartbeats 4000000 in
set_option maxRecDepth 100000 in
theorem ktX2_nextNumber (l : Launch) (D : va_G) (cy : Nat → ClassId) (q0 : Nat) (q_bytes : Nat) (q_draft : Nat) (q_numbers : Nat) (z_length : Int32) (z_at : Int32) (z_place : Int32) (z_token : Int32) (z_number : Int32) (z_item : Int32) (z_taken : Int32) (z_once : Int32) (z_bytes : Nat → Int32) (r : Int32 × Int32 × Int32) (hf : fX2_nextNumber z_length z_at z_place z_bytes = some r) : CtV l yX2_nextNumber wsX2_nextNumber rmX2_nextNumber D cy [.ref q0] [(q0, oB 2 [.ref q_bytes, .ref q_draft, .ref q_numbers, .int z_length, .int z_at, .int z_place, .int z_token, .int z_number, .int z_item, .int z_taken, .int z_once]), (q_bytes, aB cy 300 z_bytes)] [(q0, oB 2 [.ref q_bytes, .ref q_draft, .ref q_numbers, .int z_length, .int r.1, .int z_place, .int r.2.1, .int r.2.2, .int z_item, .int z_taken, .int z_once]), (q_bytes, aB cy 300 z_bytes)] := by
  refine Ct_ofV (cc := cX2_nextNumber) (nL := 2) (by decide) rfl (Nat.le_of_ble_eq_true rfl) ?_
  intro p e s m args below meth c A Q hM hret hP hD hS ls hl
  obtain ⟨hx, hb, hml, hown, hts, hcx, hA, hsx⟩ := hM
  have hown : s.vm.findClass RX2 = some m.cls := hown
  have hK := hcx.1
  have hN := hcx.2
  have kw0 := hts (.fieldLink RX2 39 "EachBrings$Text" "number" "I") (List.mem_of_getElem? (i := 1) rfl)
  have kc1 : ∀ w ∈ wsX20, w ∈ wsX2_nextNumber := fun _ h => List.mem_cons_of_mem _ (List.mem_append_right _ h)
  have kw2 := hts (.fieldLink RX2 30 "EachBrings$Text" "at" "I") (List.mem_of_getElem? (i := 2) rfl)
  have kw3 := hts (.fieldLink RX2 33 "EachBrings$Text" "place" "I") (List.mem_of_getElem? (i := 9) rfl)
  have kw4 := hts (.fieldLink RX2 36 "EachBrings$Text" "token" "I") (List.mem_of_getElem? (i := 10) rfl)
  have kw5 := hts (.fieldLink RX2 9 "EachBrings$Text" "bytes" "[B") (List.mem_of_getElem? (i := 4) rfl)
  have kw6 := hts (.fieldLink RX2 26 "EachBrings$Text" "length" "I") (List.mem_of_getElem? (i := 3) rfl)
  have kw7 := hts (.methodLink RX2 129 Lib.Math.min.name) (List.mem_of_getElem? (i := 5) rfl)
  have kw8 := hts (.static Lib.Math.min.name) (List.mem_of_getElem? (i := 6) rfl)
  have kw9 := hts (.initialized "java/lang/Math") (List.mem_of_getElem? (i := 7) rfl)
  have kw10 := hts (.code Lib.Math.min.name Lib.Math.min.code 2 (some .int)) (List.mem_of_getElem? (i := 8) rfl)
  have hl : lv_has ls 2 [(0, .ref q0)] := hl
  have hret' : ∀ (pc : Nat) (ls : Array Slot) (H : Heap) (locs : List Loc) (w0 : Int32) (w1 : Int32) (w2 : Int32), decode cX2_nextNumber pc = .ok (.return_, 1) → some (w0, w1, w2) = some r → va_P D vwCl [(q0, oB 2 [.ref q_bytes, .ref q_draft, .ref q_numbers, .int z_length, .int w0, .int z_place, .int w1, .int w2, .int z_item, .int z_taken, .int z_once]), (q_bytes, aB cy 300 z_bytes)] H → va_D A [(q0, oB 2 [.ref q_bytes, .ref q_draft, .ref q_numbers, .int z_length, .int w0, .int z_place, .int w1, .int w2, .int z_item, .int z_taken, .int z_once]), (q_bytes, aB cy 300 z_bytes)] → va_S A s.heap H locs → W p l e rmX2_nextNumber s m args below meth c H locs 0 0 Q (F0 m pc ls []) := by
    intro pc ls H locs w0 w1 w2 hd he hP hD hS
    cases he
    exact hret _ _ _ _ hd hP hD hS
  unfold fX2_nextNumber at hf
  refine lv_aload_n hx hb dX2_nextNumber_0 rfl (lv_at hl 0 rfl) ?_
  refine lv_iconst (v := 0) hx hb dX2_nextNumber_1 (by decide) ?_
  refine va_put (D := D) (ci := 2) (v := .int (0 : Int32)) (ty := .int) (C := RX2) (T := TX2) (N := 11) hx hb hts kc1 tyX2 tyX2_ok nmX2 hown hK hP hD hS 0 rfl rfl 7 (by decide) kw0 (fun _ h9 => h9) rfl pfI rfl rfl (Nat.le_of_ble_eq_true rfl) dX2_nextNumber_2 (fun H locs hP hD hS => ?_)
  have hP : va_P D vwCl [(q0, oB 2 [.ref q_bytes, .ref q_draft, .ref q_numbers, .int z_length, .int z_at, .int z_place, .int z_token, .int (0 : Int32), .int z_item, .int z_taken, .int z_once]), (q_bytes, aB cy 300 z_bytes)] H := hP
  have hD : va_D A [(q0, oB 2 [.ref q_bytes, .ref q_draft, .ref q_numbers, .int z_length, .int z_at, .int z_place, .int z_token, .int (0 : Int32), .int z_item, .int z_taken, .int z_once]), (q_bytes, aB cy 300 z_bytes)] := hD
  have hJ73 : ∀ (z_at_73 : Int32) (z_number_73 : Int32) (H : Heap) (locs : List Loc) (ls : Array Slot), X2_nextNumber_J73 z_place z_bytes z_at_73 z_number_73 = some r → va_P D vwCl [(q0, oB 2 [.ref q_bytes, .ref q_draft, .ref q_numbers, .int z_length, .int z_at_73, .int z_place, .int z_token, .int z_number_73, .int z_item, .int z_taken, .int z_once]), (q_bytes, aB cy 300 z_bytes)] H → va_D A [(q0, oB 2 [.ref q_bytes, .ref q_draft, .ref q_numbers, .int z_length, .int z_at_73, .int z_place, .int z_token, .int z_number_73, .int z_item, .int z_taken, .int z_once]), (q_bytes, aB cy 300 z_bytes)] → va_S A s.heap H locs → lv_has ls 2 [(0, .ref q0)] → W p l e rmX2_nextNumber s m args below meth c H locs 0 0 Q (F0 m 73 ls []) := by
    intro z_at_73 z_number_73 H locs ls hf hP hD hS hl
    unfold X2_nextNumber_J73 at hf
    refine lv_aload_n hx hb dX2_nextNumber_73 rfl (lv_at hl 0 rfl) ?_
    refine va_get (D := D) (ci := 2) (v := .int z_at_73) (C := RX2) (T := TX2) (N := 11) hx hb hts kc1 hown hK hP 0 rfl rfl 4 (by decide) kw2 (fun _ h9 => h9) rfl dX2_nextNumber_74 ?_
    refine lv_aload_n hx hb dX2_nextNumber_77 rfl (lv_at hl 0 rfl) ?_
    refine va_get (D := D) (ci := 2) (v := .int z_place) (C := RX2) (T := TX2) (N := 11) hx hb hts kc1 hown hK hP 0 rfl rfl 5 (by decide) kw3 (fun _ h9 => h9) rfl dX2_nextNumber_78 ?_
    refine lv_isub hx hb dX2_nextNumber_81 ?_
    refine lv_iconst (v := 1) hx hb dX2_nextNumber_82 (by decide) ?_
    have hJ105 : ∀ (t0_105 : Int32) (H : Heap) (locs : List Loc) (ls : Array Slot), X2_nextNumber_J105 z_at_73 z_number_73 t0_105 = some r → va_P D vwCl [(q0, oB 2 [.ref q_bytes, .ref q_draft, .ref q_numbers, .int z_length, .int z_at_73, .int z_place, .int z_token, .int z_number_73, .int z_item, .int z_taken, .int z_once]), (q_bytes, aB cy 300 z_bytes)] H → va_D A [(q0, oB 2 [.ref q_bytes, .ref q_draft, .ref q_numbers, .int z_length, .int z_at_73, .int z_place, .int z_token, .int z_number_73, .int z_item, .int z_taken, .int z_once]), (q_bytes, aB cy 300 z_bytes)] → va_S A s.heap H locs → lv_has ls 2 [(0, .ref q0)] → W p l e rmX2_nextNumber s m args below meth c H locs 0 0 Q (F0 m 105 ls [.int t0_105]) := by
      intro t0_105 H locs ls hf hP hD hS hl
      unfold X2_nextNumber_J105 at hf
      refine lv_istore_n (lv' := [(1, .int t0_105), (0, .ref q0)]) hx hb dX2_nextNumber_105 rfl hl (by decide) rfl (fun ls hl => ?_)
      refine lv_aload_n hx hb dX2_nextNumber_106 rfl (lv_at hl 1 rfl) ?_
      refine lv_aload_n hx hb dX2_nextNumber_107 rfl (lv_at hl 1 rfl) ?_
      refine va_get (D := D) (ci := 2) (v := .int z_number_73) (C := RX2) (T := TX2) (N := 11) hx hb hts kc1 hown hK hP 0 rfl rfl 7 (by decide) kw0 (fun _ h9 => h9) rfl dX2_nextNumber_108 ?_
      refine lv_bipush (v := 99) hx hb dX2_nextNumber_111 (by decide) ?_
      have hJ125 : ∀ (t1_125 : Int32) (H : Heap) (locs : List Loc) (ls : Array Slot), X2_nextNumber_J125 z_at_73 z_number_73 t1_125 = some r → va_P D vwCl [(q0, oB 2 [.ref q_bytes, .ref q_draft, .ref q_numbers, .int z_length, .int z_at_73, .int z_place, .int z_token, .int z_number_73, .int z_item, .int z_taken, .int z_once]), (q_bytes, aB cy 300 z_bytes)] H → va_D A [(q0, oB 2 [.ref q_bytes, .ref q_draft, .ref q_numbers, .int z_length, .int z_at_73, .int z_place, .int z_token, .int z_number_73, .int z_item, .int z_taken, .int z_once]), (q_bytes, aB cy 300 z_bytes)] → va_S A s.heap H locs → lv_has ls 2 [] → W p l e rmX2_nextNumber s m args below meth c H locs 0 0 Q (F0 m 125 ls [.int t1_125, .ref q0]) := by
        intro t1_125 H locs ls hf hP hD hS hl
        unfold X2_nextNumber_J125 at hf
        refine va_put (D := D) (ci := 2) (v := .int t1_125) (ty := .int) (C := RX2) (T := TX2) (N := 11) hx hb hts kc1 tyX2 tyX2_ok nmX2 hown hK hP hD hS 0 rfl rfl 6 (by decide) kw4 (fun _ h9 => h9) rfl pfI rfl rfl (Nat.le_of_ble_eq_true rfl) dX2_nextNumber_125 (fun H locs hP hD hS => ?_)
        have hP : va_P D vwCl [(q0, oB 2 [.ref q_bytes, .ref q_draft, .ref q_numbers, .int z_length, .int z_at_73, .int z_place, .int t1_125, .int z_number_73, .int z_item, .int z_taken, .int z_once]), (q_bytes, aB cy 300 z_bytes)] H := hP
        have hD : va_D A [(q0, oB 2 [.ref q_bytes, .ref q_draft, .ref q_numbers, .int z_length, .int z_at_73, .int z_place, .int t1_125, .int z_number_73, .int z_item, .int z_taken, .int z_once]), (q_bytes, aB cy 300 z_bytes)] := hD
        exact hret' _ _ _ _ _ _ _ dX2_nextNumber_128 hf hP hD hS
      have hJ120 : ∀ (H : Heap) (locs : List Loc) (ls : Array Slot), X2_nextNumber_J120 z_at_73 z_number_73 = some r → va_P D vwCl [(q0, oB 2 [.ref q_bytes, .ref q_draft, .ref q_numbers, .int z_length, .int z_at_73, .int z_place, .int z_token, .int z_number_73, .int z_item, .int z_taken, .int z_once]), (q_bytes, aB cy 300 z_bytes)] H → va_D A [(q0, oB 2 [.ref q_bytes, .ref q_draft, .ref q_numbers, .int z_length, .int z_at_73, .int z_place, .int z_token, .int z_number_73, .int z_item, .int z_taken, .int z_once]), (q_bytes, aB cy 300 z_bytes)] → va_S A s.heap H locs → lv_has ls 2 [] → W p l e rmX2_nextNumber s m args below meth c H locs 0 0 Q (F0 m 120 ls [.ref q0]) := by
        intro H locs ls hf hP hD hS hl
        unfold X2_nextNumber_J120 at hf
        refine lv_iconst (v := 1) hx hb dX2_nextNumber_120 (by decide) ?_
        refine lv_goto (tgt := 125) hx hb dX2_nextNumber_121 (by decide) ?_
        exact hJ125 (1 : Int32) _ _ _ hf hP hD hS (lv_sub hl [] rfl)
      refine lv_icmp_gt (tgt := 120) hx hb dX2_nextNumber_113 (by decide) (fun hc_113 => ?_) (fun hc_113 => ?_)
      · have hf := it_t hf hc_113
        exact hJ120 _ _ _ hf hP hD hS (lv_sub hl [] rfl)
      · have hf := it_f hf hc_113
        refine lv_iload_n hx hb dX2_nextNumber_116 rfl (lv_at hl 0 rfl) ?_
        refine lv_if_eq (tgt := 124) hx hb dX2_nextNumber_117 (by decide) (fun hc_117 => ?_) (fun hc_117 => ?_)
        · have hf := it_t hf hc_117
          refine lv_iconst (v := 2) hx hb dX2_nextNumber_124 (by decide) ?_
          exact hJ125 (2 : Int32) _ _ _ hf hP hD hS (lv_sub hl [] rfl)
        · have hf := it_f hf hc_117
          exact hJ120 _ _ _ hf hP hD hS (lv_sub hl [] rfl)
    have hJ104 : ∀ (H : Heap) (locs : List Loc) (ls : Array Slot), X2_nextNumber_J104 z_at_73 z_number_73 = some r → va_P D vwCl [(q0, oB 2 [.ref q_bytes, .ref q_draft, .ref q_numbers, .int z_length, .int z_at_73, .int z_place, .int z_token, .int z_number_73, .int z_item, .int z_taken, .int z_once]), (q_bytes, aB cy 300 z_bytes)] H → va_D A [(q0, oB 2 [.ref q_bytes, .ref q_draft, .ref q_numbers, .int z_length, .int z_at_73, .int z_place, .int z_token, .int z_number_73, .int z_item, .int z_taken, .int z_once]), (q_bytes, aB cy 300 z_bytes)] → va_S A s.heap H locs → lv_has ls 2 [(0, .ref q0)] → W p l e rmX2_nextNumber s m args below meth c H locs 0 0 Q (F0 m 104 ls []) := by
      intro H locs ls hf hP hD hS hl
      unfold X2_nextNumber_J104 at hf
      refine lv_iconst (v := 0) hx hb dX2_nextNumber_104 (by decide) ?_
      exact hJ105 (0 : Int32) _ _ _ hf hP hD hS (lv_sub hl [0] rfl)
    refine lv_icmp_le (tgt := 104) hx hb dX2_nextNumber_83 (by decide) (fun hc_83 => ?_) (fun hc_83 => ?_)
    · have hf := it_t hf hc_83
      exact hJ104 _ _ _ hf hP hD hS (lv_sub hl [0] rfl)
    · have hf := it_f hf hc_83
      refine lv_aload_n hx hb dX2_nextNumber_86 rfl (lv_at hl 0 rfl) ?_
      refine va_get (D := D) (ci := 2) (v := .ref q_bytes) (C := RX2) (T := TX2) (N := 11) hx hb hts kc1 hown hK hP 0 rfl rfl 0 (by decide) kw5 (fun _ h9 => h9) rfl dX2_nextNumber_87 ?_
      refine lv_aload_n hx hb dX2_nextNumber_90 rfl (lv_at hl 0 rfl) ?_
      refine va_get (D := D) (ci := 2) (v := .int z_place) (C := RX2) (T := TX2) (N := 11) hx hb hts kc1 hown hK hP 0 rfl rfl 5 (by decide) kw3 (fun _ h9 => h9) rfl dX2_nextNumber_91 ?_
      obtain ⟨hg_94, hf⟩ := gd_some hf
      refine va_bald hx hb hK hP 1 2 rfl rfl hg_94 dX2_nextNumber_94 ?_
      refine lv_bipush (v := 48) hx hb dX2_nextNumber_95 (by decide) ?_
      refine lv_icmp_ne (tgt := 104) hx hb dX2_nextNumber_97 (by decide) (fun hc_97 => ?_) (fun hc_97 => ?_)
      · have hf := it_f hf hc_97
        exact hJ104 _ _ _ hf hP hD hS (lv_sub hl [0] rfl)
      · have hf := it_t hf hc_97
        refine lv_iconst (v := 1) hx hb dX2_nextNumber_100 (by decide) ?_
        refine lv_goto (tgt := 105) hx hb dX2_nextNumber_101 (by decide) ?_
        exact hJ105 (1 : Int32) _ _ _ hf hP hD hS (lv_sub hl [0] rfl)
  have hL5 : ∀ (n : Nat) (z_at_5 : Int32) (z_number_5 : Int32) (H : Heap) (locs : List Loc) (ls : Array Slot), it2 (X2_nextNumber_S5 z_length z_place z_bytes) n z_at_5 z_number_5 = some r → va_P D vwCl [(q0, oB 2 [.ref q_bytes, .ref q_draft, .ref q_numbers, .int z_length, .int z_at_5, .int z_place, .int z_token, .int z_number_5, .int z_item, .int z_taken, .int z_once]), (q_bytes, aB cy 300 z_bytes)] H → va_D A [(q0, oB 2 [.ref q_bytes, .ref q_draft, .ref q_numbers, .int z_length, .int z_at_5, .int z_place, .int z_token, .int z_number_5, .int z_item, .int z_taken, .int z_once]), (q_bytes, aB cy 300 z_bytes)] → va_S A s.heap H locs → lv_has ls 2 [(0, .ref q0)] → W p l e rmX2_nextNumber s m args below meth c H locs 0 0 Q (F0 m 5 ls []) := by
    intro n
    induction n with
    | zero => intro z_at_5 z_number_5 H locs ls hf; exact absurd hf (by simp [it2])
    | succ n ih5 =>
      intro z_at_5 z_number_5 H locs ls hf hP hD hS hl
      have hf : X2_nextNumber_S5 z_length z_place z_bytes (it2 (X2_nextNumber_S5 z_length z_place z_bytes) n) z_at_5 z_number_5 = some r := hf
      generalize it2 (X2_nextNumber_S5 z_length z_place z_bytes) n = self_5 at hf ih5
      unfold X2_nextNumber_S5 at hf
      refine lv_aload_n hx hb dX2_nextNumber_5 rfl (lv_at hl 0 rfl) ?_
      refine va_get (D := D) (ci := 2) (v := .int z_at_5) (C := RX2) (T := TX2) (N := 11) hx hb hts kc1 hown hK hP 0 rfl rfl 4 (by decide) kw2 (fun _ h9 => h9) rfl dX2_nextNumber_6 ?_
      refine lv_aload_n hx hb dX2_nextNumber_9 rfl (lv_at hl 0 rfl) ?_
      refine va_get (D := D) (ci := 2) (v := .int z_length) (C := RX2) (T := TX2) (N := 11) hx hb hts kc1 hown hK hP 0 rfl rfl 3 (by decide) kw6 (fun _ h9 => h9) rfl dX2_nextNumber_10 ?_
      refine lv_icmp_ge (tgt := 73) hx hb dX2_nextNumber_13 (by decide) (fun hc_13 => ?_) (fun hc_13 => ?_)
      · have hf := it_t hf hc_13
        exact hJ73 z_at_5 z_number_5 _ _ _ hf hP hD hS (lv_sub hl [0] rfl)
      · have hf := it_f hf hc_13
        refine lv_aload_n hx hb dX2_nextNumber_16 rfl (lv_at hl 0 rfl) ?_
        refine va_get (D := D) (ci := 2) (v := .ref q_bytes) (C := RX2) (T := TX2) (N := 11) hx hb hts kc1 hown hK hP 0 rfl rfl 0 (by decide) kw5 (fun _ h9 => h9) rfl dX2_nextNumber_17 ?_
        refine lv_aload_n hx hb dX2_nextNumber_20 rfl (lv_at hl 0 rfl) ?_
        refine va_get (D := D) (ci := 2) (v := .int z_at_5) (C := RX2) (T := TX2) (N := 11) hx hb hts kc1 hown hK hP 0 rfl rfl 4 (by decide) kw2 (fun _ h9 => h9) rfl dX2_nextNumber_21 ?_
        obtain ⟨hg_24, hf⟩ := gd_some hf
        refine va_bald hx hb hK hP 1 2 rfl rfl hg_24 dX2_nextNumber_24 ?_
        obtain ⟨r_25, hr_25, hf⟩ := bd_some hf
        refine cl_i (wc := []) (w1 := []) (wr := [(q0, oB 2 [.ref q_bytes, .ref q_draft, .ref q_numbers, .int z_length, .int z_at_5, .int z_place, .int z_token, .int z_number_5, .int z_item, .int z_taken, .int z_once]), (q_bytes, aB cy 300 z_bytes)]) (w2 := [(q0, oB 2 [.ref q_bytes, .ref q_draft, .ref q_numbers, .int z_length, .int z_at_5, .int z_place, .int z_token, .int z_number_5, .int z_item, .int z_taken, .int z_once]), (q_bytes, aB cy 300 z_bytes)]) (va_runS (As := [.int (z_bytes z_at_5.toNatClampNeg)]) (rest := []) ⟨hx, hb, hml, hown, hts⟩ (ktX2_isDigit l D cy (z_bytes z_at_5.toNatClampNeg) r_25 hr_25 _) (va_cwS 1 hts gX2_nextNumber_X2_isDigit rfl rfl rfl (by decide +kernel) ⟨Nat.le_of_ble_eq_true rfl, Nat.le_of_ble_eq_true rfl⟩) (pre_S (wc := []) hcx hsx hS hA hP hD [] rfl (by decide)) rfl rfl hl.1 rfl (lv_room (Nat.le_of_ble_eq_true rfl)) dX2_nextNumber_25 ⟨Nat.zero_le _, Nat.zero_le _⟩) hP hD hS hA [] [0, 1] [0, 1] rfl rfl (by decide) (by decide) (by decide) rfl (fun H locs hP hD hS => ?_)
        refine lv_if_eq (tgt := 73) hx hb dX2_nextNumber_28 (by decide) (fun hc_28 => ?_) (fun hc_28 => ?_)
        · have hf := it_t hf hc_28
          exact hJ73 z_at_5 z_number_5 _ _ _ hf hP hD hS (lv_sub hl [0] rfl)
        · have hf := it_f hf hc_28
          refine lv_aload_n hx hb dX2_nextNumber_31 rfl (lv_at hl 0 rfl) ?_
          refine lv_bipush (v := 100) hx hb dX2_nextNumber_32 (by decide) ?_
          refine lv_aload_n hx hb dX2_nextNumber_34 rfl (lv_at hl 0 rfl) ?_
          refine va_get (D := D) (ci := 2) (v := .int z_number_5) (C := RX2) (T := TX2) (N := 11) hx hb hts kc1 hown hK hP 0 rfl rfl 7 (by decide) kw0 (fun _ h9 => h9) rfl dX2_nextNumber_35 ?_
          refine lv_bipush (v := 10) hx hb dX2_nextNumber_38 (by decide) ?_
          refine lv_imul hx hb dX2_nextNumber_40 ?_
          refine lv_aload_n hx hb dX2_nextNumber_41 rfl (lv_at hl 0 rfl) ?_
          refine va_get (D := D) (ci := 2) (v := .ref q_bytes) (C := RX2) (T := TX2) (N := 11) hx hb hts kc1 hown hK hP 0 rfl rfl 0 (by decide) kw5 (fun _ h9 => h9) rfl dX2_nextNumber_42 ?_
          refine lv_aload_n hx hb dX2_nextNumber_45 rfl (lv_at hl 0 rfl) ?_
          refine va_get (D := D) (ci := 2) (v := .int z_at_5) (C := RX2) (T := TX2) (N := 11) hx hb hts kc1 hown hK hP 0 rfl rfl 4 (by decide) kw2 (fun _ h9 => h9) rfl dX2_nextNumber_46 ?_
          obtain ⟨hg_49, hf⟩ := gd_some hf
          refine va_bald hx hb hK hP 1 2 rfl rfl hg_49 dX2_nextNumber_49 ?_
          refine lv_iadd hx hb dX2_nextNumber_50 ?_
          refine lv_bipush (v := 48) hx hb dX2_nextNumber_51 (by decide) ?_
          refine lv_isub hx hb dX2_nextNumber_53 ?_
          refine va_mmin hx hb (hml.trans hl.1.symm) hown kw7 kw8 kw9 kw10 (Nat.le_of_ble_eq_true rfl) (Nat.le_of_ble_eq_true rfl) (Nat.zero_le _) (Nat.zero_le _) dX2_nextNumber_54 ?_
          refine lv_topi (fun z_number_57 ez_number_57 => ?_)
          have hf := lets_at hf ez_number_57
          refine va_put (D := D) (ci := 2) (v := .int z_number_57) (ty := .int) (C := RX2) (T := TX2) (N := 11) hx hb hts kc1 tyX2 tyX2_ok nmX2 hown hK hP hD hS 0 rfl rfl 7 (by decide) kw0 (fun _ h9 => h9) rfl pfI rfl rfl (Nat.le_of_ble_eq_true rfl) dX2_nextNumber_57 (fun H locs hP hD hS => ?_)
          have hP : va_P D vwCl [(q0, oB 2 [.ref q_bytes, .ref q_draft, .ref q_numbers, .int z_length, .int z_at_5, .int z_place, .int z_token, .int z_number_57, .int z_item, .int z_taken, .int z_once]), (q_bytes, aB cy 300 z_bytes)] H := hP
          have hD : va_D A [(q0, oB 2 [.ref q_bytes, .ref q_draft, .ref q_numbers, .int z_length, .int z_at_5, .int z_place, .int z_token, .int z_number_57, .int z_item, .int z_taken, .int z_once]), (q_bytes, aB cy 300 z_bytes)] := hD
          refine lv_aload_n hx hb dX2_nextNumber_60 rfl (lv_at hl 0 rfl) ?_
          refine lv_dup hx hb dX2_nextNumber_61 rfl ?_
          refine va_get (D := D) (ci := 2) (v := .int z_at_5) (C := RX2) (T := TX2) (N := 11) hx hb hts kc1 hown hK hP 0 rfl rfl 4 (by decide) kw2 (fun _ h9 => h9) rfl dX2_nextNumber_62 ?_
          refine lv_iconst (v := 1) hx hb dX2_nextNumber_65 (by decide) ?_
          refine lv_iadd hx hb dX2_nextNumber_66 ?_
          refine lv_topi (fun z_at_67 ez_at_67 => ?_)
          have hf := lets_at hf ez_at_67
          refine va_put (D := D) (ci := 2) (v := .int z_at_67) (ty := .int) (C := RX2) (T := TX2) (N := 11) hx hb hts kc1 tyX2 tyX2_ok nmX2 hown hK hP hD hS 0 rfl rfl 4 (by decide) kw2 (fun _ h9 => h9) rfl pfI rfl rfl (Nat.le_of_ble_eq_true rfl) dX2_nextNumber_67 (fun H locs hP hD hS => ?_)
          have hP : va_P D vwCl [(q0, oB 2 [.ref q_bytes, .ref q_draft, .ref q_numbers, .int z_length, .int z_at_67, .int z_place, .int z_token, .int z_number_57, .int z_item, .int z_taken, .int z_once]), (q_bytes, aB cy 300 z_bytes)] H := hP
          have hD : va_D A [(q0, oB 2 [.ref q_bytes, .ref q_draft, .ref q_numbers, .int z_length, .int z_at_67, .int z_place, .int z_token, .int z_number_57, .int z_item, .int z_taken, .int z_once]), (q_bytes, aB cy 300 z_bytes)] := hD
          refine lv_goto (tgt := 5) hx hb dX2_nextNumber_70 (by decide) ?_
          exact ih5 z_at_67 z_number_57 _ _ _ hf hP hD hS (lv_sub hl [0] rfl)
  exact hL5 _ z_at (0 : Int32) _ _ _ hf hP hD hS (lv_sub hl [0] rfl)

def X2_next_J129 (z_number : Int32) (z_at_38 : Int32) (t1_129 : Int32) : Option (Int32 × Int32 × Int32 × Int32) := lets (z_at_38 + (1 : Int32)) (fun z_at_139 => some (z_at_139, z_at_38, t1_129, z_number))
def X2_next_J38 (z_length : Int32) (z_number : Int32) (z_bytes : Nat → Int32) (z_at_38 : Int32) : Option (Int32 × Int32 × Int32 × Int32) := if z_at_38 < z_length then (gd (okx z_at_38 300) ((fX2_isLetter (z_bytes z_at_38.toNatClampNeg)).bind (fun r_74 => if r_74 = 0 then (gd (okx z_at_38 300) ((fX2_isDigit (z_bytes z_at_38.toNatClampNeg)).bind (fun r_96 => if r_96 = 0 then (gd (okx z_at_38 300) (if (z_bytes z_at_38.toNatClampNeg) = (59 : Int32) then (X2_next_J129 z_number z_at_38 (3 : Int32)) else (X2_next_J129 z_number z_at_38 (1 : Int32)))) else ((fX2_nextNumber z_length z_at_38 z_at_38 z_bytes).bind (fun r_103 => some (r_103.1, z_at_38, r_103.2.1, r_103.2.2)))))) else ((fX2_nextWord z_length z_at_38 z_at_38 z_bytes).bind (fun r_81 => some (r_81.1, z_at_38, r_81.2, z_number)))))) else (some (z_at_38, z_at_38, (0 : Int32), z_number))
def X2_next_S0 (z_length : Int32) (z_number : Int32) (z_bytes : Nat → Int32) (self_0 : Int32 → Option (Int32 × Int32 × Int32 × Int32)) (z_at_0 : Int32) : Option (Int32 × Int32 × Int32 × Int32) := if z_length ≤ z_at_0 then (X2_next_J38 z_length z_number z_bytes z_at_0) else (gd (okx z_at_0 300) (if (z_bytes z_at_0.toNatClampNeg) = (32 : Int32) then (lets (z_at_0 + (1 : Int32)) (fun z_at_32 => self_0 z_at_32)) else (X2_next_J38 z_length z_number z_bytes z_at_0)))
def fX2_next (z_length : Int32) (z_at : Int32) (z_number : Int32) (z_bytes : Nat → Int32) : Option (Int32 × Int32 × Int32 × Int32) := it1 (X2_next_S0 z_length z_number z_bytes) 100000 z_at
abbrev rmX2_next : Room := { frames := 6, cells := 0, slots := 0, locals := 183 }
set_option maxHeartbeats 4000000 in
set_option maxRecDepth 100000 in
theorem ktX2_next (l : Launch) (D : va_G) (cy : Nat → ClassId) (q0 : Nat) (q_bytes : Nat) (q_draft : Nat) (q_numbers : Nat) (z_length : Int32) (z_at : Int32) (z_place : Int32) (z_token : Int32) (z_number : Int32) (z_item : Int32) (z_taken : Int32) (z_once : Int32) (z_bytes : Nat → Int32) (r : Int32 × Int32 × Int32 × Int32) (hf : fX2_next z_length z_at z_number z_bytes = some r) : CtV l yX2_next wsX2_next rmX2_next D cy [.ref q0] [(q0, oB 2 [.ref q_bytes, .ref q_draft, .ref q_numbers, .int z_length, .int z_at, .int z_place, .int z_token, .int z_number, .int z_item, .int z_taken, .int z_once]), (q_bytes, aB cy 300 z_bytes)] [(q0, oB 2 [.ref q_bytes, .ref q_draft, .ref q_numbers, .int z_length, .int r.1, .int r.2.1, .int r.2.2.1, .int r.2.2.2, .int z_item, .int z_taken, .int z_once]), (q_bytes, aB cy 300 z_bytes)] := by
  refine Ct_ofV (cc := cX2_next) (nL := 1) (by decide) rfl (Nat.le_of_ble_eq_true rfl) ?_
  intro p e s m args below meth c A Q hM hret hP hD hS ls hl
  obtain ⟨hx, hb, hml, hown, hts, hcx, hA, hsx⟩ := hM
  have hown : s.vm.findClass RX2 = some m.cls := hown
  have hK := hcx.1
  have hN := hcx.2
  have kw0 := hts (.fieldLink RX2 30 "EachBrings$Text" "at" "I") (List.mem_of_getElem? (i := 1) rfl)
  have kc1 : ∀ w ∈ wsX20, w ∈ wsX2_next := fun _ h => List.mem_cons_of_mem _ (List.mem_append_right _ h)
  have kw2 := hts (.fieldLink RX2 33 "EachBrings$Text" "place" "I") (List.mem_of_getElem? (i := 4) rfl)
  have kw3 := hts (.fieldLink RX2 26 "EachBrings$Text" "length" "I") (List.mem_of_getElem? (i := 2) rfl)
  have kw4 := hts (.fieldLink RX2 9 "EachBrings$Text" "bytes" "[B") (List.mem_of_getElem? (i := 3) rfl)
  have kw5 := hts (.fieldLink RX2 36 "EachBrings$Text" "token" "I") (List.mem_of_getElem? (i := 5) rfl)
  have hl : lv_has ls 1 [(0, .ref q0)] := hl
  have hret' : ∀ (pc : Nat) (ls : Array Slot) (H : Heap) (locs : List Loc) (w0 : Int32) (w1 : Int32) (w2 : Int32) (w3 : Int32), decode cX2_next pc = .ok (.return_, 1) → some (w0, w1, w2, w3) = some r → va_P D vwCl [(q0, oB 2 [.ref q_bytes, .ref q_draft, .ref q_numbers, .int z_length, .int w0, .int w1, .int w2, .int w3, .int z_item, .int z_taken, .int z_once]), (q_bytes, aB cy 300 z_bytes)] H → va_D A [(q0, oB 2 [.ref q_bytes, .ref q_draft, .ref q_numbers, .int z_length, .int w0, .int w1, .int w2, .int w3, .int z_item, .int z_taken, .int z_once]), (q_bytes, aB cy 300 z_bytes)] → va_S A s.heap H locs → W p l e rmX2_next s m args below meth c H locs 0 0 Q (F0 m pc ls []) := by
    intro pc ls H locs w0 w1 w2 w3 hd he hP hD hS
    cases he
    exact hret _ _ _ _ hd hP hD hS
  unfold fX2_next at hf
  have hJ38 : ∀ (z_at_38 : Int32) (H : Heap) (locs : List Loc) (ls : Array Slot), X2_next_J38 z_length z_number z_bytes z_at_38 = some r → va_P D vwCl [(q0, oB 2 [.ref q_bytes, .ref q_draft, .ref q_numbers, .int z_length, .int z_at_38, .int z_place, .int z_token, .int z_number, .int z_item, .int z_taken, .int z_once]), (q_bytes, aB cy 300 z_bytes)] H → va_D A [(q0, oB 2 [.ref q_bytes, .ref q_draft, .ref q_numbers, .int z_length, .int z_at_38, .int z_place, .int z_token, .int z_number, .int z_item, .int z_taken, .int z_once]), (q_bytes, aB cy 300 z_bytes)] → va_S A s.heap H locs → lv_has ls 1 [(0, .ref q0)] → W p l e rmX2_next s m args below meth c H locs 0 0 Q (F0 m 38 ls []) := by
    intro z_at_38 H locs ls hf hP hD hS hl
    unfold X2_next_J38 at hf
    refine lv_aload_n hx hb dX2_next_38 rfl (lv_at hl 0 rfl) ?_
    refine lv_aload_n hx hb dX2_next_39 rfl (lv_at hl 0 rfl) ?_
    refine va_get (D := D) (ci := 2) (v := .int z_at_38) (C := RX2) (T := TX2) (N := 11) hx hb hts kc1 hown hK hP 0 rfl rfl 4 (by decide) kw0 (fun _ h9 => h9) rfl dX2_next_40 ?_
    refine va_put (D := D) (ci := 2) (v := .int z_at_38) (ty := .int) (C := RX2) (T := TX2) (N := 11) hx hb hts kc1 tyX2 tyX2_ok nmX2 hown hK hP hD hS 0 rfl rfl 5 (by decide) kw2 (fun _ h9 => h9) rfl pfI rfl rfl (Nat.le_of_ble_eq_true rfl) dX2_next_43 (fun H locs hP hD hS => ?_)
    have hP : va_P D vwCl [(q0, oB 2 [.ref q_bytes, .ref q_draft, .ref q_numbers, .int z_length, .int z_at_38, .int z_at_38, .int z_token, .int z_number, .int z_item, .int z_taken, .int z_once]), (q_bytes, aB cy 300 z_bytes)] H := hP
    have hD : va_D A [(q0, oB 2 [.ref q_bytes, .ref q_draft, .ref q_numbers, .int z_length, .int z_at_38, .int z_at_38, .int z_token, .int z_number, .int z_item, .int z_taken, .int z_once]), (q_bytes, aB cy 300 z_bytes)] := hD
    refine lv_aload_n hx hb dX2_next_46 rfl (lv_at hl 0 rfl) ?_
    refine va_get (D := D) (ci := 2) (v := .int z_at_38) (C := RX2) (T := TX2) (N := 11) hx hb hts kc1 hown hK hP 0 rfl rfl 4 (by decide) kw0 (fun _ h9 => h9) rfl dX2_next_47 ?_
    refine lv_aload_n hx hb dX2_next_50 rfl (lv_at hl 0 rfl) ?_
    refine va_get (D := D) (ci := 2) (v := .int z_length) (C := RX2) (T := TX2) (N := 11) hx hb hts kc1 hown hK hP 0 rfl rfl 3 (by decide) kw3 (fun _ h9 => h9) rfl dX2_next_51 ?_
    refine lv_icmp_lt (tgt := 65) hx hb dX2_next_54 (by decide) (fun hc_54 => ?_) (fun hc_54 => ?_)
    · have hf := it_t hf hc_54
      refine lv_aload_n hx hb dX2_next_65 rfl (lv_at hl 0 rfl) ?_
      refine va_get (D := D) (ci := 2) (v := .ref q_bytes) (C := RX2) (T := TX2) (N := 11) hx hb hts kc1 hown hK hP 0 rfl rfl 0 (by decide) kw4 (fun _ h9 => h9) rfl dX2_next_66 ?_
      refine lv_aload_n hx hb dX2_next_69 rfl (lv_at hl 0 rfl) ?_
      refine va_get (D := D) (ci := 2) (v := .int z_at_38) (C := RX2) (T := TX2) (N := 11) hx hb hts kc1 hown hK hP 0 rfl rfl 4 (by decide) kw0 (fun _ h9 => h9) rfl dX2_next_70 ?_
      obtain ⟨hg_73, hf⟩ := gd_some hf
      refine va_bald hx hb hK hP 1 2 rfl rfl hg_73 dX2_next_73 ?_
      obtain ⟨r_74, hr_74, hf⟩ := bd_some hf
      refine cl_i (wc := []) (w1 := []) (wr := [(q0, oB 2 [.ref q_bytes, .ref q_draft, .ref q_numbers, .int z_length, .int z_at_38, .int z_at_38, .int z_token, .int z_number, .int z_item, .int z_taken, .int z_once]), (q_bytes, aB cy 300 z_bytes)]) (w2 := [(q0, oB 2 [.ref q_bytes, .ref q_draft, .ref q_numbers, .int z_length, .int z_at_38, .int z_at_38, .int z_token, .int z_number, .int z_item, .int z_taken, .int z_once]), (q_bytes, aB cy 300 z_bytes)]) (va_runS (As := [.int (z_bytes z_at_38.toNatClampNeg)]) (rest := []) ⟨hx, hb, hml, hown, hts⟩ (ktX2_isLetter l D cy (z_bytes z_at_38.toNatClampNeg) r_74 hr_74 _) (va_cwS 1 hts gX2_next_X2_isLetter rfl rfl rfl (by decide +kernel) ⟨Nat.le_of_ble_eq_true rfl, Nat.le_of_ble_eq_true rfl⟩) (pre_S (wc := []) hcx hsx hS hA hP hD [] rfl (by decide)) rfl rfl hl.1 rfl (lv_room (Nat.le_of_ble_eq_true rfl)) dX2_next_74 ⟨Nat.zero_le _, Nat.zero_le _⟩) hP hD hS hA [] [0, 1] [0, 1] rfl rfl (by decide) (by decide) (by decide) rfl (fun H locs hP hD hS => ?_)
      refine lv_if_eq (tgt := 87) hx hb dX2_next_77 (by decide) (fun hc_77 => ?_) (fun hc_77 => ?_)
      · have hf := it_t hf hc_77
        refine lv_aload_n hx hb dX2_next_87 rfl (lv_at hl 0 rfl) ?_
        refine va_get (D := D) (ci := 2) (v := .ref q_bytes) (C := RX2) (T := TX2) (N := 11) hx hb hts kc1 hown hK hP 0 rfl rfl 0 (by decide) kw4 (fun _ h9 => h9) rfl dX2_next_88 ?_
        refine lv_aload_n hx hb dX2_next_91 rfl (lv_at hl 0 rfl) ?_
        refine va_get (D := D) (ci := 2) (v := .int z_at_38) (C := RX2) (T := TX2) (N := 11) hx hb hts kc1 hown hK hP 0 rfl rfl 4 (by decide) kw0 (fun _ h9 => h9) rfl dX2_next_92 ?_
        obtain ⟨hg_95, hf⟩ := gd_some hf
        refine va_bald hx hb hK hP 1 2 rfl rfl hg_95 dX2_next_95 ?_
        obtain ⟨r_96, hr_96, hf⟩ := bd_some hf
        refine cl_i (wc := []) (w1 := []) (wr := [(q0, oB 2 [.ref q_bytes, .ref q_draft, .ref q_numbers, .int z_length, .int z_at_38, .int z_at_38, .int z_token, .int z_number, .int z_item, .int z_taken, .int z_once]), (q_bytes, aB cy 300 z_bytes)]) (w2 := [(q0, oB 2 [.ref q_bytes, .ref q_draft, .ref q_numbers, .int z_length, .int z_at_38, .int z_at_38, .int z_token, .int z_number, .int z_item, .int z_taken, .int z_once]), (q_bytes, aB cy 300 z_bytes)]) (va_runS (As := [.int (z_bytes z_at_38.toNatClampNeg)]) (rest := []) ⟨hx, hb, hml, hown, hts⟩ (ktX2_isDigit l D cy (z_bytes z_at_38.toNatClampNeg) r_96 hr_96 _) (va_cwS 1 hts gX2_next_X2_isDigit rfl rfl rfl (by decide +kernel) ⟨Nat.le_of_ble_eq_true rfl, Nat.le_of_ble_eq_true rfl⟩) (pre_S (wc := []) hcx hsx hS hA hP hD [] rfl (by decide)) rfl rfl hl.1 rfl (lv_room (Nat.le_of_ble_eq_true rfl)) dX2_next_96 ⟨Nat.zero_le _, Nat.zero_le _⟩) hP hD hS hA [] [0, 1] [0, 1] rfl rfl (by decide) (by decide) (by decide) rfl (fun H locs hP hD hS => ?_)
        refine lv_if_eq (tgt := 109) hx hb dX2_next_99 (by decide) (fun hc_99 => ?_) (fun hc_99 => ?_)
        · have hf := it_t hf hc_99
          refine lv_aload_n hx hb dX2_next_109 rfl (lv_at hl 0 rfl) ?_
          refine lv_aload_n hx hb dX2_next_110 rfl (lv_at hl 0 rfl) ?_
          refine va_get (D := D) (ci := 2) (v := .ref q_bytes) (C := RX2) (T := TX2) (N := 11) hx hb hts kc1 hown hK hP 0 rfl rfl 0 (by decide) kw4 (fun _ h9 => h9) rfl dX2_next_111 ?_
          refine lv_aload_n hx hb dX2_next_114 rfl (lv_at hl 0 rfl) ?_
          refine va_get (D := D) (ci := 2) (v := .int z_at_38) (C := RX2) (T := TX2) (N := 11) hx hb hts kc1 hown hK hP 0 rfl rfl 4 (by decide) kw0 (fun _ h9 => h9) rfl dX2_next_115 ?_
          obtain ⟨hg_118, hf⟩ := gd_some hf
          refine va_bald hx hb hK hP 1 2 rfl rfl hg_118 dX2_next_118 ?_
          refine lv_bipush (v := 59) hx hb dX2_next_119 (by decide) ?_
          have hJ129 : ∀ (t1_129 : Int32) (H : Heap) (locs : List Loc) (ls : Array Slot), X2_next_J129 z_number z_at_38 t1_129 = some r → va_P D vwCl [(q0, oB 2 [.ref q_bytes, .ref q_draft, .ref q_numbers, .int z_length, .int z_at_38, .int z_at_38, .int z_token, .int z_number, .int z_item, .int z_taken, .int z_once]), (q_bytes, aB cy 300 z_bytes)] H → va_D A [(q0, oB 2 [.ref q_bytes, .ref q_draft, .ref q_numbers, .int z_length, .int z_at_38, .int z_at_38, .int z_token, .int z_number, .int z_item, .int z_taken, .int z_once]), (q_bytes, aB cy 300 z_bytes)] → va_S A s.heap H locs → lv_has ls 1 [(0, .ref q0)] → W p l e rmX2_next s m args below meth c H locs 0 0 Q (F0 m 129 ls [.int t1_129, .ref q0]) := by
            intro t1_129 H locs ls hf hP hD hS hl
            unfold X2_next_J129 at hf
            refine va_put (D := D) (ci := 2) (v := .int t1_129) (ty := .int) (C := RX2) (T := TX2) (N := 11) hx hb hts kc1 tyX2 tyX2_ok nmX2 hown hK hP hD hS 0 rfl rfl 6 (by decide) kw5 (fun _ h9 => h9) rfl pfI rfl rfl (Nat.le_of_ble_eq_true rfl) dX2_next_129 (fun H locs hP hD hS => ?_)
            have hP : va_P D vwCl [(q0, oB 2 [.ref q_bytes, .ref q_draft, .ref q_numbers, .int z_length, .int z_at_38, .int z_at_38, .int t1_129, .int z_number, .int z_item, .int z_taken, .int z_once]), (q_bytes, aB cy 300 z_bytes)] H := hP
            have hD : va_D A [(q0, oB 2 [.ref q_bytes, .ref q_draft, .ref q_numbers, .int z_length, .int z_at_38, .int z_at_38, .int t1_129, .int z_number, .int z_item, .int z_taken, .int z_once]), (q_bytes, aB cy 300 z_bytes)] := hD
            refine lv_aload_n hx hb dX2_next_132 rfl (lv_at hl 0 rfl) ?_
            refine lv_dup hx hb dX2_next_133 rfl ?_
            refine va_get (D := D) (ci := 2) (v := .int z_at_38) (C := RX2) (T := TX2) (N := 11) hx hb hts kc1 hown hK hP 0 rfl rfl 4 (by decide) kw0 (fun _ h9 => h9) rfl dX2_next_134 ?_
            refine lv_iconst (v := 1) hx hb dX2_next_137 (by decide) ?_
            refine lv_iadd hx hb dX2_next_138 ?_
            refine lv_topi (fun z_at_139 ez_at_139 => ?_)
            have hf := lets_at hf ez_at_139
            refine va_put (D := D) (ci := 2) (v := .int z_at_139) (ty := .int) (C := RX2) (T := TX2) (N := 11) hx hb hts kc1 tyX2 tyX2_ok nmX2 hown hK hP hD hS 0 rfl rfl 4 (by decide) kw0 (fun _ h9 => h9) rfl pfI rfl rfl (Nat.le_of_ble_eq_true rfl) dX2_next_139 (fun H locs hP hD hS => ?_)
            have hP : va_P D vwCl [(q0, oB 2 [.ref q_bytes, .ref q_draft, .ref q_numbers, .int z_length, .int z_at_139, .int z_at_38, .int t1_129, .int z_number, .int z_item, .int z_taken, .int z_once]), (q_bytes, aB cy 300 z_bytes)] H := hP
            have hD : va_D A [(q0, oB 2 [.ref q_bytes, .ref q_draft, .ref q_numbers, .int z_length, .int z_at_139, .int z_at_38, .int t1_129, .int z_number, .int z_item, .int z_taken, .int z_once]), (q_bytes, aB cy 300 z_bytes)] := hD
            exact hret' _ _ _ _ _ _ _ _ dX2_next_142 hf hP hD hS
          refine lv_icmp_ne (tgt := 128) hx hb dX2_next_121 (by decide) (fun hc_121 => ?_) (fun hc_121 => ?_)
          · have hf := it_f hf hc_121
            refine lv_iconst (v := 1) hx hb dX2_next_128 (by decide) ?_
            exact hJ129 (1 : Int32) _ _ _ hf hP hD hS (lv_sub hl [0] rfl)
          · have hf := it_t hf hc_121
            refine lv_iconst (v := 3) hx hb dX2_next_124 (by decide) ?_
            refine lv_goto (tgt := 129) hx hb dX2_next_125 (by decide) ?_
            exact hJ129 (3 : Int32) _ _ _ hf hP hD hS (lv_sub hl [0] rfl)
        · have hf := it_f hf hc_99
          refine lv_aload_n hx hb dX2_next_102 rfl (lv_at hl 0 rfl) ?_
          obtain ⟨r_103, hr_103, hf⟩ := bd_some hf
          refine cl_v (wc := [(q0, oB 2 [.ref q_bytes, .ref q_draft, .ref q_numbers, .int z_length, .int z_at_38, .int z_at_38, .int z_token, .int z_number, .int z_item, .int z_taken, .int z_once]), (q_bytes, aB cy 300 z_bytes)]) (w1 := [(q0, oB 2 [.ref q_bytes, .ref q_draft, .ref q_numbers, .int z_length, .int r_103.1, .int z_at_38, .int r_103.2.1, .int r_103.2.2, .int z_item, .int z_taken, .int z_once]), (q_bytes, aB cy 300 z_bytes)]) (wr := []) (w2 := [(q0, oB 2 [.ref q_bytes, .ref q_draft, .ref q_numbers, .int z_length, .int r_103.1, .int z_at_38, .int r_103.2.1, .int r_103.2.2, .int z_item, .int z_taken, .int z_once]), (q_bytes, aB cy 300 z_bytes)]) (va_runV (As := []) (rest := []) ⟨hx, hb, hml, hown, hts⟩ (ktX2_nextNumber l D cy q0 q_bytes q_draft q_numbers z_length z_at_38 z_at_38 z_token z_number z_item z_taken z_once z_bytes r_103 hr_103 _) (cwV 0 hts gX2_next_X2_nextNumber rfl rfl rfl (by decide +kernel) ⟨Nat.le_of_ble_eq_true rfl, Nat.le_of_ble_eq_true rfl⟩) (pre_V (wc := [(q0, oB 2 [.ref q_bytes, .ref q_draft, .ref q_numbers, .int z_length, .int z_at_38, .int z_at_38, .int z_token, .int z_number, .int z_item, .int z_taken, .int z_once]), (q_bytes, aB cy 300 z_bytes)]) (ci := 2) hcx hsx hS hA hP hD [0, 1] rfl (by decide) rfl rfl) rfl rfl hl.1 rfl (lv_room (Nat.le_of_ble_eq_true rfl)) dX2_next_103 ⟨Nat.zero_le _, Nat.zero_le _⟩) hP hD hS hA [0, 1] [] [0, 1] rfl rfl (by decide) (by decide) (by decide) rfl (fun H locs hP hD hS => ?_)
          refine lv_goto (tgt := 142) hx hb dX2_next_106 (by decide) ?_
          exact hret' _ _ _ _ _ _ _ _ dX2_next_142 hf hP hD hS
      · have hf := it_f hf hc_77
        refine lv_aload_n hx hb dX2_next_80 rfl (lv_at hl 0 rfl) ?_
        obtain ⟨r_81, hr_81, hf⟩ := bd_some hf
        refine cl_v (wc := [(q0, oB 2 [.ref q_bytes, .ref q_draft, .ref q_numbers, .int z_length, .int z_at_38, .int z_at_38, .int z_token, .int z_number, .int z_item, .int z_taken, .int z_once]), (q_bytes, aB cy 300 z_bytes)]) (w1 := [(q0, oB 2 [.ref q_bytes, .ref q_draft, .ref q_numbers, .int z_length, .int r_81.1, .int z_at_38, .int r_81.2, .int z_number, .int z_item, .int z_taken, .int z_once]), (q_bytes, aB cy 300 z_bytes)]) (wr := []) (w2 := [(q0, oB 2 [.ref q_bytes, .ref q_draft, .ref q_numbers, .int z_length, .int r_81.1, .int z_at_38, .int r_81.2, .int z_number, .int z_item, .int z_taken, .int z_once]), (q_bytes, aB cy 300 z_bytes)]) (va_runV (As := []) (rest := []) ⟨hx, hb, hml, hown, hts⟩ (ktX2_nextWord l D cy q0 q_bytes q_draft q_numbers z_length z_at_38 z_at_38 z_token z_number z_item z_taken z_once z_bytes r_81 hr_81 _) (cwV 0 hts gX2_next_X2_nextWord rfl rfl rfl (by decide +kernel) ⟨Nat.le_of_ble_eq_true rfl, Nat.le_of_ble_eq_true rfl⟩) (pre_V (wc := [(q0, oB 2 [.ref q_bytes, .ref q_draft, .ref q_numbers, .int z_length, .int z_at_38, .int z_at_38, .int z_token, .int z_number, .int z_item, .int z_taken, .int z_once]), (q_bytes, aB cy 300 z_bytes)]) (ci := 2) hcx hsx hS hA hP hD [0, 1] rfl (by decide) rfl rfl) rfl rfl hl.1 rfl (lv_room (Nat.le_of_ble_eq_true rfl)) dX2_next_81 ⟨Nat.zero_le _, Nat.zero_le _⟩) hP hD hS hA [0, 1] [] [0, 1] rfl rfl (by decide) (by decide) (by decide) rfl (fun H locs hP hD hS => ?_)
        refine lv_goto (tgt := 142) hx hb dX2_next_84 (by decide) ?_
        exact hret' _ _ _ _ _ _ _ _ dX2_next_142 hf hP hD hS
    · have hf := it_f hf hc_54
      refine lv_aload_n hx hb dX2_next_57 rfl (lv_at hl 0 rfl) ?_
      refine lv_iconst (v := 0) hx hb dX2_next_58 (by decide) ?_
      refine va_put (D := D) (ci := 2) (v := .int (0 : Int32)) (ty := .int) (C := RX2) (T := TX2) (N := 11) hx hb hts kc1 tyX2 tyX2_ok nmX2 hown hK hP hD hS 0 rfl rfl 6 (by decide) kw5 (fun _ h9 => h9) rfl pfI rfl rfl (Nat.le_of_ble_eq_true rfl) dX2_next_59 (fun H locs hP hD hS => ?_)
      have hP : va_P D vwCl [(q0, oB 2 [.ref q_bytes, .ref q_draft, .ref q_numbers, .int z_length, .int z_at_38, .int z_at_38, .int (0 : Int32), .int z_number, .int z_item, .int z_taken, .int z_once]), (q_bytes, aB cy 300 z_bytes)] H := hP
      have hD : va_D A [(q0, oB 2 [.ref q_bytes, .ref q_draft, .ref q_numbers, .int z_length, .int z_at_38, .int z_at_38, .int (0 : Int32), .int z_number, .int z_item, .int z_taken, .int z_once]), (q_bytes, aB cy 300 z_bytes)] := hD
      refine lv_goto (tgt := 142) hx hb dX2_next_62 (by decide) ?_
      exact hret' _ _ _ _ _ _ _ _ dX2_next_142 hf hP hD hS
  have hL0 : ∀ (n : Nat) (z_at_0 : Int32) (H : Heap) (locs : List Loc) (ls : Array Slot), it1 (X2_next_S0 z_length z_number z_bytes) n z_at_0 = some r → va_P D vwCl [(q0, oB 2 [.ref q_bytes, .ref q_draft, .ref q_numbers, .int z_length, .int z_at_0, .int z_place, .int z_token, .int z_number, .int z_item, .int z_taken, .int z_once]), (q_bytes, aB cy 300 z_bytes)] H → va_D A [(q0, oB 2 [.ref q_bytes, .ref q_draft, .ref q_numbers, .int z_length, .int z_at_0, .int z_place, .int z_token, .int z_number, .int z_item, .int z_taken, .int z_once]), (q_bytes, aB cy 300 z_bytes)] → va_S A s.heap H locs → lv_has ls 1 [(0, .ref q0)] → W p l e rmX2_next s m args below meth c H locs 0 0 Q (F0 m 0 ls []) := by
    intro n
    induction n with
    | zero => intro z_at_0 H locs ls hf; exact absurd hf (by simp [it1])
    | succ n ih0 =>
      intro z_at_0 H locs ls hf hP hD hS hl
      have hf : X2_next_S0 z_length z_number z_bytes (it1 (X2_next_S0 z_length z_number z_bytes) n) z_at_0 = some r := hf
      generalize it1 (X2_next_S0 z_length z_number z_bytes) n = self_0 at hf ih0
      unfold X2_next_S0 at hf
      refine lv_aload_n hx hb dX2_next_0 rfl (lv_at hl 0 rfl) ?_
      refine va_get (D := D) (ci := 2) (v := .int z_at_0) (C := RX2) (T := TX2) (N := 11) hx hb hts kc1 hown hK hP 0 rfl rfl 4 (by decide) kw0 (fun _ h9 => h9) rfl dX2_next_1 ?_
      refine lv_aload_n hx hb dX2_next_4 rfl (lv_at hl 0 rfl) ?_
      refine va_get (D := D) (ci := 2) (v := .int z_length) (C := RX2) (T := TX2) (N := 11) hx hb hts kc1 hown hK hP 0 rfl rfl 3 (by decide) kw3 (fun _ h9 => h9) rfl dX2_next_5 ?_
      refine lv_icmp_ge (tgt := 38) hx hb dX2_next_8 (by decide) (fun hc_8 => ?_) (fun hc_8 => ?_)
      · have hf := it_t hf hc_8
        exact hJ38 z_at_0 _ _ _ hf hP hD hS (lv_sub hl [0] rfl)
      · have hf := it_f hf hc_8
        refine lv_aload_n hx hb dX2_next_11 rfl (lv_at hl 0 rfl) ?_
        refine va_get (D := D) (ci := 2) (v := .ref q_bytes) (C := RX2) (T := TX2) (N := 11) hx hb hts kc1 hown hK hP 0 rfl rfl 0 (by decide) kw4 (fun _ h9 => h9) rfl dX2_next_12 ?_
        refine lv_aload_n hx hb dX2_next_15 rfl (lv_at hl 0 rfl) ?_
        refine va_get (D := D) (ci := 2) (v := .int z_at_0) (C := RX2) (T := TX2) (N := 11) hx hb hts kc1 hown hK hP 0 rfl rfl 4 (by decide) kw0 (fun _ h9 => h9) rfl dX2_next_16 ?_
        obtain ⟨hg_19, hf⟩ := gd_some hf
        refine va_bald hx hb hK hP 1 2 rfl rfl hg_19 dX2_next_19 ?_
        refine lv_bipush (v := 32) hx hb dX2_next_20 (by decide) ?_
        refine lv_icmp_ne (tgt := 38) hx hb dX2_next_22 (by decide) (fun hc_22 => ?_) (fun hc_22 => ?_)
        · have hf := it_f hf hc_22
          exact hJ38 z_at_0 _ _ _ hf hP hD hS (lv_sub hl [0] rfl)
        · have hf := it_t hf hc_22
          refine lv_aload_n hx hb dX2_next_25 rfl (lv_at hl 0 rfl) ?_
          refine lv_dup hx hb dX2_next_26 rfl ?_
          refine va_get (D := D) (ci := 2) (v := .int z_at_0) (C := RX2) (T := TX2) (N := 11) hx hb hts kc1 hown hK hP 0 rfl rfl 4 (by decide) kw0 (fun _ h9 => h9) rfl dX2_next_27 ?_
          refine lv_iconst (v := 1) hx hb dX2_next_30 (by decide) ?_
          refine lv_iadd hx hb dX2_next_31 ?_
          refine lv_topi (fun z_at_32 ez_at_32 => ?_)
          have hf := lets_at hf ez_at_32
          refine va_put (D := D) (ci := 2) (v := .int z_at_32) (ty := .int) (C := RX2) (T := TX2) (N := 11) hx hb hts kc1 tyX2 tyX2_ok nmX2 hown hK hP hD hS 0 rfl rfl 4 (by decide) kw0 (fun _ h9 => h9) rfl pfI rfl rfl (Nat.le_of_ble_eq_true rfl) dX2_next_32 (fun H locs hP hD hS => ?_)
          have hP : va_P D vwCl [(q0, oB 2 [.ref q_bytes, .ref q_draft, .ref q_numbers, .int z_length, .int z_at_32, .int z_place, .int z_token, .int z_number, .int z_item, .int z_taken, .int z_once]), (q_bytes, aB cy 300 z_bytes)] H := hP
          have hD : va_D A [(q0, oB 2 [.ref q_bytes, .ref q_draft, .ref q_numbers, .int z_length, .int z_at_32, .int z_place, .int z_token, .int z_number, .int z_item, .int z_taken, .int z_once]), (q_bytes, aB cy 300 z_bytes)] := hD
          refine lv_goto (tgt := 0) hx hb dX2_next_35 (by decide) ?_
          exact ih0 z_at_32 _ _ _ hf hP hD hS (lv_sub hl [0] rfl)
  exact hL0 _ z_at _ _ _ hf hP hD hS (lv_sub hl [0] rfl)

def X2_beginItem_J79 (z_token : Int32) (z_once : Int32) : Option (Int32 × Int32 × Int32 × Int32) := lets (z_once ||| ((1 : Int32) <<< (z_token &&& 31))) (fun z_once_91 => some ((1 : Int32), z_token, (0 : Int32), z_once_91))
def X2_beginItem_J53 (z_token : Int32) (z_item : Int32) (z_taken : Int32) (z_once : Int32) (t0_32 : Int32) : Option (Int32 × Int32 × Int32 × Int32) := if z_token = (5 : Int32) then (X2_beginItem_J79 z_token z_once) else (if t0_32 = 0 then (some ((0 : Int32), z_item, z_taken, z_once)) else (if ((z_once >>> (z_token &&& 31)) &&& (1 : Int32)) = 0 then (X2_beginItem_J79 z_token z_once) else (some ((0 : Int32), z_item, z_taken, z_once))))
def X2_beginItem_J32 (z_token : Int32) (z_item : Int32) (z_taken : Int32) (z_once : Int32) (z_draft_houses : Int32) (t0_32 : Int32) : Option (Int32 × Int32 × Int32 × Int32) := if z_token = (4 : Int32) then (if z_draft_houses < (6 : Int32) then (X2_beginItem_J79 z_token z_once) else (X2_beginItem_J53 z_token z_item z_taken z_once t0_32)) else (X2_beginItem_J53 z_token z_item z_taken z_once t0_32)
def X2_beginItem_J27 (z_token : Int32) (z_item : Int32) (z_taken : Int32) (z_once : Int32) (z_draft_houses : Int32) : Option (Int32 × Int32 × Int32 × Int32) := X2_beginItem_J32 z_token z_item z_taken z_once z_draft_houses (1 : Int32)
def fX2_beginItem (z_token : Int32) (z_item : Int32) (z_taken : Int32) (z_once : Int32) (z_draft_houses : Int32) : Option (Int32 × Int32 × Int32 × Int32) := if z_token = (6 : Int32) then (X2_beginItem_J27 z_token z_item z_taken z_once z_draft_houses) else (if z_token = (7 : Int32) then (X2_beginItem_J27 z_token z_item z_taken z_once z_draft_houses) else (if z_token = (8 : Int32) then (X2_beginItem_J27 z_token z_item z_taken z_once z_draft_houses) else (X2_beginItem_J32 z_token z_item z_taken z_once z_draft_houses (0 : Int32))))
abbrev rmX2_beginItem : Room := { frames := 0, cells := 0, slots := 0, locals := 0 }
set_option maxHeartbeats 4000000 in
set_option maxRecDepth 100000 in
theorem ktX2_beginItem (l : Launch) (D : va_G) (cy : Nat → ClassId) (q0 : Nat) (q_bytes : Nat) (q_draft : Nat) (q_numbers : Nat) (q_draft_weights : Nat) (q_draft_eats : Nat) (q_draft_barred : Nat) (z_length : Int32) (z_at : Int32) (z_place : Int32) (z_token : Int32) (z_number : Int32) (z_item : Int32) (z_taken : Int32) (z_once : Int32) (z_draft_houses : Int32) (z_draft_law : Int32) (z_draft_pride : Int32) (z_draft_memory : Int32) (r : Int32 × Int32 × Int32 × Int32) (hf : fX2_beginItem z_token z_item z_taken z_once z_draft_houses = some r) : CtI l yX2_beginItem wsX2_beginItem rmX2_beginItem D cy [.ref q0] [(q0, oB 2 [.ref q_bytes, .ref q_draft, .ref q_numbers, .int z_length, .int z_at, .int z_place, .int z_token, .int z_number, .int z_item, .int z_taken, .int z_once]), (q_draft, oB 3 [.ref q_draft_weights, .ref q_draft_eats, .ref q_draft_barred, .int z_draft_houses, .int z_draft_law, .int z_draft_pride, .int z_draft_memory])] [(q0, oB 2 [.ref q_bytes, .ref q_draft, .ref q_numbers, .int z_length, .int z_at, .int z_place, .int z_token, .int z_number, .int r.2.1, .int r.2.2.1, .int r.2.2.2]), (q_draft, oB 3 [.ref q_draft_weights, .ref q_draft_eats, .ref q_draft_barred, .int z_draft_houses, .int z_draft_law, .int z_draft_pride, .int z_draft_memory])] r.1 := by
  refine Ct_ofZ (cc := cX2_beginItem) (nL := 2) (by decide) rfl (Nat.le_of_ble_eq_true rfl) ?_
  intro p e s m args below meth c A Q hM hret hP hD hS ls hl
  obtain ⟨hx, hb, hml, hown, hts, hcx, hA, hsx⟩ := hM
  have hown : s.vm.findClass RX2 = some m.cls := hown
  have hK := hcx.1
  have hN := hcx.2
  have kw0 := hts (.fieldLink RX2 36 "EachBrings$Text" "token" "I") (List.mem_of_getElem? (i := 1) rfl)
  have kc1 : ∀ w ∈ wsX20, w ∈ wsX2_beginItem := fun _ h => List.mem_cons_of_mem _ (List.mem_append_left _ (List.mem_append_right _ h))
  have kw2 := hts (.fieldLink RX2 48 "EachBrings$Text" "once" "I") (List.mem_of_getElem? (i := 3) rfl)
  have kw3 := hts (.fieldLink RX2 42 "EachBrings$Text" "item" "I") (List.mem_of_getElem? (i := 4) rfl)
  have kw4 := hts (.fieldLink RX2 45 "EachBrings$Text" "taken" "I") (List.mem_of_getElem? (i := 5) rfl)
  have kw5 := hts (.fieldLink RX2 18 "EachBrings$Text" "draft" "LEachBrings$Village;") (List.mem_of_getElem? (i := 2) rfl)
  have kc6 : ∀ w ∈ wsX30, w ∈ wsX2_beginItem := fun _ h => List.mem_cons_of_mem _ (List.mem_append_right _ h)
  have hl : lv_has ls 2 [(0, .ref q0)] := hl
  have hret' : ∀ (pc : Nat) (ls : Array Slot) (H : Heap) (locs : List Loc) (v : Int32) (w0 : Int32) (w1 : Int32) (w2 : Int32), decode cX2_beginItem pc = .ok (.ireturn, 1) → isB v → some (v, w0, w1, w2) = some r → va_P D vwCl [(q0, oB 2 [.ref q_bytes, .ref q_draft, .ref q_numbers, .int z_length, .int z_at, .int z_place, .int z_token, .int z_number, .int w0, .int w1, .int w2]), (q_draft, oB 3 [.ref q_draft_weights, .ref q_draft_eats, .ref q_draft_barred, .int z_draft_houses, .int z_draft_law, .int z_draft_pride, .int z_draft_memory])] H → va_D A [(q0, oB 2 [.ref q_bytes, .ref q_draft, .ref q_numbers, .int z_length, .int z_at, .int z_place, .int z_token, .int z_number, .int w0, .int w1, .int w2]), (q_draft, oB 3 [.ref q_draft_weights, .ref q_draft_eats, .ref q_draft_barred, .int z_draft_houses, .int z_draft_law, .int z_draft_pride, .int z_draft_memory])] → va_S A s.heap H locs → W p l e rmX2_beginItem s m args below meth c H locs 0 0 Q (F0 m pc ls [.int v]) := by
    intro pc ls H locs v w0 w1 w2 hd hbv he hP hD hS
    cases he
    exact hret _ _ _ _ _ hd hbv rfl hP hD hS
  unfold fX2_beginItem at hf
  refine lv_aload_n hx hb dX2_beginItem_0 rfl (lv_at hl 0 rfl) ?_
  refine va_get (D := D) (ci := 2) (v := .int z_token) (C := RX2) (T := TX2) (N := 11) hx hb hts kc1 hown hK hP 0 rfl rfl 6 (by decide) kw0 (fun _ h9 => h9) rfl dX2_beginItem_1 ?_
  refine lv_bipush (v := 6) hx hb dX2_beginItem_4 (by decide) ?_
  have hJ32 : ∀ (t0_32 : Int32) (H : Heap) (locs : List Loc) (ls : Array Slot), X2_beginItem_J32 z_token z_item z_taken z_once z_draft_houses t0_32 = some r → va_P D vwCl [(q0, oB 2 [.ref q_bytes, .ref q_draft, .ref q_numbers, .int z_length, .int z_at, .int z_place, .int z_token, .int z_number, .int z_item, .int z_taken, .int z_once]), (q_draft, oB 3 [.ref q_draft_weights, .ref q_draft_eats, .ref q_draft_barred, .int z_draft_houses, .int z_draft_law, .int z_draft_pride, .int z_draft_memory])] H → va_D A [(q0, oB 2 [.ref q_bytes, .ref q_draft, .ref q_numbers, .int z_length, .int z_at, .int z_place, .int z_token, .int z_number, .int z_item, .int z_taken, .int z_once]), (q_draft, oB 3 [.ref q_draft_weights, .ref q_draft_eats, .ref q_draft_barred, .int z_draft_houses, .int z_draft_law, .int z_draft_pride, .int z_draft_memory])] → va_S A s.heap H locs → lv_has ls 2 [(0, .ref q0)] → W p l e rmX2_beginItem s m args below meth c H locs 0 0 Q (F0 m 32 ls [.int t0_32]) := by
    intro t0_32 H locs ls hf hP hD hS hl
    unfold X2_beginItem_J32 at hf
    refine lv_istore_n (lv' := [(1, .int t0_32), (0, .ref q0)]) hx hb dX2_beginItem_32 rfl hl (by decide) rfl (fun ls hl => ?_)
    refine lv_aload_n hx hb dX2_beginItem_33 rfl (lv_at hl 1 rfl) ?_
    refine va_get (D := D) (ci := 2) (v := .int z_token) (C := RX2) (T := TX2) (N := 11) hx hb hts kc1 hown hK hP 0 rfl rfl 6 (by decide) kw0 (fun _ h9 => h9) rfl dX2_beginItem_34 ?_
    refine lv_iconst (v := 4) hx hb dX2_beginItem_37 (by decide) ?_
    have hJ79 : ∀ (H : Heap) (locs : List Loc) (ls : Array Slot), X2_beginItem_J79 z_token z_once = some r → va_P D vwCl [(q0, oB 2 [.ref q_bytes, .ref q_draft, .ref q_numbers, .int z_length, .int z_at, .int z_place, .int z_token, .int z_number, .int z_item, .int z_taken, .int z_once]), (q_draft, oB 3 [.ref q_draft_weights, .ref q_draft_eats, .ref q_draft_barred, .int z_draft_houses, .int z_draft_law, .int z_draft_pride, .int z_draft_memory])] H → va_D A [(q0, oB 2 [.ref q_bytes, .ref q_draft, .ref q_numbers, .int z_length, .int z_at, .int z_place, .int z_token, .int z_number, .int z_item, .int z_taken, .int z_once]), (q_draft, oB 3 [.ref q_draft_weights, .ref q_draft_eats, .ref q_draft_barred, .int z_draft_houses, .int z_draft_law, .int z_draft_pride, .int z_draft_memory])] → va_S A s.heap H locs → lv_has ls 2 [(0, .ref q0)] → W p l e rmX2_beginItem s m args below meth c H locs 0 0 Q (F0 m 79 ls []) := by
      intro H locs ls hf hP hD hS hl
      unfold X2_beginItem_J79 at hf
      refine lv_aload_n hx hb dX2_beginItem_79 rfl (lv_at hl 0 rfl) ?_
      refine lv_dup hx hb dX2_beginItem_80 rfl ?_
      refine va_get (D := D) (ci := 2) (v := .int z_once) (C := RX2) (T := TX2) (N := 11) hx hb hts kc1 hown hK hP 0 rfl rfl 10 (by decide) kw2 (fun _ h9 => h9) rfl dX2_beginItem_81 ?_
      refine lv_iconst (v := 1) hx hb dX2_beginItem_84 (by decide) ?_
      refine lv_aload_n hx hb dX2_beginItem_85 rfl (lv_at hl 0 rfl) ?_
      refine va_get (D := D) (ci := 2) (v := .int z_token) (C := RX2) (T := TX2) (N := 11) hx hb hts kc1 hown hK hP 0 rfl rfl 6 (by decide) kw0 (fun _ h9 => h9) rfl dX2_beginItem_86 ?_
      refine lv_ishl hx hb dX2_beginItem_89 ?_
      refine lv_ior hx hb dX2_beginItem_90 ?_
      refine lv_topi (fun z_once_91 ez_once_91 => ?_)
      have hf := lets_at hf ez_once_91
      refine va_put (D := D) (ci := 2) (v := .int z_once_91) (ty := .int) (C := RX2) (T := TX2) (N := 11) hx hb hts kc1 tyX2 tyX2_ok nmX2 hown hK hP hD hS 0 rfl rfl 10 (by decide) kw2 (fun _ h9 => h9) rfl pfI rfl rfl (Nat.le_of_ble_eq_true rfl) dX2_beginItem_91 (fun H locs hP hD hS => ?_)
      have hP : va_P D vwCl [(q0, oB 2 [.ref q_bytes, .ref q_draft, .ref q_numbers, .int z_length, .int z_at, .int z_place, .int z_token, .int z_number, .int z_item, .int z_taken, .int z_once_91]), (q_draft, oB 3 [.ref q_draft_weights, .ref q_draft_eats, .ref q_draft_barred, .int z_draft_houses, .int z_draft_law, .int z_draft_pride, .int z_draft_memory])] H := hP
      have hD : va_D A [(q0, oB 2 [.ref q_bytes, .ref q_draft, .ref q_numbers, .int z_length, .int z_at, .int z_place, .int z_token, .int z_number, .int z_item, .int z_taken, .int z_once_91]), (q_draft, oB 3 [.ref q_draft_weights, .ref q_draft_eats, .ref q_draft_barred, .int z_draft_houses, .int z_draft_law, .int z_draft_pride, .int z_draft_memory])] := hD
      refine lv_aload_n hx hb dX2_beginItem_94 rfl (lv_at hl 0 rfl) ?_
      refine lv_aload_n hx hb dX2_beginItem_95 rfl (lv_at hl 0 rfl) ?_
      refine va_get (D := D) (ci := 2) (v := .int z_token) (C := RX2) (T := TX2) (N := 11) hx hb hts kc1 hown hK hP 0 rfl rfl 6 (by decide) kw0 (fun _ h9 => h9) rfl dX2_beginItem_96 ?_
      refine va_put (D := D) (ci := 2) (v := .int z_token) (ty := .int) (C := RX2) (T := TX2) (N := 11) hx hb hts kc1 tyX2 tyX2_ok nmX2 hown hK hP hD hS 0 rfl rfl 8 (by decide) kw3 (fun _ h9 => h9) rfl pfI rfl rfl (Nat.le_of_ble_eq_true rfl) dX2_beginItem_99 (fun H locs hP hD hS => ?_)
      have hP : va_P D vwCl [(q0, oB 2 [.ref q_bytes, .ref q_draft, .ref q_numbers, .int z_length, .int z_at, .int z_place, .int z_token, .int z_number, .int z_token, .int z_taken, .int z_once_91]), (q_draft, oB 3 [.ref q_draft_weights, .ref q_draft_eats, .ref q_draft_barred, .int z_draft_houses, .int z_draft_law, .int z_draft_pride, .int z_draft_memory])] H := hP
      have hD : va_D A [(q0, oB 2 [.ref q_bytes, .ref q_draft, .ref q_numbers, .int z_length, .int z_at, .int z_place, .int z_token, .int z_number, .int z_token, .int z_taken, .int z_once_91]), (q_draft, oB 3 [.ref q_draft_weights, .ref q_draft_eats, .ref q_draft_barred, .int z_draft_houses, .int z_draft_law, .int z_draft_pride, .int z_draft_memory])] := hD
      refine lv_aload_n hx hb dX2_beginItem_102 rfl (lv_at hl 0 rfl) ?_
      refine lv_iconst (v := 0) hx hb dX2_beginItem_103 (by decide) ?_
      refine va_put (D := D) (ci := 2) (v := .int (0 : Int32)) (ty := .int) (C := RX2) (T := TX2) (N := 11) hx hb hts kc1 tyX2 tyX2_ok nmX2 hown hK hP hD hS 0 rfl rfl 9 (by decide) kw4 (fun _ h9 => h9) rfl pfI rfl rfl (Nat.le_of_ble_eq_true rfl) dX2_beginItem_104 (fun H locs hP hD hS => ?_)
      have hP : va_P D vwCl [(q0, oB 2 [.ref q_bytes, .ref q_draft, .ref q_numbers, .int z_length, .int z_at, .int z_place, .int z_token, .int z_number, .int z_token, .int (0 : Int32), .int z_once_91]), (q_draft, oB 3 [.ref q_draft_weights, .ref q_draft_eats, .ref q_draft_barred, .int z_draft_houses, .int z_draft_law, .int z_draft_pride, .int z_draft_memory])] H := hP
      have hD : va_D A [(q0, oB 2 [.ref q_bytes, .ref q_draft, .ref q_numbers, .int z_length, .int z_at, .int z_place, .int z_token, .int z_number, .int z_token, .int (0 : Int32), .int z_once_91]), (q_draft, oB 3 [.ref q_draft_weights, .ref q_draft_eats, .ref q_draft_barred, .int z_draft_houses, .int z_draft_law, .int z_draft_pride, .int z_draft_memory])] := hD
      refine lv_iconst (v := 1) hx hb dX2_beginItem_107 (by decide) ?_
      exact hret' _ _ _ _ _ _ _ _ dX2_beginItem_108 (by decide) hf hP hD hS
    have hJ53 : ∀ (H : Heap) (locs : List Loc) (ls : Array Slot), X2_beginItem_J53 z_token z_item z_taken z_once t0_32 = some r → va_P D vwCl [(q0, oB 2 [.ref q_bytes, .ref q_draft, .ref q_numbers, .int z_length, .int z_at, .int z_place, .int z_token, .int z_number, .int z_item, .int z_taken, .int z_once]), (q_draft, oB 3 [.ref q_draft_weights, .ref q_draft_eats, .ref q_draft_barred, .int z_draft_houses, .int z_draft_law, .int z_draft_pride, .int z_draft_memory])] H → va_D A [(q0, oB 2 [.ref q_bytes, .ref q_draft, .ref q_numbers, .int z_length, .int z_at, .int z_place, .int z_token, .int z_number, .int z_item, .int z_taken, .int z_once]), (q_draft, oB 3 [.ref q_draft_weights, .ref q_draft_eats, .ref q_draft_barred, .int z_draft_houses, .int z_draft_law, .int z_draft_pride, .int z_draft_memory])] → va_S A s.heap H locs → lv_has ls 2 [(0, .ref q0), (1, .int t0_32)] → W p l e rmX2_beginItem s m args below meth c H locs 0 0 Q (F0 m 53 ls []) := by
      intro H locs ls hf hP hD hS hl
      unfold X2_beginItem_J53 at hf
      refine lv_aload_n hx hb dX2_beginItem_53 rfl (lv_at hl 0 rfl) ?_
      refine va_get (D := D) (ci := 2) (v := .int z_token) (C := RX2) (T := TX2) (N := 11) hx hb hts kc1 hown hK hP 0 rfl rfl 6 (by decide) kw0 (fun _ h9 => h9) rfl dX2_beginItem_54 ?_
      refine lv_iconst (v := 5) hx hb dX2_beginItem_57 (by decide) ?_
      refine lv_icmp_eq (tgt := 79) hx hb dX2_beginItem_58 (by decide) (fun hc_58 => ?_) (fun hc_58 => ?_)
      · have hf := it_t hf hc_58
        exact hJ79 _ _ _ hf hP hD hS (lv_sub hl [0] rfl)
      · have hf := it_f hf hc_58
        refine lv_iload_n hx hb dX2_beginItem_61 rfl (lv_at hl 1 rfl) ?_
        refine lv_if_eq (tgt := 109) hx hb dX2_beginItem_62 (by decide) (fun hc_62 => ?_) (fun hc_62 => ?_)
        · have hf := it_t hf hc_62
          refine lv_iconst (v := 0) hx hb dX2_beginItem_109 (by decide) ?_
          exact hret' _ _ _ _ _ _ _ _ dX2_beginItem_110 (by decide) hf hP hD hS
        · have hf := it_f hf hc_62
          refine lv_aload_n hx hb dX2_beginItem_65 rfl (lv_at hl 0 rfl) ?_
          refine va_get (D := D) (ci := 2) (v := .int z_once) (C := RX2) (T := TX2) (N := 11) hx hb hts kc1 hown hK hP 0 rfl rfl 10 (by decide) kw2 (fun _ h9 => h9) rfl dX2_beginItem_66 ?_
          refine lv_aload_n hx hb dX2_beginItem_69 rfl (lv_at hl 0 rfl) ?_
          refine va_get (D := D) (ci := 2) (v := .int z_token) (C := RX2) (T := TX2) (N := 11) hx hb hts kc1 hown hK hP 0 rfl rfl 6 (by decide) kw0 (fun _ h9 => h9) rfl dX2_beginItem_70 ?_
          refine lv_ishr hx hb dX2_beginItem_73 ?_
          refine lv_iconst (v := 1) hx hb dX2_beginItem_74 (by decide) ?_
          refine lv_iand hx hb dX2_beginItem_75 ?_
          refine lv_if_ne (tgt := 109) hx hb dX2_beginItem_76 (by decide) (fun hc_76 => ?_) (fun hc_76 => ?_)
          · have hf := it_f hf hc_76
            refine lv_iconst (v := 0) hx hb dX2_beginItem_109 (by decide) ?_
            exact hret' _ _ _ _ _ _ _ _ dX2_beginItem_110 (by decide) hf hP hD hS
          · have hf := it_t hf hc_76
            exact hJ79 _ _ _ hf hP hD hS (lv_sub hl [0] rfl)
    refine lv_icmp_ne (tgt := 53) hx hb dX2_beginItem_38 (by decide) (fun hc_38 => ?_) (fun hc_38 => ?_)
    · have hf := it_f hf hc_38
      exact hJ53 _ _ _ hf hP hD hS (lv_sub hl [1, 0] rfl)
    · have hf := it_t hf hc_38
      refine lv_aload_n hx hb dX2_beginItem_41 rfl (lv_at hl 1 rfl) ?_
      refine va_get (D := D) (ci := 2) (v := .ref q_draft) (C := RX2) (T := TX2) (N := 11) hx hb hts kc1 hown hK hP 0 rfl rfl 1 (by decide) kw5 (fun _ h9 => h9) rfl dX2_beginItem_42 ?_
      refine va_getN (D := D) (ci := 3) (v := .int z_draft_houses) (C := RX3) (T := TX3) (N := 7) (host := "EachBrings") hx hb hts kc6 hown hK hP 1 rfl rfl 3 (by decide) (hN.use 6 rfl) (fun _ h9 => h9) rfl dX2_beginItem_45 ?_
      refine lv_bipush (v := 6) hx hb dX2_beginItem_48 (by decide) ?_
      refine lv_icmp_lt (tgt := 79) hx hb dX2_beginItem_50 (by decide) (fun hc_50 => ?_) (fun hc_50 => ?_)
      · have hf := it_t hf hc_50
        exact hJ79 _ _ _ hf hP hD hS (lv_sub hl [1] rfl)
      · have hf := it_f hf hc_50
        exact hJ53 _ _ _ hf hP hD hS (lv_sub hl [1, 0] rfl)
  have hJ27 : ∀ (H : Heap) (locs : List Loc) (ls : Array Slot), X2_beginItem_J27 z_token z_item z_taken z_once z_draft_houses = some r → va_P D vwCl [(q0, oB 2 [.ref q_bytes, .ref q_draft, .ref q_numbers, .int z_length, .int z_at, .int z_place, .int z_token, .int z_number, .int z_item, .int z_taken, .int z_once]), (q_draft, oB 3 [.ref q_draft_weights, .ref q_draft_eats, .ref q_draft_barred, .int z_draft_houses, .int z_draft_law, .int z_draft_pride, .int z_draft_memory])] H → va_D A [(q0, oB 2 [.ref q_bytes, .ref q_draft, .ref q_numbers, .int z_length, .int z_at, .int z_place, .int z_token, .int z_number, .int z_item, .int z_taken, .int z_once]), (q_draft, oB 3 [.ref q_draft_weights, .ref q_draft_eats, .ref q_draft_barred, .int z_draft_houses, .int z_draft_law, .int z_draft_pride, .int z_draft_memory])] → va_S A s.heap H locs → lv_has ls 2 [(0, .ref q0)] → W p l e rmX2_beginItem s m args below meth c H locs 0 0 Q (F0 m 27 ls []) := by
    intro H locs ls hf hP hD hS hl
    unfold X2_beginItem_J27 at hf
    refine lv_iconst (v := 1) hx hb dX2_beginItem_27 (by decide) ?_
    refine lv_goto (tgt := 32) hx hb dX2_beginItem_28 (by decide) ?_
    exact hJ32 (1 : Int32) _ _ _ hf hP hD hS (lv_sub hl [0] rfl)
  refine lv_icmp_eq (tgt := 27) hx hb dX2_beginItem_6 (by decide) (fun hc_6 => ?_) (fun hc_6 => ?_)
  · have hf := it_t hf hc_6
    exact hJ27 _ _ _ hf hP hD hS (lv_sub hl [0] rfl)
  · have hf := it_f hf hc_6
    refine lv_aload_n hx hb dX2_beginItem_9 rfl (lv_at hl 0 rfl) ?_
    refine va_get (D := D) (ci := 2) (v := .int z_token) (C := RX2) (T := TX2) (N := 11) hx hb hts kc1 hown hK hP 0 rfl rfl 6 (by decide) kw0 (fun _ h9 => h9) rfl dX2_beginItem_10 ?_
    refine lv_bipush (v := 7) hx hb dX2_beginItem_13 (by decide) ?_
    refine lv_icmp_eq (tgt := 27) hx hb dX2_beginItem_15 (by decide) (fun hc_15 => ?_) (fun hc_15 => ?_)
    · have hf := it_t hf hc_15
      exact hJ27 _ _ _ hf hP hD hS (lv_sub hl [0] rfl)
    · have hf := it_f hf hc_15
      refine lv_aload_n hx hb dX2_beginItem_18 rfl (lv_at hl 0 rfl) ?_
      refine va_get (D := D) (ci := 2) (v := .int z_token) (C := RX2) (T := TX2) (N := 11) hx hb hts kc1 hown hK hP 0 rfl rfl 6 (by decide) kw0 (fun _ h9 => h9) rfl dX2_beginItem_19 ?_
      refine lv_bipush (v := 8) hx hb dX2_beginItem_22 (by decide) ?_
      refine lv_icmp_ne (tgt := 31) hx hb dX2_beginItem_24 (by decide) (fun hc_24 => ?_) (fun hc_24 => ?_)
      · have hf := it_f hf hc_24
        refine lv_iconst (v := 0) hx hb dX2_beginItem_31 (by decide) ?_
        exact hJ32 (0 : Int32) _ _ _ hf hP hD hS (lv_sub hl [0] rfl)
      · have hf := it_t hf hc_24
        exact hJ27 _ _ _ hf hP hD hS (lv_sub hl [0] rfl)

def fX2_numbersOf (x0 : Int32) : Option Int32 := if x0 = 4 then (some (5 : Int32)) else (if x0 = 5 then (some (2 : Int32)) else (some (1 : Int32)))
abbrev rmX2_numbersOf : Room := { frames := 0, cells := 0, slots := 0, locals := 0 }
set_option maxHeartbeats 4000000 in
set_option maxRecDepth 100000 in
theorem ktX2_numbersOf (l : Launch) (D : va_G) (cy : Nat → ClassId) (x0 : Int32) (r : Int32) (hf : fX2_numbersOf x0 = some r) : CtI l yX2_numbersOf wsX2_numbersOf rmX2_numbersOf D cy [.int x0] [] [] r := by
  refine Ct_ofI (cc := cX2_numbersOf) (nL := 1) (by decide) rfl (Nat.le_of_ble_eq_true rfl) ?_
  intro p e s m args below meth c A Q hM hret hP hD hS ls hl
  obtain ⟨hx, hb, hml, hown, hts, hcx, hA, hsx⟩ := hM
  have hown : s.vm.findClass RX2 = some m.cls := hown
  have hK := hcx.1
  have hN := hcx.2
  have hl : lv_has ls 1 [(0, .int x0)] := hl
  have hret' : ∀ (pc : Nat) (ls : Array Slot) (H : Heap) (locs : List Loc) (v : Int32), decode cX2_numbersOf pc = .ok (.ireturn, 1) → some v = some r → va_P D vwCl [] H → va_D A [] → va_S A s.heap H locs → W p l e rmX2_numbersOf s m args below meth c H locs 0 0 Q (F0 m pc ls [.int v]) := by
    intro pc ls H locs v hd he hP hD hS
    cases he
    exact hret _ _ _ _ _ hd rfl hP hD hS
  unfold fX2_numbersOf at hf
  refine lv_iload_n hx hb dX2_numbersOf_0 rfl (lv_at hl 0 rfl) ?_
  by_cases hs_1_4 : x0 = 4
  · have hf := it_t hf hs_1_4
    refine lv_lookup (off := 27) (tgt := 28) hx hb dX2_numbersOf_1 (by decide) (by rw [hs_1_4]; decide) (by decide) ?_
    refine lv_iconst (v := 5) hx hb dX2_numbersOf_28 (by decide) ?_
    exact hret' _ _ _ _ _ dX2_numbersOf_29 hf hP hD hS
  have hf := it_f hf hs_1_4
  by_cases hs_1_5 : x0 = 5
  · have hf := it_t hf hs_1_5
    refine lv_lookup (off := 29) (tgt := 30) hx hb dX2_numbersOf_1 (by decide) (by rw [hs_1_5]; decide) (by decide) ?_
    refine lv_iconst (v := 2) hx hb dX2_numbersOf_30 (by decide) ?_
    exact hret' _ _ _ _ _ dX2_numbersOf_31 hf hP hD hS
  have hf := it_f hf hs_1_5
  have nhs_1_4 : x0.toInt ≠ 4 := fun h9 => hs_1_4 (Int32.toInt_inj.mp (h9.trans (by decide)))
  have nhs_1_5 : x0.toInt ≠ 5 := fun h9 => hs_1_5 (Int32.toInt_inj.mp (h9.trans (by decide)))
  refine lv_lookup (off := 31) (tgt := 32) hx hb dX2_numbersOf_1 (by decide) (by simp [Op.lookupswitch.offset, Ne.symm nhs_1_4, Ne.symm nhs_1_5]) (by decide) ?_
  refine lv_iconst (v := 1) hx hb dX2_numbersOf_32 (by decide) ?_
  exact hret' _ _ _ _ _ dX2_numbersOf_33 hf hP hD hS

def fX2_greatestNumber (z_item : Int32) (z_taken : Int32) (z_draft_houses : Int32) : Option Int32 := if z_item = 5 then (if z_taken = 0 then (some (z_draft_houses - (1 : Int32))) else (some (3 : Int32))) else (if z_item = 6 then (some (2 : Int32)) else (some (9 : Int32)))
abbrev rmX2_greatestNumber : Room := { frames := 0, cells := 0, slots := 0, locals := 0 }
set_option maxHeartbeats 4000000 in
set_option maxRecDepth 100000 in
theorem ktX2_greatestNumber (l : Launch) (D : va_G) (cy : Nat → ClassId) (q0 : Nat) (q_bytes : Nat) (q_draft : Nat) (q_numbers : Nat) (q_draft_weights : Nat) (q_draft_eats : Nat) (q_draft_barred : Nat) (z_length : Int32) (z_at : Int32) (z_place : Int32) (z_token : Int32) (z_number : Int32) (z_item : Int32) (z_taken : Int32) (z_once : Int32) (z_draft_houses : Int32) (z_draft_law : Int32) (z_draft_pride : Int32) (z_draft_memory : Int32) (r : Int32) (hf : fX2_greatestNumber z_item z_taken z_draft_houses = some r) : CtI l yX2_greatestNumber wsX2_greatestNumber rmX2_greatestNumber D cy [.ref q0] [(q0, oB 2 [.ref q_bytes, .ref q_draft, .ref q_numbers, .int z_length, .int z_at, .int z_place, .int z_token, .int z_number, .int z_item, .int z_taken, .int z_once]), (q_draft, oB 3 [.ref q_draft_weights, .ref q_draft_eats, .ref q_draft_barred, .int z_draft_houses, .int z_draft_law, .int z_draft_pride, .int z_draft_memory])] [(q0, oB 2 [.ref q_bytes, .ref q_draft, .ref q_numbers, .int z_length, .int z_at, .int z_place, .int z_token, .int z_number, .int z_item, .int z_taken, .int z_once]), (q_draft, oB 3 [.ref q_draft_weights, .ref q_draft_eats, .ref q_draft_barred, .int z_draft_houses, .int z_draft_law, .int z_draft_pride, .int z_draft_memory])] r := by
  refine Ct_ofI (cc := cX2_greatestNumber) (nL := 1) (by decide) rfl (Nat.le_of_ble_eq_true rfl) ?_
  intro p e s m args below meth c A Q hM hret hP hD hS ls hl
  obtain ⟨hx, hb, hml, hown, hts, hcx, hA, hsx⟩ := hM
  have hown : s.vm.findClass RX2 = some m.cls := hown
  have hK := hcx.1
  have hN := hcx.2
  have kw0 := hts (.fieldLink RX2 42 "EachBrings$Text" "item" "I") (List.mem_of_getElem? (i := 1) rfl)
  have kc1 : ∀ w ∈ wsX20, w ∈ wsX2_greatestNumber := fun _ h => List.mem_cons_of_mem _ (List.mem_append_left _ (List.mem_append_right _ h))
  have kw2 := hts (.fieldLink RX2 45 "EachBrings$Text" "taken" "I") (List.mem_of_getElem? (i := 2) rfl)
  have kw3 := hts (.fieldLink RX2 18 "EachBrings$Text" "draft" "LEachBrings$Village;") (List.mem_of_getElem? (i := 3) rfl)
  have kc4 : ∀ w ∈ wsX30, w ∈ wsX2_greatestNumber := fun _ h => List.mem_cons_of_mem _ (List.mem_append_right _ h)
  have hl : lv_has ls 1 [(0, .ref q0)] := hl
  have hret' : ∀ (pc : Nat) (ls : Array Slot) (H : Heap) (locs : List Loc) (v : Int32), decode cX2_greatestNumber pc = .ok (.ireturn, 1) → some v = some r → va_P D vwCl [(q0, oB 2 [.ref q_bytes, .ref q_draft, .ref q_numbers, .int z_length, .int z_at, .int z_place, .int z_token, .int z_number, .int z_item, .int z_taken, .int z_once]), (q_draft, oB 3 [.ref q_draft_weights, .ref q_draft_eats, .ref q_draft_barred, .int z_draft_houses, .int z_draft_law, .int z_draft_pride, .int z_draft_memory])] H → va_D A [(q0, oB 2 [.ref q_bytes, .ref q_draft, .ref q_numbers, .int z_length, .int z_at, .int z_place, .int z_token, .int z_number, .int z_item, .int z_taken, .int z_once]), (q_draft, oB 3 [.ref q_draft_weights, .ref q_draft_eats, .ref q_draft_barred, .int z_draft_houses, .int z_draft_law, .int z_draft_pride, .int z_draft_memory])] → va_S A s.heap H locs → W p l e rmX2_greatestNumber s m args below meth c H locs 0 0 Q (F0 m pc ls [.int v]) := by
    intro pc ls H locs v hd he hP hD hS
    cases he
    exact hret _ _ _ _ _ hd rfl hP hD hS
  unfold fX2_greatestNumber at hf
  refine lv_aload_n hx hb dX2_greatestNumber_0 rfl (lv_at hl 0 rfl) ?_
  refine va_get (D := D) (ci := 2) (v := .int z_item) (C := RX2) (T := TX2) (N := 11) hx hb hts kc1 hown hK hP 0 rfl rfl 8 (by decide) kw0 (fun _ h9 => h9) rfl dX2_greatestNumber_1 ?_
  by_cases hs_4_5 : z_item = 5
  · have hf := it_t hf hs_4_5
    refine lv_lookup (off := 28) (tgt := 32) hx hb dX2_greatestNumber_4 (by decide) (by rw [hs_4_5]; decide) (by decide) ?_
    refine lv_aload_n hx hb dX2_greatestNumber_32 rfl (lv_at hl 0 rfl) ?_
    refine va_get (D := D) (ci := 2) (v := .int z_taken) (C := RX2) (T := TX2) (N := 11) hx hb hts kc1 hown hK hP 0 rfl rfl 9 (by decide) kw2 (fun _ h9 => h9) rfl dX2_greatestNumber_33 ?_
    refine lv_if_ne (tgt := 51) hx hb dX2_greatestNumber_36 (by decide) (fun hc_36 => ?_) (fun hc_36 => ?_)
    · have hf := it_f hf hc_36
      refine lv_iconst (v := 3) hx hb dX2_greatestNumber_51 (by decide) ?_
      exact hret' _ _ _ _ _ dX2_greatestNumber_52 hf hP hD hS
    · have hf := it_t hf hc_36
      refine lv_aload_n hx hb dX2_greatestNumber_39 rfl (lv_at hl 0 rfl) ?_
      refine va_get (D := D) (ci := 2) (v := .ref q_draft) (C := RX2) (T := TX2) (N := 11) hx hb hts kc1 hown hK hP 0 rfl rfl 1 (by decide) kw3 (fun _ h9 => h9) rfl dX2_greatestNumber_40 ?_
      refine va_getN (D := D) (ci := 3) (v := .int z_draft_houses) (C := RX3) (T := TX3) (N := 7) (host := "EachBrings") hx hb hts kc4 hown hK hP 1 rfl rfl 3 (by decide) (hN.use 6 rfl) (fun _ h9 => h9) rfl dX2_greatestNumber_43 ?_
      refine lv_iconst (v := 1) hx hb dX2_greatestNumber_46 (by decide) ?_
      refine lv_isub hx hb dX2_greatestNumber_47 ?_
      refine lv_goto (tgt := 52) hx hb dX2_greatestNumber_48 (by decide) ?_
      exact hret' _ _ _ _ _ dX2_greatestNumber_52 hf hP hD hS
  have hf := it_f hf hs_4_5
  by_cases hs_4_6 : z_item = 6
  · have hf := it_t hf hs_4_6
    refine lv_lookup (off := 49) (tgt := 53) hx hb dX2_greatestNumber_4 (by decide) (by rw [hs_4_6]; decide) (by decide) ?_
    refine lv_iconst (v := 2) hx hb dX2_greatestNumber_53 (by decide) ?_
    exact hret' _ _ _ _ _ dX2_greatestNumber_54 hf hP hD hS
  have hf := it_f hf hs_4_6
  have nhs_4_5 : z_item.toInt ≠ 5 := fun h9 => hs_4_5 (Int32.toInt_inj.mp (h9.trans (by decide)))
  have nhs_4_6 : z_item.toInt ≠ 6 := fun h9 => hs_4_6 (Int32.toInt_inj.mp (h9.trans (by decide)))
  refine lv_lookup (off := 51) (tgt := 55) hx hb dX2_greatestNumber_4 (by decide) (by simp [Op.lookupswitch.offset, Ne.symm nhs_4_5, Ne.symm nhs_4_6]) (by decide) ?_
  refine lv_bipush (v := 9) hx hb dX2_greatestNumber_55 (by decide) ?_
  exact hret' _ _ _ _ _ dX2_greatestNumber_57 hf hP hD hS

def X2_takeNumber_J21 (z_token : Int32) (z_number : Int32) (z_item : Int32) (z_taken : Int32) (z_draft_houses : Int32) (z_numbers : Nat → Int32) (t0_21 : Int32) : Option (Int32 × Int32 × (Nat → Int32)) := if z_token = (2 : Int32) then (if z_number < t0_21 then (some ((0 : Int32), z_taken, z_numbers)) else ((fX2_greatestNumber z_item z_taken z_draft_houses).bind (fun r_43 => if z_number ≤ r_43 then (gd (okx z_taken 5) (lets (upd z_numbers z_taken.toNatClampNeg z_number) (fun z_numbers_63 => lets (z_taken + (1 : Int32)) (fun z_taken_71 => some ((1 : Int32), z_taken_71, z_numbers_63))))) else (some ((0 : Int32), z_taken, z_numbers))))) else (some ((0 : Int32), z_taken, z_numbers))
def X2_takeNumber_J20 (z_token : Int32) (z_number : Int32) (z_item : Int32) (z_taken : Int32) (z_draft_houses : Int32) (z_numbers : Nat → Int32) : Option (Int32 × Int32 × (Nat → Int32)) := X2_takeNumber_J21 z_token z_number z_item z_taken z_draft_houses z_numbers (0 : Int32)
def fX2_takeNumber (z_token : Int32) (z_number : Int32) (z_item : Int32) (z_taken : Int32) (z_draft_houses : Int32) (z_numbers : Nat → Int32) : Option (Int32 × Int32 × (Nat → Int32)) := if z_item = (4 : Int32) then (if z_taken = (4 : Int32) then (X2_takeNumber_J21 z_token z_number z_item z_taken z_draft_houses z_numbers (1 : Int32)) else (X2_takeNumber_J20 z_token z_number z_item z_taken z_draft_houses z_numbers)) else (X2_takeNumber_J20 z_token z_number z_item z_taken z_draft_houses z_numbers)
abbrev rmX2_takeNumber : Room := { frames := 1, cells := 0, slots := 0, locals := 20 }
set_option maxHeartbeats 4000000 in
set_option maxRecDepth 100000 in
theorem ktX2_takeNumber (l : Launch) (D : va_G) (cy : Nat → ClassId) (q0 : Nat) (q_bytes : Nat) (q_draft : Nat) (q_numbers : Nat) (q_draft_weights : Nat) (q_draft_eats : Nat) (q_draft_barred : Nat) (z_length : Int32) (z_at : Int32) (z_place : Int32) (z_token : Int32) (z_number : Int32) (z_item : Int32) (z_taken : Int32) (z_once : Int32) (z_draft_houses : Int32) (z_draft_law : Int32) (z_draft_pride : Int32) (z_draft_memory : Int32) (z_numbers : Nat → Int32) (r : Int32 × Int32 × (Nat → Int32)) (hf : fX2_takeNumber z_token z_number z_item z_taken z_draft_houses z_numbers = some r) : CtI l yX2_takeNumber wsX2_takeNumber rmX2_takeNumber D cy [.ref q0] [(q0, oB 2 [.ref q_bytes, .ref q_draft, .ref q_numbers, .int z_length, .int z_at, .int z_place, .int z_token, .int z_number, .int z_item, .int z_taken, .int z_once]), (q_draft, oB 3 [.ref q_draft_weights, .ref q_draft_eats, .ref q_draft_barred, .int z_draft_houses, .int z_draft_law, .int z_draft_pride, .int z_draft_memory]), (q_numbers, aI cy 5 z_numbers)] [(q0, oB 2 [.ref q_bytes, .ref q_draft, .ref q_numbers, .int z_length, .int z_at, .int z_place, .int z_token, .int z_number, .int z_item, .int r.2.1, .int z_once]), (q_draft, oB 3 [.ref q_draft_weights, .ref q_draft_eats, .ref q_draft_barred, .int z_draft_houses, .int z_draft_law, .int z_draft_pride, .int z_draft_memory]), (q_numbers, aI cy 5 r.2.2)] r.1 := by
  refine Ct_ofZ (cc := cX2_takeNumber) (nL := 2) (by decide) rfl (Nat.le_of_ble_eq_true rfl) ?_
  intro p e s m args below meth c A Q hM hret hP hD hS ls hl
  obtain ⟨hx, hb, hml, hown, hts, hcx, hA, hsx⟩ := hM
  have hown : s.vm.findClass RX2 = some m.cls := hown
  have hK := hcx.1
  have hN := hcx.2
  have kw0 := hts (.fieldLink RX2 42 "EachBrings$Text" "item" "I") (List.mem_of_getElem? (i := 1) rfl)
  have kc1 : ∀ w ∈ wsX20, w ∈ wsX2_takeNumber := fun _ h => List.mem_cons_of_mem _ (List.mem_append_left _ (List.mem_append_right _ h))
  have kw2 := hts (.fieldLink RX2 36 "EachBrings$Text" "token" "I") (List.mem_of_getElem? (i := 3) rfl)
  have kw3 := hts (.fieldLink RX2 39 "EachBrings$Text" "number" "I") (List.mem_of_getElem? (i := 4) rfl)
  have kw4 := hts (.fieldLink RX2 22 "EachBrings$Text" "numbers" "[I") (List.mem_of_getElem? (i := 5) rfl)
  have kw5 := hts (.fieldLink RX2 45 "EachBrings$Text" "taken" "I") (List.mem_of_getElem? (i := 2) rfl)
  have hl : lv_has ls 2 [(0, .ref q0)] := hl
  have hret' : ∀ (pc : Nat) (ls : Array Slot) (H : Heap) (locs : List Loc) (v : Int32) (w0 : Int32) (w1 : Nat → Int32), decode cX2_takeNumber pc = .ok (.ireturn, 1) → isB v → some (v, w0, w1) = some r → va_P D vwCl [(q0, oB 2 [.ref q_bytes, .ref q_draft, .ref q_numbers, .int z_length, .int z_at, .int z_place, .int z_token, .int z_number, .int z_item, .int w0, .int z_once]), (q_draft, oB 3 [.ref q_draft_weights, .ref q_draft_eats, .ref q_draft_barred, .int z_draft_houses, .int z_draft_law, .int z_draft_pride, .int z_draft_memory]), (q_numbers, aI cy 5 w1)] H → va_D A [(q0, oB 2 [.ref q_bytes, .ref q_draft, .ref q_numbers, .int z_length, .int z_at, .int z_place, .int z_token, .int z_number, .int z_item, .int w0, .int z_once]), (q_draft, oB 3 [.ref q_draft_weights, .ref q_draft_eats, .ref q_draft_barred, .int z_draft_houses, .int z_draft_law, .int z_draft_pride, .int z_draft_memory]), (q_numbers, aI cy 5 w1)] → va_S A s.heap H locs → W p l e rmX2_takeNumber s m args below meth c H locs 0 0 Q (F0 m pc ls [.int v]) := by
    intro pc ls H locs v w0 w1 hd hbv he hP hD hS
    cases he
    exact hret _ _ _ _ _ hd hbv rfl hP hD hS
  unfold fX2_takeNumber at hf
  refine lv_aload_n hx hb dX2_takeNumber_0 rfl (lv_at hl 0 rfl) ?_
  refine va_get (D := D) (ci := 2) (v := .int z_item) (C := RX2) (T := TX2) (N := 11) hx hb hts kc1 hown hK hP 0 rfl rfl 8 (by decide) kw0 (fun _ h9 => h9) rfl dX2_takeNumber_1 ?_
  refine lv_iconst (v := 4) hx hb dX2_takeNumber_4 (by decide) ?_
  have hJ21 : ∀ (t0_21 : Int32) (H : Heap) (locs : List Loc) (ls : Array Slot), X2_takeNumber_J21 z_token z_number z_item z_taken z_draft_houses z_numbers t0_21 = some r → va_P D vwCl [(q0, oB 2 [.ref q_bytes, .ref q_draft, .ref q_numbers, .int z_length, .int z_at, .int z_place, .int z_token, .int z_number, .int z_item, .int z_taken, .int z_once]), (q_draft, oB 3 [.ref q_draft_weights, .ref q_draft_eats, .ref q_draft_barred, .int z_draft_houses, .int z_draft_law, .int z_draft_pride, .int z_draft_memory]), (q_numbers, aI cy 5 z_numbers)] H → va_D A [(q0, oB 2 [.ref q_bytes, .ref q_draft, .ref q_numbers, .int z_length, .int z_at, .int z_place, .int z_token, .int z_number, .int z_item, .int z_taken, .int z_once]), (q_draft, oB 3 [.ref q_draft_weights, .ref q_draft_eats, .ref q_draft_barred, .int z_draft_houses, .int z_draft_law, .int z_draft_pride, .int z_draft_memory]), (q_numbers, aI cy 5 z_numbers)] → va_S A s.heap H locs → lv_has ls 2 [(0, .ref q0)] → W p l e rmX2_takeNumber s m args below meth c H locs 0 0 Q (F0 m 21 ls [.int t0_21]) := by
    intro t0_21 H locs ls hf hP hD hS hl
    unfold X2_takeNumber_J21 at hf
    refine lv_istore_n (lv' := [(1, .int t0_21), (0, .ref q0)]) hx hb dX2_takeNumber_21 rfl hl (by decide) rfl (fun ls hl => ?_)
    refine lv_aload_n hx hb dX2_takeNumber_22 rfl (lv_at hl 1 rfl) ?_
    refine va_get (D := D) (ci := 2) (v := .int z_token) (C := RX2) (T := TX2) (N := 11) hx hb hts kc1 hown hK hP 0 rfl rfl 6 (by decide) kw2 (fun _ h9 => h9) rfl dX2_takeNumber_23 ?_
    refine lv_iconst (v := 2) hx hb dX2_takeNumber_26 (by decide) ?_
    refine lv_icmp_ne (tgt := 49) hx hb dX2_takeNumber_27 (by decide) (fun hc_27 => ?_) (fun hc_27 => ?_)
    · have hf := it_f hf hc_27
      refine lv_iconst (v := 0) hx hb dX2_takeNumber_49 (by decide) ?_
      exact hret' _ _ _ _ _ _ _ dX2_takeNumber_50 (by decide) hf hP hD hS
    · have hf := it_t hf hc_27
      refine lv_aload_n hx hb dX2_takeNumber_30 rfl (lv_at hl 1 rfl) ?_
      refine va_get (D := D) (ci := 2) (v := .int z_number) (C := RX2) (T := TX2) (N := 11) hx hb hts kc1 hown hK hP 0 rfl rfl 7 (by decide) kw3 (fun _ h9 => h9) rfl dX2_takeNumber_31 ?_
      refine lv_iload_n hx hb dX2_takeNumber_34 rfl (lv_at hl 0 rfl) ?_
      refine lv_icmp_lt (tgt := 49) hx hb dX2_takeNumber_35 (by decide) (fun hc_35 => ?_) (fun hc_35 => ?_)
      · have hf := it_t hf hc_35
        refine lv_iconst (v := 0) hx hb dX2_takeNumber_49 (by decide) ?_
        exact hret' _ _ _ _ _ _ _ dX2_takeNumber_50 (by decide) hf hP hD hS
      · have hf := it_f hf hc_35
        refine lv_aload_n hx hb dX2_takeNumber_38 rfl (lv_at hl 1 rfl) ?_
        refine va_get (D := D) (ci := 2) (v := .int z_number) (C := RX2) (T := TX2) (N := 11) hx hb hts kc1 hown hK hP 0 rfl rfl 7 (by decide) kw3 (fun _ h9 => h9) rfl dX2_takeNumber_39 ?_
        refine lv_aload_n hx hb dX2_takeNumber_42 rfl (lv_at hl 1 rfl) ?_
        obtain ⟨r_43, hr_43, hf⟩ := bd_some hf
        refine cl_i (wc := [(q0, oB 2 [.ref q_bytes, .ref q_draft, .ref q_numbers, .int z_length, .int z_at, .int z_place, .int z_token, .int z_number, .int z_item, .int z_taken, .int z_once]), (q_draft, oB 3 [.ref q_draft_weights, .ref q_draft_eats, .ref q_draft_barred, .int z_draft_houses, .int z_draft_law, .int z_draft_pride, .int z_draft_memory])]) (w1 := [(q0, oB 2 [.ref q_bytes, .ref q_draft, .ref q_numbers, .int z_length, .int z_at, .int z_place, .int z_token, .int z_number, .int z_item, .int z_taken, .int z_once]), (q_draft, oB 3 [.ref q_draft_weights, .ref q_draft_eats, .ref q_draft_barred, .int z_draft_houses, .int z_draft_law, .int z_draft_pride, .int z_draft_memory])]) (wr := [(q_numbers, aI cy 5 z_numbers)]) (w2 := [(q0, oB 2 [.ref q_bytes, .ref q_draft, .ref q_numbers, .int z_length, .int z_at, .int z_place, .int z_token, .int z_number, .int z_item, .int z_taken, .int z_once]), (q_draft, oB 3 [.ref q_draft_weights, .ref q_draft_eats, .ref q_draft_barred, .int z_draft_houses, .int z_draft_law, .int z_draft_pride, .int z_draft_memory]), (q_numbers, aI cy 5 z_numbers)]) (va_runV (As := []) (rest := [.int z_number]) ⟨hx, hb, hml, hown, hts⟩ (ktX2_greatestNumber l D cy q0 q_bytes q_draft q_numbers q_draft_weights q_draft_eats q_draft_barred z_length z_at z_place z_token z_number z_item z_taken z_once z_draft_houses z_draft_law z_draft_pride z_draft_memory r_43 hr_43 _) (cwV 0 hts gX2_takeNumber_X2_greatestNumber rfl rfl rfl (by decide +kernel) ⟨Nat.le_of_ble_eq_true rfl, Nat.le_of_ble_eq_true rfl⟩) (pre_V (wc := [(q0, oB 2 [.ref q_bytes, .ref q_draft, .ref q_numbers, .int z_length, .int z_at, .int z_place, .int z_token, .int z_number, .int z_item, .int z_taken, .int z_once]), (q_draft, oB 3 [.ref q_draft_weights, .ref q_draft_eats, .ref q_draft_barred, .int z_draft_houses, .int z_draft_law, .int z_draft_pride, .int z_draft_memory])]) (ci := 2) hcx hsx hS hA hP hD [0, 1] rfl (by decide) rfl rfl) rfl rfl hl.1 rfl (lv_room (Nat.le_of_ble_eq_true rfl)) dX2_takeNumber_43 ⟨Nat.zero_le _, Nat.zero_le _⟩) hP hD hS hA [0, 1] [2] [1, 2, 0] rfl rfl (by decide) (by decide) (by decide) rfl (fun H locs hP hD hS => ?_)
        refine lv_icmp_le (tgt := 51) hx hb dX2_takeNumber_46 (by decide) (fun hc_46 => ?_) (fun hc_46 => ?_)
        · have hf := it_t hf hc_46
          refine lv_aload_n hx hb dX2_takeNumber_51 rfl (lv_at hl 1 rfl) ?_
          refine va_get (D := D) (ci := 2) (v := .ref q_numbers) (C := RX2) (T := TX2) (N := 11) hx hb hts kc1 hown hK hP 0 rfl rfl 2 (by decide) kw4 (fun _ h9 => h9) rfl dX2_takeNumber_52 ?_
          refine lv_aload_n hx hb dX2_takeNumber_55 rfl (lv_at hl 1 rfl) ?_
          refine va_get (D := D) (ci := 2) (v := .int z_taken) (C := RX2) (T := TX2) (N := 11) hx hb hts kc1 hown hK hP 0 rfl rfl 9 (by decide) kw5 (fun _ h9 => h9) rfl dX2_takeNumber_56 ?_
          refine lv_aload_n hx hb dX2_takeNumber_59 rfl (lv_at hl 1 rfl) ?_
          refine va_get (D := D) (ci := 2) (v := .int z_number) (C := RX2) (T := TX2) (N := 11) hx hb hts kc1 hown hK hP 0 rfl rfl 7 (by decide) kw3 (fun _ h9 => h9) rfl dX2_takeNumber_60 ?_
          obtain ⟨hg_63, hf⟩ := gd_some hf
          refine va_iast hx hb hK hP hD hS 2 0 rfl rfl hg_63 dX2_takeNumber_63 (fun H locs hP hD hS => ?_)
          obtain ⟨z_numbers_63, ez_numbers_63⟩ : ∃ y : Nat → Int32, y = upd z_numbers z_taken.toNatClampNeg z_number := ⟨_, rfl⟩
          have hf := lets_at hf ez_numbers_63
          rw [← ez_numbers_63] at hP hD
          have hP : va_P D vwCl [(q0, oB 2 [.ref q_bytes, .ref q_draft, .ref q_numbers, .int z_length, .int z_at, .int z_place, .int z_token, .int z_number, .int z_item, .int z_taken, .int z_once]), (q_draft, oB 3 [.ref q_draft_weights, .ref q_draft_eats, .ref q_draft_barred, .int z_draft_houses, .int z_draft_law, .int z_draft_pride, .int z_draft_memory]), (q_numbers, aI cy 5 z_numbers_63)] H := hP
          have hD : va_D A [(q0, oB 2 [.ref q_bytes, .ref q_draft, .ref q_numbers, .int z_length, .int z_at, .int z_place, .int z_token, .int z_number, .int z_item, .int z_taken, .int z_once]), (q_draft, oB 3 [.ref q_draft_weights, .ref q_draft_eats, .ref q_draft_barred, .int z_draft_houses, .int z_draft_law, .int z_draft_pride, .int z_draft_memory]), (q_numbers, aI cy 5 z_numbers_63)] := hD
          refine lv_aload_n hx hb dX2_takeNumber_64 rfl (lv_at hl 1 rfl) ?_
          refine lv_dup hx hb dX2_takeNumber_65 rfl ?_
          refine va_get (D := D) (ci := 2) (v := .int z_taken) (C := RX2) (T := TX2) (N := 11) hx hb hts kc1 hown hK hP 0 rfl rfl 9 (by decide) kw5 (fun _ h9 => h9) rfl dX2_takeNumber_66 ?_
          refine lv_iconst (v := 1) hx hb dX2_takeNumber_69 (by decide) ?_
          refine lv_iadd hx hb dX2_takeNumber_70 ?_
          refine lv_topi (fun z_taken_71 ez_taken_71 => ?_)
          have hf := lets_at hf ez_taken_71
          refine va_put (D := D) (ci := 2) (v := .int z_taken_71) (ty := .int) (C := RX2) (T := TX2) (N := 11) hx hb hts kc1 tyX2 tyX2_ok nmX2 hown hK hP hD hS 0 rfl rfl 9 (by decide) kw5 (fun _ h9 => h9) rfl pfI rfl rfl (Nat.le_of_ble_eq_true rfl) dX2_takeNumber_71 (fun H locs hP hD hS => ?_)
          have hP : va_P D vwCl [(q0, oB 2 [.ref q_bytes, .ref q_draft, .ref q_numbers, .int z_length, .int z_at, .int z_place, .int z_token, .int z_number, .int z_item, .int z_taken_71, .int z_once]), (q_draft, oB 3 [.ref q_draft_weights, .ref q_draft_eats, .ref q_draft_barred, .int z_draft_houses, .int z_draft_law, .int z_draft_pride, .int z_draft_memory]), (q_numbers, aI cy 5 z_numbers_63)] H := hP
          have hD : va_D A [(q0, oB 2 [.ref q_bytes, .ref q_draft, .ref q_numbers, .int z_length, .int z_at, .int z_place, .int z_token, .int z_number, .int z_item, .int z_taken_71, .int z_once]), (q_draft, oB 3 [.ref q_draft_weights, .ref q_draft_eats, .ref q_draft_barred, .int z_draft_houses, .int z_draft_law, .int z_draft_pride, .int z_draft_memory]), (q_numbers, aI cy 5 z_numbers_63)] := hD
          refine lv_iconst (v := 1) hx hb dX2_takeNumber_74 (by decide) ?_
          exact hret' _ _ _ _ _ _ _ dX2_takeNumber_75 (by decide) hf hP hD hS
        · have hf := it_f hf hc_46
          refine lv_iconst (v := 0) hx hb dX2_takeNumber_49 (by decide) ?_
          exact hret' _ _ _ _ _ _ _ dX2_takeNumber_50 (by decide) hf hP hD hS
  have hJ20 : ∀ (H : Heap) (locs : List Loc) (ls : Array Slot), X2_takeNumber_J20 z_token z_number z_item z_taken z_draft_houses z_numbers = some r → va_P D vwCl [(q0, oB 2 [.ref q_bytes, .ref q_draft, .ref q_numbers, .int z_length, .int z_at, .int z_place, .int z_token, .int z_number, .int z_item, .int z_taken, .int z_once]), (q_draft, oB 3 [.ref q_draft_weights, .ref q_draft_eats, .ref q_draft_barred, .int z_draft_houses, .int z_draft_law, .int z_draft_pride, .int z_draft_memory]), (q_numbers, aI cy 5 z_numbers)] H → va_D A [(q0, oB 2 [.ref q_bytes, .ref q_draft, .ref q_numbers, .int z_length, .int z_at, .int z_place, .int z_token, .int z_number, .int z_item, .int z_taken, .int z_once]), (q_draft, oB 3 [.ref q_draft_weights, .ref q_draft_eats, .ref q_draft_barred, .int z_draft_houses, .int z_draft_law, .int z_draft_pride, .int z_draft_memory]), (q_numbers, aI cy 5 z_numbers)] → va_S A s.heap H locs → lv_has ls 2 [(0, .ref q0)] → W p l e rmX2_takeNumber s m args below meth c H locs 0 0 Q (F0 m 20 ls []) := by
    intro H locs ls hf hP hD hS hl
    unfold X2_takeNumber_J20 at hf
    refine lv_iconst (v := 0) hx hb dX2_takeNumber_20 (by decide) ?_
    exact hJ21 (0 : Int32) _ _ _ hf hP hD hS (lv_sub hl [0] rfl)
  refine lv_icmp_ne (tgt := 20) hx hb dX2_takeNumber_5 (by decide) (fun hc_5 => ?_) (fun hc_5 => ?_)
  · have hf := it_f hf hc_5
    exact hJ20 _ _ _ hf hP hD hS (lv_sub hl [0] rfl)
  · have hf := it_t hf hc_5
    refine lv_aload_n hx hb dX2_takeNumber_8 rfl (lv_at hl 0 rfl) ?_
    refine va_get (D := D) (ci := 2) (v := .int z_taken) (C := RX2) (T := TX2) (N := 11) hx hb hts kc1 hown hK hP 0 rfl rfl 9 (by decide) kw5 (fun _ h9 => h9) rfl dX2_takeNumber_9 ?_
    refine lv_iconst (v := 4) hx hb dX2_takeNumber_12 (by decide) ?_
    refine lv_icmp_ne (tgt := 20) hx hb dX2_takeNumber_13 (by decide) (fun hc_13 => ?_) (fun hc_13 => ?_)
    · have hf := it_f hf hc_13
      exact hJ20 _ _ _ hf hP hD hS (lv_sub hl [0] rfl)
    · have hf := it_t hf hc_13
      refine lv_iconst (v := 1) hx hb dX2_takeNumber_16 (by decide) ?_
      refine lv_goto (tgt := 21) hx hb dX2_takeNumber_17 (by decide) ?_
      exact hJ21 (1 : Int32) _ _ _ hf hP hD hS (lv_sub hl [0] rfl)

def X2_endItem_J125 (z_draft_houses_125 : Int32) (z_draft_law_125 : Int32) (z_draft_pride_125 : Int32) (z_draft_memory_125 : Int32) (z_draft_weights_cells_125 : Nat → Int32) (z_draft_eats_125 : Nat → Int32) (z_draft_barred_125 : Nat → Int32) : Option (Int32 × Int32 × Int32 × Int32 × Int32 × Int32 × (Nat → Int32) × (Nat → Int32) × (Nat → Int32)) := some ((1 : Int32), (0 : Int32), z_draft_houses_125, z_draft_law_125, z_draft_pride_125, z_draft_memory_125, z_draft_weights_cells_125, z_draft_eats_125, z_draft_barred_125)
def fX2_endItem (z_token : Int32) (z_item : Int32) (z_draft_houses : Int32) (z_draft_law : Int32) (z_draft_pride : Int32) (z_draft_memory : Int32) (z_draft_weights_cells : Nat → Int32) (z_draft_eats : Nat → Int32) (z_draft_barred : Nat → Int32) (z_numbers : Nat → Int32) : Option (Int32 × Int32 × Int32 × Int32 × Int32 × Int32 × (Nat → Int32) × (Nat → Int32) × (Nat → Int32)) := if z_token = (3 : Int32) then (if z_item = 4 then ((fX3_addHouse z_draft_houses z_draft_weights_cells z_draft_eats z_numbers).bind (fun r_52 => X2_endItem_J125 r_52.1 z_draft_law z_draft_pride z_draft_memory r_52.2.1 r_52.2.2 z_draft_barred)) else (if z_item = 5 then ((fX3_bar z_draft_barred (z_numbers (0 : Int32).toNatClampNeg) (z_numbers (1 : Int32).toNatClampNeg)).bind (fun r_74 => X2_endItem_J125 z_draft_houses z_draft_law z_draft_pride z_draft_memory z_draft_weights_cells z_draft_eats r_74)) else (if z_item = 6 then (lets (z_numbers (0 : Int32).toNatClampNeg) (fun z_draft_law_90 => X2_endItem_J125 z_draft_houses z_draft_law_90 z_draft_pride z_draft_memory z_draft_weights_cells z_draft_eats z_draft_barred)) else (if z_item = 7 then (lets (z_numbers (0 : Int32).toNatClampNeg) (fun z_draft_pride_106 => X2_endItem_J125 z_draft_houses z_draft_law z_draft_pride_106 z_draft_memory z_draft_weights_cells z_draft_eats z_draft_barred)) else (lets (z_numbers (0 : Int32).toNatClampNeg) (fun z_draft_memory_122 => X2_endItem_J125 z_draft_houses z_draft_law z_draft_pride z_draft_memory_122 z_draft_weights_cells z_draft_eats z_draft_barred)))))) else (some ((0 : Int32), z_item, z_draft_houses, z_draft_law, z_draft_pride, z_draft_memory, z_draft_weights_cells, z_draft_eats, z_draft_barred))
abbrev rmX2_endItem : Room := { frames := 2, cells := 0, slots := 0, locals := 45 }
set_option maxHeartbeats 4000000 in
set_option maxRecDepth 100000 in
theorem ktX2_endItem (l : Launch) (D : va_G) (cy : Nat → ClassId) (q0 : Nat) (q_bytes : Nat) (q_draft : Nat) (q_numbers : Nat) (q_draft_weights : Nat) (q_draft_eats : Nat) (q_draft_barred : Nat) (q_draft_weights_cells : Nat) (z_length : Int32) (z_at : Int32) (z_place : Int32) (z_token : Int32) (z_number : Int32) (z_item : Int32) (z_taken : Int32) (z_once : Int32) (z_draft_houses : Int32) (z_draft_law : Int32) (z_draft_pride : Int32) (z_draft_memory : Int32) (z_draft_weights_cells : Nat → Int32) (z_draft_eats : Nat → Int32) (z_draft_barred : Nat → Int32) (z_numbers : Nat → Int32) (r : Int32 × Int32 × Int32 × Int32 × Int32 × Int32 × (Nat → Int32) × (Nat → Int32) × (Nat → Int32)) (hf : fX2_endItem z_token z_item z_draft_houses z_draft_law z_draft_pride z_draft_memory z_draft_weights_cells z_draft_eats z_draft_barred z_numbers = some r) : CtI l yX2_endItem wsX2_endItem rmX2_endItem D cy [.ref q0] [(q0, oB 2 [.ref q_bytes, .ref q_draft, .ref q_numbers, .int z_length, .int z_at, .int z_place, .int z_token, .int z_number, .int z_item, .int z_taken, .int z_once]), (q_draft, oB 3 [.ref q_draft_weights, .ref q_draft_eats, .ref q_draft_barred, .int z_draft_houses, .int z_draft_law, .int z_draft_pride, .int z_draft_memory]), (q_draft_weights, oB 4 [.ref q_draft_weights_cells]), (q_draft_weights_cells, aI cy 24 z_draft_weights_cells), (q_draft_eats, aI cy 6 z_draft_eats), (q_draft_barred, aI cy 6 z_draft_barred), (q_numbers, aI cy 5 z_numbers)] [(q0, oB 2 [.ref q_bytes, .ref q_draft, .ref q_numbers, .int z_length, .int z_at, .int z_place, .int z_token, .int z_number, .int r.2.1, .int z_taken, .int z_once]), (q_draft, oB 3 [.ref q_draft_weights, .ref q_draft_eats, .ref q_draft_barred, .int r.2.2.1, .int r.2.2.2.1, .int r.2.2.2.2.1, .int r.2.2.2.2.2.1]), (q_draft_weights, oB 4 [.ref q_draft_weights_cells]), (q_draft_weights_cells, aI cy 24 r.2.2.2.2.2.2.1), (q_draft_eats, aI cy 6 r.2.2.2.2.2.2.2.1), (q_draft_barred, aI cy 6 r.2.2.2.2.2.2.2.2), (q_numbers, aI cy 5 z_numbers)] r.1 := by
  refine Ct_ofZ (cc := cX2_endItem) (nL := 1) (by decide) rfl (Nat.le_of_ble_eq_true rfl) ?_
  intro p e s m args below meth c A Q hM hret hP hD hS ls hl
  obtain ⟨hx, hb, hml, hown, hts, hcx, hA, hsx⟩ := hM
  have hown : s.vm.findClass RX2 = some m.cls := hown
  have hK := hcx.1
  have hN := hcx.2
  have kw0 := hts (.fieldLink RX2 36 "EachBrings$Text" "token" "I") (List.mem_of_getElem? (i := 1) rfl)
  have kc1 : ∀ w ∈ wsX20, w ∈ wsX2_endItem := fun _ h => List.mem_cons_of_mem _ (List.mem_append_left _ (List.mem_append_left _ (List.mem_append_right _ h)))
  have kw2 := hts (.fieldLink RX2 42 "EachBrings$Text" "item" "I") (List.mem_of_getElem? (i := 2) rfl)
  have kw3 := hts (.fieldLink RX2 18 "EachBrings$Text" "draft" "LEachBrings$Village;") (List.mem_of_getElem? (i := 3) rfl)
  have kw4 := hts (.fieldLink RX2 22 "EachBrings$Text" "numbers" "[I") (List.mem_of_getElem? (i := 4) rfl)
  have kw5 := hts (.initialized RX3) (List.mem_of_getElem? (i := 6) rfl)
  have kw6 := hts (.instanceMethod yX3_addHouse) (List.mem_of_getElem? (i := 5) rfl)
  have kw7 := hts (.selects RX3 yX3_addHouse yX3_addHouse) (List.mem_of_getElem? (i := 7) rfl)
  have kw8 := hts (.instanceMethod yX3_bar) (List.mem_of_getElem? (i := 17) rfl)
  have kw9 := hts (.selects RX3 yX3_bar yX3_bar) (List.mem_of_getElem? (i := 18) rfl)
  have kc10 : ∀ w ∈ wsX30, w ∈ wsX2_endItem := fun _ h => List.mem_cons_of_mem _ (List.mem_append_left _ (List.mem_append_right _ h))
  have hl : lv_has ls 1 [(0, .ref q0)] := hl
  have hret' : ∀ (pc : Nat) (ls : Array Slot) (H : Heap) (locs : List Loc) (v : Int32) (w0 : Int32) (w1 : Int32) (w2 : Int32) (w3 : Int32) (w4 : Int32) (w5 : Nat → Int32) (w6 : Nat → Int32) (w7 : Nat → Int32), decode cX2_endItem pc = .ok (.ireturn, 1) → isB v → some (v, w0, w1, w2, w3, w4, w5, w6, w7) = some r → va_P D vwCl [(q0, oB 2 [.ref q_bytes, .ref q_draft, .ref q_numbers, .int z_length, .int z_at, .int z_place, .int z_token, .int z_number, .int w0, .int z_taken, .int z_once]), (q_draft, oB 3 [.ref q_draft_weights, .ref q_draft_eats, .ref q_draft_barred, .int w1, .int w2, .int w3, .int w4]), (q_draft_weights, oB 4 [.ref q_draft_weights_cells]), (q_draft_weights_cells, aI cy 24 w5), (q_draft_eats, aI cy 6 w6), (q_draft_barred, aI cy 6 w7), (q_numbers, aI cy 5 z_numbers)] H → va_D A [(q0, oB 2 [.ref q_bytes, .ref q_draft, .ref q_numbers, .int z_length, .int z_at, .int z_place, .int z_token, .int z_number, .int w0, .int z_taken, .int z_once]), (q_draft, oB 3 [.ref q_draft_weights, .ref q_draft_eats, .ref q_draft_barred, .int w1, .int w2, .int w3, .int w4]), (q_draft_weights, oB 4 [.ref q_draft_weights_cells]), (q_draft_weights_cells, aI cy 24 w5), (q_draft_eats, aI cy 6 w6), (q_draft_barred, aI cy 6 w7), (q_numbers, aI cy 5 z_numbers)] → va_S A s.heap H locs → W p l e rmX2_endItem s m args below meth c H locs 0 0 Q (F0 m pc ls [.int v]) := by
    intro pc ls H locs v w0 w1 w2 w3 w4 w5 w6 w7 hd hbv he hP hD hS
    cases he
    exact hret _ _ _ _ _ hd hbv rfl hP hD hS
  unfold fX2_endItem at hf
  refine lv_aload_n hx hb dX2_endItem_0 rfl (lv_at hl 0 rfl) ?_
  refine va_get (D := D) (ci := 2) (v := .int z_token) (C := RX2) (T := TX2) (N := 11) hx hb hts kc1 hown hK hP 0 rfl rfl 6 (by decide) kw0 (fun _ h9 => h9) rfl dX2_endItem_1 ?_
  refine lv_iconst (v := 3) hx hb dX2_endItem_4 (by decide) ?_
  refine lv_icmp_eq (tgt := 10) hx hb dX2_endItem_5 (by decide) (fun hc_5 => ?_) (fun hc_5 => ?_)
  · have hf := it_t hf hc_5
    refine lv_aload_n hx hb dX2_endItem_10 rfl (lv_at hl 0 rfl) ?_
    refine va_get (D := D) (ci := 2) (v := .int z_item) (C := RX2) (T := TX2) (N := 11) hx hb hts kc1 hown hK hP 0 rfl rfl 8 (by decide) kw2 (fun _ h9 => h9) rfl dX2_endItem_11 ?_
    have hJ125 : ∀ (z_draft_houses_125 : Int32) (z_draft_law_125 : Int32) (z_draft_pride_125 : Int32) (z_draft_memory_125 : Int32) (z_draft_weights_cells_125 : Nat → Int32) (z_draft_eats_125 : Nat → Int32) (z_draft_barred_125 : Nat → Int32) (H : Heap) (locs : List Loc) (ls : Array Slot), X2_endItem_J125 z_draft_houses_125 z_draft_law_125 z_draft_pride_125 z_draft_memory_125 z_draft_weights_cells_125 z_draft_eats_125 z_draft_barred_125 = some r → va_P D vwCl [(q0, oB 2 [.ref q_bytes, .ref q_draft, .ref q_numbers, .int z_length, .int z_at, .int z_place, .int z_token, .int z_number, .int z_item, .int z_taken, .int z_once]), (q_draft, oB 3 [.ref q_draft_weights, .ref q_draft_eats, .ref q_draft_barred, .int z_draft_houses_125, .int z_draft_law_125, .int z_draft_pride_125, .int z_draft_memory_125]), (q_draft_weights, oB 4 [.ref q_draft_weights_cells]), (q_draft_weights_cells, aI cy 24 z_draft_weights_cells_125), (q_draft_eats, aI cy 6 z_draft_eats_125), (q_draft_barred, aI cy 6 z_draft_barred_125), (q_numbers, aI cy 5 z_numbers)] H → va_D A [(q0, oB 2 [.ref q_bytes, .ref q_draft, .ref q_numbers, .int z_length, .int z_at, .int z_place, .int z_token, .int z_number, .int z_item, .int z_taken, .int z_once]), (q_draft, oB 3 [.ref q_draft_weights, .ref q_draft_eats, .ref q_draft_barred, .int z_draft_houses_125, .int z_draft_law_125, .int z_draft_pride_125, .int z_draft_memory_125]), (q_draft_weights, oB 4 [.ref q_draft_weights_cells]), (q_draft_weights_cells, aI cy 24 z_draft_weights_cells_125), (q_draft_eats, aI cy 6 z_draft_eats_125), (q_draft_barred, aI cy 6 z_draft_barred_125), (q_numbers, aI cy 5 z_numbers)] → va_S A s.heap H locs → lv_has ls 1 [(0, .ref q0)] → W p l e rmX2_endItem s m args below meth c H locs 0 0 Q (F0 m 125 ls []) := by
      intro z_draft_houses_125 z_draft_law_125 z_draft_pride_125 z_draft_memory_125 z_draft_weights_cells_125 z_draft_eats_125 z_draft_barred_125 H locs ls hf hP hD hS hl
      unfold X2_endItem_J125 at hf
      refine lv_aload_n hx hb dX2_endItem_125 rfl (lv_at hl 0 rfl) ?_
      refine lv_iconst (v := 0) hx hb dX2_endItem_126 (by decide) ?_
      refine va_put (D := D) (ci := 2) (v := .int (0 : Int32)) (ty := .int) (C := RX2) (T := TX2) (N := 11) hx hb hts kc1 tyX2 tyX2_ok nmX2 hown hK hP hD hS 0 rfl rfl 8 (by decide) kw2 (fun _ h9 => h9) rfl pfI rfl rfl (Nat.le_of_ble_eq_true rfl) dX2_endItem_127 (fun H locs hP hD hS => ?_)
      have hP : va_P D vwCl [(q0, oB 2 [.ref q_bytes, .ref q_draft, .ref q_numbers, .int z_length, .int z_at, .int z_place, .int z_token, .int z_number, .int (0 : Int32), .int z_taken, .int z_once]), (q_draft, oB 3 [.ref q_draft_weights, .ref q_draft_eats, .ref q_draft_barred, .int z_draft_houses_125, .int z_draft_law_125, .int z_draft_pride_125, .int z_draft_memory_125]), (q_draft_weights, oB 4 [.ref q_draft_weights_cells]), (q_draft_weights_cells, aI cy 24 z_draft_weights_cells_125), (q_draft_eats, aI cy 6 z_draft_eats_125), (q_draft_barred, aI cy 6 z_draft_barred_125), (q_numbers, aI cy 5 z_numbers)] H := hP
      have hD : va_D A [(q0, oB 2 [.ref q_bytes, .ref q_draft, .ref q_numbers, .int z_length, .int z_at, .int z_place, .int z_token, .int z_number, .int (0 : Int32), .int z_taken, .int z_once]), (q_draft, oB 3 [.ref q_draft_weights, .ref q_draft_eats, .ref q_draft_barred, .int z_draft_houses_125, .int z_draft_law_125, .int z_draft_pride_125, .int z_draft_memory_125]), (q_draft_weights, oB 4 [.ref q_draft_weights_cells]), (q_draft_weights_cells, aI cy 24 z_draft_weights_cells_125), (q_draft_eats, aI cy 6 z_draft_eats_125), (q_draft_barred, aI cy 6 z_draft_barred_125), (q_numbers, aI cy 5 z_numbers)] := hD
      refine lv_iconst (v := 1) hx hb dX2_endItem_130 (by decide) ?_
      exact hret' _ _ _ _ _ _ _ _ _ _ _ _ _ dX2_endItem_131 (by decide) hf hP hD hS
    by_cases hs_14_4 : z_item = 4
    · have hf := it_t hf hs_14_4
      refine lv_tableIn (off := 30) (tgt := 44) hx hb dX2_endItem_14 (by rw [hs_14_4]; decide) (by rw [hs_14_4]; decide) (by rw [hs_14_4]; decide) (by decide) ?_
      refine lv_aload_n hx hb dX2_endItem_44 rfl (lv_at hl 0 rfl) ?_
      refine va_get (D := D) (ci := 2) (v := .ref q_draft) (C := RX2) (T := TX2) (N := 11) hx hb hts kc1 hown hK hP 0 rfl rfl 1 (by decide) kw3 (fun _ h9 => h9) rfl dX2_endItem_45 ?_
      refine lv_aload_n hx hb dX2_endItem_48 rfl (lv_at hl 0 rfl) ?_
      refine va_get (D := D) (ci := 2) (v := .ref q_numbers) (C := RX2) (T := TX2) (N := 11) hx hb hts kc1 hown hK hP 0 rfl rfl 2 (by decide) kw4 (fun _ h9 => h9) rfl dX2_endItem_49 ?_
      obtain ⟨r_52, hr_52, hf⟩ := bd_some hf
      refine cl_v (wc := [(q_draft, oB 3 [.ref q_draft_weights, .ref q_draft_eats, .ref q_draft_barred, .int z_draft_houses, .int z_draft_law, .int z_draft_pride, .int z_draft_memory]), (q_draft_weights, oB 4 [.ref q_draft_weights_cells]), (q_draft_weights_cells, aI cy 24 z_draft_weights_cells), (q_draft_eats, aI cy 6 z_draft_eats), (q_numbers, aI cy 5 z_numbers)]) (w1 := [(q_draft, oB 3 [.ref q_draft_weights, .ref q_draft_eats, .ref q_draft_barred, .int r_52.1, .int z_draft_law, .int z_draft_pride, .int z_draft_memory]), (q_draft_weights, oB 4 [.ref q_draft_weights_cells]), (q_draft_weights_cells, aI cy 24 r_52.2.1), (q_draft_eats, aI cy 6 r_52.2.2), (q_numbers, aI cy 5 z_numbers)]) (wr := [(q0, oB 2 [.ref q_bytes, .ref q_draft, .ref q_numbers, .int z_length, .int z_at, .int z_place, .int z_token, .int z_number, .int z_item, .int z_taken, .int z_once]), (q_draft_barred, aI cy 6 z_draft_barred)]) (w2 := [(q0, oB 2 [.ref q_bytes, .ref q_draft, .ref q_numbers, .int z_length, .int z_at, .int z_place, .int z_token, .int z_number, .int z_item, .int z_taken, .int z_once]), (q_draft, oB 3 [.ref q_draft_weights, .ref q_draft_eats, .ref q_draft_barred, .int r_52.1, .int z_draft_law, .int z_draft_pride, .int z_draft_memory]), (q_draft_weights, oB 4 [.ref q_draft_weights_cells]), (q_draft_weights_cells, aI cy 24 r_52.2.1), (q_draft_eats, aI cy 6 r_52.2.2), (q_draft_barred, aI cy 6 z_draft_barred), (q_numbers, aI cy 5 z_numbers)]) (va_runVN (C := RX3) (host := "EachBrings") (As := [.ref q_numbers]) (rest := []) ⟨hx, hb, hml, hown, hts⟩ (ktX3_addHouse l D cy q_draft q_draft_weights q_draft_eats q_draft_barred q_draft_weights_cells q_numbers z_draft_houses z_draft_law z_draft_pride z_draft_memory z_draft_weights_cells z_draft_eats z_numbers r_52 hr_52 _) ⟨va_cnB 1 hts gX2_endItem_X3_addHouse_n81 rfl rfl rfl (hN.at 36 rfl) kw5 (by decide +kernel) ⟨Nat.le_of_ble_eq_true rfl, Nat.le_of_ble_eq_true rfl⟩, kw6, kw7⟩ (pre_V (wc := [(q_draft, oB 3 [.ref q_draft_weights, .ref q_draft_eats, .ref q_draft_barred, .int z_draft_houses, .int z_draft_law, .int z_draft_pride, .int z_draft_memory]), (q_draft_weights, oB 4 [.ref q_draft_weights_cells]), (q_draft_weights_cells, aI cy 24 z_draft_weights_cells), (q_draft_eats, aI cy 6 z_draft_eats), (q_numbers, aI cy 5 z_numbers)]) (ci := 3) hcx hsx hS hA hP hD [1, 2, 3, 4, 6] rfl (by decide) rfl rfl) rfl rfl hl.1 rfl (lv_room (Nat.le_of_ble_eq_true rfl)) dX2_endItem_52 ⟨Nat.zero_le _, Nat.zero_le _⟩) hP hD hS hA [1, 2, 3, 4, 6] [0, 5] [0, 2, 3, 4, 5, 1, 6] rfl rfl (by decide) (by decide) (by decide) rfl (fun H locs hP hD hS => ?_)
      refine lv_goto (tgt := 125) hx hb dX2_endItem_55 (by decide) ?_
      exact hJ125 r_52.1 z_draft_law z_draft_pride z_draft_memory r_52.2.1 r_52.2.2 z_draft_barred _ _ _ hf hP hD hS (lv_sub hl [0] rfl)
    have hf := it_f hf hs_14_4
    by_cases hs_14_5 : z_item = 5
    · have hf := it_t hf hs_14_5
      refine lv_tableIn (off := 44) (tgt := 58) hx hb dX2_endItem_14 (by rw [hs_14_5]; decide) (by rw [hs_14_5]; decide) (by rw [hs_14_5]; decide) (by decide) ?_
      refine lv_aload_n hx hb dX2_endItem_58 rfl (lv_at hl 0 rfl) ?_
      refine va_get (D := D) (ci := 2) (v := .ref q_draft) (C := RX2) (T := TX2) (N := 11) hx hb hts kc1 hown hK hP 0 rfl rfl 1 (by decide) kw3 (fun _ h9 => h9) rfl dX2_endItem_59 ?_
      refine lv_aload_n hx hb dX2_endItem_62 rfl (lv_at hl 0 rfl) ?_
      refine va_get (D := D) (ci := 2) (v := .ref q_numbers) (C := RX2) (T := TX2) (N := 11) hx hb hts kc1 hown hK hP 0 rfl rfl 2 (by decide) kw4 (fun _ h9 => h9) rfl dX2_endItem_63 ?_
      refine lv_iconst (v := 0) hx hb dX2_endItem_66 (by decide) ?_
      refine va_iald hx hb hK hP 6 0 rfl rfl (by decide : okx (0 : Int32) 5) dX2_endItem_67 ?_
      refine lv_aload_n hx hb dX2_endItem_68 rfl (lv_at hl 0 rfl) ?_
      refine va_get (D := D) (ci := 2) (v := .ref q_numbers) (C := RX2) (T := TX2) (N := 11) hx hb hts kc1 hown hK hP 0 rfl rfl 2 (by decide) kw4 (fun _ h9 => h9) rfl dX2_endItem_69 ?_
      refine lv_iconst (v := 1) hx hb dX2_endItem_72 (by decide) ?_
      refine va_iald hx hb hK hP 6 0 rfl rfl (by decide : okx (1 : Int32) 5) dX2_endItem_73 ?_
      obtain ⟨r_74, hr_74, hf⟩ := bd_some hf
      refine cl_v (wc := [(q_draft, oB 3 [.ref q_draft_weights, .ref q_draft_eats, .ref q_draft_barred, .int z_draft_houses, .int z_draft_law, .int z_draft_pride, .int z_draft_memory]), (q_draft_barred, aI cy 6 z_draft_barred)]) (w1 := [(q_draft, oB 3 [.ref q_draft_weights, .ref q_draft_eats, .ref q_draft_barred, .int z_draft_houses, .int z_draft_law, .int z_draft_pride, .int z_draft_memory]), (q_draft_barred, aI cy 6 r_74)]) (wr := [(q0, oB 2 [.ref q_bytes, .ref q_draft, .ref q_numbers, .int z_length, .int z_at, .int z_place, .int z_token, .int z_number, .int z_item, .int z_taken, .int z_once]), (q_draft_weights, oB 4 [.ref q_draft_weights_cells]), (q_draft_weights_cells, aI cy 24 z_draft_weights_cells), (q_draft_eats, aI cy 6 z_draft_eats), (q_numbers, aI cy 5 z_numbers)]) (w2 := [(q0, oB 2 [.ref q_bytes, .ref q_draft, .ref q_numbers, .int z_length, .int z_at, .int z_place, .int z_token, .int z_number, .int z_item, .int z_taken, .int z_once]), (q_draft, oB 3 [.ref q_draft_weights, .ref q_draft_eats, .ref q_draft_barred, .int z_draft_houses, .int z_draft_law, .int z_draft_pride, .int z_draft_memory]), (q_draft_weights, oB 4 [.ref q_draft_weights_cells]), (q_draft_weights_cells, aI cy 24 z_draft_weights_cells), (q_draft_eats, aI cy 6 z_draft_eats), (q_draft_barred, aI cy 6 r_74), (q_numbers, aI cy 5 z_numbers)]) (va_runVN (C := RX3) (host := "EachBrings") (As := [.int (z_numbers (0 : Int32).toNatClampNeg), .int (z_numbers (1 : Int32).toNatClampNeg)]) (rest := []) ⟨hx, hb, hml, hown, hts⟩ (ktX3_bar l D cy q_draft q_draft_weights q_draft_eats q_draft_barred z_draft_houses z_draft_law z_draft_pride z_draft_memory z_draft_barred (z_numbers (0 : Int32).toNatClampNeg) (z_numbers (1 : Int32).toNatClampNeg) r_74 hr_74 _) ⟨va_cnB 2 hts gX2_endItem_X3_bar_n85 rfl rfl rfl (hN.at 38 rfl) kw5 (by decide +kernel) ⟨Nat.le_of_ble_eq_true rfl, Nat.le_of_ble_eq_true rfl⟩, kw8, kw9⟩ (pre_V (wc := [(q_draft, oB 3 [.ref q_draft_weights, .ref q_draft_eats, .ref q_draft_barred, .int z_draft_houses, .int z_draft_law, .int z_draft_pride, .int z_draft_memory]), (q_draft_barred, aI cy 6 z_draft_barred)]) (ci := 3) hcx hsx hS hA hP hD [1, 5] rfl (by decide) rfl rfl) rfl rfl hl.1 rfl (lv_room (Nat.le_of_ble_eq_true rfl)) dX2_endItem_74 ⟨Nat.zero_le _, Nat.zero_le _⟩) hP hD hS hA [1, 5] [0, 2, 3, 4, 6] [0, 5, 1, 2, 3, 6, 4] rfl rfl (by decide) (by decide) (by decide) rfl (fun H locs hP hD hS => ?_)
      refine lv_goto (tgt := 125) hx hb dX2_endItem_77 (by decide) ?_
      exact hJ125 z_draft_houses z_draft_law z_draft_pride z_draft_memory z_draft_weights_cells z_draft_eats r_74 _ _ _ hf hP hD hS (lv_sub hl [0] rfl)
    have hf := it_f hf hs_14_5
    by_cases hs_14_6 : z_item = 6
    · have hf := it_t hf hs_14_6
      refine lv_tableIn (off := 66) (tgt := 80) hx hb dX2_endItem_14 (by rw [hs_14_6]; decide) (by rw [hs_14_6]; decide) (by rw [hs_14_6]; decide) (by decide) ?_
      refine lv_aload_n hx hb dX2_endItem_80 rfl (lv_at hl 0 rfl) ?_
      refine va_get (D := D) (ci := 2) (v := .ref q_draft) (C := RX2) (T := TX2) (N := 11) hx hb hts kc1 hown hK hP 0 rfl rfl 1 (by decide) kw3 (fun _ h9 => h9) rfl dX2_endItem_81 ?_
      refine lv_aload_n hx hb dX2_endItem_84 rfl (lv_at hl 0 rfl) ?_
      refine va_get (D := D) (ci := 2) (v := .ref q_numbers) (C := RX2) (T := TX2) (N := 11) hx hb hts kc1 hown hK hP 0 rfl rfl 2 (by decide) kw4 (fun _ h9 => h9) rfl dX2_endItem_85 ?_
      refine lv_iconst (v := 0) hx hb dX2_endItem_88 (by decide) ?_
      refine va_iald hx hb hK hP 6 0 rfl rfl (by decide : okx (0 : Int32) 5) dX2_endItem_89 ?_
      refine lv_topi (fun z_draft_law_90 ez_draft_law_90 => ?_)
      have hf := lets_at hf ez_draft_law_90
      refine va_putN (D := D) (ci := 3) (v := .int z_draft_law_90) (ty := .int) (C := RX3) (T := TX3) (N := 7) (host := "EachBrings") hx hb hts kc10 tyX3 tyX3_ok nmX3 hown hK hP hD hS 1 rfl rfl 4 (by decide) (hN.use 9 rfl) (fun _ h9 => h9) rfl pfI rfl rfl (Nat.le_of_ble_eq_true rfl) dX2_endItem_90 (fun H locs hP hD hS => ?_)
      have hP : va_P D vwCl [(q0, oB 2 [.ref q_bytes, .ref q_draft, .ref q_numbers, .int z_length, .int z_at, .int z_place, .int z_token, .int z_number, .int z_item, .int z_taken, .int z_once]), (q_draft, oB 3 [.ref q_draft_weights, .ref q_draft_eats, .ref q_draft_barred, .int z_draft_houses, .int z_draft_law_90, .int z_draft_pride, .int z_draft_memory]), (q_draft_weights, oB 4 [.ref q_draft_weights_cells]), (q_draft_weights_cells, aI cy 24 z_draft_weights_cells), (q_draft_eats, aI cy 6 z_draft_eats), (q_draft_barred, aI cy 6 z_draft_barred), (q_numbers, aI cy 5 z_numbers)] H := hP
      have hD : va_D A [(q0, oB 2 [.ref q_bytes, .ref q_draft, .ref q_numbers, .int z_length, .int z_at, .int z_place, .int z_token, .int z_number, .int z_item, .int z_taken, .int z_once]), (q_draft, oB 3 [.ref q_draft_weights, .ref q_draft_eats, .ref q_draft_barred, .int z_draft_houses, .int z_draft_law_90, .int z_draft_pride, .int z_draft_memory]), (q_draft_weights, oB 4 [.ref q_draft_weights_cells]), (q_draft_weights_cells, aI cy 24 z_draft_weights_cells), (q_draft_eats, aI cy 6 z_draft_eats), (q_draft_barred, aI cy 6 z_draft_barred), (q_numbers, aI cy 5 z_numbers)] := hD
      refine lv_goto (tgt := 125) hx hb dX2_endItem_93 (by decide) ?_
      exact hJ125 z_draft_houses z_draft_law_90 z_draft_pride z_draft_memory z_draft_weights_cells z_draft_eats z_draft_barred _ _ _ hf hP hD hS (lv_sub hl [0] rfl)
    have hf := it_f hf hs_14_6
    by_cases hs_14_7 : z_item = 7
    · have hf := it_t hf hs_14_7
      refine lv_tableIn (off := 82) (tgt := 96) hx hb dX2_endItem_14 (by rw [hs_14_7]; decide) (by rw [hs_14_7]; decide) (by rw [hs_14_7]; decide) (by decide) ?_
      refine lv_aload_n hx hb dX2_endItem_96 rfl (lv_at hl 0 rfl) ?_
      refine va_get (D := D) (ci := 2) (v := .ref q_draft) (C := RX2) (T := TX2) (N := 11) hx hb hts kc1 hown hK hP 0 rfl rfl 1 (by decide) kw3 (fun _ h9 => h9) rfl dX2_endItem_97 ?_
      refine lv_aload_n hx hb dX2_endItem_100 rfl (lv_at hl 0 rfl) ?_
      refine va_get (D := D) (ci := 2) (v := .ref q_numbers) (C := RX2) (T := TX2) (N := 11) hx hb hts kc1 hown hK hP 0 rfl rfl 2 (by decide) kw4 (fun _ h9 => h9) rfl dX2_endItem_101 ?_
      refine lv_iconst (v := 0) hx hb dX2_endItem_104 (by decide) ?_
      refine va_iald hx hb hK hP 6 0 rfl rfl (by decide : okx (0 : Int32) 5) dX2_endItem_105 ?_
      refine lv_topi (fun z_draft_pride_106 ez_draft_pride_106 => ?_)
      have hf := lets_at hf ez_draft_pride_106
      refine va_putN (D := D) (ci := 3) (v := .int z_draft_pride_106) (ty := .int) (C := RX3) (T := TX3) (N := 7) (host := "EachBrings") hx hb hts kc10 tyX3 tyX3_ok nmX3 hown hK hP hD hS 1 rfl rfl 5 (by decide) (hN.use 11 rfl) (fun _ h9 => h9) rfl pfI rfl rfl (Nat.le_of_ble_eq_true rfl) dX2_endItem_106 (fun H locs hP hD hS => ?_)
      have hP : va_P D vwCl [(q0, oB 2 [.ref q_bytes, .ref q_draft, .ref q_numbers, .int z_length, .int z_at, .int z_place, .int z_token, .int z_number, .int z_item, .int z_taken, .int z_once]), (q_draft, oB 3 [.ref q_draft_weights, .ref q_draft_eats, .ref q_draft_barred, .int z_draft_houses, .int z_draft_law, .int z_draft_pride_106, .int z_draft_memory]), (q_draft_weights, oB 4 [.ref q_draft_weights_cells]), (q_draft_weights_cells, aI cy 24 z_draft_weights_cells), (q_draft_eats, aI cy 6 z_draft_eats), (q_draft_barred, aI cy 6 z_draft_barred), (q_numbers, aI cy 5 z_numbers)] H := hP
      have hD : va_D A [(q0, oB 2 [.ref q_bytes, .ref q_draft, .ref q_numbers, .int z_length, .int z_at, .int z_place, .int z_token, .int z_number, .int z_item, .int z_taken, .int z_once]), (q_draft, oB 3 [.ref q_draft_weights, .ref q_draft_eats, .ref q_draft_barred, .int z_draft_houses, .int z_draft_law, .int z_draft_pride_106, .int z_draft_memory]), (q_draft_weights, oB 4 [.ref q_draft_weights_cells]), (q_draft_weights_cells, aI cy 24 z_draft_weights_cells), (q_draft_eats, aI cy 6 z_draft_eats), (q_draft_barred, aI cy 6 z_draft_barred), (q_numbers, aI cy 5 z_numbers)] := hD
      refine lv_goto (tgt := 125) hx hb dX2_endItem_109 (by decide) ?_
      exact hJ125 z_draft_houses z_draft_law z_draft_pride_106 z_draft_memory z_draft_weights_cells z_draft_eats z_draft_barred _ _ _ hf hP hD hS (lv_sub hl [0] rfl)
    have hf := it_f hf hs_14_7
    have nhs_14_4 : z_item.toInt ≠ 4 := fun h9 => hs_14_4 (Int32.toInt_inj.mp (h9.trans (by decide)))
    have nhs_14_5 : z_item.toInt ≠ 5 := fun h9 => hs_14_5 (Int32.toInt_inj.mp (h9.trans (by decide)))
    have nhs_14_6 : z_item.toInt ≠ 6 := fun h9 => hs_14_6 (Int32.toInt_inj.mp (h9.trans (by decide)))
    have nhs_14_7 : z_item.toInt ≠ 7 := fun h9 => hs_14_7 (Int32.toInt_inj.mp (h9.trans (by decide)))
    refine lv_tableOut (tgt := 112) hx hb dX2_endItem_14 (by omega) (by decide) ?_
    refine lv_aload_n hx hb dX2_endItem_112 rfl (lv_at hl 0 rfl) ?_
    refine va_get (D := D) (ci := 2) (v := .ref q_draft) (C := RX2) (T := TX2) (N := 11) hx hb hts kc1 hown hK hP 0 rfl rfl 1 (by decide) kw3 (fun _ h9 => h9) rfl dX2_endItem_113 ?_
    refine lv_aload_n hx hb dX2_endItem_116 rfl (lv_at hl 0 rfl) ?_
    refine va_get (D := D) (ci := 2) (v := .ref q_numbers) (C := RX2) (T := TX2) (N := 11) hx hb hts kc1 hown hK hP 0 rfl rfl 2 (by decide) kw4 (fun _ h9 => h9) rfl dX2_endItem_117 ?_
    refine lv_iconst (v := 0) hx hb dX2_endItem_120 (by decide) ?_
    refine va_iald hx hb hK hP 6 0 rfl rfl (by decide : okx (0 : Int32) 5) dX2_endItem_121 ?_
    refine lv_topi (fun z_draft_memory_122 ez_draft_memory_122 => ?_)
    have hf := lets_at hf ez_draft_memory_122
    refine va_putN (D := D) (ci := 3) (v := .int z_draft_memory_122) (ty := .int) (C := RX3) (T := TX3) (N := 7) (host := "EachBrings") hx hb hts kc10 tyX3 tyX3_ok nmX3 hown hK hP hD hS 1 rfl rfl 6 (by decide) (hN.use 13 rfl) (fun _ h9 => h9) rfl pfI rfl rfl (Nat.le_of_ble_eq_true rfl) dX2_endItem_122 (fun H locs hP hD hS => ?_)
    have hP : va_P D vwCl [(q0, oB 2 [.ref q_bytes, .ref q_draft, .ref q_numbers, .int z_length, .int z_at, .int z_place, .int z_token, .int z_number, .int z_item, .int z_taken, .int z_once]), (q_draft, oB 3 [.ref q_draft_weights, .ref q_draft_eats, .ref q_draft_barred, .int z_draft_houses, .int z_draft_law, .int z_draft_pride, .int z_draft_memory_122]), (q_draft_weights, oB 4 [.ref q_draft_weights_cells]), (q_draft_weights_cells, aI cy 24 z_draft_weights_cells), (q_draft_eats, aI cy 6 z_draft_eats), (q_draft_barred, aI cy 6 z_draft_barred), (q_numbers, aI cy 5 z_numbers)] H := hP
    have hD : va_D A [(q0, oB 2 [.ref q_bytes, .ref q_draft, .ref q_numbers, .int z_length, .int z_at, .int z_place, .int z_token, .int z_number, .int z_item, .int z_taken, .int z_once]), (q_draft, oB 3 [.ref q_draft_weights, .ref q_draft_eats, .ref q_draft_barred, .int z_draft_houses, .int z_draft_law, .int z_draft_pride, .int z_draft_memory_122]), (q_draft_weights, oB 4 [.ref q_draft_weights_cells]), (q_draft_weights_cells, aI cy 24 z_draft_weights_cells), (q_draft_eats, aI cy 6 z_draft_eats), (q_draft_barred, aI cy 6 z_draft_barred), (q_numbers, aI cy 5 z_numbers)] := hD
    exact hJ125 z_draft_houses z_draft_law z_draft_pride z_draft_memory_122 z_draft_weights_cells z_draft_eats z_draft_barred _ _ _ hf hP hD hS (lv_sub hl [0] rfl)
  · have hf := it_f hf hc_5
    refine lv_iconst (v := 0) hx hb dX2_endItem_8 (by decide) ?_
    exact hret' _ _ _ _ _ _ _ _ _ _ _ _ _ dX2_endItem_9 (by decide) hf hP hD hS

def X2_canStand_J43 (z_token : Int32) (z_item : Int32) (z_taken : Int32) (z_once : Int32) (z_draft_houses : Int32) (z_draft_law : Int32) (z_draft_pride : Int32) (z_draft_memory : Int32) (z_draft_weights_cells : Nat → Int32) (z_draft_eats : Nat → Int32) (z_draft_barred : Nat → Int32) (z_numbers : Nat → Int32) : Option (Int32 × Int32 × Int32 × Int32 × Int32 × Int32 × Int32 × Int32 × (Nat → Int32) × (Nat → Int32) × (Nat → Int32) × (Nat → Int32)) := (fX2_endItem z_token z_item z_draft_houses z_draft_law z_draft_pride z_draft_memory z_draft_weights_cells z_draft_eats z_draft_barred z_numbers).bind (fun r_44 => gd (isB r_44.1) (some (r_44.1, r_44.2.1, z_taken, z_once, r_44.2.2.1, r_44.2.2.2.1, r_44.2.2.2.2.1, r_44.2.2.2.2.2.1, r_44.2.2.2.2.2.2.1, r_44.2.2.2.2.2.2.2.1, r_44.2.2.2.2.2.2.2.2, z_numbers)))
def fX2_canStand (z_token : Int32) (z_number : Int32) (z_item : Int32) (z_taken : Int32) (z_once : Int32) (z_draft_houses : Int32) (z_draft_law : Int32) (z_draft_pride : Int32) (z_draft_memory : Int32) (z_draft_weights_cells : Nat → Int32) (z_draft_eats : Nat → Int32) (z_draft_barred : Nat → Int32) (z_numbers : Nat → Int32) : Option (Int32 × Int32 × Int32 × Int32 × Int32 × Int32 × Int32 × Int32 × (Nat → Int32) × (Nat → Int32) × (Nat → Int32) × (Nat → Int32)) := if z_item = 0 then ((fX2_beginItem z_token z_item z_taken z_once z_draft_houses).bind (fun r_8 => gd (isB r_8.1) (some (r_8.1, r_8.2.1, r_8.2.2.1, r_8.2.2.2, z_draft_houses, z_draft_law, z_draft_pride, z_draft_memory, z_draft_weights_cells, z_draft_eats, z_draft_barred, z_numbers)))) else ((fX2_numbersOf z_item).bind (fun r_20 => if r_20 ≤ z_taken then (X2_canStand_J43 z_token z_item z_taken z_once z_draft_houses z_draft_law z_draft_pride z_draft_memory z_draft_weights_cells z_draft_eats z_draft_barred z_numbers) else (if (5 : Int32) ≤ z_taken then (X2_canStand_J43 z_token z_item z_taken z_once z_draft_houses z_draft_law z_draft_pride z_draft_memory z_draft_weights_cells z_draft_eats z_draft_barred z_numbers) else ((fX2_takeNumber z_token z_number z_item z_taken z_draft_houses z_numbers).bind (fun r_39 => gd (isB r_39.1) (some (r_39.1, z_item, r_39.2.1, z_once, z_draft_houses, z_draft_law, z_draft_pride, z_draft_memory, z_draft_weights_cells, z_draft_eats, z_draft_barred, r_39.2.2)))))))
abbrev rmX2_canStand : Room := { frames := 3, cells := 0, slots := 0, locals := 65 }
set_option maxHeartbeats 4000000 in
set_option maxRecDepth 100000 in
theorem ktX2_canStand (l : Launch) (D : va_G) (cy : Nat → ClassId) (q0 : Nat) (q_bytes : Nat) (q_draft : Nat) (q_numbers : Nat) (q_draft_weights : Nat) (q_draft_eats : Nat) (q_draft_barred : Nat) (q_draft_weights_cells : Nat) (z_length : Int32) (z_at : Int32) (z_place : Int32) (z_token : Int32) (z_number : Int32) (z_item : Int32) (z_taken : Int32) (z_once : Int32) (z_draft_houses : Int32) (z_draft_law : Int32) (z_draft_pride : Int32) (z_draft_memory : Int32) (z_draft_weights_cells : Nat → Int32) (z_draft_eats : Nat → Int32) (z_draft_barred : Nat → Int32) (z_numbers : Nat → Int32) (r : Int32 × Int32 × Int32 × Int32 × Int32 × Int32 × Int32 × Int32 × (Nat → Int32) × (Nat → Int32) × (Nat → Int32) × (Nat → Int32)) (hf : fX2_canStand z_token z_number z_item z_taken z_once z_draft_houses z_draft_law z_draft_pride z_draft_memory z_draft_weights_cells z_draft_eats z_draft_barred z_numbers = some r) : CtI l yX2_canStand wsX2_canStand rmX2_canStand D cy [.ref q0] [(q0, oB 2 [.ref q_bytes, .ref q_draft, .ref q_numbers, .int z_length, .int z_at, .int z_place, .int z_token, .int z_number, .int z_item, .int z_taken, .int z_once]), (q_draft, oB 3 [.ref q_draft_weights, .ref q_draft_eats, .ref q_draft_barred, .int z_draft_houses, .int z_draft_law, .int z_draft_pride, .int z_draft_memory]), (q_draft_weights, oB 4 [.ref q_draft_weights_cells]), (q_draft_weights_cells, aI cy 24 z_draft_weights_cells), (q_draft_eats, aI cy 6 z_draft_eats), (q_draft_barred, aI cy 6 z_draft_barred), (q_numbers, aI cy 5 z_numbers)] [(q0, oB 2 [.ref q_bytes, .ref q_draft, .ref q_numbers, .int z_length, .int z_at, .int z_place, .int z_token, .int z_number, .int r.2.1, .int r.2.2.1, .int r.2.2.2.1]), (q_draft, oB 3 [.ref q_draft_weights, .ref q_draft_eats, .ref q_draft_barred, .int r.2.2.2.2.1, .int r.2.2.2.2.2.1, .int r.2.2.2.2.2.2.1, .int r.2.2.2.2.2.2.2.1]), (q_draft_weights, oB 4 [.ref q_draft_weights_cells]), (q_draft_weights_cells, aI cy 24 r.2.2.2.2.2.2.2.2.1), (q_draft_eats, aI cy 6 r.2.2.2.2.2.2.2.2.2.1), (q_draft_barred, aI cy 6 r.2.2.2.2.2.2.2.2.2.2.1), (q_numbers, aI cy 5 r.2.2.2.2.2.2.2.2.2.2.2)] r.1 := by
  refine Ct_ofZ (cc := cX2_canStand) (nL := 1) (by decide) rfl (Nat.le_of_ble_eq_true rfl) ?_
  intro p e s m args below meth c A Q hM hret hP hD hS ls hl
  obtain ⟨hx, hb, hml, hown, hts, hcx, hA, hsx⟩ := hM
  have hown : s.vm.findClass RX2 = some m.cls := hown
  have hK := hcx.1
  have hN := hcx.2
  have kw0 := hts (.fieldLink RX2 42 "EachBrings$Text" "item" "I") (List.mem_of_getElem? (i := 1) rfl)
  have kc1 : ∀ w ∈ wsX20, w ∈ wsX2_canStand := fun _ h => List.mem_cons_of_mem _ (List.mem_append_left _ (List.mem_append_left _ (List.mem_append_right _ h)))
  have kw2 := hts (.fieldLink RX2 45 "EachBrings$Text" "taken" "I") (List.mem_of_getElem? (i := 2) rfl)
  have kw3 := hts (.fieldLink RX2 22 "EachBrings$Text" "numbers" "[I") (List.mem_of_getElem? (i := 3) rfl)
  have hl : lv_has ls 1 [(0, .ref q0)] := hl
  have hret' : ∀ (pc : Nat) (ls : Array Slot) (H : Heap) (locs : List Loc) (v : Int32) (w0 : Int32) (w1 : Int32) (w2 : Int32) (w3 : Int32) (w4 : Int32) (w5 : Int32) (w6 : Int32) (w7 : Nat → Int32) (w8 : Nat → Int32) (w9 : Nat → Int32) (w10 : Nat → Int32), decode cX2_canStand pc = .ok (.ireturn, 1) → isB v → some (v, w0, w1, w2, w3, w4, w5, w6, w7, w8, w9, w10) = some r → va_P D vwCl [(q0, oB 2 [.ref q_bytes, .ref q_draft, .ref q_numbers, .int z_length, .int z_at, .int z_place, .int z_token, .int z_number, .int w0, .int w1, .int w2]), (q_draft, oB 3 [.ref q_draft_weights, .ref q_draft_eats, .ref q_draft_barred, .int w3, .int w4, .int w5, .int w6]), (q_draft_weights, oB 4 [.ref q_draft_weights_cells]), (q_draft_weights_cells, aI cy 24 w7), (q_draft_eats, aI cy 6 w8), (q_draft_barred, aI cy 6 w9), (q_numbers, aI cy 5 w10)] H → va_D A [(q0, oB 2 [.ref q_bytes, .ref q_draft, .ref q_numbers, .int z_length, .int z_at, .int z_place, .int z_token, .int z_number, .int w0, .int w1, .int w2]), (q_draft, oB 3 [.ref q_draft_weights, .ref q_draft_eats, .ref q_draft_barred, .int w3, .int w4, .int w5, .int w6]), (q_draft_weights, oB 4 [.ref q_draft_weights_cells]), (q_draft_weights_cells, aI cy 24 w7), (q_draft_eats, aI cy 6 w8), (q_draft_barred, aI cy 6 w9), (q_numbers, aI cy 5 w10)] → va_S A s.heap H locs → W p l e rmX2_canStand s m args below meth c H locs 0 0 Q (F0 m pc ls [.int v]) := by
    intro pc ls H locs v w0 w1 w2 w3 w4 w5 w6 w7 w8 w9 w10 hd hbv he hP hD hS
    cases he
    exact hret _ _ _ _ _ hd hbv rfl hP hD hS
  unfold fX2_canStand at hf
  refine lv_aload_n hx hb dX2_canStand_0 rfl (lv_at hl 0 rfl) ?_
  refine va_get (D := D) (ci := 2) (v := .int z_item) (C := RX2) (T := TX2) (N := 11) hx hb hts kc1 hown hK hP 0 rfl rfl 8 (by decide) kw0 (fun _ h9 => h9) rfl dX2_canStand_1 ?_
  refine lv_if_ne (tgt := 12) hx hb dX2_canStand_4 (by decide) (fun hc_4 => ?_) (fun hc_4 => ?_)
  · have hf := it_f hf hc_4
    refine lv_aload_n hx hb dX2_canStand_12 rfl (lv_at hl 0 rfl) ?_
    refine va_get (D := D) (ci := 2) (v := .int z_taken) (C := RX2) (T := TX2) (N := 11) hx hb hts kc1 hown hK hP 0 rfl rfl 9 (by decide) kw2 (fun _ h9 => h9) rfl dX2_canStand_13 ?_
    refine lv_aload_n hx hb dX2_canStand_16 rfl (lv_at hl 0 rfl) ?_
    refine va_get (D := D) (ci := 2) (v := .int z_item) (C := RX2) (T := TX2) (N := 11) hx hb hts kc1 hown hK hP 0 rfl rfl 8 (by decide) kw0 (fun _ h9 => h9) rfl dX2_canStand_17 ?_
    obtain ⟨r_20, hr_20, hf⟩ := bd_some hf
    refine cl_i (wc := []) (w1 := []) (wr := [(q0, oB 2 [.ref q_bytes, .ref q_draft, .ref q_numbers, .int z_length, .int z_at, .int z_place, .int z_token, .int z_number, .int z_item, .int z_taken, .int z_once]), (q_draft, oB 3 [.ref q_draft_weights, .ref q_draft_eats, .ref q_draft_barred, .int z_draft_houses, .int z_draft_law, .int z_draft_pride, .int z_draft_memory]), (q_draft_weights, oB 4 [.ref q_draft_weights_cells]), (q_draft_weights_cells, aI cy 24 z_draft_weights_cells), (q_draft_eats, aI cy 6 z_draft_eats), (q_draft_barred, aI cy 6 z_draft_barred), (q_numbers, aI cy 5 z_numbers)]) (w2 := [(q0, oB 2 [.ref q_bytes, .ref q_draft, .ref q_numbers, .int z_length, .int z_at, .int z_place, .int z_token, .int z_number, .int z_item, .int z_taken, .int z_once]), (q_draft, oB 3 [.ref q_draft_weights, .ref q_draft_eats, .ref q_draft_barred, .int z_draft_houses, .int z_draft_law, .int z_draft_pride, .int z_draft_memory]), (q_draft_weights, oB 4 [.ref q_draft_weights_cells]), (q_draft_weights_cells, aI cy 24 z_draft_weights_cells), (q_draft_eats, aI cy 6 z_draft_eats), (q_draft_barred, aI cy 6 z_draft_barred), (q_numbers, aI cy 5 z_numbers)]) (va_runS (As := [.int z_item]) (rest := [.int z_taken]) ⟨hx, hb, hml, hown, hts⟩ (ktX2_numbersOf l D cy z_item r_20 hr_20 _) (va_cwS 1 hts gX2_canStand_X2_numbersOf rfl rfl rfl (by decide +kernel) ⟨Nat.le_of_ble_eq_true rfl, Nat.le_of_ble_eq_true rfl⟩) (pre_S (wc := []) hcx hsx hS hA hP hD [] rfl (by decide)) rfl rfl hl.1 rfl (lv_room (Nat.le_of_ble_eq_true rfl)) dX2_canStand_20 ⟨Nat.zero_le _, Nat.zero_le _⟩) hP hD hS hA [] [0, 1, 2, 3, 4, 5, 6] [0, 1, 2, 3, 4, 5, 6] rfl rfl (by decide) (by decide) (by decide) rfl (fun H locs hP hD hS => ?_)
    have hJ43 : ∀ (H : Heap) (locs : List Loc) (ls : Array Slot), X2_canStand_J43 z_token z_item z_taken z_once z_draft_houses z_draft_law z_draft_pride z_draft_memory z_draft_weights_cells z_draft_eats z_draft_barred z_numbers = some r → va_P D vwCl [(q0, oB 2 [.ref q_bytes, .ref q_draft, .ref q_numbers, .int z_length, .int z_at, .int z_place, .int z_token, .int z_number, .int z_item, .int z_taken, .int z_once]), (q_draft, oB 3 [.ref q_draft_weights, .ref q_draft_eats, .ref q_draft_barred, .int z_draft_houses, .int z_draft_law, .int z_draft_pride, .int z_draft_memory]), (q_draft_weights, oB 4 [.ref q_draft_weights_cells]), (q_draft_weights_cells, aI cy 24 z_draft_weights_cells), (q_draft_eats, aI cy 6 z_draft_eats), (q_draft_barred, aI cy 6 z_draft_barred), (q_numbers, aI cy 5 z_numbers)] H → va_D A [(q0, oB 2 [.ref q_bytes, .ref q_draft, .ref q_numbers, .int z_length, .int z_at, .int z_place, .int z_token, .int z_number, .int z_item, .int z_taken, .int z_once]), (q_draft, oB 3 [.ref q_draft_weights, .ref q_draft_eats, .ref q_draft_barred, .int z_draft_houses, .int z_draft_law, .int z_draft_pride, .int z_draft_memory]), (q_draft_weights, oB 4 [.ref q_draft_weights_cells]), (q_draft_weights_cells, aI cy 24 z_draft_weights_cells), (q_draft_eats, aI cy 6 z_draft_eats), (q_draft_barred, aI cy 6 z_draft_barred), (q_numbers, aI cy 5 z_numbers)] → va_S A s.heap H locs → lv_has ls 1 [(0, .ref q0)] → W p l e rmX2_canStand s m args below meth c H locs 0 0 Q (F0 m 43 ls []) := by
      intro H locs ls hf hP hD hS hl
      unfold X2_canStand_J43 at hf
      refine lv_aload_n hx hb dX2_canStand_43 rfl (lv_at hl 0 rfl) ?_
      obtain ⟨r_44, hr_44, hf⟩ := bd_some hf
      refine cl_i (wc := [(q0, oB 2 [.ref q_bytes, .ref q_draft, .ref q_numbers, .int z_length, .int z_at, .int z_place, .int z_token, .int z_number, .int z_item, .int z_taken, .int z_once]), (q_draft, oB 3 [.ref q_draft_weights, .ref q_draft_eats, .ref q_draft_barred, .int z_draft_houses, .int z_draft_law, .int z_draft_pride, .int z_draft_memory]), (q_draft_weights, oB 4 [.ref q_draft_weights_cells]), (q_draft_weights_cells, aI cy 24 z_draft_weights_cells), (q_draft_eats, aI cy 6 z_draft_eats), (q_draft_barred, aI cy 6 z_draft_barred), (q_numbers, aI cy 5 z_numbers)]) (w1 := [(q0, oB 2 [.ref q_bytes, .ref q_draft, .ref q_numbers, .int z_length, .int z_at, .int z_place, .int z_token, .int z_number, .int r_44.2.1, .int z_taken, .int z_once]), (q_draft, oB 3 [.ref q_draft_weights, .ref q_draft_eats, .ref q_draft_barred, .int r_44.2.2.1, .int r_44.2.2.2.1, .int r_44.2.2.2.2.1, .int r_44.2.2.2.2.2.1]), (q_draft_weights, oB 4 [.ref q_draft_weights_cells]), (q_draft_weights_cells, aI cy 24 r_44.2.2.2.2.2.2.1), (q_draft_eats, aI cy 6 r_44.2.2.2.2.2.2.2.1), (q_draft_barred, aI cy 6 r_44.2.2.2.2.2.2.2.2), (q_numbers, aI cy 5 z_numbers)]) (wr := []) (w2 := [(q0, oB 2 [.ref q_bytes, .ref q_draft, .ref q_numbers, .int z_length, .int z_at, .int z_place, .int z_token, .int z_number, .int r_44.2.1, .int z_taken, .int z_once]), (q_draft, oB 3 [.ref q_draft_weights, .ref q_draft_eats, .ref q_draft_barred, .int r_44.2.2.1, .int r_44.2.2.2.1, .int r_44.2.2.2.2.1, .int r_44.2.2.2.2.2.1]), (q_draft_weights, oB 4 [.ref q_draft_weights_cells]), (q_draft_weights_cells, aI cy 24 r_44.2.2.2.2.2.2.1), (q_draft_eats, aI cy 6 r_44.2.2.2.2.2.2.2.1), (q_draft_barred, aI cy 6 r_44.2.2.2.2.2.2.2.2), (q_numbers, aI cy 5 z_numbers)]) (va_runV (As := []) (rest := []) ⟨hx, hb, hml, hown, hts⟩ (ktX2_endItem l D cy q0 q_bytes q_draft q_numbers q_draft_weights q_draft_eats q_draft_barred q_draft_weights_cells z_length z_at z_place z_token z_number z_item z_taken z_once z_draft_houses z_draft_law z_draft_pride z_draft_memory z_draft_weights_cells z_draft_eats z_draft_barred z_numbers r_44 hr_44 _) (cwV 0 hts gX2_canStand_X2_endItem rfl rfl rfl (by decide +kernel) ⟨Nat.le_of_ble_eq_true rfl, Nat.le_of_ble_eq_true rfl⟩) (pre_V (wc := [(q0, oB 2 [.ref q_bytes, .ref q_draft, .ref q_numbers, .int z_length, .int z_at, .int z_place, .int z_token, .int z_number, .int z_item, .int z_taken, .int z_once]), (q_draft, oB 3 [.ref q_draft_weights, .ref q_draft_eats, .ref q_draft_barred, .int z_draft_houses, .int z_draft_law, .int z_draft_pride, .int z_draft_memory]), (q_draft_weights, oB 4 [.ref q_draft_weights_cells]), (q_draft_weights_cells, aI cy 24 z_draft_weights_cells), (q_draft_eats, aI cy 6 z_draft_eats), (q_draft_barred, aI cy 6 z_draft_barred), (q_numbers, aI cy 5 z_numbers)]) (ci := 2) hcx hsx hS hA hP hD [0, 1, 2, 3, 4, 5, 6] rfl (by decide) rfl rfl) rfl rfl hl.1 rfl (lv_room (Nat.le_of_ble_eq_true rfl)) dX2_canStand_44 ⟨Nat.zero_le _, Nat.zero_le _⟩) hP hD hS hA [0, 1, 2, 3, 4, 5, 6] [] [0, 1, 2, 3, 4, 5, 6] rfl rfl (by decide) (by decide) (by decide) rfl (fun H locs hP hD hS => ?_)
      obtain ⟨hg_47, hf⟩ := gd_some hf
      exact hret' _ _ _ _ _ _ _ _ _ _ _ _ _ _ _ _ dX2_canStand_47 hg_47 hf hP hD hS
    refine lv_icmp_ge (tgt := 43) hx hb dX2_canStand_23 (by decide) (fun hc_23 => ?_) (fun hc_23 => ?_)
    · have hf := it_t hf hc_23
      exact hJ43 _ _ _ hf hP hD hS (lv_sub hl [0] rfl)
    · have hf := it_f hf hc_23
      refine lv_aload_n hx hb dX2_canStand_26 rfl (lv_at hl 0 rfl) ?_
      refine va_get (D := D) (ci := 2) (v := .int z_taken) (C := RX2) (T := TX2) (N := 11) hx hb hts kc1 hown hK hP 0 rfl rfl 9 (by decide) kw2 (fun _ h9 => h9) rfl dX2_canStand_27 ?_
      refine lv_aload_n hx hb dX2_canStand_30 rfl (lv_at hl 0 rfl) ?_
      refine va_get (D := D) (ci := 2) (v := .ref q_numbers) (C := RX2) (T := TX2) (N := 11) hx hb hts kc1 hown hK hP 0 rfl rfl 2 (by decide) kw3 (fun _ h9 => h9) rfl dX2_canStand_31 ?_
      refine va_alen (v := 5) hx hb hK hP 6 0 rfl rfl rfl dX2_canStand_34 ?_
      refine lv_icmp_ge (tgt := 43) hx hb dX2_canStand_35 (by decide) (fun hc_35 => ?_) (fun hc_35 => ?_)
      · have hf := it_t hf hc_35
        exact hJ43 _ _ _ hf hP hD hS (lv_sub hl [0] rfl)
      · have hf := it_f hf hc_35
        refine lv_aload_n hx hb dX2_canStand_38 rfl (lv_at hl 0 rfl) ?_
        obtain ⟨r_39, hr_39, hf⟩ := bd_some hf
        refine cl_i (wc := [(q0, oB 2 [.ref q_bytes, .ref q_draft, .ref q_numbers, .int z_length, .int z_at, .int z_place, .int z_token, .int z_number, .int z_item, .int z_taken, .int z_once]), (q_draft, oB 3 [.ref q_draft_weights, .ref q_draft_eats, .ref q_draft_barred, .int z_draft_houses, .int z_draft_law, .int z_draft_pride, .int z_draft_memory]), (q_numbers, aI cy 5 z_numbers)]) (w1 := [(q0, oB 2 [.ref q_bytes, .ref q_draft, .ref q_numbers, .int z_length, .int z_at, .int z_place, .int z_token, .int z_number, .int z_item, .int r_39.2.1, .int z_once]), (q_draft, oB 3 [.ref q_draft_weights, .ref q_draft_eats, .ref q_draft_barred, .int z_draft_houses, .int z_draft_law, .int z_draft_pride, .int z_draft_memory]), (q_numbers, aI cy 5 r_39.2.2)]) (wr := [(q_draft_weights, oB 4 [.ref q_draft_weights_cells]), (q_draft_weights_cells, aI cy 24 z_draft_weights_cells), (q_draft_eats, aI cy 6 z_draft_eats), (q_draft_barred, aI cy 6 z_draft_barred)]) (w2 := [(q0, oB 2 [.ref q_bytes, .ref q_draft, .ref q_numbers, .int z_length, .int z_at, .int z_place, .int z_token, .int z_number, .int z_item, .int r_39.2.1, .int z_once]), (q_draft, oB 3 [.ref q_draft_weights, .ref q_draft_eats, .ref q_draft_barred, .int z_draft_houses, .int z_draft_law, .int z_draft_pride, .int z_draft_memory]), (q_draft_weights, oB 4 [.ref q_draft_weights_cells]), (q_draft_weights_cells, aI cy 24 z_draft_weights_cells), (q_draft_eats, aI cy 6 z_draft_eats), (q_draft_barred, aI cy 6 z_draft_barred), (q_numbers, aI cy 5 r_39.2.2)]) (va_runV (As := []) (rest := []) ⟨hx, hb, hml, hown, hts⟩ (ktX2_takeNumber l D cy q0 q_bytes q_draft q_numbers q_draft_weights q_draft_eats q_draft_barred z_length z_at z_place z_token z_number z_item z_taken z_once z_draft_houses z_draft_law z_draft_pride z_draft_memory z_numbers r_39 hr_39 _) (cwV 0 hts gX2_canStand_X2_takeNumber rfl rfl rfl (by decide +kernel) ⟨Nat.le_of_ble_eq_true rfl, Nat.le_of_ble_eq_true rfl⟩) (pre_V (wc := [(q0, oB 2 [.ref q_bytes, .ref q_draft, .ref q_numbers, .int z_length, .int z_at, .int z_place, .int z_token, .int z_number, .int z_item, .int z_taken, .int z_once]), (q_draft, oB 3 [.ref q_draft_weights, .ref q_draft_eats, .ref q_draft_barred, .int z_draft_houses, .int z_draft_law, .int z_draft_pride, .int z_draft_memory]), (q_numbers, aI cy 5 z_numbers)]) (ci := 2) hcx hsx hS hA hP hD [0, 1, 6] rfl (by decide) rfl rfl) rfl rfl hl.1 rfl (lv_room (Nat.le_of_ble_eq_true rfl)) dX2_canStand_39 ⟨Nat.zero_le _, Nat.zero_le _⟩) hP hD hS hA [0, 1, 6] [2, 3, 4, 5] [4, 5, 0, 1, 2, 3, 6] rfl rfl (by decide) (by decide) (by decide) rfl (fun H locs hP hD hS => ?_)
        obtain ⟨hg_42, hf⟩ := gd_some hf
        exact hret' _ _ _ _ _ _ _ _ _ _ _ _ _ _ _ _ dX2_canStand_42 hg_42 hf hP hD hS
  · have hf := it_t hf hc_4
    refine lv_aload_n hx hb dX2_canStand_7 rfl (lv_at hl 0 rfl) ?_
    obtain ⟨r_8, hr_8, hf⟩ := bd_some hf
    refine cl_i (wc := [(q0, oB 2 [.ref q_bytes, .ref q_draft, .ref q_numbers, .int z_length, .int z_at, .int z_place, .int z_token, .int z_number, .int z_item, .int z_taken, .int z_once]), (q_draft, oB 3 [.ref q_draft_weights, .ref q_draft_eats, .ref q_draft_barred, .int z_draft_houses, .int z_draft_law, .int z_draft_pride, .int z_draft_memory])]) (w1 := [(q0, oB 2 [.ref q_bytes, .ref q_draft, .ref q_numbers, .int z_length, .int z_at, .int z_place, .int z_token, .int z_number, .int r_8.2.1, .int r_8.2.2.1, .int r_8.2.2.2]), (q_draft, oB 3 [.ref q_draft_weights, .ref q_draft_eats, .ref q_draft_barred, .int z_draft_houses, .int z_draft_law, .int z_draft_pride, .int z_draft_memory])]) (wr := [(q_draft_weights, oB 4 [.ref q_draft_weights_cells]), (q_draft_weights_cells, aI cy 24 z_draft_weights_cells), (q_draft_eats, aI cy 6 z_draft_eats), (q_draft_barred, aI cy 6 z_draft_barred), (q_numbers, aI cy 5 z_numbers)]) (w2 := [(q0, oB 2 [.ref q_bytes, .ref q_draft, .ref q_numbers, .int z_length, .int z_at, .int z_place, .int z_token, .int z_number, .int r_8.2.1, .int r_8.2.2.1, .int r_8.2.2.2]), (q_draft, oB 3 [.ref q_draft_weights, .ref q_draft_eats, .ref q_draft_barred, .int z_draft_houses, .int z_draft_law, .int z_draft_pride, .int z_draft_memory]), (q_draft_weights, oB 4 [.ref q_draft_weights_cells]), (q_draft_weights_cells, aI cy 24 z_draft_weights_cells), (q_draft_eats, aI cy 6 z_draft_eats), (q_draft_barred, aI cy 6 z_draft_barred), (q_numbers, aI cy 5 z_numbers)]) (va_runV (As := []) (rest := []) ⟨hx, hb, hml, hown, hts⟩ (ktX2_beginItem l D cy q0 q_bytes q_draft q_numbers q_draft_weights q_draft_eats q_draft_barred z_length z_at z_place z_token z_number z_item z_taken z_once z_draft_houses z_draft_law z_draft_pride z_draft_memory r_8 hr_8 _) (cwV 0 hts gX2_canStand_X2_beginItem rfl rfl rfl (by decide +kernel) ⟨Nat.le_of_ble_eq_true rfl, Nat.le_of_ble_eq_true rfl⟩) (pre_V (wc := [(q0, oB 2 [.ref q_bytes, .ref q_draft, .ref q_numbers, .int z_length, .int z_at, .int z_place, .int z_token, .int z_number, .int z_item, .int z_taken, .int z_once]), (q_draft, oB 3 [.ref q_draft_weights, .ref q_draft_eats, .ref q_draft_barred, .int z_draft_houses, .int z_draft_law, .int z_draft_pride, .int z_draft_memory])]) (ci := 2) hcx hsx hS hA hP hD [0, 1] rfl (by decide) rfl rfl) rfl rfl hl.1 rfl (lv_room (Nat.le_of_ble_eq_true rfl)) dX2_canStand_8 ⟨Nat.zero_le _, Nat.zero_le _⟩) hP hD hS hA [0, 1] [2, 3, 4, 5, 6] [5, 6, 0, 1, 2, 3, 4] rfl rfl (by decide) (by decide) (by decide) rfl (fun H locs hP hD hS => ?_)
    obtain ⟨hg_11, hf⟩ := gd_some hf
    exact hret' _ _ _ _ _ _ _ _ _ _ _ _ _ _ _ _ dX2_canStand_11 hg_11 hf hP hD hS

def X2_read_J85 (z_at_85 : Int32) (z_place_85 : Int32) (z_token_85 : Int32) (z_number_85 : Int32) (z_item_85 : Int32) (z_taken_85 : Int32) (z_once_85 : Int32) (z_draft_houses_85 : Int32) (z_draft_law_85 : Int32) (z_draft_pride_85 : Int32) (z_draft_memory_85 : Int32) (z_draft_weights_cells_85 : Nat → Int32) (z_draft_eats_85 : Nat → Int32) (z_draft_barred_85 : Nat → Int32) (z_numbers_85 : Nat → Int32) : Option (Int32 × Int32 × Int32 × Int32 × Int32 × Int32 × Int32 × Int32 × Int32 × Int32 × Int32 × Int32 × (Nat → Int32) × (Nat → Int32) × (Nat → Int32) × (Nat → Int32)) := some ((-10 : Int32) - z_place_85, z_at_85, z_place_85, z_token_85, z_number_85, z_item_85, z_taken_85, z_once_85, z_draft_houses_85, z_draft_law_85, z_draft_pride_85, z_draft_memory_85, z_draft_weights_cells_85, z_draft_eats_85, z_draft_barred_85, z_numbers_85)
def X2_read_J60 (z_at_60 : Int32) (z_place_60 : Int32) (z_token_60 : Int32) (z_number_60 : Int32) (z_item_60 : Int32) (z_taken_60 : Int32) (z_once_60 : Int32) (z_draft_houses_60 : Int32) (z_draft_law_60 : Int32) (z_draft_pride_60 : Int32) (z_draft_memory_60 : Int32) (z_draft_weights_cells_60 : Nat → Int32) (z_draft_eats_60 : Nat → Int32) (z_draft_barred_60 : Nat → Int32) (z_numbers_60 : Nat → Int32) : Option (Int32 × Int32 × Int32 × Int32 × Int32 × Int32 × Int32 × Int32 × Int32 × Int32 × Int32 × Int32 × (Nat → Int32) × (Nat → Int32) × (Nat → Int32) × (Nat → Int32)) := some ((-10 : Int32) - z_place_60, z_at_60, z_place_60, z_token_60, z_number_60, z_item_60, z_taken_60, z_once_60, z_draft_houses_60, z_draft_law_60, z_draft_pride_60, z_draft_memory_60, z_draft_weights_cells_60, z_draft_eats_60, z_draft_barred_60, z_numbers_60)
def X2_read_J79 (x2_26 : Int32) (self_26 : Int32 → Int32 → Int32 → Int32 → Int32 → Int32 → Int32 → Int32 → Int32 → Int32 → Int32 → Int32 → Int32 → (Nat → Int32) → (Nat → Int32) → (Nat → Int32) → (Nat → Int32) → Option (Int32 × Int32 × Int32 × Int32 × Int32 × Int32 × Int32 × Int32 × Int32 × Int32 × Int32 × Int32 × (Nat → Int32) × (Nat → Int32) × (Nat → Int32) × (Nat → Int32))) (r_34 : Int32 × Int32 × Int32 × Int32) (r_54 : Int32 × Int32 × Int32 × Int32 × Int32 × Int32 × Int32 × Int32 × (Nat → Int32) × (Nat → Int32) × (Nat → Int32) × (Nat → Int32)) (x1_79 : Int32) : Option (Int32 × Int32 × Int32 × Int32 × Int32 × Int32 × Int32 × Int32 × Int32 × Int32 × Int32 × Int32 × (Nat → Int32) × (Nat → Int32) × (Nat → Int32) × (Nat → Int32)) := lets (x2_26 + (1 : Int32)) (fun x2_79 => self_26 x1_79 x2_79 r_34.1 r_34.2.1 r_34.2.2.1 r_34.2.2.2 r_54.2.1 r_54.2.2.1 r_54.2.2.2.1 r_54.2.2.2.2.1 r_54.2.2.2.2.2.1 r_54.2.2.2.2.2.2.1 r_54.2.2.2.2.2.2.2.1 r_54.2.2.2.2.2.2.2.2.1 r_54.2.2.2.2.2.2.2.2.2.1 r_54.2.2.2.2.2.2.2.2.2.2.1 r_54.2.2.2.2.2.2.2.2.2.2.2)
def X2_read_J53 (x1_26 : Int32) (x2_26 : Int32) (z_item_26 : Int32) (z_taken_26 : Int32) (z_once_26 : Int32) (z_draft_houses_26 : Int32) (z_draft_law_26 : Int32) (z_draft_pride_26 : Int32) (z_draft_memory_26 : Int32) (z_draft_weights_cells_26 : Nat → Int32) (z_draft_eats_26 : Nat → Int32) (z_draft_barred_26 : Nat → Int32) (z_numbers_26 : Nat → Int32) (self_26 : Int32 → Int32 → Int32 → Int32 → Int32 → Int32 → Int32 → Int32 → Int32 → Int32 → Int32 → Int32 → Int32 → (Nat → Int32) → (Nat → Int32) → (Nat → Int32) → (Nat → Int32) → Option (Int32 × Int32 × Int32 × Int32 × Int32 × Int32 × Int32 × Int32 × Int32 × Int32 × Int32 × Int32 × (Nat → Int32) × (Nat → Int32) × (Nat → Int32) × (Nat → Int32))) (r_34 : Int32 × Int32 × Int32 × Int32) : Option (Int32 × Int32 × Int32 × Int32 × Int32 × Int32 × Int32 × Int32 × Int32 × Int32 × Int32 × Int32 × (Nat → Int32) × (Nat → Int32) × (Nat → Int32) × (Nat → Int32)) := (fX2_canStand r_34.2.2.1 r_34.2.2.2 z_item_26 z_taken_26 z_once_26 z_draft_houses_26 z_draft_law_26 z_draft_pride_26 z_draft_memory_26 z_draft_weights_cells_26 z_draft_eats_26 z_draft_barred_26 z_numbers_26).bind (fun r_54 => if r_54.1 = 0 then (X2_read_J60 r_34.1 r_34.2.1 r_34.2.2.1 r_34.2.2.2 r_54.2.1 r_54.2.2.1 r_54.2.2.2.1 r_54.2.2.2.2.1 r_54.2.2.2.2.2.1 r_54.2.2.2.2.2.2.1 r_54.2.2.2.2.2.2.2.1 r_54.2.2.2.2.2.2.2.2.1 r_54.2.2.2.2.2.2.2.2.2.1 r_54.2.2.2.2.2.2.2.2.2.2.1 r_54.2.2.2.2.2.2.2.2.2.2.2) else (if r_34.2.2.1 = (3 : Int32) then (lets (x1_26 + (1 : Int32)) (fun x1_76 => X2_read_J79 x2_26 self_26 r_34 r_54 x1_76)) else (X2_read_J79 x2_26 self_26 r_34 r_54 x1_26)))
def X2_read_S26 (z_length : Int32) (z_bytes : Nat → Int32) (self_26 : Int32 → Int32 → Int32 → Int32 → Int32 → Int32 → Int32 → Int32 → Int32 → Int32 → Int32 → Int32 → Int32 → (Nat → Int32) → (Nat → Int32) → (Nat → Int32) → (Nat → Int32) → Option (Int32 × Int32 × Int32 × Int32 × Int32 × Int32 × Int32 × Int32 × Int32 × Int32 × Int32 × Int32 × (Nat → Int32) × (Nat → Int32) × (Nat → Int32) × (Nat → Int32))) (x1_26 : Int32) (x2_26 : Int32) (z_at_26 : Int32) (z_place_26 : Int32) (z_token_26 : Int32) (z_number_26 : Int32) (z_item_26 : Int32) (z_taken_26 : Int32) (z_once_26 : Int32) (z_draft_houses_26 : Int32) (z_draft_law_26 : Int32) (z_draft_pride_26 : Int32) (z_draft_memory_26 : Int32) (z_draft_weights_cells_26 : Nat → Int32) (z_draft_eats_26 : Nat → Int32) (z_draft_barred_26 : Nat → Int32) (z_numbers_26 : Nat → Int32) : Option (Int32 × Int32 × Int32 × Int32 × Int32 × Int32 × Int32 × Int32 × Int32 × Int32 × Int32 × Int32 × (Nat → Int32) × (Nat → Int32) × (Nat → Int32) × (Nat → Int32)) := if (300 : Int32) < x2_26 then (X2_read_J85 z_at_26 z_place_26 z_token_26 z_number_26 z_item_26 z_taken_26 z_once_26 z_draft_houses_26 z_draft_law_26 z_draft_pride_26 z_draft_memory_26 z_draft_weights_cells_26 z_draft_eats_26 z_draft_barred_26 z_numbers_26) else ((fX2_next z_length z_at_26 z_number_26 z_bytes).bind (fun r_34 => if r_34.2.2.1 = 0 then (if z_item_26 = 0 then (some (x1_26, r_34.1, r_34.2.1, r_34.2.2.1, r_34.2.2.2, z_item_26, z_taken_26, z_once_26, z_draft_houses_26, z_draft_law_26, z_draft_pride_26, z_draft_memory_26, z_draft_weights_cells_26, z_draft_eats_26, z_draft_barred_26, z_numbers_26)) else (X2_read_J53 x1_26 x2_26 z_item_26 z_taken_26 z_once_26 z_draft_houses_26 z_draft_law_26 z_draft_pride_26 z_draft_memory_26 z_draft_weights_cells_26 z_draft_eats_26 z_draft_barred_26 z_numbers_26 self_26 r_34)) else (X2_read_J53 x1_26 x2_26 z_item_26 z_taken_26 z_once_26 z_draft_houses_26 z_draft_law_26 z_draft_pride_26 z_draft_memory_26 z_draft_weights_cells_26 z_draft_eats_26 z_draft_barred_26 z_numbers_26 self_26 r_34)))
def fX2_read (z_length : Int32) (z_place : Int32) (z_token : Int32) (z_number : Int32) (z_taken : Int32) (z_bytes : Nat → Int32) (z_draft_weights_cells : Nat → Int32) (z_draft_eats : Nat → Int32) (z_draft_barred : Nat → Int32) (z_numbers : Nat → Int32) : Option (Int32 × Int32 × Int32 × Int32 × Int32 × Int32 × Int32 × Int32 × Int32 × Int32 × Int32 × Int32 × (Nat → Int32) × (Nat → Int32) × (Nat → Int32) × (Nat → Int32)) := (fX3_empty z_draft_weights_cells z_draft_eats z_draft_barred).bind (fun r_4 => it17 (X2_read_S26 z_length z_bytes) 100000 (0 : Int32) (0 : Int32) (0 : Int32) z_place z_token z_number (0 : Int32) z_taken (0 : Int32) r_4.1 r_4.2.1 r_4.2.2.1 r_4.2.2.2.1 r_4.2.2.2.2.1 r_4.2.2.2.2.2.1 r_4.2.2.2.2.2.2 z_numbers)
abbrev rmX2_read : Room := { frames := 7, cells := 0, slots := 0, locals := 203 }
set_option maxHeartbeats 4000000 in
set_option maxRecDepth 100000 in
theorem ktX2_read (l : Launch) (D : va_G) (cy : Nat → ClassId) (q0 : Nat) (q_bytes : Nat) (q_draft : Nat) (q_numbers : Nat) (q_draft_weights : Nat) (q_draft_eats : Nat) (q_draft_barred : Nat) (q_draft_weights_cells : Nat) (z_length : Int32) (z_at : Int32) (z_place : Int32) (z_token : Int32) (z_number : Int32) (z_item : Int32) (z_taken : Int32) (z_once : Int32) (z_bytes : Nat → Int32) (z_draft_houses : Int32) (z_draft_law : Int32) (z_draft_pride : Int32) (z_draft_memory : Int32) (z_draft_weights_cells : Nat → Int32) (z_draft_eats : Nat → Int32) (z_draft_barred : Nat → Int32) (z_numbers : Nat → Int32) (r : Int32 × Int32 × Int32 × Int32 × Int32 × Int32 × Int32 × Int32 × Int32 × Int32 × Int32 × Int32 × (Nat → Int32) × (Nat → Int32) × (Nat → Int32) × (Nat → Int32)) (hf : fX2_read z_length z_place z_token z_number z_taken z_bytes z_draft_weights_cells z_draft_eats z_draft_barred z_numbers = some r) : CtI l yX2_read wsX2_read rmX2_read D cy [.ref q0] [(q0, oB 2 [.ref q_bytes, .ref q_draft, .ref q_numbers, .int z_length, .int z_at, .int z_place, .int z_token, .int z_number, .int z_item, .int z_taken, .int z_once]), (q_bytes, aB cy 300 z_bytes), (q_draft, oB 3 [.ref q_draft_weights, .ref q_draft_eats, .ref q_draft_barred, .int z_draft_houses, .int z_draft_law, .int z_draft_pride, .int z_draft_memory]), (q_draft_weights, oB 4 [.ref q_draft_weights_cells]), (q_draft_weights_cells, aI cy 24 z_draft_weights_cells), (q_draft_eats, aI cy 6 z_draft_eats), (q_draft_barred, aI cy 6 z_draft_barred), (q_numbers, aI cy 5 z_numbers)] [(q0, oB 2 [.ref q_bytes, .ref q_draft, .ref q_numbers, .int z_length, .int r.2.1, .int r.2.2.1, .int r.2.2.2.1, .int r.2.2.2.2.1, .int r.2.2.2.2.2.1, .int r.2.2.2.2.2.2.1, .int r.2.2.2.2.2.2.2.1]), (q_bytes, aB cy 300 z_bytes), (q_draft, oB 3 [.ref q_draft_weights, .ref q_draft_eats, .ref q_draft_barred, .int r.2.2.2.2.2.2.2.2.1, .int r.2.2.2.2.2.2.2.2.2.1, .int r.2.2.2.2.2.2.2.2.2.2.1, .int r.2.2.2.2.2.2.2.2.2.2.2.1]), (q_draft_weights, oB 4 [.ref q_draft_weights_cells]), (q_draft_weights_cells, aI cy 24 r.2.2.2.2.2.2.2.2.2.2.2.2.1), (q_draft_eats, aI cy 6 r.2.2.2.2.2.2.2.2.2.2.2.2.2.1), (q_draft_barred, aI cy 6 r.2.2.2.2.2.2.2.2.2.2.2.2.2.2.1), (q_numbers, aI cy 5 r.2.2.2.2.2.2.2.2.2.2.2.2.2.2.2)] r.1 := by
  refine Ct_ofI (cc := cX2_read) (nL := 3) (by decide) rfl (Nat.le_of_ble_eq_true rfl) ?_
  intro p e s m args below meth c A Q hM hret hP hD hS ls hl
  obtain ⟨hx, hb, hml, hown, hts, hcx, hA, hsx⟩ := hM
  have hown : s.vm.findClass RX2 = some m.cls := hown
  have hK := hcx.1
  have hN := hcx.2
  have kw0 := hts (.fieldLink RX2 18 "EachBrings$Text" "draft" "LEachBrings$Village;") (List.mem_of_getElem? (i := 1) rfl)
  have kc1 : ∀ w ∈ wsX20, w ∈ wsX2_read := fun _ h => List.mem_cons_of_mem _ (List.mem_append_left _ (List.mem_append_left _ (List.mem_append_right _ h)))
  have kw2 := hts (.initialized RX3) (List.mem_of_getElem? (i := 8) rfl)
  have kw3 := hts (.instanceMethod yX3_empty) (List.mem_of_getElem? (i := 7) rfl)
  have kw4 := hts (.selects RX3 yX3_empty yX3_empty) (List.mem_of_getElem? (i := 9) rfl)
  have kw5 := hts (.fieldLink RX2 30 "EachBrings$Text" "at" "I") (List.mem_of_getElem? (i := 2) rfl)
  have kw6 := hts (.fieldLink RX2 42 "EachBrings$Text" "item" "I") (List.mem_of_getElem? (i := 3) rfl)
  have kw7 := hts (.fieldLink RX2 48 "EachBrings$Text" "once" "I") (List.mem_of_getElem? (i := 4) rfl)
  have kw8 := hts (.fieldLink RX2 33 "EachBrings$Text" "place" "I") (List.mem_of_getElem? (i := 6) rfl)
  have kw9 := hts (.fieldLink RX2 36 "EachBrings$Text" "token" "I") (List.mem_of_getElem? (i := 5) rfl)
  have hl : lv_has ls 3 [(0, .ref q0)] := hl
  have hret' : ∀ (pc : Nat) (ls : Array Slot) (H : Heap) (locs : List Loc) (v : Int32) (w0 : Int32) (w1 : Int32) (w2 : Int32) (w3 : Int32) (w4 : Int32) (w5 : Int32) (w6 : Int32) (w7 : Int32) (w8 : Int32) (w9 : Int32) (w10 : Int32) (w11 : Nat → Int32) (w12 : Nat → Int32) (w13 : Nat → Int32) (w14 : Nat → Int32), decode cX2_read pc = .ok (.ireturn, 1) → some (v, w0, w1, w2, w3, w4, w5, w6, w7, w8, w9, w10, w11, w12, w13, w14) = some r → va_P D vwCl [(q0, oB 2 [.ref q_bytes, .ref q_draft, .ref q_numbers, .int z_length, .int w0, .int w1, .int w2, .int w3, .int w4, .int w5, .int w6]), (q_bytes, aB cy 300 z_bytes), (q_draft, oB 3 [.ref q_draft_weights, .ref q_draft_eats, .ref q_draft_barred, .int w7, .int w8, .int w9, .int w10]), (q_draft_weights, oB 4 [.ref q_draft_weights_cells]), (q_draft_weights_cells, aI cy 24 w11), (q_draft_eats, aI cy 6 w12), (q_draft_barred, aI cy 6 w13), (q_numbers, aI cy 5 w14)] H → va_D A [(q0, oB 2 [.ref q_bytes, .ref q_draft, .ref q_numbers, .int z_length, .int w0, .int w1, .int w2, .int w3, .int w4, .int w5, .int w6]), (q_bytes, aB cy 300 z_bytes), (q_draft, oB 3 [.ref q_draft_weights, .ref q_draft_eats, .ref q_draft_barred, .int w7, .int w8, .int w9, .int w10]), (q_draft_weights, oB 4 [.ref q_draft_weights_cells]), (q_draft_weights_cells, aI cy 24 w11), (q_draft_eats, aI cy 6 w12), (q_draft_barred, aI cy 6 w13), (q_numbers, aI cy 5 w14)] → va_S A s.heap H locs → W p l e rmX2_read s m args below meth c H locs 0 0 Q (F0 m pc ls [.int v]) := by
    intro pc ls H locs v w0 w1 w2 w3 w4 w5 w6 w7 w8 w9 w10 w11 w12 w13 w14 hd he hP hD hS
    cases he
    exact hret _ _ _ _ _ hd rfl hP hD hS
  unfold fX2_read at hf
  refine lv_aload_n hx hb dX2_read_0 rfl (lv_at hl 0 rfl) ?_
  refine va_get (D := D) (ci := 2) (v := .ref q_draft) (C := RX2) (T := TX2) (N := 11) hx hb hts kc1 hown hK hP 0 rfl rfl 1 (by decide) kw0 (fun _ h9 => h9) rfl dX2_read_1 ?_
  obtain ⟨r_4, hr_4, hf⟩ := bd_some hf
  refine cl_v (wc := [(q_draft, oB 3 [.ref q_draft_weights, .ref q_draft_eats, .ref q_draft_barred, .int z_draft_houses, .int z_draft_law, .int z_draft_pride, .int z_draft_memory]), (q_draft_weights, oB 4 [.ref q_draft_weights_cells]), (q_draft_weights_cells, aI cy 24 z_draft_weights_cells), (q_draft_eats, aI cy 6 z_draft_eats), (q_draft_barred, aI cy 6 z_draft_barred)]) (w1 := [(q_draft, oB 3 [.ref q_draft_weights, .ref q_draft_eats, .ref q_draft_barred, .int r_4.1, .int r_4.2.1, .int r_4.2.2.1, .int r_4.2.2.2.1]), (q_draft_weights, oB 4 [.ref q_draft_weights_cells]), (q_draft_weights_cells, aI cy 24 r_4.2.2.2.2.1), (q_draft_eats, aI cy 6 r_4.2.2.2.2.2.1), (q_draft_barred, aI cy 6 r_4.2.2.2.2.2.2)]) (wr := [(q0, oB 2 [.ref q_bytes, .ref q_draft, .ref q_numbers, .int z_length, .int z_at, .int z_place, .int z_token, .int z_number, .int z_item, .int z_taken, .int z_once]), (q_bytes, aB cy 300 z_bytes), (q_numbers, aI cy 5 z_numbers)]) (w2 := [(q0, oB 2 [.ref q_bytes, .ref q_draft, .ref q_numbers, .int z_length, .int z_at, .int z_place, .int z_token, .int z_number, .int z_item, .int z_taken, .int z_once]), (q_bytes, aB cy 300 z_bytes), (q_draft, oB 3 [.ref q_draft_weights, .ref q_draft_eats, .ref q_draft_barred, .int r_4.1, .int r_4.2.1, .int r_4.2.2.1, .int r_4.2.2.2.1]), (q_draft_weights, oB 4 [.ref q_draft_weights_cells]), (q_draft_weights_cells, aI cy 24 r_4.2.2.2.2.1), (q_draft_eats, aI cy 6 r_4.2.2.2.2.2.1), (q_draft_barred, aI cy 6 r_4.2.2.2.2.2.2), (q_numbers, aI cy 5 z_numbers)]) (va_runVN (C := RX3) (host := "EachBrings") (As := []) (rest := []) ⟨hx, hb, hml, hown, hts⟩ (ktX3_empty l D cy q_draft q_draft_weights q_draft_eats q_draft_barred q_draft_weights_cells z_draft_houses z_draft_law z_draft_pride z_draft_memory z_draft_weights_cells z_draft_eats z_draft_barred r_4 hr_4 _) ⟨va_cnB 0 hts gX2_read_X3_empty_n51 rfl rfl rfl (hN.at 34 rfl) kw2 (by decide +kernel) ⟨Nat.le_of_ble_eq_true rfl, Nat.le_of_ble_eq_true rfl⟩, kw3, kw4⟩ (pre_V (wc := [(q_draft, oB 3 [.ref q_draft_weights, .ref q_draft_eats, .ref q_draft_barred, .int z_draft_houses, .int z_draft_law, .int z_draft_pride, .int z_draft_memory]), (q_draft_weights, oB 4 [.ref q_draft_weights_cells]), (q_draft_weights_cells, aI cy 24 z_draft_weights_cells), (q_draft_eats, aI cy 6 z_draft_eats), (q_draft_barred, aI cy 6 z_draft_barred)]) (ci := 3) hcx hsx hS hA hP hD [2, 3, 4, 5, 6] rfl (by decide) rfl rfl) rfl rfl hl.1 rfl (lv_room (Nat.le_of_ble_eq_true rfl)) dX2_read_4 ⟨Nat.zero_le _, Nat.zero_le _⟩) hP hD hS hA [2, 3, 4, 5, 6] [0, 1, 7] [0, 1, 3, 4, 5, 6, 7, 2] rfl rfl (by decide) (by decide) (by decide) rfl (fun H locs hP hD hS => ?_)
  refine lv_aload_n hx hb dX2_read_7 rfl (lv_at hl 0 rfl) ?_
  refine lv_iconst (v := 0) hx hb dX2_read_8 (by decide) ?_
  refine va_put (D := D) (ci := 2) (v := .int (0 : Int32)) (ty := .int) (C := RX2) (T := TX2) (N := 11) hx hb hts kc1 tyX2 tyX2_ok nmX2 hown hK hP hD hS 0 rfl rfl 4 (by decide) kw5 (fun _ h9 => h9) rfl pfI rfl rfl (Nat.le_of_ble_eq_true rfl) dX2_read_9 (fun H locs hP hD hS => ?_)
  have hP : va_P D vwCl [(q0, oB 2 [.ref q_bytes, .ref q_draft, .ref q_numbers, .int z_length, .int (0 : Int32), .int z_place, .int z_token, .int z_number, .int z_item, .int z_taken, .int z_once]), (q_bytes, aB cy 300 z_bytes), (q_draft, oB 3 [.ref q_draft_weights, .ref q_draft_eats, .ref q_draft_barred, .int r_4.1, .int r_4.2.1, .int r_4.2.2.1, .int r_4.2.2.2.1]), (q_draft_weights, oB 4 [.ref q_draft_weights_cells]), (q_draft_weights_cells, aI cy 24 r_4.2.2.2.2.1), (q_draft_eats, aI cy 6 r_4.2.2.2.2.2.1), (q_draft_barred, aI cy 6 r_4.2.2.2.2.2.2), (q_numbers, aI cy 5 z_numbers)] H := hP
  have hD : va_D A [(q0, oB 2 [.ref q_bytes, .ref q_draft, .ref q_numbers, .int z_length, .int (0 : Int32), .int z_place, .int z_token, .int z_number, .int z_item, .int z_taken, .int z_once]), (q_bytes, aB cy 300 z_bytes), (q_draft, oB 3 [.ref q_draft_weights, .ref q_draft_eats, .ref q_draft_barred, .int r_4.1, .int r_4.2.1, .int r_4.2.2.1, .int r_4.2.2.2.1]), (q_draft_weights, oB 4 [.ref q_draft_weights_cells]), (q_draft_weights_cells, aI cy 24 r_4.2.2.2.2.1), (q_draft_eats, aI cy 6 r_4.2.2.2.2.2.1), (q_draft_barred, aI cy 6 r_4.2.2.2.2.2.2), (q_numbers, aI cy 5 z_numbers)] := hD
  refine lv_aload_n hx hb dX2_read_12 rfl (lv_at hl 0 rfl) ?_
  refine lv_iconst (v := 0) hx hb dX2_read_13 (by decide) ?_
  refine va_put (D := D) (ci := 2) (v := .int (0 : Int32)) (ty := .int) (C := RX2) (T := TX2) (N := 11) hx hb hts kc1 tyX2 tyX2_ok nmX2 hown hK hP hD hS 0 rfl rfl 8 (by decide) kw6 (fun _ h9 => h9) rfl pfI rfl rfl (Nat.le_of_ble_eq_true rfl) dX2_read_14 (fun H locs hP hD hS => ?_)
  have hP : va_P D vwCl [(q0, oB 2 [.ref q_bytes, .ref q_draft, .ref q_numbers, .int z_length, .int (0 : Int32), .int z_place, .int z_token, .int z_number, .int (0 : Int32), .int z_taken, .int z_once]), (q_bytes, aB cy 300 z_bytes), (q_draft, oB 3 [.ref q_draft_weights, .ref q_draft_eats, .ref q_draft_barred, .int r_4.1, .int r_4.2.1, .int r_4.2.2.1, .int r_4.2.2.2.1]), (q_draft_weights, oB 4 [.ref q_draft_weights_cells]), (q_draft_weights_cells, aI cy 24 r_4.2.2.2.2.1), (q_draft_eats, aI cy 6 r_4.2.2.2.2.2.1), (q_draft_barred, aI cy 6 r_4.2.2.2.2.2.2), (q_numbers, aI cy 5 z_numbers)] H := hP
  have hD : va_D A [(q0, oB 2 [.ref q_bytes, .ref q_draft, .ref q_numbers, .int z_length, .int (0 : Int32), .int z_place, .int z_token, .int z_number, .int (0 : Int32), .int z_taken, .int z_once]), (q_bytes, aB cy 300 z_bytes), (q_draft, oB 3 [.ref q_draft_weights, .ref q_draft_eats, .ref q_draft_barred, .int r_4.1, .int r_4.2.1, .int r_4.2.2.1, .int r_4.2.2.2.1]), (q_draft_weights, oB 4 [.ref q_draft_weights_cells]), (q_draft_weights_cells, aI cy 24 r_4.2.2.2.2.1), (q_draft_eats, aI cy 6 r_4.2.2.2.2.2.1), (q_draft_barred, aI cy 6 r_4.2.2.2.2.2.2), (q_numbers, aI cy 5 z_numbers)] := hD
  refine lv_aload_n hx hb dX2_read_17 rfl (lv_at hl 0 rfl) ?_
  refine lv_iconst (v := 0) hx hb dX2_read_18 (by decide) ?_
  refine va_put (D := D) (ci := 2) (v := .int (0 : Int32)) (ty := .int) (C := RX2) (T := TX2) (N := 11) hx hb hts kc1 tyX2 tyX2_ok nmX2 hown hK hP hD hS 0 rfl rfl 10 (by decide) kw7 (fun _ h9 => h9) rfl pfI rfl rfl (Nat.le_of_ble_eq_true rfl) dX2_read_19 (fun H locs hP hD hS => ?_)
  have hP : va_P D vwCl [(q0, oB 2 [.ref q_bytes, .ref q_draft, .ref q_numbers, .int z_length, .int (0 : Int32), .int z_place, .int z_token, .int z_number, .int (0 : Int32), .int z_taken, .int (0 : Int32)]), (q_bytes, aB cy 300 z_bytes), (q_draft, oB 3 [.ref q_draft_weights, .ref q_draft_eats, .ref q_draft_barred, .int r_4.1, .int r_4.2.1, .int r_4.2.2.1, .int r_4.2.2.2.1]), (q_draft_weights, oB 4 [.ref q_draft_weights_cells]), (q_draft_weights_cells, aI cy 24 r_4.2.2.2.2.1), (q_draft_eats, aI cy 6 r_4.2.2.2.2.2.1), (q_draft_barred, aI cy 6 r_4.2.2.2.2.2.2), (q_numbers, aI cy 5 z_numbers)] H := hP
  have hD : va_D A [(q0, oB 2 [.ref q_bytes, .ref q_draft, .ref q_numbers, .int z_length, .int (0 : Int32), .int z_place, .int z_token, .int z_number, .int (0 : Int32), .int z_taken, .int (0 : Int32)]), (q_bytes, aB cy 300 z_bytes), (q_draft, oB 3 [.ref q_draft_weights, .ref q_draft_eats, .ref q_draft_barred, .int r_4.1, .int r_4.2.1, .int r_4.2.2.1, .int r_4.2.2.2.1]), (q_draft_weights, oB 4 [.ref q_draft_weights_cells]), (q_draft_weights_cells, aI cy 24 r_4.2.2.2.2.1), (q_draft_eats, aI cy 6 r_4.2.2.2.2.2.1), (q_draft_barred, aI cy 6 r_4.2.2.2.2.2.2), (q_numbers, aI cy 5 z_numbers)] := hD
  refine lv_iconst (v := 0) hx hb dX2_read_22 (by decide) ?_
  refine lv_istore_n (lv' := [(1, .int (0 : Int32)), (0, .ref q0)]) hx hb dX2_read_23 rfl hl (by decide) rfl (fun ls hl => ?_)
  refine lv_iconst (v := 0) hx hb dX2_read_24 (by decide) ?_
  refine lv_istore_n (lv' := [(2, .int (0 : Int32)), (1, .int (0 : Int32)), (0, .ref q0)]) hx hb dX2_read_25 rfl hl (by decide) rfl (fun ls hl => ?_)
  have hJ85 : ∀ (z_at_85 : Int32) (z_place_85 : Int32) (z_token_85 : Int32) (z_number_85 : Int32) (z_item_85 : Int32) (z_taken_85 : Int32) (z_once_85 : Int32) (z_draft_houses_85 : Int32) (z_draft_law_85 : Int32) (z_draft_pride_85 : Int32) (z_draft_memory_85 : Int32) (z_draft_weights_cells_85 : Nat → Int32) (z_draft_eats_85 : Nat → Int32) (z_draft_barred_85 : Nat → Int32) (z_numbers_85 : Nat → Int32) (H : Heap) (locs : List Loc) (ls : Array Slot), X2_read_J85 z_at_85 z_place_85 z_token_85 z_number_85 z_item_85 z_taken_85 z_once_85 z_draft_houses_85 z_draft_law_85 z_draft_pride_85 z_draft_memory_85 z_draft_weights_cells_85 z_draft_eats_85 z_draft_barred_85 z_numbers_85 = some r → va_P D vwCl [(q0, oB 2 [.ref q_bytes, .ref q_draft, .ref q_numbers, .int z_length, .int z_at_85, .int z_place_85, .int z_token_85, .int z_number_85, .int z_item_85, .int z_taken_85, .int z_once_85]), (q_bytes, aB cy 300 z_bytes), (q_draft, oB 3 [.ref q_draft_weights, .ref q_draft_eats, .ref q_draft_barred, .int z_draft_houses_85, .int z_draft_law_85, .int z_draft_pride_85, .int z_draft_memory_85]), (q_draft_weights, oB 4 [.ref q_draft_weights_cells]), (q_draft_weights_cells, aI cy 24 z_draft_weights_cells_85), (q_draft_eats, aI cy 6 z_draft_eats_85), (q_draft_barred, aI cy 6 z_draft_barred_85), (q_numbers, aI cy 5 z_numbers_85)] H → va_D A [(q0, oB 2 [.ref q_bytes, .ref q_draft, .ref q_numbers, .int z_length, .int z_at_85, .int z_place_85, .int z_token_85, .int z_number_85, .int z_item_85, .int z_taken_85, .int z_once_85]), (q_bytes, aB cy 300 z_bytes), (q_draft, oB 3 [.ref q_draft_weights, .ref q_draft_eats, .ref q_draft_barred, .int z_draft_houses_85, .int z_draft_law_85, .int z_draft_pride_85, .int z_draft_memory_85]), (q_draft_weights, oB 4 [.ref q_draft_weights_cells]), (q_draft_weights_cells, aI cy 24 z_draft_weights_cells_85), (q_draft_eats, aI cy 6 z_draft_eats_85), (q_draft_barred, aI cy 6 z_draft_barred_85), (q_numbers, aI cy 5 z_numbers_85)] → va_S A s.heap H locs → lv_has ls 3 [(0, .ref q0)] → W p l e rmX2_read s m args below meth c H locs 0 0 Q (F0 m 85 ls []) := by
    intro z_at_85 z_place_85 z_token_85 z_number_85 z_item_85 z_taken_85 z_once_85 z_draft_houses_85 z_draft_law_85 z_draft_pride_85 z_draft_memory_85 z_draft_weights_cells_85 z_draft_eats_85 z_draft_barred_85 z_numbers_85 H locs ls hf hP hD hS hl
    unfold X2_read_J85 at hf
    refine lv_bipush (v := -10) hx hb dX2_read_85 (by decide) ?_
    refine lv_aload_n hx hb dX2_read_87 rfl (lv_at hl 0 rfl) ?_
    refine va_get (D := D) (ci := 2) (v := .int z_place_85) (C := RX2) (T := TX2) (N := 11) hx hb hts kc1 hown hK hP 0 rfl rfl 5 (by decide) kw8 (fun _ h9 => h9) rfl dX2_read_88 ?_
    refine lv_isub hx hb dX2_read_91 ?_
    exact hret' _ _ _ _ _ _ _ _ _ _ _ _ _ _ _ _ _ _ _ _ dX2_read_92 hf hP hD hS
  have hJ60 : ∀ (z_at_60 : Int32) (z_place_60 : Int32) (z_token_60 : Int32) (z_number_60 : Int32) (z_item_60 : Int32) (z_taken_60 : Int32) (z_once_60 : Int32) (z_draft_houses_60 : Int32) (z_draft_law_60 : Int32) (z_draft_pride_60 : Int32) (z_draft_memory_60 : Int32) (z_draft_weights_cells_60 : Nat → Int32) (z_draft_eats_60 : Nat → Int32) (z_draft_barred_60 : Nat → Int32) (z_numbers_60 : Nat → Int32) (H : Heap) (locs : List Loc) (ls : Array Slot), X2_read_J60 z_at_60 z_place_60 z_token_60 z_number_60 z_item_60 z_taken_60 z_once_60 z_draft_houses_60 z_draft_law_60 z_draft_pride_60 z_draft_memory_60 z_draft_weights_cells_60 z_draft_eats_60 z_draft_barred_60 z_numbers_60 = some r → va_P D vwCl [(q0, oB 2 [.ref q_bytes, .ref q_draft, .ref q_numbers, .int z_length, .int z_at_60, .int z_place_60, .int z_token_60, .int z_number_60, .int z_item_60, .int z_taken_60, .int z_once_60]), (q_bytes, aB cy 300 z_bytes), (q_draft, oB 3 [.ref q_draft_weights, .ref q_draft_eats, .ref q_draft_barred, .int z_draft_houses_60, .int z_draft_law_60, .int z_draft_pride_60, .int z_draft_memory_60]), (q_draft_weights, oB 4 [.ref q_draft_weights_cells]), (q_draft_weights_cells, aI cy 24 z_draft_weights_cells_60), (q_draft_eats, aI cy 6 z_draft_eats_60), (q_draft_barred, aI cy 6 z_draft_barred_60), (q_numbers, aI cy 5 z_numbers_60)] H → va_D A [(q0, oB 2 [.ref q_bytes, .ref q_draft, .ref q_numbers, .int z_length, .int z_at_60, .int z_place_60, .int z_token_60, .int z_number_60, .int z_item_60, .int z_taken_60, .int z_once_60]), (q_bytes, aB cy 300 z_bytes), (q_draft, oB 3 [.ref q_draft_weights, .ref q_draft_eats, .ref q_draft_barred, .int z_draft_houses_60, .int z_draft_law_60, .int z_draft_pride_60, .int z_draft_memory_60]), (q_draft_weights, oB 4 [.ref q_draft_weights_cells]), (q_draft_weights_cells, aI cy 24 z_draft_weights_cells_60), (q_draft_eats, aI cy 6 z_draft_eats_60), (q_draft_barred, aI cy 6 z_draft_barred_60), (q_numbers, aI cy 5 z_numbers_60)] → va_S A s.heap H locs → lv_has ls 3 [(0, .ref q0)] → W p l e rmX2_read s m args below meth c H locs 0 0 Q (F0 m 60 ls []) := by
    intro z_at_60 z_place_60 z_token_60 z_number_60 z_item_60 z_taken_60 z_once_60 z_draft_houses_60 z_draft_law_60 z_draft_pride_60 z_draft_memory_60 z_draft_weights_cells_60 z_draft_eats_60 z_draft_barred_60 z_numbers_60 H locs ls hf hP hD hS hl
    unfold X2_read_J60 at hf
    refine lv_bipush (v := -10) hx hb dX2_read_60 (by decide) ?_
    refine lv_aload_n hx hb dX2_read_62 rfl (lv_at hl 0 rfl) ?_
    refine va_get (D := D) (ci := 2) (v := .int z_place_60) (C := RX2) (T := TX2) (N := 11) hx hb hts kc1 hown hK hP 0 rfl rfl 5 (by decide) kw8 (fun _ h9 => h9) rfl dX2_read_63 ?_
    refine lv_isub hx hb dX2_read_66 ?_
    exact hret' _ _ _ _ _ _ _ _ _ _ _ _ _ _ _ _ _ _ _ _ dX2_read_67 hf hP hD hS
  have hL26 : ∀ (n : Nat) (x1_26 : Int32) (x2_26 : Int32) (z_at_26 : Int32) (z_place_26 : Int32) (z_token_26 : Int32) (z_number_26 : Int32) (z_item_26 : Int32) (z_taken_26 : Int32) (z_once_26 : Int32) (z_draft_houses_26 : Int32) (z_draft_law_26 : Int32) (z_draft_pride_26 : Int32) (z_draft_memory_26 : Int32) (z_draft_weights_cells_26 : Nat → Int32) (z_draft_eats_26 : Nat → Int32) (z_draft_barred_26 : Nat → Int32) (z_numbers_26 : Nat → Int32) (H : Heap) (locs : List Loc) (ls : Array Slot), it17 (X2_read_S26 z_length z_bytes) n x1_26 x2_26 z_at_26 z_place_26 z_token_26 z_number_26 z_item_26 z_taken_26 z_once_26 z_draft_houses_26 z_draft_law_26 z_draft_pride_26 z_draft_memory_26 z_draft_weights_cells_26 z_draft_eats_26 z_draft_barred_26 z_numbers_26 = some r → va_P D vwCl [(q0, oB 2 [.ref q_bytes, .ref q_draft, .ref q_numbers, .int z_length, .int z_at_26, .int z_place_26, .int z_token_26, .int z_number_26, .int z_item_26, .int z_taken_26, .int z_once_26]), (q_bytes, aB cy 300 z_bytes), (q_draft, oB 3 [.ref q_draft_weights, .ref q_draft_eats, .ref q_draft_barred, .int z_draft_houses_26, .int z_draft_law_26, .int z_draft_pride_26, .int z_draft_memory_26]), (q_draft_weights, oB 4 [.ref q_draft_weights_cells]), (q_draft_weights_cells, aI cy 24 z_draft_weights_cells_26), (q_draft_eats, aI cy 6 z_draft_eats_26), (q_draft_barred, aI cy 6 z_draft_barred_26), (q_numbers, aI cy 5 z_numbers_26)] H → va_D A [(q0, oB 2 [.ref q_bytes, .ref q_draft, .ref q_numbers, .int z_length, .int z_at_26, .int z_place_26, .int z_token_26, .int z_number_26, .int z_item_26, .int z_taken_26, .int z_once_26]), (q_bytes, aB cy 300 z_bytes), (q_draft, oB 3 [.ref q_draft_weights, .ref q_draft_eats, .ref q_draft_barred, .int z_draft_houses_26, .int z_draft_law_26, .int z_draft_pride_26, .int z_draft_memory_26]), (q_draft_weights, oB 4 [.ref q_draft_weights_cells]), (q_draft_weights_cells, aI cy 24 z_draft_weights_cells_26), (q_draft_eats, aI cy 6 z_draft_eats_26), (q_draft_barred, aI cy 6 z_draft_barred_26), (q_numbers, aI cy 5 z_numbers_26)] → va_S A s.heap H locs → lv_has ls 3 [(0, .ref q0), (1, .int x1_26), (2, .int x2_26)] → W p l e rmX2_read s m args below meth c H locs 0 0 Q (F0 m 26 ls []) := by
    intro n
    induction n with
    | zero => intro x1_26 x2_26 z_at_26 z_place_26 z_token_26 z_number_26 z_item_26 z_taken_26 z_once_26 z_draft_houses_26 z_draft_law_26 z_draft_pride_26 z_draft_memory_26 z_draft_weights_cells_26 z_draft_eats_26 z_draft_barred_26 z_numbers_26 H locs ls hf; exact absurd hf (by simp [it17])
    | succ n ih26 =>
      intro x1_26 x2_26 z_at_26 z_place_26 z_token_26 z_number_26 z_item_26 z_taken_26 z_once_26 z_draft_houses_26 z_draft_law_26 z_draft_pride_26 z_draft_memory_26 z_draft_weights_cells_26 z_draft_eats_26 z_draft_barred_26 z_numbers_26 H locs ls hf hP hD hS hl
      have hf : X2_read_S26 z_length z_bytes (it17 (X2_read_S26 z_length z_bytes) n) x1_26 x2_26 z_at_26 z_place_26 z_token_26 z_number_26 z_item_26 z_taken_26 z_once_26 z_draft_houses_26 z_draft_law_26 z_draft_pride_26 z_draft_memory_26 z_draft_weights_cells_26 z_draft_eats_26 z_draft_barred_26 z_numbers_26 = some r := hf
      generalize it17 (X2_read_S26 z_length z_bytes) n = self_26 at hf ih26
      unfold X2_read_S26 at hf
      refine lv_iload_n hx hb dX2_read_26 rfl (lv_at hl 2 rfl) ?_
      refine lv_sipush (v := 300) hx hb dX2_read_27 (by decide) ?_
      refine lv_icmp_gt (tgt := 85) hx hb dX2_read_30 (by decide) (fun hc_30 => ?_) (fun hc_30 => ?_)
      · have hf := it_t hf hc_30
        exact hJ85 z_at_26 z_place_26 z_token_26 z_number_26 z_item_26 z_taken_26 z_once_26 z_draft_houses_26 z_draft_law_26 z_draft_pride_26 z_draft_memory_26 z_draft_weights_cells_26 z_draft_eats_26 z_draft_barred_26 z_numbers_26 _ _ _ hf hP hD hS (lv_sub hl [0] rfl)
      · have hf := it_f hf hc_30
        refine lv_aload_n hx hb dX2_read_33 rfl (lv_at hl 0 rfl) ?_
        obtain ⟨r_34, hr_34, hf⟩ := bd_some hf
        refine cl_v (wc := [(q0, oB 2 [.ref q_bytes, .ref q_draft, .ref q_numbers, .int z_length, .int z_at_26, .int z_place_26, .int z_token_26, .int z_number_26, .int z_item_26, .int z_taken_26, .int z_once_26]), (q_bytes, aB cy 300 z_bytes)]) (w1 := [(q0, oB 2 [.ref q_bytes, .ref q_draft, .ref q_numbers, .int z_length, .int r_34.1, .int r_34.2.1, .int r_34.2.2.1, .int r_34.2.2.2, .int z_item_26, .int z_taken_26, .int z_once_26]), (q_bytes, aB cy 300 z_bytes)]) (wr := [(q_draft, oB 3 [.ref q_draft_weights, .ref q_draft_eats, .ref q_draft_barred, .int z_draft_houses_26, .int z_draft_law_26, .int z_draft_pride_26, .int z_draft_memory_26]), (q_draft_weights, oB 4 [.ref q_draft_weights_cells]), (q_draft_weights_cells, aI cy 24 z_draft_weights_cells_26), (q_draft_eats, aI cy 6 z_draft_eats_26), (q_draft_barred, aI cy 6 z_draft_barred_26), (q_numbers, aI cy 5 z_numbers_26)]) (w2 := [(q0, oB 2 [.ref q_bytes, .ref q_draft, .ref q_numbers, .int z_length, .int r_34.1, .int r_34.2.1, .int r_34.2.2.1, .int r_34.2.2.2, .int z_item_26, .int z_taken_26, .int z_once_26]), (q_bytes, aB cy 300 z_bytes), (q_draft, oB 3 [.ref q_draft_weights, .ref q_draft_eats, .ref q_draft_barred, .int z_draft_houses_26, .int z_draft_law_26, .int z_draft_pride_26, .int z_draft_memory_26]), (q_draft_weights, oB 4 [.ref q_draft_weights_cells]), (q_draft_weights_cells, aI cy 24 z_draft_weights_cells_26), (q_draft_eats, aI cy 6 z_draft_eats_26), (q_draft_barred, aI cy 6 z_draft_barred_26), (q_numbers, aI cy 5 z_numbers_26)]) (va_runV (As := []) (rest := []) ⟨hx, hb, hml, hown, hts⟩ (ktX2_next l D cy q0 q_bytes q_draft q_numbers z_length z_at_26 z_place_26 z_token_26 z_number_26 z_item_26 z_taken_26 z_once_26 z_bytes r_34 hr_34 _) (cwV 0 hts gX2_read_X2_next rfl rfl rfl (by decide +kernel) ⟨Nat.le_of_ble_eq_true rfl, Nat.le_of_ble_eq_true rfl⟩) (pre_V (wc := [(q0, oB 2 [.ref q_bytes, .ref q_draft, .ref q_numbers, .int z_length, .int z_at_26, .int z_place_26, .int z_token_26, .int z_number_26, .int z_item_26, .int z_taken_26, .int z_once_26]), (q_bytes, aB cy 300 z_bytes)]) (ci := 2) hcx hsx hS hA hP hD [0, 1] rfl (by decide) rfl rfl) rfl rfl hl.1 rfl (lv_room (Nat.le_of_ble_eq_true rfl)) dX2_read_34 ⟨Nat.zero_le _, Nat.zero_le _⟩) hP hD hS hA [0, 1] [2, 3, 4, 5, 6, 7] [6, 7, 0, 1, 2, 3, 4, 5] rfl rfl (by decide) (by decide) (by decide) rfl (fun H locs hP hD hS => ?_)
        refine lv_aload_n hx hb dX2_read_37 rfl (lv_at hl 0 rfl) ?_
        refine va_get (D := D) (ci := 2) (v := .int r_34.2.2.1) (C := RX2) (T := TX2) (N := 11) hx hb hts kc1 hown hK hP 0 rfl rfl 6 (by decide) kw9 (fun _ h9 => h9) rfl dX2_read_38 ?_
        have hJ53 : ∀ (H : Heap) (locs : List Loc) (ls : Array Slot), X2_read_J53 x1_26 x2_26 z_item_26 z_taken_26 z_once_26 z_draft_houses_26 z_draft_law_26 z_draft_pride_26 z_draft_memory_26 z_draft_weights_cells_26 z_draft_eats_26 z_draft_barred_26 z_numbers_26 self_26 r_34 = some r → va_P D vwCl [(q0, oB 2 [.ref q_bytes, .ref q_draft, .ref q_numbers, .int z_length, .int r_34.1, .int r_34.2.1, .int r_34.2.2.1, .int r_34.2.2.2, .int z_item_26, .int z_taken_26, .int z_once_26]), (q_bytes, aB cy 300 z_bytes), (q_draft, oB 3 [.ref q_draft_weights, .ref q_draft_eats, .ref q_draft_barred, .int z_draft_houses_26, .int z_draft_law_26, .int z_draft_pride_26, .int z_draft_memory_26]), (q_draft_weights, oB 4 [.ref q_draft_weights_cells]), (q_draft_weights_cells, aI cy 24 z_draft_weights_cells_26), (q_draft_eats, aI cy 6 z_draft_eats_26), (q_draft_barred, aI cy 6 z_draft_barred_26), (q_numbers, aI cy 5 z_numbers_26)] H → va_D A [(q0, oB 2 [.ref q_bytes, .ref q_draft, .ref q_numbers, .int z_length, .int r_34.1, .int r_34.2.1, .int r_34.2.2.1, .int r_34.2.2.2, .int z_item_26, .int z_taken_26, .int z_once_26]), (q_bytes, aB cy 300 z_bytes), (q_draft, oB 3 [.ref q_draft_weights, .ref q_draft_eats, .ref q_draft_barred, .int z_draft_houses_26, .int z_draft_law_26, .int z_draft_pride_26, .int z_draft_memory_26]), (q_draft_weights, oB 4 [.ref q_draft_weights_cells]), (q_draft_weights_cells, aI cy 24 z_draft_weights_cells_26), (q_draft_eats, aI cy 6 z_draft_eats_26), (q_draft_barred, aI cy 6 z_draft_barred_26), (q_numbers, aI cy 5 z_numbers_26)] → va_S A s.heap H locs → lv_has ls 3 [(0, .ref q0), (1, .int x1_26), (2, .int x2_26)] → W p l e rmX2_read s m args below meth c H locs 0 0 Q (F0 m 53 ls []) := by
          intro H locs ls hf hP hD hS hl
          unfold X2_read_J53 at hf
          refine lv_aload_n hx hb dX2_read_53 rfl (lv_at hl 0 rfl) ?_
          obtain ⟨r_54, hr_54, hf⟩ := bd_some hf
          refine cl_i (wc := [(q0, oB 2 [.ref q_bytes, .ref q_draft, .ref q_numbers, .int z_length, .int r_34.1, .int r_34.2.1, .int r_34.2.2.1, .int r_34.2.2.2, .int z_item_26, .int z_taken_26, .int z_once_26]), (q_draft, oB 3 [.ref q_draft_weights, .ref q_draft_eats, .ref q_draft_barred, .int z_draft_houses_26, .int z_draft_law_26, .int z_draft_pride_26, .int z_draft_memory_26]), (q_draft_weights, oB 4 [.ref q_draft_weights_cells]), (q_draft_weights_cells, aI cy 24 z_draft_weights_cells_26), (q_draft_eats, aI cy 6 z_draft_eats_26), (q_draft_barred, aI cy 6 z_draft_barred_26), (q_numbers, aI cy 5 z_numbers_26)]) (w1 := [(q0, oB 2 [.ref q_bytes, .ref q_draft, .ref q_numbers, .int z_length, .int r_34.1, .int r_34.2.1, .int r_34.2.2.1, .int r_34.2.2.2, .int r_54.2.1, .int r_54.2.2.1, .int r_54.2.2.2.1]), (q_draft, oB 3 [.ref q_draft_weights, .ref q_draft_eats, .ref q_draft_barred, .int r_54.2.2.2.2.1, .int r_54.2.2.2.2.2.1, .int r_54.2.2.2.2.2.2.1, .int r_54.2.2.2.2.2.2.2.1]), (q_draft_weights, oB 4 [.ref q_draft_weights_cells]), (q_draft_weights_cells, aI cy 24 r_54.2.2.2.2.2.2.2.2.1), (q_draft_eats, aI cy 6 r_54.2.2.2.2.2.2.2.2.2.1), (q_draft_barred, aI cy 6 r_54.2.2.2.2.2.2.2.2.2.2.1), (q_numbers, aI cy 5 r_54.2.2.2.2.2.2.2.2.2.2.2)]) (wr := [(q_bytes, aB cy 300 z_bytes)]) (w2 := [(q0, oB 2 [.ref q_bytes, .ref q_draft, .ref q_numbers, .int z_length, .int r_34.1, .int r_34.2.1, .int r_34.2.2.1, .int r_34.2.2.2, .int r_54.2.1, .int r_54.2.2.1, .int r_54.2.2.2.1]), (q_bytes, aB cy 300 z_bytes), (q_draft, oB 3 [.ref q_draft_weights, .ref q_draft_eats, .ref q_draft_barred, .int r_54.2.2.2.2.1, .int r_54.2.2.2.2.2.1, .int r_54.2.2.2.2.2.2.1, .int r_54.2.2.2.2.2.2.2.1]), (q_draft_weights, oB 4 [.ref q_draft_weights_cells]), (q_draft_weights_cells, aI cy 24 r_54.2.2.2.2.2.2.2.2.1), (q_draft_eats, aI cy 6 r_54.2.2.2.2.2.2.2.2.2.1), (q_draft_barred, aI cy 6 r_54.2.2.2.2.2.2.2.2.2.2.1), (q_numbers, aI cy 5 r_54.2.2.2.2.2.2.2.2.2.2.2)]) (va_runV (As := []) (rest := []) ⟨hx, hb, hml, hown, hts⟩ (ktX2_canStand l D cy q0 q_bytes q_draft q_numbers q_draft_weights q_draft_eats q_draft_barred q_draft_weights_cells z_length r_34.1 r_34.2.1 r_34.2.2.1 r_34.2.2.2 z_item_26 z_taken_26 z_once_26 z_draft_houses_26 z_draft_law_26 z_draft_pride_26 z_draft_memory_26 z_draft_weights_cells_26 z_draft_eats_26 z_draft_barred_26 z_numbers_26 r_54 hr_54 _) (cwV 0 hts gX2_read_X2_canStand rfl rfl rfl (by decide +kernel) ⟨Nat.le_of_ble_eq_true rfl, Nat.le_of_ble_eq_true rfl⟩) (pre_V (wc := [(q0, oB 2 [.ref q_bytes, .ref q_draft, .ref q_numbers, .int z_length, .int r_34.1, .int r_34.2.1, .int r_34.2.2.1, .int r_34.2.2.2, .int z_item_26, .int z_taken_26, .int z_once_26]), (q_draft, oB 3 [.ref q_draft_weights, .ref q_draft_eats, .ref q_draft_barred, .int z_draft_houses_26, .int z_draft_law_26, .int z_draft_pride_26, .int z_draft_memory_26]), (q_draft_weights, oB 4 [.ref q_draft_weights_cells]), (q_draft_weights_cells, aI cy 24 z_draft_weights_cells_26), (q_draft_eats, aI cy 6 z_draft_eats_26), (q_draft_barred, aI cy 6 z_draft_barred_26), (q_numbers, aI cy 5 z_numbers_26)]) (ci := 2) hcx hsx hS hA hP hD [0, 2, 3, 4, 5, 6, 7] rfl (by decide) rfl rfl) rfl rfl hl.1 rfl (lv_room (Nat.le_of_ble_eq_true rfl)) dX2_read_54 ⟨Nat.zero_le _, Nat.zero_le _⟩) hP hD hS hA [0, 2, 3, 4, 5, 6, 7] [1] [1, 0, 2, 3, 4, 5, 6, 7] rfl rfl (by decide) (by decide) (by decide) rfl (fun H locs hP hD hS => ?_)
          refine lv_if_ne (tgt := 68) hx hb dX2_read_57 (by decide) (fun hc_57 => ?_) (fun hc_57 => ?_)
          · have hf := it_f hf hc_57
            refine lv_aload_n hx hb dX2_read_68 rfl (lv_at hl 0 rfl) ?_
            refine va_get (D := D) (ci := 2) (v := .int r_34.2.2.1) (C := RX2) (T := TX2) (N := 11) hx hb hts kc1 hown hK hP 0 rfl rfl 6 (by decide) kw9 (fun _ h9 => h9) rfl dX2_read_69 ?_
            refine lv_iconst (v := 3) hx hb dX2_read_72 (by decide) ?_
            have hJ79 : ∀ (x1_79 : Int32) (H : Heap) (locs : List Loc) (ls : Array Slot), X2_read_J79 x2_26 self_26 r_34 r_54 x1_79 = some r → va_P D vwCl [(q0, oB 2 [.ref q_bytes, .ref q_draft, .ref q_numbers, .int z_length, .int r_34.1, .int r_34.2.1, .int r_34.2.2.1, .int r_34.2.2.2, .int r_54.2.1, .int r_54.2.2.1, .int r_54.2.2.2.1]), (q_bytes, aB cy 300 z_bytes), (q_draft, oB 3 [.ref q_draft_weights, .ref q_draft_eats, .ref q_draft_barred, .int r_54.2.2.2.2.1, .int r_54.2.2.2.2.2.1, .int r_54.2.2.2.2.2.2.1, .int r_54.2.2.2.2.2.2.2.1]), (q_draft_weights, oB 4 [.ref q_draft_weights_cells]), (q_draft_weights_cells, aI cy 24 r_54.2.2.2.2.2.2.2.2.1), (q_draft_eats, aI cy 6 r_54.2.2.2.2.2.2.2.2.2.1), (q_draft_barred, aI cy 6 r_54.2.2.2.2.2.2.2.2.2.2.1), (q_numbers, aI cy 5 r_54.2.2.2.2.2.2.2.2.2.2.2)] H → va_D A [(q0, oB 2 [.ref q_bytes, .ref q_draft, .ref q_numbers, .int z_length, .int r_34.1, .int r_34.2.1, .int r_34.2.2.1, .int r_34.2.2.2, .int r_54.2.1, .int r_54.2.2.1, .int r_54.2.2.2.1]), (q_bytes, aB cy 300 z_bytes), (q_draft, oB 3 [.ref q_draft_weights, .ref q_draft_eats, .ref q_draft_barred, .int r_54.2.2.2.2.1, .int r_54.2.2.2.2.2.1, .int r_54.2.2.2.2.2.2.1, .int r_54.2.2.2.2.2.2.2.1]), (q_draft_weights, oB 4 [.ref q_draft_weights_cells]), (q_draft_weights_cells, aI cy 24 r_54.2.2.2.2.2.2.2.2.1), (q_draft_eats, aI cy 6 r_54.2.2.2.2.2.2.2.2.2.1), (q_draft_barred, aI cy 6 r_54.2.2.2.2.2.2.2.2.2.2.1), (q_numbers, aI cy 5 r_54.2.2.2.2.2.2.2.2.2.2.2)] → va_S A s.heap H locs → lv_has ls 3 [(0, .ref q0), (1, .int x1_79), (2, .int x2_26)] → W p l e rmX2_read s m args below meth c H locs 0 0 Q (F0 m 79 ls []) := by
              intro x1_79 H locs ls hf hP hD hS hl
              unfold X2_read_J79 at hf
              obtain ⟨x2_79, ex2_79⟩ : ∃ y : Int32, y = x2_26 + (1 : Int32) := ⟨_, rfl⟩
              have hf := lets_at hf ex2_79
              refine lv_iinc (v := x2_79) (lv' := [(2, .int x2_79), (0, .ref q0), (1, .int x1_79)]) hx hb dX2_read_79 hl (k := 2) rfl (by rw [ex2_79]; rfl) (by decide) rfl (fun ls hl => ?_)
              refine lv_goto (tgt := 26) hx hb dX2_read_82 (by decide) ?_
              exact ih26 x1_79 x2_79 r_34.1 r_34.2.1 r_34.2.2.1 r_34.2.2.2 r_54.2.1 r_54.2.2.1 r_54.2.2.2.1 r_54.2.2.2.2.1 r_54.2.2.2.2.2.1 r_54.2.2.2.2.2.2.1 r_54.2.2.2.2.2.2.2.1 r_54.2.2.2.2.2.2.2.2.1 r_54.2.2.2.2.2.2.2.2.2.1 r_54.2.2.2.2.2.2.2.2.2.2.1 r_54.2.2.2.2.2.2.2.2.2.2.2 _ _ _ hf hP hD hS (lv_sub hl [1, 2, 0] rfl)
            refine lv_icmp_ne (tgt := 79) hx hb dX2_read_73 (by decide) (fun hc_73 => ?_) (fun hc_73 => ?_)
            · have hf := it_f hf hc_73
              exact hJ79 x1_26 _ _ _ hf hP hD hS (lv_sub hl [0, 1, 2] rfl)
            · have hf := it_t hf hc_73
              obtain ⟨x1_76, ex1_76⟩ : ∃ y : Int32, y = x1_26 + (1 : Int32) := ⟨_, rfl⟩
              have hf := lets_at hf ex1_76
              refine lv_iinc (v := x1_76) (lv' := [(1, .int x1_76), (0, .ref q0), (2, .int x2_26)]) hx hb dX2_read_76 hl (k := 1) rfl (by rw [ex1_76]; rfl) (by decide) rfl (fun ls hl => ?_)
              exact hJ79 x1_76 _ _ _ hf hP hD hS (lv_sub hl [1, 0, 2] rfl)
          · have hf := it_t hf hc_57
            exact hJ60 r_34.1 r_34.2.1 r_34.2.2.1 r_34.2.2.2 r_54.2.1 r_54.2.2.1 r_54.2.2.2.1 r_54.2.2.2.2.1 r_54.2.2.2.2.2.1 r_54.2.2.2.2.2.2.1 r_54.2.2.2.2.2.2.2.1 r_54.2.2.2.2.2.2.2.2.1 r_54.2.2.2.2.2.2.2.2.2.1 r_54.2.2.2.2.2.2.2.2.2.2.1 r_54.2.2.2.2.2.2.2.2.2.2.2 _ _ _ hf hP hD hS (lv_sub hl [0] rfl)
        refine lv_if_ne (tgt := 53) hx hb dX2_read_41 (by decide) (fun hc_41 => ?_) (fun hc_41 => ?_)
        · have hf := it_f hf hc_41
          exact hJ53 _ _ _ hf hP hD hS (lv_sub hl [0, 1, 2] rfl)
        · have hf := it_t hf hc_41
          refine lv_aload_n hx hb dX2_read_44 rfl (lv_at hl 0 rfl) ?_
          refine va_get (D := D) (ci := 2) (v := .int z_item_26) (C := RX2) (T := TX2) (N := 11) hx hb hts kc1 hown hK hP 0 rfl rfl 8 (by decide) kw6 (fun _ h9 => h9) rfl dX2_read_45 ?_
          refine lv_if_ne (tgt := 53) hx hb dX2_read_48 (by decide) (fun hc_48 => ?_) (fun hc_48 => ?_)
          · have hf := it_f hf hc_48
            exact hJ53 _ _ _ hf hP hD hS (lv_sub hl [0, 1, 2] rfl)
          · have hf := it_t hf hc_48
            refine lv_iload_n hx hb dX2_read_51 rfl (lv_at hl 1 rfl) ?_
            exact hret' _ _ _ _ _ _ _ _ _ _ _ _ _ _ _ _ _ _ _ _ dX2_read_52 hf hP hD hS
  exact hL26 _ (0 : Int32) (0 : Int32) (0 : Int32) z_place z_token z_number (0 : Int32) z_taken (0 : Int32) r_4.1 r_4.2.1 r_4.2.2.1 r_4.2.2.2.1 r_4.2.2.2.2.1 r_4.2.2.2.2.2.1 r_4.2.2.2.2.2.2 z_numbers _ _ _ hf hP hD hS (lv_sub hl [2, 1, 0] rfl)
