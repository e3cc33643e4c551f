theorem cl0 : (0 : Int32).toNatClampNeg = 0 := rfl
theorem w_nat {n : Nat} {ea ye lo : Int32} {wc br le sp he S : Nat → Int32} (H : NowOk n ea ye lo wc br le sp he S) {i : Nat} (hi : i < 24) : S i = nI ((S i).toNatClampNeg) ∧ (S i).toNatClampNeg ≤ 9 := by
  obtain ⟨k, hk, e⟩ := H.2.1 i hi
  rw [e, nI_clamp (by omega)]
  exact ⟨rfl, hk⟩
theorem chosen_none {la lo : Int32} {wc br : Nat → Int32} {h : Nat} (hh : h < 6) (hw : ∀ s, s < 4 → wc (4 * h + s) = 0) : fX6_chosen la lo wc br (nI h) = some (-9, lo) := by
  have hs : sumI (fun s => wc (4 * h + s)) 4 = 0 := by
    rw [sumI_congr (g := fun _ => 0) hw]; exact sumI_zero 4
  have hq : ∀ s, s < 4 → wc (4 * h + s) = nI ((fun _ => 0) s) := hw
  unfold fX6_chosen
  by_cases h0 : la = 0
  · simp only [if_pos h0, fX1_drawn, together_eq hh, some_bind9, hs, if_pos]
  · by_cases h1 : la = 1
    · simp only [if_neg h0, if_pos h1, rem4 (show h < 2 ^ 31 by omega), letters_none hh hw, some_bind9]
    · have e : upB (bav (fun _ => 0)) (bky br (fun _ => 0) 6) 4 = none := by
        rcases upB_inv (av := bav (fun _ => 0)) (ky := bky br (fun _ => 0) 6) 4 with ⟨q, -⟩ | ⟨k, -, -, q, -⟩
        · exact q
        · exact absurd q (by simp [bav])
      simp only [if_neg h0, if_neg h1, seen_eq (br := br) hh hq (fun _ _ => Nat.zero_le 9), some_bind9, e, encO]
theorem chosen_both {n h : Nat} (hn : n ≤ 6) (hh : h < n) {R : Type} {mla : Nat → Int32} {ea ye lo : Int32} {wc br le sp he S : Nat → Int32} (H : NowOk n ea ye lo wc br le sp he S) (hp : 0 < fb_sm (fun s => (S (4 * h + s)).toNatClampNeg) 4) :
    ∃ k lo' S', k < 4 ∧ fX6_chosen (mla 0) lo wc br (nI h) = some (nI k, lo') ∧ (∀ K : Int32 → (Nat → Int32) → Option R, (if mla 0 = 0 then (fX7_drawn S (nI h)).bind (fun r => K r.1 r.2) else if mla 0 = 1 then (fX7_byLetters S (nI h)).bind (fun r => K r S) else (fX7_byBoard (nI n) S (nI h)).bind (fun r => K r S)) = K (nI k) S') ∧ NowOk n ea ye lo' wc br le sp he S' := by
  obtain ⟨a1, a2, a3, a4, a5, a6, a7, a8, a9, b1, b2, b3, b4, b5⟩ := id H
  have hS : ∀ s, s < 4 → S (4 * h + s) = nI ((fun s => (S (4 * h + s)).toNatClampNeg) s) := fun s hs => (w_nat H (by omega)).1
  have hq : ∀ s, s < 4 → wc (4 * h + s) = nI ((fun s => (S (4 * h + s)).toNatClampNeg) s) := fun s hs => (a1 _ (by omega)).trans (hS s hs)
  have h9 : ∀ s, s < 4 → (fun s => (S (4 * h + s)).toNatClampNeg) s ≤ 9 := fun s hs => (w_nat H (by omega)).2
  by_cases h0 : mla 0 = 0
  · obtain ⟨k, lo', hk, e1, e2⟩ := drawn_both (by omega) hq hS h9 hp b5
    refine ⟨k, lo', upd S 66 lo', hk, ?_, fun K => ?_, now_lot H⟩
    · simp only [fX6_chosen, if_pos h0, e1, some_bind9]
    · simp only [if_pos h0, e2, some_bind9]
  · by_cases h1 : mla 0 = 1
    · obtain ⟨k, hk, e1, e2⟩ := letters_both (by omega) hq hS h9 hp
      refine ⟨k, lo, S, hk, ?_, fun K => ?_, H⟩
      · simp only [fX6_chosen, if_neg h0, if_pos h1, rem4 (show h < 2 ^ 31 by omega), e1, some_bind9]
      · simp only [if_neg h0, if_pos h1, e2, some_bind9]
    · have e : ∀ s, s < 4 → bky br (fun s => (S (4 * h + s)).toNatClampNeg) 6 s = bky (fun i => S (24 + i)) (fun s => (S (4 * h + s)).toNatClampNeg) n s := fun s hs => by
        have c := cnt_alike hn a4 a6 (m9_ne s (by omega))
        rw [cntB_nI, cntB_nI, nI_eq (by have := cnN_le (b := br) (x := nI s) (m := 6); omega) (by have := cnN_le (b := fun h => S (24 + h)) (x := nI s) (m := n); omega)] at c
        simp only [bky, c]
      have eu : ∀ (ky ky' : Nat → Int) (av : Nat → Bool), ∀ i, i ≤ 4 → (∀ s, s < 4 → ky s = ky' s) → upB av ky i = upB av ky' i := by
        intro ky ky' av i
        induction i with
        | zero => intro _ _; rfl
        | succ i ih =>
          intro hi hk
          have e1 := ih (by omega) hk
          rcases upB_inv (av := av) (ky := ky') i with ⟨q, -⟩ | ⟨k, hk2, q, -⟩
          · simp only [upB, e1, q]
          · simp only [upB, e1, q, hk i (by omega), hk k (by omega)]
      have hx := seen_eq (br := br) (show h < 6 by omega) hq h9
      have hm := board_eq hn (show h < 6 by omega) hS h9
      rw [up_dn, ← eu _ _ _ 4 (by omega) e] at hm
      rcases upB_inv (av := bav (fun s => (S (4 * h + s)).toNatClampNeg)) (ky := bky br (fun s => (S (4 * h + s)).toNatClampNeg) 6) 4 with ⟨q, q2⟩ | ⟨k, hk, q, -⟩
      · exfalso
        rw [sm4] at hp
        have z : ∀ s, s < 4 → (S (4 * h + s)).toNatClampNeg = 0 := fun s hs => by
          have := q2 s hs
          simp only [bav, decide_eq_false_iff_not] at this
          omega
        have z0 := z 0 (by omega)
        have z1 := z 1 (by omega)
        have z2 := z 2 (by omega)
        have z3 := z 3 (by omega)
        omega
      · rw [q] at hx hm
        refine ⟨k, lo, S, hk, ?_, fun K => ?_, H⟩
        · simp only [fX6_chosen, if_neg h0, if_neg h1, hx, some_bind9, encO]
        · simp only [if_neg h0, if_neg h1, hm, some_bind9, encO]
theorem eve_tail {la pr : Int32} {ea wc : Nat → Int32} {n : Nat} (hn : n ≤ 6) {cnt lo : Int32} {br le : Nat → Int32} (hw : ∀ h, n ≤ h → h < 6 → br h = -9 ∧ ∀ s, s < 4 → wc (4 * h + s) = 0) (m : Nat) (hm : 7 < m) : it5 (X6_evening_S17 la pr ea wc) m cnt (nI n) lo br le = some (cnt, lo, br, le) := by
  refine it5_run (6 - n) (fun _ => cnt) (fun i => nI (n + i)) (fun _ => lo) (fun _ => br) (fun _ => le) _ (fun i hi self => ?_) (fun self => ?_) m (by omega)
  · obtain ⟨e1, e2⟩ := hw (n + i) (by omega) (by omega)
    have ok : okx (nI (n + i)) 6 := okx_nI (by omega) (by omega)
    simp only [X6_evening_S17, X6_evening_J47, X6_evening_J71, if_neg (show ¬ (6 : Int32) ≤ nI (n + i) from nI_ge (a := n + i) (b := 6) (by omega) (by omega)), gd_t ok, nI_clamp (show n + i < 2 ^ 31 by omega), e1, if_pos, chosen_none (show n + i < 6 by omega) e2, some_bind9, lets_def, Lp1]
    rfl
  · have : n + (6 - n) = 6 := by omega
    simp only [X6_evening_S17, this, if_pos (show (6 : Int32) ≤ nI 6 by decide)]
theorem eve_both {n : Nat} (hn : n ≤ 6) {ea mea mla : Nat → Int32} {en ye : Int32} {wc sp he : Nat → Int32} (hE : ∀ h, h < n → ea h = mea h) : ∀ (d h m m' : Nat) (cnt lo : Int32) (br le S : Nat → Int32), h + d = n → d + 7 < m → d < m' → NowOk n en ye lo wc br le sp he S →
    ∃ cnt' lo' br' le' S', it5 (X6_evening_S17 (mla 0) (mla 1) ea wc) m cnt (nI h) lo br le = some (cnt', lo', br', le') ∧ it3 (X7_evening_S23 (nI n) mea mla) m' cnt (nI h) S = some (cnt', 0, S') ∧ NowOk n en ye lo' wc br' le' sp he S'
  | 0, h, m, m', cnt, lo, br, le, S, hd, hm, hm', H => by
    obtain ⟨a1, a2, a3, a4, a5, a6, a7, a8, a9, b1, b2, b3, b4, b5⟩ := id H
    have e : h = n := by omega
    subst e
    refine ⟨cnt, lo, br, le, S, eve_tail hn (fun i h1 h2 => ⟨(a4 i h2).trans (a6 i h1 h2), fun s hs => (a1 _ (by omega)).trans (a3 _ (by omega) (by omega))⟩) m (by omega), ?_, H⟩
    obtain ⟨m', rfl⟩ : ∃ k, m' = k + 1 := ⟨m' - 1, by omega⟩
    show X7_evening_S23 (nI h) mea mla (it3 (X7_evening_S23 (nI h) mea mla) m') cnt (nI h) S = _
    simp only [X7_evening_S23, if_pos (nI_le (Nat.le_refl h) (show h < 2 ^ 31 by omega))]
  | d + 1, h, m, m', cnt, lo, br, le, S, hd, hm, hm', H => by
    obtain ⟨a1, a2, a3, a4, a5, a6, a7, a8, a9, b1, b2, b3, b4, b5⟩ := id H
    obtain ⟨m, rfl⟩ : ∃ k, m = k + 1 := ⟨m - 1, by omega⟩
    obtain ⟨m', rfl⟩ : ∃ k, m' = k + 1 := ⟨m' - 1, by omega⟩
    have hh : h < n := by omega
    have ok : okx (nI h) 6 := okx_nI (by omega) (by omega)
    have ok2 : okx (nI (24 + h)) 67 := okx_nI (by omega) (by omega)
    have c6 : ¬ (6 : Int32) ≤ nI h := nI_ge (a := h) (b := 6) (by omega) (by omega)
    have cn : ¬ nI n ≤ nI h := nI_ge (a := h) (b := n) hh (by omega)
    have hS : ∀ s, s < 4 → S (4 * h + s) = nI ((fun s => (S (4 * h + s)).toNatClampNeg) s) := fun s hs => (w_nat H (by omega)).1
    have hb : fb_sm (fun s => (S (4 * h + s)).toNatClampNeg) 4 ≤ 4 * 9 := fb_sm_bound (fun s hs => (w_nat H (by omega)).2)
    show ∃ cnt' lo' br' le' S', X6_evening_S17 (mla 0) (mla 1) ea wc (it5 (X6_evening_S17 (mla 0) (mla 1) ea wc) m) cnt (nI h) lo br le = some (cnt', lo', br', le') ∧ X7_evening_S23 (nI n) mea mla (it3 (X7_evening_S23 (nI n) mea mla) m') cnt (nI h) S = some (cnt', 0, S') ∧ NowOk n en ye lo' wc br' le' sp he S'
    have skip := eve_both hn hE (mla := mla) d (h + 1) m m' cnt lo br le S (by omega) (by omega) (by omega) H
    by_cases hb0 : S (24 + h) = -9
    · have hbx : br h = -9 := (a4 h (by omega)).trans hb0
      rcases Nat.eq_zero_or_pos (fb_sm (fun s => (S (4 * h + s)).toNatClampNeg) 4) with z | hp
      · have zs : ∀ s, s < 4 → S (4 * h + s) = 0 := fun s hs => by
          have z1 : (S (4 * h + s)).toNatClampNeg = 0 := fb_sm_zero z s hs
          have z2 : S (4 * h + s) = nI ((S (4 * h + s)).toNatClampNeg) := hS s hs
          rw [z2, z1]; rfl
        have e1 := chosen_none (la := mla 0) (lo := lo) (wc := wc) (br := br) (show h < 6 by omega) (fun s hs => (a1 _ (by omega)).trans (zs s hs))
        simp only [X6_evening_S17, X6_evening_J47, X6_evening_J71, X7_evening_S23, X7_evening_J102, if_neg c6, if_neg cn, gd_t ok, L24, gd_t ok2, nI_clamp (show h < 2 ^ 31 by omega), nI_clamp (show 24 + h < 2 ^ 31 by omega), if_pos hbx, if_pos hb0, e1, some_bind9, if_pos, lets_def, Lp1, weightsOf_eq (show h < 6 by omega), sumI_nI hS, z, if_pos (show nI 0 ≤ 0 by decide)]
        exact skip
      · obtain ⟨k, lo', S', hk, e1, e2, H'⟩ := chosen_both (R := Int32 × Int32 × (Nat → Int32)) (mla := mla) hn hh H hp
        have n9 : ¬ nI k = -9 := fun e => m9_ne k (by omega) e.symm
        have np : ¬ nI (fb_sm (fun s => (S (4 * h + s)).toNatClampNeg) 4) ≤ 0 := nI_nle hp (by omega)
        have H2 := now_bring (d := mea h + mla 1) hn hh hk H'
        have go := eve_both hn hE (mla := mla) d (h + 1) m m' (cnt + 1) lo' _ _ _ (by omega) (by omega) (by omega) H2
        simp only [X6_evening_S17, X6_evening_J47, X6_evening_J71, X7_evening_S23, X7_evening_J102, if_neg c6, if_neg cn, gd_t ok, L24, gd_t ok2, nI_clamp (show h < 2 ^ 31 by omega), nI_clamp (show 24 + h < 2 ^ 31 by omega), if_pos hbx, if_pos hb0, e1, some_bind9, if_neg n9, lets_def, Lp1, weightsOf_eq (show h < 6 by omega), sumI_nI hS, if_neg np, dish_eq (show h < 6 by omega), carry_eq (show h < 6 by omega) hk, cl0, hE h hh]
        rw [e2 (fun a b => X7_evening_J95 mea mla cnt (nI h) (it3 (X7_evening_S23 (nI n) mea mla) m') a b)]
        simp only [X7_evening_J95, X7_evening_J102, bring_eq (show h < 6 by omega) hk, some_bind9, lets_def, Lp1]
        exact go
    · have hbx : ¬ br h = -9 := fun e => hb0 ((a4 h (by omega)).symm.trans e)
      simp only [X6_evening_S17, X6_evening_J47, X6_evening_J71, X7_evening_S23, X7_evening_J102, if_neg c6, if_neg cn, gd_t ok, L24, gd_t ok2, nI_clamp (show h < 2 ^ 31 by omega), nI_clamp (show 24 + h < 2 ^ 31 by omega), if_neg hbx, if_neg hb0, if_pos, lets_def, Lp1]
      exact skip
theorem sim_evening : SimOp_evening Alike9 := by
  unfold SimOp_evening
  intro z_text_length z_text_bytes z_village_houses z_village_law z_village_pride z_village_memory z_village_eats z_village_barred z_now_eaten z_now_year z_now_lot z_now_weights_cells z_now_brought z_now_left z_now_spoons z_now_health z_firstImage_eaten z_firstImage_year z_firstImage_lot z_firstImage_weights_cells z_firstImage_brought z_firstImage_left z_firstImage_spoons z_firstImage_health z_secondImage_eaten z_secondImage_year z_secondImage_lot z_secondImage_weights_cells z_secondImage_brought z_secondImage_left z_secondImage_spoons z_secondImage_health z_keptImages z_asked zb_trace zb_text zb_typed zb_eats zb_barred zb_laws zb_houses zb_s zb_kept zb_isKept hs9
  obtain ⟨n, hn, hT, hV, hN, hK, hA⟩ := hs9
  obtain ⟨rfl, rfl, ⟨rfl, -⟩, ⟨rfl, -⟩, -, v6, v7, v8, v9⟩ := id hV
  obtain ⟨a1, a2, a3, a4, a5, a6, a7, a8, a9, b1, b2, ⟨b3, b3'⟩, b4, b5⟩ := id hN
  rcases b3' with e | e
  · obtain ⟨c, lo', br', le', S', h1, h2, h3⟩ := eve_both hn (mla := zb_laws) (fun h hh => (v6 h hh).1) n 0 100000 100000 0 z_now_lot z_now_brought z_now_left zb_s (by omega) (by omega) (by omega) hN
    refine ⟨(c, lo', br', le'), (c, 0, S'), ?_, ?_, rfl, al_of n hn hT hV h3 hK hA⟩
    · simp only [fX6_evening, b3, e, if_pos]
      exact h1
    · simp only [fX7_evening, cl58, e, if_neg (show ¬ (0 : Int32) = 1 by decide)]
      exact h2
  · refine ⟨(-2, z_now_lot, z_now_brought, z_now_left), (-2, 0, zb_s), ?_, ?_, rfl, al_of n hn hT hV hN hK hA⟩
    · simp only [fX6_evening, b3, e, if_neg one_ne]
    · simp only [fX7_evening, cl58, e, if_pos]
