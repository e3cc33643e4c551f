theorem feedF_sp {h : Nat} {ba : Int32} : ∀ (k : Nat) (le sp : Nat → Int32) (j : Nat), (j < 4 * h ∨ 4 * h + 4 ≤ j) → (feedF h ba k le sp).2.2 j = sp j
  | 0, le, sp, j, hj => rfl
  | k + 1, le, sp, j, hj => by
    rcases fx_sort le ba with h9 | ⟨s, hs, hs9⟩
    · simp only [feedF, if_pos h9]
    · have n9 : ¬ nI s = -9 := fun e => m9_ne s (by omega) e.symm
      have cs : (nI s).toNatClampNeg = s := nI_clamp (by omega)
      simp only [feedF, hs9, if_neg n9, cs]
      rw [feedF_sp k _ _ j hj, pk_un (by omega)]
theorem eatS_sp {n : Nat} {eN : Nat → Nat} {ba : Nat → Int32} {ord : Nat → Nat} {le sp : Nat → Int32} : ∀ i, (∀ k, k < i → ord k < n) → ∀ j, 4 * n ≤ j → (eatS eN ba ord le sp i).2.2 j = sp j
  | 0, _, _, _ => rfl
  | i + 1, ho, j, hj => by
    have := ho i (by omega)
    simp only [eatS]
    rw [feedF_sp _ _ _ j (by omega)]
    exact eatS_sp i (fun k hk => ho k (by omega)) j hj
theorem eatS_up {n : Nat} {eN : Nat → Nat} {ba : Nat → Int32} {le sp : Nat → Int32} (hz : ∀ h, n ≤ h → h < 6 → eN h = 0) : ∀ m, n ≤ m → m ≤ 6 → eatS eN ba (fun i => i) le sp m = eatS eN ba (fun i => i) le sp n
  | 0, h1, _ => by rw [show n = 0 by omega]
  | m + 1, h1, h2 => by
    rcases Nat.lt_or_ge m n with q | q
    · rw [show n = m + 1 by omega]
    · rw [eatS_skip (hz m q (by omega))]
      exact eatS_up hz m q (by omega)
theorem eatS_dn0 {n : Nat} (hn : n ≤ 6) {eN : Nat → Nat} {ba : Nat → Int32} {le sp : Nat → Int32} (hz : ∀ h, n ≤ h → h < 6 → eN h = 0) : ∀ m, m ≤ 6 - n → eatS eN ba (fun i => 5 - i) le sp m = (0, le, sp)
  | 0, _ => rfl
  | m + 1, h => by
    rw [eatS_skip (hz (5 - m) (by omega) (by omega))]
    exact eatS_dn0 hn hz m (by omega)
theorem eatS_dn {n : Nat} (hn : n ≤ 6) {eN : Nat → Nat} {ba : Nat → Int32} {le sp : Nat → Int32} (hz : ∀ h, n ≤ h → h < 6 → eN h = 0) : ∀ i, i ≤ n → eatS eN ba (fun i => 5 - i) le sp (6 - n + i) = eatS eN ba (fun i => n - 1 - i) le sp i
  | 0, _ => eatS_dn0 hn hz _ (Nat.le_refl _)
  | i + 1, hi => by
    have ih := eatS_dn hn (ba := ba) (le := le) (sp := sp) hz i (by omega)
    have e : 6 - n + (i + 1) = (6 - n + i) + 1 := by omega
    rw [e]
    simp only [eatS]
    rw [ih, show 5 - (6 - n + i) = n - 1 - i by omega]
theorem now_eat {n : Nat} {ea ye lo : Int32} {wc br le sp he S le' sp' S' : Nat → Int32} (H : NowOk n ea ye lo wc br le sp he S) (h1 : ∀ s, s < 4 → le' s = S' (54 + s)) (h2 : ∀ i, i < 24 → sp' i = S' (30 + i)) (h3 : ∀ i, 4 * n ≤ i → i < 24 → sp' i = sp i) (h4 : ∀ j, (j < 30 ∨ 58 ≤ j) → S' j = upd S 58 1 j) : NowOk n 1 ye lo wc br le' sp' he S' := by
  obtain ⟨a1, a2, a3, a4, a5, a6, a7, a8, a9, b1, b2, b3, b4, b5⟩ := H
  have h5 : ∀ j, (j < 30 ∨ 59 ≤ j) → S' j = S j := fun j hj => by rw [h4 j (by omega), pk_un (by omega)]
  have h6 : S' 58 = 1 := by rw [h4 58 (by omega), pk_us]
  refine ⟨fun i hi => ?_, fun i hi => ?_, fun i g1 hi => ?_, fun i hi => ?_, fun i hi => ?_, fun i g1 hi => ?_, fun i hi => h1 i hi, fun i hi => h2 i hi, fun i g1 hi => ?_, fun i hi => ?_, fun i g1 hi => ?_, ?_, ?_, ?_⟩
  · rw [h5 _ (by omega)]; exact a1 i hi
  · rw [h5 _ (by omega)]; exact a2 i hi
  · rw [h5 _ (by omega)]; exact a3 i g1 hi
  · rw [h5 _ (by omega)]; exact a4 i hi
  · rw [h5 _ (by omega)]; exact a5 i hi
  · rw [h5 _ (by omega)]; exact a6 i g1 hi
  · rw [← h2 i hi, h3 i g1 hi, a8 i hi]; exact a9 i g1 hi
  · rw [h5 _ (by omega)]; exact b1 i hi
  · rw [h5 _ (by omega)]; exact b2 i g1 hi
  · rw [h6]; exact ⟨rfl, Or.inr rfl⟩
  · rw [h5 _ (by omega)]; exact b4
  · rw [h5 _ (by omega)]; exact b5
theorem sim_eat : SimOp_eat Alike9 := by
  unfold SimOp_eat
  intro z_text_length z_text_bytes z_village_houses z_village_law z_village_pride z_village_memory z_village_eats z_village_barred z_now_eaten z_now_year z_now_lot z_now_weights_cells z_now_brought z_now_left z_now_spoons z_now_health z_firstImage_eaten z_firstImage_year z_firstImage_lot z_firstImage_weights_cells z_firstImage_brought z_firstImage_left z_firstImage_spoons z_firstImage_health z_secondImage_eaten z_secondImage_year z_secondImage_lot z_secondImage_weights_cells z_secondImage_brought z_secondImage_left z_secondImage_spoons z_secondImage_health z_keptImages z_asked zb_trace zb_text zb_typed zb_eats zb_barred zb_laws zb_houses zb_s zb_kept zb_isKept x1 hs9
  obtain ⟨n, hn, hT, hV, hN, hK, hA⟩ := hs9
  obtain ⟨rfl, rfl, -, -, -, v6, v7, v8, v9⟩ := id hV
  obtain ⟨a1, a2, a3, a4, a5, a6, a7, a8, a9, b1, b2, ⟨b3, b3'⟩, b4, b5⟩ := id hN
  have hE6 : ∀ h, h < 6 → z_village_eats h = nI ((z_village_eats h).toNatClampNeg) := fun h hh => by
    rcases Nat.lt_or_ge h n with q | q
    · obtain ⟨e, k, -, hk, e2⟩ := v6 h q
      rw [e, e2, nI_clamp (by omega)]
    · rw [v7 h q hh]; rfl
  have h96 : ∀ h, h < 6 → (z_village_eats h).toNatClampNeg ≤ 9 := fun h hh => by
    rcases Nat.lt_or_ge h n with q | q
    · obtain ⟨e, k, -, hk, e2⟩ := v6 h q
      rw [e, e2, nI_clamp (by omega)]; exact hk
    · rw [v7 h q hh]; decide
  have hz : ∀ h, n ≤ h → h < 6 → (z_village_eats h).toNatClampNeg = 0 := fun h q hh => by rw [v7 h q hh]; rfl
  have hEm : ∀ h, h < n → zb_eats h = nI ((z_village_eats h).toNatClampNeg) := fun h hh => by rw [← hE6 h (by omega)]; exact ((v6 h hh).1).symm
  have h9m : ∀ h, h < n → (z_village_eats h).toNatClampNeg ≤ 9 := fun h hh => h96 h (by omega)
  rcases half_cases x1 with ⟨rfl | rfl, hx, hm⟩ | ⟨h0, h1, hx, hm⟩
  · rcases b3' with e0 | e0
    · have hz0 : upd zb_s 58 1 = upd zb_s 58 1 := rfl
      obtain ⟨S', g1, g2, g3, g4⟩ := eatM_eq hn (eN := fun h => (z_village_eats h).toNatClampNeg) (mea := zb_eats) (mba := zb_barred) (ba := z_village_barred) (way := 0) (ord := (fun i => i)) hEm h9m (fun h hh => ((v8 h hh).1).symm) (fun i hi => by exact hi) (fun i hi => by rw [if_pos rfl]) (le := z_now_left) (sp := z_now_spoons) n 0 100000 (upd zb_s 58 1) (by omega) (by omega) (fun s hs => by rw [pk_un (by omega)]; exact a7 s hs) (fun j hj => by rw [pk_un (by omega)]; exact a8 j hj)
      have eX := eatX_eq (eN := fun h => (z_village_eats h).toNatClampNeg) (ea := z_village_eats) (ba := z_village_barred) (way := 0) (ord := (fun i => i)) hE6 h96 (fun i hi => by exact hi) (fun i hi => by rw [if_pos rfl]) (le := z_now_left) (sp := z_now_spoons)
      have eS : eatS (fun h => (z_village_eats h).toNatClampNeg) z_village_barred (fun i => i) z_now_left z_now_spoons 6 = eatS (fun h => (z_village_eats h).toNatClampNeg) z_village_barred (fun i => i) z_now_left z_now_spoons n := eatS_up hz 6 hn (by omega)
      rw [eS] at eX
      refine ⟨((eatS (fun h => (z_village_eats h).toNatClampNeg) z_village_barred (fun i => i) z_now_left z_now_spoons n).1, 1, (eatS (fun h => (z_village_eats h).toNatClampNeg) z_village_barred (fun i => i) z_now_left z_now_spoons n).2.1, (eatS (fun h => (z_village_eats h).toNatClampNeg) z_village_barred (fun i => i) z_now_left z_now_spoons n).2.2), ((eatS (fun h => (z_village_eats h).toNatClampNeg) z_village_barred (fun i => i) z_now_left z_now_spoons n).1, 0, S'), ?_, ?_, rfl, al_of n hn hT hV (now_eat hN g2 g3 (fun i h1 h2 => eatS_sp n (fun k hk => by exact hk) i h1) g4) hK hA⟩
      · simp only [fX6_eat, X6_eat_J11, if_pos, b3, if_pos e0]
        exact eX
      · simp only [fX7_eat, hm, some_bind9, if_neg one_ne, cl58, if_neg (show ¬ zb_s 58 = 1 by rw [e0]; decide), lets_def]
        exact g1
    · refine ⟨(-2, z_now_eaten, z_now_left, z_now_spoons), (-2, 0, zb_s), ?_, ?_, rfl, al_of n hn hT hV hN hK hA⟩
      · simp only [fX6_eat, X6_eat_J11, if_pos, b3, if_neg (show ¬ zb_s 58 = 0 by rw [e0]; decide)]
      · simp only [fX7_eat, hm, some_bind9, if_neg one_ne, cl58, if_pos e0]
  · rcases b3' with e0 | e0
    · have hz0 : upd zb_s 58 1 = upd zb_s 58 1 := rfl
      obtain ⟨S', g1, g2, g3, g4⟩ := eatM_eq hn (eN := fun h => (z_village_eats h).toNatClampNeg) (mea := zb_eats) (mba := zb_barred) (ba := z_village_barred) (way := 1) (ord := (fun i => n - 1 - i)) hEm h9m (fun h hh => ((v8 h hh).1).symm) (fun i hi => by show n - 1 - i < n; omega) (fun i hi => by rw [if_neg (by decide)]; have e1 : nI n - 1 = nI (n - 1) := pk_sub (a := n) (b := 1) (by omega); rw [e1]; exact pk_sub (by omega)) (le := z_now_left) (sp := z_now_spoons) n 0 100000 (upd zb_s 58 1) (by omega) (by omega) (fun s hs => by rw [pk_un (by omega)]; exact a7 s hs) (fun j hj => by rw [pk_un (by omega)]; exact a8 j hj)
      have eX := eatX_eq (eN := fun h => (z_village_eats h).toNatClampNeg) (ea := z_village_eats) (ba := z_village_barred) (way := 1) (ord := (fun i => 5 - i)) hE6 h96 (fun i hi => by show 5 - i < 6; omega) (fun i hi => by rw [if_neg (by decide)]; exact pk_sub (a := 5) (b := i) (by omega)) (le := z_now_left) (sp := z_now_spoons)
      have eS : eatS (fun h => (z_village_eats h).toNatClampNeg) z_village_barred (fun i => 5 - i) z_now_left z_now_spoons 6 = eatS (fun h => (z_village_eats h).toNatClampNeg) z_village_barred (fun i => n - 1 - i) z_now_left z_now_spoons n := (by have := eatS_dn hn (ba := z_village_barred) (le := z_now_left) (sp := z_now_spoons) hz n (Nat.le_refl n); rw [show 6 - n + n = 6 by omega] at this; exact this)
      rw [eS] at eX
      refine ⟨((eatS (fun h => (z_village_eats h).toNatClampNeg) z_village_barred (fun i => n - 1 - i) z_now_left z_now_spoons n).1, 1, (eatS (fun h => (z_village_eats h).toNatClampNeg) z_village_barred (fun i => n - 1 - i) z_now_left z_now_spoons n).2.1, (eatS (fun h => (z_village_eats h).toNatClampNeg) z_village_barred (fun i => n - 1 - i) z_now_left z_now_spoons n).2.2), ((eatS (fun h => (z_village_eats h).toNatClampNeg) z_village_barred (fun i => n - 1 - i) z_now_left z_now_spoons n).1, 0, S'), ?_, ?_, rfl, al_of n hn hT hV (now_eat hN g2 g3 (fun i h1 h2 => eatS_sp n (fun k hk => by show n - 1 - k < n; omega) i h1) g4) hK hA⟩
      · simp only [fX6_eat, X6_eat_J11, if_neg one_ne, if_pos, b3, if_pos e0]
        exact eX
      · simp only [fX7_eat, hm, some_bind9, if_neg one_ne, cl58, if_neg (show ¬ zb_s 58 = 1 by rw [e0]; decide), lets_def]
        exact g1
    · refine ⟨(-2, z_now_eaten, z_now_left, z_now_spoons), (-2, 0, zb_s), ?_, ?_, rfl, al_of n hn hT hV hN hK hA⟩
      · simp only [fX6_eat, X6_eat_J11, if_neg one_ne, if_pos, b3, if_neg (show ¬ zb_s 58 = 0 by rw [e0]; decide)]
      · simp only [fX7_eat, hm, some_bind9, if_neg one_ne, cl58, if_pos e0]
  · refine ⟨(-1, z_now_eaten, z_now_left, z_now_spoons), (-1, 0, zb_s), ?_, ?_, rfl, al_of n hn hT hV hN hK hA⟩
    · simp only [fX6_eat, if_neg h0, if_neg h1]
    · simp only [fX7_eat, hm, some_bind9, if_true]
