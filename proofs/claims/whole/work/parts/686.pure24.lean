/-! the class's search -/
def Comp9 (q : Nat → Nat) (a b : Nat) (r : Nat → Nat) (d h more : Nat) (x : Nat → Nat) : Prop :=
  (∀ k, k < h → x k = r k) ∧ (∀ k, k < 6 → valid9 q x k) ∧ dist9 x 6 ∧ ctF x d h = more ∧ lk9 q a b x
def Pre9 (q : Nat → Nat) (r : Nat → Nat) (h u : Nat) (rows : Nat → Int64) (told : Nat → Int32) : Prop :=
  RowsOk q r h rows ∧ (∀ k, k < h → told k = nI (r k)) ∧ (∀ k, k < h → valid9 q r k) ∧ dist9 r h ∧ u < 16 ∧ (∀ s, s < 4 → (u.testBit s = true ↔ ∃ k, k < h ∧ r k = s))
def Tell9 (q : Nat → Nat) (a b : Nat) (r : Nat → Nat) (d h more : Nat) (res : Option (Int32 × (Nat → Int64) × (Nat → Int32))) : Prop :=
  (∃ rows told x, res = some (1, rows, told) ∧ Comp9 q a b r d h more x ∧ (∀ k, k < 6 → told k = nI (x k)) ∧ ∀ y, Comp9 q a b r d h more y → numF x d h ≤ numF y d h) ∨
  (∃ rows told, res = some (0, rows, told) ∧ RowsOk q r h rows ∧ (∀ k, k < h → told k = nI (r k)) ∧ ∀ y, ¬ Comp9 q a b r d h more y)
theorem likely_eq {q r : Nat → Nat} {rows : Nat → Int64} {a b : Nat} (ha : a ≤ 99) (hb : b ≤ 99) (h9 : ∀ j, j < 24 → q j ≤ 9) (hR : RowsOk q r 6 rows) (hv : ∀ i, i < 6 → valid9 q r i) : (lk9 q a b r → fX0_isLikely (nI a) (nI b) rows = some 1) ∧ (¬ lk9 q a b r → fX0_isLikely (nI a) (nI b) rows = some 0) := by
  obtain ⟨f1, f2, f3⟩ := row_ways hR hv
  have lb := (aH_b h9 6 (by omega)).2
  have l6 : (36 : Nat) ^ 6 < 2 ^ 32 := by decide
  have m1 : vV (idl9 q r) (cw9 q r) 6 0 0 * b ≤ 2 ^ 32 * 99 := Nat.mul_le_mul (by omega) hb
  have m2 : aH q 6 * a ≤ 2 ^ 32 * 99 := Nat.mul_le_mul (by omega) ha
  have e : (lN (vV (idl9 q r) (cw9 q r) 6 0 0 * b) < lN (aH q 6 * a)) ↔ vV (idl9 q r) (cw9 q r) 6 0 0 * b < aH q 6 * a := by
    rw [Int64.lt_iff_toInt_lt, pf_lI (by omega), pf_lI (by omega)]
    omega
  unfold fX0_isLikely lk9
  rw [f1, some_bind9, f2, some_bind9, nI_l (by omega), nI_l (by omega), lN_mul, lN_mul]
  constructor
  · intro h
    rw [if_neg (fun g => by rw [lg_cmp_lt, e] at g; omega)]
  · intro h
    rw [if_pos (by rw [lg_cmp_lt, e]; omega)]
theorem pre_step {q r : Nat → Nat} {h u x : Nat} {rows rows' : Nat → Int64} {told told' : Nat → Int32} (hP : Pre9 q r h u rows told) (hR : RowsOk q (updN r h x) (h + 1) rows') (hT : ∀ k, k < h + 1 → told' k = nI (updN r h x k)) (hx : valid9 q (updN r h x) h) {u' : Nat} (hu : u' < 16) (hd : x = 9 ∨ ∀ k, k < h → r k ≠ x) (hb : ∀ s, s < 4 → (u'.testBit s = true ↔ (u.testBit s = true ∨ x = s))) : Pre9 q (updN r h x) (h + 1) u' rows' told' := by
  obtain ⟨p1, p2, p3, p4, p5, p6⟩ := hP
  have o : ∀ k, k < h → updN r h x k = r k := fun k hk => if_neg (by omega)
  have oh : updN r h x h = x := if_pos rfl
  refine ⟨hR, hT, fun k hk => ?_, fun i j hij hj n9 => ?_, hu, fun s hs => ?_⟩
  · rcases Nat.lt_or_ge k h with g | g
    · unfold valid9; rw [o k g]; exact p3 k g
    · rw [show k = h by omega]; exact hx
  · rcases Nat.lt_or_ge j h with g | g
    · rw [o i (by omega), o j g]
      rw [o i (by omega)] at n9
      exact p4 i j hij g n9
    · have ej : j = h := by omega
      subst ej
      rw [o i hij, oh]
      rw [o i hij] at n9
      rcases hd with z | z
      · rw [z]; exact n9
      · exact z i hij
  · rw [hb s hs, p6 s hs]
    constructor
    · rintro (⟨k, g1, g2⟩ | g)
      · exact ⟨k, by omega, by rw [o k g1]; exact g2⟩
      · exact ⟨h, by omega, by rw [oh]; exact g⟩
    · rintro ⟨k, g1, g2⟩
      rcases Nat.lt_or_ge k h with g | g
      · exact Or.inl ⟨k, g, by rw [← o k g]; exact g2⟩
      · right
        rw [show k = h by omega, oh] at g2
        exact g2
theorem rows_back {q r : Nat → Nat} {h x : Nat} {rows : Nat → Int64} {told : Nat → Int32} (hR : RowsOk q (updN r h x) (h + 1) rows) (hT : ∀ k, k < h + 1 → told k = nI (updN r h x k)) : RowsOk q r h rows ∧ ∀ k, k < h → told k = nI (r k) := by
  have o : ∀ k, k < h → updN r h x k = r k := fun k hk => if_neg (by omega)
  refine ⟨fun k hk T hT2 => ?_, fun k hk => by rw [hT k (by omega), o k hk]⟩
  rw [hR k (by omega) T hT2, cPr_cg (fun i hi => o i (by omega)) T]
theorem comp_down {q r y : Nat → Nat} {a b d h more x : Nat} (hc : Comp9 q a b r (d + 1) h more y) (hx : y h = x) : Comp9 q a b (updN r h x) d (h + 1) (more - (if x = 9 then 0 else 1)) y ∧ (x = 9 ∨ 1 ≤ more) := by
  obtain ⟨c1, c2, c3, c4, c5⟩ := hc
  rw [ctF, hx] at c4
  refine ⟨⟨fun k hk => ?_, c2, c3, by omega, c5⟩, ?_⟩
  · by_cases g : k = h
    · rw [g, hx]; exact (if_pos rfl).symm
    · rw [c1 k (by omega)]; exact (if_neg g).symm
  · by_cases g : x = 9
    · exact Or.inl g
    · right; rw [if_neg g] at c4; omega
theorem comp_up {q r y : Nat → Nat} {a b d h more x : Nat} (hc : Comp9 q a b (updN r h x) d (h + 1) more y) : y h = x ∧ Comp9 q a b r (d + 1) h (more + (if x = 9 then 0 else 1)) y := by
  obtain ⟨c1, c2, c3, c4, c5⟩ := hc
  have e : y h = x := by rw [c1 h (by omega)]; exact if_pos rfl
  refine ⟨e, fun k hk => ?_, c2, c3, ?_, c5⟩
  · rw [c1 k (by omega)]; exact if_neg (by omega)
  · rw [ctF, e, c4]; omega
theorem sort_b : ∀ u, u < 16 → ∀ s, s < 4 → (nI u ||| ((1 : Int32) <<< (nI s &&& 31))) = nI (u ||| 2 ^ s) ∧ u ||| 2 ^ s < 16 ∧ ∀ t, t < 4 → ((u ||| 2 ^ s).testBit t = true ↔ (u.testBit t = true ∨ s = t)) := by decide +kernel
theorem tell_loop {q r : Nat → Nat} {V : Nat → Int32} {av : Nat → Int64} {a b d h more u : Nat} (hV : ∀ j, j < 24 → V j = nI (q j)) (h9 : ∀ j, j < 24 → q j ≤ 9) (hav : ∀ j, j < 96 → av j = lN (avN q (j / 16) (j % 16))) (hd : h + (d + 1) = 6) (hm : more ≤ 6) {rec9 : Int32 → Int32 → (Nat → Int64) → (Nat → Int64) → (Nat → Int32) → (Nat → Int32) → Int32 → Int32 → Int32 → Option (Int32 × (Nat → Int64) × (Nat → Int32))}
    (hrec : ∀ (r : Nat → Nat) (more u : Nat) (rows : Nat → Int64) (told : Nat → Int32), more ≤ 6 → Pre9 q r (h + 1) u rows told → Tell9 q a b r d (h + 1) more (rec9 (nI a) (nI b) av rows told V (nI (h + 1)) (nI more) (nI u)))
    (hno9 : ∀ y, Comp9 q a b r (d + 1) h more y → y h ≠ 9) : ∀ (e s f : Nat) (rows : Nat → Int64) (told : Nat → Int32), s + e = 4 → e < f → Pre9 q r h u rows told → (∀ y, Comp9 q a b r (d + 1) h more y → s ≤ y h) → Tell9 q a b r (d + 1) h more (it3 (X0_tell_S59 (nI a) (nI b) av V (nI h) (nI more) (nI u) rec9) f (nI s) rows told)
  | 0, s, f, rows, told, hs, hf, hP, hlo => by
    obtain ⟨f, rfl⟩ : ∃ m, f = m + 1 := ⟨f - 1, by omega⟩
    have es : s = 4 := by omega
    subst es
    right
    refine ⟨rows, told, ?_, hP.1, hP.2.1, fun y hy => ?_⟩
    · show X0_tell_S59 (nI a) (nI b) av V (nI h) (nI more) (nI u) rec9 (it3 _ f) (nI 4) rows told = _
      simp only [X0_tell_S59, if_pos (show (4 : Int32) ≤ nI 4 by decide)]
    · have g1 := hlo y hy
      have g2 := hno9 y hy
      have g3 := hy.2.1 h (by omega)
      rcases g3 with z | z
      · exact g2 z
      · omega
  | e + 1, s, f, rows, told, hs, hf, hP, hlo => by
    obtain ⟨f, rfl⟩ : ∃ m, f = m + 1 := ⟨f - 1, by omega⟩
    have hs4 : s < 4 := by omega
    have hh : h < 6 := by omega
    have c4 : ¬ (4 : Int32) ≤ nI s := nI_ge (a := s) (b := 4) hs4 (by omega)
    show Tell9 q a b r (d + 1) h more (X0_tell_S59 (nI a) (nI b) av V (nI h) (nI more) (nI u) rec9 (it3 (X0_tell_S59 (nI a) (nI b) av V (nI h) (nI more) (nI u) rec9) f) (nI s) rows told)
    rcases Nat.eq_zero_or_pos more with z | hp
    · subst z
      right
      refine ⟨rows, told, ?_, hP.1, hP.2.1, fun y hy => ?_⟩
      · simp only [X0_tell_S59, if_neg c4, if_pos (show nI 0 ≤ 0 by decide)]
      · rcases (comp_down hy rfl).2 with g | g
        · exact hno9 y hy g
        · omega
    · have nm : ¬ nI more ≤ 0 := nI_nle hp (by omega)
      have hq9 := h9 (4 * h + s) (by omega)
      have skip : (∀ y, Comp9 q a b r (d + 1) h more y → y h ≠ s) → Tell9 q a b r (d + 1) h more (it3 (X0_tell_S59 (nI a) (nI b) av V (nI h) (nI more) (nI u) rec9) f (nI (s + 1)) rows told) := fun hne =>
        tell_loop hV h9 hav hd hm hrec hno9 e (s + 1) f rows told (by omega) (by omega) hP (fun y hy => by
          have := hlo y hy
          have := hne y hy
          omega)
      simp only [X0_tell_S59, X0_tell_J119, if_neg c4, if_neg nm, of_eq hh hs4, hV (4 * h + s) (by omega), some_bind9, lets_def, Lp1]
      by_cases hz : q (4 * h + s) = 0
      · rw [if_pos ((q_le0 hq9).mpr hz)]
        refine skip (fun y hy e => ?_)
        have g3 := hy.2.1 h hh
        rw [valid9, e] at g3
        rcases g3 with z | z <;> omega
      · rw [if_neg (fun g => hz ((q_le0 hq9).mp g))]
        obtain ⟨p1, p2, p3, p4, p5, p6⟩ := id hP
        by_cases hbit : u.testBit s = true
        · rw [if_neg (fun g => by rw [bit_is0 (by omega) (by omega)] at g; rw [hbit] at g; exact absurd g (by decide))]
          refine skip (fun y hy e => ?_)
          obtain ⟨k, k1, k2⟩ := (p6 s hs4).mp hbit
          have := hy.2.2.1 k h k1 hh (by rw [hy.1 k k1, k2]; omega)
          rw [hy.1 k k1, k2, e] at this
          exact this rfl
        · have hbf : u.testBit s = false := by simpa using hbit
          rw [if_pos ((bit_is0 (by omega) (by omega)).mpr hbf)]
          obtain ⟨rows', told', e1, e2, e3⟩ := decide_ok hav (x := s) hh (Or.inr hs4) p1 p2
          obtain ⟨u1, u2, u3⟩ := sort_b u p5 s hs4
          have oh : updN r h s h = s := if_pos rfl
          have hP' := pre_step hP e2 e3 (Or.inr (by rw [oh]; exact ⟨hs4, by omega⟩)) u2 (Or.inr (fun k hk e => hbit ((p6 s hs4).mpr ⟨k, hk, e⟩))) u3
          have em : nI more - 1 = nI (more - 1) := pk_sub (a := more) (b := 1) hp
          simp only [e1, some_bind9, em, u1]
          have hr := hrec (updN r h s) (more - 1) (u ||| 2 ^ s) rows' told' (by omega) hP'
          have n9 : ¬ s = 9 := by omega
          rcases hr with ⟨rows2, told2, x, q1, q2, q3, q4⟩ | ⟨rows2, told2, q1, q2, q3, q4⟩
          · rw [q1, some_bind9]
            simp only [if_neg one_ne]
            left
            obtain ⟨w1, w2⟩ := comp_up q2
            rw [if_neg n9, show more - 1 + 1 = more by omega] at w2
            refine ⟨rows2, told2, x, rfl, w2, q3, fun y hy => ?_⟩
            have lo := hlo y hy
            rcases Nat.lt_or_ge s (y h) with g | g
            · have l1 := num_lt (r := x) d (h + 1) (fun k _ k2 => by
                rcases w2.2.1 k (by omega) with z | z
                · exact Or.inl z
                · exact Or.inr z.1)
              have y9 := hno9 y hy
              have m : (s + 2) * 5 ^ d ≤ (y h + 1) * 5 ^ d := Nat.mul_le_mul_right _ (by omega)
              rw [numF, numF, w1]
              unfold dg9
              rw [if_neg n9, if_neg y9]
              rw [show s + 2 = s + 1 + 1 by omega, Nat.add_mul (s + 1) 1, Nat.one_mul] at m
              omega
            · have ey : y h = s := by omega
              have hc := (comp_down hy ey).1
              rw [if_neg n9] at hc
              have := q4 y hc
              rw [numF, numF, w1, ey]
              omega
          · rw [q1, some_bind9]
            simp only [if_pos]
            obtain ⟨w1, w2⟩ := rows_back q2 q3
            refine tell_loop hV h9 hav hd hm hrec hno9 e (s + 1) f rows2 told2 (by omega) (by omega) ⟨w1, w2, p3, p4, p5, p6⟩ (fun y hy => ?_)
            have lo := hlo y hy
            rcases Nat.lt_or_ge s (y h) with g | g
            · exact g
            · have ey : y h = s := by omega
              have hc := (comp_down hy ey).1
              rw [if_neg n9] at hc
              exact absurd hc (q4 y)
theorem tell_ok {q : Nat → Nat} {V : Nat → Int32} {av : Nat → Int64} {a b : Nat} (ha : a ≤ 99) (hb : b ≤ 99) (hV : ∀ j, j < 24 → V j = nI (q j)) (h9 : ∀ j, j < 24 → q j ≤ 9) (hav : ∀ j, j < 96 → av j = lN (avN q (j / 16) (j % 16))) : ∀ (d h : Nat) (r : Nat → Nat) (more u : Nat) (rows : Nat → Int64) (told : Nat → Int32), h + d = 6 → more ≤ 6 → Pre9 q r h u rows told → Tell9 q a b r d h more (fX0_tell (d + 1) (nI a) (nI b) av rows told V (nI h) (nI more) (nI u))
  | 0, h, r, more, u, rows, told, hd, hm, hP => by
    have eh : h = 6 := by omega
    subst eh
    obtain ⟨p1, p2, p3, p4, p5, p6⟩ := hP
    show Tell9 q a b r 0 6 more (fX0_tell_step (fX0_tell 0) (nI a) (nI b) av rows told V (nI 6) (nI more) (nI u))
    rcases Nat.eq_zero_or_pos more with z | hp
    · subst z
      by_cases hl : lk9 q a b r
      · left
        refine ⟨rows, told, r, ?_, ⟨fun _ _ => rfl, p3, p4, rfl, hl⟩, p2, fun y _ => Nat.le_refl _⟩
        simp only [fX0_tell_step, if_neg (show ¬ nI 6 < 6 by decide), if_pos (show nI 0 = 0 from rfl), (likely_eq ha hb h9 p1 p3).1 hl, some_bind9, if_neg one_ne]
      · right
        refine ⟨rows, told, ?_, p1, p2, fun y hy => hl ?_⟩
        · simp only [fX0_tell_step, if_neg (show ¬ nI 6 < 6 by decide), if_pos (show nI 0 = 0 from rfl), (likely_eq ha hb h9 p1 p3).2 hl, some_bind9, if_pos]
        · obtain ⟨c1, -, -, -, c5⟩ := hy
          unfold lk9 at c5 ⊢
          rw [← vr_cg c1]; exact c5
    · right
      refine ⟨rows, told, ?_, p1, p2, fun y hy => ?_⟩
      · simp only [fX0_tell_step, if_neg (show ¬ nI 6 < 6 by decide), if_neg (nI_ne0 hp (by omega))]
      · have := hy.2.2.2.1
        simp only [ctF] at this
        omega
  | d + 1, h, r, more, u, rows, told, hd, hm, hP => by
    have hh : h < 6 := by omega
    obtain ⟨p1, p2, p3, p4, p5, p6⟩ := id hP
    have c6 : nI h < 6 := nI_lt (a := h) (b := 6) hh (by omega)
    have e6 : (6 : Int32) - nI h = nI (6 - h) := pk_sub (a := 6) (b := h) (by omega)
    show Tell9 q a b r (d + 1) h more (fX0_tell_step (fX0_tell (d + 1)) (nI a) (nI b) av rows told V (nI h) (nI more) (nI u))
    rcases Nat.lt_or_ge (6 - h) more with g | g
    · right
      refine ⟨rows, told, ?_, p1, p2, fun y hy => ?_⟩
      · simp only [fX0_tell_step, if_pos c6, e6, if_neg (nI_ge (a := 6 - h) (b := more) g (by omega))]
      · have := ct_le (r := y) (d + 1) h
        rw [hy.2.2.2.1] at this
        omega
    · obtain ⟨rows', told', e1, e2, e3⟩ := decide_ok hav (x := 9) hh (Or.inl rfl) p1 p2
      have e9 : fX0_decide av rows told (nI h) 9 = some (rows', told') := e1
      have oh : updN r h 9 h = 9 := if_pos rfl
      have hP' := pre_step hP e2 e3 (Or.inl oh) p5 (Or.inl rfl) (fun s hs => ⟨fun z => Or.inl z, fun z => by
        rcases z with z | z
        · exact z
        · omega⟩)
      have hr := tell_ok ha hb hV h9 hav d (h + 1) (updN r h 9) more u rows' told' (by omega) hm hP'
      simp only [fX0_tell_step, if_pos c6, e6, if_pos (nI_le g (show 6 - h < 2 ^ 31 by omega)), e9, some_bind9, Lp1]
      rcases hr with ⟨rows2, told2, x, q1, q2, q3, q4⟩ | ⟨rows2, told2, q1, q2, q3, q4⟩
      · rw [q1, some_bind9]
        simp only [if_neg one_ne]
        left
        obtain ⟨w1, w2⟩ := comp_up q2
        rw [if_pos rfl, Nat.add_zero] at w2
        refine ⟨rows2, told2, x, rfl, w2, q3, fun y hy => ?_⟩
        have l1 := num_lt (r := x) d (h + 1) (fun k _ k2 => by
          rcases w2.2.1 k (by omega) with z | z
          · exact Or.inl z
          · exact Or.inr z.1)
        rw [numF, numF, w1]
        by_cases ey : y h = 9
        · have hc := (comp_down hy ey).1
          rw [if_pos rfl, Nat.sub_zero] at hc
          have := q4 y hc
          rw [ey]
          omega
        · have m : 1 * 5 ^ d ≤ (y h + 1) * 5 ^ d := Nat.mul_le_mul_right _ (by omega)
          unfold dg9
          rw [if_pos rfl, if_neg ey]
          omega
      · rw [q1, some_bind9]
        simp only [if_pos]
        obtain ⟨w1, w2⟩ := rows_back q2 q3
        exact tell_loop hV h9 hav hd hm (fun r more u rows told hm hP => tell_ok ha hb hV h9 hav d (h + 1) r more u rows told (by omega) hm hP) (fun y hy ey => by
          have hc := (comp_down hy ey).1
          rw [if_pos rfl, Nat.sub_zero] at hc
          exact q4 y hc) 4 0 100000 rows2 told2 (by omega) (by omega) ⟨w1, w2, p3, p4, p5, p6⟩ (fun y _ => Nat.zero_le _)
/-- what the class finds -/
def Fewest9 (q : Nat → Nat) (a b : Nat) (res : Option (Int32 × Int32 × Int32 × (Nat → Int64) × (Nat → Int64) × (Nat → Int32))) : Prop :=
  (∃ m x av rows told, res = some (nI m, nI a, nI b, av, rows, told) ∧ m ≤ 4 ∧ Comp9 q a b (fun _ => 9) 6 0 m x ∧ (∀ k, k < 6 → told k = nI (x k)) ∧ (∀ y, Comp9 q a b (fun _ => 9) 6 0 m y → numF x 6 0 ≤ numF y 6 0) ∧ ∀ m', m' < m → ∀ y, ¬ Comp9 q a b (fun _ => 9) 6 0 m' y) ∨
  (∃ av rows told, res = some (-9, nI a, nI b, av, rows, told) ∧ ∀ m', m' ≤ 4 → ∀ y, ¬ Comp9 q a b (fun _ => 9) 6 0 m' y)
theorem fewest_go {q : Nat → Nat} {V : Nat → Int32} {av rows0 : Nat → Int64} {a b : Nat} (ha : a ≤ 99) (hb : b ≤ 99) (hV : ∀ j, j < 24 → V j = nI (q j)) (h9 : ∀ j, j < 24 → q j ≤ 9) (hav : ∀ j, j < 96 → av j = lN (avN q (j / 16) (j % 16))) : ∀ (d m f : Nat) (rows : Nat → Int64) (told : Nat → Int32), m + d = 5 → d < f → RowsOk q (fun _ => 9) 0 rows → (∀ m', m' < m → ∀ y, ¬ Comp9 q a b (fun _ => 9) 6 0 m' y) → Fewest9 q a b (it3 (X0_fewestTold_S18 V (nI a) (nI b) (av, rows0)) f (nI m) rows told)
  | 0, m, f, rows, told, hd, hf, hR, hno => by
    obtain ⟨f, rfl⟩ : ∃ k, f = k + 1 := ⟨f - 1, by omega⟩
    have e : m = 5 := by omega
    subst e
    right
    refine ⟨av, rows, told, ?_, fun m' hm' => hno m' (by omega)⟩
    show X0_fewestTold_S18 V (nI a) (nI b) (av, rows0) (it3 _ f) (nI 5) rows told = _
    simp only [X0_fewestTold_S18, if_pos (show (4 : Int32) < nI 5 by decide)]
  | d + 1, m, f, rows, told, hd, hf, hR, hno => by
    obtain ⟨f, rfl⟩ : ∃ k, f = k + 1 := ⟨f - 1, by omega⟩
    have hP : Pre9 q (fun _ => 9) 0 0 rows told := ⟨hR, fun k hk => absurd hk (by omega), fun k hk => absurd hk (by omega), fun i j h1 h2 => absurd h2 (by omega), by omega, fun s hs => ⟨fun z => absurd z (by simp), fun ⟨k, hk, _⟩ => absurd hk (by omega)⟩⟩
    have ht := tell_ok ha hb hV h9 hav 6 0 (fun _ => 9) m 0 rows told (by omega) (by omega) hP
    show Fewest9 q a b (X0_fewestTold_S18 V (nI a) (nI b) (av, rows0) (it3 (X0_fewestTold_S18 V (nI a) (nI b) (av, rows0)) f) (nI m) rows told)
    have e0 : fX0_tell (6 + 1) (nI a) (nI b) av rows told V (nI 0) (nI m) (nI 0) = fX0_tell 7 (nI a) (nI b) av rows told V 0 (nI m) 0 := rfl
    rw [e0] at ht
    simp only [X0_fewestTold_S18, if_neg (show ¬ (4 : Int32) < nI m from nI_nlt (a := 4) (b := m) (by omega) (by omega))]
    rcases ht with ⟨rows2, told2, x, q1, q2, q3, q4⟩ | ⟨rows2, told2, q1, q2, q3, q4⟩
    · rw [q1, some_bind9]
      simp only [if_neg one_ne]
      left
      exact ⟨m, x, av, rows2, told2, rfl, by omega, q2, q3, q4, hno⟩
    · rw [q1, some_bind9]
      simp only [if_pos, lets_def, Lp1]
      refine fewest_go ha hb hV h9 hav d (m + 1) f rows2 told2 (by omega) (by omega) q2 (fun m' hm' => ?_)
      rcases Nat.lt_or_ge m' m with g | g
      · exact hno m' g
      · rw [show m' = m by omega]; exact q4
theorem fewest_eq {q : Nat → Nat} {V : Nat → Int32} {av rows : Nat → Int64} {told : Nat → Int32} {a b : Nat} (ha : a ≤ 99) (hb : b ≤ 99) (hV : ∀ j, j < 24 → V j = nI (q j)) (h9 : ∀ j, j < 24 → q j ≤ 9) : Fewest9 q a b (fX0_fewestTold av rows told V (nI a) (nI b)) := by
  have hp := prepare_eq hV h9 (av := av) (rows := rows)
  unfold fX0_fewestTold
  rw [hp, some_bind9]
  have g := fewest_go ha hb hV h9 (av := fa_fill (fun j => lN (avN q (j / 16) (j % 16))) av 96) (rows0 := fa_fill (fun _ => 1) rows 16) (fun j hj => fa_fill_in hj) 5 0 100000 (fa_fill (fun _ => 1) rows 16) told (by omega) (by omega) (fun k hk T hT => by
    have : k = 0 := by omega
    subst this
    rw [Nat.mul_zero, Nat.zero_add, fa_fill_in hT]; rfl) (fun m' hm' => absurd hm' (by omega))
  generalize fa_fill (fun j => lN (avN q (j / 16) (j % 16))) av 96 = A9 at g ⊢
  generalize fa_fill (fun _ => (1 : Int64)) rows 16 = R9 at g ⊢
  exact g
