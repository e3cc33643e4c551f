/-! ways to all sorts: by what is there, and by inclusion and exclusion -/
def vV (id9 : Nat → Bool) (w : Nat → Nat → Nat) : Nat → Nat → Nat → Nat
  | 0, _, S => if S = 15 then 1 else 0
  | d + 1, h, S => if id9 h = true then vV id9 w d (h + 1) S else fb_sm (fun s => w h s * vV id9 w d (h + 1) (S ||| 2 ^ s)) 4
def facI (id9 : Nat → Bool) (w : Nat → Nat → Nat) (h T : Nat) : Nat := if id9 h = true then 1 else fb_sm (fun s => if T.testBit s = true then 0 else w h s) 4
def Pd9 (id9 : Nat → Bool) (w : Nat → Nat → Nat) : Nat → Nat → Nat → Nat
  | 0, _, _ => 1
  | d + 1, h, T => facI id9 w h T * Pd9 id9 w d (h + 1) T
def pcN (T : Nat) : Nat := T % 2 + T / 2 % 2 + T / 4 % 2 + T / 8 % 2
def sg9 (T : Nat) : Int := if pcN T % 2 = 0 then 1 else -1
def ind9 (S T : Nat) : Nat := if T &&& S = 0 then 1 else 0
theorem ind_0 : ∀ S, S < 16 → (if S = 15 then (1 : Int) else 0) = fb_si (fun T => sg9 T * ((ind9 S T : Nat) : Int)) 16 := by decide +kernel
theorem ind_s : ∀ S, S < 16 → ∀ T, T < 16 → ∀ s, s < 4 → ind9 (S ||| 2 ^ s) T = ind9 S T * (if T.testBit s = true then 0 else 1) := by decide +kernel
theorem or_lt : ∀ S, S < 16 → ∀ s, s < 4 → S ||| 2 ^ s < 16 := by decide +kernel
theorem si4 (c : Nat → Int) (f : Nat → Nat → Int) (n : Nat) : c 0 * fb_si (f 0) n + c 1 * fb_si (f 1) n + c 2 * fb_si (f 2) n + c 3 * fb_si (f 3) n = fb_si (fun T => c 0 * f 0 T + c 1 * f 1 T + c 2 * f 2 T + c 3 * f 3 T) n := by
  rw [fb_si_add (fun T => c 0 * f 0 T + c 1 * f 1 T + c 2 * f 2 T) (fun T => c 3 * f 3 T), fb_si_add (fun T => c 0 * f 0 T + c 1 * f 1 T) (fun T => c 2 * f 2 T), fb_si_add (fun T => c 0 * f 0 T) (fun T => c 1 * f 1 T), fb_si_mul, fb_si_mul, fb_si_mul, fb_si_mul]
theorem point9 (g a p c0 c1 c2 c3 : Int) (n0 n1 n2 n3 : Int) : c0 * (g * (a * n0 * p)) + c1 * (g * (a * n1 * p)) + c2 * (g * (a * n2 * p)) + c3 * (g * (a * n3 * p)) = g * (a * ((n0 * c0 + n1 * c1 + n2 * c2 + n3 * c3) * p)) := by
  simp only [Int.mul_add, Int.add_mul, Int.mul_assoc, Int.mul_comm, Int.mul_left_comm]
theorem inc_exc {id9 : Nat → Bool} {w : Nat → Nat → Nat} : ∀ (d h S : Nat), S < 16 → ((vV id9 w d h S : Nat) : Int) = fb_si (fun T => sg9 T * (((ind9 S T : Nat) : Int) * ((Pd9 id9 w d h T : Nat) : Int))) 16
  | 0, h, S, hS => by
    have e := ind_0 S hS
    simp only [vV, Pd9]
    rw [show (((if S = 15 then 1 else 0 : Nat)) : Int) = (if S = 15 then (1 : Int) else 0) by split <;> rfl, e]
    exact fb_si_cong (fun T _ => by simp)
  | d + 1, h, S, hS => by
    by_cases hi : id9 h = true
    · simp only [vV, Pd9, facI, if_pos hi, Nat.one_mul]
      exact inc_exc d (h + 1) S hS
    · simp only [vV, Pd9, facI, if_neg hi]
      have i0 := inc_exc (id9 := id9) (w := w) d (h + 1) (S ||| 2 ^ 0) (or_lt S hS 0 (by omega))
      have i1 := inc_exc (id9 := id9) (w := w) d (h + 1) (S ||| 2 ^ 1) (or_lt S hS 1 (by omega))
      have i2 := inc_exc (id9 := id9) (w := w) d (h + 1) (S ||| 2 ^ 2) (or_lt S hS 2 (by omega))
      have i3 := inc_exc (id9 := id9) (w := w) d (h + 1) (S ||| 2 ^ 3) (or_lt S hS 3 (by omega))
      rw [sm4]
      simp only [Int.natCast_add, Int.natCast_mul]
      rw [i0, i1, i2, i3]
      refine (si4 (fun s => ((w h s : Nat) : Int)) (fun s T => sg9 T * (((ind9 (S ||| 2 ^ s) T : Nat) : Int) * ((Pd9 id9 w d (h + 1) T : Nat) : Int))) 16).trans ?_
      refine fb_si_cong (fun T hT => ?_)
      have j0 := ind_s S hS T hT 0 (by omega)
      have j1 := ind_s S hS T hT 1 (by omega)
      have j2 := ind_s S hS T hT 2 (by omega)
      have j3 := ind_s S hS T hT 3 (by omega)
      have k : ∀ s, (((if T.testBit s = true then 0 else w h s : Nat)) : Int) = (((if T.testBit s = true then 0 else 1 : Nat)) : Int) * ((w h s : Nat) : Int) := fun s => by split <;> simp
      rw [sm4]
      simp only [j0, j1, j2, j3, Int.natCast_add, Int.natCast_mul, k]
      exact point9 _ _ _ _ _ _ _ _ _ _ _
theorem vV_le {id9 : Nat → Bool} {w : Nat → Nat → Nat} : ∀ (d h S : Nat), vV id9 w d h S ≤ Pd9 id9 w d h 0
  | 0, h, S => by unfold vV Pd9; split <;> omega
  | d + 1, h, S => by
    unfold vV Pd9 facI
    split
    · rw [Nat.one_mul]; exact vV_le d (h + 1) S
    · rw [sm4, sm4]
      simp only [Nat.zero_testBit, Bool.false_eq_true, if_false, Nat.add_mul]
      have e0 := Nat.mul_le_mul_left (w h 0) (vV_le (id9 := id9) (w := w) d (h + 1) (S ||| 2 ^ 0))
      have e1 := Nat.mul_le_mul_left (w h 1) (vV_le (id9 := id9) (w := w) d (h + 1) (S ||| 2 ^ 1))
      have e2 := Nat.mul_le_mul_left (w h 2) (vV_le (id9 := id9) (w := w) d (h + 1) (S ||| 2 ^ 2))
      have e3 := Nat.mul_le_mul_left (w h 3) (vV_le (id9 := id9) (w := w) d (h + 1) (S ||| 2 ^ 3))
      omega
theorem or_swap (S a b : Nat) : S ||| a ||| b = S ||| b ||| a := by rw [Nat.or_assoc, Nat.or_comm a b, ← Nat.or_assoc]
theorem or_15 : ∀ S, S < 16 → ∀ s, s < 4 → S = 15 → S ||| 2 ^ s = 15 := by decide +kernel
/-- more sorts there, more ways -/
theorem vV_mono {id9 : Nat → Bool} {w : Nat → Nat → Nat} : ∀ (d h S s : Nat), S < 16 → s < 4 → vV id9 w d h S ≤ vV id9 w d h (S ||| 2 ^ s)
  | 0, h, S, s, hS, hs => by
    unfold vV
    by_cases e : S = 15
    · rw [if_pos e, if_pos (or_15 S hS s hs e)]; exact Nat.le_refl 1
    · rw [if_neg e]; exact Nat.zero_le _
  | d + 1, h, S, s, hS, hs => by
    unfold vV
    split
    · exact vV_mono d (h + 1) S s hS hs
    · refine fb_sm_le (fun t ht => Nat.mul_le_mul_left _ ?_)
      rw [or_swap S (2 ^ s) (2 ^ t)]
      exact vV_mono d (h + 1) (S ||| 2 ^ t) s (or_lt S hS t ht) hs
theorem vV_cg {id9 id9' : Nat → Bool} {w w' : Nat → Nat → Nat} : ∀ (d h S : Nat), (∀ k, h ≤ k → k < h + d → id9 k = id9' k ∧ ∀ s, s < 4 → w k s = w' k s) → vV id9 w d h S = vV id9' w' d h S
  | 0, h, S, _ => rfl
  | d + 1, h, S, hc => by
    have g := hc h (Nat.le_refl h) (by omega)
    unfold vV
    rw [g.1, vV_cg d (h + 1) S (fun k h1 h2 => hc k (by omega) (by omega))]
    split
    · rfl
    · exact fb_sm_cong (fun s hs => by rw [g.2 s hs, vV_cg d (h + 1) _ (fun k h1 h2 => hc k (by omega) (by omega))])
theorem vV_idle {id9 : Nat → Bool} {w : Nat → Nat → Nat} : ∀ (d h S : Nat), (∀ k, h ≤ k → k < h + d → id9 k = true) → vV id9 w d h S = if S = 15 then 1 else 0
  | 0, h, S, _ => rfl
  | d + 1, h, S, hc => by
    unfold vV
    rw [if_pos (hc h (Nat.le_refl h) (by omega))]
    exact vV_idle d (h + 1) S (fun k h1 h2 => hc k (by omega) (by omega))
theorem vV_short {id9 : Nat → Bool} {w : Nat → Nat → Nat} : ∀ (d e h S : Nat), (∀ k, h + d ≤ k → k < h + d + e → id9 k = true) → vV id9 w (d + e) h S = vV id9 w d h S
  | 0, e, h, S, hc => by
    rw [Nat.zero_add]
    exact vV_idle e h S (fun k h1 h2 => hc k (by omega) (by omega))
  | d + 1, e, h, S, hc => by
    rw [show d + 1 + e = d + e + 1 by omega]
    unfold vV
    split
    · exact vV_short d e (h + 1) S (fun k h1 h2 => hc k (by omega) (by omega))
    · exact fb_sm_cong (fun s hs => by rw [vV_short d e (h + 1) _ (fun k h1 h2 => hc k (by omega) (by omega))])
/-- weights a house's factor times as heavy -/
theorem vV_scale {id9 : Nat → Bool} {w w' : Nat → Nat → Nat} {c : Nat → Nat} : ∀ (d h S : Nat), (∀ k, h ≤ k → k < h + d → ∀ s, s < 4 → w' k s = c k * w k s) → (∀ k, h ≤ k → k < h + d → id9 k = true → c k = 1) → ∃ D, (D = Pd9 (fun _ => false) (fun k s => if s = 0 then c k else 0) d h 0) ∧ vV id9 w' d h S = D * vV id9 w d h S
  | 0, h, S, _, _ => ⟨1, rfl, (Nat.one_mul _).symm⟩
  | d + 1, h, S, hc, h1 => by
    have ef : facI (fun _ => false) (fun k s => if s = 0 then c k else 0) h 0 = c h := by
      unfold facI
      rw [if_neg (show ¬ (fun _ => false) h = true from Bool.false_ne_true), sm4]
      simp
    refine ⟨_, rfl, ?_⟩
    unfold Pd9
    rw [ef]
    have ih : ∀ S, vV id9 w' d (h + 1) S = Pd9 (fun _ => false) (fun k s => if s = 0 then c k else 0) d (h + 1) 0 * vV id9 w d (h + 1) S := fun S => by
      obtain ⟨D, e1, e2⟩ := vV_scale (id9 := id9) (w := w) (w' := w') (c := c) d (h + 1) S (fun k a b => hc k (by omega) (by omega)) (fun k a b => h1 k (by omega) (by omega))
      rw [e2, e1]
    generalize Pd9 (fun _ => false) (fun k s => if s = 0 then c k else 0) d (h + 1) 0 = D at ih ⊢
    unfold vV
    by_cases hi : id9 h = true
    · rw [if_pos hi, if_pos hi, ih, h1 h (Nat.le_refl h) (by omega) hi, Nat.one_mul]
    · rw [if_neg hi, if_neg hi, sm4, sm4, hc h (Nat.le_refl h) (by omega) 0 (by omega), hc h (Nat.le_refl h) (by omega) 1 (by omega), hc h (Nat.le_refl h) (by omega) 2 (by omega), hc h (Nat.le_refl h) (by omega) 3 (by omega)]
      simp only [ih, Nat.mul_add, Nat.mul_assoc, Nat.mul_comm, Nat.mul_left_comm]
