/-! runs of loops, guards, sums: the pure side -/
theorem lets_def {α β : Type} (a : α) (k : α → Option β) : lets a k = k a := rfl
theorem okx_nI {k n : Nat} (h : k < n) (hn : n < 2 ^ 31) : okx (nI k) n := vp_in_nI h hn
theorem it1_run {A0 R : Type} {f : (A0 → Option R) → A0 → Option R} (N : Nat) (a0 : Nat → A0) (out : Option R) (hs : ∀ i, i < N → ∀ self, f self (a0 i) = self (a0 (i + 1))) (ho : ∀ self, f self (a0 N) = out) (n : Nat) (hn : N < n) : it1 f n (a0 0) = out := by
  have h : ∀ d k n, k + d = N → d < n → it1 f n (a0 k) = out := by
    intro d
    induction d with
    | zero =>
      intro k n hk hn
      obtain ⟨n, rfl⟩ : ∃ m, n = m + 1 := ⟨n - 1, by omega⟩
      have e : k = N := by omega
      subst e
      exact ho _
    | succ d ih =>
      intro k n hk hn
      obtain ⟨n, rfl⟩ : ∃ m, n = m + 1 := ⟨n - 1, by omega⟩
      exact (hs k (by omega) _).trans (ih (k + 1) n (by omega) (by omega))
  exact h N 0 n (by omega) hn
theorem it2_run {A0 A1 R : Type} {f : (A0 → A1 → Option R) → A0 → A1 → Option R} (N : Nat) (a0 : Nat → A0) (a1 : Nat → A1) (out : Option R) (hs : ∀ i, i < N → ∀ self, f self (a0 i) (a1 i) = self (a0 (i + 1)) (a1 (i + 1))) (ho : ∀ self, f self (a0 N) (a1 N) = out) (n : Nat) (hn : N < n) : it2 f n (a0 0) (a1 0) = out := by
  have h : ∀ d k n, k + d = N → d < n → it2 f n (a0 k) (a1 k) = out := by
    intro d
    induction d with
    | zero =>
      intro k n hk hn
      obtain ⟨n, rfl⟩ : ∃ m, n = m + 1 := ⟨n - 1, by omega⟩
      have e : k = N := by omega
      subst e
      exact ho _
    | succ d ih =>
      intro k n hk hn
      obtain ⟨n, rfl⟩ : ∃ m, n = m + 1 := ⟨n - 1, by omega⟩
      exact (hs k (by omega) _).trans (ih (k + 1) n (by omega) (by omega))
  exact h N 0 n (by omega) hn
theorem it3_run {A0 A1 A2 R : Type} {f : (A0 → A1 → A2 → Option R) → A0 → A1 → A2 → Option R} (N : Nat) (a0 : Nat → A0) (a1 : Nat → A1) (a2 : Nat → A2) (out : Option R) (hs : ∀ i, i < N → ∀ self, f self (a0 i) (a1 i) (a2 i) = self (a0 (i + 1)) (a1 (i + 1)) (a2 (i + 1))) (ho : ∀ self, f self (a0 N) (a1 N) (a2 N) = out) (n : Nat) (hn : N < n) : it3 f n (a0 0) (a1 0) (a2 0) = out := by
  have h : ∀ d k n, k + d = N → d < n → it3 f n (a0 k) (a1 k) (a2 k) = out := by
    intro d
    induction d with
    | zero =>
      intro k n hk hn
      obtain ⟨n, rfl⟩ : ∃ m, n = m + 1 := ⟨n - 1, by omega⟩
      have e : k = N := by omega
      subst e
      exact ho _
    | succ d ih =>
      intro k n hk hn
      obtain ⟨n, rfl⟩ : ∃ m, n = m + 1 := ⟨n - 1, by omega⟩
      exact (hs k (by omega) _).trans (ih (k + 1) n (by omega) (by omega))
  exact h N 0 n (by omega) hn
theorem it4_run {A0 A1 A2 A3 R : Type} {f : (A0 → A1 → A2 → A3 → Option R) → A0 → A1 → A2 → A3 → Option R} (N : Nat) (a0 : Nat → A0) (a1 : Nat → A1) (a2 : Nat → A2) (a3 : Nat → A3) (out : Option R) (hs : ∀ i, i < N → ∀ self, f self (a0 i) (a1 i) (a2 i) (a3 i) = self (a0 (i + 1)) (a1 (i + 1)) (a2 (i + 1)) (a3 (i + 1))) (ho : ∀ self, f self (a0 N) (a1 N) (a2 N) (a3 N) = out) (n : Nat) (hn : N < n) : it4 f n (a0 0) (a1 0) (a2 0) (a3 0) = out := by
  have h : ∀ d k n, k + d = N → d < n → it4 f n (a0 k) (a1 k) (a2 k) (a3 k) = out := by
    intro d
    induction d with
    | zero =>
      intro k n hk hn
      obtain ⟨n, rfl⟩ : ∃ m, n = m + 1 := ⟨n - 1, by omega⟩
      have e : k = N := by omega
      subst e
      exact ho _
    | succ d ih =>
      intro k n hk hn
      obtain ⟨n, rfl⟩ : ∃ m, n = m + 1 := ⟨n - 1, by omega⟩
      exact (hs k (by omega) _).trans (ih (k + 1) n (by omega) (by omega))
  exact h N 0 n (by omega) hn
theorem it5_run {A0 A1 A2 A3 A4 R : Type} {f : (A0 → A1 → A2 → A3 → A4 → Option R) → A0 → A1 → A2 → A3 → A4 → Option R} (N : Nat) (a0 : Nat → A0) (a1 : Nat → A1) (a2 : Nat → A2) (a3 : Nat → A3) (a4 : Nat → A4) (out : Option R) (hs : ∀ i, i < N → ∀ self, f self (a0 i) (a1 i) (a2 i) (a3 i) (a4 i) = self (a0 (i + 1)) (a1 (i + 1)) (a2 (i + 1)) (a3 (i + 1)) (a4 (i + 1))) (ho : ∀ self, f self (a0 N) (a1 N) (a2 N) (a3 N) (a4 N) = out) (n : Nat) (hn : N < n) : it5 f n (a0 0) (a1 0) (a2 0) (a3 0) (a4 0) = out := by
  have h : ∀ d k n, k + d = N → d < n → it5 f n (a0 k) (a1 k) (a2 k) (a3 k) (a4 k) = out := by
    intro d
    induction d with
    | zero =>
      intro k n hk hn
      obtain ⟨n, rfl⟩ : ∃ m, n = m + 1 := ⟨n - 1, by omega⟩
      have e : k = N := by omega
      subst e
      exact ho _
    | succ d ih =>
      intro k n hk hn
      obtain ⟨n, rfl⟩ : ∃ m, n = m + 1 := ⟨n - 1, by omega⟩
      exact (hs k (by omega) _).trans (ih (k + 1) n (by omega) (by omega))
  exact h N 0 n (by omega) hn
theorem it6_run {A0 A1 A2 A3 A4 A5 R : Type} {f : (A0 → A1 → A2 → A3 → A4 → A5 → Option R) → A0 → A1 → A2 → A3 → A4 → A5 → Option R} (N : Nat) (a0 : Nat → A0) (a1 : Nat → A1) (a2 : Nat → A2) (a3 : Nat → A3) (a4 : Nat → A4) (a5 : Nat → A5) (out : Option R) (hs : ∀ i, i < N → ∀ self, f self (a0 i) (a1 i) (a2 i) (a3 i) (a4 i) (a5 i) = self (a0 (i + 1)) (a1 (i + 1)) (a2 (i + 1)) (a3 (i + 1)) (a4 (i + 1)) (a5 (i + 1))) (ho : ∀ self, f self (a0 N) (a1 N) (a2 N) (a3 N) (a4 N) (a5 N) = out) (n : Nat) (hn : N < n) : it6 f n (a0 0) (a1 0) (a2 0) (a3 0) (a4 0) (a5 0) = out := by
  have h : ∀ d k n, k + d = N → d < n → it6 f n (a0 k) (a1 k) (a2 k) (a3 k) (a4 k) (a5 k) = out := by
    intro d
    induction d with
    | zero =>
      intro k n hk hn
      obtain ⟨n, rfl⟩ : ∃ m, n = m + 1 := ⟨n - 1, by omega⟩
      have e : k = N := by omega
      subst e
      exact ho _
    | succ d ih =>
      intro k n hk hn
      obtain ⟨n, rfl⟩ : ∃ m, n = m + 1 := ⟨n - 1, by omega⟩
      exact (hs k (by omega) _).trans (ih (k + 1) n (by omega) (by omega))
  exact h N 0 n (by omega) hn
theorem it7_run {A0 A1 A2 A3 A4 A5 A6 R : Type} {f : (A0 → A1 → A2 → A3 → A4 → A5 → A6 → Option R) → A0 → A1 → A2 → A3 → A4 → A5 → A6 → Option R} (N : Nat) (a0 : Nat → A0) (a1 : Nat → A1) (a2 : Nat → A2) (a3 : Nat → A3) (a4 : Nat → A4) (a5 : Nat → A5) (a6 : Nat → A6) (out : Option R) (hs : ∀ i, i < N → ∀ self, f self (a0 i) (a1 i) (a2 i) (a3 i) (a4 i) (a5 i) (a6 i) = self (a0 (i + 1)) (a1 (i + 1)) (a2 (i + 1)) (a3 (i + 1)) (a4 (i + 1)) (a5 (i + 1)) (a6 (i + 1))) (ho : ∀ self, f self (a0 N) (a1 N) (a2 N) (a3 N) (a4 N) (a5 N) (a6 N) = out) (n : Nat) (hn : N < n) : it7 f n (a0 0) (a1 0) (a2 0) (a3 0) (a4 0) (a5 0) (a6 0) = out := by
  have h : ∀ d k n, k + d = N → d < n → it7 f n (a0 k) (a1 k) (a2 k) (a3 k) (a4 k) (a5 k) (a6 k) = out := by
    intro d
    induction d with
    | zero =>
      intro k n hk hn
      obtain ⟨n, rfl⟩ : ∃ m, n = m + 1 := ⟨n - 1, by omega⟩
      have e : k = N := by omega
      subst e
      exact ho _
    | succ d ih =>
      intro k n hk hn
      obtain ⟨n, rfl⟩ : ∃ m, n = m + 1 := ⟨n - 1, by omega⟩
      exact (hs k (by omega) _).trans (ih (k + 1) n (by omega) (by omega))
  exact h N 0 n (by omega) hn
theorem it8_run {A0 A1 A2 A3 A4 A5 A6 A7 R : Type} {f : (A0 → A1 → A2 → A3 → A4 → A5 → A6 → A7 → Option R) → A0 → A1 → A2 → A3 → A4 → A5 → A6 → A7 → Option R} (N : Nat) (a0 : Nat → A0) (a1 : Nat → A1) (a2 : Nat → A2) (a3 : Nat → A3) (a4 : Nat → A4) (a5 : Nat → A5) (a6 : Nat → A6) (a7 : Nat → A7) (out : Option R) (hs : ∀ i, i < N → ∀ self, f self (a0 i) (a1 i) (a2 i) (a3 i) (a4 i) (a5 i) (a6 i) (a7 i) = self (a0 (i + 1)) (a1 (i + 1)) (a2 (i + 1)) (a3 (i + 1)) (a4 (i + 1)) (a5 (i + 1)) (a6 (i + 1)) (a7 (i + 1))) (ho : ∀ self, f self (a0 N) (a1 N) (a2 N) (a3 N) (a4 N) (a5 N) (a6 N) (a7 N) = out) (n : Nat) (hn : N < n) : it8 f n (a0 0) (a1 0) (a2 0) (a3 0) (a4 0) (a5 0) (a6 0) (a7 0) = out := by
  have h : ∀ d k n, k + d = N → d < n → it8 f n (a0 k) (a1 k) (a2 k) (a3 k) (a4 k) (a5 k) (a6 k) (a7 k) = out := by
    intro d
    induction d with
    | zero =>
      intro k n hk hn
      obtain ⟨n, rfl⟩ : ∃ m, n = m + 1 := ⟨n - 1, by omega⟩
      have e : k = N := by omega
      subst e
      exact ho _
    | succ d ih =>
      intro k n hk hn
      obtain ⟨n, rfl⟩ : ∃ m, n = m + 1 := ⟨n - 1, by omega⟩
      exact (hs k (by omega) _).trans (ih (k + 1) n (by omega) (by omega))
  exact h N 0 n (by omega) hn
theorem it9_run {A0 A1 A2 A3 A4 A5 A6 A7 A8 R : Type} {f : (A0 → A1 → A2 → A3 → A4 → A5 → A6 → A7 → A8 → Option R) → A0 → A1 → A2 → A3 → A4 → A5 → A6 → A7 → A8 → Option R} (N : Nat) (a0 : Nat → A0) (a1 : Nat → A1) (a2 : Nat → A2) (a3 : Nat → A3) (a4 : Nat → A4) (a5 : Nat → A5) (a6 : Nat → A6) (a7 : Nat → A7) (a8 : Nat → A8) (out : Option R) (hs : ∀ i, i < N → ∀ self, f self (a0 i) (a1 i) (a2 i) (a3 i) (a4 i) (a5 i) (a6 i) (a7 i) (a8 i) = self (a0 (i + 1)) (a1 (i + 1)) (a2 (i + 1)) (a3 (i + 1)) (a4 (i + 1)) (a5 (i + 1)) (a6 (i + 1)) (a7 (i + 1)) (a8 (i + 1))) (ho : ∀ self, f self (a0 N) (a1 N) (a2 N) (a3 N) (a4 N) (a5 N) (a6 N) (a7 N) (a8 N) = out) (n : Nat) (hn : N < n) : it9 f n (a0 0) (a1 0) (a2 0) (a3 0) (a4 0) (a5 0) (a6 0) (a7 0) (a8 0) = out := by
  have h : ∀ d k n, k + d = N → d < n → it9 f n (a0 k) (a1 k) (a2 k) (a3 k) (a4 k) (a5 k) (a6 k) (a7 k) (a8 k) = out := by
    intro d
    induction d with
    | zero =>
      intro k n hk hn
      obtain ⟨n, rfl⟩ : ∃ m, n = m + 1 := ⟨n - 1, by omega⟩
      have e : k = N := by omega
      subst e
      exact ho _
    | succ d ih =>
      intro k n hk hn
      obtain ⟨n, rfl⟩ : ∃ m, n = m + 1 := ⟨n - 1, by omega⟩
      exact (hs k (by omega) _).trans (ih (k + 1) n (by omega) (by omega))
  exact h N 0 n (by omega) hn
theorem it10_run {A0 A1 A2 A3 A4 A5 A6 A7 A8 A9 R : Type} {f : (A0 → A1 → A2 → A3 → A4 → A5 → A6 → A7 → A8 → A9 → Option R) → A0 → A1 → A2 → A3 → A4 → A5 → A6 → A7 → A8 → A9 → Option R} (N : Nat) (a0 : Nat → A0) (a1 : Nat → A1) (a2 : Nat → A2) (a3 : Nat → A3) (a4 : Nat → A4) (a5 : Nat → A5) (a6 : Nat → A6) (a7 : Nat → A7) (a8 : Nat → A8) (a9 : Nat → A9) (out : Option R) (hs : ∀ i, i < N → ∀ self, f self (a0 i) (a1 i) (a2 i) (a3 i) (a4 i) (a5 i) (a6 i) (a7 i) (a8 i) (a9 i) = self (a0 (i + 1)) (a1 (i + 1)) (a2 (i + 1)) (a3 (i + 1)) (a4 (i + 1)) (a5 (i + 1)) (a6 (i + 1)) (a7 (i + 1)) (a8 (i + 1)) (a9 (i + 1))) (ho : ∀ self, f self (a0 N) (a1 N) (a2 N) (a3 N) (a4 N) (a5 N) (a6 N) (a7 N) (a8 N) (a9 N) = out) (n : Nat) (hn : N < n) : it10 f n (a0 0) (a1 0) (a2 0) (a3 0) (a4 0) (a5 0) (a6 0) (a7 0) (a8 0) (a9 0) = out := by
  have h : ∀ d k n, k + d = N → d < n → it10 f n (a0 k) (a1 k) (a2 k) (a3 k) (a4 k) (a5 k) (a6 k) (a7 k) (a8 k) (a9 k) = out := by
    intro d
    induction d with
    | zero =>
      intro k n hk hn
      obtain ⟨n, rfl⟩ : ∃ m, n = m + 1 := ⟨n - 1, by omega⟩
      have e : k = N := by omega
      subst e
      exact ho _
    | succ d ih =>
      intro k n hk hn
      obtain ⟨n, rfl⟩ : ∃ m, n = m + 1 := ⟨n - 1, by omega⟩
      exact (hs k (by omega) _).trans (ih (k + 1) n (by omega) (by omega))
  exact h N 0 n (by omega) hn
theorem it11_run {A0 A1 A2 A3 A4 A5 A6 A7 A8 A9 A10 R : Type} {f : (A0 → A1 → A2 → A3 → A4 → A5 → A6 → A7 → A8 → A9 → A10 → Option R) → A0 → A1 → A2 → A3 → A4 → A5 → A6 → A7 → A8 → A9 → A10 → Option R} (N : Nat) (a0 : Nat → A0) (a1 : Nat → A1) (a2 : Nat → A2) (a3 : Nat → A3) (a4 : Nat → A4) (a5 : Nat → A5) (a6 : Nat → A6) (a7 : Nat → A7) (a8 : Nat → A8) (a9 : Nat → A9) (a10 : Nat → A10) (out : Option R) (hs : ∀ i, i < N → ∀ self, f self (a0 i) (a1 i) (a2 i) (a3 i) (a4 i) (a5 i) (a6 i) (a7 i) (a8 i) (a9 i) (a10 i) = self (a0 (i + 1)) (a1 (i + 1)) (a2 (i + 1)) (a3 (i + 1)) (a4 (i + 1)) (a5 (i + 1)) (a6 (i + 1)) (a7 (i + 1)) (a8 (i + 1)) (a9 (i + 1)) (a10 (i + 1))) (ho : ∀ self, f self (a0 N) (a1 N) (a2 N) (a3 N) (a4 N) (a5 N) (a6 N) (a7 N) (a8 N) (a9 N) (a10 N) = out) (n : Nat) (hn : N < n) : it11 f n (a0 0) (a1 0) (a2 0) (a3 0) (a4 0) (a5 0) (a6 0) (a7 0) (a8 0) (a9 0) (a10 0) = out := by
  have h : ∀ d k n, k + d = N → d < n → it11 f n (a0 k) (a1 k) (a2 k) (a3 k) (a4 k) (a5 k) (a6 k) (a7 k) (a8 k) (a9 k) (a10 k) = out := by
    intro d
    induction d with
    | zero =>
      intro k n hk hn
      obtain ⟨n, rfl⟩ : ∃ m, n = m + 1 := ⟨n - 1, by omega⟩
      have e : k = N := by omega
      subst e
      exact ho _
    | succ d ih =>
      intro k n hk hn
      obtain ⟨n, rfl⟩ : ∃ m, n = m + 1 := ⟨n - 1, by omega⟩
      exact (hs k (by omega) _).trans (ih (k + 1) n (by omega) (by omega))
  exact h N 0 n (by omega) hn
theorem it12_run {A0 A1 A2 A3 A4 A5 A6 A7 A8 A9 A10 A11 R : Type} {f : (A0 → A1 → A2 → A3 → A4 → A5 → A6 → A7 → A8 → A9 → A10 → A11 → Option R) → A0 → A1 → A2 → A3 → A4 → A5 → A6 → A7 → A8 → A9 → A10 → A11 → Option R} (N : Nat) (a0 : Nat → A0) (a1 : Nat → A1) (a2 : Nat → A2) (a3 : Nat → A3) (a4 : Nat → A4) (a5 : Nat → A5) (a6 : Nat → A6) (a7 : Nat → A7) (a8 : Nat → A8) (a9 : Nat → A9) (a10 : Nat → A10) (a11 : Nat → A11) (out : Option R) (hs : ∀ i, i < N → ∀ self, f self (a0 i) (a1 i) (a2 i) (a3 i) (a4 i) (a5 i) (a6 i) (a7 i) (a8 i) (a9 i) (a10 i) (a11 i) = self (a0 (i + 1)) (a1 (i + 1)) (a2 (i + 1)) (a3 (i + 1)) (a4 (i + 1)) (a5 (i + 1)) (a6 (i + 1)) (a7 (i + 1)) (a8 (i + 1)) (a9 (i + 1)) (a10 (i + 1)) (a11 (i + 1))) (ho : ∀ self, f self (a0 N) (a1 N) (a2 N) (a3 N) (a4 N) (a5 N) (a6 N) (a7 N) (a8 N) (a9 N) (a10 N) (a11 N) = out) (n : Nat) (hn : N < n) : it12 f n (a0 0) (a1 0) (a2 0) (a3 0) (a4 0) (a5 0) (a6 0) (a7 0) (a8 0) (a9 0) (a10 0) (a11 0) = out := by
  have h : ∀ d k n, k + d = N → d < n → it12 f n (a0 k) (a1 k) (a2 k) (a3 k) (a4 k) (a5 k) (a6 k) (a7 k) (a8 k) (a9 k) (a10 k) (a11 k) = out := by
    intro d
    induction d with
    | zero =>
      intro k n hk hn
      obtain ⟨n, rfl⟩ : ∃ m, n = m + 1 := ⟨n - 1, by omega⟩
      have e : k = N := by omega
      subst e
      exact ho _
    | succ d ih =>
      intro k n hk hn
      obtain ⟨n, rfl⟩ : ∃ m, n = m + 1 := ⟨n - 1, by omega⟩
      exact (hs k (by omega) _).trans (ih (k + 1) n (by omega) (by omega))
  exact h N 0 n (by omega) hn
theorem it13_run {A0 A1 A2 A3 A4 A5 A6 A7 A8 A9 A10 A11 A12 R : Type} {f : (A0 → A1 → A2 → A3 → A4 → A5 → A6 → A7 → A8 → A9 → A10 → A11 → A12 → Option R) → A0 → A1 → A2 → A3 → A4 → A5 → A6 → A7 → A8 → A9 → A10 → A11 → A12 → Option R} (N : Nat) (a0 : Nat → A0) (a1 : Nat → A1) (a2 : Nat → A2) (a3 : Nat → A3) (a4 : Nat → A4) (a5 : Nat → A5) (a6 : Nat → A6) (a7 : Nat → A7) (a8 : Nat → A8) (a9 : Nat → A9) (a10 : Nat → A10) (a11 : Nat → A11) (a12 : Nat → A12) (out : Option R) (hs : ∀ i, i < N → ∀ self, f self (a0 i) (a1 i) (a2 i) (a3 i) (a4 i) (a5 i) (a6 i) (a7 i) (a8 i) (a9 i) (a10 i) (a11 i) (a12 i) = self (a0 (i + 1)) (a1 (i + 1)) (a2 (i + 1)) (a3 (i + 1)) (a4 (i + 1)) (a5 (i + 1)) (a6 (i + 1)) (a7 (i + 1)) (a8 (i + 1)) (a9 (i + 1)) (a10 (i + 1)) (a11 (i + 1)) (a12 (i + 1))) (ho : ∀ self, f self (a0 N) (a1 N) (a2 N) (a3 N) (a4 N) (a5 N) (a6 N) (a7 N) (a8 N) (a9 N) (a10 N) (a11 N) (a12 N) = out) (n : Nat) (hn : N < n) : it13 f n (a0 0) (a1 0) (a2 0) (a3 0) (a4 0) (a5 0) (a6 0) (a7 0) (a8 0) (a9 0) (a10 0) (a11 0) (a12 0) = out := by
  have h : ∀ d k n, k + d = N → d < n → it13 f n (a0 k) (a1 k) (a2 k) (a3 k) (a4 k) (a5 k) (a6 k) (a7 k) (a8 k) (a9 k) (a10 k) (a11 k) (a12 k) = out := by
    intro d
    induction d with
    | zero =>
      intro k n hk hn
      obtain ⟨n, rfl⟩ : ∃ m, n = m + 1 := ⟨n - 1, by omega⟩
      have e : k = N := by omega
      subst e
      exact ho _
    | succ d ih =>
      intro k n hk hn
      obtain ⟨n, rfl⟩ : ∃ m, n = m + 1 := ⟨n - 1, by omega⟩
      exact (hs k (by omega) _).trans (ih (k + 1) n (by omega) (by omega))
  exact h N 0 n (by omega) hn
theorem it14_run {A0 A1 A2 A3 A4 A5 A6 A7 A8 A9 A10 A11 A12 A13 R : Type} {f : (A0 → A1 → A2 → A3 → A4 → A5 → A6 → A7 → A8 → A9 → A10 → A11 → A12 → A13 → Option R) → A0 → A1 → A2 → A3 → A4 → A5 → A6 → A7 → A8 → A9 → A10 → A11 → A12 → A13 → Option R} (N : Nat) (a0 : Nat → A0) (a1 : Nat → A1) (a2 : Nat → A2) (a3 : Nat → A3) (a4 : Nat → A4) (a5 : Nat → A5) (a6 : Nat → A6) (a7 : Nat → A7) (a8 : Nat → A8) (a9 : Nat → A9) (a10 : Nat → A10) (a11 : Nat → A11) (a12 : Nat → A12) (a13 : Nat → A13) (out : Option R) (hs : ∀ i, i < N → ∀ self, f self (a0 i) (a1 i) (a2 i) (a3 i) (a4 i) (a5 i) (a6 i) (a7 i) (a8 i) (a9 i) (a10 i) (a11 i) (a12 i) (a13 i) = self (a0 (i + 1)) (a1 (i + 1)) (a2 (i + 1)) (a3 (i + 1)) (a4 (i + 1)) (a5 (i + 1)) (a6 (i + 1)) (a7 (i + 1)) (a8 (i + 1)) (a9 (i + 1)) (a10 (i + 1)) (a11 (i + 1)) (a12 (i + 1)) (a13 (i + 1))) (ho : ∀ self, f self (a0 N) (a1 N) (a2 N) (a3 N) (a4 N) (a5 N) (a6 N) (a7 N) (a8 N) (a9 N) (a10 N) (a11 N) (a12 N) (a13 N) = out) (n : Nat) (hn : N < n) : it14 f n (a0 0) (a1 0) (a2 0) (a3 0) (a4 0) (a5 0) (a6 0) (a7 0) (a8 0) (a9 0) (a10 0) (a11 0) (a12 0) (a13 0) = out := by
  have h : ∀ d k n, k + d = N → d < n → it14 f n (a0 k) (a1 k) (a2 k) (a3 k) (a4 k) (a5 k) (a6 k) (a7 k) (a8 k) (a9 k) (a10 k) (a11 k) (a12 k) (a13 k) = out := by
    intro d
    induction d with
    | zero =>
      intro k n hk hn
      obtain ⟨n, rfl⟩ : ∃ m, n = m + 1 := ⟨n - 1, by omega⟩
      have e : k = N := by omega
      subst e
      exact ho _
    | succ d ih =>
      intro k n hk hn
      obtain ⟨n, rfl⟩ : ∃ m, n = m + 1 := ⟨n - 1, by omega⟩
      exact (hs k (by omega) _).trans (ih (k + 1) n (by omega) (by omega))
  exact h N 0 n (by omega) hn
theorem it15_run {A0 A1 A2 A3 A4 A5 A6 A7 A8 A9 A10 A11 A12 A13 A14 R : Type} {f : (A0 → A1 → A2 → A3 → A4 → A5 → A6 → A7 → A8 → A9 → A10 → A11 → A12 → A13 → A14 → Option R) → A0 → A1 → A2 → A3 → A4 → A5 → A6 → A7 → A8 → A9 → A10 → A11 → A12 → A13 → A14 → Option R} (N : Nat) (a0 : Nat → A0) (a1 : Nat → A1) (a2 : Nat → A2) (a3 : Nat → A3) (a4 : Nat → A4) (a5 : Nat → A5) (a6 : Nat → A6) (a7 : Nat → A7) (a8 : Nat → A8) (a9 : Nat → A9) (a10 : Nat → A10) (a11 : Nat → A11) (a12 : Nat → A12) (a13 : Nat → A13) (a14 : Nat → A14) (out : Option R) (hs : ∀ i, i < N → ∀ self, f self (a0 i) (a1 i) (a2 i) (a3 i) (a4 i) (a5 i) (a6 i) (a7 i) (a8 i) (a9 i) (a10 i) (a11 i) (a12 i) (a13 i) (a14 i) = self (a0 (i + 1)) (a1 (i + 1)) (a2 (i + 1)) (a3 (i + 1)) (a4 (i + 1)) (a5 (i + 1)) (a6 (i + 1)) (a7 (i + 1)) (a8 (i + 1)) (a9 (i + 1)) (a10 (i + 1)) (a11 (i + 1)) (a12 (i + 1)) (a13 (i + 1)) (a14 (i + 1))) (ho : ∀ self, f self (a0 N) (a1 N) (a2 N) (a3 N) (a4 N) (a5 N) (a6 N) (a7 N) (a8 N) (a9 N) (a10 N) (a11 N) (a12 N) (a13 N) (a14 N) = out) (n : Nat) (hn : N < n) : it15 f n (a0 0) (a1 0) (a2 0) (a3 0) (a4 0) (a5 0) (a6 0) (a7 0) (a8 0) (a9 0) (a10 0) (a11 0) (a12 0) (a13 0) (a14 0) = out := by
  have h : ∀ d k n, k + d = N → d < n → it15 f n (a0 k) (a1 k) (a2 k) (a3 k) (a4 k) (a5 k) (a6 k) (a7 k) (a8 k) (a9 k) (a10 k) (a11 k) (a12 k) (a13 k) (a14 k) = out := by
    intro d
    induction d with
    | zero =>
      intro k n hk hn
      obtain ⟨n, rfl⟩ : ∃ m, n = m + 1 := ⟨n - 1, by omega⟩
      have e : k = N := by omega
      subst e
      exact ho _
    | succ d ih =>
      intro k n hk hn
      obtain ⟨n, rfl⟩ : ∃ m, n = m + 1 := ⟨n - 1, by omega⟩
      exact (hs k (by omega) _).trans (ih (k + 1) n (by omega) (by omega))
  exact h N 0 n (by omega) hn
theorem it16_run {A0 A1 A2 A3 A4 A5 A6 A7 A8 A9 A10 A11 A12 A13 A14 A15 R : Type} {f : (A0 → A1 → A2 → A3 → A4 → A5 → A6 → A7 → A8 → A9 → A10 → A11 → A12 → A13 → A14 → A15 → Option R) → A0 → A1 → A2 → A3 → A4 → A5 → A6 → A7 → A8 → A9 → A10 → A11 → A12 → A13 → A14 → A15 → Option R} (N : Nat) (a0 : Nat → A0) (a1 : Nat → A1) (a2 : Nat → A2) (a3 : Nat → A3) (a4 : Nat → A4) (a5 : Nat → A5) (a6 : Nat → A6) (a7 : Nat → A7) (a8 : Nat → A8) (a9 : Nat → A9) (a10 : Nat → A10) (a11 : Nat → A11) (a12 : Nat → A12) (a13 : Nat → A13) (a14 : Nat → A14) (a15 : Nat → A15) (out : Option R) (hs : ∀ i, i < N → ∀ self, f self (a0 i) (a1 i) (a2 i) (a3 i) (a4 i) (a5 i) (a6 i) (a7 i) (a8 i) (a9 i) (a10 i) (a11 i) (a12 i) (a13 i) (a14 i) (a15 i) = self (a0 (i + 1)) (a1 (i + 1)) (a2 (i + 1)) (a3 (i + 1)) (a4 (i + 1)) (a5 (i + 1)) (a6 (i + 1)) (a7 (i + 1)) (a8 (i + 1)) (a9 (i + 1)) (a10 (i + 1)) (a11 (i + 1)) (a12 (i + 1)) (a13 (i + 1)) (a14 (i + 1)) (a15 (i + 1))) (ho : ∀ self, f self (a0 N) (a1 N) (a2 N) (a3 N) (a4 N) (a5 N) (a6 N) (a7 N) (a8 N) (a9 N) (a10 N) (a11 N) (a12 N) (a13 N) (a14 N) (a15 N) = out) (n : Nat) (hn : N < n) : it16 f n (a0 0) (a1 0) (a2 0) (a3 0) (a4 0) (a5 0) (a6 0) (a7 0) (a8 0) (a9 0) (a10 0) (a11 0) (a12 0) (a13 0) (a14 0) (a15 0) = out := by
  have h : ∀ d k n, k + d = N → d < n → it16 f n (a0 k) (a1 k) (a2 k) (a3 k) (a4 k) (a5 k) (a6 k) (a7 k) (a8 k) (a9 k) (a10 k) (a11 k) (a12 k) (a13 k) (a14 k) (a15 k) = out := by
    intro d
    induction d with
    | zero =>
      intro k n hk hn
      obtain ⟨n, rfl⟩ : ∃ m, n = m + 1 := ⟨n - 1, by omega⟩
      have e : k = N := by omega
      subst e
      exact ho _
    | succ d ih =>
      intro k n hk hn
      obtain ⟨n, rfl⟩ : ∃ m, n = m + 1 := ⟨n - 1, by omega⟩
      exact (hs k (by omega) _).trans (ih (k + 1) n (by omega) (by omega))
  exact h N 0 n (by omega) hn
theorem it17_run {A0 A1 A2 A3 A4 A5 A6 A7 A8 A9 A10 A11 A12 A13 A14 A15 A16 R : Type} {f : (A0 → A1 → A2 → A3 → A4 → A5 → A6 → A7 → A8 → A9 → A10 → A11 → A12 → A13 → A14 → A15 → A16 → Option R) → A0 → A1 → A2 → A3 → A4 → A5 → A6 → A7 → A8 → A9 → A10 → A11 → A12 → A13 → A14 → A15 → A16 → Option R} (N : Nat) (a0 : Nat → A0) (a1 : Nat → A1) (a2 : Nat → A2) (a3 : Nat → A3) (a4 : Nat → A4) (a5 : Nat → A5) (a6 : Nat → A6) (a7 : Nat → A7) (a8 : Nat → A8) (a9 : Nat → A9) (a10 : Nat → A10) (a11 : Nat → A11) (a12 : Nat → A12) (a13 : Nat → A13) (a14 : Nat → A14) (a15 : Nat → A15) (a16 : Nat → A16) (out : Option R) (hs : ∀ i, i < N → ∀ self, f self (a0 i) (a1 i) (a2 i) (a3 i) (a4 i) (a5 i) (a6 i) (a7 i) (a8 i) (a9 i) (a10 i) (a11 i) (a12 i) (a13 i) (a14 i) (a15 i) (a16 i) = self (a0 (i + 1)) (a1 (i + 1)) (a2 (i + 1)) (a3 (i + 1)) (a4 (i + 1)) (a5 (i + 1)) (a6 (i + 1)) (a7 (i + 1)) (a8 (i + 1)) (a9 (i + 1)) (a10 (i + 1)) (a11 (i + 1)) (a12 (i + 1)) (a13 (i + 1)) (a14 (i + 1)) (a15 (i + 1)) (a16 (i + 1))) (ho : ∀ self, f self (a0 N) (a1 N) (a2 N) (a3 N) (a4 N) (a5 N) (a6 N) (a7 N) (a8 N) (a9 N) (a10 N) (a11 N) (a12 N) (a13 N) (a14 N) (a15 N) (a16 N) = out) (n : Nat) (hn : N < n) : it17 f n (a0 0) (a1 0) (a2 0) (a3 0) (a4 0) (a5 0) (a6 0) (a7 0) (a8 0) (a9 0) (a10 0) (a11 0) (a12 0) (a13 0) (a14 0) (a15 0) (a16 0) = out := by
  have h : ∀ d k n, k + d = N → d < n → it17 f n (a0 k) (a1 k) (a2 k) (a3 k) (a4 k) (a5 k) (a6 k) (a7 k) (a8 k) (a9 k) (a10 k) (a11 k) (a12 k) (a13 k) (a14 k) (a15 k) (a16 k) = out := by
    intro d
    induction d with
    | zero =>
      intro k n hk hn
      obtain ⟨n, rfl⟩ : ∃ m, n = m + 1 := ⟨n - 1, by omega⟩
      have e : k = N := by omega
      subst e
      exact ho _
    | succ d ih =>
      intro k n hk hn
      obtain ⟨n, rfl⟩ : ∃ m, n = m + 1 := ⟨n - 1, by omega⟩
      exact (hs k (by omega) _).trans (ih (k + 1) n (by omega) (by omega))
  exact h N 0 n (by omega) hn
/-- sums of ints, wrapped -/
def sumI (f : Nat → Int32) : Nat → Int32
  | 0 => 0
  | n + 1 => sumI f n + f n
theorem sumI_congr {f g : Nat → Int32} : ∀ {n : Nat}, (∀ i, i < n → f i = g i) → sumI f n = sumI g n
  | 0, _ => rfl
  | n + 1, h => by rw [sumI, sumI, sumI_congr (fun i hi => h i (by omega)), h n (by omega)]
theorem sumI_tail {f : Nat → Int32} {n : Nat} : ∀ {m : Nat}, n ≤ m → (∀ i, n ≤ i → i < m → f i = 0) → sumI f m = sumI f n
  | 0, h, _ => by rw [show n = 0 by omega]
  | m + 1, h, hz => by
    rcases Nat.lt_or_ge m n with q | q
    · rw [show n = m + 1 by omega]
    · rw [sumI, hz m q (by omega), sumI_tail q (fun i h1 h2 => hz i h1 (by omega))]
      exact Int32.add_zero _
theorem nI_le_iff {a b : Nat} (ha : a < 2 ^ 31) (hb : b < 2 ^ 31) : nI a ≤ nI b ↔ a ≤ b := nI_leI ha hb
theorem nI4 {h s : Nat} : nI h * 4 + nI s = nI (4 * h + s) := by
  have e : (4 : Int32) = nI 4 := rfl
  rw [e, pk_mul, nI_add]
  congr 1
  omega
theorem nI4' {h s : Nat} : (4 : Int32) * nI h + nI s = nI (4 * h + s) := by
  have e : (4 : Int32) = nI 4 := rfl
  rw [e, pk_mul, nI_add]
theorem nIc (k : Nat) (h : Nat) : (nI k) + nI h = nI (k + h) := nI_add k h
/-- what a village tells, what the evening is: the class's rows beside the reference's -/
def NowOk (n : Nat) (ea ye lo : Int32) (wc br le sp he : Nat → Int32) (S : Nat → Int32) : Prop :=
  (∀ i, i < 24 → wc i = S i) ∧ (∀ i, i < 24 → ∃ k, k ≤ 9 ∧ S i = nI k) ∧ (∀ i, 4 * n ≤ i → i < 24 → S i = 0) ∧
  (∀ h, h < 6 → br h = S (24 + h)) ∧ (∀ h, h < 6 → S (24 + h) = -9 ∨ ∃ k, k < 4 ∧ S (24 + h) = nI k) ∧ (∀ h, n ≤ h → h < 6 → S (24 + h) = -9) ∧
  (∀ s, s < 4 → le s = S (54 + s)) ∧ (∀ i, i < 24 → sp i = S (30 + i)) ∧ (∀ i, 4 * n ≤ i → i < 24 → S (30 + i) = 0) ∧
  (∀ h, h < 6 → (he h = 0 ∧ S (59 + h) = 0) ∨ (he h = 2 ∧ S (59 + h) = 1) ∨ (he h = 1 ∧ S (59 + h) = 2)) ∧ (∀ h, n ≤ h → h < 6 → S (59 + h) = 0) ∧
  (ea = S 58 ∧ (S 58 = 0 ∨ S 58 = 1)) ∧ ye = S 65 ∧ lo = S 66
def TextOk (tl : Int32) (tb : Nat → Int32) (tx : Nat → Int32) (ty : Int32) : Prop :=
  ∃ t : Nat, t ≤ 300 ∧ tl = nI t ∧ ty = nI t ∧ ∀ i, i < t → ∃ b, b < 256 ∧ tx i = nI b ∧ tb i = (nI b).toInt8.toInt32
def VillOk (n : Nat) (ho la pr me : Int32) (ea ba : Nat → Int32) (mea mba mla : Nat → Int32) (mho : Int32) : Prop :=
  ho = nI n ∧ mho = nI n ∧ (la = mla 0 ∧ ∃ k, k ≤ 2 ∧ mla 0 = nI k) ∧ (pr = mla 1 ∧ ∃ k, k ≤ 9 ∧ mla 1 = nI k) ∧ (me = mla 2 ∧ ∃ k, k ≤ 9 ∧ mla 2 = nI k) ∧
  (∀ h, h < n → ea h = mea h ∧ ∃ k, 1 ≤ k ∧ k ≤ 9 ∧ mea h = nI k) ∧ (∀ h, n ≤ h → h < 6 → ea h = 0) ∧
  (∀ h, h < n → ba h = mba h ∧ ∃ k, k < 16 ∧ mba h = nI k) ∧ (∀ h, n ≤ h → h < 6 → ba h = 0)
def KeptOk (n : Nat) (ki : Int32) (kp ik : Nat → Int32) (ea0 ye0 lo0 : Int32) (wc0 br0 le0 sp0 he0 : Nat → Int32) (ea1 ye1 lo1 : Int32) (wc1 br1 le1 sp1 he1 : Nat → Int32) : Prop :=
  ∃ a b : Nat, a < 2 ∧ b < 2 ∧ ik 0 = nI a ∧ ik 1 = nI b ∧ ki = nI (a + 2 * b) ∧ (a = 1 → NowOk n ea0 ye0 lo0 wc0 br0 le0 sp0 he0 kp) ∧ (b = 1 → NowOk n ea1 ye1 lo1 wc1 br1 le1 sp1 he1 (fun k => kp (67 + k)))
/-- class and reference stand alike -/
def Alike9 (tl : Int32) (tb : Nat → Int32) (ho la pr me : Int32) (ea ba : Nat → Int32) (en yn ln : Int32) (wn bn fn sn hn : Nat → Int32) (e0 y0 l0 : Int32) (w0 b0 f0 s0 h0 : Nat → Int32) (e1 y1 l1 : Int32) (w1 b1 f1 s1 h1 : Nat → Int32) (ki : Int32) (asked : Int64) (tr : Int64) (tx : Nat → Int32) (ty : Int32) (mea mba mla : Nat → Int32) (mho : Int32) (S kp ik : Nat → Int32) : Prop :=
  ∃ n : Nat, n ≤ 6 ∧ TextOk tl tb tx ty ∧ VillOk n ho la pr me ea ba mea mba mla mho ∧ NowOk n en yn ln wn bn fn sn hn S ∧ KeptOk n ki kp ik e0 y0 l0 w0 b0 f0 s0 h0 e1 y1 l1 w1 b1 f1 s1 h1 ∧ asked = tr
