/-- a row of the table of distances from the row before it -/
def rs_Dr (x : Int32) (b : Nat → Int32) (f : Nat → Nat) (s : Nat) : Nat → Nat
  | 0 => s
  | j + 1 => if x = b j then f j else min (f (j + 1)) (rs_Dr x b f s j) + 1
/-- the distance of the first i lines of a and the first j of b -/
def rs_D (a b : Nat → Int32) : Nat → Nat → Nat
  | 0 => fun j => j
  | i + 1 => rs_Dr (a i) b (rs_D a b i) (i + 1)
theorem rs_D0 (a b : Nat → Int32) (j : Nat) : rs_D a b 0 j = j := rfl
theorem rs_Di0 (a b : Nat → Int32) (i : Nat) : rs_D a b i 0 = i := by cases i <;> rfl
theorem rs_De {a b : Nat → Int32} {i j : Nat} (h : a i = b j) : rs_D a b (i + 1) (j + 1) = rs_D a b i j := if_pos h
theorem rs_Dn {a b : Nat → Int32} {i j : Nat} (h : ¬ a i = b j) : rs_D a b (i + 1) (j + 1) = min (rs_D a b i (j + 1)) (rs_D a b (i + 1) j) + 1 := if_neg h
theorem rs_D_step {a b : Nat → Int32} {i j : Nat} (A : rs_D a b i (j + 1) ≤ rs_D a b i j + 1) (B : rs_D a b i j ≤ rs_D a b i (j + 1) + 1) (C : rs_D a b (i + 1) j ≤ rs_D a b i j + 1) (E : rs_D a b i j ≤ rs_D a b (i + 1) j + 1) :
    rs_D a b (i + 1) (j + 1) ≤ rs_D a b (i + 1) j + 1 ∧ rs_D a b (i + 1) j ≤ rs_D a b (i + 1) (j + 1) + 1 ∧ rs_D a b (i + 1) (j + 1) ≤ rs_D a b i (j + 1) + 1 ∧ rs_D a b i (j + 1) ≤ rs_D a b (i + 1) (j + 1) + 1 := by
  by_cases e : a i = b j
  · rw [rs_De e]; omega
  · rw [rs_Dn e]; omega
theorem rs_D_row {a b : Nat → Int32} {i : Nat} (H : ∀ j, rs_D a b i (j + 1) ≤ rs_D a b i j + 1 ∧ rs_D a b i j ≤ rs_D a b i (j + 1) + 1) : ∀ j, rs_D a b (i + 1) j ≤ rs_D a b i j + 1 ∧ rs_D a b i j ≤ rs_D a b (i + 1) j + 1 := by
  intro j
  induction j with
  | zero => rw [rs_Di0, rs_Di0]; omega
  | succ j ih => exact (rs_D_step (H j).1 (H j).2 ih.1 ih.2).2.2
theorem rs_D_col {a b : Nat → Int32} : ∀ i j, rs_D a b i (j + 1) ≤ rs_D a b i j + 1 ∧ rs_D a b i j ≤ rs_D a b i (j + 1) + 1 := by
  intro i
  induction i with
  | zero => intro j; rw [rs_D0, rs_D0]; omega
  | succ i ih =>
    intro j
    have R := rs_D_row ih j
    have S := rs_D_step (ih j).1 (ih j).2 R.1 R.2
    exact ⟨S.1, S.2.1⟩
theorem rs_D_dn {a b : Nat → Int32} (i j : Nat) : rs_D a b (i + 1) j ≤ rs_D a b i j + 1 := (rs_D_row (rs_D_col i) j).1
theorem rs_D_far {a b : Nat → Int32} (i j : Nat) : ∀ d, rs_D a b i (j + d) ≤ rs_D a b i j + d := by
  intro d
  induction d with
  | zero => exact Nat.le_refl _
  | succ d ih =>
    have := (rs_D_col (a := a) (b := b) i (j + d)).1
    show rs_D a b i (j + d + 1) ≤ _
    omega
theorem rs_D_le {a b : Nat → Int32} (i j : Nat) : rs_D a b i j ≤ i + j := by
  have := rs_D_far (a := a) (b := b) i 0 j
  rw [Nat.zero_add, rs_Di0] at this
  exact this
theorem rs_D_congr {a b a' b' : Nat → Int32} : ∀ i j, (∀ x, x < i → a x = a' x) → (∀ x, x < j → b x = b' x) → rs_D a b i j = rs_D a' b' i j := by
  intro i
  induction i with
  | zero => intro j _ _; rfl
  | succ i ih =>
    intro j
    induction j with
    | zero => intro _ _; rfl
    | succ j ihj =>
      intro ha hb
      have e1 := ih j (fun x hx => ha x (by omega)) (fun x hx => hb x (by omega))
      have e2 := ih (j + 1) (fun x hx => ha x (by omega)) hb
      have e3 := ihj ha (fun x hx => hb x (by omega))
      have ea := ha i (by omega)
      have eb := hb j (by omega)
      by_cases e : a i = b j
      · rw [rs_De e, rs_De (by rw [← ea, ← eb]; exact e), e1]
      · rw [rs_Dn e, rs_Dn (by rw [← ea, ← eb]; exact e), e2, e3]
/-- the first place from p on, within d, where b holds x; p + d if there is none -/
def rs_fd (b : Nat → Int32) (x : Int32) : Nat → Nat → Nat
  | 0, p => p
  | d + 1, p => if b p = x then p else rs_fd b x d (p + 1)
theorem rs_fd_in {b : Nat → Int32} {x : Int32} : ∀ d p, p ≤ rs_fd b x d p ∧ rs_fd b x d p ≤ p + d := by
  intro d
  induction d with
  | zero => intro p; exact ⟨Nat.le_refl _, Nat.le_refl _⟩
  | succ d ih =>
    intro p
    show p ≤ (if b p = x then p else rs_fd b x d (p + 1)) ∧ (if b p = x then p else rs_fd b x d (p + 1)) ≤ p + (d + 1)
    have := ih (p + 1)
    split <;> omega
theorem rs_fd_eq {b : Nat → Int32} {x : Int32} : ∀ d p, rs_fd b x d p < p + d → b (rs_fd b x d p) = x := by
  intro d
  induction d with
  | zero => intro p hp; exact absurd hp (Nat.lt_irrefl _)
  | succ d ih =>
    intro p
    show (if b p = x then p else rs_fd b x d (p + 1)) < p + (d + 1) → b (if b p = x then p else rs_fd b x d (p + 1)) = x
    split
    · intro _; assumption
    · intro hp; exact ih (p + 1) (by omega)
theorem rs_fd_le {b : Nat → Int32} {x : Int32} : ∀ d p j, p ≤ j → j < p + d → b j = x → rs_fd b x d p ≤ j := by
  intro d
  induction d with
  | zero => intro p j h1 h2; omega
  | succ d ih =>
    intro p j h1 h2 h3
    show (if b p = x then p else rs_fd b x d (p + 1)) ≤ j
    split
    · exact h1
    · rename_i hne
      have : p ≠ j := by
        intro e
        subst e
        exact hne h3
      exact ih (p + 1) j (by omega) (by omega) h3
/-- one line of the left text, chosen by c or not -/
def rs_st (a b : Nat → Int32) (n c i : Nat) (s : Nat × Nat) : Option (Nat × Nat) :=
  if c.testBit i = true then (if rs_fd b (a i) (n - s.1) s.1 < n then some (rs_fd b (a i) (n - s.1) s.1 + 1, s.2 + 1) else none) else some s
/-- where the search stands after i lines of the left text, and how many were found -/
def rs_gr (a b : Nat → Int32) (n c : Nat) : Nat → Option (Nat × Nat)
  | 0 => some (0, 0)
  | i + 1 => (rs_gr a b n c i).bind (rs_st a b n c i)
theorem rs_gr_s {a b : Nat → Int32} {n c i : Nat} {s : Nat × Nat} (h : rs_gr a b n c i = some s) : rs_gr a b n c (i + 1) = rs_st a b n c i s := by
  show (rs_gr a b n c i).bind (rs_st a b n c i) = _
  rw [h]; rfl
theorem rs_gr_no {a b : Nat → Int32} {n c i : Nat} (h : rs_gr a b n c i = none) : ∀ d, rs_gr a b n c (i + d) = none := by
  intro d
  induction d with
  | zero => exact h
  | succ d ih =>
    show (rs_gr a b n c (i + d)).bind (rs_st a b n c (i + d)) = _
    rw [ih]; rfl
theorem rs_gr_ub {a b : Nat → Int32} {n c : Nat} : ∀ i s, rs_gr a b n c i = some s → s.1 ≤ n ∧ rs_D a b i s.1 + 2 * s.2 ≤ i + s.1 := by
  intro i
  induction i with
  | zero =>
    intro s hs
    have e : s = (0, 0) := (Option.some.inj hs).symm
    subst e
    exact ⟨Nat.zero_le _, Nat.le_refl _⟩
  | succ i ih =>
    intro s hs
    cases e : rs_gr a b n c i with
    | none => rw [rs_gr_no e 1] at hs; exact absurd hs (by simp)
    | some s0 =>
      have I := ih s0 e
      rw [rs_gr_s e] at hs
      unfold rs_st at hs
      split at hs
      · split at hs
        · rename_i h1 h2
          have es := Option.some.inj hs
          subst es
          have F1 := rs_fd_in (b := b) (x := a i) (n - s0.1) s0.1
          have F2 := rs_fd_eq (b := b) (x := a i) (n - s0.1) s0.1 (by omega)
          have F3 := rs_D_far (a := a) (b := b) i s0.1 (rs_fd b (a i) (n - s0.1) s0.1 - s0.1)
          rw [show s0.1 + (rs_fd b (a i) (n - s0.1) s0.1 - s0.1) = rs_fd b (a i) (n - s0.1) s0.1 by omega] at F3
          refine ⟨h2, ?_⟩
          show rs_D a b (i + 1) (rs_fd b (a i) (n - s0.1) s0.1 + 1) + 2 * (s0.2 + 1) ≤ i + 1 + (rs_fd b (a i) (n - s0.1) s0.1 + 1)
          rw [rs_De F2.symm]
          omega
        · exact absurd hs (by simp)
      · have es := Option.some.inj hs
        subst es
        have := rs_D_dn (a := a) (b := b) i s0.1
        exact ⟨I.1, by omega⟩
theorem rs_gr_le {a b : Nat → Int32} {n c m : Nat} {s : Nat × Nat} (h : rs_gr a b n c m = some s) : rs_D a b m n + 2 * s.2 ≤ m + n := by
  have I := rs_gr_ub m s h
  have F := rs_D_far (a := a) (b := b) m s.1 (n - s.1)
  rw [show s.1 + (n - s.1) = n by omega] at F
  omega
theorem rs_gr_congr {a b : Nat → Int32} {n c c' : Nat} : ∀ i, (∀ x, x < i → c.testBit x = c'.testBit x) → rs_gr a b n c i = rs_gr a b n c' i := by
  intro i
  induction i with
  | zero => intro _; rfl
  | succ i ih =>
    intro h
    show (rs_gr a b n c i).bind (rs_st a b n c i) = (rs_gr a b n c' i).bind (rs_st a b n c' i)
    rw [ih (fun x hx => h x (by omega))]
    have e : rs_st a b n c i = rs_st a b n c' i := by
      funext s
      unfold rs_st
      rw [h i (by omega)]
    rw [e]
theorem rs_gr_0 {a b : Nat → Int32} {n : Nat} : ∀ i, rs_gr a b n 0 i = some (0, 0) := by
  intro i
  induction i with
  | zero => rfl
  | succ i ih =>
    rw [rs_gr_s ih]
    unfold rs_st
    rw [Nat.zero_testBit]
    rfl
theorem rs_gr_ex {a b : Nat → Int32} {n : Nat} : ∀ i j, j ≤ n → ∃ c s, c < 2 ^ i ∧ rs_gr a b n c i = some s ∧ s.1 ≤ j ∧ i + j ≤ rs_D a b i j + 2 * s.2 := by
  intro i
  induction i with
  | zero =>
    intro j _
    exact ⟨0, (0, 0), by decide, rfl, Nat.zero_le _, by rw [rs_D0]; omega⟩
  | succ i ih =>
    intro j
    induction j with
    | zero =>
      intro _
      exact ⟨0, (0, 0), Nat.two_pow_pos _, rs_gr_0 _, Nat.le_refl _, by rw [rs_Di0]; omega⟩
    | succ j ihj =>
      intro hj
      have h2 : 2 ^ (i + 1) = 2 ^ i + 2 ^ i := by rw [Nat.pow_succ]; omega
      by_cases e : a i = b j
      · obtain ⟨c, s, hc, hg, hs, hD⟩ := ih j (by omega)
        have F := rs_fd_le (b := b) (x := a i) (n - s.1) s.1 j hs (by omega) e.symm
        refine ⟨2 ^ i + c, (rs_fd b (a i) (n - s.1) s.1 + 1, s.2 + 1), by omega, ?_, ?_, ?_⟩
        · have hg' : rs_gr a b n (2 ^ i + c) i = some s := by
            rw [← hg]
            exact rs_gr_congr i (fun x hx => Nat.testBit_two_pow_add_gt hx c)
          rw [rs_gr_s hg']
          unfold rs_st
          rw [if_pos (by rw [Nat.testBit_two_pow_add_eq, Nat.testBit_lt_two_pow hc]; rfl), if_pos (by omega)]
        · show rs_fd b (a i) (n - s.1) s.1 + 1 ≤ j + 1
          omega
        · show i + 1 + (j + 1) ≤ rs_D a b (i + 1) (j + 1) + 2 * (s.2 + 1)
          rw [rs_De e]
          omega
      · by_cases hm : rs_D a b i (j + 1) ≤ rs_D a b (i + 1) j
        · obtain ⟨c, s, hc, hg, hs, hD⟩ := ih (j + 1) hj
          refine ⟨c, s, by omega, ?_, hs, ?_⟩
          · rw [rs_gr_s hg]
            unfold rs_st
            rw [if_neg (by rw [Nat.testBit_lt_two_pow hc]; decide)]
          · rw [rs_Dn e]
            omega
        · obtain ⟨c, s, hc, hg, hs, hD⟩ := ihj (by omega)
          refine ⟨c, s, hc, hg, by omega, ?_⟩
          rw [rs_Dn e]
          omega
