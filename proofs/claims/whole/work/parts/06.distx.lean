theorem rs_m11 (a i : Nat) : nI a * 11 + nI i = nI (a * 11 + i) := by
  show nI a * nI 11 + nI i = _
  rw [pk_mul, nI_add]
theorem rs_c1 (o i : Nat) : nI o * 10 + nI (i + 1) - 1 = nI (o * 10 + i) := by
  rw [rs_m10, show o * 10 + (i + 1) = o * 10 + i + 1 from rfl, nI_pred]
theorem rs_t11 (x : Nat) : nI (x + 11) - 11 = nI x := by
  show nI (x + 11) - nI 11 = _
  rw [pk_sub (by omega), Nat.add_sub_cancel]
/-- the table holds the distances of the rows above i, and of row i those left of j -/
def rs_T (a b : Nat → Int32) (n i j : Nat) (tb : Nat → Int32) : Prop :=
  (∀ i' j', i' < i → j' ≤ n → tb (i' * 11 + j') = nI (rs_D a b i' j')) ∧ (∀ j', j' < j → tb (i * 11 + j') = nI (rs_D a b i j'))
theorem rs_T_put {a b : Nat → Int32} {n i j : Nat} {tb : Nat → Int32} (hn : n ≤ 10) (hj : j ≤ n) (H : rs_T a b n i j tb) : rs_T a b n i (j + 1) (upd tb (i * 11 + j) (nI (rs_D a b i j))) := by
  refine ⟨fun i' j' h1 h2 => ?_, fun j' h1 => ?_⟩
  · rw [pk_un (by omega)]
    exact H.1 i' j' h1 h2
  · by_cases e : j' = j
    · subst e
      exact pk_us
    · rw [pk_un (by omega)]
      exact H.2 j' (by omega)
theorem rs_T_row {a b : Nat → Int32} {n i : Nat} {tb : Nat → Int32} (H : rs_T a b n i (n + 1) tb) : rs_T a b n (i + 1) 0 tb := by
  refine ⟨fun i' j' h1 h2 => ?_, fun j' h1 => absurd h1 (Nat.not_lt_zero _)⟩
  by_cases e : i' = i
  · subst e
    exact H.2 j' (by omega)
  · exact H.1 i' j' (by omega) h2
theorem rs_begin {post : Int32 → Prop} {hc gn : Int32} {c l p h tb : Nat → Int32} {o o' m n i j : Nat} (ho : o ≤ 40) (ho' : o' ≤ 40) (hm : m ≤ 10) (hn : n ≤ 10) (hi : i ≤ m) (hj : j ≤ n)
    (H : rs_T (fun x => c (o * 10 + x)) (fun x => c (o' * 10 + x)) n i j tb) (hp : post (nI (rs_D (fun x => c (o * 10 + x)) (fun x => c (o' * 10 + x)) i j))) :
    wpX_beginningsDistance post (hc, gn, c, l, p, h, tb) (nI o) (nI i) (nI o') (nI j) := by
  cases i with
  | zero =>
    refine br_t rfl ?_
    rw [rs_D0] at hp
    rw [nI_add, Nat.zero_add]
    exact hp
  | succ i =>
    refine br_f (nI_ne0 (by omega) (by omega)) ?_
    cases j with
    | zero =>
      refine br_t rfl ?_
      rw [rs_Di0] at hp
      rw [nI_add, Nat.add_zero]
      exact hp
    | succ j =>
      refine br_f (nI_ne0 (by omega) (by omega)) (nm_r (rs_m11 (i + 1) (j + 1)) ?_)
      have e1 := rs_c1 o i
      have e2 := rs_c1 o' j
      have e3 : nI ((i + 1) * 11 + (j + 1)) - 11 = nI (i * 11 + (j + 1)) := by
        rw [show (i + 1) * 11 + (j + 1) = i * 11 + (j + 1) + 11 by omega, rs_t11]
      have e4 : nI ((i + 1) * 11 + (j + 1)) - 11 - 1 = nI (i * 11 + j) := by
        rw [e3, show i * 11 + (j + 1) = i * 11 + j + 1 from rfl, nI_pred]
      have e5 : nI ((i + 1) * 11 + (j + 1)) - 1 = nI ((i + 1) * 11 + j) := nI_pred ((i + 1) * 11 + j)
      refine ⟨pk_in (o * 10 + i) 410 (by omega) e1, pk_in (o' * 10 + j) 410 (by omega) e2, ?_⟩
      rw [pk_cl (o * 10 + i) e1, pk_cl (o' * 10 + j) e2]
      refine br_c (fun e => ⟨pk_in (i * 11 + j) 121 (by omega) e4, ?_⟩) (fun e => ⟨pk_in (i * 11 + (j + 1)) 121 (by omega) e3, nm_r (e' := nI (rs_D (fun x => c (o * 10 + x)) (fun x => c (o' * 10 + x)) i (j + 1) + 1)) ?_ ⟨pk_in ((i + 1) * 11 + j) 121 (by omega) e5, nm_r (e' := nI (rs_D (fun x => c (o * 10 + x)) (fun x => c (o' * 10 + x)) (i + 1) j + 1)) ?_ ?_⟩⟩)
      · rw [pk_cl (i * 11 + j) e4, H.1 i j (by omega) (by omega)]
        rw [rs_De (a := fun x => c (o * 10 + x)) (b := fun x => c (o' * 10 + x)) e] at hp
        exact hp
      · rw [pk_cl (i * 11 + (j + 1)) e3, H.1 i (j + 1) (by omega) (by omega), nI_1]
      · rw [pk_cl ((i + 1) * 11 + j) e5, H.2 j (by omega), nI_1]
      · rw [rs_Dn (a := fun x => c (o * 10 + x)) (b := fun x => c (o' * 10 + x)) e] at hp
        have b1 := rs_D_le (a := fun x => c (o * 10 + x)) (b := fun x => c (o' * 10 + x)) i (j + 1)
        have b2 := rs_D_le (a := fun x => c (o * 10 + x)) (b := fun x => c (o' * 10 + x)) (i + 1) j
        refine pk_le (rs_D (fun x => c (o * 10 + x)) (fun x => c (o' * 10 + x)) (i + 1) j + 1) (rs_D (fun x => c (o * 10 + x)) (fun x => c (o' * 10 + x)) i (j + 1) + 1) (fun z => ?_) (fun z => ?_)
        · rw [Nat.min_eq_right (by omega)] at hp
          exact hp
        · rw [Nat.min_eq_left (by omega)] at hp
          exact hp
theorem rs_inner {post : Int32 → SX → Prop} {J : Int32 → (Nat → Int32) → (Nat → Int32) → (Nat → Int32) → (Nat → Int32) → (Nat → Int32) → Prop} {hc gn : Int32} {c l p h : Nat → Int32} {o o' m n i : Nat} (ho : o ≤ 40) (ho' : o' ≤ 40) (hm : m ≤ 10) (hn : n ≤ 10) (hi : i ≤ m)
    (hJ : ∀ tb', rs_T (fun x => c (o * 10 + x)) (fun x => c (o' * 10 + x)) n (i + 1) 0 tb' → J (nI (i + 1)) c l p h tb') : ∀ d j tb, j + d = n + 1 → rs_T (fun x => c (o * 10 + x)) (fun x => c (o' * 10 + x)) n i j tb → wX_textDistance_27 post J (nI o) (nI o') (nI m) (nI n) (nI i) hc gn (d + 1) (nI j) c l p h tb := by
  intro d
  induction d with
  | zero =>
    intro j tb hd H
    have e : j = n + 1 := by omega
    subst e
    exact br_t (nI_lt (by omega) (by omega)) (nm_r (nI_1 i) (hJ tb (rs_T_row H)))
  | succ d ih =>
    intro j tb hd H
    refine br_f (nI_nlt (by omega) (by omega)) (rs_begin ho ho' hm hn hi (by omega) H ⟨pk_in (i * 11 + j) 121 (by omega) (rs_m11 i j), nm_r ?_ (nm_r (nI_1 j) (ih (j + 1) _ (by omega) (rs_T_put hn (by omega) H)))⟩)
    rw [pk_cl (i * 11 + j) (rs_m11 i j)]
theorem rs_outer {post : Int32 → SX → Prop} {hc gn : Int32} {c l p h : Nat → Int32} {o o' m n : Nat} (ho : o ≤ 40) (ho' : o' ≤ 40) (hm : m ≤ 10) (hn : n ≤ 10)
    (hp : ∀ tb', post (nI (rs_D (fun x => c (o * 10 + x)) (fun x => c (o' * 10 + x)) m n)) (hc, gn, c, l, p, h, tb')) : ∀ d i tb, i + d = m + 1 → rs_T (fun x => c (o * 10 + x)) (fun x => c (o' * 10 + x)) n i 0 tb → wX_textDistance_18 post (nI o) (nI o') (nI m) (nI n) hc gn (d + 1) (nI i) c l p h tb := by
  intro d
  induction d with
  | zero =>
    intro i tb hd H
    have e : i = m + 1 := by omega
    subst e
    refine br_t (nI_lt (by omega) (by omega)) ⟨pk_in (m * 11 + n) 121 (by omega) (rs_m11 m n), ?_⟩
    rw [pk_cl (m * 11 + n) (rs_m11 m n), H.1 m n (by omega) (by omega)]
    exact hp tb
  | succ d ih =>
    intro i tb hd H
    exact br_f (nI_nlt (by omega) (by omega)) ⟨n + 1 + 1, rs_inner ho ho' hm hn (by omega) (fun tb' H' => ih (i + 1) tb' (by omega) H') (n + 1) 0 tb (by omega) H⟩
theorem rs_textD {post : Int32 → SX → Prop} {hc gn : Int32} {c l p h tb : Nat → Int32} {o o' m n : Nat} (ho : o ≤ 40) (ho' : o' ≤ 40) (hm : m ≤ 10) (hn : n ≤ 10) (em : l o = nI m) (en : l o' = nI n)
    (hp : ∀ tb', post (nI (rs_D (fun x => c (o * 10 + x)) (fun x => c (o' * 10 + x)) m n)) (hc, gn, c, l, p, h, tb')) : wpX_textDistance post (hc, gn, c, l, p, h, tb) (nI o) (nI o') := by
  refine ⟨vp_in_nI (by omega) (by decide), nm_r (e' := nI m) ?_ ⟨vp_in_nI (by omega) (by decide), nm_r (e' := nI n) ?_ ⟨m + 1 + 1, rs_outer ho ho' hm hn hp (m + 1) 0 tb (by omega) ⟨fun i' j' h1 => absurd h1 (Nat.not_lt_zero _), fun j' h1 => absurd h1 (Nat.not_lt_zero _)⟩⟩⟩⟩
  · rw [nI_clamp (by omega)]; exact em
  · rw [nI_clamp (by omega)]; exact en
