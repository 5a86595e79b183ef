def rs_res : Option (Nat × Nat) → Int32
  | none => -1
  | some s => nI s.2
theorem rs_bit {c i : Nat} (hc : c < 2 ^ 31) (hi : i < 32) : ((nI c >>> (nI i &&& 31)) &&& 1) = 1 ↔ c.testBit i = true := by
  rw [pk_shrN hc _ i (rs_sl i hi), pk_andN (Nat.lt_of_le_of_lt (Nat.div_le_self _ _) (by omega)) 1 (by decide), Nat.testBit_eq_decide_div_mod_eq, decide_eq_true_eq]
  exact nI_eq (b := 1) (by omega) (by omega)
section
variable {li nx : Int32} {t h p ln T le ri : Nat → Int32} {m n : Nat}
theorem rs_stay26 {post : Int32 → Prop} {J : Int32 → Int32 → Int32 → Prop} {x1 x3 : Int32} {i : Nat} (hi : i < 10) (hn : n ≤ 10) : ∀ d q, q + d = n → wY_stay_56 post J x1 (nI (rs_fd ri (le i) d q)) x3 (nI i) li nx (nI m) (nI n) t h p ln T le ri → wY_stay_26 post J x1 x3 (nI i) li nx (nI m) (nI n) t h p ln T le ri (d + 1) (nI q) := by
  intro d
  induction d with
  | zero =>
    intro q hq W
    exact br_t (nI_le (by omega) (by omega)) W
  | succ d ih =>
    intro q hq W
    have e1 : ri (nI q).toNatClampNeg = ri q := by rw [nI_clamp (by omega)]
    have e2 : le (nI i).toNatClampNeg = le i := by rw [nI_clamp (by omega)]
    refine br_f (nI_ge (by omega) (by omega)) ⟨vp_in_nI (by omega) (by omega), vp_in_nI (by omega) (by omega), ?_⟩
    rw [e1, e2]
    by_cases e : ri q = le i
    · rw [show rs_fd ri (le i) (d + 1) q = q from if_pos e] at W
      exact br_t e W
    · rw [show rs_fd ri (le i) (d + 1) q = rs_fd ri (le i) d (q + 1) from if_neg e] at W
      exact br_f e (nm_r (nI_1 q) (ih (q + 1) (by omega) W))
theorem rs_stay7 {post : Int32 → Prop} {c : Nat} (hc : c < 2 ^ 31) (hm : m ≤ 10) (hn : n ≤ 10) (hp : post (rs_res (rs_gr le ri n c m))) : ∀ d i (s : Nat × Nat), i + d = m → rs_gr le ri n c i = some s → wY_stay_7 post (nI c) li nx (nI m) (nI n) t h p ln T le ri (d + 1) (nI s.1) (nI s.2) (nI i) := by
  intro d
  induction d with
  | zero =>
    intro i s hi hg
    have e : i = m := by omega
    subst e
    rw [hg] at hp
    exact br_t (nI_le (by omega) (by omega)) hp
  | succ d ih =>
    intro i s hi hg
    refine br_f (nI_ge (by omega) (by omega)) ?_
    have hs := (rs_gr_ub i s hg).1
    have G := rs_gr_s hg
    by_cases e : c.testBit i = true
    · refine br_t ((rs_bit hc (by omega)).mpr e) ⟨n - s.1 + 1, rs_stay26 (by omega) hn (n - s.1) s.1 (by omega) ?_⟩
      unfold rs_st at G
      rw [if_pos e] at G
      by_cases f : rs_fd ri (le i) (n - s.1) s.1 < n
      · rw [if_pos f] at G
        exact br_t (nI_lt f (by omega)) (nm_r (nI_1 _) (nm_r (nI_1 _) (nm_r (nI_1 i) (ih (i + 1) _ (by omega) G))))
      · rw [if_neg f] at G
        have F := (rs_fd_in (b := ri) (x := le i) (n - s.1) s.1).2
        have N := rs_gr_no G d
        rw [show i + 1 + d = m by omega] at N
        rw [N] at hp
        exact br_f (nI_nlt (by omega) (by omega)) hp
    · refine br_f (fun z => e ((rs_bit hc (by omega)).mp z)) (nm_r (nI_1 i) (ih (i + 1) s (by omega) ?_))
      rw [G]
      exact if_neg e
theorem rs_least_loop {post : Int32 → Prop} (hm : m ≤ 10) (hn : n ≤ 10) {cc : Nat} {ss : Nat × Nat} (hcc : rs_gr le ri n cc m = some ss) (hss : m + n ≤ rs_D le ri m n + 2 * ss.2) (hcl : cc < 2 ^ m) (hp : post (nI (rs_D le ri m n))) :
    ∀ d c B, c + d = 2 ^ m → rs_D le ri m n ≤ B → B ≤ m + n → (cc < c → B = rs_D le ri m n) → wY_least_12 post li nx (nI m) (nI n) t h p ln T le ri (d + 1) (nI B) (nI c) := by
  have hpw : 2 ^ m ≤ 1024 := Nat.pow_le_pow_right (n := 2) (by decide) hm
  have hsh : (1 : Int32) <<< (nI m &&& 31) = nI (2 ^ m) := by
    have := pk_shlN (n := 1) (nI m &&& 31) m (rs_sl m (by omega)) (by omega)
    rw [Nat.one_mul] at this
    exact this
  intro d
  induction d with
  | zero =>
    intro c B hd h1 h2 h3
    have e : B = rs_D le ri m n := h3 (by omega)
    subst e
    refine br_t ?_ hp
    rw [hsh]
    exact nI_le (by omega) (by omega)
  | succ d ih =>
    intro c B hd h1 h2 h3
    refine br_f ?_ ?_
    · rw [hsh]
      exact nI_ge (by omega) (by omega)
    refine ⟨m + 1, rs_stay7 (by omega) hm hn ?_ m 0 (0, 0) (by omega) rfl⟩
    cases G : rs_gr le ri n c m with
    | none =>
      refine nm_e (br_t (by decide) (nm_r (nI_1 c) (ih (c + 1) B (by omega) h1 h2 (fun z => h3 ?_))))
      have : cc ≠ c := by
        intro e
        subst e
        rw [G] at hcc
        exact absurd hcc (by simp)
      omega
    | some s =>
      have U := rs_gr_le G
      have e4 : nI m + nI n - 2 * nI s.2 = nI (m + n - 2 * s.2) := by
        rw [nI_add, show (2 : Int32) * nI s.2 = nI (2 * s.2) from pk_mul 2 s.2, pk_sub (by omega)]
      refine nm_r e4 (br_f (nI_pos (by omega)) (pk_le B (m + n - 2 * s.2) (fun z => nm_r (nI_1 c) (ih (c + 1) B (by omega) h1 h2 (fun y => ?_))) (fun z => nm_r (nI_1 c) (ih (c + 1) (m + n - 2 * s.2) (by omega) (by omega) (by omega) (fun y => ?_)))))
      · by_cases e : cc = c
        · subst e
          rw [hcc] at G
          have es := Option.some.inj G
          subst es
          omega
        · exact h3 (by omega)
      · by_cases e : cc = c
        · subst e
          rw [hcc] at G
          have es := Option.some.inj G
          subst es
          omega
        · have := h3 (by omega)
          omega
theorem rs_least {post : Int32 → Prop} (hm : m ≤ 10) (hn : n ≤ 10) (hp : post (nI (rs_D le ri m n))) : wpY_least post (li, nx, nI m, nI n, t, h, p, ln, T, le, ri) := by
  obtain ⟨cc, ss, h1, h2, h3, h4⟩ := rs_gr_ex (a := le) (b := ri) (n := n) m n (Nat.le_refl _)
  exact nm_r (nI_add m n) ⟨2 ^ m + 1, rs_least_loop hm hn h2 h4 h1 hp (2 ^ m) 0 (m + n) (by omega) (rs_D_le m n) (Nat.le_refl _) (fun z => absurd z (Nat.not_lt_zero _))⟩
end
theorem rs_right_loop {post : SY → Prop} {li nx ll : Int32} {t h p ln T le : Nat → Int32} {r n : Nat} (hr : r < 40) (hn : n ≤ 10) (hp : ∀ ri' : Nat → Int32, (∀ x, x < n → ri' x = T (10 * r + x)) → post (li, nx, ll, nI n, t, h, p, ln, T, le, ri')) :
    ∀ d i ri, i + d = n → (∀ x, x < i → ri x = T (10 * r + x)) → wY_layRight_12 post (nI r) li nx ll (nI n) (d + 1) (nI i) t h p ln T le ri := by
  intro d
  induction d with
  | zero =>
    intro i ri hd H
    exact br_t (nI_le (by omega) (by omega)) (hp ri (fun x hx => H x (by omega)))
  | succ d ih =>
    intro i ri hd H
    refine br_f (nI_ge (by omega) (by omega)) ⟨pk_in (10 * r + i) 400 (by omega) (rs_10m r i), vp_in_nI (by omega) (by omega), nm_r (e' := upd ri i (T (10 * r + i))) ?_ (nm_r (nI_1 i) (ih (i + 1) _ (by omega) (fun x hx => ?_)))⟩
    · rw [pk_cl (10 * r + i) (rs_10m r i), nI_clamp (by omega)]
    · by_cases e : x = i
      · subst e; exact pk_us
      · rw [pk_un e]; exact H x (by omega)
theorem rs_right {post : SY → Prop} {li nx ll rl : Int32} {t h p ln T le ri : Nat → Int32} {r n : Nat} (hr : r < 40) (hn : n ≤ 10) (en : ln r = nI n) (hp : ∀ ri' : Nat → Int32, (∀ x, x < n → ri' x = T (10 * r + x)) → post (li, nx, ll, nI n, t, h, p, ln, T, le, ri')) : wpY_layRight post (li, nx, ll, rl, t, h, p, ln, T, le, ri) (nI r) := by
  refine ⟨vp_in_nI hr (by decide), nm_r (e' := nI n) ?_ ⟨n + 1, rs_right_loop hr hn hp n 0 ri (by omega) (fun x hx => absurd hx (Nat.not_lt_zero _))⟩⟩
  rw [nI_clamp (by omega)]; exact en
theorem rs_dist_loop {post : Int32 → SY → Prop} {li nx rl : Int32} {t h p ln T ri : Nat → Int32} {r q m n : Nat} (hr : r < 40) (hq : q < 40) (hm : m ≤ 10) (hn : n ≤ 10) (en : ln q = nI n) (hp : ∀ le' ri' : Nat → Int32, (∀ x, x < m → le' x = T (10 * r + x)) → (∀ x, x < n → ri' x = T (10 * q + x)) → post (nI (rs_D le' ri' m n)) (li, nx, nI m, nI n, t, h, p, ln, T, le', ri')) :
    ∀ d i le, i + d = m → (∀ x, x < i → le x = T (10 * r + x)) → wY_distance_30 post (nI r) (nI q) li nx (nI m) rl (d + 1) (nI i) t h p ln T le ri := by
  intro d
  induction d with
  | zero =>
    intro i le hd H
    exact br_t (nI_le (by omega) (by omega)) (rs_right hq hn en (fun ri' hri => rs_least hm hn (hp le ri' (fun x hx => H x (by omega)) hri)))
  | succ d ih =>
    intro i le hd H
    refine br_f (nI_ge (by omega) (by omega)) ⟨pk_in (10 * r + i) 400 (by omega) (rs_10m r i), vp_in_nI (by omega) (by omega), nm_r (e' := upd le i (T (10 * r + i))) ?_ (nm_r (nI_1 i) (ih (i + 1) _ (by omega) (fun x hx => ?_)))⟩
    · rw [pk_cl (10 * r + i) (rs_10m r i), nI_clamp (by omega)]
    · by_cases e : x = i
      · subst e; exact pk_us
      · rw [pk_un e]; exact H x (by omega)
theorem rs_chan_loop {post : Int32 → SY → Prop} {nx rl : Int32} {t h p ln T ri : Nat → Int32} {q m n : Nat} (hq : q < 40) (hm : m ≤ 10) (hn : n ≤ 10) (en : ln q = nI n) (hp : ∀ le' ri' : Nat → Int32, (∀ x, x < m → le' x = t x) → (∀ x, x < n → ri' x = T (10 * q + x)) → post (nI (rs_D le' ri' m n)) (nI m, nx, nI m, nI n, t, h, p, ln, T, le', ri')) :
    ∀ d i le, i + d = m → (∀ x, x < i → le x = t x) → wY_changed_20 post (nI q) (nI m) nx (nI m) rl (d + 1) (nI i) t h p ln T le ri := by
  intro d
  induction d with
  | zero =>
    intro i le hd H
    exact br_t (nI_le (by omega) (by omega)) (rs_right hq hn en (fun ri' hri => rs_least hm hn (hp le ri' (fun x hx => H x (by omega)) hri)))
  | succ d ih =>
    intro i le hd H
    refine br_f (nI_ge (by omega) (by omega)) ⟨vp_in_nI (by omega) (by omega), vp_in_nI (by omega) (by omega), nm_r (e' := upd le i (t i)) ?_ (nm_r (nI_1 i) (ih (i + 1) _ (by omega) (fun x hx => ?_)))⟩
    · rw [nI_clamp (by omega)]
    · by_cases e : x = i
      · subst e; exact pk_us
      · rw [pk_un e]; exact H x (by omega)
