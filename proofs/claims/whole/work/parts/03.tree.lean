theorem rs_m10 (a i : Nat) : nI a * 10 + nI i = nI (a * 10 + i) := by
  show nI a * nI 10 + nI i = _
  rw [pk_mul, nI_add]
theorem rs_10m (a i : Nat) : 10 * nI a + nI i = nI (10 * a + i) := by
  show nI 10 * nI a + nI i = _
  rw [pk_mul, nI_add]
theorem rs_40m (i : Nat) : (40 : Int32) * 10 + nI i = nI (400 + i) := rs_m10 40 i
theorem rs_cnt_out {h : Nat → Int32} {r : Nat} {x : Int32} : ∀ n, n ≤ r → rs_cnt (upd h r x) n = rs_cnt h n := by
  intro n
  induction n with
  | zero => intro _; rfl
  | succ n ih =>
    intro hn
    show rs_cnt (upd h r x) n + (if upd h r x n = 0 then 0 else 1) = rs_cnt h n + (if h n = 0 then 0 else 1)
    rw [ih (by omega), pk_un (by omega)]
theorem rs_cnt_in {h : Nat → Int32} {r : Nat} {x : Int32} (hr : h r = 0) (hx : x ≠ 0) : ∀ n, r < n → rs_cnt (upd h r x) n = rs_cnt h n + 1 := by
  intro n
  induction n with
  | zero => intro h; omega
  | succ n ih =>
    intro hn
    show rs_cnt (upd h r x) n + (if upd h r x n = 0 then 0 else 1) = rs_cnt h n + (if h n = 0 then 0 else 1) + 1
    by_cases e : n = r
    · subst e
      rw [rs_cnt_out n (by omega), pk_us, if_neg hx, if_pos hr]
    · rw [ih (by omega), pk_un e]; omega
theorem rs_cnt_de {h : Nat → Int32} {r : Nat} (hr : h r ≠ 0) : ∀ n, r < n → rs_cnt h n = rs_cnt (upd h r 0) n + 1 := by
  intro n
  induction n with
  | zero => intro h; omega
  | succ n ih =>
    intro hn
    show rs_cnt h n + (if h n = 0 then 0 else 1) = rs_cnt (upd h r 0) n + (if upd h r 0 n = 0 then 0 else 1) + 1
    by_cases e : n = r
    · subst e
      rw [rs_cnt_out n (by omega), pk_us, if_neg hr, if_pos rfl]
    · rw [ih (by omega), pk_un e]; omega
theorem rs_yc_loop {post : Int32 → Prop} {a b c d : Int32} {t h p ln T le ri : Nat → Int32} (hp : post (nI (rs_cnt h 40))) : ∀ d' i, i + d' = 40 → wY_count_4 post a b c d t h p ln T le ri (d' + 1) (nI (rs_cnt h i)) (nI i) := by
  intro d'
  induction d' with
  | zero =>
    intro i hi
    have e : i = 40 := by omega
    subst e
    exact br_t (nI_le (a := 40) (b := 40) (by omega) (by decide)) hp
  | succ d' ih =>
    intro i hi
    have hs : rs_cnt h (i + 1) = rs_cnt h i + (if h i = 0 then 0 else 1) := rfl
    have ih' := ih (i + 1) (by omega)
    refine br_f (nI_ge (b := 40) (by omega) (by decide)) ⟨vp_in_nI (by omega) (by decide), br_c (fun z => ?_) (fun z => ?_)⟩
    · rw [nI_clamp (by omega)] at z
      rw [hs, if_pos z, Nat.add_zero] at ih'
      exact nm_r (nI_1 i) ih'
    · rw [nI_clamp (by omega)] at z
      rw [hs, if_neg z] at ih'
      exact nm_r (nI_1 _) (nm_r (nI_1 i) ih')
theorem rs_yc {post : Int32 → Prop} {a b c d : Int32} {t h p ln T le ri : Nat → Int32} (hp : post (nI (rs_cnt h 40))) : wpY_count post (a, b, c, d, t, h, p, ln, T, le, ri) := ⟨41, rs_yc_loop hp 40 0 rfl⟩
theorem rs_commit_loop (g L : Nat) (hg : g < 40) (hL : L ≤ 10) (hc gn ll rl : Int32) (t lens p h tb h' p' ln' le ri : Nat → Int32) : ∀ (d i : Nat) (T : Nat → Int32), i + d = L → ∃ T' : Nat → Int32,
    (∀ post : SX → Prop, post (hc, gn, rs_gl T' t, upd lens g (nI L), p, h, tb) → wX_copyText_10 post 40 (nI g) (nI L) hc gn (d + 1) (nI i) (rs_gl T t) lens p h tb) ∧
    (∀ post : Int32 → SY → Prop, post (nI g + 1 - 1) (nI L, nI g + 1, ll, rl, t, h', p', ln', T', le, ri) → wY_commit_78 post (nI L) (nI g) ll rl (d + 1) (nI i) t h' p' ln' T le ri) := by
  intro d
  induction d with
  | zero =>
    intro i T hi
    have hle : nI L ≤ nI i := nI_le (by omega) (by omega)
    refine ⟨T, fun post hp => br_t hle ⟨vp_in_nI (by omega) (by omega), nm_r ?_ hp⟩, fun post hp => br_t hle (nm_e hp)⟩
    rw [nI_clamp (by omega)]
  | succ d ih =>
    intro i T hi
    have hle : ¬ nI L ≤ nI i := nI_ge (by omega) (by omega)
    obtain ⟨T', hX, hY⟩ := ih (i + 1) (upd T (10 * g + i) (t i)) (by omega)
    refine ⟨T', fun post hp => br_f hle ⟨pk_in (400 + i) 410 (by omega) (rs_40m i), pk_in (g * 10 + i) 410 (by omega) (rs_m10 g i), nm_r ?_ (nm_r (nI_1 i) (hX post hp))⟩, fun post hp => br_f hle ⟨vp_in_nI (by omega) (by omega), pk_in (10 * g + i) 400 (by omega) (rs_10m g i), nm_r ?_ (nm_r (nI_1 i) (hY post hp))⟩⟩
    · rw [pk_cl (g * 10 + i) (rs_m10 g i), pk_cl (400 + i) (rs_40m i), rs_gl_hi, rs_gu_lo (by omega), Nat.mul_comm g 10]
    · rw [pk_cl (10 * g + i) (rs_10m g i), nI_clamp (by omega)]
theorem rs_ne2 {r : Nat} (h : r < 40) : ¬ nI r = -2 := by
  intro z
  have h1 : ¬ nI r < 0 := nI_pos (by omega)
  rw [z] at h1
  exact h1 (by decide)
theorem rs_commit_x (post : Int32 → SX → Prop) {g : Nat} (hg : g < 40) {z : Int32} {hc : Int32} {c l p h tb : Nat → Int32} (hp : post (nI g) (hc + 1, nI g + 1, c, l, upd p g z, upd h g 1, tb)) : wX_commit_63 post (nI g) z (nI g) hc (nI g) c l p h tb := by
  refine ⟨vp_in_nI hg (by decide), nm_r ?_ ⟨vp_in_nI hg (by decide), nm_r ?_ (nm_e (nm_e hp))⟩⟩
  · rw [nI_clamp (by omega)]
  · rw [nI_clamp (by omega), rs_b1]
theorem rs_commit_y (post : Int32 → SY → Prop) {g : Nat} (hg : g < 40) {z L ll rl : Int32} {t h p ln T le ri : Nat → Int32} (hp : ∃ n, wY_commit_78 post L (nI g) ll rl n 0 t h (upd p g z) (upd ln g L) T le ri) : wY_commit_62 post z (nI g) L (nI g) ll rl t h p ln T le ri := by
  refine ⟨vp_in_nI hg (by decide), nm_r ?_ ⟨vp_in_nI hg (by decide), nm_r ?_ hp⟩⟩
  · rw [nI_clamp (by omega)]
  · rw [nI_clamp (by omega)]
/-- what commit does behind the look at the parent -/
theorem rs_commit (k : Nat) {g L : Nat} {ll rl : Int32} {t h p ln T le ri tb : Nat → Int32} (I : rs_I g L h p ln) (v1 z : Int32) (hz1 : v1 = -1 → z = -2) (hz2 : ¬ v1 = -1 → z = v1) (hq : z = -2 ∨ ∃ q, q < g ∧ h q ≠ 0 ∧ z = nI q) (YW : (Int32 → SY → Prop) → Prop) (hy : ∀ post, wY_commit_13 post v1 (nI L) (nI g) ll rl t h p ln T le ri → YW post) :
    wX_commit_15 (fun r u' => YW (fun r' v' => r' = r ∧ i_Rel (k + 3) u' v')) v1 (nI (rs_cnt h 40)) (nI g) (rs_gl T t) (upd ln 40 (nI L)) p h tb := by
  have I0 : i_Rel (k + 3) (nI (rs_cnt h 40), nI g, rs_gl T t, upd ln 40 (nI L), p, h, tb) (nI L, nI g, ll, rl, t, h, p, ln, T, le, ri) := ⟨g, L, ll, rl, t, h, p, ln, T, le, ri, tb, rfl, rfl, I⟩
  obtain ⟨hg, hL, hc, hln, hp⟩ := I
  refine pk_le (x := 12) 12 (rs_cnt h 40) (fun a => ?_) (fun a => ?_)
  · refine hy _ (rs_yc (br_t ?_ ⟨rfl, I0⟩))
    rw [show rs_cnt h 40 = 12 by omega]; rfl
  have a' : ¬ nI (rs_cnt h 40) = 12 := fun z => absurd ((nI_eq (by omega) (by omega) (b := 12)).mp z) (by omega)
  refine pk_lt (y := 40) g 40 (fun b => ?_) (fun b => ?_)
  rotate_left
  · refine hy _ (rs_yc (br_f a' (br_t ?_ ⟨rfl, I0⟩)))
    rw [show g = 40 by omega]; rfl
  have b' : ¬ nI g = 40 := fun z => absurd ((nI_eq (by omega) (by omega) (b := 40)).mp z) (by omega)
  obtain ⟨T', hX, hY⟩ := rs_commit_loop g L b hL (nI (rs_cnt h 40)) (nI g) ll rl t (upd ln 40 (nI L)) p h tb (upd h g 1) (upd p g z) (upd ln g (nI L)) le ri L 0 T (by omega)
  have h0 : h g = 0 := by
    apply Classical.byContradiction
    intro e
    have := (hp g e).1
    omega
  have J : i_Rel (k + 3) (nI (rs_cnt h 40) + 1, nI g + 1, rs_gl T' t, upd (upd ln 40 (nI L)) g (nI L), upd p g z, upd h g 1, tb) (nI L, nI g + 1, ll, rl, t, upd h g 1, upd p g z, upd ln g (nI L), T', le, ri) := by
    refine ⟨g + 1, L, ll, rl, t, upd h g 1, upd p g z, upd ln g (nI L), T', le, ri, tb, ?_, ?_, by omega, hL, ?_, ?_, ?_⟩
    · rw [rs_cnt_in h0 (by decide) 40 b, nI_1, nI_1, rs_uc (by omega)]
    · rw [nI_1]
    · rw [rs_cnt_in h0 (by decide) 40 b]; omega
    · intro j
      by_cases e : j = g
      · subst e; exact ⟨L, hL, pk_us⟩
      · rw [pk_un e]; exact hln j
    · intro r hr
      by_cases e : r = g
      · subst e
        refine ⟨by omega, ?_⟩
        rw [pk_us]
        rcases hq with hq | ⟨q, hq1, hq2, hq3⟩
        · exact Or.inl hq
        · exact Or.inr ⟨q, hq1, by rw [pk_un (by omega)]; exact hq2, hq3⟩
      · rw [pk_un e] at hr
        obtain ⟨h1, h2⟩ := hp r hr
        refine ⟨by omega, ?_⟩
        rw [pk_un e]
        rcases h2 with h2 | ⟨q, hq1, hq2, hq3⟩
        · exact Or.inl h2
        · exact Or.inr ⟨q, hq1, by rw [pk_un (by omega)]; exact hq2, hq3⟩
  have Y : wY_commit_13 (fun r' v' => r' = nI g ∧ i_Rel (k + 3) (nI (rs_cnt h 40) + 1, nI g + 1, rs_gl T' t, upd (upd ln 40 (nI L)) g (nI L), upd p g z, upd h g 1, tb) v') v1 (nI L) (nI g) ll rl t h p ln T le ri := by
    refine rs_yc (br_f a' (br_f b' ⟨vp_in_nI b (by decide), nm_r (e' := upd h g 1) ?_ ?_⟩))
    · rw [nI_clamp (by omega), rs_b1]
    have W := rs_commit_y (fun r' v' => r' = nI g ∧ i_Rel (k + 3) (nI (rs_cnt h 40) + 1, nI g + 1, rs_gl T' t, upd (upd ln 40 (nI L)) g (nI L), upd p g z, upd h g 1, tb) v') b (z := z) (p := p) (ln := ln) ⟨_, hY _ ⟨by rw [nI_1, nI_pred], J⟩⟩
    exact br_c (fun e => by have e2 := hz1 e; subst e2; exact W) (fun e => by have e2 := hz2 e; subst e2; exact W)
  refine ⟨vp_in_iff.mpr (by decide), nm_r (e' := nI L) pk_us ⟨_, hX _ ?_⟩⟩
  refine br_c (fun e => rs_commit_x _ b ?_) (fun e => rs_commit_x _ b ?_)
  · rw [hz1 e] at Y; exact hy _ Y
  · rw [hz2 e] at Y; exact hy _ Y
theorem i_vc_commit {k : Nat} {u : SX} {v : SY} (I : i_Rel k u v) (hk : k + 3 ≤ 1536) (v1 : Int32) : wpX_commit (fun r u' => wpY_commit (fun r' v' => r' = r ∧ i_Rel (k + 3) u' v') v v1) u v1 := by
  have I0 := I
  obtain ⟨g, L, ll, rl, t, h, p, ln, T, le, ri, tb, rfl, rfl, J⟩ := I
  by_cases a : v1 = -1
  · exact br_t a (rs_commit k (ll := ll) (rl := rl) (le := le) (ri := ri) J v1 (-2) (fun _ => rfl) (fun e => absurd a e) (Or.inl rfl) (fun post => wpY_commit post (nI L, nI g, ll, rl, t, h, p, ln, T, le, ri) v1) (fun post hp => br_t a hp))
  · by_cases b : rs_H h v1
    · obtain ⟨q, hq, rfl, hh⟩ := b
      exact br_f a (rs_xh_t hq hh (br_f (by decide) (rs_commit k (ll := ll) (rl := rl) (le := le) (ri := ri) J (nI q) (nI q) (fun e => absurd e a) (fun _ => rfl) (Or.inr ⟨q, (J.2.2.2.2 q hh).1, hh, rfl⟩) (fun post => wpY_commit post (nI L, nI g, ll, rl, t, h, p, ln, T, le, ri) (nI q)) (fun post hp => br_f a (rs_ym_t hq hh (br_t rfl hp))))))
    · exact br_f a (rs_xh_f b (br_t rfl (br_f a (rs_ym_f b (br_f (by decide) ⟨rfl, I0⟩)))))
theorem rs_checkout_loop (r m : Nat) (hr : r < 40) (hm : m ≤ 10) (hc gn nx ll rl : Int32) (T lens p h tb h' p' ln' le ri : Nat → Int32) : ∀ (d i : Nat) (t : Nat → Int32), i + d = m → ∃ t' : Nat → Int32,
    (∀ post : SX → Prop, post (hc, gn, rs_gl T t', upd lens 40 (nI m), p, h, tb) → wX_copyText_10 post (nI r) 40 (nI m) hc gn (d + 1) (nI i) (rs_gl T t) lens p h tb) ∧
    (∀ post : Int32 → SY → Prop, post (nI m) (nI m, nx, ll, rl, t', h', p', ln', T, le, ri) → wY_checkout_22 post (nI r) (nI m) nx ll rl (d + 1) (nI i) t h' p' ln' T le ri) := by
  intro d
  induction d with
  | zero =>
    intro i t hi
    have hle : nI m ≤ nI i := nI_le (by omega) (by omega)
    exact ⟨t, fun post hp => br_t hle ⟨vp_in_iff.mpr (by decide), nm_e hp⟩, fun post hp => br_t hle hp⟩
  | succ d ih =>
    intro i t hi
    have hle : ¬ nI m ≤ nI i := nI_ge (by omega) (by omega)
    obtain ⟨t', hX, hY⟩ := ih (i + 1) (upd t i (T (10 * r + i))) (by omega)
    refine ⟨t', fun post hp => br_f hle ⟨pk_in (r * 10 + i) 410 (by omega) (rs_m10 r i), pk_in (400 + i) 410 (by omega) (rs_40m i), nm_r ?_ (nm_r (nI_1 i) (hX post hp))⟩, fun post hp => br_f hle ⟨pk_in (10 * r + i) 400 (by omega) (rs_10m r i), vp_in_nI (by omega) (by omega), nm_r ?_ (nm_r (nI_1 i) (hY post hp))⟩⟩
    · rw [pk_cl (r * 10 + i) (rs_m10 r i), pk_cl (400 + i) (rs_40m i), rs_gl_lo (by omega), rs_gu_hi, Nat.mul_comm r 10]
    · rw [pk_cl (10 * r + i) (rs_10m r i), nI_clamp (by omega)]
theorem i_vc_checkout {k : Nat} {u : SX} {v : SY} (I : i_Rel k u v) (hk : k + 3 ≤ 1536) (v1 : Int32) : wpX_checkout (fun r u' => wpY_checkout (fun r' v' => r' = r ∧ i_Rel (k + 3) u' v') v v1) u v1 := by
  have I0 := I
  obtain ⟨g, L, ll, rl, t, h, p, ln, T, le, ri, tb, rfl, rfl, hg, hL, hc, hln, hp⟩ := I
  unfold wpX_checkout wpY_checkout
  dsimp only
  by_cases b : rs_H h v1
  · obtain ⟨r, hr, rfl, hh⟩ := b
    obtain ⟨m, hm, em⟩ := hln r
    obtain ⟨t', hX, hY⟩ := rs_checkout_loop r m hr hm (nI (rs_cnt h 40)) (nI g) (nI g) ll rl T (upd ln 40 (nI L)) p h tb h p ln le ri m 0 t (by omega)
    refine rs_xh_t hr hh (br_f (by decide) ?_)
    refine ⟨vp_in_nI (by omega) (by omega), nm_r (e' := nI m) ?_ ⟨_, hX _ ?_⟩⟩
    · rw [nI_clamp (by omega), pk_un (by omega), em]
    · refine rs_ym_t hr hh (br_t rfl ⟨vp_in_nI (by omega) (by omega), nm_r (e' := nI m) ?_ ⟨_, hY _ ⟨(pk_us (f := upd ln 40 (nI L)) (k := 40) (x := nI m)).symm, ?_⟩⟩⟩)
      · rw [nI_clamp (by omega), em]
      · exact ⟨g, m, ll, rl, t', h, p, ln, T, le, ri, tb, by rw [rs_uu], rfl, hg, hm, hc, hln, hp⟩
  · exact rs_xh_f b (br_t rfl (rs_ym_f b (br_f (by decide) ⟨rfl, I0⟩)))
theorem i_vc_parent {k : Nat} {u : SX} {v : SY} (I : i_Rel k u v) (hk : k + 3 ≤ 1536) (v1 : Int32) : wpX_parent (fun r => wpY_parent (fun r' => r' = r ∧ i_Rel (k + 3) u v) v v1) u v1 := by
  have I0 := I
  obtain ⟨g, L, ll, rl, t, h, p, ln, T, le, ri, tb, rfl, rfl, hg, hL, hc, hln, hp⟩ := I
  unfold wpX_parent wpY_parent
  dsimp only
  by_cases b : rs_H h v1
  · obtain ⟨r, hr, rfl, hh⟩ := b
    exact rs_xh_t hr hh (br_f (by decide) ⟨vp_in_nI hr (by decide), rs_ym_t hr hh (br_t rfl ⟨vp_in_nI hr (by decide), rfl, I0⟩)⟩)
  · exact rs_xh_f b (br_t rfl (rs_ym_f b (br_f (by decide) ⟨rfl, I0⟩)))
/-- a revision's parent once r is gone; the array once the loop has done those below i -/
def rs_F (h p : Nat → Int32) (r c : Nat) : Int32 := if h c ≠ 0 ∧ p c = nI r then p r else p c
def rs_P (h p : Nat → Int32) (r i : Nat) : Nat → Int32 := fun c => if c < i then rs_F h p r c else p c
theorem rs_P0 {h p : Nat → Int32} {r : Nat} : rs_P h p r 0 = p := by
  funext c
  exact if_neg (by omega)
theorem rs_Pi {h p : Nat → Int32} {r i : Nat} : rs_P h p r i i = p i := if_neg (by omega)
theorem rs_Pu {h p : Nat → Int32} {r i : Nat} : upd (rs_P h p r i) i (rs_F h p r i) = rs_P h p r (i + 1) := by
  funext c
  simp only [upd, rs_P]
  by_cases e : c = i
  · subst e
    rw [if_pos rfl, if_pos (by omega)]
  · rw [if_neg e]
    by_cases e2 : c < i
    · rw [if_pos e2, if_pos (by omega)]
    · rw [if_neg e2, if_neg (by omega)]
theorem rs_Ps {h p : Nat → Int32} {r i : Nat} (hF : rs_F h p r i = p i) : rs_P h p r i = rs_P h p r (i + 1) := by
  rw [← rs_Pu, hF]
  funext c
  simp only [upd, rs_P]
  by_cases e : c = i
  · subst e
    rw [if_pos rfl, if_neg (by omega)]
  · rw [if_neg e]
theorem rs_Fr {h p : Nat → Int32} {r : Nat} (hr : p r ≠ nI r) : rs_F h p r r = p r := if_neg (fun z => hr z.2)
theorem rs_Pr {h p : Nat → Int32} {r i : Nat} (hr : p r ≠ nI r) : rs_P h p r i r = p r := by
  show (if r < i then rs_F h p r r else p r) = p r
  rw [rs_Fr hr]
  split
  · rfl
  · rfl
theorem rs_remove_x {r : Nat} (hr : r < 40) {h p c l tb : Nat → Int32} {hc gn : Int32} (hpr : p r ≠ nI r) {post : Int32 → SX → Prop} (hp : post (hc - 1) (hc - 1, gn, c, l, rs_P h p r 40, upd h r 0, tb)) : ∀ d i, i + d = 40 → wX_remove_12 post (nI r) hc gn (d + 1) (nI i) c l (rs_P h p r i) h tb := by
  intro d
  induction d with
  | zero =>
    intro i hi
    have e : i = 40 := by omega
    subst e
    refine br_t (nI_le (a := 40) (b := 40) (by omega) (by decide)) ⟨vp_in_nI hr (by decide), nm_r ?_ (nm_e hp)⟩
    rw [nI_clamp (by omega), rs_b0]
  | succ d ih =>
    intro i hi
    have W := ih (i + 1) (by omega)
    have hv : vp_in (nI i) 40 := vp_in_nI (by omega) (by decide)
    refine br_f (nI_ge (b := 40) (by omega) (by decide)) ⟨hv, ?_⟩
    rw [nI_clamp (n := i) (by omega), nI_clamp (n := r) (by omega), rs_Pi, rs_Pr hpr]
    refine br_c (fun a => ?_) (fun a => ⟨hv, br_c (fun b => ?_) (fun b => ?_)⟩)
    · rw [rs_Ps (if_neg (fun z => z.1 a))]
      exact nm_r (nI_1 i) W
    · refine ⟨vp_in_nI hr (by decide), hv, nm_r (e' := rs_P h p r (i + 1)) ?_ (nm_r (nI_1 i) W)⟩
      rw [← rs_Pu, show rs_F h p r i = p r from if_pos ⟨a, b⟩]
    · rw [rs_Ps (if_neg (fun z => b z.2))]
      exact nm_r (nI_1 i) W
theorem rs_remove_y {r : Nat} (hr : r < 40) {h p t ln T le ri : Nat → Int32} {li nx ll rl : Int32} (hpr : p r ≠ nI r) {post : Int32 → SY → Prop} (hp : post (nI (rs_cnt (upd h r 0) 40)) (li, nx, ll, rl, t, upd h r 0, rs_P h p r 40, ln, T, le, ri)) : ∀ d i, i + d = 40 → wY_remove_19 post (nI r) li nx ll rl (d + 1) (nI i) t (upd h r 0) (rs_P h p r i) ln T le ri := by
  intro d
  induction d with
  | zero =>
    intro i hi
    have e : i = 40 := by omega
    subst e
    exact br_t (nI_le (a := 40) (b := 40) (by omega) (by decide)) (rs_yc hp)
  | succ d ih =>
    intro i hi
    have W := ih (i + 1) (by omega)
    have hv : vp_in (nI i) 40 := vp_in_nI (by omega) (by decide)
    refine br_f (nI_ge (b := 40) (by omega) (by decide)) ⟨hv, ?_⟩
    rw [nI_clamp (n := i) (by omega), nI_clamp (n := r) (by omega), rs_Pi, rs_Pr hpr]
    by_cases e : i = r
    · subst e
      rw [rs_Ps (rs_Fr hpr)]
      exact br_t pk_us (nm_r (nI_1 i) W)
    · rw [pk_un e]
      refine br_c (fun a => ?_) (fun a => ⟨hv, br_c (fun b => ?_) (fun b => ?_)⟩)
      · rw [rs_Ps (if_neg (fun z => z.1 a))]
        exact nm_r (nI_1 i) W
      · refine ⟨vp_in_nI hr (by decide), hv, nm_r (e' := rs_P h p r (i + 1)) ?_ (nm_r (nI_1 i) W)⟩
        rw [← rs_Pu, show rs_F h p r i = p r from if_pos ⟨a, b⟩]
      · rw [rs_Ps (if_neg (fun z => b z.2))]
        exact nm_r (nI_1 i) W
theorem i_vc_remove {k : Nat} {u : SX} {v : SY} (I : i_Rel k u v) (hk : k + 3 ≤ 1536) (v1 : Int32) : wpX_remove (fun r u' => wpY_remove (fun r' v' => r' = r ∧ i_Rel (k + 3) u' v') v v1) u v1 := by
  have I0 := I
  obtain ⟨g, L, ll, rl, t, h, p, ln, T, le, ri, tb, rfl, rfl, hg, hL, hc, hln, hp⟩ := I
  unfold wpX_remove wpY_remove
  dsimp only
  by_cases b : rs_H h v1
  · obtain ⟨r, hr, rfl, hh⟩ := b
    have hne : ∀ q, q < 40 → nI q = nI r → q = r := fun q hq e => (nI_eq (by omega) (by omega)).mp e
    have hpr : p r ≠ nI r := by
      intro e
      rcases (hp r hh).2 with h2 | ⟨q, hq1, hq2, hq3⟩
      · exact rs_ne2 hr (e.symm.trans h2)
      · have := hne q (by omega) (hq3.symm.trans e)
        omega
    have hcd := rs_cnt_de hh 40 hr
    have J : i_Rel (k + 3) (nI (rs_cnt h 40) - 1, nI g, rs_gl T t, upd ln 40 (nI L), rs_P h p r 40, upd h r 0, tb) (nI L, nI g, ll, rl, t, upd h r 0, rs_P h p r 40, ln, T, le, ri) := by
      refine ⟨g, L, ll, rl, t, upd h r 0, rs_P h p r 40, ln, T, le, ri, tb, ?_, rfl, hg, hL, by omega, hln, ?_⟩
      · rw [hcd, nI_pred]
      · intro c hcc
        have ecr : c ≠ r := by
          intro e
          subst e
          exact hcc pk_us
        rw [pk_un ecr] at hcc
        obtain ⟨h1, h2⟩ := hp c hcc
        refine ⟨h1, ?_⟩
        rw [show rs_P h p r 40 c = rs_F h p r c from if_pos (by omega)]
        by_cases e : p c = nI r
        · rw [show rs_F h p r c = p r from if_pos ⟨hcc, e⟩]
          have hrc : r < c := by
            rcases h2 with h2 | ⟨q, hq1, hq2, hq3⟩
            · exact absurd (e.symm.trans h2) (rs_ne2 hr)
            · have := hne q (by omega) (hq3.symm.trans e)
              omega
          rcases (hp r hh).2 with h3 | ⟨q, hq1, hq2, hq3⟩
          · exact Or.inl h3
          · exact Or.inr ⟨q, by omega, by rw [pk_un (by omega)]; exact hq2, hq3⟩
        · rw [show rs_F h p r c = p c from if_neg (fun z => e z.2)]
          rcases h2 with h2 | ⟨q, hq1, hq2, hq3⟩
          · exact Or.inl h2
          · refine Or.inr ⟨q, hq1, ?_, hq3⟩
            rw [pk_un]
            · exact hq2
            · intro e2
              subst e2
              exact e hq3
    refine rs_xh_t hr hh (br_f (by decide) ⟨41, ?_⟩)
    have X := rs_remove_x hr (h := h) (p := p) (c := rs_gl T t) (l := upd ln 40 (nI L)) (tb := tb) (hc := nI (rs_cnt h 40)) (gn := nI g) hpr (post := fun r1 u' => wpY_remove (fun r' v' => r' = r1 ∧ i_Rel (k + 3) u' v') (nI L, nI g, ll, rl, t, h, p, ln, T, le, ri) (nI r)) ?_ 40 0 rfl
    · rw [rs_P0] at X
      exact X
    · unfold wpY_remove
      dsimp only
      refine rs_ym_t hr hh (br_t rfl ⟨vp_in_nI hr (by decide), nm_r (e' := upd h r 0) ?_ ⟨41, ?_⟩⟩)
      · rw [nI_clamp (by omega), rs_b0]
      · have Y := rs_remove_y hr (h := h) (p := p) (t := t) (ln := ln) (T := T) (le := le) (ri := ri) (li := nI L) (nx := nI g) (ll := ll) (rl := rl) hpr (post := fun r' v' => r' = nI (rs_cnt h 40) - 1 ∧ i_Rel (k + 3) (nI (rs_cnt h 40) - 1, nI g, rs_gl T t, upd ln 40 (nI L), rs_P h p r 40, upd h r 0, tb) v') ⟨by rw [hcd, nI_pred], J⟩ 40 0 rfl
        rw [rs_P0] at Y
        exact Y
  · exact rs_xh_f b (br_t rfl (rs_ym_f b (br_f (by decide) ⟨rfl, I0⟩)))
