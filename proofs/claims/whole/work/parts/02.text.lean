theorem rs_put_loop (pl L : Nat) (x2 hc gn nx ll rl : Int32) (T lens p h tb ln le ri : Nat → Int32) : ∀ (d : Nat) (t : Nat → Int32), pl + d < 10 → ∃ t' : Nat → Int32,
    (∀ post : Int32 → SX → Prop, post (nI L + 1) (hc, gn, rs_gl T t', upd lens 40 (nI L + 1), p, h, tb) → wX_put_39 post (nI pl) x2 (nI L) hc gn (d + 1) (nI (pl + d)) (rs_gl T t) lens p h tb) ∧
    (∀ post : Int32 → SY → Prop, post (nI L + 1) (nI L + 1, nx, ll, rl, t', h, p, ln, T, le, ri) → wY_put_39 post (nI pl) x2 (nI L) nx ll rl (d + 1) (nI (pl + d)) t h p ln T le ri) := by
  intro d
  induction d with
  | zero =>
    intro t hd
    have hle : nI (pl + 0) ≤ nI pl := nI_le (by omega) (by omega)
    refine ⟨upd t pl x2, fun post hp => br_t hle ⟨pk_in (400 + pl) 410 (by omega) (rs_400 pl), nm_r ?_ (nm_e hp)⟩, fun post hp => br_t hle ⟨vp_in_nI (by omega) (by omega), nm_r ?_ (nm_e hp)⟩⟩
    · rw [pk_cl (400 + pl) (rs_400 pl), rs_gu_hi]
    · rw [nI_clamp (by omega)]
  | succ d ih =>
    intro t hd
    have hle : ¬ nI (pl + (d + 1)) ≤ nI pl := nI_ge (by omega) (by omega)
    obtain ⟨t', hX, hY⟩ := ih (upd t (pl + d + 1) (t (pl + d))) (by omega)
    refine ⟨t', fun post hp => br_f hle ⟨pk_in (400 + (pl + d)) 410 (by omega) (rs_400m (pl + d)), pk_in (400 + (pl + d + 1)) 410 (by omega) (rs_400 (pl + d + 1)), nm_r ?_ (nm_r (pk_m1 (pl + d)) (hX post hp))⟩, fun post hp => br_f hle ⟨pk_in (pl + d) 10 (by omega) (nI_pred (pl + d)), vp_in_nI (by omega) (by omega), nm_r ?_ (nm_r (pk_m1 (pl + d)) (hY post hp))⟩⟩
    · rw [← Nat.add_assoc pl d 1, pk_cl (400 + (pl + d + 1)) (rs_400 (pl + d + 1)), pk_cl (400 + (pl + d)) (rs_400m (pl + d)), rs_gl_hi, rs_gu_hi]
    · rw [← Nat.add_assoc pl d 1, pk_cl (pl + d) (nI_pred (pl + d)), nI_clamp (by omega)]
theorem i_vc_put {k : Nat} {u : SX} {v : SY} (I : i_Rel k u v) (hk : k + 3 ≤ 1536) (v1 : Int32) (v2 : Int32) : wpX_put (fun r u' => wpY_put (fun r' v' => r' = r ∧ i_Rel (k + 3) u' v') v v1 v2) u v1 v2 := by
  have I0 := I
  obtain ⟨g, L, ll, rl, t, h, p, ln, T, le, ri, tb, rfl, rfl, hg, hL, hc, hln, hp⟩ := I
  refine nm_r (pk_us (f := ln) (k := 40) (x := nI L)) ?_
  refine br_c (fun a => br_t a ⟨rfl, I0⟩) (fun a => br_c (fun b => br_f a (br_t b ⟨rfl, I0⟩)) (fun b => br_c (fun c => br_f a (br_f b (br_t c ⟨rfl, I0⟩))) (fun c => br_c (fun d => br_f a (br_f b (br_f c (br_t d ⟨rfl, I0⟩)))) (fun d => ?_))))
  obtain ⟨pl, hpl, rfl⟩ := nI_of c
  have hpL : pl ≤ L := by
    rw [nI_ltI (by omega) hpl] at d
    omega
  refine pk_lt (y := 10) L 10 (fun e => ?_) (fun e => ?_)
  · obtain ⟨t', hX, hY⟩ := rs_put_loop pl L v2 (nI (rs_cnt h 40)) (nI g) (nI g) ll rl T (upd ln 40 (nI L)) p h tb ln le ri (L - pl) t (by omega)
    rw [show pl + (L - pl) = L by omega] at hX hY
    refine ⟨_, hX _ (br_f a (br_f b (br_f c (br_f d (br_f ?_ ⟨_, hY _ ⟨rfl, ?_⟩⟩)))))⟩
    · exact fun z => absurd ((nI_eq (by omega) (by omega) (b := 10)).mp z) (by omega)
    · exact ⟨g, L + 1, ll, rl, t', h, p, ln, T, le, ri, tb, by rw [rs_uu, nI_1], by rw [nI_1], hg, by omega, hc, hln, hp⟩
  · refine br_f a (br_f b (br_f c (br_f d (br_t ?_ ⟨rfl, I0⟩))))
    rw [show L = 10 by omega]; rfl
theorem rs_take_loop (L : Nat) (x hc gn nx ll rl : Int32) (T lens p h tb ln le ri : Nat → Int32) : ∀ (d i : Nat) (t : Nat → Int32), i + d = L → L < 10 → ∃ t' : Nat → Int32,
    (∀ post : Int32 → SX → Prop, post x (hc, gn, rs_gl T t', upd lens 40 (nI (L + 1) - 1), p, h, tb) → wX_take_33 post (nI (L + 1)) x hc gn (d + 1) (nI i) (rs_gl T t) lens p h tb) ∧
    (∀ post : Int32 → SY → Prop, post x (nI L, nx, ll, rl, t', h, p, ln, T, le, ri) → wY_take_33 post x (nI L) nx ll rl (d + 1) (nI i) t h p ln T le ri) := by
  intro d
  induction d with
  | zero =>
    intro i t hd hL
    have hle : nI L ≤ nI i := nI_le (by omega) (by omega)
    have hle' : nI (L + 1) - 1 ≤ nI i := by rw [nI_pred]; exact hle
    exact ⟨t, fun post hp => br_t hle' (nm_e hp), fun post hp => br_t hle hp⟩
  | succ d ih =>
    intro i t hd hL
    have hle : ¬ nI L ≤ nI i := nI_ge (by omega) (by omega)
    have hle' : ¬ nI (L + 1) - 1 ≤ nI i := by rw [nI_pred]; exact hle
    obtain ⟨t', hX, hY⟩ := ih (i + 1) (upd t i (t (i + 1))) (by omega) hL
    refine ⟨t', fun post hp => br_f hle' ⟨pk_in (400 + (i + 1)) 410 (by omega) (rs_400p i), pk_in (400 + i) 410 (by omega) (rs_400 i), nm_r ?_ (nm_r (nI_1 i) (hX post hp))⟩, fun post hp => br_f hle ⟨pk_in (i + 1) 10 (by omega) (nI_1 i), vp_in_nI (by omega) (by omega), nm_r ?_ (nm_r (nI_1 i) (hY post hp))⟩⟩
    · rw [pk_cl (400 + i) (rs_400 i), pk_cl (400 + (i + 1)) (rs_400p i), rs_gl_hi, rs_gu_hi]
    · rw [pk_cl (i + 1) (nI_1 i), nI_clamp (by omega)]
theorem i_vc_take {k : Nat} {u : SX} {v : SY} (I : i_Rel k u v) (hk : k + 3 ≤ 1536) (v1 : Int32) : wpX_take (fun r u' => wpY_take (fun r' v' => r' = r ∧ i_Rel (k + 3) u' v') v v1) u v1 := by
  have I0 := I
  obtain ⟨g, L, ll, rl, t, h, p, ln, T, le, ri, tb, rfl, rfl, hg, hL, hc, hln, hp⟩ := I
  refine nm_r (pk_us (f := ln) (k := 40) (x := nI L)) ?_
  refine br_c (fun a => br_t a ⟨rfl, I0⟩) (fun a => br_c (fun b => ?_) (fun b => br_f a (br_f b ⟨rfl, I0⟩)))
  obtain ⟨pl, hpl, rfl⟩ := nI_of a
  have hpL : pl < L := (nI_ltI hpl (by omega)).mp b
  obtain ⟨M, rfl⟩ : ∃ M, L = M + 1 := ⟨L - 1, by omega⟩
  obtain ⟨t', hX, hY⟩ := rs_take_loop M (t pl) (nI (rs_cnt h 40)) (nI g) (nI g) ll rl T (upd ln 40 (nI (M + 1))) p h tb ln le ri (M - pl) pl t (by omega) (by omega)
  refine ⟨pk_in (400 + pl) 410 (by omega) (rs_400 pl), nm_r (e' := t pl) ?_ ⟨_, hX _ (br_f a (br_t b ⟨vp_in_nI (by omega) (by omega), nm_r (e' := t pl) ?_ (nm_r (nI_pred M) ⟨_, hY _ ⟨rfl, ?_⟩⟩)⟩))⟩⟩
  · rw [pk_cl (400 + pl) (rs_400 pl), rs_gl_hi]
  · rw [nI_clamp hpl]
  · exact ⟨g, M, ll, rl, t', h, p, ln, T, le, ri, tb, by rw [rs_uu, nI_pred], rfl, hg, by omega, hc, hln, hp⟩
theorem i_vc_lines {k : Nat} {u : SX} {v : SY} (I : i_Rel k u v) (hk : k + 3 ≤ 1536) : wpX_lines (fun r => wpY_lines (fun r' => r' = r ∧ i_Rel (k + 3) u v) v) u := by
  have I0 := I
  obtain ⟨g, L, ll, rl, t, h, p, ln, T, le, ri, tb, rfl, rfl, hg, hL, hc, hln, hp⟩ := I
  exact ⟨(pk_us (f := ln) (k := 40) (x := nI L)).symm, I0⟩
theorem i_vc_line {k : Nat} {u : SX} {v : SY} (I : i_Rel k u v) (hk : k + 3 ≤ 1536) (v1 : Int32) : wpX_line (fun r => wpY_line (fun r' => r' = r ∧ i_Rel (k + 3) u v) v v1) u v1 := by
  have I0 := I
  obtain ⟨g, L, ll, rl, t, h, p, ln, T, le, ri, tb, rfl, rfl, hg, hL, hc, hln, hp⟩ := I
  have e40 : upd ln 40 (nI L) 40 = nI L := pk_us
  refine br_c (fun a => br_t a ⟨rfl, I0⟩) (fun a => br_c (fun b => ?_) (fun b => br_f a (br_f (by rw [e40] at b; exact b) ⟨rfl, I0⟩)))
  rw [e40] at b
  obtain ⟨pl, hpl, rfl⟩ := nI_of a
  have hpL : pl < L := (nI_ltI hpl (by omega)).mp b
  refine ⟨pk_in (400 + pl) 410 (by omega) (rs_400 pl), br_f a (br_t b ⟨vp_in_nI (by omega) (by omega), ?_, I0⟩)⟩
  rw [pk_cl (400 + pl) (rs_400 pl), rs_gl_hi, nI_clamp hpl]
