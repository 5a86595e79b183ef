theorem rs_cnt_le {h : Nat → Int32} : ∀ {b a : Nat}, a ≤ b → rs_cnt h a ≤ rs_cnt h b := by
  intro b
  induction b with
  | zero =>
    intro a ha
    rw [show a = 0 by omega]; omega
  | succ b ih =>
    intro a ha
    by_cases e : a = b + 1
    · subst e; omega
    · have := ih (a := a) (by omega)
      show rs_cnt h a ≤ rs_cnt h b + _
      omega
theorem rs_cnt_s {h : Nat → Int32} {r : Nat} (hr : h r ≠ 0) : rs_cnt h (r + 1) = rs_cnt h r + 1 := by
  show rs_cnt h r + (if h r = 0 then 0 else 1) = _
  rw [if_neg hr]
/-- where a walk up the row stands after s steps: above the first revision, or at a held one with room for the rest -/
def rs_C (h : Nat → Int32) (s : Nat) (x : Int32) : Prop := (x = -2 ∧ s ≤ 12) ∨ ∃ r, r < 40 ∧ h r ≠ 0 ∧ x = nI r ∧ s + rs_cnt h (r + 1) ≤ 12
theorem rs_C_up {g L : Nat} {h p ln : Nat → Int32} (I : rs_I g L h p ln) {s r : Nat} (hr : h r ≠ 0) (hs : s + rs_cnt h (r + 1) ≤ 12) : rs_C h (s + 1) (p r) := by
  obtain ⟨hg, hL, hc, hln, hp⟩ := I
  have e := rs_cnt_s hr
  obtain ⟨h1, h2⟩ := hp r hr
  rcases h2 with h2 | ⟨q, hq1, hq2, hq3⟩
  · exact Or.inl ⟨h2, by omega⟩
  · have := rs_cnt_le (h := h) (a := q + 1) (b := r) (by omega)
    exact Or.inr ⟨q, by omega, hq2, hq3, by omega⟩
theorem rs_C_0 {g L : Nat} {h p ln : Nat → Int32} (I : rs_I g L h p ln) {r : Nat} (hr : r < 40) (hh : h r ≠ 0) : rs_C h 0 (nI r) := by
  have := rs_cnt_le (h := h) (a := r + 1) (b := 40) (by omega)
  have := I.2.2.1
  exact Or.inr ⟨r, hr, hh, rfl, by omega⟩
theorem rs_nH2 {h : Nat → Int32} : ¬ rs_H h (-2) := fun ⟨_, hr, e, _⟩ => rs_ne2 hr e.symm
theorem rs_row {g L : Nat} {h p ln : Nat → Int32} (I : rs_I g L h p ln) (so hc gn li nx ll rl : Int32) (c l tb t T le ri : Nat → Int32) : ∀ (d s : Nat) (x : Int32), s + d = 12 → rs_C h s x → ∃ a : Int32,
    (∀ post : Int32 → Prop, post a → wX_isInRowOf_5 post so hc gn c l p h tb (d + 1) x (nI s)) ∧
    (∀ post : Int32 → Prop, post a → wY_forebear_5 post so li nx ll rl t h p ln T le ri (d + 1) x (nI s)) := by
  intro d
  induction d with
  | zero =>
    intro s x hs hC
    have e : s = 12 := by omega
    subst e
    have hx : x = -2 := by
      rcases hC with hC | ⟨r, hr, hh, _, hle⟩
      · exact hC.1
      · have := rs_cnt_s hh
        omega
    subst hx
    exact ⟨0, fun post hp => br_t (nI_le (a := 12) (b := 12) (by omega) (by decide)) hp, fun post hp => br_f (nI_ge (b := 40) (a := 12) (by omega) (by decide)) (br_t (by decide) hp)⟩
  | succ d ih =>
    intro s x hs hC
    have hX : ¬ (12 : Int32) ≤ nI s := nI_ge (b := 12) (by omega) (by decide)
    have hY : ¬ (40 : Int32) ≤ nI s := nI_ge (b := 40) (by omega) (by decide)
    rcases hC with ⟨rfl, _⟩ | ⟨r, hr, hh, rfl, hle⟩
    · exact ⟨0, fun post hp => br_f hX (rs_xh_f rs_nH2 (br_t rfl hp)), fun post hp => br_f hY (br_t (by decide) hp)⟩
    · by_cases e : nI r = so
      · exact ⟨1, fun post hp => br_f hX (rs_xh_t hr hh (br_f (by decide) (br_t e hp))), fun post hp => br_f hY (br_f (nI_pos (by omega)) (br_t e hp))⟩
      · obtain ⟨a, hA, hB⟩ := ih (s + 1) (p r) (by omega) (rs_C_up I hh hle)
        have ep : p (nI r).toNatClampNeg = p r := by rw [nI_clamp (by omega)]
        exact ⟨a, fun post hp => br_f hX (rs_xh_t hr hh (br_f (by decide) (br_f e ⟨vp_in_nI hr (by decide), nm_r ep (nm_r (nI_1 s) (hA post hp))⟩))), fun post hp => br_f hY (br_f (nI_pos (by omega)) (br_f e ⟨vp_in_nI hr (by decide), nm_r ep (nm_r (nI_1 s) (hB post hp))⟩))⟩
theorem rs_base {g L : Nat} {h p ln : Nat → Int32} (I : rs_I g L h p ln) {b : Nat} (hb : b < 40) (hhb : h b ≠ 0) (hc gn li nx ll rl : Int32) (c l tb t T le ri : Nat → Int32) : ∀ (d s : Nat) (x : Int32), s + d = 12 → rs_C h s x → ∃ a : Int32,
    (∀ post : Int32 → Prop, post a → wX_base_23 post (nI b) hc gn c l p h tb (d + 1) x (nI s)) ∧
    (∀ post : Int32 → Prop, post a → wY_base_23 post (nI b) li nx ll rl t h p ln T le ri (d + 1) x (nI s)) := by
  intro d
  induction d with
  | zero =>
    intro s x hs hC
    have e : s = 12 := by omega
    subst e
    have hx : x = -2 := by
      rcases hC with hC | ⟨r, hr, hh, _, hle⟩
      · exact hC.1
      · have := rs_cnt_s hh
        omega
    subst hx
    exact ⟨-2, fun post hp => br_t (nI_le (a := 12) (b := 12) (by omega) (by decide)) hp, fun post hp => br_f (nI_ge (b := 40) (a := 12) (by omega) (by decide)) (br_t (by decide) hp)⟩
  | succ d ih =>
    intro s x hs hC
    have hX : ¬ (12 : Int32) ≤ nI s := nI_ge (b := 12) (by omega) (by decide)
    have hY : ¬ (40 : Int32) ≤ nI s := nI_ge (b := 40) (by omega) (by decide)
    rcases hC with ⟨rfl, _⟩ | ⟨r, hr, hh, rfl, hle⟩
    · exact ⟨-2, fun post hp => br_f hX (rs_xh_f rs_nH2 (br_t rfl hp)), fun post hp => br_f hY (br_t (by decide) hp)⟩
    · obtain ⟨w, hA, hB⟩ := rs_row I (nI r) hc gn li nx ll rl c l tb t T le ri 12 0 (nI b) rfl (rs_C_0 I hb hhb)
      by_cases e : w = 0
      · obtain ⟨a, hA', hB'⟩ := ih (s + 1) (p r) (by omega) (rs_C_up I hh hle)
        have ep : p (nI r).toNatClampNeg = p r := by rw [nI_clamp (by omega)]
        refine ⟨a, fun post hp => br_f hX (rs_xh_t hr hh (br_f (by decide) ⟨13, hA _ (br_t e ⟨vp_in_nI hr (by decide), nm_r ep (nm_r (nI_1 s) (hA' post hp))⟩)⟩)), fun post hp => br_f hY (br_f (nI_pos (by omega)) ⟨13, hB _ (br_t e ⟨vp_in_nI hr (by decide), nm_r ep (nm_r (nI_1 s) (hB' post hp))⟩)⟩)⟩
      · refine ⟨nI r, fun post hp => br_f hX (rs_xh_t hr hh (br_f (by decide) ⟨13, hA _ (br_f e hp)⟩)), fun post hp => br_f hY (br_f (nI_pos (by omega)) ⟨13, hB _ (br_f e hp)⟩)⟩
theorem i_vc_base {k : Nat} {u : SX} {v : SY} (I : i_Rel k u v) (hk : k + 3 ≤ 1536) (v1 : Int32) (v2 : Int32) : wpX_base (fun r => wpY_base (fun r' => r' = r ∧ i_Rel (k + 3) u v) v v1 v2) u v1 v2 := by
  have I0 := I
  obtain ⟨g, L, ll, rl, t, h, p, ln, T, le, ri, tb, rfl, rfl, J⟩ := I
  unfold wpX_base wpY_base
  dsimp only
  by_cases a : rs_H h v1
  · obtain ⟨r, hr, rfl, hh⟩ := a
    by_cases b : rs_H h v2
    · obtain ⟨q, hq, rfl, hhq⟩ := b
      obtain ⟨w, hA, hB⟩ := rs_base J hq hhq (nI (rs_cnt h 40)) (nI g) (nI L) (nI g) ll rl (rs_gl T t) (upd ln 40 (nI L)) tb t T le ri 12 0 (nI r) rfl (rs_C_0 J hr hh)
      exact rs_xh_t hr hh (br_f (by decide) (rs_xh_t hq hhq (br_f (by decide) ⟨13, hA _ (rs_ym_t hr hh (br_t rfl (rs_ym_t hq hhq (br_t rfl ⟨13, hB _ ⟨rfl, I0⟩⟩))))⟩)))
    · exact rs_xh_t hr hh (br_f (by decide) (rs_xh_f b (br_t rfl (rs_ym_t hr hh (br_t rfl (rs_ym_f b (br_f (by decide) ⟨rfl, I0⟩)))))))
  · exact rs_xh_f a (br_t rfl (rs_ym_f a (br_f (by decide) ⟨rfl, I0⟩)))
theorem rs_same_loop {r L : Nat} (hr : r < 40) (hL : L ≤ 10) (hc gn nx ll rl : Int32) (T t l p h tb h' p' ln le ri : Nat → Int32) : ∀ d i, i + d = L → ∃ a : Int32,
    (∀ post : Int32 → Prop, post a → wX_isSameText_22 post 40 (nI r) (nI L) hc gn (rs_gl T t) l p h tb (d + 1) (nI i)) ∧
    (∀ post : Int32 → Prop, post a → wY_same_17 post (nI r) (nI L) nx ll rl t h' p' ln T le ri (d + 1) (nI i)) := by
  intro d
  induction d with
  | zero =>
    intro i hi
    have hle : nI L ≤ nI i := nI_le (by omega) (by omega)
    exact ⟨1, fun post hp => br_t hle hp, fun post hp => br_t hle hp⟩
  | succ d ih =>
    intro i hi
    have hle : ¬ nI L ≤ nI i := nI_ge (by omega) (by omega)
    obtain ⟨a, hX, hY⟩ := ih (i + 1) (by omega)
    have e1 : rs_gl T t ((40 : Int32) * 10 + nI i).toNatClampNeg = t i := by rw [pk_cl (400 + i) (rs_40m i), rs_gl_hi]
    have e2 : rs_gl T t (nI r * 10 + nI i).toNatClampNeg = T (10 * r + i) := by rw [pk_cl (r * 10 + i) (rs_m10 r i), rs_gl_lo (by omega), Nat.mul_comm r 10]
    have e3 : T (10 * nI r + nI i).toNatClampNeg = T (10 * r + i) := by rw [pk_cl (10 * r + i) (rs_10m r i)]
    have e4 : t (nI i).toNatClampNeg = t i := by rw [nI_clamp (by omega)]
    have w1 : vp_in ((40 : Int32) * 10 + nI i) 410 := pk_in (400 + i) 410 (by omega) (rs_40m i)
    have w2 : vp_in (nI r * 10 + nI i) 410 := pk_in (r * 10 + i) 410 (by omega) (rs_m10 r i)
    have w3 : vp_in (10 * nI r + nI i) 400 := pk_in (10 * r + i) 400 (by omega) (rs_10m r i)
    have w4 : vp_in (nI i) 10 := vp_in_nI (by omega) (by omega)
    by_cases e : T (10 * r + i) = t i
    · exact ⟨a, fun post hp => br_f hle ⟨w1, w2, br_t (by rw [e1, e2]; exact e.symm) (nm_r (nI_1 i) (hX post hp))⟩, fun post hp => br_f hle ⟨w3, w4, br_t (by rw [e3, e4]; exact e) (nm_r (nI_1 i) (hY post hp))⟩⟩
    · exact ⟨0, fun post hp => br_f hle ⟨w1, w2, br_f (by rw [e1, e2]; exact fun z => e z.symm) hp⟩, fun post hp => br_f hle ⟨w3, w4, br_f (by rw [e3, e4]; exact e) hp⟩⟩
theorem rs_same {g r L : Nat} (hr : r < 40) {h p ln : Nat → Int32} (I : rs_I g L h p ln) (hc gn nx ll rl : Int32) (T t tb le ri : Nat → Int32) : ∃ a : Int32,
    (∀ post : Int32 → Prop, post a → wpX_isSameText post (hc, gn, rs_gl T t, upd ln 40 (nI L), p, h, tb) 40 (nI r)) ∧
    (∀ post : Int32 → Prop, post a → wpY_same post (nI L, nx, ll, rl, t, h, p, ln, T, le, ri) (nI r)) := by
  obtain ⟨a, hX, hY⟩ := rs_same_loop hr I.2.1 hc gn nx ll rl T t (upd ln 40 (nI L)) p h tb h p ln le ri L 0 (by omega)
  have e1 : upd ln 40 (nI L) (nI r).toNatClampNeg = ln r := by rw [nI_clamp (by omega), pk_un (by omega)]
  have e2 : ln (nI r).toNatClampNeg = ln r := by rw [nI_clamp (by omega)]
  by_cases e : ln r = nI L
  · exact ⟨a, fun post hp => ⟨vp_in_iff.mpr (by decide), nm_r (e' := nI L) pk_us ⟨vp_in_nI (by omega) (by decide), br_t (by rw [e1]; exact e.symm) ⟨_, hX post hp⟩⟩⟩, fun post hp => ⟨vp_in_nI hr (by decide), br_t (by rw [e2]; exact e) ⟨_, hY post hp⟩⟩⟩
  · exact ⟨0, fun post hp => ⟨vp_in_iff.mpr (by decide), nm_r (e' := nI L) pk_us ⟨vp_in_nI (by omega) (by decide), br_f (by rw [e1]; exact fun z => e z.symm) hp⟩⟩, fun post hp => ⟨vp_in_nI hr (by decide), br_f (by rw [e2]; exact e) hp⟩⟩
theorem rs_find {g L : Nat} {h p ln : Nat → Int32} (I : rs_I g L h p ln) (hc gn nx ll rl : Int32) (T t tb le ri : Nat → Int32) : ∀ d i, i + d = 40 → ∃ a : Int32,
    (∀ post : Int32 → Prop, post a → wX_find_2 post hc gn (rs_gl T t) (upd ln 40 (nI L)) p h tb (d + 1) (nI i)) ∧
    (∀ post : Int32 → Prop, post a → wY_find_2 post (nI L) nx ll rl t h p ln T le ri (d + 1) (nI i)) := by
  intro d
  induction d with
  | zero =>
    intro i hi
    have hle : (40 : Int32) ≤ nI i := nI_le (a := 40) (by omega) (by omega)
    exact ⟨-1, fun post hp => br_t hle hp, fun post hp => br_t hle hp⟩
  | succ d ih =>
    intro i hi
    have hle : ¬ (40 : Int32) ≤ nI i := nI_ge (b := 40) (by omega) (by decide)
    have hv : vp_in (nI i) 40 := vp_in_nI (by omega) (by decide)
    obtain ⟨a, hX, hY⟩ := ih (i + 1) (by omega)
    by_cases e : h (nI i).toNatClampNeg = 0
    · exact ⟨a, fun post hp => br_f hle ⟨hv, br_t e (nm_r (nI_1 i) (hX post hp))⟩, fun post hp => br_f hle ⟨hv, br_t e (nm_r (nI_1 i) (hY post hp))⟩⟩
    · obtain ⟨w, hA, hB⟩ := rs_same (r := i) (by omega) I hc gn nx ll rl T t tb le ri
      by_cases e2 : w = 0
      · exact ⟨a, fun post hp => br_f hle ⟨hv, br_f e (hA _ (br_t e2 (nm_r (nI_1 i) (hX post hp))))⟩, fun post hp => br_f hle ⟨hv, br_f e (hB _ (br_t e2 (nm_r (nI_1 i) (hY post hp))))⟩⟩
      · exact ⟨nI i, fun post hp => br_f hle ⟨hv, br_f e (hA _ (br_f e2 hp))⟩, fun post hp => br_f hle ⟨hv, br_f e (hB _ (br_f e2 hp))⟩⟩
theorem i_vc_find {k : Nat} {u : SX} {v : SY} (I : i_Rel k u v) (hk : k + 3 ≤ 1536) : wpX_find (fun r => wpY_find (fun r' => r' = r ∧ i_Rel (k + 3) u v) v) u := by
  have I0 := I
  obtain ⟨g, L, ll, rl, t, h, p, ln, T, le, ri, tb, rfl, rfl, J⟩ := I
  obtain ⟨a, hX, hY⟩ := rs_find J (nI (rs_cnt h 40)) (nI g) (nI g) ll rl T t tb le ri 40 0 rfl
  exact ⟨41, hX _ ⟨41, hY _ ⟨rfl, I0⟩⟩⟩
