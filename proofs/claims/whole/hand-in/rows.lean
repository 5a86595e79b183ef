section
theorem pk_us {f : Nat → Int32} {k : Nat} {x : Int32} : upd f k x k = x := if_pos rfl
theorem pk_un {f : Nat → Int32} {k j : Nat} {x : Int32} (h : j ≠ k) : upd f k x j = f j := if_neg h
theorem pk_sub {a b : Nat} (h : b ≤ a) : nI a - nI b = nI (a - b) := by
  obtain ⟨c, rfl⟩ : ∃ c, a = c + b := ⟨a - b, by omega⟩
  rw [← nI_add, Int32.add_sub_cancel, Nat.add_sub_cancel]
theorem pk_m1 (n : Nat) : nI (n + 1) + (-1) = nI n := by
  rw [← nI_1, Int32.add_assoc, show (1 : Int32) + (-1) = 0 from rfl, Int32.add_zero]
theorem pk_mul (a b : Nat) : nI a * nI b = nI (a * b) := (Int32.ofNat_mul a b).symm
theorem pk_le {x y : Int32} {A B : Prop} (a b : Nat) (f : a ≤ b → A) (g : b < a → B) (hx : x = nI a := by rfl) (hy : y = nI b := by rfl) (ha : a < 2 ^ 31 := by omega) (hb : b < 2 ^ 31 := by omega) : (x ≤ y → A) ∧ (¬ x ≤ y → B) := by
  subst hx hy
  rw [nI_leI ha hb]
  exact ⟨f, fun z => g (by omega)⟩
theorem pk_lt {x y : Int32} {A B : Prop} (a b : Nat) (f : a < b → A) (g : b ≤ a → B) (hx : x = nI a := by rfl) (hy : y = nI b := by rfl) (ha : a < 2 ^ 31 := by omega) (hb : b < 2 ^ 31 := by omega) : (x < y → A) ∧ (¬ x < y → B) := by
  subst hx hy
  rw [nI_ltI ha hb]
  exact ⟨f, fun z => g (by omega)⟩
theorem pk_eq {x y : Int32} {A B : Prop} (a b : Nat) (f : a = b → A) (g : a ≠ b → B) (hx : x = nI a := by rfl) (hy : y = nI b := by rfl) (ha : a < 2 ^ 31 := by omega) (hb : b < 2 ^ 31 := by omega) : (x = y → A) ∧ (¬ x = y → B) := by
  subst hx hy
  rw [nI_eq ha hb]
  exact ⟨f, g⟩
theorem pk_in {x : Int32} (n N : Nat) (h : n < N) (hx : x = nI n := by rfl) (hN : N < 2 ^ 31 := by omega) : vp_in x N := by
  subst hx
  exact vp_in_nI h hN
theorem pk_cl {x : Int32} (n : Nat) (hx : x = nI n := by rfl) (h : n < 2 ^ 31 := by omega) : x.toNatClampNeg = n := by
  subst hx
  exact nI_clamp h
theorem pk_tn {n : Nat} (h : n < 2 ^ 32) : (nI n).toBitVec.toNat = n := Nat.mod_eq_of_lt h
theorem pk_and (x : Int32) {m : Int32} (k : Nat) (hm : m.toBitVec.toNat = 2 ^ k - 1) : x &&& m = nI (x.toBitVec.toNat % 2 ^ k) := by
  apply Int32.toBitVec_inj.mp
  apply BitVec.eq_of_toNat_eq
  rw [Int32.toBitVec_and, BitVec.toNat_and, hm, Nat.and_two_pow_sub_one_eq_mod]
  show _ = (BitVec.ofNat 32 _).toNat
  rw [BitVec.toNat_ofNat]
  exact (Nat.mod_eq_of_lt (Nat.lt_of_le_of_lt (Nat.mod_le _ _) x.toBitVec.isLt)).symm
theorem pk_andN {n : Nat} (h : n < 2 ^ 32) {m : Int32} (k : Nat) (hm : m.toBitVec.toNat = 2 ^ k - 1) : nI n &&& m = nI (n % 2 ^ k) := by
  rw [pk_and _ k hm, pk_tn h]
theorem pk_shl (a s : Int32) (k : Nat) (hs : (s.toBitVec.smod 32).toNat = k) : (a <<< s).toBitVec.toNat = a.toBitVec.toNat * 2 ^ k % 2 ^ 32 := by
  show (a.toBitVec <<< (s.toBitVec.smod 32).toNat).toNat = _
  rw [hs, BitVec.toNat_shiftLeft, Nat.shiftLeft_eq]
theorem pk_shlN {n : Nat} (s : Int32) (k : Nat) (hs : (s.toBitVec.smod 32).toNat = k) (h : n * 2 ^ k < 2 ^ 32) : nI n <<< s = nI (n * 2 ^ k) := by
  apply Int32.toBitVec_inj.mp
  apply BitVec.eq_of_toNat_eq
  have hn : n < 2 ^ 32 := Nat.lt_of_le_of_lt (Nat.le_mul_of_pos_right n (Nat.two_pow_pos k)) h
  rw [pk_shl _ _ k hs, pk_tn hn, pk_tn h, Nat.mod_eq_of_lt h]
theorem pk_shr (a s : Int32) (k : Nat) (hs : (s.toBitVec.smod 32).toNat = k) : (a >>> s).toInt = a.toInt >>> k := by
  show (a.toBitVec.sshiftRight (s.toBitVec.smod 32).toNat).toInt = _
  rw [hs, BitVec.toInt_sshiftRight]
  rfl
theorem pk_shrN {n : Nat} (h : n < 2 ^ 31) (s : Int32) (k : Nat) (hs : (s.toBitVec.smod 32).toNat = k) : nI n >>> s = nI (n / 2 ^ k) := by
  apply Int32.toInt_inj.mp
  have h2 : n / 2 ^ k ≤ n := Nat.div_le_self _ _
  rw [pk_shr _ _ k hs, nI_toInt h, nI_toInt (by omega), Int.shiftRight_eq_div_pow]
  rfl
theorem rs_sl : ∀ n, n < 32 → ((nI n &&& 31).toBitVec.smod 32).toNat = n := by decide +kernel
/-- revisions' texts and the working text in one array -/
def rs_gl (T t : Nat → Int32) : Nat → Int32 := fun j => if j < 400 then T j else t (j - 400)
/-- how many of the first n are held -/
def rs_cnt (h : Nat → Int32) : Nat → Nat
  | 0 => 0
  | n + 1 => rs_cnt h n + (if h n = 0 then 0 else 1)
def rs_I (g L : Nat) (h p ln : Nat → Int32) : Prop :=
  g ≤ 40 ∧ L ≤ 10 ∧ rs_cnt h 40 ≤ 12 ∧ (∀ j, ∃ m, m ≤ 10 ∧ ln j = nI m) ∧
  (∀ r, h r ≠ 0 → r < g ∧ (p r = -2 ∨ ∃ q, q < r ∧ h q ≠ 0 ∧ p r = nI q))
def i_Rel (_ : Nat) (u : SX) (v : SY) : Prop :=
  ∃ (g L : Nat) (ll rl : Int32) (t h p ln T le ri tb : Nat → Int32),
    u = (nI (rs_cnt h 40), nI g, rs_gl T t, upd ln 40 (nI L), p, h, tb) ∧
    v = (nI L, nI g, ll, rl, t, h, p, ln, T, le, ri) ∧ rs_I g L h p ln
theorem i_up {k : Nat} {u : SX} {v : SY} (h : i_Rel k u v) : i_Rel (k + 3) u v := h
theorem rs_u0 : upd (fun _ => 0) 40 (nI 0) = (fun _ => 0) := by
  funext j
  show (if j = 40 then nI 0 else 0) = 0
  split
  · rfl
  · rfl
theorem rs_gl0 : rs_gl (fun _ => 0) (fun _ => 0) = (fun _ => 0) := by
  funext j
  show (if j < 400 then (0 : Int32) else 0) = 0
  split
  · rfl
  · rfl
theorem rs_cnt0 : ∀ n, rs_cnt (fun _ => 0) n = 0 := by
  intro n
  induction n with
  | zero => rfl
  | succ n ih => show rs_cnt (fun _ => 0) n + (if (0 : Int32) = 0 then 0 else 1) = 0; rw [ih, if_pos rfl]
theorem i_vc0 : wpX_init (fun u => wpY_init (fun v => i_Rel 0 u v)) := by
  refine ⟨0, 0, 0, 0, fun _ => 0, fun _ => 0, fun _ => 0, fun _ => 0, fun _ => 0, fun _ => 0, fun _ => 0, fun _ => 0, ?_, rfl, ?_⟩
  · rw [rs_u0, rs_gl0, rs_cnt0]; rfl
  · refine ⟨by omega, by omega, by rw [rs_cnt0]; omega, fun _ => ⟨0, by omega, rfl⟩, fun r hr => absurd rfl hr⟩
theorem rs_gl_hi {T t : Nat → Int32} (i : Nat) : rs_gl T t (400 + i) = t i := by
  show (if 400 + i < 400 then _ else t (400 + i - 400)) = t i
  rw [if_neg (by omega), Nat.add_sub_cancel_left]
theorem rs_gl_lo {T t : Nat → Int32} {j : Nat} (h : j < 400) : rs_gl T t j = T j := if_pos h
theorem rs_gu_hi {T t : Nat → Int32} (i : Nat) (v : Int32) : upd (rs_gl T t) (400 + i) v = rs_gl T (upd t i v) := by
  funext j
  simp only [upd, rs_gl]
  by_cases h1 : j < 400
  · have h2 : ¬ j = 400 + i := by omega
    rw [if_neg h2, if_pos h1, if_pos h1]
  · by_cases h2 : j = 400 + i
    · have h3 : j - 400 = i := by omega
      rw [if_pos h2, if_neg h1, if_pos h3]
    · have h3 : ¬ j - 400 = i := by omega
      rw [if_neg h2, if_neg h1, if_neg h1, if_neg h3]
theorem rs_gu_lo {T t : Nat → Int32} {i : Nat} (h : i < 400) (v : Int32) : upd (rs_gl T t) i v = rs_gl (upd T i v) t := by
  funext j
  simp only [upd, rs_gl]
  by_cases h1 : j = i
  · have h2 : j < 400 := by omega
    rw [if_pos h1, if_pos h2, if_pos h1]
  · rw [if_neg h1, if_neg h1]
theorem rs_uu {f : Nat → Int32} {k : Nat} {x y : Int32} : upd (upd f k x) k y = upd f k y := by
  funext j
  simp only [upd]
  split
  · rfl
  · rfl
theorem rs_uc {f : Nat → Int32} {k l : Nat} {x y : Int32} (h : l ≠ k) : upd (upd f k x) l y = upd (upd f l y) k x := by
  funext j
  simp only [upd]
  by_cases h1 : j = l
  · have h2 : ¬ j = k := by omega
    rw [if_pos h1, if_neg h2, if_pos h1]
  · rw [if_neg h1, if_neg h1]
theorem rs_b1 : vp_nar .boolean 1 = 1 := by rfl
theorem rs_b0 : vp_nar .boolean 0 = 0 := by rfl
theorem rs_400 (i : Nat) : (400 : Int32) + nI i = nI (400 + i) := nI_add 400 i
theorem rs_400p (i : Nat) : (400 : Int32) + nI i + 1 = nI (400 + (i + 1)) := by rw [rs_400, nI_1]; rfl
theorem rs_400m (i : Nat) : (400 : Int32) + nI (i + 1) - 1 = nI (400 + i) := by
  rw [show (400 : Int32) + nI (i + 1) = nI (400 + i + 1) from rs_400 (i + 1), nI_pred]
/-- is x the number of a held revision -/
def rs_H (h : Nat → Int32) (x : Int32) : Prop := ∃ r, r < 40 ∧ x = nI r ∧ h r ≠ 0
theorem rs_xh_t {post : Int32 → Prop} {a b : Int32} {c d p h tb : Nat → Int32} {r : Nat} (hr : r < 40) (hh : h r ≠ 0) (hp : post 1) : wpX_isHeld post (a, b, c, d, p, h, tb) (nI r) :=
  br_f (nI_pos (by omega)) (br_f (nI_ge (b := 40) hr (by decide)) ⟨vp_in_nI hr (by decide), br_f (by rw [nI_clamp (by omega)]; exact hh) hp⟩)
theorem rs_xh_f {post : Int32 → Prop} {a b : Int32} {c d p h tb : Nat → Int32} {x : Int32} (hx : ¬ rs_H h x) (hp : post 0) : wpX_isHeld post (a, b, c, d, p, h, tb) x := by
  refine br_c (fun _ => hp) (fun h0 => br_c (fun _ => hp) (fun h1 => ?_))
  obtain ⟨j, hj, rfl⟩ := nI_of h0
  have h2 : j < 40 := by
    apply Classical.byContradiction
    intro hc
    exact h1 (nI_le (a := 40) (by omega) hj)
  refine ⟨vp_in_nI h2 (by decide), br_c (fun _ => hp) (fun h3 => ?_)⟩
  rw [nI_clamp hj] at h3
  exact absurd ⟨j, h2, rfl, h3⟩ hx
theorem rs_ym_t {post : Int32 → Prop} {a b c d : Int32} {t h p ln T le ri : Nat → Int32} {r : Nat} (hr : r < 40) (hh : h r ≠ 0) (hp : post 0) : wpY_missing post (a, b, c, d, t, h, p, ln, T, le, ri) (nI r) :=
  br_f (nI_pos (by omega)) (br_f (nI_nlt (b := r) (a := 39) (by omega) (by decide)) ⟨vp_in_nI hr (by decide), br_f (by rw [nI_clamp (by omega)]; exact hh) hp⟩)
theorem rs_ym_f {post : Int32 → Prop} {a b c d : Int32} {t h p ln T le ri : Nat → Int32} {x : Int32} (hx : ¬ rs_H h x) (hp : post 1) : wpY_missing post (a, b, c, d, t, h, p, ln, T, le, ri) x := by
  refine br_c (fun _ => hp) (fun h0 => br_c (fun _ => hp) (fun h1 => ?_))
  obtain ⟨j, hj, rfl⟩ := nI_of h0
  have h2 : j < 40 := by
    apply Classical.byContradiction
    intro hc
    exact h1 (nI_lt (a := 39) (by omega) hj)
  refine ⟨vp_in_nI h2 (by decide), br_c (fun _ => hp) (fun h3 => ?_)⟩
  rw [nI_clamp hj] at h3
  exact absurd ⟨j, h2, rfl, h3⟩ hx
end
section
theorem rs_put_loop (pl L : Nat) (x2 hc gn nx ll rl : Int32) (T lens p h tb ln le ri : Nat → Int32) : ∀ (d : Nat) (t : Nat → Int32), pl + d < 10 → ∃ t' : Nat → Int32,
    (∀ post : Int32 → SX → Prop, post (nI L + 1) (hc, gn, rs_gl T t', upd lens 40 (nI L + 1), p, h, tb) → wX_put_39 post (nI pl) x2 (nI L) hc gn (d + 1) (nI (pl + d)) (rs_gl T t) lens p h tb) ∧
    (∀ post : Int32 → SY → Prop, post (nI L + 1) (nI L + 1, nx, ll, rl, t', h, p, ln, T, le, ri) → wY_put_39 post (nI pl) x2 (nI L) nx ll rl (d + 1) (nI (pl + d)) t h p ln T le ri) := by
  intro d
  induction d with
  | zero =>
    intro t hd
    have hle : nI (pl + 0) ≤ nI pl := nI_le (by omega) (by omega)
    refine ⟨upd t pl x2, fun post hp => br_t hle ⟨pk_in (400 + pl) 410 (by omega) (rs_400 pl), nm_r ?_ (nm_e hp)⟩, fun post hp => br_t hle ⟨vp_in_nI (by omega) (by omega), nm_r ?_ (nm_e hp)⟩⟩
    · rw [pk_cl (400 + pl) (rs_400 pl), rs_gu_hi]
    · rw [nI_clamp (by omega)]
  | succ d ih =>
    intro t hd
    have hle : ¬ nI (pl + (d + 1)) ≤ nI pl := nI_ge (by omega) (by omega)
    obtain ⟨t', hX, hY⟩ := ih (upd t (pl + d + 1) (t (pl + d))) (by omega)
    refine ⟨t', fun post hp => br_f hle ⟨pk_in (400 + (pl + d)) 410 (by omega) (rs_400m (pl + d)), pk_in (400 + (pl + d + 1)) 410 (by omega) (rs_400 (pl + d + 1)), nm_r ?_ (nm_r (pk_m1 (pl + d)) (hX post hp))⟩, fun post hp => br_f hle ⟨pk_in (pl + d) 10 (by omega) (nI_pred (pl + d)), vp_in_nI (by omega) (by omega), nm_r ?_ (nm_r (pk_m1 (pl + d)) (hY post hp))⟩⟩
    · rw [← Nat.add_assoc pl d 1, pk_cl (400 + (pl + d + 1)) (rs_400 (pl + d + 1)), pk_cl (400 + (pl + d)) (rs_400m (pl + d)), rs_gl_hi, rs_gu_hi]
    · rw [← Nat.add_assoc pl d 1, pk_cl (pl + d) (nI_pred (pl + d)), nI_clamp (by omega)]
theorem i_vc_put {k : Nat} {u : SX} {v : SY} (I : i_Rel k u v) (hk : k + 3 ≤ 1536) (v1 : Int32) (v2 : Int32) : wpX_put (fun r u' => wpY_put (fun r' v' => r' = r ∧ i_Rel (k + 3) u' v') v v1 v2) u v1 v2 := by
  have I0 := I
  obtain ⟨g, L, ll, rl, t, h, p, ln, T, le, ri, tb, rfl, rfl, hg, hL, hc, hln, hp⟩ := I
  refine nm_r (pk_us (f := ln) (k := 40) (x := nI L)) ?_
  refine br_c (fun a => br_t a ⟨rfl, I0⟩) (fun a => br_c (fun b => br_f a (br_t b ⟨rfl, I0⟩)) (fun b => br_c (fun c => br_f a (br_f b (br_t c ⟨rfl, I0⟩))) (fun c => br_c (fun d => br_f a (br_f b (br_f c (br_t d ⟨rfl, I0⟩)))) (fun d => ?_))))
  obtain ⟨pl, hpl, rfl⟩ := nI_of c
  have hpL : pl ≤ L := by
    rw [nI_ltI (by omega) hpl] at d
    omega
  refine pk_lt (y := 10) L 10 (fun e => ?_) (fun e => ?_)
  · obtain ⟨t', hX, hY⟩ := rs_put_loop pl L v2 (nI (rs_cnt h 40)) (nI g) (nI g) ll rl T (upd ln 40 (nI L)) p h tb ln le ri (L - pl) t (by omega)
    rw [show pl + (L - pl) = L by omega] at hX hY
    refine ⟨_, hX _ (br_f a (br_f b (br_f c (br_f d (br_f ?_ ⟨_, hY _ ⟨rfl, ?_⟩⟩)))))⟩
    · exact fun z => absurd ((nI_eq (by omega) (by omega) (b := 10)).mp z) (by omega)
    · exact ⟨g, L + 1, ll, rl, t', h, p, ln, T, le, ri, tb, by rw [rs_uu, nI_1], by rw [nI_1], hg, by omega, hc, hln, hp⟩
  · refine br_f a (br_f b (br_f c (br_f d (br_t ?_ ⟨rfl, I0⟩))))
    rw [show L = 10 by omega]; rfl
theorem rs_take_loop (L : Nat) (x hc gn nx ll rl : Int32) (T lens p h tb ln le ri : Nat → Int32) : ∀ (d i : Nat) (t : Nat → Int32), i + d = L → L < 10 → ∃ t' : Nat → Int32,
    (∀ post : Int32 → SX → Prop, post x (hc, gn, rs_gl T t', upd lens 40 (nI (L + 1) - 1), p, h, tb) → wX_take_33 post (nI (L + 1)) x hc gn (d + 1) (nI i) (rs_gl T t) lens p h tb) ∧
    (∀ post : Int32 → SY → Prop, post x (nI L, nx, ll, rl, t', h, p, ln, T, le, ri) → wY_take_33 post x (nI L) nx ll rl (d + 1) (nI i) t h p ln T le ri) := by
  intro d
  induction d with
  | zero =>
    intro i t hd hL
    have hle : nI L ≤ nI i := nI_le (by omega) (by omega)
    have hle' : nI (L + 1) - 1 ≤ nI i := by rw [nI_pred]; exact hle
    exact ⟨t, fun post hp => br_t hle' (nm_e hp), fun post hp => br_t hle hp⟩
  | succ d ih =>
    intro i t hd hL
    have hle : ¬ nI L ≤ nI i := nI_ge (by omega) (by omega)
    have hle' : ¬ nI (L + 1) - 1 ≤ nI i := by rw [nI_pred]; exact hle
    obtain ⟨t', hX, hY⟩ := ih (i + 1) (upd t i (t (i + 1))) (by omega) hL
    refine ⟨t', fun post hp => br_f hle' ⟨pk_in (400 + (i + 1)) 410 (by omega) (rs_400p i), pk_in (400 + i) 410 (by omega) (rs_400 i), nm_r ?_ (nm_r (nI_1 i) (hX post hp))⟩, fun post hp => br_f hle ⟨pk_in (i + 1) 10 (by omega) (nI_1 i), vp_in_nI (by omega) (by omega), nm_r ?_ (nm_r (nI_1 i) (hY post hp))⟩⟩
    · rw [pk_cl (400 + i) (rs_400 i), pk_cl (400 + (i + 1)) (rs_400p i), rs_gl_hi, rs_gu_hi]
    · rw [pk_cl (i + 1) (nI_1 i), nI_clamp (by omega)]
theorem i_vc_take {k : Nat} {u : SX} {v : SY} (I : i_Rel k u v) (hk : k + 3 ≤ 1536) (v1 : Int32) : wpX_take (fun r u' => wpY_take (fun r' v' => r' = r ∧ i_Rel (k + 3) u' v') v v1) u v1 := by
  have I0 := I
  obtain ⟨g, L, ll, rl, t, h, p, ln, T, le, ri, tb, rfl, rfl, hg, hL, hc, hln, hp⟩ := I
  refine nm_r (pk_us (f := ln) (k := 40) (x := nI L)) ?_
  refine br_c (fun a => br_t a ⟨rfl, I0⟩) (fun a => br_c (fun b => ?_) (fun b => br_f a (br_f b ⟨rfl, I0⟩)))
  obtain ⟨pl, hpl, rfl⟩ := nI_of a
  have hpL : pl < L := (nI_ltI hpl (by omega)).mp b
  obtain ⟨M, rfl⟩ : ∃ M, L = M + 1 := ⟨L - 1, by omega⟩
  obtain ⟨t', hX, hY⟩ := rs_take_loop M (t pl) (nI (rs_cnt h 40)) (nI g) (nI g) ll rl T (upd ln 40 (nI (M + 1))) p h tb ln le ri (M - pl) pl t (by omega) (by omega)
  refine ⟨pk_in (400 + pl) 410 (by omega) (rs_400 pl), nm_r (e' := t pl) ?_ ⟨_, hX _ (br_f a (br_t b ⟨vp_in_nI (by omega) (by omega), nm_r (e' := t pl) ?_ (nm_r (nI_pred M) ⟨_, hY _ ⟨rfl, ?_⟩⟩)⟩))⟩⟩
  · rw [pk_cl (400 + pl) (rs_400 pl), rs_gl_hi]
  · rw [nI_clamp hpl]
  · exact ⟨g, M, ll, rl, t', h, p, ln, T, le, ri, tb, by rw [rs_uu, nI_pred], rfl, hg, by omega, hc, hln, hp⟩
theorem i_vc_lines {k : Nat} {u : SX} {v : SY} (I : i_Rel k u v) (hk : k + 3 ≤ 1536) : wpX_lines (fun r => wpY_lines (fun r' => r' = r ∧ i_Rel (k + 3) u v) v) u := by
  have I0 := I
  obtain ⟨g, L, ll, rl, t, h, p, ln, T, le, ri, tb, rfl, rfl, hg, hL, hc, hln, hp⟩ := I
  exact ⟨(pk_us (f := ln) (k := 40) (x := nI L)).symm, I0⟩
theorem i_vc_line {k : Nat} {u : SX} {v : SY} (I : i_Rel k u v) (hk : k + 3 ≤ 1536) (v1 : Int32) : wpX_line (fun r => wpY_line (fun r' => r' = r ∧ i_Rel (k + 3) u v) v v1) u v1 := by
  have I0 := I
  obtain ⟨g, L, ll, rl, t, h, p, ln, T, le, ri, tb, rfl, rfl, hg, hL, hc, hln, hp⟩ := I
  have e40 : upd ln 40 (nI L) 40 = nI L := pk_us
  refine br_c (fun a => br_t a ⟨rfl, I0⟩) (fun a => br_c (fun b => ?_) (fun b => br_f a (br_f (by rw [e40] at b; exact b) ⟨rfl, I0⟩)))
  rw [e40] at b
  obtain ⟨pl, hpl, rfl⟩ := nI_of a
  have hpL : pl < L := (nI_ltI hpl (by omega)).mp b
  refine ⟨pk_in (400 + pl) 410 (by omega) (rs_400 pl), br_f a (br_t b ⟨vp_in_nI (by omega) (by omega), ?_, I0⟩)⟩
  rw [pk_cl (400 + pl) (rs_400 pl), rs_gl_hi, nI_clamp hpl]
end
section
theorem rs_m10 (a i : Nat) : nI a * 10 + nI i = nI (a * 10 + i) := by
  show nI a * nI 10 + nI i = _
  rw [pk_mul, nI_add]
theorem rs_10m (a i : Nat) : 10 * nI a + nI i = nI (10 * a + i) := by
  show nI 10 * nI a + nI i = _
  rw [pk_mul, nI_add]
theorem rs_40m (i : Nat) : (40 : Int32) * 10 + nI i = nI (400 + i) := rs_m10 40 i
theorem rs_cnt_out {h : Nat → Int32} {r : Nat} {x : Int32} : ∀ n, n ≤ r → rs_cnt (upd h r x) n = rs_cnt h n := by
  intro n
  induction n with
  | zero => intro _; rfl
  | succ n ih =>
    intro hn
    show rs_cnt (upd h r x) n + (if upd h r x n = 0 then 0 else 1) = rs_cnt h n + (if h n = 0 then 0 else 1)
    rw [ih (by omega), pk_un (by omega)]
theorem rs_cnt_in {h : Nat → Int32} {r : Nat} {x : Int32} (hr : h r = 0) (hx : x ≠ 0) : ∀ n, r < n → rs_cnt (upd h r x) n = rs_cnt h n + 1 := by
  intro n
  induction n with
  | zero => intro h; omega
  | succ n ih =>
    intro hn
    show rs_cnt (upd h r x) n + (if upd h r x n = 0 then 0 else 1) = rs_cnt h n + (if h n = 0 then 0 else 1) + 1
    by_cases e : n = r
    · subst e
      rw [rs_cnt_out n (by omega), pk_us, if_neg hx, if_pos hr]
    · rw [ih (by omega), pk_un e]; omega
theorem rs_cnt_de {h : Nat → Int32} {r : Nat} (hr : h r ≠ 0) : ∀ n, r < n → rs_cnt h n = rs_cnt (upd h r 0) n + 1 := by
  intro n
  induction n with
  | zero => intro h; omega
  | succ n ih =>
    intro hn
    show rs_cnt h n + (if h n = 0 then 0 else 1) = rs_cnt (upd h r 0) n + (if upd h r 0 n = 0 then 0 else 1) + 1
    by_cases e : n = r
    · subst e
      rw [rs_cnt_out n (by omega), pk_us, if_neg hr, if_pos rfl]
    · rw [ih (by omega), pk_un e]; omega
theorem rs_yc_loop {post : Int32 → Prop} {a b c d : Int32} {t h p ln T le ri : Nat → Int32} (hp : post (nI (rs_cnt h 40))) : ∀ d' i, i + d' = 40 → wY_count_4 post a b c d t h p ln T le ri (d' + 1) (nI (rs_cnt h i)) (nI i) := by
  intro d'
  induction d' with
  | zero =>
    intro i hi
    have e : i = 40 := by omega
    subst e
    exact br_t (nI_le (a := 40) (b := 40) (by omega) (by decide)) hp
  | succ d' ih =>
    intro i hi
    have hs : rs_cnt h (i + 1) = rs_cnt h i + (if h i = 0 then 0 else 1) := rfl
    have ih' := ih (i + 1) (by omega)
    refine br_f (nI_ge (b := 40) (by omega) (by decide)) ⟨vp_in_nI (by omega) (by decide), br_c (fun z => ?_) (fun z => ?_)⟩
    · rw [nI_clamp (by omega)] at z
      rw [hs, if_pos z, Nat.add_zero] at ih'
      exact nm_r (nI_1 i) ih'
    · rw [nI_clamp (by omega)] at z
      rw [hs, if_neg z] at ih'
      exact nm_r (nI_1 _) (nm_r (nI_1 i) ih')
theorem rs_yc {post : Int32 → Prop} {a b c d : Int32} {t h p ln T le ri : Nat → Int32} (hp : post (nI (rs_cnt h 40))) : wpY_count post (a, b, c, d, t, h, p, ln, T, le, ri) := ⟨41, rs_yc_loop hp 40 0 rfl⟩
theorem rs_commit_loop (g L : Nat) (hg : g < 40) (hL : L ≤ 10) (hc gn ll rl : Int32) (t lens p h tb h' p' ln' le ri : Nat → Int32) : ∀ (d i : Nat) (T : Nat → Int32), i + d = L → ∃ T' : Nat → Int32,
    (∀ post : SX → Prop, post (hc, gn, rs_gl T' t, upd lens g (nI L), p, h, tb) → wX_copyText_10 post 40 (nI g) (nI L) hc gn (d + 1) (nI i) (rs_gl T t) lens p h tb) ∧
    (∀ post : Int32 → SY → Prop, post (nI g + 1 - 1) (nI L, nI g + 1, ll, rl, t, h', p', ln', T', le, ri) → wY_commit_78 post (nI L) (nI g) ll rl (d + 1) (nI i) t h' p' ln' T le ri) := by
  intro d
  induction d with
  | zero =>
    intro i T hi
    have hle : nI L ≤ nI i := nI_le (by omega) (by omega)
    refine ⟨T, fun post hp => br_t hle ⟨vp_in_nI (by omega) (by omega), nm_r ?_ hp⟩, fun post hp => br_t hle (nm_e hp)⟩
    rw [nI_clamp (by omega)]
  | succ d ih =>
    intro i T hi
    have hle : ¬ nI L ≤ nI i := nI_ge (by omega) (by omega)
    obtain ⟨T', hX, hY⟩ := ih (i + 1) (upd T (10 * g + i) (t i)) (by omega)
    refine ⟨T', fun post hp => br_f hle ⟨pk_in (400 + i) 410 (by omega) (rs_40m i), pk_in (g * 10 + i) 410 (by omega) (rs_m10 g i), nm_r ?_ (nm_r (nI_1 i) (hX post hp))⟩, fun post hp => br_f hle ⟨vp_in_nI (by omega) (by omega), pk_in (10 * g + i) 400 (by omega) (rs_10m g i), nm_r ?_ (nm_r (nI_1 i) (hY post hp))⟩⟩
    · rw [pk_cl (g * 10 + i) (rs_m10 g i), pk_cl (400 + i) (rs_40m i), rs_gl_hi, rs_gu_lo (by omega), Nat.mul_comm g 10]
    · rw [pk_cl (10 * g + i) (rs_10m g i), nI_clamp (by omega)]
theorem rs_ne2 {r : Nat} (h : r < 40) : ¬ nI r = -2 := by
  intro z
  have h1 : ¬ nI r < 0 := nI_pos (by omega)
  rw [z] at h1
  exact h1 (by decide)
theorem rs_commit_x (post : Int32 → SX → Prop) {g : Nat} (hg : g < 40) {z : Int32} {hc : Int32} {c l p h tb : Nat → Int32} (hp : post (nI g) (hc + 1, nI g + 1, c, l, upd p g z, upd h g 1, tb)) : wX_commit_63 post (nI g) z (nI g) hc (nI g) c l p h tb := by
  refine ⟨vp_in_nI hg (by decide), nm_r ?_ ⟨vp_in_nI hg (by decide), nm_r ?_ (nm_e (nm_e hp))⟩⟩
  · rw [nI_clamp (by omega)]
  · rw [nI_clamp (by omega), rs_b1]
theorem rs_commit_y (post : Int32 → SY → Prop) {g : Nat} (hg : g < 40) {z L ll rl : Int32} {t h p ln T le ri : Nat → Int32} (hp : ∃ n, wY_commit_78 post L (nI g) ll rl n 0 t h (upd p g z) (upd ln g L) T le ri) : wY_commit_62 post z (nI g) L (nI g) ll rl t h p ln T le ri := by
  refine ⟨vp_in_nI hg (by decide), nm_r ?_ ⟨vp_in_nI hg (by decide), nm_r ?_ hp⟩⟩
  · rw [nI_clamp (by omega)]
  · rw [nI_clamp (by omega)]
/-- what commit does behind the look at the parent -/
theorem rs_commit (k : Nat) {g L : Nat} {ll rl : Int32} {t h p ln T le ri tb : Nat → Int32} (I : rs_I g L h p ln) (v1 z : Int32) (hz1 : v1 = -1 → z = -2) (hz2 : ¬ v1 = -1 → z = v1) (hq : z = -2 ∨ ∃ q, q < g ∧ h q ≠ 0 ∧ z = nI q) (YW : (Int32 → SY → Prop) → Prop) (hy : ∀ post, wY_commit_13 post v1 (nI L) (nI g) ll rl t h p ln T le ri → YW post) :
    wX_commit_15 (fun r u' => YW (fun r' v' => r' = r ∧ i_Rel (k + 3) u' v')) v1 (nI (rs_cnt h 40)) (nI g) (rs_gl T t) (upd ln 40 (nI L)) p h tb := by
  have I0 : i_Rel (k + 3) (nI (rs_cnt h 40), nI g, rs_gl T t, upd ln 40 (nI L), p, h, tb) (nI L, nI g, ll, rl, t, h, p, ln, T, le, ri) := ⟨g, L, ll, rl, t, h, p, ln, T, le, ri, tb, rfl, rfl, I⟩
  obtain ⟨hg, hL, hc, hln, hp⟩ := I
  refine pk_le (x := 12) 12 (rs_cnt h 40) (fun a => ?_) (fun a => ?_)
  · refine hy _ (rs_yc (br_t ?_ ⟨rfl, I0⟩))
    rw [show rs_cnt h 40 = 12 by omega]; rfl
  have a' : ¬ nI (rs_cnt h 40) = 12 := fun z => absurd ((nI_eq (by omega) (by omega) (b := 12)).mp z) (by omega)
  refine pk_lt (y := 40) g 40 (fun b => ?_) (fun b => ?_)
  rotate_left
  · refine hy _ (rs_yc (br_f a' (br_t ?_ ⟨rfl, I0⟩)))
    rw [show g = 40 by omega]; rfl
  have b' : ¬ nI g = 40 := fun z => absurd ((nI_eq (by omega) (by omega) (b := 40)).mp z) (by omega)
  obtain ⟨T', hX, hY⟩ := rs_commit_loop g L b hL (nI (rs_cnt h 40)) (nI g) ll rl t (upd ln 40 (nI L)) p h tb (upd h g 1) (upd p g z) (upd ln g (nI L)) le ri L 0 T (by omega)
  have h0 : h g = 0 := by
    apply Classical.byContradiction
    intro e
    have := (hp g e).1
    omega
  have J : i_Rel (k + 3) (nI (rs_cnt h 40) + 1, nI g + 1, rs_gl T' t, upd (upd ln 40 (nI L)) g (nI L), upd p g z, upd h g 1, tb) (nI L, nI g + 1, ll, rl, t, upd h g 1, upd p g z, upd ln g (nI L), T', le, ri) := by
    refine ⟨g + 1, L, ll, rl, t, upd h g 1, upd p g z, upd ln g (nI L), T', le, ri, tb, ?_, ?_, by omega, hL, ?_, ?_, ?_⟩
    · rw [rs_cnt_in h0 (by decide) 40 b, nI_1, nI_1, rs_uc (by omega)]
    · rw [nI_1]
    · rw [rs_cnt_in h0 (by decide) 40 b]; omega
    · intro j
      by_cases e : j = g
      · subst e; exact ⟨L, hL, pk_us⟩
      · rw [pk_un e]; exact hln j
    · intro r hr
      by_cases e : r = g
      · subst e
        refine ⟨by omega, ?_⟩
        rw [pk_us]
        rcases hq with hq | ⟨q, hq1, hq2, hq3⟩
        · exact Or.inl hq
        · exact Or.inr ⟨q, hq1, by rw [pk_un (by omega)]; exact hq2, hq3⟩
      · rw [pk_un e] at hr
        obtain ⟨h1, h2⟩ := hp r hr
        refine ⟨by omega, ?_⟩
        rw [pk_un e]
        rcases h2 with h2 | ⟨q, hq1, hq2, hq3⟩
        · exact Or.inl h2
        · exact Or.inr ⟨q, hq1, by rw [pk_un (by omega)]; exact hq2, hq3⟩
  have Y : wY_commit_13 (fun r' v' => r' = nI g ∧ i_Rel (k + 3) (nI (rs_cnt h 40) + 1, nI g + 1, rs_gl T' t, upd (upd ln 40 (nI L)) g (nI L), upd p g z, upd h g 1, tb) v') v1 (nI L) (nI g) ll rl t h p ln T le ri := by
    refine rs_yc (br_f a' (br_f b' ⟨vp_in_nI b (by decide), nm_r (e' := upd h g 1) ?_ ?_⟩))
    · rw [nI_clamp (by omega), rs_b1]
    have W := rs_commit_y (fun r' v' => r' = nI g ∧ i_Rel (k + 3) (nI (rs_cnt h 40) + 1, nI g + 1, rs_gl T' t, upd (upd ln 40 (nI L)) g (nI L), upd p g z, upd h g 1, tb) v') b (z := z) (p := p) (ln := ln) ⟨_, hY _ ⟨by rw [nI_1, nI_pred], J⟩⟩
    exact br_c (fun e => by have e2 := hz1 e; subst e2; exact W) (fun e => by have e2 := hz2 e; subst e2; exact W)
  refine ⟨vp_in_iff.mpr (by decide), nm_r (e' := nI L) pk_us ⟨_, hX _ ?_⟩⟩
  refine br_c (fun e => rs_commit_x _ b ?_) (fun e => rs_commit_x _ b ?_)
  · rw [hz1 e] at Y; exact hy _ Y
  · rw [hz2 e] at Y; exact hy _ Y
theorem i_vc_commit {k : Nat} {u : SX} {v : SY} (I : i_Rel k u v) (hk : k + 3 ≤ 1536) (v1 : Int32) : wpX_commit (fun r u' => wpY_commit (fun r' v' => r' = r ∧ i_Rel (k + 3) u' v') v v1) u v1 := by
  have I0 := I
  obtain ⟨g, L, ll, rl, t, h, p, ln, T, le, ri, tb, rfl, rfl, J⟩ := I
  by_cases a : v1 = -1
  · exact br_t a (rs_commit k (ll := ll) (rl := rl) (le := le) (ri := ri) J v1 (-2) (fun _ => rfl) (fun e => absurd a e) (Or.inl rfl) (fun post => wpY_commit post (nI L, nI g, ll, rl, t, h, p, ln, T, le, ri) v1) (fun post hp => br_t a hp))
  · by_cases b : rs_H h v1
    · obtain ⟨q, hq, rfl, hh⟩ := b
      exact br_f a (rs_xh_t hq hh (br_f (by decide) (rs_commit k (ll := ll) (rl := rl) (le := le) (ri := ri) J (nI q) (nI q) (fun e => absurd e a) (fun _ => rfl) (Or.inr ⟨q, (J.2.2.2.2 q hh).1, hh, rfl⟩) (fun post => wpY_commit post (nI L, nI g, ll, rl, t, h, p, ln, T, le, ri) (nI q)) (fun post hp => br_f a (rs_ym_t hq hh (br_t rfl hp))))))
    · exact br_f a (rs_xh_f b (br_t rfl (br_f a (rs_ym_f b (br_f (by decide) ⟨rfl, I0⟩)))))
theorem rs_checkout_loop (r m : Nat) (hr : r < 40) (hm : m ≤ 10) (hc gn nx ll rl : Int32) (T lens p h tb h' p' ln' le ri : Nat → Int32) : ∀ (d i : Nat) (t : Nat → Int32), i + d = m → ∃ t' : Nat → Int32,
    (∀ post : SX → Prop, post (hc, gn, rs_gl T t', upd lens 40 (nI m), p, h, tb) → wX_copyText_10 post (nI r) 40 (nI m) hc gn (d + 1) (nI i) (rs_gl T t) lens p h tb) ∧
    (∀ post : Int32 → SY → Prop, post (nI m) (nI m, nx, ll, rl, t', h', p', ln', T, le, ri) → wY_checkout_22 post (nI r) (nI m) nx ll rl (d + 1) (nI i) t h' p' ln' T le ri) := by
  intro d
  induction d with
  | zero =>
    intro i t hi
    have hle : nI m ≤ nI i := nI_le (by omega) (by omega)
    exact ⟨t, fun post hp => br_t hle ⟨vp_in_iff.mpr (by decide), nm_e hp⟩, fun post hp => br_t hle hp⟩
  | succ d ih =>
    intro i t hi
    have hle : ¬ nI m ≤ nI i := nI_ge (by omega) (by omega)
    obtain ⟨t', hX, hY⟩ := ih (i + 1) (upd t i (T (10 * r + i))) (by omega)
    refine ⟨t', fun post hp => br_f hle ⟨pk_in (r * 10 + i) 410 (by omega) (rs_m10 r i), pk_in (400 + i) 410 (by omega) (rs_40m i), nm_r ?_ (nm_r (nI_1 i) (hX post hp))⟩, fun post hp => br_f hle ⟨pk_in (10 * r + i) 400 (by omega) (rs_10m r i), vp_in_nI (by omega) (by omega), nm_r ?_ (nm_r (nI_1 i) (hY post hp))⟩⟩
    · rw [pk_cl (r * 10 + i) (rs_m10 r i), pk_cl (400 + i) (rs_40m i), rs_gl_lo (by omega), rs_gu_hi, Nat.mul_comm r 10]
    · rw [pk_cl (10 * r + i) (rs_10m r i), nI_clamp (by omega)]
theorem i_vc_checkout {k : Nat} {u : SX} {v : SY} (I : i_Rel k u v) (hk : k + 3 ≤ 1536) (v1 : Int32) : wpX_checkout (fun r u' => wpY_checkout (fun r' v' => r' = r ∧ i_Rel (k + 3) u' v') v v1) u v1 := by
  have I0 := I
  obtain ⟨g, L, ll, rl, t, h, p, ln, T, le, ri, tb, rfl, rfl, hg, hL, hc, hln, hp⟩ := I
  unfold wpX_checkout wpY_checkout
  dsimp only
  by_cases b : rs_H h v1
  · obtain ⟨r, hr, rfl, hh⟩ := b
    obtain ⟨m, hm, em⟩ := hln r
    obtain ⟨t', hX, hY⟩ := rs_checkout_loop r m hr hm (nI (rs_cnt h 40)) (nI g) (nI g) ll rl T (upd ln 40 (nI L)) p h tb h p ln le ri m 0 t (by omega)
    refine rs_xh_t hr hh (br_f (by decide) ?_)
    refine ⟨vp_in_nI (by omega) (by omega), nm_r (e' := nI m) ?_ ⟨_, hX _ ?_⟩⟩
    · rw [nI_clamp (by omega), pk_un (by omega), em]
    · refine rs_ym_t hr hh (br_t rfl ⟨vp_in_nI (by omega) (by omega), nm_r (e' := nI m) ?_ ⟨_, hY _ ⟨(pk_us (f := upd ln 40 (nI L)) (k := 40) (x := nI m)).symm, ?_⟩⟩⟩)
      · rw [nI_clamp (by omega), em]
      · exact ⟨g, m, ll, rl, t', h, p, ln, T, le, ri, tb, by rw [rs_uu], rfl, hg, hm, hc, hln, hp⟩
  · exact rs_xh_f b (br_t rfl (rs_ym_f b (br_f (by decide) ⟨rfl, I0⟩)))
theorem i_vc_parent {k : Nat} {u : SX} {v : SY} (I : i_Rel k u v) (hk : k + 3 ≤ 1536) (v1 : Int32) : wpX_parent (fun r => wpY_parent (fun r' => r' = r ∧ i_Rel (k + 3) u v) v v1) u v1 := by
  have I0 := I
  obtain ⟨g, L, ll, rl, t, h, p, ln, T, le, ri, tb, rfl, rfl, hg, hL, hc, hln, hp⟩ := I
  unfold wpX_parent wpY_parent
  dsimp only
  by_cases b : rs_H h v1
  · obtain ⟨r, hr, rfl, hh⟩ := b
    exact rs_xh_t hr hh (br_f (by decide) ⟨vp_in_nI hr (by decide), rs_ym_t hr hh (br_t rfl ⟨vp_in_nI hr (by decide), rfl, I0⟩)⟩)
  · exact rs_xh_f b (br_t rfl (rs_ym_f b (br_f (by decide) ⟨rfl, I0⟩)))
/-- a revision's parent once r is gone; the array once the loop has done those below i -/
def rs_F (h p : Nat → Int32) (r c : Nat) : Int32 := if h c ≠ 0 ∧ p c = nI r then p r else p c
def rs_P (h p : Nat → Int32) (r i : Nat) : Nat → Int32 := fun c => if c < i then rs_F h p r c else p c
theorem rs_P0 {h p : Nat → Int32} {r : Nat} : rs_P h p r 0 = p := by
  funext c
  exact if_neg (by omega)
theorem rs_Pi {h p : Nat → Int32} {r i : Nat} : rs_P h p r i i = p i := if_neg (by omega)
theorem rs_Pu {h p : Nat → Int32} {r i : Nat} : upd (rs_P h p r i) i (rs_F h p r i) = rs_P h p r (i + 1) := by
  funext c
  simp only [upd, rs_P]
  by_cases e : c = i
  · subst e
    rw [if_pos rfl, if_pos (by omega)]
  · rw [if_neg e]
    by_cases e2 : c < i
    · rw [if_pos e2, if_pos (by omega)]
    · rw [if_neg e2, if_neg (by omega)]
theorem rs_Ps {h p : Nat → Int32} {r i : Nat} (hF : rs_F h p r i = p i) : rs_P h p r i = rs_P h p r (i + 1) := by
  rw [← rs_Pu, hF]
  funext c
  simp only [upd, rs_P]
  by_cases e : c = i
  · subst e
    rw [if_pos rfl, if_neg (by omega)]
  · rw [if_neg e]
theorem rs_Fr {h p : Nat → Int32} {r : Nat} (hr : p r ≠ nI r) : rs_F h p r r = p r := if_neg (fun z => hr z.2)
theorem rs_Pr {h p : Nat → Int32} {r i : Nat} (hr : p r ≠ nI r) : rs_P h p r i r = p r := by
  show (if r < i then rs_F h p r r else p r) = p r
  rw [rs_Fr hr]
  split
  · rfl
  · rfl
theorem rs_remove_x {r : Nat} (hr : r < 40) {h p c l tb : Nat → Int32} {hc gn : Int32} (hpr : p r ≠ nI r) {post : Int32 → SX → Prop} (hp : post (hc - 1) (hc - 1, gn, c, l, rs_P h p r 40, upd h r 0, tb)) : ∀ d i, i + d = 40 → wX_remove_12 post (nI r) hc gn (d + 1) (nI i) c l (rs_P h p r i) h tb := by
  intro d
  induction d with
  | zero =>
    intro i hi
    have e : i = 40 := by omega
    subst e
    refine br_t (nI_le (a := 40) (b := 40) (by omega) (by decide)) ⟨vp_in_nI hr (by decide), nm_r ?_ (nm_e hp)⟩
    rw [nI_clamp (by omega), rs_b0]
  | succ d ih =>
    intro i hi
    have W := ih (i + 1) (by omega)
    have hv : vp_in (nI i) 40 := vp_in_nI (by omega) (by decide)
    refine br_f (nI_ge (b := 40) (by omega) (by decide)) ⟨hv, ?_⟩
    rw [nI_clamp (n := i) (by omega), nI_clamp (n := r) (by omega), rs_Pi, rs_Pr hpr]
    refine br_c (fun a => ?_) (fun a => ⟨hv, br_c (fun b => ?_) (fun b => ?_)⟩)
    · rw [rs_Ps (if_neg (fun z => z.1 a))]
      exact nm_r (nI_1 i) W
    · refine ⟨vp_in_nI hr (by decide), hv, nm_r (e' := rs_P h p r (i + 1)) ?_ (nm_r (nI_1 i) W)⟩
      rw [← rs_Pu, show rs_F h p r i = p r from if_pos ⟨a, b⟩]
    · rw [rs_Ps (if_neg (fun z => b z.2))]
      exact nm_r (nI_1 i) W
theorem rs_remove_y {r : Nat} (hr : r < 40) {h p t ln T le ri : Nat → Int32} {li nx ll rl : Int32} (hpr : p r ≠ nI r) {post : Int32 → SY → Prop} (hp : post (nI (rs_cnt (upd h r 0) 40)) (li, nx, ll, rl, t, upd h r 0, rs_P h p r 40, ln, T, le, ri)) : ∀ d i, i + d = 40 → wY_remove_19 post (nI r) li nx ll rl (d + 1) (nI i) t (upd h r 0) (rs_P h p r i) ln T le ri := by
  intro d
  induction d with
  | zero =>
    intro i hi
    have e : i = 40 := by omega
    subst e
    exact br_t (nI_le (a := 40) (b := 40) (by omega) (by decide)) (rs_yc hp)
  | succ d ih =>
    intro i hi
    have W := ih (i + 1) (by omega)
    have hv : vp_in (nI i) 40 := vp_in_nI (by omega) (by decide)
    refine br_f (nI_ge (b := 40) (by omega) (by decide)) ⟨hv, ?_⟩
    rw [nI_clamp (n := i) (by omega), nI_clamp (n := r) (by omega), rs_Pi, rs_Pr hpr]
    by_cases e : i = r
    · subst e
      rw [rs_Ps (rs_Fr hpr)]
      exact br_t pk_us (nm_r (nI_1 i) W)
    · rw [pk_un e]
      refine br_c (fun a => ?_) (fun a => ⟨hv, br_c (fun b => ?_) (fun b => ?_)⟩)
      · rw [rs_Ps (if_neg (fun z => z.1 a))]
        exact nm_r (nI_1 i) W
      · refine ⟨vp_in_nI hr (by decide), hv, nm_r (e' := rs_P h p r (i + 1)) ?_ (nm_r (nI_1 i) W)⟩
        rw [← rs_Pu, show rs_F h p r i = p r from if_pos ⟨a, b⟩]
      · rw [rs_Ps (if_neg (fun z => b z.2))]
        exact nm_r (nI_1 i) W
theorem i_vc_remove {k : Nat} {u : SX} {v : SY} (I : i_Rel k u v) (hk : k + 3 ≤ 1536) (v1 : Int32) : wpX_remove (fun r u' => wpY_remove (fun r' v' => r' = r ∧ i_Rel (k + 3) u' v') v v1) u v1 := by
  have I0 := I
  obtain ⟨g, L, ll, rl, t, h, p, ln, T, le, ri, tb, rfl, rfl, hg, hL, hc, hln, hp⟩ := I
  unfold wpX_remove wpY_remove
  dsimp only
  by_cases b : rs_H h v1
  · obtain ⟨r, hr, rfl, hh⟩ := b
    have hne : ∀ q, q < 40 → nI q = nI r → q = r := fun q hq e => (nI_eq (by omega) (by omega)).mp e
    have hpr : p r ≠ nI r := by
      intro e
      rcases (hp r hh).2 with h2 | ⟨q, hq1, hq2, hq3⟩
      · exact rs_ne2 hr (e.symm.trans h2)
      · have := hne q (by omega) (hq3.symm.trans e)
        omega
    have hcd := rs_cnt_de hh 40 hr
    have J : i_Rel (k + 3) (nI (rs_cnt h 40) - 1, nI g, rs_gl T t, upd ln 40 (nI L), rs_P h p r 40, upd h r 0, tb) (nI L, nI g, ll, rl, t, upd h r 0, rs_P h p r 40, ln, T, le, ri) := by
      refine ⟨g, L, ll, rl, t, upd h r 0, rs_P h p r 40, ln, T, le, ri, tb, ?_, rfl, hg, hL, by omega, hln, ?_⟩
      · rw [hcd, nI_pred]
      · intro c hcc
        have ecr : c ≠ r := by
          intro e
          subst e
          exact hcc pk_us
        rw [pk_un ecr] at hcc
        obtain ⟨h1, h2⟩ := hp c hcc
        refine ⟨h1, ?_⟩
        rw [show rs_P h p r 40 c = rs_F h p r c from if_pos (by omega)]
        by_cases e : p c = nI r
        · rw [show rs_F h p r c = p r from if_pos ⟨hcc, e⟩]
          have hrc : r < c := by
            rcases h2 with h2 | ⟨q, hq1, hq2, hq3⟩
            · exact absurd (e.symm.trans h2) (rs_ne2 hr)
            · have := hne q (by omega) (hq3.symm.trans e)
              omega
          rcases (hp r hh).2 with h3 | ⟨q, hq1, hq2, hq3⟩
          · exact Or.inl h3
          · exact Or.inr ⟨q, by omega, by rw [pk_un (by omega)]; exact hq2, hq3⟩
        · rw [show rs_F h p r c = p c from if_neg (fun z => e z.2)]
          rcases h2 with h2 | ⟨q, hq1, hq2, hq3⟩
          · exact Or.inl h2
          · refine Or.inr ⟨q, hq1, ?_, hq3⟩
            rw [pk_un]
            · exact hq2
            · intro e2
              subst e2
              exact e hq3
    refine rs_xh_t hr hh (br_f (by decide) ⟨41, ?_⟩)
    have X := rs_remove_x hr (h := h) (p := p) (c := rs_gl T t) (l := upd ln 40 (nI L)) (tb := tb) (hc := nI (rs_cnt h 40)) (gn := nI g) hpr (post := fun r1 u' => wpY_remove (fun r' v' => r' = r1 ∧ i_Rel (k + 3) u' v') (nI L, nI g, ll, rl, t, h, p, ln, T, le, ri) (nI r)) ?_ 40 0 rfl
    · rw [rs_P0] at X
      exact X
    · unfold wpY_remove
      dsimp only
      refine rs_ym_t hr hh (br_t rfl ⟨vp_in_nI hr (by decide), nm_r (e' := upd h r 0) ?_ ⟨41, ?_⟩⟩)
      · rw [nI_clamp (by omega), rs_b0]
      · have Y := rs_remove_y hr (h := h) (p := p) (t := t) (ln := ln) (T := T) (le := le) (ri := ri) (li := nI L) (nx := nI g) (ll := ll) (rl := rl) hpr (post := fun r' v' => r' = nI (rs_cnt h 40) - 1 ∧ i_Rel (k + 3) (nI (rs_cnt h 40) - 1, nI g, rs_gl T t, upd ln 40 (nI L), rs_P h p r 40, upd h r 0, tb) v') ⟨by rw [hcd, nI_pred], J⟩ 40 0 rfl
        rw [rs_P0] at Y
        exact Y
  · exact rs_xh_f b (br_t rfl (rs_ym_f b (br_f (by decide) ⟨rfl, I0⟩)))
end
section
theorem rs_cnt_le {h : Nat → Int32} : ∀ {b a : Nat}, a ≤ b → rs_cnt h a ≤ rs_cnt h b := by
  intro b
  induction b with
  | zero =>
    intro a ha
    rw [show a = 0 by omega]; omega
  | succ b ih =>
    intro a ha
    by_cases e : a = b + 1
    · subst e; omega
    · have := ih (a := a) (by omega)
      show rs_cnt h a ≤ rs_cnt h b + _
      omega
theorem rs_cnt_s {h : Nat → Int32} {r : Nat} (hr : h r ≠ 0) : rs_cnt h (r + 1) = rs_cnt h r + 1 := by
  show rs_cnt h r + (if h r = 0 then 0 else 1) = _
  rw [if_neg hr]
/-- where a walk up the row stands after s steps: above the first revision, or at a held one with room for the rest -/
def rs_C (h : Nat → Int32) (s : Nat) (x : Int32) : Prop := (x = -2 ∧ s ≤ 12) ∨ ∃ r, r < 40 ∧ h r ≠ 0 ∧ x = nI r ∧ s + rs_cnt h (r + 1) ≤ 12
theorem rs_C_up {g L : Nat} {h p ln : Nat → Int32} (I : rs_I g L h p ln) {s r : Nat} (hr : h r ≠ 0) (hs : s + rs_cnt h (r + 1) ≤ 12) : rs_C h (s + 1) (p r) := by
  obtain ⟨hg, hL, hc, hln, hp⟩ := I
  have e := rs_cnt_s hr
  obtain ⟨h1, h2⟩ := hp r hr
  rcases h2 with h2 | ⟨q, hq1, hq2, hq3⟩
  · exact Or.inl ⟨h2, by omega⟩
  · have := rs_cnt_le (h := h) (a := q + 1) (b := r) (by omega)
    exact Or.inr ⟨q, by omega, hq2, hq3, by omega⟩
theorem rs_C_0 {g L : Nat} {h p ln : Nat → Int32} (I : rs_I g L h p ln) {r : Nat} (hr : r < 40) (hh : h r ≠ 0) : rs_C h 0 (nI r) := by
  have := rs_cnt_le (h := h) (a := r + 1) (b := 40) (by omega)
  have := I.2.2.1
  exact Or.inr ⟨r, hr, hh, rfl, by omega⟩
theorem rs_nH2 {h : Nat → Int32} : ¬ rs_H h (-2) := fun ⟨_, hr, e, _⟩ => rs_ne2 hr e.symm
theorem rs_row {g L : Nat} {h p ln : Nat → Int32} (I : rs_I g L h p ln) (so hc gn li nx ll rl : Int32) (c l tb t T le ri : Nat → Int32) : ∀ (d s : Nat) (x : Int32), s + d = 12 → rs_C h s x → ∃ a : Int32,
    (∀ post : Int32 → Prop, post a → wX_isInRowOf_5 post so hc gn c l p h tb (d + 1) x (nI s)) ∧
    (∀ post : Int32 → Prop, post a → wY_forebear_5 post so li nx ll rl t h p ln T le ri (d + 1) x (nI s)) := by
  intro d
  induction d with
  | zero =>
    intro s x hs hC
    have e : s = 12 := by omega
    subst e
    have hx : x = -2 := by
      rcases hC with hC | ⟨r, hr, hh, _, hle⟩
      · exact hC.1
      · have := rs_cnt_s hh
        omega
    subst hx
    exact ⟨0, fun post hp => br_t (nI_le (a := 12) (b := 12) (by omega) (by decide)) hp, fun post hp => br_f (nI_ge (b := 40) (a := 12) (by omega) (by decide)) (br_t (by decide) hp)⟩
  | succ d ih =>
    intro s x hs hC
    have hX : ¬ (12 : Int32) ≤ nI s := nI_ge (b := 12) (by omega) (by decide)
    have hY : ¬ (40 : Int32) ≤ nI s := nI_ge (b := 40) (by omega) (by decide)
    rcases hC with ⟨rfl, _⟩ | ⟨r, hr, hh, rfl, hle⟩
    · exact ⟨0, fun post hp => br_f hX (rs_xh_f rs_nH2 (br_t rfl hp)), fun post hp => br_f hY (br_t (by decide) hp)⟩
    · by_cases e : nI r = so
      · exact ⟨1, fun post hp => br_f hX (rs_xh_t hr hh (br_f (by decide) (br_t e hp))), fun post hp => br_f hY (br_f (nI_pos (by omega)) (br_t e hp))⟩
      · obtain ⟨a, hA, hB⟩ := ih (s + 1) (p r) (by omega) (rs_C_up I hh hle)
        have ep : p (nI r).toNatClampNeg = p r := by rw [nI_clamp (by omega)]
        exact ⟨a, fun post hp => br_f hX (rs_xh_t hr hh (br_f (by decide) (br_f e ⟨vp_in_nI hr (by decide), nm_r ep (nm_r (nI_1 s) (hA post hp))⟩))), fun post hp => br_f hY (br_f (nI_pos (by omega)) (br_f e ⟨vp_in_nI hr (by decide), nm_r ep (nm_r (nI_1 s) (hB post hp))⟩))⟩
theorem rs_base {g L : Nat} {h p ln : Nat → Int32} (I : rs_I g L h p ln) {b : Nat} (hb : b < 40) (hhb : h b ≠ 0) (hc gn li nx ll rl : Int32) (c l tb t T le ri : Nat → Int32) : ∀ (d s : Nat) (x : Int32), s + d = 12 → rs_C h s x → ∃ a : Int32,
    (∀ post : Int32 → Prop, post a → wX_base_23 post (nI b) hc gn c l p h tb (d + 1) x (nI s)) ∧
    (∀ post : Int32 → Prop, post a → wY_base_23 post (nI b) li nx ll rl t h p ln T le ri (d + 1) x (nI s)) := by
  intro d
  induction d with
  | zero =>
    intro s x hs hC
    have e : s = 12 := by omega
    subst e
    have hx : x = -2 := by
      rcases hC with hC | ⟨r, hr, hh, _, hle⟩
      · exact hC.1
      · have := rs_cnt_s hh
        omega
    subst hx
    exact ⟨-2, fun post hp => br_t (nI_le (a := 12) (b := 12) (by omega) (by decide)) hp, fun post hp => br_f (nI_ge (b := 40) (a := 12) (by omega) (by decide)) (br_t (by decide) hp)⟩
  | succ d ih =>
    intro s x hs hC
    have hX : ¬ (12 : Int32) ≤ nI s := nI_ge (b := 12) (by omega) (by decide)
    have hY : ¬ (40 : Int32) ≤ nI s := nI_ge (b := 40) (by omega) (by decide)
    rcases hC with ⟨rfl, _⟩ | ⟨r, hr, hh, rfl, hle⟩
    · exact ⟨-2, fun post hp => br_f hX (rs_xh_f rs_nH2 (br_t rfl hp)), fun post hp => br_f hY (br_t (by decide) hp)⟩
    · obtain ⟨w, hA, hB⟩ := rs_row I (nI r) hc gn li nx ll rl c l tb t T le ri 12 0 (nI b) rfl (rs_C_0 I hb hhb)
      by_cases e : w = 0
      · obtain ⟨a, hA', hB'⟩ := ih (s + 1) (p r) (by omega) (rs_C_up I hh hle)
        have ep : p (nI r).toNatClampNeg = p r := by rw [nI_clamp (by omega)]
        refine ⟨a, fun post hp => br_f hX (rs_xh_t hr hh (br_f (by decide) ⟨13, hA _ (br_t e ⟨vp_in_nI hr (by decide), nm_r ep (nm_r (nI_1 s) (hA' post hp))⟩)⟩)), fun post hp => br_f hY (br_f (nI_pos (by omega)) ⟨13, hB _ (br_t e ⟨vp_in_nI hr (by decide), nm_r ep (nm_r (nI_1 s) (hB' post hp))⟩)⟩)⟩
      · refine ⟨nI r, fun post hp => br_f hX (rs_xh_t hr hh (br_f (by decide) ⟨13, hA _ (br_f e hp)⟩)), fun post hp => br_f hY (br_f (nI_pos (by omega)) ⟨13, hB _ (br_f e hp)⟩)⟩
theorem i_vc_base {k : Nat} {u : SX} {v : SY} (I : i_Rel k u v) (hk : k + 3 ≤ 1536) (v1 : Int32) (v2 : Int32) : wpX_base (fun r => wpY_base (fun r' => r' = r ∧ i_Rel (k + 3) u v) v v1 v2) u v1 v2 := by
  have I0 := I
  obtain ⟨g, L, ll, rl, t, h, p, ln, T, le, ri, tb, rfl, rfl, J⟩ := I
  unfold wpX_base wpY_base
  dsimp only
  by_cases a : rs_H h v1
  · obtain ⟨r, hr, rfl, hh⟩ := a
    by_cases b : rs_H h v2
    · obtain ⟨q, hq, rfl, hhq⟩ := b
      obtain ⟨w, hA, hB⟩ := rs_base J hq hhq (nI (rs_cnt h 40)) (nI g) (nI L) (nI g) ll rl (rs_gl T t) (upd ln 40 (nI L)) tb t T le ri 12 0 (nI r) rfl (rs_C_0 J hr hh)
      exact rs_xh_t hr hh (br_f (by decide) (rs_xh_t hq hhq (br_f (by decide) ⟨13, hA _ (rs_ym_t hr hh (br_t rfl (rs_ym_t hq hhq (br_t rfl ⟨13, hB _ ⟨rfl, I0⟩⟩))))⟩)))
    · exact rs_xh_t hr hh (br_f (by decide) (rs_xh_f b (br_t rfl (rs_ym_t hr hh (br_t rfl (rs_ym_f b (br_f (by decide) ⟨rfl, I0⟩)))))))
  · exact rs_xh_f a (br_t rfl (rs_ym_f a (br_f (by decide) ⟨rfl, I0⟩)))
theorem rs_same_loop {r L : Nat} (hr : r < 40) (hL : L ≤ 10) (hc gn nx ll rl : Int32) (T t l p h tb h' p' ln le ri : Nat → Int32) : ∀ d i, i + d = L → ∃ a : Int32,
    (∀ post : Int32 → Prop, post a → wX_isSameText_22 post 40 (nI r) (nI L) hc gn (rs_gl T t) l p h tb (d + 1) (nI i)) ∧
    (∀ post : Int32 → Prop, post a → wY_same_17 post (nI r) (nI L) nx ll rl t h' p' ln T le ri (d + 1) (nI i)) := by
  intro d
  induction d with
  | zero =>
    intro i hi
    have hle : nI L ≤ nI i := nI_le (by omega) (by omega)
    exact ⟨1, fun post hp => br_t hle hp, fun post hp => br_t hle hp⟩
  | succ d ih =>
    intro i hi
    have hle : ¬ nI L ≤ nI i := nI_ge (by omega) (by omega)
    obtain ⟨a, hX, hY⟩ := ih (i + 1) (by omega)
    have e1 : rs_gl T t ((40 : Int32) * 10 + nI i).toNatClampNeg = t i := by rw [pk_cl (400 + i) (rs_40m i), rs_gl_hi]
    have e2 : rs_gl T t (nI r * 10 + nI i).toNatClampNeg = T (10 * r + i) := by rw [pk_cl (r * 10 + i) (rs_m10 r i), rs_gl_lo (by omega), Nat.mul_comm r 10]
    have e3 : T (10 * nI r + nI i).toNatClampNeg = T (10 * r + i) := by rw [pk_cl (10 * r + i) (rs_10m r i)]
    have e4 : t (nI i).toNatClampNeg = t i := by rw [nI_clamp (by omega)]
    have w1 : vp_in ((40 : Int32) * 10 + nI i) 410 := pk_in (400 + i) 410 (by omega) (rs_40m i)
    have w2 : vp_in (nI r * 10 + nI i) 410 := pk_in (r * 10 + i) 410 (by omega) (rs_m10 r i)
    have w3 : vp_in (10 * nI r + nI i) 400 := pk_in (10 * r + i) 400 (by omega) (rs_10m r i)
    have w4 : vp_in (nI i) 10 := vp_in_nI (by omega) (by omega)
    by_cases e : T (10 * r + i) = t i
    · exact ⟨a, fun post hp => br_f hle ⟨w1, w2, br_t (by rw [e1, e2]; exact e.symm) (nm_r (nI_1 i) (hX post hp))⟩, fun post hp => br_f hle ⟨w3, w4, br_t (by rw [e3, e4]; exact e) (nm_r (nI_1 i) (hY post hp))⟩⟩
    · exact ⟨0, fun post hp => br_f hle ⟨w1, w2, br_f (by rw [e1, e2]; exact fun z => e z.symm) hp⟩, fun post hp => br_f hle ⟨w3, w4, br_f (by rw [e3, e4]; exact e) hp⟩⟩
theorem rs_same {g r L : Nat} (hr : r < 40) {h p ln : Nat → Int32} (I : rs_I g L h p ln) (hc gn nx ll rl : Int32) (T t tb le ri : Nat → Int32) : ∃ a : Int32,
    (∀ post : Int32 → Prop, post a → wpX_isSameText post (hc, gn, rs_gl T t, upd ln 40 (nI L), p, h, tb) 40 (nI r)) ∧
    (∀ post : Int32 → Prop, post a → wpY_same post (nI L, nx, ll, rl, t, h, p, ln, T, le, ri) (nI r)) := by
  obtain ⟨a, hX, hY⟩ := rs_same_loop hr I.2.1 hc gn nx ll rl T t (upd ln 40 (nI L)) p h tb h p ln le ri L 0 (by omega)
  have e1 : upd ln 40 (nI L) (nI r).toNatClampNeg = ln r := by rw [nI_clamp (by omega), pk_un (by omega)]
  have e2 : ln (nI r).toNatClampNeg = ln r := by rw [nI_clamp (by omega)]
  by_cases e : ln r = nI L
  · exact ⟨a, fun post hp => ⟨vp_in_iff.mpr (by decide), nm_r (e' := nI L) pk_us ⟨vp_in_nI (by omega) (by decide), br_t (by rw [e1]; exact e.symm) ⟨_, hX post hp⟩⟩⟩, fun post hp => ⟨vp_in_nI hr (by decide), br_t (by rw [e2]; exact e) ⟨_, hY post hp⟩⟩⟩
  · exact ⟨0, fun post hp => ⟨vp_in_iff.mpr (by decide), nm_r (e' := nI L) pk_us ⟨vp_in_nI (by omega) (by decide), br_f (by rw [e1]; exact fun z => e z.symm) hp⟩⟩, fun post hp => ⟨vp_in_nI hr (by decide), br_f (by rw [e2]; exact e) hp⟩⟩
theorem rs_find {g L : Nat} {h p ln : Nat → Int32} (I : rs_I g L h p ln) (hc gn nx ll rl : Int32) (T t tb le ri : Nat → Int32) : ∀ d i, i + d = 40 → ∃ a : Int32,
    (∀ post : Int32 → Prop, post a → wX_find_2 post hc gn (rs_gl T t) (upd ln 40 (nI L)) p h tb (d + 1) (nI i)) ∧
    (∀ post : Int32 → Prop, post a → wY_find_2 post (nI L) nx ll rl t h p ln T le ri (d + 1) (nI i)) := by
  intro d
  induction d with
  | zero =>
    intro i hi
    have hle : (40 : Int32) ≤ nI i := nI_le (a := 40) (by omega) (by omega)
    exact ⟨-1, fun post hp => br_t hle hp, fun post hp => br_t hle hp⟩
  | succ d ih =>
    intro i hi
    have hle : ¬ (40 : Int32) ≤ nI i := nI_ge (b := 40) (by omega) (by decide)
    have hv : vp_in (nI i) 40 := vp_in_nI (by omega) (by decide)
    obtain ⟨a, hX, hY⟩ := ih (i + 1) (by omega)
    by_cases e : h (nI i).toNatClampNeg = 0
    · exact ⟨a, fun post hp => br_f hle ⟨hv, br_t e (nm_r (nI_1 i) (hX post hp))⟩, fun post hp => br_f hle ⟨hv, br_t e (nm_r (nI_1 i) (hY post hp))⟩⟩
    · obtain ⟨w, hA, hB⟩ := rs_same (r := i) (by omega) I hc gn nx ll rl T t tb le ri
      by_cases e2 : w = 0
      · exact ⟨a, fun post hp => br_f hle ⟨hv, br_f e (hA _ (br_t e2 (nm_r (nI_1 i) (hX post hp))))⟩, fun post hp => br_f hle ⟨hv, br_f e (hB _ (br_t e2 (nm_r (nI_1 i) (hY post hp))))⟩⟩
      · exact ⟨nI i, fun post hp => br_f hle ⟨hv, br_f e (hA _ (br_f e2 hp))⟩, fun post hp => br_f hle ⟨hv, br_f e (hB _ (br_f e2 hp))⟩⟩
theorem i_vc_find {k : Nat} {u : SX} {v : SY} (I : i_Rel k u v) (hk : k + 3 ≤ 1536) : wpX_find (fun r => wpY_find (fun r' => r' = r ∧ i_Rel (k + 3) u v) v) u := by
  have I0 := I
  obtain ⟨g, L, ll, rl, t, h, p, ln, T, le, ri, tb, rfl, rfl, J⟩ := I
  obtain ⟨a, hX, hY⟩ := rs_find J (nI (rs_cnt h 40)) (nI g) (nI g) ll rl T t tb le ri 40 0 rfl
  exact ⟨41, hX _ ⟨41, hY _ ⟨rfl, I0⟩⟩⟩
end
section
/-- a row of the table of distances from the row before it -/
def rs_Dr (x : Int32) (b : Nat → Int32) (f : Nat → Nat) (s : Nat) : Nat → Nat
  | 0 => s
  | j + 1 => if x = b j then f j else min (f (j + 1)) (rs_Dr x b f s j) + 1
/-- the distance of the first i lines of a and the first j of b -/
def rs_D (a b : Nat → Int32) : Nat → Nat → Nat
  | 0 => fun j => j
  | i + 1 => rs_Dr (a i) b (rs_D a b i) (i + 1)
theorem rs_D0 (a b : Nat → Int32) (j : Nat) : rs_D a b 0 j = j := rfl
theorem rs_Di0 (a b : Nat → Int32) (i : Nat) : rs_D a b i 0 = i := by cases i <;> rfl
theorem rs_De {a b : Nat → Int32} {i j : Nat} (h : a i = b j) : rs_D a b (i + 1) (j + 1) = rs_D a b i j := if_pos h
theorem rs_Dn {a b : Nat → Int32} {i j : Nat} (h : ¬ a i = b j) : rs_D a b (i + 1) (j + 1) = min (rs_D a b i (j + 1)) (rs_D a b (i + 1) j) + 1 := if_neg h
theorem rs_D_step {a b : Nat → Int32} {i j : Nat} (A : rs_D a b i (j + 1) ≤ rs_D a b i j + 1) (B : rs_D a b i j ≤ rs_D a b i (j + 1) + 1) (C : rs_D a b (i + 1) j ≤ rs_D a b i j + 1) (E : rs_D a b i j ≤ rs_D a b (i + 1) j + 1) :
    rs_D a b (i + 1) (j + 1) ≤ rs_D a b (i + 1) j + 1 ∧ rs_D a b (i + 1) j ≤ rs_D a b (i + 1) (j + 1) + 1 ∧ rs_D a b (i + 1) (j + 1) ≤ rs_D a b i (j + 1) + 1 ∧ rs_D a b i (j + 1) ≤ rs_D a b (i + 1) (j + 1) + 1 := by
  by_cases e : a i = b j
  · rw [rs_De e]; omega
  · rw [rs_Dn e]; omega
theorem rs_D_row {a b : Nat → Int32} {i : Nat} (H : ∀ j, rs_D a b i (j + 1) ≤ rs_D a b i j + 1 ∧ rs_D a b i j ≤ rs_D a b i (j + 1) + 1) : ∀ j, rs_D a b (i + 1) j ≤ rs_D a b i j + 1 ∧ rs_D a b i j ≤ rs_D a b (i + 1) j + 1 := by
  intro j
  induction j with
  | zero => rw [rs_Di0, rs_Di0]; omega
  | succ j ih => exact (rs_D_step (H j).1 (H j).2 ih.1 ih.2).2.2
theorem rs_D_col {a b : Nat → Int32} : ∀ i j, rs_D a b i (j + 1) ≤ rs_D a b i j + 1 ∧ rs_D a b i j ≤ rs_D a b i (j + 1) + 1 := by
  intro i
  induction i with
  | zero => intro j; rw [rs_D0, rs_D0]; omega
  | succ i ih =>
    intro j
    have R := rs_D_row ih j
    have S := rs_D_step (ih j).1 (ih j).2 R.1 R.2
    exact ⟨S.1, S.2.1⟩
theorem rs_D_dn {a b : Nat → Int32} (i j : Nat) : rs_D a b (i + 1) j ≤ rs_D a b i j + 1 := (rs_D_row (rs_D_col i) j).1
theorem rs_D_far {a b : Nat → Int32} (i j : Nat) : ∀ d, rs_D a b i (j + d) ≤ rs_D a b i j + d := by
  intro d
  induction d with
  | zero => exact Nat.le_refl _
  | succ d ih =>
    have := (rs_D_col (a := a) (b := b) i (j + d)).1
    show rs_D a b i (j + d + 1) ≤ _
    omega
theorem rs_D_le {a b : Nat → Int32} (i j : Nat) : rs_D a b i j ≤ i + j := by
  have := rs_D_far (a := a) (b := b) i 0 j
  rw [Nat.zero_add, rs_Di0] at this
  exact this
theorem rs_D_congr {a b a' b' : Nat → Int32} : ∀ i j, (∀ x, x < i → a x = a' x) → (∀ x, x < j → b x = b' x) → rs_D a b i j = rs_D a' b' i j := by
  intro i
  induction i with
  | zero => intro j _ _; rfl
  | succ i ih =>
    intro j
    induction j with
    | zero => intro _ _; rfl
    | succ j ihj =>
      intro ha hb
      have e1 := ih j (fun x hx => ha x (by omega)) (fun x hx => hb x (by omega))
      have e2 := ih (j + 1) (fun x hx => ha x (by omega)) hb
      have e3 := ihj ha (fun x hx => hb x (by omega))
      have ea := ha i (by omega)
      have eb := hb j (by omega)
      by_cases e : a i = b j
      · rw [rs_De e, rs_De (by rw [← ea, ← eb]; exact e), e1]
      · rw [rs_Dn e, rs_Dn (by rw [← ea, ← eb]; exact e), e2, e3]
/-- the first place from p on, within d, where b holds x; p + d if there is none -/
def rs_fd (b : Nat → Int32) (x : Int32) : Nat → Nat → Nat
  | 0, p => p
  | d + 1, p => if b p = x then p else rs_fd b x d (p + 1)
theorem rs_fd_in {b : Nat → Int32} {x : Int32} : ∀ d p, p ≤ rs_fd b x d p ∧ rs_fd b x d p ≤ p + d := by
  intro d
  induction d with
  | zero => intro p; exact ⟨Nat.le_refl _, Nat.le_refl _⟩
  | succ d ih =>
    intro p
    show p ≤ (if b p = x then p else rs_fd b x d (p + 1)) ∧ (if b p = x then p else rs_fd b x d (p + 1)) ≤ p + (d + 1)
    have := ih (p + 1)
    split <;> omega
theorem rs_fd_eq {b : Nat → Int32} {x : Int32} : ∀ d p, rs_fd b x d p < p + d → b (rs_fd b x d p) = x := by
  intro d
  induction d with
  | zero => intro p hp; exact absurd hp (Nat.lt_irrefl _)
  | succ d ih =>
    intro p
    show (if b p = x then p else rs_fd b x d (p + 1)) < p + (d + 1) → b (if b p = x then p else rs_fd b x d (p + 1)) = x
    split
    · intro _; assumption
    · intro hp; exact ih (p + 1) (by omega)
theorem rs_fd_le {b : Nat → Int32} {x : Int32} : ∀ d p j, p ≤ j → j < p + d → b j = x → rs_fd b x d p ≤ j := by
  intro d
  induction d with
  | zero => intro p j h1 h2; omega
  | succ d ih =>
    intro p j h1 h2 h3
    show (if b p = x then p else rs_fd b x d (p + 1)) ≤ j
    split
    · exact h1
    · rename_i hne
      have : p ≠ j := by
        intro e
        subst e
        exact hne h3
      exact ih (p + 1) j (by omega) (by omega) h3
/-- one line of the left text, chosen by c or not -/
def rs_st (a b : Nat → Int32) (n c i : Nat) (s : Nat × Nat) : Option (Nat × Nat) :=
  if c.testBit i = true then (if rs_fd b (a i) (n - s.1) s.1 < n then some (rs_fd b (a i) (n - s.1) s.1 + 1, s.2 + 1) else none) else some s
/-- where the search stands after i lines of the left text, and how many were found -/
def rs_gr (a b : Nat → Int32) (n c : Nat) : Nat → Option (Nat × Nat)
  | 0 => some (0, 0)
  | i + 1 => (rs_gr a b n c i).bind (rs_st a b n c i)
theorem rs_gr_s {a b : Nat → Int32} {n c i : Nat} {s : Nat × Nat} (h : rs_gr a b n c i = some s) : rs_gr a b n c (i + 1) = rs_st a b n c i s := by
  show (rs_gr a b n c i).bind (rs_st a b n c i) = _
  rw [h]; rfl
theorem rs_gr_no {a b : Nat → Int32} {n c i : Nat} (h : rs_gr a b n c i = none) : ∀ d, rs_gr a b n c (i + d) = none := by
  intro d
  induction d with
  | zero => exact h
  | succ d ih =>
    show (rs_gr a b n c (i + d)).bind (rs_st a b n c (i + d)) = _
    rw [ih]; rfl
theorem rs_gr_ub {a b : Nat → Int32} {n c : Nat} : ∀ i s, rs_gr a b n c i = some s → s.1 ≤ n ∧ rs_D a b i s.1 + 2 * s.2 ≤ i + s.1 := by
  intro i
  induction i with
  | zero =>
    intro s hs
    have e : s = (0, 0) := (Option.some.inj hs).symm
    subst e
    exact ⟨Nat.zero_le _, Nat.le_refl _⟩
  | succ i ih =>
    intro s hs
    cases e : rs_gr a b n c i with
    | none => rw [rs_gr_no e 1] at hs; exact absurd hs (by simp)
    | some s0 =>
      have I := ih s0 e
      rw [rs_gr_s e] at hs
      unfold rs_st at hs
      split at hs
      · split at hs
        · rename_i h1 h2
          have es := Option.some.inj hs
          subst es
          have F1 := rs_fd_in (b := b) (x := a i) (n - s0.1) s0.1
          have F2 := rs_fd_eq (b := b) (x := a i) (n - s0.1) s0.1 (by omega)
          have F3 := rs_D_far (a := a) (b := b) i s0.1 (rs_fd b (a i) (n - s0.1) s0.1 - s0.1)
          rw [show s0.1 + (rs_fd b (a i) (n - s0.1) s0.1 - s0.1) = rs_fd b (a i) (n - s0.1) s0.1 by omega] at F3
          refine ⟨h2, ?_⟩
          show rs_D a b (i + 1) (rs_fd b (a i) (n - s0.1) s0.1 + 1) + 2 * (s0.2 + 1) ≤ i + 1 + (rs_fd b (a i) (n - s0.1) s0.1 + 1)
          rw [rs_De F2.symm]
          omega
        · exact absurd hs (by simp)
      · have es := Option.some.inj hs
        subst es
        have := rs_D_dn (a := a) (b := b) i s0.1
        exact ⟨I.1, by omega⟩
theorem rs_gr_le {a b : Nat → Int32} {n c m : Nat} {s : Nat × Nat} (h : rs_gr a b n c m = some s) : rs_D a b m n + 2 * s.2 ≤ m + n := by
  have I := rs_gr_ub m s h
  have F := rs_D_far (a := a) (b := b) m s.1 (n - s.1)
  rw [show s.1 + (n - s.1) = n by omega] at F
  omega
theorem rs_gr_congr {a b : Nat → Int32} {n c c' : Nat} : ∀ i, (∀ x, x < i → c.testBit x = c'.testBit x) → rs_gr a b n c i = rs_gr a b n c' i := by
  intro i
  induction i with
  | zero => intro _; rfl
  | succ i ih =>
    intro h
    show (rs_gr a b n c i).bind (rs_st a b n c i) = (rs_gr a b n c' i).bind (rs_st a b n c' i)
    rw [ih (fun x hx => h x (by omega))]
    have e : rs_st a b n c i = rs_st a b n c' i := by
      funext s
      unfold rs_st
      rw [h i (by omega)]
    rw [e]
theorem rs_gr_0 {a b : Nat → Int32} {n : Nat} : ∀ i, rs_gr a b n 0 i = some (0, 0) := by
  intro i
  induction i with
  | zero => rfl
  | succ i ih =>
    rw [rs_gr_s ih]
    unfold rs_st
    rw [Nat.zero_testBit]
    rfl
theorem rs_gr_ex {a b : Nat → Int32} {n : Nat} : ∀ i j, j ≤ n → ∃ c s, c < 2 ^ i ∧ rs_gr a b n c i = some s ∧ s.1 ≤ j ∧ i + j ≤ rs_D a b i j + 2 * s.2 := by
  intro i
  induction i with
  | zero =>
    intro j _
    exact ⟨0, (0, 0), by decide, rfl, Nat.zero_le _, by rw [rs_D0]; omega⟩
  | succ i ih =>
    intro j
    induction j with
    | zero =>
      intro _
      exact ⟨0, (0, 0), Nat.two_pow_pos _, rs_gr_0 _, Nat.le_refl _, by rw [rs_Di0]; omega⟩
    | succ j ihj =>
      intro hj
      have h2 : 2 ^ (i + 1) = 2 ^ i + 2 ^ i := by rw [Nat.pow_succ]; omega
      by_cases e : a i = b j
      · obtain ⟨c, s, hc, hg, hs, hD⟩ := ih j (by omega)
        have F := rs_fd_le (b := b) (x := a i) (n - s.1) s.1 j hs (by omega) e.symm
        refine ⟨2 ^ i + c, (rs_fd b (a i) (n - s.1) s.1 + 1, s.2 + 1), by omega, ?_, ?_, ?_⟩
        · have hg' : rs_gr a b n (2 ^ i + c) i = some s := by
            rw [← hg]
            exact rs_gr_congr i (fun x hx => Nat.testBit_two_pow_add_gt hx c)
          rw [rs_gr_s hg']
          unfold rs_st
          rw [if_pos (by rw [Nat.testBit_two_pow_add_eq, Nat.testBit_lt_two_pow hc]; rfl), if_pos (by omega)]
        · show rs_fd b (a i) (n - s.1) s.1 + 1 ≤ j + 1
          omega
        · show i + 1 + (j + 1) ≤ rs_D a b (i + 1) (j + 1) + 2 * (s.2 + 1)
          rw [rs_De e]
          omega
      · by_cases hm : rs_D a b i (j + 1) ≤ rs_D a b (i + 1) j
        · obtain ⟨c, s, hc, hg, hs, hD⟩ := ih (j + 1) hj
          refine ⟨c, s, by omega, ?_, hs, ?_⟩
          · rw [rs_gr_s hg]
            unfold rs_st
            rw [if_neg (by rw [Nat.testBit_lt_two_pow hc]; decide)]
          · rw [rs_Dn e]
            omega
        · obtain ⟨c, s, hc, hg, hs, hD⟩ := ihj (by omega)
          refine ⟨c, s, hc, hg, by omega, ?_⟩
          rw [rs_Dn e]
          omega
end
section
theorem rs_m11 (a i : Nat) : nI a * 11 + nI i = nI (a * 11 + i) := by
  show nI a * nI 11 + nI i = _
  rw [pk_mul, nI_add]
theorem rs_c1 (o i : Nat) : nI o * 10 + nI (i + 1) - 1 = nI (o * 10 + i) := by
  rw [rs_m10, show o * 10 + (i + 1) = o * 10 + i + 1 from rfl, nI_pred]
theorem rs_t11 (x : Nat) : nI (x + 11) - 11 = nI x := by
  show nI (x + 11) - nI 11 = _
  rw [pk_sub (by omega), Nat.add_sub_cancel]
/-- the table holds the distances of the rows above i, and of row i those left of j -/
def rs_T (a b : Nat → Int32) (n i j : Nat) (tb : Nat → Int32) : Prop :=
  (∀ i' j', i' < i → j' ≤ n → tb (i' * 11 + j') = nI (rs_D a b i' j')) ∧ (∀ j', j' < j → tb (i * 11 + j') = nI (rs_D a b i j'))
theorem rs_T_put {a b : Nat → Int32} {n i j : Nat} {tb : Nat → Int32} (hn : n ≤ 10) (hj : j ≤ n) (H : rs_T a b n i j tb) : rs_T a b n i (j + 1) (upd tb (i * 11 + j) (nI (rs_D a b i j))) := by
  refine ⟨fun i' j' h1 h2 => ?_, fun j' h1 => ?_⟩
  · rw [pk_un (by omega)]
    exact H.1 i' j' h1 h2
  · by_cases e : j' = j
    · subst e
      exact pk_us
    · rw [pk_un (by omega)]
      exact H.2 j' (by omega)
theorem rs_T_row {a b : Nat → Int32} {n i : Nat} {tb : Nat → Int32} (H : rs_T a b n i (n + 1) tb) : rs_T a b n (i + 1) 0 tb := by
  refine ⟨fun i' j' h1 h2 => ?_, fun j' h1 => absurd h1 (Nat.not_lt_zero _)⟩
  by_cases e : i' = i
  · subst e
    exact H.2 j' (by omega)
  · exact H.1 i' j' (by omega) h2
theorem rs_begin {post : Int32 → Prop} {hc gn : Int32} {c l p h tb : Nat → Int32} {o o' m n i j : Nat} (ho : o ≤ 40) (ho' : o' ≤ 40) (hm : m ≤ 10) (hn : n ≤ 10) (hi : i ≤ m) (hj : j ≤ n)
    (H : rs_T (fun x => c (o * 10 + x)) (fun x => c (o' * 10 + x)) n i j tb) (hp : post (nI (rs_D (fun x => c (o * 10 + x)) (fun x => c (o' * 10 + x)) i j))) :
    wpX_beginningsDistance post (hc, gn, c, l, p, h, tb) (nI o) (nI i) (nI o') (nI j) := by
  cases i with
  | zero =>
    refine br_t rfl ?_
    rw [rs_D0] at hp
    rw [nI_add, Nat.zero_add]
    exact hp
  | succ i =>
    refine br_f (nI_ne0 (by omega) (by omega)) ?_
    cases j with
    | zero =>
      refine br_t rfl ?_
      rw [rs_Di0] at hp
      rw [nI_add, Nat.add_zero]
      exact hp
    | succ j =>
      refine br_f (nI_ne0 (by omega) (by omega)) (nm_r (rs_m11 (i + 1) (j + 1)) ?_)
      have e1 := rs_c1 o i
      have e2 := rs_c1 o' j
      have e3 : nI ((i + 1) * 11 + (j + 1)) - 11 = nI (i * 11 + (j + 1)) := by
        rw [show (i + 1) * 11 + (j + 1) = i * 11 + (j + 1) + 11 by omega, rs_t11]
      have e4 : nI ((i + 1) * 11 + (j + 1)) - 11 - 1 = nI (i * 11 + j) := by
        rw [e3, show i * 11 + (j + 1) = i * 11 + j + 1 from rfl, nI_pred]
      have e5 : nI ((i + 1) * 11 + (j + 1)) - 1 = nI ((i + 1) * 11 + j) := nI_pred ((i + 1) * 11 + j)
      refine ⟨pk_in (o * 10 + i) 410 (by omega) e1, pk_in (o' * 10 + j) 410 (by omega) e2, ?_⟩
      rw [pk_cl (o * 10 + i) e1, pk_cl (o' * 10 + j) e2]
      refine br_c (fun e => ⟨pk_in (i * 11 + j) 121 (by omega) e4, ?_⟩) (fun e => ⟨pk_in (i * 11 + (j + 1)) 121 (by omega) e3, nm_r (e' := nI (rs_D (fun x => c (o * 10 + x)) (fun x => c (o' * 10 + x)) i (j + 1) + 1)) ?_ ⟨pk_in ((i + 1) * 11 + j) 121 (by omega) e5, nm_r (e' := nI (rs_D (fun x => c (o * 10 + x)) (fun x => c (o' * 10 + x)) (i + 1) j + 1)) ?_ ?_⟩⟩)
      · rw [pk_cl (i * 11 + j) e4, H.1 i j (by omega) (by omega)]
        rw [rs_De (a := fun x => c (o * 10 + x)) (b := fun x => c (o' * 10 + x)) e] at hp
        exact hp
      · rw [pk_cl (i * 11 + (j + 1)) e3, H.1 i (j + 1) (by omega) (by omega), nI_1]
      · rw [pk_cl ((i + 1) * 11 + j) e5, H.2 j (by omega), nI_1]
      · rw [rs_Dn (a := fun x => c (o * 10 + x)) (b := fun x => c (o' * 10 + x)) e] at hp
        have b1 := rs_D_le (a := fun x => c (o * 10 + x)) (b := fun x => c (o' * 10 + x)) i (j + 1)
        have b2 := rs_D_le (a := fun x => c (o * 10 + x)) (b := fun x => c (o' * 10 + x)) (i + 1) j
        refine pk_le (rs_D (fun x => c (o * 10 + x)) (fun x => c (o' * 10 + x)) (i + 1) j + 1) (rs_D (fun x => c (o * 10 + x)) (fun x => c (o' * 10 + x)) i (j + 1) + 1) (fun z => ?_) (fun z => ?_)
        · rw [Nat.min_eq_right (by omega)] at hp
          exact hp
        · rw [Nat.min_eq_left (by omega)] at hp
          exact hp
theorem rs_inner {post : Int32 → SX → Prop} {J : Int32 → (Nat → Int32) → (Nat → Int32) → (Nat → Int32) → (Nat → Int32) → (Nat → Int32) → Prop} {hc gn : Int32} {c l p h : Nat → Int32} {o o' m n i : Nat} (ho : o ≤ 40) (ho' : o' ≤ 40) (hm : m ≤ 10) (hn : n ≤ 10) (hi : i ≤ m)
    (hJ : ∀ tb', rs_T (fun x => c (o * 10 + x)) (fun x => c (o' * 10 + x)) n (i + 1) 0 tb' → J (nI (i + 1)) c l p h tb') : ∀ d j tb, j + d = n + 1 → rs_T (fun x => c (o * 10 + x)) (fun x => c (o' * 10 + x)) n i j tb → wX_textDistance_27 post J (nI o) (nI o') (nI m) (nI n) (nI i) hc gn (d + 1) (nI j) c l p h tb := by
  intro d
  induction d with
  | zero =>
    intro j tb hd H
    have e : j = n + 1 := by omega
    subst e
    exact br_t (nI_lt (by omega) (by omega)) (nm_r (nI_1 i) (hJ tb (rs_T_row H)))
  | succ d ih =>
    intro j tb hd H
    refine br_f (nI_nlt (by omega) (by omega)) (rs_begin ho ho' hm hn hi (by omega) H ⟨pk_in (i * 11 + j) 121 (by omega) (rs_m11 i j), nm_r ?_ (nm_r (nI_1 j) (ih (j + 1) _ (by omega) (rs_T_put hn (by omega) H)))⟩)
    rw [pk_cl (i * 11 + j) (rs_m11 i j)]
theorem rs_outer {post : Int32 → SX → Prop} {hc gn : Int32} {c l p h : Nat → Int32} {o o' m n : Nat} (ho : o ≤ 40) (ho' : o' ≤ 40) (hm : m ≤ 10) (hn : n ≤ 10)
    (hp : ∀ tb', post (nI (rs_D (fun x => c (o * 10 + x)) (fun x => c (o' * 10 + x)) m n)) (hc, gn, c, l, p, h, tb')) : ∀ d i tb, i + d = m + 1 → rs_T (fun x => c (o * 10 + x)) (fun x => c (o' * 10 + x)) n i 0 tb → wX_textDistance_18 post (nI o) (nI o') (nI m) (nI n) hc gn (d + 1) (nI i) c l p h tb := by
  intro d
  induction d with
  | zero =>
    intro i tb hd H
    have e : i = m + 1 := by omega
    subst e
    refine br_t (nI_lt (by omega) (by omega)) ⟨pk_in (m * 11 + n) 121 (by omega) (rs_m11 m n), ?_⟩
    rw [pk_cl (m * 11 + n) (rs_m11 m n), H.1 m n (by omega) (by omega)]
    exact hp tb
  | succ d ih =>
    intro i tb hd H
    exact br_f (nI_nlt (by omega) (by omega)) ⟨n + 1 + 1, rs_inner ho ho' hm hn (by omega) (fun tb' H' => ih (i + 1) tb' (by omega) H') (n + 1) 0 tb (by omega) H⟩
theorem rs_textD {post : Int32 → SX → Prop} {hc gn : Int32} {c l p h tb : Nat → Int32} {o o' m n : Nat} (ho : o ≤ 40) (ho' : o' ≤ 40) (hm : m ≤ 10) (hn : n ≤ 10) (em : l o = nI m) (en : l o' = nI n)
    (hp : ∀ tb', post (nI (rs_D (fun x => c (o * 10 + x)) (fun x => c (o' * 10 + x)) m n)) (hc, gn, c, l, p, h, tb')) : wpX_textDistance post (hc, gn, c, l, p, h, tb) (nI o) (nI o') := by
  refine ⟨vp_in_nI (by omega) (by decide), nm_r (e' := nI m) ?_ ⟨vp_in_nI (by omega) (by decide), nm_r (e' := nI n) ?_ ⟨m + 1 + 1, rs_outer ho ho' hm hn hp (m + 1) 0 tb (by omega) ⟨fun i' j' h1 => absurd h1 (Nat.not_lt_zero _), fun j' h1 => absurd h1 (Nat.not_lt_zero _)⟩⟩⟩⟩
  · rw [nI_clamp (by omega)]; exact em
  · rw [nI_clamp (by omega)]; exact en
end
section
def rs_res : Option (Nat × Nat) → Int32
  | none => -1
  | some s => nI s.2
theorem rs_bit {c i : Nat} (hc : c < 2 ^ 31) (hi : i < 32) : ((nI c >>> (nI i &&& 31)) &&& 1) = 1 ↔ c.testBit i = true := by
  rw [pk_shrN hc _ i (rs_sl i hi), pk_andN (Nat.lt_of_le_of_lt (Nat.div_le_self _ _) (by omega)) 1 (by decide), Nat.testBit_eq_decide_div_mod_eq, decide_eq_true_eq]
  exact nI_eq (b := 1) (by omega) (by omega)
section
variable {li nx : Int32} {t h p ln T le ri : Nat → Int32} {m n : Nat}
theorem rs_stay26 {post : Int32 → Prop} {J : Int32 → Int32 → Int32 → Prop} {x1 x3 : Int32} {i : Nat} (hi : i < 10) (hn : n ≤ 10) : ∀ d q, q + d = n → wY_stay_56 post J x1 (nI (rs_fd ri (le i) d q)) x3 (nI i) li nx (nI m) (nI n) t h p ln T le ri → wY_stay_26 post J x1 x3 (nI i) li nx (nI m) (nI n) t h p ln T le ri (d + 1) (nI q) := by
  intro d
  induction d with
  | zero =>
    intro q hq W
    exact br_t (nI_le (by omega) (by omega)) W
  | succ d ih =>
    intro q hq W
    have e1 : ri (nI q).toNatClampNeg = ri q := by rw [nI_clamp (by omega)]
    have e2 : le (nI i).toNatClampNeg = le i := by rw [nI_clamp (by omega)]
    refine br_f (nI_ge (by omega) (by omega)) ⟨vp_in_nI (by omega) (by omega), vp_in_nI (by omega) (by omega), ?_⟩
    rw [e1, e2]
    by_cases e : ri q = le i
    · rw [show rs_fd ri (le i) (d + 1) q = q from if_pos e] at W
      exact br_t e W
    · rw [show rs_fd ri (le i) (d + 1) q = rs_fd ri (le i) d (q + 1) from if_neg e] at W
      exact br_f e (nm_r (nI_1 q) (ih (q + 1) (by omega) W))
theorem rs_stay7 {post : Int32 → Prop} {c : Nat} (hc : c < 2 ^ 31) (hm : m ≤ 10) (hn : n ≤ 10) (hp : post (rs_res (rs_gr le ri n c m))) : ∀ d i (s : Nat × Nat), i + d = m → rs_gr le ri n c i = some s → wY_stay_7 post (nI c) li nx (nI m) (nI n) t h p ln T le ri (d + 1) (nI s.1) (nI s.2) (nI i) := by
  intro d
  induction d with
  | zero =>
    intro i s hi hg
    have e : i = m := by omega
    subst e
    rw [hg] at hp
    exact br_t (nI_le (by omega) (by omega)) hp
  | succ d ih =>
    intro i s hi hg
    refine br_f (nI_ge (by omega) (by omega)) ?_
    have hs := (rs_gr_ub i s hg).1
    have G := rs_gr_s hg
    by_cases e : c.testBit i = true
    · refine br_t ((rs_bit hc (by omega)).mpr e) ⟨n - s.1 + 1, rs_stay26 (by omega) hn (n - s.1) s.1 (by omega) ?_⟩
      unfold rs_st at G
      rw [if_pos e] at G
      by_cases f : rs_fd ri (le i) (n - s.1) s.1 < n
      · rw [if_pos f] at G
        exact br_t (nI_lt f (by omega)) (nm_r (nI_1 _) (nm_r (nI_1 _) (nm_r (nI_1 i) (ih (i + 1) _ (by omega) G))))
      · rw [if_neg f] at G
        have F := (rs_fd_in (b := ri) (x := le i) (n - s.1) s.1).2
        have N := rs_gr_no G d
        rw [show i + 1 + d = m by omega] at N
        rw [N] at hp
        exact br_f (nI_nlt (by omega) (by omega)) hp
    · refine br_f (fun z => e ((rs_bit hc (by omega)).mp z)) (nm_r (nI_1 i) (ih (i + 1) s (by omega) ?_))
      rw [G]
      exact if_neg e
theorem rs_least_loop {post : Int32 → Prop} (hm : m ≤ 10) (hn : n ≤ 10) {cc : Nat} {ss : Nat × Nat} (hcc : rs_gr le ri n cc m = some ss) (hss : m + n ≤ rs_D le ri m n + 2 * ss.2) (hcl : cc < 2 ^ m) (hp : post (nI (rs_D le ri m n))) :
    ∀ d c B, c + d = 2 ^ m → rs_D le ri m n ≤ B → B ≤ m + n → (cc < c → B = rs_D le ri m n) → wY_least_12 post li nx (nI m) (nI n) t h p ln T le ri (d + 1) (nI B) (nI c) := by
  have hpw : 2 ^ m ≤ 1024 := Nat.pow_le_pow_right (n := 2) (by decide) hm
  have hsh : (1 : Int32) <<< (nI m &&& 31) = nI (2 ^ m) := by
    have := pk_shlN (n := 1) (nI m &&& 31) m (rs_sl m (by omega)) (by omega)
    rw [Nat.one_mul] at this
    exact this
  intro d
  induction d with
  | zero =>
    intro c B hd h1 h2 h3
    have e : B = rs_D le ri m n := h3 (by omega)
    subst e
    refine br_t ?_ hp
    rw [hsh]
    exact nI_le (by omega) (by omega)
  | succ d ih =>
    intro c B hd h1 h2 h3
    refine br_f ?_ ?_
    · rw [hsh]
      exact nI_ge (by omega) (by omega)
    refine ⟨m + 1, rs_stay7 (by omega) hm hn ?_ m 0 (0, 0) (by omega) rfl⟩
    cases G : rs_gr le ri n c m with
    | none =>
      refine nm_e (br_t (by decide) (nm_r (nI_1 c) (ih (c + 1) B (by omega) h1 h2 (fun z => h3 ?_))))
      have : cc ≠ c := by
        intro e
        subst e
        rw [G] at hcc
        exact absurd hcc (by simp)
      omega
    | some s =>
      have U := rs_gr_le G
      have e4 : nI m + nI n - 2 * nI s.2 = nI (m + n - 2 * s.2) := by
        rw [nI_add, show (2 : Int32) * nI s.2 = nI (2 * s.2) from pk_mul 2 s.2, pk_sub (by omega)]
      refine nm_r e4 (br_f (nI_pos (by omega)) (pk_le B (m + n - 2 * s.2) (fun z => nm_r (nI_1 c) (ih (c + 1) B (by omega) h1 h2 (fun y => ?_))) (fun z => nm_r (nI_1 c) (ih (c + 1) (m + n - 2 * s.2) (by omega) (by omega) (by omega) (fun y => ?_)))))
      · by_cases e : cc = c
        · subst e
          rw [hcc] at G
          have es := Option.some.inj G
          subst es
          omega
        · exact h3 (by omega)
      · by_cases e : cc = c
        · subst e
          rw [hcc] at G
          have es := Option.some.inj G
          subst es
          omega
        · have := h3 (by omega)
          omega
theorem rs_least {post : Int32 → Prop} (hm : m ≤ 10) (hn : n ≤ 10) (hp : post (nI (rs_D le ri m n))) : wpY_least post (li, nx, nI m, nI n, t, h, p, ln, T, le, ri) := by
  obtain ⟨cc, ss, h1, h2, h3, h4⟩ := rs_gr_ex (a := le) (b := ri) (n := n) m n (Nat.le_refl _)
  exact nm_r (nI_add m n) ⟨2 ^ m + 1, rs_least_loop hm hn h2 h4 h1 hp (2 ^ m) 0 (m + n) (by omega) (rs_D_le m n) (Nat.le_refl _) (fun z => absurd z (Nat.not_lt_zero _))⟩
end
theorem rs_right_loop {post : SY → Prop} {li nx ll : Int32} {t h p ln T le : Nat → Int32} {r n : Nat} (hr : r < 40) (hn : n ≤ 10) (hp : ∀ ri' : Nat → Int32, (∀ x, x < n → ri' x = T (10 * r + x)) → post (li, nx, ll, nI n, t, h, p, ln, T, le, ri')) :
    ∀ d i ri, i + d = n → (∀ x, x < i → ri x = T (10 * r + x)) → wY_layRight_12 post (nI r) li nx ll (nI n) (d + 1) (nI i) t h p ln T le ri := by
  intro d
  induction d with
  | zero =>
    intro i ri hd H
    exact br_t (nI_le (by omega) (by omega)) (hp ri (fun x hx => H x (by omega)))
  | succ d ih =>
    intro i ri hd H
    refine br_f (nI_ge (by omega) (by omega)) ⟨pk_in (10 * r + i) 400 (by omega) (rs_10m r i), vp_in_nI (by omega) (by omega), nm_r (e' := upd ri i (T (10 * r + i))) ?_ (nm_r (nI_1 i) (ih (i + 1) _ (by omega) (fun x hx => ?_)))⟩
    · rw [pk_cl (10 * r + i) (rs_10m r i), nI_clamp (by omega)]
    · by_cases e : x = i
      · subst e; exact pk_us
      · rw [pk_un e]; exact H x (by omega)
theorem rs_right {post : SY → Prop} {li nx ll rl : Int32} {t h p ln T le ri : Nat → Int32} {r n : Nat} (hr : r < 40) (hn : n ≤ 10) (en : ln r = nI n) (hp : ∀ ri' : Nat → Int32, (∀ x, x < n → ri' x = T (10 * r + x)) → post (li, nx, ll, nI n, t, h, p, ln, T, le, ri')) : wpY_layRight post (li, nx, ll, rl, t, h, p, ln, T, le, ri) (nI r) := by
  refine ⟨vp_in_nI hr (by decide), nm_r (e' := nI n) ?_ ⟨n + 1, rs_right_loop hr hn hp n 0 ri (by omega) (fun x hx => absurd hx (Nat.not_lt_zero _))⟩⟩
  rw [nI_clamp (by omega)]; exact en
theorem rs_dist_loop {post : Int32 → SY → Prop} {li nx rl : Int32} {t h p ln T ri : Nat → Int32} {r q m n : Nat} (hr : r < 40) (hq : q < 40) (hm : m ≤ 10) (hn : n ≤ 10) (en : ln q = nI n) (hp : ∀ le' ri' : Nat → Int32, (∀ x, x < m → le' x = T (10 * r + x)) → (∀ x, x < n → ri' x = T (10 * q + x)) → post (nI (rs_D le' ri' m n)) (li, nx, nI m, nI n, t, h, p, ln, T, le', ri')) :
    ∀ d i le, i + d = m → (∀ x, x < i → le x = T (10 * r + x)) → wY_distance_30 post (nI r) (nI q) li nx (nI m) rl (d + 1) (nI i) t h p ln T le ri := by
  intro d
  induction d with
  | zero =>
    intro i le hd H
    exact br_t (nI_le (by omega) (by omega)) (rs_right hq hn en (fun ri' hri => rs_least hm hn (hp le ri' (fun x hx => H x (by omega)) hri)))
  | succ d ih =>
    intro i le hd H
    refine br_f (nI_ge (by omega) (by omega)) ⟨pk_in (10 * r + i) 400 (by omega) (rs_10m r i), vp_in_nI (by omega) (by omega), nm_r (e' := upd le i (T (10 * r + i))) ?_ (nm_r (nI_1 i) (ih (i + 1) _ (by omega) (fun x hx => ?_)))⟩
    · rw [pk_cl (10 * r + i) (rs_10m r i), nI_clamp (by omega)]
    · by_cases e : x = i
      · subst e; exact pk_us
      · rw [pk_un e]; exact H x (by omega)
theorem rs_chan_loop {post : Int32 → SY → Prop} {nx rl : Int32} {t h p ln T ri : Nat → Int32} {q m n : Nat} (hq : q < 40) (hm : m ≤ 10) (hn : n ≤ 10) (en : ln q = nI n) (hp : ∀ le' ri' : Nat → Int32, (∀ x, x < m → le' x = t x) → (∀ x, x < n → ri' x = T (10 * q + x)) → post (nI (rs_D le' ri' m n)) (nI m, nx, nI m, nI n, t, h, p, ln, T, le', ri')) :
    ∀ d i le, i + d = m → (∀ x, x < i → le x = t x) → wY_changed_20 post (nI q) (nI m) nx (nI m) rl (d + 1) (nI i) t h p ln T le ri := by
  intro d
  induction d with
  | zero =>
    intro i le hd H
    exact br_t (nI_le (by omega) (by omega)) (rs_right hq hn en (fun ri' hri => rs_least hm hn (hp le ri' (fun x hx => H x (by omega)) hri)))
  | succ d ih =>
    intro i le hd H
    refine br_f (nI_ge (by omega) (by omega)) ⟨vp_in_nI (by omega) (by omega), vp_in_nI (by omega) (by omega), nm_r (e' := upd le i (t i)) ?_ (nm_r (nI_1 i) (ih (i + 1) _ (by omega) (fun x hx => ?_)))⟩
    · rw [nI_clamp (by omega)]
    · by_cases e : x = i
      · subst e; exact pk_us
      · rw [pk_un e]; exact H x (by omega)
end
section
theorem i_vc_distance {k : Nat} {u : SX} {v : SY} (I : i_Rel k u v) (hk : k + 3 ≤ 1536) (v1 : Int32) (v2 : Int32) : wpX_distance (fun r u' => wpY_distance (fun r' v' => r' = r ∧ i_Rel (k + 3) u' v') v v1 v2) u v1 v2 := by
  have I0 := I
  obtain ⟨g, L, ll, rl, t, h, p, ln, T, le, ri, tb, rfl, rfl, J⟩ := I
  unfold wpX_distance wpY_distance
  dsimp only
  by_cases a : rs_H h v1
  · obtain ⟨r, hr, rfl, hh⟩ := a
    by_cases b : rs_H h v2
    · obtain ⟨q, hq, rfl, hhq⟩ := b
      obtain ⟨m, hm, em⟩ := J.2.2.2.1 r
      obtain ⟨n, hn, en⟩ := J.2.2.2.1 q
      refine rs_xh_t hr hh (br_f (by decide) (rs_xh_t hq hhq (br_f (by decide) (rs_textD (m := m) (n := n) (by omega) (by omega) hm hn ?_ ?_ (fun tb' => ?_)))))
      · rw [pk_un (by omega)]; exact em
      · rw [pk_un (by omega)]; exact en
      · refine rs_ym_t hr hh (br_t rfl (rs_ym_t hq hhq (br_t rfl ⟨vp_in_nI hr (by decide), nm_r (e' := nI m) ?_ ⟨m + 1, rs_dist_loop hr hq hm hn en (fun le' ri' hle hri => ⟨?_, ?_⟩) m 0 le (by omega) (fun x hx => absurd hx (Nat.not_lt_zero _))⟩⟩)))
        · rw [nI_clamp (by omega)]; exact em
        · refine congrArg nI (rs_D_congr m n (fun x hx => ?_) (fun x hx => ?_))
          · rw [hle x hx, rs_gl_lo (by omega), Nat.mul_comm r 10]
          · rw [hri x hx, rs_gl_lo (by omega), Nat.mul_comm q 10]
        · exact ⟨g, L, nI m, nI n, t, h, p, ln, T, le', ri', tb', rfl, rfl, J⟩
    · exact rs_xh_t hr hh (br_f (by decide) (rs_xh_f b (br_t rfl (rs_ym_t hr hh (br_t rfl (rs_ym_f b (br_f (by decide) ⟨rfl, I0⟩)))))))
  · exact rs_xh_f a (br_t rfl (rs_ym_f a (br_f (by decide) ⟨rfl, I0⟩)))
theorem i_vc_changed {k : Nat} {u : SX} {v : SY} (I : i_Rel k u v) (hk : k + 3 ≤ 1536) (v1 : Int32) : wpX_changed (fun r u' => wpY_changed (fun r' v' => r' = r ∧ i_Rel (k + 3) u' v') v v1) u v1 := by
  have I0 := I
  obtain ⟨g, L, ll, rl, t, h, p, ln, T, le, ri, tb, rfl, rfl, J⟩ := I
  unfold wpX_changed wpY_changed
  dsimp only
  by_cases b : rs_H h v1
  · obtain ⟨q, hq, rfl, hhq⟩ := b
    obtain ⟨n, hn, en⟩ := J.2.2.2.1 q
    have hL := J.2.1
    refine rs_xh_t hq hhq (br_f (by decide) (rs_textD (o := 40) (m := L) (n := n) (by omega) (by omega) hL hn pk_us ?_ (fun tb' => ?_)))
    · rw [pk_un (by omega)]; exact en
    · refine rs_ym_t hq hhq (br_t rfl ⟨L + 1, rs_chan_loop hq hL hn en (fun le' ri' hle hri => ⟨?_, ?_⟩) L 0 le (by omega) (fun x hx => absurd hx (Nat.not_lt_zero _))⟩)
      · refine congrArg nI (rs_D_congr L n (fun x hx => ?_) (fun x hx => ?_))
        · rw [hle x hx]; exact (rs_gl_hi x).symm
        · rw [hri x hx, rs_gl_lo (by omega), Nat.mul_comm q 10]
      · exact ⟨g, L, nI L, nI n, t, h, p, ln, T, le', ri', tb', rfl, rfl, J⟩
  · exact rs_xh_f b (br_t rfl (rs_ym_f b (br_f (by decide) ⟨rfl, I0⟩)))
end
