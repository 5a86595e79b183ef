section
theorem pk_us {f : Nat → Int32} {k : Nat} {x : Int32} : upd f k x k = x := if_pos rfl
theorem pk_un {f : Nat → Int32} {k j : Nat} {x : Int32} (h : j ≠ k) : upd f k x j = f j := if_neg h
theorem pk_sub {a b : Nat} (h : b ≤ a) : nI a - nI b = nI (a - b) := by
  obtain ⟨c, rfl⟩ : ∃ c, a = c + b := ⟨a - b, by omega⟩
  rw [← nI_add, Int32.add_sub_cancel, Nat.add_sub_cancel]
theorem pk_m1 (n : Nat) : nI (n + 1) + (-1) = nI n := by
  rw [← nI_1, Int32.add_assoc, show (1 : Int32) + (-1) = 0 from rfl, Int32.add_zero]
theorem pk_mul (a b : Nat) : nI a * nI b = nI (a * b) := (Int32.ofNat_mul a b).symm
theorem pk_le {x y : Int32} {A B : Prop} (a b : Nat) (f : a ≤ b → A) (g : b < a → B) (hx : x = nI a := by rfl) (hy : y = nI b := by rfl) (ha : a < 2 ^ 31 := by omega) (hb : b < 2 ^ 31 := by omega) : (x ≤ y → A) ∧ (¬ x ≤ y → B) := by
  subst hx hy
  rw [nI_leI ha hb]
  exact ⟨f, fun z => g (by omega)⟩
theorem pk_lt {x y : Int32} {A B : Prop} (a b : Nat) (f : a < b → A) (g : b ≤ a → B) (hx : x = nI a := by rfl) (hy : y = nI b := by rfl) (ha : a < 2 ^ 31 := by omega) (hb : b < 2 ^ 31 := by omega) : (x < y → A) ∧ (¬ x < y → B) := by
  subst hx hy
  rw [nI_ltI ha hb]
  exact ⟨f, fun z => g (by omega)⟩
theorem pk_eq {x y : Int32} {A B : Prop} (a b : Nat) (f : a = b → A) (g : a ≠ b → B) (hx : x = nI a := by rfl) (hy : y = nI b := by rfl) (ha : a < 2 ^ 31 := by omega) (hb : b < 2 ^ 31 := by omega) : (x = y → A) ∧ (¬ x = y → B) := by
  subst hx hy
  rw [nI_eq ha hb]
  exact ⟨f, g⟩
theorem pk_in {x : Int32} (n N : Nat) (h : n < N) (hx : x = nI n := by rfl) (hN : N < 2 ^ 31 := by omega) : vp_in x N := by
  subst hx
  exact vp_in_nI h hN
theorem pk_cl {x : Int32} (n : Nat) (hx : x = nI n := by rfl) (h : n < 2 ^ 31 := by omega) : x.toNatClampNeg = n := by
  subst hx
  exact nI_clamp h
theorem pk_tn {n : Nat} (h : n < 2 ^ 32) : (nI n).toBitVec.toNat = n := Nat.mod_eq_of_lt h
theorem pk_and (x : Int32) {m : Int32} (k : Nat) (hm : m.toBitVec.toNat = 2 ^ k - 1) : x &&& m = nI (x.toBitVec.toNat % 2 ^ k) := by
  apply Int32.toBitVec_inj.mp
  apply BitVec.eq_of_toNat_eq
  rw [Int32.toBitVec_and, BitVec.toNat_and, hm, Nat.and_two_pow_sub_one_eq_mod]
  show _ = (BitVec.ofNat 32 _).toNat
  rw [BitVec.toNat_ofNat]
  exact (Nat.mod_eq_of_lt (Nat.lt_of_le_of_lt (Nat.mod_le _ _) x.toBitVec.isLt)).symm
theorem pk_andN {n : Nat} (h : n < 2 ^ 32) {m : Int32} (k : Nat) (hm : m.toBitVec.toNat = 2 ^ k - 1) : nI n &&& m = nI (n % 2 ^ k) := by
  rw [pk_and _ k hm, pk_tn h]
theorem pk_shl (a s : Int32) (k : Nat) (hs : (s.toBitVec.smod 32).toNat = k) : (a <<< s).toBitVec.toNat = a.toBitVec.toNat * 2 ^ k % 2 ^ 32 := by
  show (a.toBitVec <<< (s.toBitVec.smod 32).toNat).toNat = _
  rw [hs, BitVec.toNat_shiftLeft, Nat.shiftLeft_eq]
theorem pk_shlN {n : Nat} (s : Int32) (k : Nat) (hs : (s.toBitVec.smod 32).toNat = k) (h : n * 2 ^ k < 2 ^ 32) : nI n <<< s = nI (n * 2 ^ k) := by
  apply Int32.toBitVec_inj.mp
  apply BitVec.eq_of_toNat_eq
  have hn : n < 2 ^ 32 := Nat.lt_of_le_of_lt (Nat.le_mul_of_pos_right n (Nat.two_pow_pos k)) h
  rw [pk_shl _ _ k hs, pk_tn hn, pk_tn h, Nat.mod_eq_of_lt h]
theorem pk_shr (a s : Int32) (k : Nat) (hs : (s.toBitVec.smod 32).toNat = k) : (a >>> s).toInt = a.toInt >>> k := by
  show (a.toBitVec.sshiftRight (s.toBitVec.smod 32).toNat).toInt = _
  rw [hs, BitVec.toInt_sshiftRight]
  rfl
theorem pk_shrN {n : Nat} (h : n < 2 ^ 31) (s : Int32) (k : Nat) (hs : (s.toBitVec.smod 32).toNat = k) : nI n >>> s = nI (n / 2 ^ k) := by
  apply Int32.toInt_inj.mp
  have h2 : n / 2 ^ k ≤ n := Nat.div_le_self _ _
  rw [pk_shr _ _ k hs, nI_toInt h, nI_toInt (by omega), Int.shiftRight_eq_div_pow]
  rfl
theorem rs_sl : ∀ n, n < 32 → ((nI n &&& 31).toBitVec.smod 32).toNat = n := by decide +kernel
/-- revisions' texts and the working text in one array -/
def rs_gl (T t : Nat → Int32) : Nat → Int32 := fun j => if j < 400 then T j else t (j - 400)
/-- how many of the first n are held -/
def rs_cnt (h : Nat → Int32) : Nat → Nat
  | 0 => 0
  | n + 1 => rs_cnt h n + (if h n = 0 then 0 else 1)
def rs_I (g L : Nat) (h p ln : Nat → Int32) : Prop :=
  g ≤ 40 ∧ L ≤ 10 ∧ rs_cnt h 40 ≤ 12 ∧ (∀ j, ∃ m, m ≤ 10 ∧ ln j = nI m) ∧
  (∀ r, h r ≠ 0 → r < g ∧ (p r = -2 ∨ ∃ q, q < r ∧ h q ≠ 0 ∧ p r = nI q))
def i_Rel (_ : Nat) (u : SX) (v : SY) : Prop :=
  ∃ (g L : Nat) (ll rl : Int32) (t h p ln T le ri tb : Nat → Int32),
    u = (nI (rs_cnt h 40), nI g, rs_gl T t, upd ln 40 (nI L), p, h, tb) ∧
    v = (nI L, nI g, ll, rl, t, h, p, ln, T, le, ri) ∧ rs_I g L h p ln
theorem i_up {k : Nat} {u : SX} {v : SY} (h : i_Rel k u v) : i_Rel (k + 3) u v := h
theorem rs_u0 : upd (fun _ => 0) 40 (nI 0) = (fun _ => 0) := by
  funext j
  show (if j = 40 then nI 0 else 0) = 0
  split
  · rfl
  · rfl
theorem rs_gl0 : rs_gl (fun _ => 0) (fun _ => 0) = (fun _ => 0) := by
  funext j
  show (if j < 400 then (0 : Int32) else 0) = 0
  split
  · rfl
  · rfl
theorem rs_cnt0 : ∀ n, rs_cnt (fun _ => 0) n = 0 := by
  intro n
  induction n with
  | zero => rfl
  | succ n ih => show rs_cnt (fun _ => 0) n + (if (0 : Int32) = 0 then 0 else 1) = 0; rw [ih, if_pos rfl]
theorem i_vc0 : wpX_init (fun u => wpY_init (fun v => i_Rel 0 u v)) := by
  refine ⟨0, 0, 0, 0, fun _ => 0, fun _ => 0, fun _ => 0, fun _ => 0, fun _ => 0, fun _ => 0, fun _ => 0, fun _ => 0, ?_, rfl, ?_⟩
  · rw [rs_u0, rs_gl0, rs_cnt0]; rfl
  · refine ⟨by omega, by omega, by rw [rs_cnt0]; omega, fun _ => ⟨0, by omega, rfl⟩, fun r hr => absurd rfl hr⟩
theorem rs_gl_hi {T t : Nat → Int32} (i : Nat) : rs_gl T t (400 + i) = t i := by
  show (if 400 + i < 400 then _ else t (400 + i - 400)) = t i
  rw [if_neg (by omega), Nat.add_sub_cancel_left]
theorem rs_gl_lo {T t : Nat → Int32} {j : Nat} (h : j < 400) : rs_gl T t j = T j := if_pos h
theorem rs_gu_hi {T t : Nat → Int32} (i : Nat) (v : Int32) : upd (rs_gl T t) (400 + i) v = rs_gl T (upd t i v) := by
  funext j
  simp only [upd, rs_gl]
  by_cases h1 : j < 400
  · have h2 : ¬ j = 400 + i := by omega
    rw [if_neg h2, if_pos h1, if_pos h1]
  · by_cases h2 : j = 400 + i
    · have h3 : j - 400 = i := by omega
      rw [if_pos h2, if_neg h1, if_pos h3]
    · have h3 : ¬ j - 400 = i := by omega
      rw [if_neg h2, if_neg h1, if_neg h1, if_neg h3]
theorem rs_gu_lo {T t : Nat → Int32} {i : Nat} (h : i < 400) (v : Int32) : upd (rs_gl T t) i v = rs_gl (upd T i v) t := by
  funext j
  simp only [upd, rs_gl]
  by_cases h1 : j = i
  · have h2 : j < 400 := by omega
    rw [if_pos h1, if_pos h2, if_pos h1]
  · rw [if_neg h1, if_neg h1]
theorem rs_uu {f : Nat → Int32} {k : Nat} {x y : Int32} : upd (upd f k x) k y = upd f k y := by
  funext j
  simp only [upd]
  split
  · rfl
  · rfl
theorem rs_uc {f : Nat → Int32} {k l : Nat} {x y : Int32} (h : l ≠ k) : upd (upd f k x) l y = upd (upd f l y) k x := by
  funext j
  simp only [upd]
  by_cases h1 : j = l
  · have h2 : ¬ j = k := by omega
    rw [if_pos h1, if_neg h2, if_pos h1]
  · rw [if_neg h1, if_neg h1]
theorem rs_b1 : vp_nar .boolean 1 = 1 := by rfl
theorem rs_b0 : vp_nar .boolean 0 = 0 := by rfl
theorem rs_400 (i : Nat) : (400 : Int32) + nI i = nI (400 + i) := nI_add 400 i
theorem rs_400p (i : Nat) : (400 : Int32) + nI i + 1 = nI (400 + (i + 1)) := by rw [rs_400, nI_1]; rfl
theorem rs_400m (i : Nat) : (400 : Int32) + nI (i + 1) - 1 = nI (400 + i) := by
  rw [show (400 : Int32) + nI (i + 1) = nI (400 + i + 1) from rs_400 (i + 1), nI_pred]
/-- is x the number of a held revision -/
def rs_H (h : Nat → Int32) (x : Int32) : Prop := ∃ r, r < 40 ∧ x = nI r ∧ h r ≠ 0
theorem rs_xh_t {post : Int32 → Prop} {a b : Int32} {c d p h tb : Nat → Int32} {r : Nat} (hr : r < 40) (hh : h r ≠ 0) (hp : post 1) : wpX_isHeld post (a, b, c, d, p, h, tb) (nI r) :=
  br_f (nI_pos (by omega)) (br_f (nI_ge (b := 40) hr (by decide)) ⟨vp_in_nI hr (by decide), br_f (by rw [nI_clamp (by omega)]; exact hh) hp⟩)
theorem rs_xh_f {post : Int32 → Prop} {a b : Int32} {c d p h tb : Nat → Int32} {x : Int32} (hx : ¬ rs_H h x) (hp : post 0) : wpX_isHeld post (a, b, c, d, p, h, tb) x := by
  refine br_c (fun _ => hp) (fun h0 => br_c (fun _ => hp) (fun h1 => ?_))
  obtain ⟨j, hj, rfl⟩ := nI_of h0
  have h2 : j < 40 := by
    apply Classical.byContradiction
    intro hc
    exact h1 (nI_le (a := 40) (by omega) hj)
  refine ⟨vp_in_nI h2 (by decide), br_c (fun _ => hp) (fun h3 => ?_)⟩
  rw [nI_clamp hj] at h3
  exact absurd ⟨j, h2, rfl, h3⟩ hx
theorem rs_ym_t {post : Int32 → Prop} {a b c d : Int32} {t h p ln T le ri : Nat → Int32} {r : Nat} (hr : r < 40) (hh : h r ≠ 0) (hp : post 0) : wpY_missing post (a, b, c, d, t, h, p, ln, T, le, ri) (nI r) :=
  br_f (nI_pos (by omega)) (br_f (nI_nlt (b := r) (a := 39) (by omega) (by decide)) ⟨vp_in_nI hr (by decide), br_f (by rw [nI_clamp (by omega)]; exact hh) hp⟩)
theorem rs_ym_f {post : Int32 → Prop} {a b c d : Int32} {t h p ln T le ri : Nat → Int32} {x : Int32} (hx : ¬ rs_H h x) (hp : post 1) : wpY_missing post (a, b, c, d, t, h, p, ln, T, le, ri) x := by
  refine br_c (fun _ => hp) (fun h0 => br_c (fun _ => hp) (fun h1 => ?_))
  obtain ⟨j, hj, rfl⟩ := nI_of h0
  have h2 : j < 40 := by
    apply Classical.byContradiction
    intro hc
    exact h1 (nI_lt (a := 39) (by omega) hj)
  refine ⟨vp_in_nI h2 (by decide), br_c (fun _ => hp) (fun h3 => ?_)⟩
  rw [nI_clamp hj] at h3
  exact absurd ⟨j, h2, rfl, h3⟩ hx
end
