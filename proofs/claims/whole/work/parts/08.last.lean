theorem i_vc_distance {k : Nat} {u : SX} {v : SY} (I : i_Rel k u v) (hk : k + 3 ≤ 1536) (v1 : Int32) (v2 : Int32) : wpX_distance (fun r u' => wpY_distance (fun r' v' => r' = r ∧ i_Rel (k + 3) u' v') v v1 v2) u v1 v2 := by
  have I0 := I
  obtain ⟨g, L, ll, rl, t, h, p, ln, T, le, ri, tb, rfl, rfl, J⟩ := I
  unfold wpX_distance wpY_distance
  dsimp only
  by_cases a : rs_H h v1
  · obtain ⟨r, hr, rfl, hh⟩ := a
    by_cases b : rs_H h v2
    · obtain ⟨q, hq, rfl, hhq⟩ := b
      obtain ⟨m, hm, em⟩ := J.2.2.2.1 r
      obtain ⟨n, hn, en⟩ := J.2.2.2.1 q
      refine rs_xh_t hr hh (br_f (by decide) (rs_xh_t hq hhq (br_f (by decide) (rs_textD (m := m) (n := n) (by omega) (by omega) hm hn ?_ ?_ (fun tb' => ?_)))))
      · rw [pk_un (by omega)]; exact em
      · rw [pk_un (by omega)]; exact en
      · refine rs_ym_t hr hh (br_t rfl (rs_ym_t hq hhq (br_t rfl ⟨vp_in_nI hr (by decide), nm_r (e' := nI m) ?_ ⟨m + 1, rs_dist_loop hr hq hm hn en (fun le' ri' hle hri => ⟨?_, ?_⟩) m 0 le (by omega) (fun x hx => absurd hx (Nat.not_lt_zero _))⟩⟩)))
        · rw [nI_clamp (by omega)]; exact em
        · refine congrArg nI (rs_D_congr m n (fun x hx => ?_) (fun x hx => ?_))
          · rw [hle x hx, rs_gl_lo (by omega), Nat.mul_comm r 10]
          · rw [hri x hx, rs_gl_lo (by omega), Nat.mul_comm q 10]
        · exact ⟨g, L, nI m, nI n, t, h, p, ln, T, le', ri', tb', rfl, rfl, J⟩
    · exact rs_xh_t hr hh (br_f (by decide) (rs_xh_f b (br_t rfl (rs_ym_t hr hh (br_t rfl (rs_ym_f b (br_f (by decide) ⟨rfl, I0⟩)))))))
  · exact rs_xh_f a (br_t rfl (rs_ym_f a (br_f (by decide) ⟨rfl, I0⟩)))
theorem i_vc_changed {k : Nat} {u : SX} {v : SY} (I : i_Rel k u v) (hk : k + 3 ≤ 1536) (v1 : Int32) : wpX_changed (fun r u' => wpY_changed (fun r' v' => r' = r ∧ i_Rel (k + 3) u' v') v v1) u v1 := by
  have I0 := I
  obtain ⟨g, L, ll, rl, t, h, p, ln, T, le, ri, tb, rfl, rfl, J⟩ := I
  unfold wpX_changed wpY_changed
  dsimp only
  by_cases b : rs_H h v1
  · obtain ⟨q, hq, rfl, hhq⟩ := b
    obtain ⟨n, hn, en⟩ := J.2.2.2.1 q
    have hL := J.2.1
    refine rs_xh_t hq hhq (br_f (by decide) (rs_textD (o := 40) (m := L) (n := n) (by omega) (by omega) hL hn pk_us ?_ (fun tb' => ?_)))
    · rw [pk_un (by omega)]; exact en
    · refine rs_ym_t hq hhq (br_t rfl ⟨L + 1, rs_chan_loop hq hL hn en (fun le' ri' hle hri => ⟨?_, ?_⟩) L 0 le (by omega) (fun x hx => absurd hx (Nat.not_lt_zero _))⟩)
      · refine congrArg nI (rs_D_congr L n (fun x hx => ?_) (fun x hx => ?_))
        · rw [hle x hx]; exact (rs_gl_hi x).symm
        · rw [hri x hx, rs_gl_lo (by omega), Nat.mul_comm q 10]
      · exact ⟨g, L, nI L, nI n, t, h, p, ln, T, le', ri', tb', rfl, rfl, J⟩
  · exact rs_xh_f b (br_t rfl (rs_ym_f b (br_f (by decide) ⟨rfl, I0⟩)))
