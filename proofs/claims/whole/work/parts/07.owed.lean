/-! the relation, and what is owed -/
section
variable {p : Nat} {w s k a b : Nat → Nat}
theorem rt_xcf {post : Int32 → Prop} {W : Nat} (hW : W < 512) (h3 : ¬ W % 4 = 3) (h : post 1) : wpX_isConditionForm post (nI W) :=
  rt_inle (n := 512) (by decide) hW (rt_xkind hW (br_f (nI_ge (b := 3) (by omega) (by decide)) h))
theorem rt_xcf3 {post : Int32 → Prop} {W : Nat} (hW : W < 512) (h3 : W % 4 = 3) (h : post 0) : wpX_isConditionForm post (nI W) :=
  rt_inle (n := 512) (by decide) hW (rt_xkind hW (br_t (nI_le (a := 3) (by omega) (by omega)) h))
theorem rt_xcfN {post : Int32 → Prop} {x : Int32} (hx : rt_bad x 512) (h : post 0) : wpX_isConditionForm post x :=
  rt_badle (n := 512) (by decide) hx h
theorem rt_yadd {post : Int32 → SY → Prop} {bd : Nat → Int32} {K A B : Nat} (hK : K < 3) (hA : A < 4) (hB : B < 4) (h1 : rt_lf p = 7 → post (-2) (rt_th p, rt_f k, rt_f a, rt_f b, rt_f s, rt_f w, bd)) (h2 : rt_lf p < 7 → post (nI (rt_lf p)) (rt_th (rt_put p (rt_lf p)), rt_f (rt_up k (rt_lf p) K), rt_f (rt_up a (rt_lf p) A), rt_f (rt_up b (rt_lf p) B), rt_f s, rt_f w, bd)) : wpY_add post (rt_th p, rt_f k, rt_f a, rt_f b, rt_f s, rt_f w, bd) (nI K) (nI A) (nI B) := by
  unfold wpY_add
  dsimp only
  exact rt_yff hK hA hB (br_f (by decide) ⟨_, rt_yal 7 0 rfl h1 h2⟩)
theorem rt_yrem (H : rt_ok p w s k a b) {post : Int32 → SY → Prop} {bd : Nat → Int32} {f : Nat} (hf : f < 7) (ht : p.testBit f = true) (h : post 1 (rt_th (rt_rm p f), rt_f k, rt_f a, rt_f b, rt_f s, rt_f w, bd)) : wpY_remove post (rt_th p, rt_f k, rt_f a, rt_f b, rt_f s, rt_f w, bd) (nI f) := by
  unfold wpY_remove
  dsimp only
  have hv : vp_in (nI f) 7 := vp_in_nI hf (by decide)
  refine rt_inlt (n := 6) (by decide) (by omega) ⟨hv, rt_thr (by omega) (fun e => ?_) (fun e => ⟨hv, ?_⟩)⟩
  · rw [ht] at e
    cases e
  · rw [nI_clamp (show f < 2 ^ 31 by omega), rt_nar0, rt_thrm f (rt_hp H)]
    exact nm_e h
theorem rt_tput (p f : Nat) : (rt_put p f).testBit f = true := by
  unfold rt_put
  rw [Nat.testBit_or, Nat.testBit_two_pow]
  simp
theorem rt_updc (W r : Nat) : upd (rt_f w) (nI r * 3 + nI (s r)).toNatClampNeg (nI W) = upd (rt_f w) ((3 : Int32) * nI r + nI (s r)).toNatClampNeg (nI W) := by
  rw [rt_ix, rt_iy]
theorem rt_upds {r : Nat} (hr : r < 3) : upd (rt_f s) (nI r).toNatClampNeg (nI (s r) + 1) = rt_f (rt_up s r (s r + 1)) := by
  rw [nI_clamp (by omega), nI_1, rt_upd]
theorem rt_updw {r W : Nat} (H : rt_ok p w s k a b) (hr : r < 3) : upd (rt_f w) (nI r * 3 + nI (s r)).toNatClampNeg (nI W) = rt_f (rt_up w (3 * r + s r) W) := by
  have := rt_hs H r
  rw [rt_ix, nI_clamp (by omega), rt_upd]
theorem rt_updwy {r W : Nat} (H : rt_ok p w s k a b) (hr : r < 3) : upd (rt_f w) ((3 : Int32) * nI r + nI (s r)).toNatClampNeg (nI W) = rt_f (rt_up w (3 * r + s r) W) := by
  have := rt_hs H r
  rw [rt_iy, nI_clamp (by omega), rt_upd]
theorem rt_updd {r : Nat} (hr : r < 3) (h : ¬ s r = 0) : upd (rt_f s) (nI r).toNatClampNeg (nI (s r) - 1) = rt_f (rt_up s r (s r - 1)) := by
  have e : nI (s r) - 1 = nI (s r - 1) := pk_sub (b := 1) (by omega)
  rw [nI_clamp (by omega), e, rt_upd]
end
/-- both sides hold the same kinds, values, conditions and sizes; the component's bits are the reference's table -/
def i_Rel (_ : Nat) (u : SX) (v : SY) : Prop := ∃ (p : Nat) (w s k a b : Nat → Nat) (bd : Nat → Int32), rt_ok p w s k a b ∧ u = (nI p, rt_f w, rt_f s, rt_f k, rt_f a, rt_f b) ∧ v = (rt_th p, rt_f k, rt_f a, rt_f b, rt_f s, rt_f w, bd)
theorem rt_rel {n p : Nat} {w s k a b : Nat → Nat} {bd : Nat → Int32} (H : rt_ok p w s k a b) : i_Rel n (nI p, rt_f w, rt_f s, rt_f k, rt_f a, rt_f b) (rt_th p, rt_f k, rt_f a, rt_f b, rt_f s, rt_f w, bd) := ⟨p, w, s, k, a, b, bd, H, rfl, rfl⟩
theorem i_up {k : Nat} {u : SX} {v : SY} (h : i_Rel k u v) : i_Rel (k + 5) u v := h
theorem i_vc0 : wpX_init (fun u => wpY_init (fun v => i_Rel 0 u v)) := by
  refine ⟨0, fun _ => 0, fun _ => 0, fun _ => 0, fun _ => 0, fun _ => 0, fun _ => 0, ⟨by decide, fun _ => (show 0 < 512 by decide), fun _ => (show 0 < 4 by decide), fun _ => (show 0 < 4 by decide), fun _ => (show 0 < 4 by decide), fun _ => (show 0 < 4 by decide)⟩, rfl, ?_⟩
  rw [← rt_th0]
  rfl
theorem i_vc_condition {k : Nat} {u : SX} {v : SY} (I : i_Rel k u v) (hk : k + 5 ≤ 2560) (v1 : Int32) (v2 : Int32) : wpX_condition (fun r u' => wpY_condition (fun r' v' => r' = r ∧ i_Rel (k + 5) u' v') v v1 v2) u v1 v2 := by
  obtain ⟨p, w, s, k, a, b, bd, H, rfl, rfl⟩ := I
  unfold wpX_condition wpY_condition
  dsimp only
  rcases rt_dec v1 3 with c | ⟨r, hr, hr2, rfl⟩
  · exact rt_xruleN c (br_t rfl (rt_yruleN c (br_t rfl ⟨rfl, rt_rel H⟩)))
  · have hs := rt_hs H r
    rw [rt_rd (g := s) hr2]
    refine rt_xrule hr (br_f (by decide) ?_)
    rcases rt_dec v2 512 with c | ⟨W, hW, hW2, rfl⟩
    · exact rt_xcfN c (br_t rfl (rt_yrule hr (br_f (by decide) (rt_badlt (n := 511) (by decide) c ⟨rfl, rt_rel H⟩))))
    · by_cases h3 : W % 4 = 3
      · exact rt_xcf3 hW h3 (br_t rfl (rt_yrule hr (br_f (by decide) (rt_inlt (n := 511) (by decide) (by omega) (br_t (by rw [rt_kd hW, h3]; rfl) ⟨rfl, rt_rel H⟩)))))
      · have hv : vp_in (nI r) 3 := vp_in_nI hr (by decide)
        have n3 : ¬ nI W &&& 3 = 3 := by rw [rt_kd hW]; exact rt_ne (b := 3) (by omega) (by decide) h3
        by_cases hf : s r < 3
        · have H' : rt_ok p (rt_up w (3 * r + s r) W) (rt_up s r (s r + 1)) k a b := ⟨rt_hp H, rt_uplt (rt_hw H) hW, rt_uplt (rt_hs H) (by omega), rt_hk H, rt_ha H, rt_hb H⟩
          refine rt_xcf hW h3 (br_f (by decide) ⟨hv, br_t (nI_lt (b := 3) hf (by decide)) ⟨hv, pk_in (3 * r + s r) 9 (by omega) (rt_ix r (s r)), nm_r (rt_updw H hr) ⟨hv, hv, nm_r (rt_upds hr) ⟨hv, ?_⟩⟩⟩⟩)
          exact rt_yrule hr (br_f (by decide) (rt_inlt (n := 511) (by decide) (by omega) (br_f n3 ⟨hv, br_t (nI_lt (b := 3) hf (by decide)) ⟨hv, pk_in (3 * r + s r) 9 (by omega) (rt_iy r (s r)), nm_r (rt_updwy H hr) ⟨hv, hv, nm_r (rt_upds hr) ⟨hv, rfl, rt_rel H'⟩⟩⟩⟩)))
        · exact rt_xcf hW h3 (br_f (by decide) ⟨hv, br_f (nI_nlt (b := 3) (by omega) (by omega)) (rt_yrule hr (br_f (by decide) (rt_inlt (n := 511) (by decide) (by omega) (br_f n3 ⟨hv, br_f (nI_nlt (b := 3) (by omega) (by omega)) ⟨rfl, rt_rel H⟩⟩))))⟩)
theorem i_vc_drop {k : Nat} {u : SX} {v : SY} (I : i_Rel k u v) (hk : k + 5 ≤ 2560) (v1 : Int32) : wpX_drop (fun r u' => wpY_drop (fun r' v' => r' = r ∧ i_Rel (k + 5) u' v') v v1) u v1 := by
  obtain ⟨p, w, s, k, a, b, bd, H, rfl, rfl⟩ := I
  unfold wpX_drop wpY_drop
  dsimp only
  rcases rt_dec v1 3 with c | ⟨r, hr, hr2, rfl⟩
  · exact rt_xruleN c (br_t rfl (rt_yruleN c (br_t rfl ⟨rfl, rt_rel H⟩)))
  · have hs := rt_hs H r
    have hv : vp_in (nI r) 3 := vp_in_nI hr (by decide)
    rw [rt_rd (g := s) hr2]
    by_cases h0 : s r = 0
    · have e : nI (s r) = 0 := by rw [h0]; rfl
      exact rt_xrule hr (br_f (by decide) ⟨hv, br_t e (rt_yrule hr (br_f (by decide) ⟨hv, br_t e ⟨rfl, rt_rel H⟩⟩))⟩)
    · have e : ¬ nI (s r) = 0 := nI_ne0 (by omega) (by omega)
      have H' : rt_ok p w (rt_up s r (s r - 1)) k a b := ⟨rt_hp H, rt_hw H, rt_uplt (rt_hs H) (by omega), rt_hk H, rt_ha H, rt_hb H⟩
      exact rt_xrule hr (br_f (by decide) ⟨hv, br_f e ⟨hv, hv, nm_r (rt_updd hr h0) ⟨hv, rt_yrule hr (br_f (by decide) ⟨hv, br_f e ⟨hv, hv, nm_r (rt_updd hr h0) ⟨hv, rfl, rt_rel H'⟩⟩⟩)⟩⟩⟩)
theorem rt_lcx {p : Nat} (hp : p < 128) : (rt_lf p = 7 ∧ p = 127 ∧ rt_lc (rt_lf p) = -1) ∨ (rt_lf p < 7 ∧ ¬ p = 127 ∧ rt_lc (rt_lf p) = nI (rt_lf p)) := by
  obtain ⟨h1, h2, _⟩ := rt_lf7 p hp
  by_cases z : rt_lf p = 7
  · exact Or.inl ⟨z, h2.mp z, if_pos z⟩
  · exact Or.inr ⟨by omega, fun e => z (h2.mpr e), if_neg z⟩
theorem rt_ff (x y z : Int32) : (rt_bad x 3 ∨ rt_bad y 4 ∨ rt_bad z 4) ∨ ∃ K A B : Nat, K < 3 ∧ A < 4 ∧ B < 4 ∧ x = nI K ∧ y = nI A ∧ z = nI B := by
  rcases rt_dec x 3 with c | ⟨K, hK, _, e1⟩
  · exact Or.inl (Or.inl c)
  · rcases rt_dec y 4 with c | ⟨A, hA, _, e2⟩
    · exact Or.inl (Or.inr (Or.inl c))
    · rcases rt_dec z 4 with c | ⟨B, hB, _, e3⟩
      · exact Or.inl (Or.inr (Or.inr c))
      · exact Or.inr ⟨K, A, B, hK, hA, hB, e1, e2, e3⟩
theorem i_vc_add {k : Nat} {u : SX} {v : SY} (I : i_Rel k u v) (hk : k + 5 ≤ 2560) (v1 : Int32) (v2 : Int32) (v3 : Int32) : wpX_add (fun r u' => wpY_add (fun r' v' => r' = r ∧ i_Rel (k + 5) u' v') v v1 v2 v3) u v1 v2 v3 := by
  obtain ⟨p, w, s, k, a, b, bd, H, rfl, rfl⟩ := I
  unfold wpX_add
  dsimp only
  rcases rt_ff v1 v2 v3 with c | ⟨K, A, B, hK, hA, hB, rfl, rfl, rfl⟩
  · refine rt_xffN c (br_t rfl ?_)
    unfold wpY_add
    dsimp only
    exact rt_yffN c (br_t rfl ⟨rfl, rt_rel H⟩)
  · refine rt_xff hK hA hB (br_f (by decide) (rt_xlf H ?_))
    rcases rt_lcx (rt_hp H) with ⟨z, z2, e⟩ | ⟨z, z2, e⟩
    · rw [e]
      exact br_t rfl (rt_yadd hK hA hB (fun _ => ⟨rfl, rt_rel H⟩) (fun y => absurd z (by omega)))
    · rw [e]
      exact br_f (rt_m1 (by omega)) (rt_xput H z (rt_yadd hK hA hB (fun y => absurd z (by omega)) (fun _ => ⟨rfl, rt_rel (rt_okput H z hK hA hB)⟩)))
theorem i_vc_remove {k : Nat} {u : SX} {v : SY} (I : i_Rel k u v) (hk : k + 5 ≤ 2560) (v1 : Int32) : wpX_remove (fun r u' => wpY_remove (fun r' v' => r' = r ∧ i_Rel (k + 5) u' v') v v1) u v1 := by
  obtain ⟨p, w, s, k, a, b, bd, H, rfl, rfl⟩ := I
  unfold wpX_remove
  dsimp only
  rcases rt_dec v1 7 with c | ⟨f, hf, hf2, rfl⟩
  · refine rt_xfactN c (br_t rfl ?_)
    unfold wpY_remove
    dsimp only
    exact rt_badlt (n := 6) (by decide) c ⟨rfl, rt_rel H⟩
  · refine rt_xfact H (by omega) (rt_bb (fun e => ?_) (fun e => ?_))
    · unfold wpY_remove
      dsimp only
      refine rt_inlt (n := 6) (by decide) (by omega) ⟨vp_in_nI hf (by decide), rt_thr hf2 (fun _ => ⟨rfl, rt_rel H⟩) (fun e2 => ?_)⟩
      rw [e] at e2
      cases e2
    · exact rt_xtake H hf (rt_yrem H hf e ⟨rfl, rt_rel (rt_okrm H hf)⟩)
theorem i_vc_facts {k : Nat} {u : SX} {v : SY} (I : i_Rel k u v) (hk : k + 5 ≤ 2560) : wpX_facts (fun r => wpY_facts (fun r' => r' = r ∧ i_Rel (k + 5) u v) v) u := by
  obtain ⟨p, w, s, k, a, b, bd, H, rfl, rfl⟩ := I
  unfold wpX_facts
  dsimp only
  exact rt_yfs H ⟨rfl, rt_rel H⟩
theorem i_vc_matches {k : Nat} {u : SX} {v : SY} (I : i_Rel k u v) (hk : k + 5 ≤ 2560) (v1 : Int32) : wpX_matches (fun r => wpY_matches (fun r' v' => r' = r ∧ i_Rel (k + 5) u v') v v1) u v1 := by
  obtain ⟨p, w, s, k, a, b, bd, H, rfl, rfl⟩ := I
  unfold wpX_matches
  dsimp only
  rcases rt_dec v1 3 with c | ⟨r, hr, hr2, rfl⟩
  · refine rt_xruleN c (br_t rfl ?_)
    unfold wpY_matches
    dsimp only
    exact rt_yruleN c (br_t rfl ⟨rfl, rt_rel H⟩)
  · exact rt_xrule hr (br_f (by decide) ⟨vp_in_nI hr (by decide), rt_xct H (rt_rd hr2) hr (rt_hs H r) (rt_ymt H hr (fun _ => ⟨rfl, rt_rel H⟩))⟩)
theorem i_vc_match {k : Nat} {u : SX} {v : SY} (I : i_Rel k u v) (hk : k + 5 ≤ 2560) (v1 : Int32) (v2 : Int32) : wpX_match (fun r => wpY_match (fun r' v' => r' = r ∧ i_Rel (k + 5) u v') v v1 v2) u v1 v2 := by
  obtain ⟨p, w, s, k, a, b, bd, H, rfl, rfl⟩ := I
  unfold wpX_match wpY_match
  dsimp only
  rcases rt_dec v1 3 with c | ⟨r, hr, hr2, rfl⟩
  · exact rt_xruleN c (br_t rfl ⟨1, br_f (by decide) (rt_yruleN c (br_t rfl ⟨rfl, rt_rel H⟩))⟩)
  · exact rt_xrule hr (br_f (by decide) ⟨_, rt_xml H hr 512 0 0 rfl ⟨_, rt_yml H hr 512 0 0 bd rfl (fun _ => ⟨rfl, rt_rel H⟩)⟩⟩)
theorem i_vc_ready {k : Nat} {u : SX} {v : SY} (I : i_Rel k u v) (hk : k + 5 ≤ 2560) : wpX_ready (fun r => wpY_ready (fun r' v' => r' = r ∧ i_Rel (k + 5) u v') v) u := by
  obtain ⟨p, w, s, k, a, b, bd, H, rfl, rfl⟩ := I
  unfold wpX_ready wpY_ready
  dsimp only
  exact ⟨_, rt_xrl H ⟨_, rt_yrl H (fun _ => ⟨rfl, rt_rel H⟩) 3 0 bd rfl⟩ 3 0 rfl⟩
theorem i_vc_uses {k : Nat} {u : SX} {v : SY} (I : i_Rel k u v) (hk : k + 5 ≤ 2560) (v1 : Int32) : wpX_uses (fun r => wpY_uses (fun r' v' => r' = r ∧ i_Rel (k + 5) u v') v v1) u v1 := by
  obtain ⟨p, w, s, k, a, b, bd, H, rfl, rfl⟩ := I
  unfold wpX_uses wpY_uses
  dsimp only
  rcases rt_dec v1 7 with c | ⟨f, hf, hf2, rfl⟩
  · exact rt_xfactN c (br_t rfl (rt_badlt (n := 6) (by decide) c ⟨rfl, rt_rel H⟩))
  · refine rt_xfact H (by omega) (rt_bb (fun e => ?_) (fun e => ?_))
    · refine rt_inlt (n := 6) (by decide) (by omega) ⟨vp_in_nI hf (by decide), rt_thr hf2 (fun _ => ⟨rfl, rt_rel H⟩) (fun e2 => ?_)⟩
      rw [e] at e2
      cases e2
    · refine ⟨_, rt_xuo H hf ?_ 3 0 rfl⟩
      refine rt_inlt (n := 6) (by decide) (by omega) ⟨vp_in_nI hf (by decide), rt_thr hf2 (fun e2 => ?_) (fun e2 => ⟨_, rt_yul H hf (fun _ => ⟨rfl, rt_rel H⟩) 1536 0 bd rfl⟩)⟩
      rw [e] at e2
      cases e2
theorem i_vc_fitting {k : Nat} {u : SX} {v : SY} (I : i_Rel k u v) (hk : k + 5 ≤ 2560) (v1 : Int32) (v2 : Int32) : wpX_fitting (fun r => wpY_fitting (fun r' => r' = r ∧ i_Rel (k + 5) u v) v v1 v2) u v1 v2 := by
  obtain ⟨p, w, s, k, a, b, bd, H, rfl, rfl⟩ := I
  unfold wpX_fitting wpY_fitting
  dsimp only
  rcases rt_dec v1 3 with c | ⟨r, hr, hr2, rfl⟩
  · exact rt_xruleN c (br_t rfl (rt_yruleN c (br_t rfl ⟨rfl, rt_rel H⟩)))
  · have hs := rt_hs H r
    have hv : vp_in (nI r) 3 := vp_in_nI hr (by decide)
    rw [rt_rd (g := s) hr2]
    refine rt_xrule hr (br_f (by decide) ?_)
    rcases rt_dec v2 (s r) with c | ⟨i, hi, hi2, rfl⟩
    · by_cases h0 : v2 < 0
      · exact br_t h0 (rt_yrule hr (br_f (by decide) (br_t h0 ⟨rfl, rt_rel H⟩)))
      · obtain ⟨j, h1, h2, rfl⟩ := c.resolve_left h0
        have e : ¬ nI j < nI (s r) := nI_nlt h1 h2
        exact br_f h0 ⟨hv, br_f e (rt_yrule hr (br_f (by decide) (br_f h0 ⟨hv, br_f e ⟨rfl, rt_rel H⟩⟩)))⟩
    · have h0 : ¬ nI i < 0 := nI_pos hi2
      have e : nI i < nI (s r) := nI_lt hi (by omega)
      have hW := rt_hw H (3 * r + i)
      refine br_f h0 ⟨hv, br_t e ⟨pk_in (3 * r + i) 9 (by omega) (rt_ix r i), nm_r (rt_rdx (rt_ix r i) (by omega)) ⟨_, rt_xtl H hW ?_ 7 0 rfl⟩⟩⟩
      refine rt_yrule hr (br_f (by decide) (br_f h0 ⟨hv, br_t e ⟨pk_in (3 * r + i) 9 (by omega) (rt_iy r i), nm_r (rt_rdx (rt_iy r i) (by omega)) (nm_r (rt_d1 hW) (nm_r (rt_d2 hW) ⟨_, rt_ytl H hW ?_ 7 0 rfl⟩))⟩⟩))
      exact ⟨rfl, rt_rel H⟩
theorem i_vc_partial {k : Nat} {u : SX} {v : SY} (I : i_Rel k u v) (hk : k + 5 ≤ 2560) (v1 : Int32) (v2 : Int32) : wpX_partial (fun r => wpY_partial (fun r' v' => r' = r ∧ i_Rel (k + 5) u v') v v1 v2) u v1 v2 := by
  obtain ⟨p, w, s, k, a, b, bd, H, rfl, rfl⟩ := I
  unfold wpX_partial wpY_partial
  dsimp only
  rcases rt_dec v1 3 with c | ⟨r, hr, hr2, rfl⟩
  · exact rt_xruleN c (br_t rfl (rt_yruleN c (br_t rfl ⟨rfl, rt_rel H⟩)))
  · have hs := rt_hs H r
    have hv : vp_in (nI r) 3 := vp_in_nI hr (by decide)
    rw [rt_rd (g := s) hr2]
    refine rt_xrule hr (br_f (by decide) ?_)
    rcases rt_dec v2 (s r + 1) with c | ⟨i, hi, hi2, rfl⟩
    · by_cases h0 : v2 < 0
      · exact br_t h0 (rt_yrule hr (br_f (by decide) (br_t h0 ⟨rfl, rt_rel H⟩)))
      · obtain ⟨j, h1, h2, rfl⟩ := c.resolve_left h0
        exact br_f h0 ⟨hv, br_f (nI_ge (by omega) h2) (rt_yrule hr (br_f (by decide) (br_f h0 ⟨hv, br_t (nI_lt (by omega) h2) ⟨rfl, rt_rel H⟩⟩)))⟩
    · have h0 : ¬ nI i < 0 := nI_pos hi2
      exact br_f h0 ⟨hv, br_t (nI_le (by omega) (by omega)) (rt_xct H rfl hr (by omega) (rt_yrule hr (br_f (by decide) (br_f h0 ⟨hv, br_f (nI_nlt (by omega) (by omega)) (rt_yct H rfl hr (by omega) (fun _ => ⟨rfl, rt_rel H⟩))⟩))))⟩
theorem i_vc_effect {k : Nat} {u : SX} {v : SY} (I : i_Rel k u v) (hk : k + 5 ≤ 2560) (v1 : Int32) (v2 : Int32) (v3 : Int32) (v4 : Int32) : wpX_effect (fun r u' => wpY_effect (fun r' v' => r' = r ∧ i_Rel (k + 5) u' v') v v1 v2 v3 v4) u v1 v2 v3 v4 := by
  obtain ⟨p, w, s, k, a, b, bd, H, rfl, rfl⟩ := I
  unfold wpX_effect wpY_effect
  dsimp only
  rcases rt_dec v1 3 with c | ⟨r, hr, hr2, rfl⟩
  · exact rt_xruleN c (br_t rfl (rt_yruleN c (br_t rfl ⟨rfl, rt_rel H⟩)))
  · have hv : vp_in (nI r) 3 := vp_in_nI hr (by decide)
    refine rt_xrule hr (br_f (by decide) ?_)
    rcases rt_ff v2 v3 v4 with c | ⟨K, A, B, hK, hA, hB, rfl, rfl, rfl⟩
    · exact rt_xffN c (br_t rfl (rt_yrule hr (br_f (by decide) (rt_yffN c (br_t rfl ⟨rfl, rt_rel H⟩)))))
    · refine rt_xff hK hA hB (br_f (by decide) (rt_xlf H ?_))
      rcases rt_lcx (rt_hp H) with ⟨z, z2, e⟩ | ⟨z, z2, e⟩
      · rw [e]
        exact br_t rfl (rt_yrule hr (br_f (by decide) (rt_yff hK hA hB (br_f (by decide) (rt_yfs H (br_t (congrArg nI z2) ⟨rfl, rt_rel H⟩))))))
      · rw [e]
        have hp := rt_hp H
        have H' := rt_okput H z hK hA hB
        have hput : (rt_put p (rt_lf p)).testBit (rt_lf p) = true := rt_tput p (rt_lf p)
        refine br_f (rt_m1 (by omega)) ⟨hv, rt_xct H (rt_rd hr2) hr (rt_hs H r) (rt_xput H z ⟨hv, rt_xct H' (rt_rd hr2) hr (rt_hs H' r) (rt_xtake H' z ?_)⟩)⟩
        refine rt_yrule hr (br_f (by decide) (rt_yff hK hA hB (br_f (by decide) (rt_yfs H (br_f (rt_ne (b := 127) (by omega) (by decide) z2) (rt_ymt H hr (fun bd1 => ?_))))))) 
        refine rt_yadd hK hA hB (fun y => absurd z (by omega)) (fun _ => rt_ymt H' hr (fun bd2 => rt_yrem H' z hput ?_))
        exact ⟨rfl, rt_rel (rt_okrm H' z)⟩
