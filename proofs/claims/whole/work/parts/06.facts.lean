/-! fitting; the least free number; the stores of facts -/
theorem rt_lfrle (p : Nat) : ∀ d f, rt_lfr p d f ≤ f + d := by
  intro d
  induction d with
  | zero => intro f; exact Nat.le_refl f
  | succ d ih =>
    intro f
    unfold rt_lfr
    by_cases h : p.testBit f = true
    · rw [if_pos h]; have := ih (f + 1); omega
    · rw [if_neg h]; omega
theorem rt_bf1 {x : Bool} (h : ¬ x = true) : x = false := by
  cases x with
  | false => rfl
  | true => exact absurd rfl h
section
variable {p : Nat} {w s k a b : Nat → Nat}
theorem rt_x39 {post : Int32 → Prop} {d f : Nat} (H : rt_ok p w s k a b) (hd : d < 8) (hf : f < 7) (h : post (rt_b (decide (4 ≤ d) || decide (d = b f)))) : wX_fitsKindAndNumbers_39 post (nI f) (nI d) (nI p) (rt_f w) (rt_f s) (rt_f k) (rt_f a) (rt_f b) := by
  unfold wX_fitsKindAndNumbers_39
  have hb := rt_hb H f
  rw [rt_rd (g := b) (by omega : f < 2 ^ 31)]
  by_cases c1 : 4 ≤ d
  · rw [decide_eq_true c1] at h
    exact br_t (nI_le (a := 4) c1 (by omega)) h
  · rw [decide_eq_false c1] at h
    refine br_f (nI_ge (b := 4) (by omega) (by decide)) ⟨vp_in_nI hf (by decide), ?_⟩
    by_cases c2 : d = b f
    · rw [decide_eq_true c2] at h
      exact br_t (congrArg nI c2) h
    · rw [decide_eq_false c2] at h
      exact br_f (rt_ne (by omega) (by omega) c2) h
theorem rt_xfk (H : rt_ok p w s k a b) {post : Int32 → Prop} {W f : Nat} (hW : W < 512) (hf : f < 7) (h : post (rt_b (rt_fk k a b W f))) : wpX_fitsKindAndNumbers post (nI p, rt_f w, rt_f s, rt_f k, rt_f a, rt_f b) (nI W) (nI f) := by
  unfold rt_fk at h
  unfold wpX_fitsKindAndNumbers
  dsimp only
  have hf2 : f < 2 ^ 31 := by omega
  have hv : vp_in (nI f) 7 := vp_in_nI hf (by decide)
  have h1 := rt_hk H f
  have h2 := rt_ha H f
  rw [rt_rd (g := k) hf2, rt_rd (g := a) hf2]
  refine rt_xd1 hW (rt_xd2 hW ⟨hv, rt_xkind hW ?_⟩)
  by_cases c1 : k f = W % 4
  · rw [decide_eq_true c1] at h
    refine br_t (congrArg nI c1) ?_
    by_cases c2 : 4 ≤ W / 4 % 8
    · rw [decide_eq_true c2] at h
      exact br_t (nI_le (a := 4) c2 (by omega)) (rt_x39 H (Nat.mod_lt _ (by decide)) hf h)
    · rw [decide_eq_false c2] at h
      refine br_f (nI_ge (b := 4) (by omega) (by decide)) ⟨hv, ?_⟩
      by_cases c3 : W / 4 % 8 = a f
      · rw [decide_eq_true c3] at h
        exact br_t (congrArg nI c3) (rt_x39 H (Nat.mod_lt _ (by decide)) hf h)
      · rw [decide_eq_false c3] at h
        exact br_f (rt_ne (by omega) (by omega) c3) h
  · rw [decide_eq_false c1] at h
    exact br_f (rt_ne (by omega) (by omega) c1) h
theorem rt_xtl (H : rt_ok p w s k a b) {post : Int32 → Prop} {W : Nat} (hW : W < 512) (h : post (nI (rt_cn (rt_ft p k a b W) 7))) : ∀ d m : Nat, m + d = 7 → wX_fitting_40 post (nI W) (nI p) (rt_f w) (rt_f s) (rt_f k) (rt_f a) (rt_f b) (d + 1) (nI (rt_cn (rt_ft p k a b W) m)) (nI m) := by
  intro d
  induction d with
  | zero =>
    intro m hm
    have : m = 7 := by omega
    subst this
    exact br_t (nI_le (a := 7) (by omega) (by decide)) h
  | succ d ih =>
    intro m hm
    have ih1 : wX_fitting_40 post (nI W) (nI p) (rt_f w) (rt_f s) (rt_f k) (rt_f a) (rt_f b) (d + 1) (nI (if (p.testBit m && rt_fk k a b W m) = true then rt_cn (rt_ft p k a b W) m + 1 else rt_cn (rt_ft p k a b W) m)) (nI (m + 1)) := ih (m + 1) (by omega)
    refine br_f (nI_ge (b := 7) (by omega) (by decide)) (rt_xfact H (by omega) (rt_bb (fun e => nm_r (nI_1 m) ?_) (fun e => rt_xfk H hW (by omega) (rt_bb (fun e2 => nm_r (nI_1 m) ?_) (fun e2 => nm_r (nI_1 _) (nm_r (nI_1 m) ?_))))))
    · rw [if_neg (by rw [e]; simp)] at ih1
      exact ih1
    · rw [if_neg (by rw [e, e2]; simp)] at ih1
      exact ih1
    · rw [if_pos (by rw [e, e2]; rfl)] at ih1
      exact ih1
theorem rt_ytl (H : rt_ok p w s k a b) {post : Int32 → Prop} {bd : Nat → Int32} {W : Nat} (hW : W < 512) (h : post (nI (rt_cn (rt_ft p k a b W) 7))) : ∀ d m : Nat, m + d = 7 → wY_fitting_57 post (nI W) (nI (W / 4 % 8)) (nI (W / 32 % 8)) (rt_th p) (rt_f k) (rt_f a) (rt_f b) (rt_f s) (rt_f w) bd (d + 1) (nI (rt_cn (rt_ft p k a b W) m)) (nI m) := by
  intro d
  induction d with
  | zero =>
    intro m hm
    have : m = 7 := by omega
    subst this
    exact br_t (nI_le (a := 7) (by omega) (by decide)) h
  | succ d ih =>
    intro m hm
    have ih1 : wY_fitting_57 post (nI W) (nI (W / 4 % 8)) (nI (W / 32 % 8)) (rt_th p) (rt_f k) (rt_f a) (rt_f b) (rt_f s) (rt_f w) bd (d + 1) (nI (if (p.testBit m && rt_fk k a b W m) = true then rt_cn (rt_ft p k a b W) m + 1 else rt_cn (rt_ft p k a b W) m)) (nI (m + 1)) := ih (m + 1) (by omega)
    have K0 : (p.testBit m && rt_fk k a b W m) = false → wY_fitting_128 post (wY_fitting_57 post (nI W) (nI (W / 4 % 8)) (nI (W / 32 % 8)) (rt_th p) (rt_f k) (rt_f a) (rt_f b) (rt_f s) (rt_f w) bd (d + 1)) (nI W) (nI (W / 4 % 8)) (nI (W / 32 % 8)) (nI (rt_cn (rt_ft p k a b W) m)) (nI m) 0 (rt_th p) (rt_f k) (rt_f a) (rt_f b) (rt_f s) (rt_f w) bd := by
      intro e
      rw [if_neg (by rw [e]; simp)] at ih1
      exact br_t rfl (nm_r (nI_1 m) ih1)
    have K1 : (p.testBit m && rt_fk k a b W m) = true → wY_fitting_128 post (wY_fitting_57 post (nI W) (nI (W / 4 % 8)) (nI (W / 32 % 8)) (rt_th p) (rt_f k) (rt_f a) (rt_f b) (rt_f s) (rt_f w) bd (d + 1)) (nI W) (nI (W / 4 % 8)) (nI (W / 32 % 8)) (nI (rt_cn (rt_ft p k a b W) m)) (nI m) 1 (rt_th p) (rt_f k) (rt_f a) (rt_f b) (rt_f s) (rt_f w) bd := by
      intro e
      rw [if_pos e] at ih1
      exact br_f (by decide) (nm_r (nI_1 _) (nm_r (nI_1 m) ih1))
    have hm2 : m < 2 ^ 31 := by omega
    have hv : vp_in (nI m) 7 := vp_in_nI (by omega) (by decide)
    have h1 := rt_hk H m
    have h2 := rt_ha H m
    have h3 := rt_hb H m
    have ek : rt_f k (nI m).toNatClampNeg = nI (k m) := rt_rd hm2
    have ea : rt_f a (nI m).toNatClampNeg = nI (a m) := rt_rd hm2
    have eb : rt_f b (nI m).toNatClampNeg = nI (b m) := rt_rd hm2
    have ew : nI W &&& 3 = nI (W % 4) := rt_kd hW
    refine br_f (nI_ge (b := 7) (by omega) (by decide)) ⟨hv, rt_thr hm2 (fun e => K0 (by rw [e]; rfl)) (fun e => ⟨hv, ?_⟩)⟩
    rw [ek, ew]
    rw [e] at K0 K1
    unfold rt_fk at K0 K1
    by_cases c1 : k m = W % 4
    · rw [decide_eq_true c1] at K0 K1
      refine br_t (congrArg nI c1) ?_
      have K : (decide (4 ≤ W / 4 % 8) || decide (W / 4 % 8 = a m)) = true → wY_fitting_105 post (wY_fitting_57 post (nI W) (nI (W / 4 % 8)) (nI (W / 32 % 8)) (rt_th p) (rt_f k) (rt_f a) (rt_f b) (rt_f s) (rt_f w) bd (d + 1)) (nI W) (nI (W / 4 % 8)) (nI (W / 32 % 8)) (nI (rt_cn (rt_ft p k a b W) m)) (nI m) (rt_th p) (rt_f k) (rt_f a) (rt_f b) (rt_f s) (rt_f w) bd := by
        intro z
        rw [z] at K0 K1
        unfold wY_fitting_105
        rw [eb]
        by_cases c4 : 4 ≤ W / 32 % 8
        · rw [decide_eq_true c4] at K1
          exact br_t (nI_lt (a := 3) (by omega) (by omega)) (K1 rfl)
        · rw [decide_eq_false c4] at K0 K1
          refine br_f (nI_nlt (a := 3) (by omega) (by decide)) ⟨hv, ?_⟩
          by_cases c5 : W / 32 % 8 = b m
          · rw [decide_eq_true c5] at K1
            exact br_t (congrArg nI c5) (K1 rfl)
          · rw [decide_eq_false c5] at K0
            exact br_f (rt_ne (by omega) (by omega) c5) (K0 rfl)
      by_cases c2 : 4 ≤ W / 4 % 8
      · rw [decide_eq_true c2] at K
        exact br_t (nI_lt (a := 3) (by omega) (by omega)) (K rfl)
      · rw [decide_eq_false c2] at K0 K
        refine br_f (nI_nlt (a := 3) (by omega) (by decide)) ⟨hv, ?_⟩
        rw [ea]
        by_cases c3 : W / 4 % 8 = a m
        · rw [decide_eq_true c3] at K
          exact br_t (congrArg nI c3) (K rfl)
        · rw [decide_eq_false c3] at K0
          exact br_f (rt_ne (by omega) (by omega) c3) (K0 rfl)
    · rw [decide_eq_false c1] at K0
      exact br_f (rt_ne (by omega) (by omega) c1) (K0 rfl)
theorem rt_xll (H : rt_ok p w s k a b) {post : Int32 → Prop} : ∀ d f : Nat, f + d = 7 → post (rt_lc (rt_lfr p d f)) → wX_leastFreeNumber_2 post (nI p) (rt_f w) (rt_f s) (rt_f k) (rt_f a) (rt_f b) (d + 1) (nI f) := by
  intro d
  induction d with
  | zero =>
    intro f hf h
    have : f = 7 := by omega
    subst this
    exact br_t (nI_le (a := 7) (by omega) (by decide)) h
  | succ d ih =>
    intro f hf h
    unfold rt_lfr at h
    refine br_f (nI_ge (b := 7) (by omega) (by decide)) (rt_xfact H (by omega) (rt_bb (fun e => ?_) (fun e => nm_r (nI_1 f) (ih (f + 1) (by omega) ?_))))
    · rw [if_neg (by rw [e]; simp)] at h
      unfold rt_lc at h
      rw [if_neg (by omega)] at h
      exact h
    · rw [if_pos e] at h
      exact h
theorem rt_xlf (H : rt_ok p w s k a b) {post : Int32 → Prop} (h : post (rt_lc (rt_lf p))) : wpX_leastFreeNumber post (nI p, rt_f w, rt_f s, rt_f k, rt_f a, rt_f b) := ⟨_, rt_xll H 7 0 rfl h⟩
theorem rt_xput (H : rt_ok p w s k a b) {post : SX → Prop} {f K A B : Nat} (hf : f < 7) (h : post (nI (rt_put p f), rt_f w, rt_f s, rt_f (rt_up k f K), rt_f (rt_up a f A), rt_f (rt_up b f B))) : wpX_putFact post (nI p, rt_f w, rt_f s, rt_f k, rt_f a, rt_f b) (nI f) (nI K) (nI A) (nI B) := by
  unfold wpX_putFact
  dsimp only
  have hv : vp_in (nI f) 7 := vp_in_nI hf (by decide)
  rw [nI_clamp (show f < 2 ^ 31 by omega), rt_upd, rt_upd, rt_upd, (rt_putI p (rt_hp H) f hf).1]
  exact ⟨hv, nm_e ⟨hv, nm_e ⟨hv, nm_e (nm_e h)⟩⟩⟩
theorem rt_xtake (H : rt_ok p w s k a b) {post : SX → Prop} {f : Nat} (hf : f < 7) (h : post (nI (rt_rm p f), rt_f w, rt_f s, rt_f k, rt_f a, rt_f b)) : wpX_takeFact post (nI p, rt_f w, rt_f s, rt_f k, rt_f a, rt_f b) (nI f) := by
  unfold wpX_takeFact
  dsimp only
  rw [(rt_rmI p (rt_hp H) f hf).1]
  exact nm_e h
theorem rt_okput (H : rt_ok p w s k a b) {f K A B : Nat} (hf : f < 7) (hK : K < 3) (hA : A < 4) (hB : B < 4) : rt_ok (rt_put p f) w s (rt_up k f K) (rt_up a f A) (rt_up b f B) :=
  ⟨(rt_putI p (rt_hp H) f hf).2, rt_hw H, rt_hs H, rt_uplt (rt_hk H) (by omega), rt_uplt (rt_ha H) hA, rt_uplt (rt_hb H) hB⟩
theorem rt_okrm (H : rt_ok p w s k a b) {f : Nat} (hf : f < 7) : rt_ok (rt_rm p f) w s k a b :=
  ⟨(rt_rmI p (rt_hp H) f hf).2, rt_hw H, rt_hs H, rt_hk H, rt_ha H, rt_hb H⟩
theorem rt_yal {post : Int32 → SY → Prop} {bd : Nat → Int32} {K A B : Nat} : ∀ d f : Nat, f + d = 7 → (rt_lfr p d f = 7 → post (-2) (rt_th p, rt_f k, rt_f a, rt_f b, rt_f s, rt_f w, bd)) → (rt_lfr p d f < 7 → post (nI (rt_lfr p d f)) (rt_th (rt_put p (rt_lfr p d f)), rt_f (rt_up k (rt_lfr p d f) K), rt_f (rt_up a (rt_lfr p d f) A), rt_f (rt_up b (rt_lfr p d f) B), rt_f s, rt_f w, bd)) → wY_add_15 post (nI K) (nI A) (nI B) (rt_th p) (rt_f k) (rt_f a) (rt_f b) (rt_f s) (rt_f w) bd (d + 1) (nI f) := by
  intro d
  induction d with
  | zero =>
    intro f hf h1 h2
    have : f = 7 := by omega
    subst this
    exact br_t (nI_le (a := 7) (by omega) (by decide)) (h1 rfl)
  | succ d ih =>
    intro f hf h1 h2
    have hv : vp_in (nI f) 7 := vp_in_nI (by omega) (by decide)
    have hf2 : f < 2 ^ 31 := by omega
    unfold rt_lfr at h1 h2
    refine br_f (nI_ge (b := 7) (by omega) (by decide)) ⟨hv, rt_thr hf2 (fun e => ?_) (fun e => nm_r (nI_1 f) ?_)⟩
    · rw [if_neg (by rw [e]; simp)] at h2
      have h3 := h2 (by omega)
      rw [nI_clamp hf2, rt_nar1, rt_thput, rt_upd, rt_upd, rt_upd]
      exact ⟨hv, nm_e ⟨hv, nm_e ⟨hv, nm_e ⟨hv, nm_e h3⟩⟩⟩⟩
    · rw [if_pos e] at h1 h2
      exact ih (f + 1) (by omega) h1 h2
theorem rt_yfl (H : rt_ok p w s k a b) {post : Int32 → Prop} {bd : Nat → Int32} (h : post (nI p)) : ∀ d f : Nat, f + d = 7 → wY_facts_4 post (rt_th p) (rt_f k) (rt_f a) (rt_f b) (rt_f s) (rt_f w) bd (d + 1) (nI (p % 2 ^ f)) (nI f) := by
  intro d
  induction d with
  | zero =>
    intro f hf
    have : f = 7 := by omega
    subst this
    have e : p % 2 ^ 7 = p := Nat.mod_eq_of_lt (rt_hp H)
    rw [e]
    exact br_t (nI_le (a := 7) (by omega) (by decide)) h
  | succ d ih =>
    intro f hf
    have ih1 := ih (f + 1) (by omega)
    have e := rt_setI p (rt_hp H) f (by omega)
    refine br_f (nI_ge (b := 7) (by omega) (by decide)) ⟨vp_in_nI (by omega) (by decide), rt_thr (by omega) (fun c => nm_r (nI_1 f) ?_) (fun c => nm_r (e' := nI (p % 2 ^ (f + 1))) ?_ (nm_r (nI_1 f) ih1))⟩
    · rw [if_neg (by rw [c]; simp)] at e
      rw [e]
      exact ih1
    · rw [if_pos c] at e
      exact e
theorem rt_yfs (H : rt_ok p w s k a b) {post : Int32 → Prop} {bd : Nat → Int32} (h : post (nI p)) : wpY_facts post (rt_th p, rt_f k, rt_f a, rt_f b, rt_f s, rt_f w, bd) := by
  have h1 := rt_yfl H (bd := bd) h 7 0 rfl
  rw [show p % 2 ^ 0 = 0 from Nat.mod_one p] at h1
  exact ⟨_, h1⟩
end
theorem rt_xff {post : Int32 → Prop} {K A B : Nat} (hK : K < 3) (hA : A < 4) (hB : B < 4) (h : post 1) : wpX_isFactForm post (nI K) (nI A) (nI B) :=
  rt_inle (n := 3) (by decide) hK (rt_inle (n := 4) (by decide) hA (rt_inle (n := 4) (by decide) hB h))
theorem rt_yff {post : Int32 → Prop} {u : SY} {K A B : Nat} (hK : K < 3) (hA : A < 4) (hB : B < 4) (h : post 1) : wpY_fact post u (nI K) (nI A) (nI B) := by
  obtain ⟨u1, u2, u3, u4, u5, u6, u7⟩ := u
  unfold wpY_fact
  dsimp only
  exact rt_inlt (n := 2) (by decide) (by omega) (rt_inlt (n := 3) (by decide) (by omega) (rt_inlt (n := 3) (by decide) (by omega) h))
theorem rt_xffN {post : Int32 → Prop} {x y z : Int32} (hb : rt_bad x 3 ∨ rt_bad y 4 ∨ rt_bad z 4) (h : post 0) : wpX_isFactForm post x y z := by
  unfold wpX_isFactForm
  rcases rt_dec x 3 with c | ⟨K, hK, hK2, rfl⟩
  · exact rt_badle (n := 3) (by decide) c h
  · refine rt_inle (n := 3) (by decide) hK ?_
    rcases rt_dec y 4 with c | ⟨A, hA, hA2, rfl⟩
    · exact rt_badle (n := 4) (by decide) c h
    · refine rt_inle (n := 4) (by decide) hA ?_
      rcases rt_dec z 4 with c | ⟨B, hB, hB2, rfl⟩
      · exact rt_badle (n := 4) (by decide) c h
      · have no : ∀ {j n : Nat}, j < n → j < 2 ^ 31 → ¬ rt_bad (nI j) n := by
          intro j n h1 h2 h3
          rcases h3 with h3 | ⟨i, h4, h5, h6⟩
          · exact nI_pos h2 h3
          · have := (nI_eq h2 h5).mp h6
            omega
        rcases hb with c | c | c
        · exact absurd c (no hK hK2)
        · exact absurd c (no hA hA2)
        · exact absurd c (no hB hB2)
theorem rt_yffN {post : Int32 → Prop} {u : SY} {x y z : Int32} (hb : rt_bad x 3 ∨ rt_bad y 4 ∨ rt_bad z 4) (h : post 0) : wpY_fact post u x y z := by
  obtain ⟨u1, u2, u3, u4, u5, u6, u7⟩ := u
  unfold wpY_fact
  dsimp only
  rcases rt_dec x 3 with c | ⟨K, hK, hK2, rfl⟩
  · exact rt_badlt (n := 2) (by decide) c h
  · refine rt_inlt (n := 2) (by decide) (by omega) ?_
    rcases rt_dec y 4 with c | ⟨A, hA, hA2, rfl⟩
    · exact rt_badlt (n := 3) (by decide) c h
    · refine rt_inlt (n := 3) (by decide) (by omega) ?_
      rcases rt_dec z 4 with c | ⟨B, hB, hB2, rfl⟩
      · exact rt_badlt (n := 3) (by decide) c h
      · have no : ∀ {j n : Nat}, j < n → j < 2 ^ 31 → ¬ rt_bad (nI j) n := by
          intro j n h1 h2 h3
          rcases h3 with h3 | ⟨i, h4, h5, h6⟩
          · exact nI_pos h2 h3
          · have := (nI_eq h2 h5).mp h6
            omega
        rcases hb with c | c | c
        · exact absurd c (no hK hK2)
        · exact absurd c (no hA hA2)
        · exact absurd c (no hB hB2)
