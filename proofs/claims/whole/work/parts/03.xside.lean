/-! small tools, and the component's own methods against the pure picture -/
def rt_ok (p : Nat) (w s k a b : Nat → Nat) : Prop := p < 128 ∧ (∀ j, w j < 512) ∧ (∀ j, s j < 4) ∧ (∀ j, k j < 4) ∧ (∀ j, a j < 4) ∧ (∀ j, b j < 4)
theorem rt_bb {c : Bool} {A B : Prop} (f : c = false → A) (g : c = true → B) : (rt_b c = 0 → A) ∧ (¬ rt_b c = 0 → B) := by
  cases c with
  | false => exact br_t rfl (f rfl)
  | true => exact br_f (by decide) (g rfl)
theorem rt_rd {g : Nat → Nat} {f : Nat} (hf : f < 2 ^ 31) : rt_f g (nI f).toNatClampNeg = nI (g f) := by
  rw [nI_clamp hf]; rfl
theorem rt_rdx {g : Nat → Nat} {f : Nat} {x : Int32} (hx : x = nI f) (hf : f < 2 ^ 31) : rt_f g x.toNatClampNeg = nI (g f) := by
  rw [hx]; exact rt_rd hf
theorem rt_thr {p f : Nat} {A B : Prop} (hf : f < 2 ^ 31) (F : p.testBit f = false → A) (G : p.testBit f = true → B) : (rt_th p (nI f).toNatClampNeg = 0 → A) ∧ (¬ rt_th p (nI f).toNatClampNeg = 0 → B) := by
  rw [nI_clamp hf]
  unfold rt_th
  cases e : p.testBit f with
  | false => exact br_t (by simp) (F e)
  | true => exact br_f (by simp) (G e)
theorem rt_3 (i : Nat) : (3 : Int32) * nI i = nI (3 * i) := pk_mul 3 i
theorem rt_ix (r i : Nat) : nI r * 3 + nI i = nI (3 * r + i) := by
  have h : nI r * 3 = nI (r * 3) := pk_mul r 3
  rw [h, nI_add, Nat.mul_comm]
theorem rt_iy (r i : Nat) : (3 : Int32) * nI r + nI i = nI (3 * r + i) := by
  rw [rt_3, nI_add]
def rt_bad (x : Int32) (n : Nat) : Prop := x < 0 ∨ ∃ j, n ≤ j ∧ j < 2 ^ 31 ∧ x = nI j
theorem rt_dec (x : Int32) (n : Nat) : rt_bad x n ∨ ∃ j, j < n ∧ j < 2 ^ 31 ∧ x = nI j := by
  by_cases h : x < 0
  · exact Or.inl (Or.inl h)
  · obtain ⟨j, hj, e⟩ := nI_of h
    by_cases hn : j < n
    · exact Or.inr ⟨j, hn, hj, e⟩
    · exact Or.inl (Or.inr ⟨j, by omega, hj, e⟩)
theorem rt_badle {x : Int32} {n : Nat} (hn : n < 2 ^ 31) {A B : Prop} (h : rt_bad x n) (a : A) : (x < 0 → A) ∧ (¬ x < 0 → ((nI n ≤ x → A) ∧ (¬ nI n ≤ x → B))) := by
  by_cases h0 : x < 0
  · exact br_t h0 a
  · obtain ⟨j, h1, h2, rfl⟩ := h.resolve_left h0
    exact br_f h0 (br_t (nI_le h1 h2) a)
theorem rt_badlt {x : Int32} {n : Nat} (hn : n + 1 < 2 ^ 31) {A B : Prop} (h : rt_bad x (n + 1)) (a : A) : (x < 0 → A) ∧ (¬ x < 0 → ((nI n < x → A) ∧ (¬ nI n < x → B))) := by
  by_cases h0 : x < 0
  · exact br_t h0 a
  · obtain ⟨j, h1, h2, rfl⟩ := h.resolve_left h0
    exact br_f h0 (br_t (nI_lt (by omega) h2) a)
theorem rt_inle {j n : Nat} (hn : n < 2 ^ 31) {A B : Prop} (h : j < n) (b : B) : (nI j < 0 → A) ∧ (¬ nI j < 0 → ((nI n ≤ nI j → A) ∧ (¬ nI n ≤ nI j → B))) :=
  br_f (nI_pos (by omega)) (br_f (nI_ge h hn) b)
theorem rt_inlt {j n : Nat} (hn : n < 2 ^ 31) {A B : Prop} (h : j ≤ n) (b : B) : (nI j < 0 → A) ∧ (¬ nI j < 0 → ((nI n < nI j → A) ∧ (¬ nI n < nI j → B))) :=
  br_f (nI_pos (by omega)) (br_f (nI_nlt h hn) b)
theorem rt_s34 (x : Nat) : (3 : Int32) * (nI (x + 4) - 4) = nI (3 * x) := by
  have h : nI (x + 4) - 4 = nI x := pk_sub (a := x + 4) (b := 4) (by omega)
  rw [h, rt_3]
theorem rt_s4 (x : Nat) : nI (x + 4) - 4 = nI x := pk_sub (a := x + 4) (b := 4) (by omega)
theorem rt_ne {a b : Nat} (ha : a < 2 ^ 31) (hb : b < 2 ^ 31) (h : ¬ a = b) : ¬ nI a = nI b := fun e => h ((nI_eq ha hb).mp e)
section
variable {p : Nat} {w s k a b : Nat → Nat}
theorem rt_hp (H : rt_ok p w s k a b) : p < 128 := H.1
theorem rt_hw (H : rt_ok p w s k a b) : ∀ j, w j < 512 := H.2.1
theorem rt_hs (H : rt_ok p w s k a b) : ∀ j, s j < 4 := H.2.2.1
theorem rt_hk (H : rt_ok p w s k a b) : ∀ j, k j < 4 := H.2.2.2.1
theorem rt_ha (H : rt_ok p w s k a b) : ∀ j, a j < 4 := H.2.2.2.2.1
theorem rt_hb (H : rt_ok p w s k a b) : ∀ j, b j < 4 := H.2.2.2.2.2
theorem rt_xrule {post : Int32 → Prop} {r : Nat} (hr : r < 3) (h : post 1) : wpX_isRule post (nI r) := rt_inle (n := 3) (by decide) hr h
theorem rt_xruleN {post : Int32 → Prop} {x : Int32} (hx : rt_bad x 3) (h : post 0) : wpX_isRule post x := by
  unfold wpX_isRule
  by_cases h0 : x < 0
  · exact br_t h0 h
  · obtain ⟨j, h1, h2, rfl⟩ := hx.resolve_left h0
    exact br_f h0 (br_t (nI_le (a := 3) h1 h2) h)
theorem rt_xfact (H : rt_ok p w s k a b) {post : Int32 → Prop} {f : Nat} (hf : f < 8) (h : post (rt_b (p.testBit f))) : wpX_isFact post (nI p, rt_f w, rt_f s, rt_f k, rt_f a, rt_f b) (nI f) := by
  unfold wpX_isFact
  dsimp only
  refine br_f (nI_pos (by omega)) ?_
  by_cases h7 : f = 7
  · subst h7
    rw [rt_p7 (rt_hp H) (Nat.le_refl 7)] at h
    exact br_t (nI_le (a := 7) (by omega) (by decide)) h
  · refine br_f (nI_ge (b := 7) (by omega) (by decide)) ?_
    have hb := rt_bit p (rt_hp H) f (by omega)
    by_cases c : p.testBit f = true
    · rw [c] at h
      exact br_t (hb.mpr c) h
    · have c' : p.testBit f = false := by
        cases e : p.testBit f with
        | false => rfl
        | true => exact absurd e c
      rw [c'] at h
      exact br_f (fun z => c (hb.mp z)) h
theorem rt_xfactN {post : Int32 → Prop} {x : Int32} {u : SX} (hx : rt_bad x 7) (h : post 0) : wpX_isFact post u x := by
  obtain ⟨u1, u2, u3, u4, u5, u6⟩ := u
  unfold wpX_isFact
  dsimp only
  by_cases h0 : x < 0
  · exact br_t h0 h
  · obtain ⟨j, h1, h2, rfl⟩ := hx.resolve_left h0
    exact br_f h0 (br_t (nI_le (a := 7) h1 h2) h)
theorem rt_xkind {post : Int32 → Prop} {W : Nat} (hW : W < 512) (h : post (nI (W % 4))) : wpX_kindOf post (nI W) := ek_v (P := post) (rt_kd hW) h
theorem rt_xd1 {post : Int32 → Prop} {W : Nat} (hW : W < 512) (h : post (nI (W / 4 % 8))) : wpX_firstDemand post (nI W) := ek_v (P := post) (rt_d1 hW) h
theorem rt_xd2 {post : Int32 → Prop} {W : Nat} (hW : W < 512) (h : post (nI (W / 32 % 8))) : wpX_secondDemand post (nI W) := ek_v (P := post) (rt_d2 hW) h
theorem rt_xfa {post : Int32 → Prop} {c i : Nat} (hc : c < 512) (hi : i < 3) (h : post (nI (rt_fd c i))) : wpX_factAt post (nI c) (nI i) := by
  have e : (nI c >>> ((3 * nI i) &&& 31)) &&& 7 = nI (rt_fd c i) := by
    rw [rt_3]; exact rt_fdI (by omega) hi
  exact ek_v (P := post) e h
theorem rt_xng {post : Int32 → Prop} {W : Nat} (hW : W < 512) (h1 : W < 256 → post 0) (h2 : ¬ W < 256 → post 1) : wpX_isNegated post (nI W) := ek_if (rt_ng W hW) h1 h2
theorem rt_xbv {post : Int32 → Prop} {d v q : Nat} (hd : d < 8) (hv : v < 4) (hq : q < 512) (h : post (rt_oc (rt_bv d v q))) : wpX_bindValue post (nI d) (nI v) (nI q) := by
  unfold rt_bv at h
  unfold wpX_bindValue
  by_cases h7 : d = 7
  · subst h7
    rw [if_pos rfl] at h
    exact br_t rfl h
  · rw [if_neg h7] at h
    refine br_f (rt_ne (b := 7) (by omega) (by decide) h7) ?_
    by_cases h4 : d < 4
    · rw [if_pos h4] at h
      refine br_f (nI_ge (b := 4) h4 (by decide)) ?_
      by_cases e : d = v
      · rw [if_pos e] at h
        exact br_t (congrArg nI e) h
      · rw [if_neg e] at h
        exact br_f (rt_ne (by omega) (by omega) e) h
    · rw [if_neg h4] at h
      refine br_t (nI_le (a := 4) (by omega) (by omega)) ?_
      obtain ⟨x, rfl⟩ : ∃ x, d = x + 4 := ⟨d - 4, by omega⟩
      rw [Nat.add_sub_cancel] at h
      have hx : x < 3 := by omega
      have hl := rt_fdlt q x
      refine nm_r (rt_s34 x) (nm_r (rt_fdI (by omega) hx) ?_)
      by_cases z : rt_fd q x = 0
      · rw [if_pos z] at h
        refine br_t (by rw [z]; rfl) ?_
        refine ek_v (P := post) ?_ h
        rw [nI_1]
        exact rt_orI q hq x hx v hv z
      · rw [if_neg z] at h
        refine br_f (rt_ne (b := 0) (by omega) (by decide) z) ?_
        by_cases e : rt_fd q x = v + 1
        · rw [if_pos e] at h
          exact br_t (by rw [e, nI_1]) h
        · rw [if_neg e] at h
          exact br_f (by rw [nI_1]; exact rt_ne (by omega) (by omega) e) h
theorem rt_f7 {f : Nat} (hp : p < 128) (hf : f < 8) (h : p.testBit f = true) : f < 7 := by
  by_cases e : f = 7
  · subst e
    rw [rt_p7 hp (Nat.le_refl 7)] at h
    cases h
  · omega
theorem rt_xbf (H : rt_ok p w s k a b) {post : Int32 → Prop} {W f q : Nat} (hW : W < 512) (hf : f < 8) (hq : q < 512) (h : post (rt_oc (rt_bf p k a b W f q))) : wpX_bindFact post (nI p, rt_f w, rt_f s, rt_f k, rt_f a, rt_f b) (nI W) (nI f) (nI q) := by
  unfold rt_bf at h
  unfold wpX_bindFact
  dsimp only
  have hf2 : f < 2 ^ 31 := by omega
  rw [rt_rd (g := k) hf2, rt_rd (g := a) hf2, rt_rd (g := b) hf2]
  refine rt_xfact H hf (rt_bb (fun hc => ?_) (fun hc => ?_))
  · rw [if_neg (by rw [hc]; simp)] at h
    exact h
  · have hv : vp_in (nI f) 7 := vp_in_nI (rt_f7 (rt_hp H) hf hc) (by decide)
    refine ⟨hv, rt_xkind hW ?_⟩
    by_cases c : k f = W % 4
    · rw [if_pos ⟨hc, c⟩] at h
      refine br_t (congrArg nI c) (rt_xd1 hW ⟨hv, rt_xbv (Nat.mod_lt _ (by decide)) (rt_ha H f) hq ?_⟩)
      cases e : rt_bv (W / 4 % 8) (a f) q with
      | none =>
        rw [e] at h
        exact br_t rfl h
      | some q1 =>
        rw [e] at h
        have hq1 := rt_bvlt (Nat.mod_lt _ (by decide)) (rt_ha H f) hq e
        exact br_f (rt_m1 (Nat.lt_trans hq1 (by decide))) (rt_xd2 hW ⟨hv, rt_xbv (Nat.mod_lt _ (by decide)) (rt_hb H f) hq1 h⟩)
    · rw [if_neg (fun z => c z.2)] at h
      have h1 := rt_hk H f
      exact br_f (rt_ne (by omega) (by omega) c) h
theorem rt_xpl (H : rt_ok p w s k a b) {post : Int32 → Prop} {W q : Nat} (hW : W < 512) (hq : q < 512) (h0 : rt_any p k a b W q 7 = false → post (nI q)) (h1 : rt_any p k a b W q 7 = true → post (-1)) : ∀ d i : Nat, i + d = 7 → rt_any p k a b W q i = false → wX_passCondition_26 post (nI W) (nI q) (nI p) (rt_f w) (rt_f s) (rt_f k) (rt_f a) (rt_f b) (d + 1) (nI i) := by
  intro d
  induction d with
  | zero =>
    intro i hi hn
    have : i = 7 := by omega
    subst this
    exact br_t (nI_le (a := 7) (by omega) (by decide)) (h0 hn)
  | succ d ih =>
    intro i hi hn
    refine br_f (nI_ge (b := 7) (by omega) (by decide)) (rt_xbf H hW (by omega) hq ?_)
    cases e : rt_bf p k a b W i q with
    | none =>
      refine br_t rfl (nm_r (nI_1 i) (ih (i + 1) (by omega) ?_))
      show ((rt_bf p k a b W i q).isSome || rt_any p k a b W q i) = false
      rw [e, hn]; rfl
    | some q1 =>
      have hq1 := rt_bflt (rt_ha H) (rt_hb H) hq e
      refine br_f (rt_m1 (Nat.lt_trans hq1 (by decide))) (h1 (rt_anyT (i := i + 1) (by omega) ?_))
      show ((rt_bf p k a b W i q).isSome || rt_any p k a b W q i) = true
      rw [e]; rfl
theorem rt_xps (H : rt_ok p w s k a b) {post : Int32 → Prop} {x : Int32} {W f q : Nat} (hx : x = nI W) (hW : W < 512) (hf : f < 8) (hq : q < 512) (h : post (rt_oc (rt_ps p k a b W f q))) : wpX_passCondition post (nI p, rt_f w, rt_f s, rt_f k, rt_f a, rt_f b) x (nI f) (nI q) := by
  subst hx
  unfold rt_ps at h
  unfold wpX_passCondition
  dsimp only
  refine rt_xng hW (fun hc => ?_) (fun hc => ?_)
  · rw [if_pos hc] at h
    exact br_t rfl (rt_xbf H hW hf hq h)
  · rw [if_neg hc] at h
    refine br_f (by decide) ?_
    by_cases h7 : f = 7
    · refine br_t (congrArg nI h7) ⟨_, rt_xpl H hW hq (fun z => ?_) (fun z => ?_) 7 0 rfl rfl⟩
      · rw [if_pos ⟨h7, z⟩] at h
        exact h
      · rw [if_neg (by rw [z]; simp)] at h
        exact h
    · rw [if_neg (fun z => h7 z.1)] at h
      exact br_f (rt_ne (b := 7) (by omega) (by decide) h7) h
theorem rt_xil (H : rt_ok p w s k a b) {post : Int32 → Prop} {r n c : Nat} (hr : r < 3) (hn : n < 4) (hc : c < 512) (h : post (rt_b (rt_is p w k a b r n c))) : ∀ d i q : Nat, i + d = 3 → q < 512 → rt_run p w k a b r n c i = some q → wX_isMatch_6 post (nI r) (nI n) (nI c) (nI p) (rt_f w) (rt_f s) (rt_f k) (rt_f a) (rt_f b) (d + 1) (nI q) (nI i) := by
  intro d
  induction d with
  | zero =>
    intro i q hi hq hR
    have : i = 3 := by omega
    subst this
    unfold rt_is at h
    rw [hR] at h
    exact br_t (nI_le (a := 3) (by omega) (by decide)) h
  | succ d ih =>
    intro i q hi hq hR
    have hR1 := rt_runS hR
    refine br_f (nI_ge (b := 3) (by omega) (by decide)) (rt_xfa hc (by omega) ?_)
    have hl := rt_fdlt c i
    have fin : rt_st p w k a b r n c i q = none → post 0 := by
      intro z
      rw [z] at hR1
      have := rt_runN (j := 3) (by omega) hR1
      unfold rt_is at h
      rw [this] at h
      exact h
    unfold rt_st at hR1 fin
    by_cases hin : i < n
    · rw [if_pos hin] at hR1 fin
      refine br_f (nI_ge hin (by omega)) ⟨pk_in (3 * r + i) 9 (by omega) (rt_ix r i), rt_xps H (rt_rdx (rt_ix r i) (by omega)) (rt_hw H _) hl hq ?_⟩
      cases e : rt_ps p k a b (w (3 * r + i)) (rt_fd c i) q with
      | none => exact br_t rfl (fin e)
      | some q1 =>
        have hq1 := rt_pslt (rt_ha H) (rt_hb H) hq e
        exact br_f (rt_m1 (Nat.lt_trans hq1 (by decide))) (nm_r (nI_1 i) (ih (i + 1) q1 (by omega) hq1 (hR1.trans e)))
    · rw [if_neg hin] at hR1 fin
      refine br_t (nI_le (by omega) (by omega)) ?_
      by_cases h7 : rt_fd c i = 7
      · rw [if_pos h7] at hR1
        exact br_t (congrArg nI h7) (nm_r (nI_1 i) (ih (i + 1) q (by omega) hq hR1))
      · rw [if_neg h7] at fin
        exact br_f (rt_ne (b := 7) (by omega) (by decide) h7) (fin rfl)
theorem rt_xis (H : rt_ok p w s k a b) {post : Int32 → Prop} {x : Int32} {r n c : Nat} (hx : x = nI n) (hr : r < 3) (hn : n < 4) (hc : c < 512) (h : post (rt_b (rt_is p w k a b r n c))) : wpX_isMatch post (nI p, rt_f w, rt_f s, rt_f k, rt_f a, rt_f b) (nI r) x (nI c) := by
  subst hx
  exact ⟨_, rt_xil H hr hn hc h 3 0 0 rfl (by decide) rfl⟩
theorem rt_xcl (H : rt_ok p w s k a b) {post : Int32 → Prop} {r n : Nat} (hr : r < 3) (hn : n < 4) (h : post (nI (rt_ct p w k a b r n))) : ∀ d m : Nat, m + d = 512 → wX_countMatches_5 post (nI r) (nI n) (nI p) (rt_f w) (rt_f s) (rt_f k) (rt_f a) (rt_f b) (d + 1) (nI (rt_cn (rt_is p w k a b r n) m)) (nI m) := by
  intro d
  induction d with
  | zero =>
    intro m hm
    have : m = 512 := by omega
    subst this
    exact br_t (nI_le (a := 512) (by omega) (by decide)) h
  | succ d ih =>
    intro m hm
    have ih1 := ih (m + 1) (by omega)
    unfold rt_cn at ih1
    refine br_f (nI_ge (b := 512) (by omega) (by decide)) (rt_xis H rfl hr hn (by omega) (rt_bb (fun e => nm_r (nI_1 m) ?_) (fun e => nm_r (nI_1 _) (nm_r (nI_1 m) ?_))))
    · rw [if_neg (by rw [e]; simp)] at ih1
      exact ih1
    · rw [if_pos e] at ih1
      exact ih1
theorem rt_xct (H : rt_ok p w s k a b) {post : Int32 → Prop} {x : Int32} {r n : Nat} (hx : x = nI n) (hr : r < 3) (hn : n < 4) (h : post (nI (rt_ct p w k a b r n))) : wpX_countMatches post (nI p, rt_f w, rt_f s, rt_f k, rt_f a, rt_f b) (nI r) x := by
  subst hx
  exact ⟨_, rt_xcl H hr hn h 512 0 rfl⟩
end
