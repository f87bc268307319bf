/-! the reference's own methods against the pure picture; rt_B q bd: the array bound holds the fields of q -/
def rt_B (q : Nat) (bd : Nat → Int32) : Prop := ∀ x, x < 3 → bd x = nI (rt_fd q x)
theorem rt_B0 : rt_B 0 (upd (upd (upd (fun _ => 0) 0 0) 1 0) 2 0) := by
  intro x hx
  match x, hx with
  | 0, _ => rfl
  | 1, _ => rfl
  | 2, _ => rfl
theorem rt_Breset (bd : Nat → Int32) : rt_B 0 (upd (upd (upd bd 0 0) 1 0) 2 0) := by
  intro x hx
  match x, hx with
  | 0, _ => rfl
  | 1, _ => rfl
  | 2, _ => rfl
theorem rt_Bback {q : Nat} {bd : Nat → Int32} (bd' : Nat → Int32) (h : rt_B q bd) : rt_B q (upd (upd (upd bd' 0 (bd 0)) 1 (bd 1)) 2 (bd 2)) := by
  intro x hx
  match x, hx with
  | 0, _ => exact h 0 (by decide)
  | 1, _ => exact h 1 (by decide)
  | 2, _ => exact h 2 (by decide)
theorem rt_Bbind {q x v : Nat} {bd : Nat → Int32} (hq : q < 512) (hx : x < 3) (hv : v < 4) (z : rt_fd q x = 0) (h : rt_B q bd) : rt_B (q + (v + 1) * 8 ^ x) (upd bd x (nI (v + 1))) := by
  intro y hy
  rw [(rt_bind q hq x hx v hv z).2 y hy]
  unfold upd
  by_cases e : y = x
  · rw [if_pos e, if_pos e]
  · rw [if_neg e, if_neg e]
    exact h y hy
theorem rt_b1 : ¬ rt_b true = 0 := by decide
section
variable {p : Nat} {w s k a b : Nat → Nat}
theorem rt_yrule {post : Int32 → Prop} {u : SY} {r : Nat} (hr : r < 3) (h : post 1) : wpY_rule post u (nI r) := by
  obtain ⟨u1, u2, u3, u4, u5, u6, u7⟩ := u
  unfold wpY_rule
  dsimp only
  exact rt_inlt (n := 2) (by decide) (by omega) h
theorem rt_yruleN {post : Int32 → Prop} {u : SY} {x : Int32} (hx : rt_bad x 3) (h : post 0) : wpY_rule post u x := by
  obtain ⟨u1, u2, u3, u4, u5, u6, u7⟩ := u
  unfold wpY_rule
  dsimp only
  exact rt_badlt (n := 2) (by decide) hx h
theorem rt_yfits {post : Int32 → SY → Prop} {d v q : Nat} {bd : Nat → Int32} (hd : d < 8) (hv : v < 4) (hq : q < 512) (hB : rt_B q bd) (h : ∀ bd', (∀ q', rt_bv d v q = some q' → rt_B q' bd') → post (rt_b (rt_bv d v q).isSome) (rt_th p, rt_f k, rt_f a, rt_f b, rt_f s, rt_f w, bd')) : wpY_fits post (rt_th p, rt_f k, rt_f a, rt_f b, rt_f s, rt_f w, bd) (nI d) (nI v) := by
  unfold rt_bv at h
  unfold wpY_fits
  dsimp only
  by_cases h7 : d = 7
  · subst h7
    rw [if_pos rfl] at h
    exact br_t (nI_lt (a := 3) (by decide) (by decide)) (br_t rfl (h bd (fun q' e => by cases e; exact hB)))
  · rw [if_neg h7] at h
    by_cases h4 : d < 4
    · rw [if_pos h4] at h
      refine br_f (nI_nlt (a := 3) (by omega) (by decide)) ?_
      by_cases e : d = v
      · rw [if_pos e] at h
        exact br_t (congrArg nI e.symm) (h bd (fun q' e => by cases e; exact hB))
      · rw [if_neg e] at h
        exact br_f (rt_ne (by omega) (by omega) (fun z => e z.symm)) (h bd (fun q' e => nomatch e))
    · rw [if_neg h4] at h
      refine br_t (nI_lt (a := 3) (by omega) (by omega)) (br_f (rt_ne (b := 7) (by omega) (by decide) h7) ?_)
      obtain ⟨x, rfl⟩ : ∃ x, d = x + 4 := ⟨d - 4, by omega⟩
      rw [Nat.add_sub_cancel] at h
      have hx : x < 3 := by omega
      have hl := rt_fdlt q x
      have hvx : vp_in (nI x) 3 := vp_in_nI hx (by decide)
      have hcl : (nI x).toNatClampNeg = x := nI_clamp (by omega)
      have eB : bd (nI x).toNatClampNeg = nI (rt_fd q x) := by rw [hcl]; exact hB x hx
      refine nm_r (rt_s4 x) ⟨hvx, ?_⟩
      by_cases z : rt_fd q x = 0
      · rw [if_pos z] at h
        refine br_t (eB.trans (by rw [z]; rfl)) ⟨hvx, nm_e ⟨hvx, br_t pk_us ?_⟩⟩
        rw [hcl, nI_1]
        exact h _ (fun q' e => by cases e; exact rt_Bbind hq hx hv z hB)
      · rw [if_neg z] at h
        refine br_f (by rw [eB]; exact rt_ne (b := 0) (by omega) (by decide) z) ⟨hvx, ?_⟩
        by_cases e : rt_fd q x = v + 1
        · rw [if_pos e] at h
          exact br_t (by rw [eB, e, nI_1]) (h bd (fun q' e => by cases e; exact hB))
        · rw [if_neg e] at h
          exact br_f (by rw [eB, nI_1]; exact rt_ne (by omega) (by omega) e) (h bd (fun q' e => nomatch e))
theorem rt_ytk (H : rt_ok p w s k a b) {post : Int32 → SY → Prop} {W f q : Nat} {bd : Nat → Int32} (hW : W < 512) (hf : f < 7) (hq : q < 512) (hB : rt_B q bd) (h : ∀ bd', (∀ q', rt_bf p k a b W f q = some q' → rt_B q' bd') → post (rt_b (rt_bf p k a b W f q).isSome) (rt_th p, rt_f k, rt_f a, rt_f b, rt_f s, rt_f w, bd')) : wpY_takes post (rt_th p, rt_f k, rt_f a, rt_f b, rt_f s, rt_f w, bd) (nI W) (nI f) := by
  unfold rt_bf at h
  unfold wpY_takes
  dsimp only
  have hf2 : f < 2 ^ 31 := by omega
  rw [rt_rd (g := k) hf2, rt_rd (g := a) hf2, rt_kd hW, rt_d1 hW, rt_d2 hW]
  have hv : vp_in (nI f) 7 := vp_in_nI hf (by decide)
  refine ⟨hv, rt_thr hf2 (fun hc => ?_) (fun hc => ⟨hv, ?_⟩)⟩
  · rw [if_neg (by rw [hc]; simp)] at h
    exact h bd (fun q' e => nomatch e)
  · by_cases c : k f = W % 4
    · rw [if_pos ⟨hc, c⟩] at h
      refine br_t (congrArg nI c) ⟨hv, rt_yfits (Nat.mod_lt _ (by decide)) (rt_ha H f) hq hB (fun bd1 hB1 => ?_)⟩
      cases e : rt_bv (W / 4 % 8) (a f) q with
      | none =>
        rw [e] at h
        exact br_t rfl (h bd1 (fun q' e => nomatch e))
      | some q1 =>
        rw [e] at h
        have hq1 := rt_bvlt (Nat.mod_lt _ (by decide)) (rt_ha H f) hq e
        have e2 : rt_f b (nI f).toNatClampNeg = nI (b f) := rt_rd hf2
        refine br_f rt_b1 ⟨hv, ?_⟩
        dsimp only
        rw [e2]
        refine rt_yfits (Nat.mod_lt _ (by decide)) (rt_hb H f) hq1 (hB1 q1 e) (fun bd2 hB2 => ?_)
        exact rt_bb (fun z => by have h2 := h bd2 hB2; dsimp only at h2; rw [z] at h2; exact h2) (fun z => by have h2 := h bd2 hB2; dsimp only at h2; rw [z] at h2; exact h2)
    · rw [if_neg (fun z => c z.2)] at h
      have h1 := rt_hk H f
      exact br_f (rt_ne (by omega) (by omega) c) (h bd (fun q' e => nomatch e))
theorem rt_ynl (H : rt_ok p w s k a b) {post : Int32 → SY → Prop} {W q : Nat} (hW : W < 512) (hq : q < 512) (h : ∀ bd', rt_B q bd' → post (rt_b (!rt_any p k a b W q 7)) (rt_th p, rt_f k, rt_f a, rt_f b, rt_f s, rt_f w, bd')) : ∀ (d i : Nat) (bd : Nat → Int32), i + d = 7 → rt_B q bd → wY_none_4 post (nI W) (d + 1) (rt_b (rt_any p k a b W q i)) (nI i) (rt_th p) (rt_f k) (rt_f a) (rt_f b) (rt_f s) (rt_f w) bd := by
  intro d
  induction d with
  | zero =>
    intro i bd hi hB
    have : i = 7 := by omega
    subst this
    have h2 := h bd hB
    refine br_t (nI_le (a := 7) (by omega) (by decide)) (rt_bb (fun e => ?_) (fun e => ?_))
    · rw [e] at h2; exact h2
    · rw [e] at h2; exact h2
  | succ d ih =>
    intro i bd hi hB
    refine br_f (nI_ge (b := 7) (by omega) (by decide)) (nm_e (nm_e (nm_e (rt_ytk H hW (by omega) hq hB (fun bd1 _ => ?_)))))
    have ih1 := ih (i + 1) (upd (upd (upd bd1 0 (bd 0)) 1 (bd 1)) 2 (bd 2)) (by omega) (rt_Bback bd1 hB)
    have e1 : rt_any p k a b W q (i + 1) = ((rt_bf p k a b W i q).isSome || rt_any p k a b W q i) := rfl
    rw [e1] at ih1
    refine rt_bb (fun c => rt_bb (fun c2 => ?_) (fun c2 => ?_)) (fun c => ?_)
    · rw [c, c2] at ih1
      exact nm_e (nm_e (nm_e (nm_r (nI_1 i) ih1)))
    · rw [c, c2] at ih1
      exact nm_e (nm_e (nm_e (nm_r (nI_1 i) ih1)))
    · rw [c] at ih1
      exact nm_e (nm_e (nm_e (nm_r (nI_1 i) ih1)))
theorem rt_yno (H : rt_ok p w s k a b) {post : Int32 → SY → Prop} {W q : Nat} {bd : Nat → Int32} (hW : W < 512) (hq : q < 512) (hB : rt_B q bd) (h : ∀ bd', rt_B q bd' → post (rt_b (!rt_any p k a b W q 7)) (rt_th p, rt_f k, rt_f a, rt_f b, rt_f s, rt_f w, bd')) : wpY_none post (rt_th p, rt_f k, rt_f a, rt_f b, rt_f s, rt_f w, bd) (nI W) :=
  ⟨_, rt_ynl H hW hq h 7 0 bd rfl hB⟩
theorem rt_yil (H : rt_ok p w s k a b) {post : Int32 → SY → Prop} {r n c : Nat} (hr : r < 3) (hn : n < 4) (hc : c < 512) (h : ∀ bd', post (rt_b (rt_is p w k a b r n c)) (rt_th p, rt_f k, rt_f a, rt_f b, rt_f s, rt_f w, bd')) : ∀ (d i : Nat) (o : Option Nat) (bd : Nat → Int32), i + d = 3 → rt_run p w k a b r n c i = o → (∀ q, o = some q → q < 512 ∧ rt_B q bd) → wY_isMatch_29 post (nI r) (nI n) (nI c) (d + 1) (rt_b o.isSome) (nI i) (rt_th p) (rt_f k) (rt_f a) (rt_f b) (rt_f s) (rt_f w) bd := by
  intro d
  induction d with
  | zero =>
    intro i o bd hi hR hB
    have : i = 3 := by omega
    subst this
    unfold rt_is at h
    rw [hR] at h
    refine br_t (nI_le (a := 3) (by omega) (by decide)) ⟨?_, h bd⟩
    cases o.isSome <;> rfl
  | succ d ih =>
    intro i o bd hi hR hB
    refine br_f (nI_ge (b := 3) (by omega) (by decide)) ?_
    cases o with
    | none =>
      have := rt_runN (j := 3) (by omega) hR
      unfold rt_is at h
      rw [this] at h
      exact br_t rfl ⟨rfl, h bd⟩
    | some q =>
      obtain ⟨hq, hBq⟩ := hB q rfl
      have hR1 := rt_runS hR
      have hl := rt_fdlt c i
      have hW := rt_hw H (3 * r + i)
      have e1 : (nI c >>> ((3 * nI i) &&& 31)) &&& 7 = nI (rt_fd c i) := by
        rw [rt_3]; exact rt_fdI (by omega) (by omega)
      refine br_f rt_b1 (nm_r e1 ⟨pk_in (3 * r + i) 9 (by omega) (rt_iy r i), nm_r (rt_rdx (rt_iy r i) (by omega)) ?_⟩)
      unfold rt_st at hR1
      by_cases hin : i < n
      · rw [if_pos hin] at hR1
        unfold rt_ps at hR1
        refine br_f (nI_ge hin (by omega)) ?_
        by_cases h256 : w (3 * r + i) < 256
        · rw [if_pos h256] at hR1
          refine br_t (nI_lt (b := 256) h256 (by decide)) (br_t rfl ?_)
          by_cases h7 : rt_fd c i = 7
          · have e2 : rt_bf p k a b (w (3 * r + i)) (rt_fd c i) q = none := by
              unfold rt_bf
              rw [h7, rt_p7 (rt_hp H) (Nat.le_refl 7)]
              simp
            rw [e2] at hR1
            exact br_t (congrArg nI h7) (br_t rfl (nm_r (nI_1 i) (ih (i + 1) none bd (by omega) hR1 (fun q' e => nomatch e))))
          · refine br_f (rt_ne (b := 7) (by omega) (by decide) h7) (rt_ytk H hW (by omega) hq hBq (fun bd1 hB1 => nm_r (nI_1 i) (ih (i + 1) _ bd1 (by omega) hR1 (fun q' e => ⟨rt_bflt (rt_ha H) (rt_hb H) hq e, hB1 q' e⟩))))
        · rw [if_neg h256] at hR1
          refine br_f (nI_nlt (b := 256) (by omega) (by omega)) (br_f (by decide) (br_f (by decide) ?_))
          by_cases h7 : rt_fd c i = 7
          · refine br_t (congrArg nI h7) (br_f (nI_ge hin (by omega)) (rt_yno H hW hq hBq (fun bd1 hB1 => rt_bb (fun z => ?_) (fun z => ?_))))
            · have z2 : rt_any p k a b (w (3 * r + i)) q 7 = true := by
                cases e : rt_any p k a b (w (3 * r + i)) q 7 with
                | false => rw [e] at z; cases z
                | true => rfl
              rw [if_neg (by rw [z2]; simp)] at hR1
              exact nm_r (nI_1 i) (ih (i + 1) none bd1 (by omega) hR1 (fun q' e => nomatch e))
            · have z2 : rt_any p k a b (w (3 * r + i)) q 7 = false := by
                cases e : rt_any p k a b (w (3 * r + i)) q 7 with
                | false => rfl
                | true => rw [e] at z; cases z
              rw [if_pos ⟨h7, z2⟩] at hR1
              exact nm_r (nI_1 i) (ih (i + 1) (some q) bd1 (by omega) hR1 (fun q' e => by cases e; exact ⟨hq, hB1⟩))
          · rw [if_neg (fun z => h7 z.1)] at hR1
            exact br_f (rt_ne (b := 7) (by omega) (by decide) h7) (nm_r (nI_1 i) (ih (i + 1) none bd (by omega) hR1 (fun q' e => nomatch e)))
      · rw [if_neg hin] at hR1
        refine br_t (nI_le (by omega) (by omega)) (br_f (by decide) (br_f (by decide) ?_))
        by_cases h7 : rt_fd c i = 7
        · rw [if_pos h7] at hR1
          exact br_t (congrArg nI h7) (br_t (nI_le (by omega) (by omega)) (nm_r (nI_1 i) (ih (i + 1) (some q) bd (by omega) hR1 (fun q' e => by cases e; exact ⟨hq, hBq⟩))))
        · rw [if_neg h7] at hR1
          exact br_f (rt_ne (b := 7) (by omega) (by decide) h7) (nm_r (nI_1 i) (ih (i + 1) none bd (by omega) hR1 (fun q' e => nomatch e)))
theorem rt_yis (H : rt_ok p w s k a b) {post : Int32 → SY → Prop} {x : Int32} {r n c : Nat} {bd : Nat → Int32} (hx : x = nI n) (hr : r < 3) (hn : n < 4) (hc : c < 512) (h : ∀ bd', post (rt_b (rt_is p w k a b r n c)) (rt_th p, rt_f k, rt_f a, rt_f b, rt_f s, rt_f w, bd')) : wpY_isMatch post (rt_th p, rt_f k, rt_f a, rt_f b, rt_f s, rt_f w, bd) (nI r) x (nI c) := by
  subst hx
  refine ⟨4, ?_⟩
  refine br_f (by decide) ⟨vp_in_nI (n := 0) (by decide) (by decide), nm_e (nm_r (show (0 : Int32) + 1 = 1 from rfl) ?_)⟩
  refine br_f (by decide) ⟨vp_in_nI (n := 1) (by decide) (by decide), nm_e (nm_r (show (1 : Int32) + 1 = 2 from rfl) ?_)⟩
  refine br_f (by decide) ⟨vp_in_nI (n := 2) (by decide) (by decide), nm_e (nm_r (show (2 : Int32) + 1 = 3 from rfl) ?_)⟩
  refine br_t (by decide) ⟨_, rt_yil H hr hn hc h 3 0 (some 0) _ rfl rfl (fun q e => ?_)⟩
  cases e
  exact ⟨by decide, rt_Breset bd⟩
theorem rt_ycl (H : rt_ok p w s k a b) {post : Int32 → SY → Prop} {r n : Nat} (hr : r < 3) (hn : n < 4) (h : ∀ bd', post (nI (rt_ct p w k a b r n)) (rt_th p, rt_f k, rt_f a, rt_f b, rt_f s, rt_f w, bd')) : ∀ (d m : Nat) (bd : Nat → Int32), m + d = 512 → wY_count_5 post (nI r) (nI n) (d + 1) (nI (rt_cn (rt_is p w k a b r n) m)) (nI m) (rt_th p) (rt_f k) (rt_f a) (rt_f b) (rt_f s) (rt_f w) bd := by
  intro d
  induction d with
  | zero =>
    intro m bd hm
    have : m = 512 := by omega
    subst this
    exact br_t (nI_le (a := 512) (by omega) (by decide)) (h bd)
  | succ d ih =>
    intro m bd hm
    refine br_f (nI_ge (b := 512) (by omega) (by decide)) (rt_yis H rfl hr hn (by omega) (fun bd1 => ?_))
    have ih1 := ih (m + 1) bd1 (by omega)
    unfold rt_cn at ih1
    refine rt_bb (fun e => nm_r (nI_1 m) ?_) (fun e => nm_r (nI_1 _) (nm_r (nI_1 m) ?_))
    · rw [if_neg (by rw [e]; simp)] at ih1
      exact ih1
    · rw [if_pos e] at ih1
      exact ih1
theorem rt_yct (H : rt_ok p w s k a b) {post : Int32 → SY → Prop} {x : Int32} {r n : Nat} {bd : Nat → Int32} (hx : x = nI n) (hr : r < 3) (hn : n < 4) (h : ∀ bd', post (nI (rt_ct p w k a b r n)) (rt_th p, rt_f k, rt_f a, rt_f b, rt_f s, rt_f w, bd')) : wpY_count post (rt_th p, rt_f k, rt_f a, rt_f b, rt_f s, rt_f w, bd) (nI r) x := by
  subst hx
  exact ⟨_, rt_ycl H hr hn h 512 0 bd rfl⟩
theorem rt_ymt (H : rt_ok p w s k a b) {post : Int32 → SY → Prop} {r : Nat} {bd : Nat → Int32} (hr : r < 3) (h : ∀ bd', post (nI (rt_ct p w k a b r (s r))) (rt_th p, rt_f k, rt_f a, rt_f b, rt_f s, rt_f w, bd')) : wpY_matches post (rt_th p, rt_f k, rt_f a, rt_f b, rt_f s, rt_f w, bd) (nI r) := by
  unfold wpY_matches
  dsimp only
  refine rt_yrule hr (br_f (by decide) ⟨vp_in_nI hr (by decide), rt_yct H (rt_rd (by omega)) hr (rt_hs H r) h⟩)
end
