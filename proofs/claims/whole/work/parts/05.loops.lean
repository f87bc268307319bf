/-! the loops of the questions, and the stores of facts, on both sides -/
def rt_rdy (P : Nat → Bool) : Nat → Nat
  | 0 => 0
  | r + 1 => if P r = true then rt_rdy P r + 2 ^ r else rt_rdy P r
def rt_has (f c : Nat) : Bool := decide (rt_fd c 0 = f) || (decide (rt_fd c 1 = f) || decide (rt_fd c 2 = f))
def rt_Q (p : Nat) (w s k a b : Nat → Nat) (f c : Nat) : Bool := rt_has f (c % 512) && rt_is p w k a b (c / 512) (s (c / 512)) (c % 512)
def rt_fk (k a b : Nat → Nat) (W f : Nat) : Bool := decide (k f = W % 4) && ((decide (4 ≤ W / 4 % 8) || decide (W / 4 % 8 = a f)) && (decide (4 ≤ W / 32 % 8) || decide (W / 32 % 8 = b f)))
def rt_ft (p : Nat) (k a b : Nat → Nat) (W f : Nat) : Bool := p.testBit f && rt_fk k a b W f
def rt_pos (p : Nat) (w s k a b : Nat → Nat) (r : Nat) : Bool := decide (0 < rt_ct p w k a b r (s r))
def rt_lc (z : Nat) : Int32 := if z = 7 then -1 else nI z
theorem rt_rdylt (P : Nat → Bool) (r : Nat) : rt_rdy P r < 2 ^ r := by
  induction r with
  | zero => exact Nat.one_pos
  | succ r ih =>
    unfold rt_rdy
    have e : 2 ^ (r + 1) = 2 ^ r + 2 ^ r := by rw [Nat.pow_succ]; omega
    by_cases h : P r = true
    · rw [if_pos h]; omega
    · rw [if_neg h]; omega
theorem rt_Qe {p : Nat} {w s k a b : Nat → Nat} {f r m : Nat} (hm : m < 512) : rt_Q p w s k a b f (512 * r + m) = (rt_has f m && rt_is p w k a b r (s r) m) := by
  unfold rt_Q
  have e1 : (512 * r + m) % 512 = m := by omega
  have e2 : (512 * r + m) / 512 = r := by omega
  rw [e1, e2]
theorem rt_nar1 : vp_nar .boolean 1 = 1 := rfl
theorem rt_nar0 : vp_nar .boolean 0 = 0 := rfl
theorem rt_rb {x : Bool} {P : Int32 → Prop} (y : Bool) (e : x = y) (h : P (rt_b x)) : P (rt_b y) := e ▸ h
theorem rt_fd0 {c : Nat} (hc : c < 512) : nI c &&& 7 = nI (rt_fd c 0) := by
  rw [pk_andN (by omega) 3 (by decide)]
  unfold rt_fd
  simp
theorem rt_fd1 {c : Nat} (hc : c < 512) : (nI c >>> ((3 : Int32) &&& 31)) &&& 7 = nI (rt_fd c 1) := rt_fdI (x := 1) (by omega) (by decide)
theorem rt_fd2 {c : Nat} (hc : c < 512) : nI c >>> ((6 : Int32) &&& 31) = nI (rt_fd c 2) := by
  rw [pk_shrN (by omega) _ 6 (by decide)]
  unfold rt_fd
  have e : c / 8 ^ 2 % 8 = c / 2 ^ 6 := by
    have h1 : (8 : Nat) ^ 2 = 64 := rfl
    rw [h1]; omega
  rw [e]
section
variable {p : Nat} {w s k a b : Nat → Nat}
theorem rt_ctle (r n : Nat) : rt_ct p w k a b r n ≤ 512 := rt_cnle _ _
theorem rt_xml (H : rt_ok p w s k a b) {post : Int32 → Prop} {K : Int32} {r : Nat} (hr : r < 3) : ∀ d c l : Nat, c + d = 512 → post (rt_find (rt_is p w k a b r (s r)) K d c l) → wX_match_14 post (nI r) K (nI p) (rt_f w) (rt_f s) (rt_f k) (rt_f a) (rt_f b) (d + 1) (nI l) (nI c) := by
  intro d
  induction d with
  | zero =>
    intro c l hc h
    have : c = 512 := by omega
    subst this
    exact br_t (nI_le (a := 512) (by omega) (by decide)) h
  | succ d ih =>
    intro c l hc h
    unfold rt_find at h
    refine br_f (nI_ge (b := 512) (by omega) (by decide)) ⟨vp_in_nI hr (by decide), rt_xis H (rt_rd (by omega)) hr (rt_hs H r) (by omega) (rt_bb (fun e => nm_r (nI_1 c) (ih (c + 1) l (by omega) ?_)) (fun e => ?_))⟩
    · rw [if_neg (by rw [e]; simp)] at h
      exact h
    · rw [if_pos e] at h
      by_cases z : nI l = K
      · rw [if_pos z] at h
        exact br_t z h
      · rw [if_neg z] at h
        exact br_f z (nm_r (nI_1 l) (nm_r (nI_1 c) (ih (c + 1) (l + 1) (by omega) h)))
theorem rt_yml (H : rt_ok p w s k a b) {post : Int32 → SY → Prop} {K : Int32} {r : Nat} (hr : r < 3) : ∀ (d c l : Nat) (bd : Nat → Int32), c + d = 512 → (∀ bd', post (rt_find (rt_is p w k a b r (s r)) K d c l) (rt_th p, rt_f k, rt_f a, rt_f b, rt_f s, rt_f w, bd')) → wY_match_5 post (nI r) K (d + 1) (nI l) (nI c) (rt_th p) (rt_f k) (rt_f a) (rt_f b) (rt_f s) (rt_f w) bd := by
  intro d
  induction d with
  | zero =>
    intro c l bd hc h
    have : c = 512 := by omega
    subst this
    exact br_t (nI_le (a := 512) (by omega) (by decide)) (h bd)
  | succ d ih =>
    intro c l bd hc h
    unfold rt_find at h
    refine br_f (nI_ge (b := 512) (by omega) (by decide)) (rt_yrule hr (br_f (by decide) ⟨vp_in_nI hr (by decide), rt_yis H (rt_rd (by omega)) hr (rt_hs H r) (by omega) (fun bd1 => rt_bb (fun e => nm_r (nI_1 c) (ih (c + 1) l bd1 (by omega) ?_)) (fun e => ?_))⟩))
    · rw [if_neg (by rw [e]; simp)] at h
      exact h
    · rw [if_pos e] at h
      by_cases z : nI l = K
      · rw [if_pos z] at h
        exact br_t z (h bd1)
      · rw [if_neg z] at h
        exact br_f z (nm_r (nI_1 l) (nm_r (nI_1 c) (ih (c + 1) (l + 1) bd1 (by omega) h)))
theorem rt_xrl (H : rt_ok p w s k a b) {post : Int32 → Prop} (h : post (nI (rt_rdy (rt_pos p w s k a b) 3))) : ∀ d r : Nat, r + d = 3 → wX_ready_4 post (nI p) (rt_f w) (rt_f s) (rt_f k) (rt_f a) (rt_f b) (d + 1) (nI (rt_rdy (rt_pos p w s k a b) r)) (nI r) := by
  intro d
  induction d with
  | zero =>
    intro r hr
    have : r = 3 := by omega
    subst this
    exact br_t (nI_le (a := 3) (by omega) (by decide)) h
  | succ d ih =>
    intro r hr
    have ih1 := ih (r + 1) (by omega)
    unfold rt_rdy at ih1
    have hl := rt_ctle (p := p) (w := w) (k := k) (a := a) (b := b) r (s r)
    refine br_f (nI_ge (b := 3) (by omega) (by decide)) ⟨vp_in_nI (by omega) (by decide), rt_xct H (rt_rd (by omega)) (by omega) (rt_hs H r) ?_⟩
    by_cases z : 0 < rt_ct p w k a b r (s r)
    · rw [if_pos (show rt_pos p w s k a b r = true from decide_eq_true z)] at ih1
      have hz := rt_rdylt (rt_pos p w s k a b) r
      have hz2 : 2 ^ r ≤ 4 := Nat.pow_le_pow_right (n := 2) (j := 2) (by decide) (by omega)
      refine br_f (nI_nle z (by omega)) (nm_r (rt_rdyI _ (by omega) r (by omega) hz) (nm_r (nI_1 r) ih1))
    · rw [if_neg (show ¬ rt_pos p w s k a b r = true from fun y => z (of_decide_eq_true y))] at ih1
      exact br_t (nI_le (b := 0) (by omega) (by decide)) (nm_r (nI_1 r) ih1)
theorem rt_yrl (H : rt_ok p w s k a b) {post : Int32 → SY → Prop} (h : ∀ bd', post (nI (rt_rdy (rt_pos p w s k a b) 3)) (rt_th p, rt_f k, rt_f a, rt_f b, rt_f s, rt_f w, bd')) : ∀ (d r : Nat) (bd : Nat → Int32), r + d = 3 → wY_ready_4 post (d + 1) (nI (rt_rdy (rt_pos p w s k a b) r)) (nI r) (rt_th p) (rt_f k) (rt_f a) (rt_f b) (rt_f s) (rt_f w) bd := by
  intro d
  induction d with
  | zero =>
    intro r bd hr
    have : r = 3 := by omega
    subst this
    exact br_t (nI_le (a := 3) (by omega) (by decide)) (h bd)
  | succ d ih =>
    intro r bd hr
    have hl := rt_ctle (p := p) (w := w) (k := k) (a := a) (b := b) r (s r)
    refine br_f (nI_ge (b := 3) (by omega) (by decide)) (rt_ymt H (by omega) (fun bd1 => ?_))
    have ih1 := ih (r + 1) bd1 (by omega)
    unfold rt_rdy at ih1
    by_cases z : 0 < rt_ct p w k a b r (s r)
    · rw [if_pos (show rt_pos p w s k a b r = true from decide_eq_true z)] at ih1
      have hz := rt_rdylt (rt_pos p w s k a b) r
      have hz2 : 2 ^ r ≤ 4 := Nat.pow_le_pow_right (n := 2) (j := 2) (by decide) (by omega)
      refine br_f (nI_nle z (by omega)) (nm_r (rt_rdyI _ (by omega) r (by omega) hz) (nm_r (nI_1 r) ih1))
    · rw [if_neg (show ¬ rt_pos p w s k a b r = true from fun y => z (of_decide_eq_true y))] at ih1
      exact br_t (nI_le (b := 0) (by omega) (by decide)) (nm_r (nI_1 r) ih1)
theorem rt_xhp {post : Int32 → Prop} {f c : Nat} (hf : f < 7) (hc : c < 512) (h : post (rt_b (rt_has f c))) : wpX_hasPlace post (nI f) (nI c) := by
  unfold rt_has at h
  have l0 := rt_fdlt c 0
  have l1 := rt_fdlt c 1
  have l2 := rt_fdlt c 2
  refine ⟨4, br_f (by decide) (rt_xfa (i := 0) hc (by decide) ?_)⟩
  by_cases e0 : rt_fd c 0 = f
  · rw [decide_eq_true e0] at h
    exact br_t (congrArg nI e0) h
  · rw [decide_eq_false e0] at h
    refine br_f (rt_ne (by omega) (by omega) e0) (nm_r (show (0 : Int32) + 1 = 1 from rfl) (br_f (by decide) (rt_xfa (i := 1) hc (by decide) ?_)))
    by_cases e1 : rt_fd c 1 = f
    · rw [decide_eq_true e1] at h
      exact br_t (congrArg nI e1) h
    · rw [decide_eq_false e1] at h
      refine br_f (rt_ne (by omega) (by omega) e1) (nm_r (show (1 : Int32) + 1 = 2 from rfl) (br_f (by decide) (rt_xfa (i := 2) hc (by decide) ?_)))
      by_cases e2 : rt_fd c 2 = f
      · rw [decide_eq_true e2] at h
        exact br_t (congrArg nI e2) h
      · rw [decide_eq_false e2] at h
        exact br_f (rt_ne (by omega) (by omega) e2) (nm_r (show (2 : Int32) + 1 = 3 from rfl) (br_t (by decide) h))
theorem rt_xul (H : rt_ok p w s k a b) {post : Int32 → Prop} {J : Int32 → Int32 → Prop} {f r : Nat} (hf : f < 7) (hr : r < 3) (hJ : J (nI (rt_cn (rt_Q p w s k a b f) (512 * r + 512))) (nI (r + 1))) : ∀ d m : Nat, m + d = 512 → wX_uses_22 post J (nI f) (nI r) (nI p) (rt_f w) (rt_f s) (rt_f k) (rt_f a) (rt_f b) (d + 1) (nI (rt_cn (rt_Q p w s k a b f) (512 * r + m))) (nI m) := by
  intro d
  induction d with
  | zero =>
    intro m hm
    have : m = 512 := by omega
    subst this
    exact br_t (nI_le (a := 512) (by omega) (by decide)) (nm_r (nI_1 r) hJ)
  | succ d ih =>
    intro m hm
    have ih1 : wX_uses_22 post J (nI f) (nI r) (nI p) (rt_f w) (rt_f s) (rt_f k) (rt_f a) (rt_f b) (d + 1) (nI (rt_cn (rt_Q p w s k a b f) (512 * r + m + 1))) (nI (m + 1)) := ih (m + 1) (by omega)
    unfold rt_cn at ih1
    rw [rt_Qe (by omega)] at ih1
    refine br_f (nI_ge (b := 512) (by omega) (by decide)) (rt_xhp hf (by omega) (rt_bb (fun e => nm_r (nI_1 m) ?_) (fun e => ⟨vp_in_nI hr (by decide), rt_xis H (rt_rd (by omega)) hr (rt_hs H r) (by omega) (rt_bb (fun e2 => nm_r (nI_1 m) ?_) (fun e2 => nm_r (nI_1 _) (nm_r (nI_1 m) ?_)))⟩)))
    · rw [if_neg (by rw [e]; simp)] at ih1
      exact ih1
    · rw [if_neg (by rw [e, e2]; simp)] at ih1
      exact ih1
    · rw [if_pos (by rw [e, e2]; rfl)] at ih1
      exact ih1
theorem rt_xuo (H : rt_ok p w s k a b) {post : Int32 → Prop} {f : Nat} (hf : f < 7) (h : post (nI (rt_cn (rt_Q p w s k a b f) 1536))) : ∀ d r : Nat, r + d = 3 → wX_uses_14 post (nI f) (nI p) (rt_f w) (rt_f s) (rt_f k) (rt_f a) (rt_f b) (d + 1) (nI (rt_cn (rt_Q p w s k a b f) (512 * r))) (nI r) := by
  intro d
  induction d with
  | zero =>
    intro r hr
    have : r = 3 := by omega
    subst this
    exact br_t (nI_le (a := 3) (by omega) (by decide)) h
  | succ d ih =>
    intro r hr
    have ih1 := ih (r + 1) (by omega)
    rw [show 512 * (r + 1) = 512 * r + 512 from by omega] at ih1
    exact br_f (nI_ge (b := 3) (by omega) (by decide)) ⟨_, rt_xul H hf (by omega) ih1 512 0 rfl⟩
theorem rt_yis2 (H : rt_ok p w s k a b) {post : Int32 → SY → Prop} {x y : Int32} {r n c : Nat} {bd : Nat → Int32} (hy : y = nI r) (hx : x = nI n) (hr : r < 3) (hn : n < 4) (hc : c < 512) (h : ∀ bd', post (rt_b (rt_is p w k a b r n c)) (rt_th p, rt_f k, rt_f a, rt_f b, rt_f s, rt_f w, bd')) : wpY_isMatch post (rt_th p, rt_f k, rt_f a, rt_f b, rt_f s, rt_f w, bd) y x (nI c) := by
  subst hy
  exact rt_yis H hx hr hn hc h
theorem rt_yul (H : rt_ok p w s k a b) {post : Int32 → SY → Prop} {f : Nat} (hf : f < 7) (h : ∀ bd', post (nI (rt_cn (rt_Q p w s k a b f) 1536)) (rt_th p, rt_f k, rt_f a, rt_f b, rt_f s, rt_f w, bd')) : ∀ (d m : Nat) (bd : Nat → Int32), m + d = 1536 → wY_uses_25 post (nI f) (d + 1) (nI (rt_cn (rt_Q p w s k a b f) m)) (nI m) (rt_th p) (rt_f k) (rt_f a) (rt_f b) (rt_f s) (rt_f w) bd := by
  intro d
  induction d with
  | zero =>
    intro m bd hm
    have : m = 1536 := by omega
    subst this
    exact br_t (nI_le (a := 1536) (by omega) (by decide)) (h bd)
  | succ d ih =>
    intro m bd hm
    have hc : m % 512 < 512 := Nat.mod_lt _ (by decide)
    have hr : m / 512 < 3 := by omega
    have ed : nI m / 512 = nI (m / 512) := pk_div (d := 512) (by omega) (by decide) (by decide)
    have ih1 : ∀ bd1, wY_uses_25 post (nI f) (d + 1) (nI (if rt_Q p w s k a b f m = true then rt_cn (rt_Q p w s k a b f) m + 1 else rt_cn (rt_Q p w s k a b f) m)) (nI (m + 1)) (rt_th p) (rt_f k) (rt_f a) (rt_f b) (rt_f s) (rt_f w) bd1 := fun bd1 => ih (m + 1) bd1 (by omega)
    have K0 : rt_has f (m % 512) = false → wY_uses_73 post (wY_uses_25 post (nI f) (d + 1)) (nI f) (nI (rt_cn (rt_Q p w s k a b f) m)) (nI m) (nI (m % 512)) 0 (rt_th p) (rt_f k) (rt_f a) (rt_f b) (rt_f s) (rt_f w) bd := by
      intro e
      have i2 := ih1 bd
      rw [if_neg (by unfold rt_Q; rw [e]; simp)] at i2
      exact br_t rfl (nm_r (nI_1 m) i2)
    have K1 : rt_has f (m % 512) = true → wY_uses_73 post (wY_uses_25 post (nI f) (d + 1)) (nI f) (nI (rt_cn (rt_Q p w s k a b f) m)) (nI m) (nI (m % 512)) 1 (rt_th p) (rt_f k) (rt_f a) (rt_f b) (rt_f s) (rt_f w) bd := by
      intro e
      refine br_f (by decide) ⟨by decide, by decide, pk_in (m / 512) 3 hr ed, rt_yis2 H ed (rt_rdx ed (by omega)) hr (rt_hs H _) hc (fun bd1 => rt_bb (fun e2 => nm_r (nI_1 m) ?_) (fun e2 => nm_r (nI_1 _) (nm_r (nI_1 m) ?_)))⟩
      · have i2 := ih1 bd1
        rw [if_neg (by unfold rt_Q; rw [e, e2]; simp)] at i2
        exact i2
      · have i2 := ih1 bd1
        rw [if_pos (by unfold rt_Q; rw [e, e2]; rfl)] at i2
        exact i2
    have l0 := rt_fdlt (m % 512) 0
    have l1 := rt_fdlt (m % 512) 1
    have l2 := rt_fdlt (m % 512) 2
    refine br_f (nI_ge (b := 1536) (by omega) (by decide)) ⟨by decide, nm_r (pk_rem (d := 512) (by omega) (by decide) (by decide)) ?_⟩
    rw [rt_fd0 hc, rt_fd1 hc, rt_fd2 hc]
    unfold rt_has at K0 K1
    by_cases e0 : rt_fd (m % 512) 0 = f
    · rw [decide_eq_true e0] at K1
      exact br_t (congrArg nI e0) (K1 rfl)
    · rw [decide_eq_false e0] at K0 K1
      refine br_f (rt_ne (by omega) (by omega) e0) ?_
      by_cases e1 : rt_fd (m % 512) 1 = f
      · rw [decide_eq_true e1] at K1
        exact br_t (congrArg nI e1) (K1 rfl)
      · rw [decide_eq_false e1] at K0 K1
        refine br_f (rt_ne (by omega) (by omega) e1) ?_
        by_cases e2 : rt_fd (m % 512) 2 = f
        · rw [decide_eq_true e2] at K1
          exact br_t (congrArg nI e2) (K1 rfl)
        · rw [decide_eq_false e2] at K0
          exact br_f (rt_ne (by omega) (by omega) e2) (K0 rfl)
end
