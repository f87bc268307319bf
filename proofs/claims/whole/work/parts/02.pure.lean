/-! the pure picture: facts p (bits), k, a, b (kind and values of each fact), w (conditions), s (sizes); q holds the bound variables, three bits each -/
def rt_fd (q x : Nat) : Nat := q / 8 ^ x % 8
def rt_bv (d v q : Nat) : Option Nat :=
  if d = 7 then some q
  else if d < 4 then (if d = v then some q else none)
  else if rt_fd q (d - 4) = 0 then some (q + (v + 1) * 8 ^ (d - 4))
  else if rt_fd q (d - 4) = v + 1 then some q else none
def rt_oc : Option Nat → Int32
  | none => -1
  | some q => nI q
def rt_b (c : Bool) : Int32 := if c = true then 1 else 0
def rt_bf (p : Nat) (k a b : Nat → Nat) (W f q : Nat) : Option Nat :=
  if p.testBit f = true ∧ k f = W % 4 then
    (match rt_bv (W / 4 % 8) (a f) q with
     | none => none
     | some q1 => rt_bv (W / 32 % 8) (b f) q1)
  else none
def rt_any (p : Nat) (k a b : Nat → Nat) (W q : Nat) : Nat → Bool
  | 0 => false
  | i + 1 => (rt_bf p k a b W i q).isSome || rt_any p k a b W q i
def rt_ps (p : Nat) (k a b : Nat → Nat) (W f q : Nat) : Option Nat :=
  if W < 256 then rt_bf p k a b W f q
  else if f = 7 ∧ rt_any p k a b W q 7 = false then some q else none
def rt_st (p : Nat) (w k a b : Nat → Nat) (r n c i q : Nat) : Option Nat :=
  if i < n then rt_ps p k a b (w (3 * r + i)) (rt_fd c i) q
  else if rt_fd c i = 7 then some q else none
def rt_run (p : Nat) (w k a b : Nat → Nat) (r n c : Nat) : Nat → Option Nat
  | 0 => some 0
  | i + 1 =>
    match rt_run p w k a b r n c i with
    | none => none
    | some q => rt_st p w k a b r n c i q
def rt_is (p : Nat) (w k a b : Nat → Nat) (r n c : Nat) : Bool := (rt_run p w k a b r n c 3).isSome
def rt_cn (P : Nat → Bool) : Nat → Nat
  | 0 => 0
  | m + 1 => if P m = true then rt_cn P m + 1 else rt_cn P m
def rt_ct (p : Nat) (w k a b : Nat → Nat) (r n : Nat) : Nat := rt_cn (rt_is p w k a b r n) 512
def rt_find (P : Nat → Bool) (K : Int32) : Nat → Nat → Nat → Int32
  | 0, _, _ => -1
  | d + 1, c, l => if P c = true then (if nI l = K then nI c else rt_find P K d (c + 1) (l + 1)) else rt_find P K d (c + 1) l
def rt_lfr (p : Nat) : Nat → Nat → Nat
  | 0, f => f
  | d + 1, f => if p.testBit f = true then rt_lfr p d (f + 1) else f
def rt_lf (p : Nat) : Nat := rt_lfr p 7 0
def rt_put (p f : Nat) : Nat := p ||| 2 ^ f
def rt_rm (p f : Nat) : Nat := p &&& ((2 ^ 7 - 1) ^^^ 2 ^ f)
def rt_up (g : Nat → Nat) (f v : Nat) : Nat → Nat := fun j => if j = f then v else g j
def rt_f (g : Nat → Nat) : Nat → Int32 := fun j => nI (g j)
def rt_th (p : Nat) : Nat → Int32 := fun j => if p.testBit j = true then 1 else 0
/-! numbers -/
theorem rt_bind : ∀ q, q < 512 → ∀ x, x < 3 → ∀ v, v < 4 → rt_fd q x = 0 → q + (v + 1) * 8 ^ x < 512 ∧ (∀ y, y < 3 → rt_fd (q + (v + 1) * 8 ^ x) y = if y = x then v + 1 else rt_fd q y) := by decide +kernel
theorem rt_orI : ∀ q, q < 512 → ∀ x, x < 3 → ∀ v, v < 4 → rt_fd q x = 0 → nI q ||| (nI (v + 1) <<< (nI (3 * x) &&& 31)) = nI (q + (v + 1) * 8 ^ x) := by decide +kernel
theorem rt_p8 {x : Nat} (hx : x < 3) : 2 ^ (3 * x) = 8 ^ x := by
  rw [Nat.pow_mul]
theorem rt_sh3 : ∀ x, x < 3 → ((nI (3 * x) &&& 31).toBitVec.smod 32).toNat = 3 * x := by decide +kernel
theorem rt_fdI {q x : Nat} (hq : q < 2 ^ 31) (hx : x < 3) : (nI q >>> (nI (3 * x) &&& 31)) &&& 7 = nI (rt_fd q x) := by
  rw [pk_shrN hq _ (3 * x) (rt_sh3 x hx), pk_andN (Nat.lt_of_le_of_lt (Nat.div_le_self _ _) (by omega)) 3 (by decide), rt_p8 hx]
  rfl
theorem rt_fdlt (q x : Nat) : rt_fd q x < 8 := Nat.mod_lt _ (by decide)
theorem rt_kd {W : Nat} (h : W < 512) : nI W &&& 3 = nI (W % 4) := pk_andN (by omega) 2 (by decide)
theorem rt_d1 {W : Nat} (h : W < 512) : (nI W >>> ((2 : Int32) &&& 31)) &&& 7 = nI (W / 4 % 8) := by
  rw [pk_shrN (by omega) _ 2 (by decide), pk_andN (Nat.lt_of_le_of_lt (Nat.div_le_self _ _) (by omega)) 3 (by decide)]
theorem rt_d2 {W : Nat} (h : W < 512) : (nI W >>> ((5 : Int32) &&& 31)) &&& 7 = nI (W / 32 % 8) := by
  rw [pk_shrN (by omega) _ 5 (by decide), pk_andN (Nat.lt_of_le_of_lt (Nat.div_le_self _ _) (by omega)) 3 (by decide)]
theorem rt_ng : ∀ W, W < 512 → (nI W &&& 256 = 0 ↔ W < 256) := by decide +kernel
theorem rt_bit : ∀ p, p < 128 → ∀ f, f < 7 → ((nI p >>> (nI f &&& 31)) &&& 1 = 1 ↔ p.testBit f = true) := by decide +kernel
theorem rt_putI : ∀ p, p < 128 → ∀ f, f < 7 → nI p ||| ((1 : Int32) <<< (nI f &&& 31)) = nI (rt_put p f) ∧ rt_put p f < 128 := by decide +kernel
theorem rt_rmI : ∀ p, p < 128 → ∀ f, f < 7 → nI p &&& (((1 : Int32) <<< (nI f &&& 31)) ^^^ (-1)) = nI (rt_rm p f) ∧ rt_rm p f < 128 := by decide +kernel
theorem rt_setI : ∀ p, p < 128 → ∀ f, f < 7 → (if p.testBit f = true then nI (p % 2 ^ f) ||| ((1 : Int32) <<< (nI f &&& 31)) else nI (p % 2 ^ f)) = nI (p % 2 ^ (f + 1)) := by decide +kernel
theorem rt_rdyI : ∀ z, z < 8 → ∀ f, f < 3 → z < 2 ^ f → nI z ||| ((1 : Int32) <<< (nI f &&& 31)) = nI (z + 2 ^ f) := by decide +kernel
theorem rt_lf7 : ∀ p, p < 128 → rt_lf p ≤ 7 ∧ (rt_lf p = 7 ↔ p = 127) ∧ (rt_lf p < 7 → p.testBit (rt_lf p) = false) := by decide +kernel
theorem rt_p7 {p j : Nat} (hp : p < 128) (hj : 7 ≤ j) : p.testBit j = false :=
  Nat.testBit_lt_two_pow (Nat.lt_of_lt_of_le hp (Nat.pow_le_pow_right (n := 2) (by decide) hj))
theorem rt_thput (p f : Nat) : upd (rt_th p) f 1 = rt_th (rt_put p f) := by
  funext j
  unfold upd rt_th rt_put
  rw [Nat.testBit_or, Nat.testBit_two_pow]
  by_cases h : j = f
  · subst h; simp
  · have h' : ¬ f = j := fun e => h e.symm
    simp [h, h']
theorem rt_thrm {p : Nat} (f : Nat) (hp : p < 128) : upd (rt_th p) f 0 = rt_th (rt_rm p f) := by
  funext j
  unfold upd rt_th rt_rm
  rw [Nat.testBit_and, Nat.testBit_xor, Nat.testBit_two_pow_sub_one, Nat.testBit_two_pow]
  by_cases h : j = f
  · subst h
    by_cases h7 : j < 7
    · simp [h7]
    · simp [rt_p7 hp (by omega : 7 ≤ j)]
  · have h' : ¬ f = j := fun e => h e.symm
    by_cases h7 : j < 7
    · simp [h, h', h7]
    · simp [h, h', rt_p7 hp (by omega : 7 ≤ j)]
theorem rt_upd (g : Nat → Nat) (f v : Nat) : upd (rt_f g) f (nI v) = rt_f (rt_up g f v) := by
  funext j
  unfold upd rt_f rt_up
  by_cases h : j = f
  · simp [h]
  · simp [h]
theorem rt_uplt {g : Nat → Nat} {f v m : Nat} (h : ∀ j, g j < m) (hv : v < m) : ∀ j, rt_up g f v j < m := by
  intro j
  unfold rt_up
  by_cases e : j = f
  · rw [if_pos e]; exact hv
  · rw [if_neg e]; exact h j
theorem rt_f0 : (fun _ => 0 : Nat → Int32) = rt_f (fun _ => 0) := rfl
theorem rt_th0 : (fun _ => 0 : Nat → Int32) = rt_th 0 := by
  funext j
  unfold rt_th
  simp
theorem rt_m1 {q : Nat} (h : q < 2 ^ 31) : ¬ nI q = -1 := by
  intro e
  have h1 := congrArg Int32.toInt e
  rw [nI_toInt h, show (-1 : Int32).toInt = -1 from by decide] at h1
  omega
theorem rt_ocN {o : Option Nat} (h : ∀ q, o = some q → q < 512) : rt_oc o = -1 ↔ o = none := by
  cases o with
  | none => exact ⟨fun _ => rfl, fun _ => rfl⟩
  | some q => exact ⟨fun e => absurd e (rt_m1 (Nat.lt_trans (h q rfl) (by decide))), fun e => nomatch e⟩
theorem rt_bvlt {d v q q' : Nat} (hd : d < 8) (hv : v < 4) (hq : q < 512) (h : rt_bv d v q = some q') : q' < 512 := by
  unfold rt_bv at h
  by_cases h7 : d = 7
  · rw [if_pos h7] at h; cases h; exact hq
  · rw [if_neg h7] at h
    by_cases h4 : d < 4
    · rw [if_pos h4] at h
      by_cases e : d = v
      · rw [if_pos e] at h; cases h; exact hq
      · rw [if_neg e] at h; cases h
    · rw [if_neg h4] at h
      by_cases z : rt_fd q (d - 4) = 0
      · rw [if_pos z] at h; cases h; exact (rt_bind q hq (d - 4) (by omega) v hv z).1
      · rw [if_neg z] at h
        by_cases e : rt_fd q (d - 4) = v + 1
        · rw [if_pos e] at h; cases h; exact hq
        · rw [if_neg e] at h; cases h
theorem rt_bflt {p : Nat} {k a b : Nat → Nat} (ha : ∀ j, a j < 4) (hb : ∀ j, b j < 4) {W f q q' : Nat} (hq : q < 512) (h : rt_bf p k a b W f q = some q') : q' < 512 := by
  unfold rt_bf at h
  by_cases c : p.testBit f = true ∧ k f = W % 4
  · rw [if_pos c] at h
    cases e : rt_bv (W / 4 % 8) (a f) q with
    | none => rw [e] at h; cases h
    | some q1 =>
      rw [e] at h
      exact rt_bvlt (Nat.mod_lt _ (by decide)) (hb f) (rt_bvlt (Nat.mod_lt _ (by decide)) (ha f) hq e) h
  · rw [if_neg c] at h; cases h
theorem rt_pslt {p : Nat} {k a b : Nat → Nat} (ha : ∀ j, a j < 4) (hb : ∀ j, b j < 4) {W f q q' : Nat} (hq : q < 512) (h : rt_ps p k a b W f q = some q') : q' < 512 := by
  unfold rt_ps at h
  by_cases c : W < 256
  · rw [if_pos c] at h; exact rt_bflt ha hb hq h
  · rw [if_neg c] at h
    by_cases c2 : f = 7 ∧ rt_any p k a b W q 7 = false
    · rw [if_pos c2] at h; cases h; exact hq
    · rw [if_neg c2] at h; cases h
theorem rt_stlt {p : Nat} {w k a b : Nat → Nat} (ha : ∀ j, a j < 4) (hb : ∀ j, b j < 4) {r n c i q q' : Nat} (hq : q < 512) (h : rt_st p w k a b r n c i q = some q') : q' < 512 := by
  unfold rt_st at h
  by_cases e : i < n
  · rw [if_pos e] at h; exact rt_pslt ha hb hq h
  · rw [if_neg e] at h
    by_cases c2 : rt_fd c i = 7
    · rw [if_pos c2] at h; cases h; exact hq
    · rw [if_neg c2] at h; cases h
theorem rt_anyT {p : Nat} {k a b : Nat → Nat} {W q i j : Nat} (hij : i ≤ j) (h : rt_any p k a b W q i = true) : rt_any p k a b W q j = true := by
  induction j with
  | zero => have : i = 0 := by omega
            subst this; exact h
  | succ j ih =>
    by_cases e : i = j + 1
    · subst e; exact h
    · show ((rt_bf p k a b W j q).isSome || rt_any p k a b W q j) = true
      rw [ih (by omega), Bool.or_true]
theorem rt_runN {p : Nat} {w k a b : Nat → Nat} {r n c i j : Nat} (hij : i ≤ j) (h : rt_run p w k a b r n c i = none) : rt_run p w k a b r n c j = none := by
  induction j with
  | zero => have : i = 0 := by omega
            subst this; exact h
  | succ j ih =>
    by_cases e : i = j + 1
    · subst e; exact h
    · show (match rt_run p w k a b r n c j with | none => none | some q => rt_st p w k a b r n c j q) = none
      rw [ih (by omega)]
theorem rt_runS {p : Nat} {w k a b : Nat → Nat} {r n c i q : Nat} (h : rt_run p w k a b r n c i = some q) : rt_run p w k a b r n c (i + 1) = rt_st p w k a b r n c i q := by
  show (match rt_run p w k a b r n c i with | none => none | some q => rt_st p w k a b r n c i q) = _
  rw [h]
theorem rt_cnle (P : Nat → Bool) (m : Nat) : rt_cn P m ≤ m := by
  induction m with
  | zero => exact Nat.le_refl 0
  | succ m ih =>
    unfold rt_cn
    by_cases h : P m = true
    · rw [if_pos h]; omega
    · rw [if_neg h]; omega
