section
theorem pk_us {f : Nat → Int32} {k : Nat} {x : Int32} : upd f k x k = x := if_pos rfl
theorem pk_un {f : Nat → Int32} {k j : Nat} {x : Int32} (h : j ≠ k) : upd f k x j = f j := if_neg h
theorem pk_uLs {f : Nat → Int64} {k : Nat} {x : Int64} : vp_updL f k x k = x := if_pos rfl
theorem pk_uLn {f : Nat → Int64} {k j : Nat} {x : Int64} (h : j ≠ k) : vp_updL f k x j = f j := if_neg h
theorem pk_sub {a b : Nat} (h : b ≤ a) : nI a - nI b = nI (a - b) := by
  obtain ⟨c, rfl⟩ : ∃ c, a = c + b := ⟨a - b, by omega⟩
  rw [← nI_add, Int32.add_sub_cancel, Nat.add_sub_cancel]
theorem pk_m1 (n : Nat) : nI (n + 1) + (-1) = nI n := by
  rw [← nI_1, Int32.add_assoc, show (1 : Int32) + (-1) = 0 from rfl, Int32.add_zero]
theorem pk_mul (a b : Nat) : nI a * nI b = nI (a * b) := (Int32.ofNat_mul a b).symm
theorem pk_div {a d : Nat} (ha : a < 2 ^ 31) (h0 : 0 < d) (hd : d < 2 ^ 31) : nI a / nI d = nI (a / d) := by
  apply Int32.toInt_inj.mp
  rw [lg_idiv_nonneg (by rw [nI_toInt ha]; omega) (by rw [nI_toInt hd]; omega), nI_toInt ha, nI_toInt hd, nI_toInt (Nat.lt_of_le_of_lt (Nat.div_le_self a d) ha)]
  first | rfl | exact (Int.natCast_ediv _ _).symm
theorem pk_rem {a d : Nat} (ha : a < 2 ^ 31) (h0 : 0 < d) (hd : d < 2 ^ 31) : nI a - nI a / nI d * nI d = nI (a % d) := by
  rw [pk_div ha h0 hd, pk_mul, pk_sub (Nat.div_mul_le_self a d)]
  exact congrArg nI (by have := Nat.div_add_mod' a d; omega)
theorem pk_sub_toInt {a b : Nat} (ha : a < 2 ^ 30) (hb : b < 2 ^ 30) : (nI a - nI b).toInt = (a : Int) - b := by
  rw [Int32.toInt_sub, nI_toInt (by omega), nI_toInt (by omega)]
  exact Int.bmod_eq_of_le (by omega) (by omega)
theorem pk_sneg {a b : Nat} (hb : b < 2 ^ 30) (h : a < b) : nI a - nI b < 0 := by
  rw [Int32.lt_iff_toInt_lt, pk_sub_toInt (by omega) hb, show (0 : Int32).toInt = 0 from by decide]
  omega
theorem pk_ix (x : Int32) {n : Nat} (hn : n < 2 ^ 31) : x < 0 ∨ nI n ≤ x ∨ ∃ j : Nat, j < n ∧ x = nI j := by
  by_cases h : x < 0
  · exact Or.inl h
  · obtain ⟨j, hj, rfl⟩ := nI_of h
    by_cases h2 : j < n
    · exact Or.inr (Or.inr ⟨j, h2, rfl⟩)
    · exact Or.inr (Or.inl (nI_le (by omega) hj))
theorem pk_le {x y : Int32} {A B : Prop} (a b : Nat) (f : a ≤ b → A) (g : b < a → B) (hx : x = nI a := by rfl) (hy : y = nI b := by rfl) (ha : a < 2 ^ 31 := by omega) (hb : b < 2 ^ 31 := by omega) : (x ≤ y → A) ∧ (¬ x ≤ y → B) := by
  subst hx hy
  rw [nI_leI ha hb]
  exact ⟨f, fun z => g (by omega)⟩
theorem pk_lt {x y : Int32} {A B : Prop} (a b : Nat) (f : a < b → A) (g : b ≤ a → B) (hx : x = nI a := by rfl) (hy : y = nI b := by rfl) (ha : a < 2 ^ 31 := by omega) (hb : b < 2 ^ 31 := by omega) : (x < y → A) ∧ (¬ x < y → B) := by
  subst hx hy
  rw [nI_ltI ha hb]
  exact ⟨f, fun z => g (by omega)⟩
theorem pk_eq {x y : Int32} {A B : Prop} (a b : Nat) (f : a = b → A) (g : a ≠ b → B) (hx : x = nI a := by rfl) (hy : y = nI b := by rfl) (ha : a < 2 ^ 31 := by omega) (hb : b < 2 ^ 31 := by omega) : (x = y → A) ∧ (¬ x = y → B) := by
  subst hx hy
  rw [nI_eq ha hb]
  exact ⟨f, g⟩
theorem pk_in {x : Int32} (n N : Nat) (h : n < N) (hx : x = nI n := by rfl) (hN : N < 2 ^ 31 := by omega) : vp_in x N := by
  subst hx
  exact vp_in_nI h hN
theorem pk_cl {x : Int32} (n : Nat) (hx : x = nI n := by rfl) (h : n < 2 ^ 31 := by omega) : x.toNatClampNeg = n := by
  subst hx
  exact nI_clamp h
theorem pk_tn {n : Nat} (h : n < 2 ^ 32) : (nI n).toBitVec.toNat = n := Nat.mod_eq_of_lt h
theorem pk_and (x : Int32) {m : Int32} (k : Nat) (hm : m.toBitVec.toNat = 2 ^ k - 1) : x &&& m = nI (x.toBitVec.toNat % 2 ^ k) := by
  apply Int32.toBitVec_inj.mp
  apply BitVec.eq_of_toNat_eq
  rw [Int32.toBitVec_and, BitVec.toNat_and, hm, Nat.and_two_pow_sub_one_eq_mod]
  show _ = (BitVec.ofNat 32 _).toNat
  rw [BitVec.toNat_ofNat]
  exact (Nat.mod_eq_of_lt (Nat.lt_of_le_of_lt (Nat.mod_le _ _) x.toBitVec.isLt)).symm
theorem pk_andN {n : Nat} (h : n < 2 ^ 32) {m : Int32} (k : Nat) (hm : m.toBitVec.toNat = 2 ^ k - 1) : nI n &&& m = nI (n % 2 ^ k) := by
  rw [pk_and _ k hm, pk_tn h]
theorem pk_andE (x : Int32) {m : Int32} (k : Nat) (hm : m.toBitVec.toNat = 2 ^ k - 1) : ∃ j : Nat, j < 2 ^ k ∧ x &&& m = nI j := ⟨_, Nat.mod_lt _ (Nat.two_pow_pos k), pk_and x k hm⟩
theorem pk_andIn (x : Int32) {m : Int32} (k : Nat) (hm : m.toBitVec.toNat = 2 ^ k - 1) (hk : k ≤ 30) : vp_in (x &&& m) (2 ^ k) := by
  obtain ⟨j, hj, e⟩ := pk_andE x k hm
  rw [e]
  exact vp_in_nI hj (Nat.lt_of_le_of_lt (Nat.pow_le_pow_right (by decide) hk) (by decide))
theorem pk_shl (a s : Int32) (k : Nat) (hs : (s.toBitVec.smod 32).toNat = k) : (a <<< s).toBitVec.toNat = a.toBitVec.toNat * 2 ^ k % 2 ^ 32 := by
  show (a.toBitVec <<< (s.toBitVec.smod 32).toNat).toNat = _
  rw [hs, BitVec.toNat_shiftLeft, Nat.shiftLeft_eq]
theorem pk_shlN {n : Nat} (s : Int32) (k : Nat) (hs : (s.toBitVec.smod 32).toNat = k) (h : n * 2 ^ k < 2 ^ 32) : nI n <<< s = nI (n * 2 ^ k) := by
  apply Int32.toBitVec_inj.mp
  apply BitVec.eq_of_toNat_eq
  have hn : n < 2 ^ 32 := Nat.lt_of_le_of_lt (Nat.le_mul_of_pos_right n (Nat.two_pow_pos k)) h
  rw [pk_shl _ _ k hs, pk_tn hn, pk_tn h, Nat.mod_eq_of_lt h]
theorem pk_shr (a s : Int32) (k : Nat) (hs : (s.toBitVec.smod 32).toNat = k) : (a >>> s).toInt = a.toInt >>> k := by
  show (a.toBitVec.sshiftRight (s.toBitVec.smod 32).toNat).toInt = _
  rw [hs, BitVec.toInt_sshiftRight]
  rfl
theorem pk_shrN {n : Nat} (h : n < 2 ^ 31) (s : Int32) (k : Nat) (hs : (s.toBitVec.smod 32).toNat = k) : nI n >>> s = nI (n / 2 ^ k) := by
  apply Int32.toInt_inj.mp
  have h2 : n / 2 ^ k ≤ n := Nat.div_le_self _ _
  rw [pk_shr _ _ k hs, nI_toInt h, nI_toInt (by omega), Int.shiftRight_eq_div_pow]
  rfl
theorem ek_if {c d A B : Prop} (e : c ↔ d) (f : d → A) (g : ¬ d → B) : (c → A) ∧ (¬ c → B) :=
  ⟨fun z => f (e.mp z), fun z => g (fun y => z (e.mpr y))⟩
theorem ek_v {α : Sort _} {P : α → Prop} {a b : α} (e : a = b) (h : P b) : P a := e ▸ h
end
section
/-! the pure picture: facts p (bits), k, a, b (kind and values of each fact), w (conditions), s (sizes); q holds the bound variables, three bits each -/
def rt_fd (q x : Nat) : Nat := q / 8 ^ x % 8
def rt_bv (d v q : Nat) : Option Nat :=
  if d = 7 then some q
  else if d < 4 then (if d = v then some q else none)
  else if rt_fd q (d - 4) = 0 then some (q + (v + 1) * 8 ^ (d - 4))
  else if rt_fd q (d - 4) = v + 1 then some q else none
def rt_oc : Option Nat → Int32
  | none => -1
  | some q => nI q
def rt_b (c : Bool) : Int32 := if c = true then 1 else 0
def rt_bf (p : Nat) (k a b : Nat → Nat) (W f q : Nat) : Option Nat :=
  if p.testBit f = true ∧ k f = W % 4 then
    (match rt_bv (W / 4 % 8) (a f) q with
     | none => none
     | some q1 => rt_bv (W / 32 % 8) (b f) q1)
  else none
def rt_any (p : Nat) (k a b : Nat → Nat) (W q : Nat) : Nat → Bool
  | 0 => false
  | i + 1 => (rt_bf p k a b W i q).isSome || rt_any p k a b W q i
def rt_ps (p : Nat) (k a b : Nat → Nat) (W f q : Nat) : Option Nat :=
  if W < 256 then rt_bf p k a b W f q
  else if f = 7 ∧ rt_any p k a b W q 7 = false then some q else none
def rt_st (p : Nat) (w k a b : Nat → Nat) (r n c i q : Nat) : Option Nat :=
  if i < n then rt_ps p k a b (w (3 * r + i)) (rt_fd c i) q
  else if rt_fd c i = 7 then some q else none
def rt_run (p : Nat) (w k a b : Nat → Nat) (r n c : Nat) : Nat → Option Nat
  | 0 => some 0
  | i + 1 =>
    match rt_run p w k a b r n c i with
    | none => none
    | some q => rt_st p w k a b r n c i q
def rt_is (p : Nat) (w k a b : Nat → Nat) (r n c : Nat) : Bool := (rt_run p w k a b r n c 3).isSome
def rt_cn (P : Nat → Bool) : Nat → Nat
  | 0 => 0
  | m + 1 => if P m = true then rt_cn P m + 1 else rt_cn P m
def rt_ct (p : Nat) (w k a b : Nat → Nat) (r n : Nat) : Nat := rt_cn (rt_is p w k a b r n) 512
def rt_find (P : Nat → Bool) (K : Int32) : Nat → Nat → Nat → Int32
  | 0, _, _ => -1
  | d + 1, c, l => if P c = true then (if nI l = K then nI c else rt_find P K d (c + 1) (l + 1)) else rt_find P K d (c + 1) l
def rt_lfr (p : Nat) : Nat → Nat → Nat
  | 0, f => f
  | d + 1, f => if p.testBit f = true then rt_lfr p d (f + 1) else f
def rt_lf (p : Nat) : Nat := rt_lfr p 7 0
def rt_put (p f : Nat) : Nat := p ||| 2 ^ f
def rt_rm (p f : Nat) : Nat := p &&& ((2 ^ 7 - 1) ^^^ 2 ^ f)
def rt_up (g : Nat → Nat) (f v : Nat) : Nat → Nat := fun j => if j = f then v else g j
def rt_f (g : Nat → Nat) : Nat → Int32 := fun j => nI (g j)
def rt_th (p : Nat) : Nat → Int32 := fun j => if p.testBit j = true then 1 else 0
/-! numbers -/
theorem rt_bind : ∀ q, q < 512 → ∀ x, x < 3 → ∀ v, v < 4 → rt_fd q x = 0 → q + (v + 1) * 8 ^ x < 512 ∧ (∀ y, y < 3 → rt_fd (q + (v + 1) * 8 ^ x) y = if y = x then v + 1 else rt_fd q y) := by decide +kernel
theorem rt_orI : ∀ q, q < 512 → ∀ x, x < 3 → ∀ v, v < 4 → rt_fd q x = 0 → nI q ||| (nI (v + 1) <<< (nI (3 * x) &&& 31)) = nI (q + (v + 1) * 8 ^ x) := by decide +kernel
theorem rt_p8 {x : Nat} (hx : x < 3) : 2 ^ (3 * x) = 8 ^ x := by
  rw [Nat.pow_mul]
theorem rt_sh3 : ∀ x, x < 3 → ((nI (3 * x) &&& 31).toBitVec.smod 32).toNat = 3 * x := by decide +kernel
theorem rt_fdI {q x : Nat} (hq : q < 2 ^ 31) (hx : x < 3) : (nI q >>> (nI (3 * x) &&& 31)) &&& 7 = nI (rt_fd q x) := by
  rw [pk_shrN hq _ (3 * x) (rt_sh3 x hx), pk_andN (Nat.lt_of_le_of_lt (Nat.div_le_self _ _) (by omega)) 3 (by decide), rt_p8 hx]
  rfl
theorem rt_fdlt (q x : Nat) : rt_fd q x < 8 := Nat.mod_lt _ (by decide)
theorem rt_kd {W : Nat} (h : W < 512) : nI W &&& 3 = nI (W % 4) := pk_andN (by omega) 2 (by decide)
theorem rt_d1 {W : Nat} (h : W < 512) : (nI W >>> ((2 : Int32) &&& 31)) &&& 7 = nI (W / 4 % 8) := by
  rw [pk_shrN (by omega) _ 2 (by decide), pk_andN (Nat.lt_of_le_of_lt (Nat.div_le_self _ _) (by omega)) 3 (by decide)]
theorem rt_d2 {W : Nat} (h : W < 512) : (nI W >>> ((5 : Int32) &&& 31)) &&& 7 = nI (W / 32 % 8) := by
  rw [pk_shrN (by omega) _ 5 (by decide), pk_andN (Nat.lt_of_le_of_lt (Nat.div_le_self _ _) (by omega)) 3 (by decide)]
theorem rt_ng : ∀ W, W < 512 → (nI W &&& 256 = 0 ↔ W < 256) := by decide +kernel
theorem rt_bit : ∀ p, p < 128 → ∀ f, f < 7 → ((nI p >>> (nI f &&& 31)) &&& 1 = 1 ↔ p.testBit f = true) := by decide +kernel
theorem rt_putI : ∀ p, p < 128 → ∀ f, f < 7 → nI p ||| ((1 : Int32) <<< (nI f &&& 31)) = nI (rt_put p f) ∧ rt_put p f < 128 := by decide +kernel
theorem rt_rmI : ∀ p, p < 128 → ∀ f, f < 7 → nI p &&& (((1 : Int32) <<< (nI f &&& 31)) ^^^ (-1)) = nI (rt_rm p f) ∧ rt_rm p f < 128 := by decide +kernel
theorem rt_setI : ∀ p, p < 128 → ∀ f, f < 7 → (if p.testBit f = true then nI (p % 2 ^ f) ||| ((1 : Int32) <<< (nI f &&& 31)) else nI (p % 2 ^ f)) = nI (p % 2 ^ (f + 1)) := by decide +kernel
theorem rt_rdyI : ∀ z, z < 8 → ∀ f, f < 3 → z < 2 ^ f → nI z ||| ((1 : Int32) <<< (nI f &&& 31)) = nI (z + 2 ^ f) := by decide +kernel
theorem rt_lf7 : ∀ p, p < 128 → rt_lf p ≤ 7 ∧ (rt_lf p = 7 ↔ p = 127) ∧ (rt_lf p < 7 → p.testBit (rt_lf p) = false) := by decide +kernel
theorem rt_p7 {p j : Nat} (hp : p < 128) (hj : 7 ≤ j) : p.testBit j = false :=
  Nat.testBit_lt_two_pow (Nat.lt_of_lt_of_le hp (Nat.pow_le_pow_right (n := 2) (by decide) hj))
theorem rt_thput (p f : Nat) : upd (rt_th p) f 1 = rt_th (rt_put p f) := by
  funext j
  unfold upd rt_th rt_put
  rw [Nat.testBit_or, Nat.testBit_two_pow]
  by_cases h : j = f
  · subst h; simp
  · have h' : ¬ f = j := fun e => h e.symm
    simp [h, h']
theorem rt_thrm {p : Nat} (f : Nat) (hp : p < 128) : upd (rt_th p) f 0 = rt_th (rt_rm p f) := by
  funext j
  unfold upd rt_th rt_rm
  rw [Nat.testBit_and, Nat.testBit_xor, Nat.testBit_two_pow_sub_one, Nat.testBit_two_pow]
  by_cases h : j = f
  · subst h
    by_cases h7 : j < 7
    · simp [h7]
    · simp [rt_p7 hp (by omega : 7 ≤ j)]
  · have h' : ¬ f = j := fun e => h e.symm
    by_cases h7 : j < 7
    · simp [h, h', h7]
    · simp [h, h', rt_p7 hp (by omega : 7 ≤ j)]
theorem rt_upd (g : Nat → Nat) (f v : Nat) : upd (rt_f g) f (nI v) = rt_f (rt_up g f v) := by
  funext j
  unfold upd rt_f rt_up
  by_cases h : j = f
  · simp [h]
  · simp [h]
theorem rt_uplt {g : Nat → Nat} {f v m : Nat} (h : ∀ j, g j < m) (hv : v < m) : ∀ j, rt_up g f v j < m := by
  intro j
  unfold rt_up
  by_cases e : j = f
  · rw [if_pos e]; exact hv
  · rw [if_neg e]; exact h j
theorem rt_f0 : (fun _ => 0 : Nat → Int32) = rt_f (fun _ => 0) := rfl
theorem rt_th0 : (fun _ => 0 : Nat → Int32) = rt_th 0 := by
  funext j
  unfold rt_th
  simp
theorem rt_m1 {q : Nat} (h : q < 2 ^ 31) : ¬ nI q = -1 := by
  intro e
  have h1 := congrArg Int32.toInt e
  rw [nI_toInt h, show (-1 : Int32).toInt = -1 from by decide] at h1
  omega
theorem rt_ocN {o : Option Nat} (h : ∀ q, o = some q → q < 512) : rt_oc o = -1 ↔ o = none := by
  cases o with
  | none => exact ⟨fun _ => rfl, fun _ => rfl⟩
  | some q => exact ⟨fun e => absurd e (rt_m1 (Nat.lt_trans (h q rfl) (by decide))), fun e => nomatch e⟩
theorem rt_bvlt {d v q q' : Nat} (hd : d < 8) (hv : v < 4) (hq : q < 512) (h : rt_bv d v q = some q') : q' < 512 := by
  unfold rt_bv at h
  by_cases h7 : d = 7
  · rw [if_pos h7] at h; cases h; exact hq
  · rw [if_neg h7] at h
    by_cases h4 : d < 4
    · rw [if_pos h4] at h
      by_cases e : d = v
      · rw [if_pos e] at h; cases h; exact hq
      · rw [if_neg e] at h; cases h
    · rw [if_neg h4] at h
      by_cases z : rt_fd q (d - 4) = 0
      · rw [if_pos z] at h; cases h; exact (rt_bind q hq (d - 4) (by omega) v hv z).1
      · rw [if_neg z] at h
        by_cases e : rt_fd q (d - 4) = v + 1
        · rw [if_pos e] at h; cases h; exact hq
        · rw [if_neg e] at h; cases h
theorem rt_bflt {p : Nat} {k a b : Nat → Nat} (ha : ∀ j, a j < 4) (hb : ∀ j, b j < 4) {W f q q' : Nat} (hq : q < 512) (h : rt_bf p k a b W f q = some q') : q' < 512 := by
  unfold rt_bf at h
  by_cases c : p.testBit f = true ∧ k f = W % 4
  · rw [if_pos c] at h
    cases e : rt_bv (W / 4 % 8) (a f) q with
    | none => rw [e] at h; cases h
    | some q1 =>
      rw [e] at h
      exact rt_bvlt (Nat.mod_lt _ (by decide)) (hb f) (rt_bvlt (Nat.mod_lt _ (by decide)) (ha f) hq e) h
  · rw [if_neg c] at h; cases h
theorem rt_pslt {p : Nat} {k a b : Nat → Nat} (ha : ∀ j, a j < 4) (hb : ∀ j, b j < 4) {W f q q' : Nat} (hq : q < 512) (h : rt_ps p k a b W f q = some q') : q' < 512 := by
  unfold rt_ps at h
  by_cases c : W < 256
  · rw [if_pos c] at h; exact rt_bflt ha hb hq h
  · rw [if_neg c] at h
    by_cases c2 : f = 7 ∧ rt_any p k a b W q 7 = false
    · rw [if_pos c2] at h; cases h; exact hq
    · rw [if_neg c2] at h; cases h
theorem rt_stlt {p : Nat} {w k a b : Nat → Nat} (ha : ∀ j, a j < 4) (hb : ∀ j, b j < 4) {r n c i q q' : Nat} (hq : q < 512) (h : rt_st p w k a b r n c i q = some q') : q' < 512 := by
  unfold rt_st at h
  by_cases e : i < n
  · rw [if_pos e] at h; exact rt_pslt ha hb hq h
  · rw [if_neg e] at h
    by_cases c2 : rt_fd c i = 7
    · rw [if_pos c2] at h; cases h; exact hq
    · rw [if_neg c2] at h; cases h
theorem rt_anyT {p : Nat} {k a b : Nat → Nat} {W q i j : Nat} (hij : i ≤ j) (h : rt_any p k a b W q i = true) : rt_any p k a b W q j = true := by
  induction j with
  | zero => have : i = 0 := by omega
            subst this; exact h
  | succ j ih =>
    by_cases e : i = j + 1
    · subst e; exact h
    · show ((rt_bf p k a b W j q).isSome || rt_any p k a b W q j) = true
      rw [ih (by omega), Bool.or_true]
theorem rt_runN {p : Nat} {w k a b : Nat → Nat} {r n c i j : Nat} (hij : i ≤ j) (h : rt_run p w k a b r n c i = none) : rt_run p w k a b r n c j = none := by
  induction j with
  | zero => have : i = 0 := by omega
            subst this; exact h
  | succ j ih =>
    by_cases e : i = j + 1
    · subst e; exact h
    · show (match rt_run p w k a b r n c j with | none => none | some q => rt_st p w k a b r n c j q) = none
      rw [ih (by omega)]
theorem rt_runS {p : Nat} {w k a b : Nat → Nat} {r n c i q : Nat} (h : rt_run p w k a b r n c i = some q) : rt_run p w k a b r n c (i + 1) = rt_st p w k a b r n c i q := by
  show (match rt_run p w k a b r n c i with | none => none | some q => rt_st p w k a b r n c i q) = _
  rw [h]
theorem rt_cnle (P : Nat → Bool) (m : Nat) : rt_cn P m ≤ m := by
  induction m with
  | zero => exact Nat.le_refl 0
  | succ m ih =>
    unfold rt_cn
    by_cases h : P m = true
    · rw [if_pos h]; omega
    · rw [if_neg h]; omega
end
section
/-! small tools, and the component's own methods against the pure picture -/
def rt_ok (p : Nat) (w s k a b : Nat → Nat) : Prop := p < 128 ∧ (∀ j, w j < 512) ∧ (∀ j, s j < 4) ∧ (∀ j, k j < 4) ∧ (∀ j, a j < 4) ∧ (∀ j, b j < 4)
theorem rt_bb {c : Bool} {A B : Prop} (f : c = false → A) (g : c = true → B) : (rt_b c = 0 → A) ∧ (¬ rt_b c = 0 → B) := by
  cases c with
  | false => exact br_t rfl (f rfl)
  | true => exact br_f (by decide) (g rfl)
theorem rt_rd {g : Nat → Nat} {f : Nat} (hf : f < 2 ^ 31) : rt_f g (nI f).toNatClampNeg = nI (g f) := by
  rw [nI_clamp hf]; rfl
theorem rt_rdx {g : Nat → Nat} {f : Nat} {x : Int32} (hx : x = nI f) (hf : f < 2 ^ 31) : rt_f g x.toNatClampNeg = nI (g f) := by
  rw [hx]; exact rt_rd hf
theorem rt_thr {p f : Nat} {A B : Prop} (hf : f < 2 ^ 31) (F : p.testBit f = false → A) (G : p.testBit f = true → B) : (rt_th p (nI f).toNatClampNeg = 0 → A) ∧ (¬ rt_th p (nI f).toNatClampNeg = 0 → B) := by
  rw [nI_clamp hf]
  unfold rt_th
  cases e : p.testBit f with
  | false => exact br_t (by simp) (F e)
  | true => exact br_f (by simp) (G e)
theorem rt_3 (i : Nat) : (3 : Int32) * nI i = nI (3 * i) := pk_mul 3 i
theorem rt_ix (r i : Nat) : nI r * 3 + nI i = nI (3 * r + i) := by
  have h : nI r * 3 = nI (r * 3) := pk_mul r 3
  rw [h, nI_add, Nat.mul_comm]
theorem rt_iy (r i : Nat) : (3 : Int32) * nI r + nI i = nI (3 * r + i) := by
  rw [rt_3, nI_add]
def rt_bad (x : Int32) (n : Nat) : Prop := x < 0 ∨ ∃ j, n ≤ j ∧ j < 2 ^ 31 ∧ x = nI j
theorem rt_dec (x : Int32) (n : Nat) : rt_bad x n ∨ ∃ j, j < n ∧ j < 2 ^ 31 ∧ x = nI j := by
  by_cases h : x < 0
  · exact Or.inl (Or.inl h)
  · obtain ⟨j, hj, e⟩ := nI_of h
    by_cases hn : j < n
    · exact Or.inr ⟨j, hn, hj, e⟩
    · exact Or.inl (Or.inr ⟨j, by omega, hj, e⟩)
theorem rt_badle {x : Int32} {n : Nat} (hn : n < 2 ^ 31) {A B : Prop} (h : rt_bad x n) (a : A) : (x < 0 → A) ∧ (¬ x < 0 → ((nI n ≤ x → A) ∧ (¬ nI n ≤ x → B))) := by
  by_cases h0 : x < 0
  · exact br_t h0 a
  · obtain ⟨j, h1, h2, rfl⟩ := h.resolve_left h0
    exact br_f h0 (br_t (nI_le h1 h2) a)
theorem rt_badlt {x : Int32} {n : Nat} (hn : n + 1 < 2 ^ 31) {A B : Prop} (h : rt_bad x (n + 1)) (a : A) : (x < 0 → A) ∧ (¬ x < 0 → ((nI n < x → A) ∧ (¬ nI n < x → B))) := by
  by_cases h0 : x < 0
  · exact br_t h0 a
  · obtain ⟨j, h1, h2, rfl⟩ := h.resolve_left h0
    exact br_f h0 (br_t (nI_lt (by omega) h2) a)
theorem rt_inle {j n : Nat} (hn : n < 2 ^ 31) {A B : Prop} (h : j < n) (b : B) : (nI j < 0 → A) ∧ (¬ nI j < 0 → ((nI n ≤ nI j → A) ∧ (¬ nI n ≤ nI j → B))) :=
  br_f (nI_pos (by omega)) (br_f (nI_ge h hn) b)
theorem rt_inlt {j n : Nat} (hn : n < 2 ^ 31) {A B : Prop} (h : j ≤ n) (b : B) : (nI j < 0 → A) ∧ (¬ nI j < 0 → ((nI n < nI j → A) ∧ (¬ nI n < nI j → B))) :=
  br_f (nI_pos (by omega)) (br_f (nI_nlt h hn) b)
theorem rt_s34 (x : Nat) : (3 : Int32) * (nI (x + 4) - 4) = nI (3 * x) := by
  have h : nI (x + 4) - 4 = nI x := pk_sub (a := x + 4) (b := 4) (by omega)
  rw [h, rt_3]
theorem rt_s4 (x : Nat) : nI (x + 4) - 4 = nI x := pk_sub (a := x + 4) (b := 4) (by omega)
theorem rt_ne {a b : Nat} (ha : a < 2 ^ 31) (hb : b < 2 ^ 31) (h : ¬ a = b) : ¬ nI a = nI b := fun e => h ((nI_eq ha hb).mp e)
section
variable {p : Nat} {w s k a b : Nat → Nat}
theorem rt_hp (H : rt_ok p w s k a b) : p < 128 := H.1
theorem rt_hw (H : rt_ok p w s k a b) : ∀ j, w j < 512 := H.2.1
theorem rt_hs (H : rt_ok p w s k a b) : ∀ j, s j < 4 := H.2.2.1
theorem rt_hk (H : rt_ok p w s k a b) : ∀ j, k j < 4 := H.2.2.2.1
theorem rt_ha (H : rt_ok p w s k a b) : ∀ j, a j < 4 := H.2.2.2.2.1
theorem rt_hb (H : rt_ok p w s k a b) : ∀ j, b j < 4 := H.2.2.2.2.2
theorem rt_xrule {post : Int32 → Prop} {r : Nat} (hr : r < 3) (h : post 1) : wpX_isRule post (nI r) := rt_inle (n := 3) (by decide) hr h
theorem rt_xruleN {post : Int32 → Prop} {x : Int32} (hx : rt_bad x 3) (h : post 0) : wpX_isRule post x := by
  unfold wpX_isRule
  by_cases h0 : x < 0
  · exact br_t h0 h
  · obtain ⟨j, h1, h2, rfl⟩ := hx.resolve_left h0
    exact br_f h0 (br_t (nI_le (a := 3) h1 h2) h)
theorem rt_xfact (H : rt_ok p w s k a b) {post : Int32 → Prop} {f : Nat} (hf : f < 8) (h : post (rt_b (p.testBit f))) : wpX_isFact post (nI p, rt_f w, rt_f s, rt_f k, rt_f a, rt_f b) (nI f) := by
  unfold wpX_isFact
  dsimp only
  refine br_f (nI_pos (by omega)) ?_
  by_cases h7 : f = 7
  · subst h7
    rw [rt_p7 (rt_hp H) (Nat.le_refl 7)] at h
    exact br_t (nI_le (a := 7) (by omega) (by decide)) h
  · refine br_f (nI_ge (b := 7) (by omega) (by decide)) ?_
    have hb := rt_bit p (rt_hp H) f (by omega)
    by_cases c : p.testBit f = true
    · rw [c] at h
      exact br_t (hb.mpr c) h
    · have c' : p.testBit f = false := by
        cases e : p.testBit f with
        | false => rfl
        | true => exact absurd e c
      rw [c'] at h
      exact br_f (fun z => c (hb.mp z)) h
theorem rt_xfactN {post : Int32 → Prop} {x : Int32} {u : SX} (hx : rt_bad x 7) (h : post 0) : wpX_isFact post u x := by
  obtain ⟨u1, u2, u3, u4, u5, u6⟩ := u
  unfold wpX_isFact
  dsimp only
  by_cases h0 : x < 0
  · exact br_t h0 h
  · obtain ⟨j, h1, h2, rfl⟩ := hx.resolve_left h0
    exact br_f h0 (br_t (nI_le (a := 7) h1 h2) h)
theorem rt_xkind {post : Int32 → Prop} {W : Nat} (hW : W < 512) (h : post (nI (W % 4))) : wpX_kindOf post (nI W) := ek_v (P := post) (rt_kd hW) h
theorem rt_xd1 {post : Int32 → Prop} {W : Nat} (hW : W < 512) (h : post (nI (W / 4 % 8))) : wpX_firstDemand post (nI W) := ek_v (P := post) (rt_d1 hW) h
theorem rt_xd2 {post : Int32 → Prop} {W : Nat} (hW : W < 512) (h : post (nI (W / 32 % 8))) : wpX_secondDemand post (nI W) := ek_v (P := post) (rt_d2 hW) h
theorem rt_xfa {post : Int32 → Prop} {c i : Nat} (hc : c < 512) (hi : i < 3) (h : post (nI (rt_fd c i))) : wpX_factAt post (nI c) (nI i) := by
  have e : (nI c >>> ((3 * nI i) &&& 31)) &&& 7 = nI (rt_fd c i) := by
    rw [rt_3]; exact rt_fdI (by omega) hi
  exact ek_v (P := post) e h
theorem rt_xng {post : Int32 → Prop} {W : Nat} (hW : W < 512) (h1 : W < 256 → post 0) (h2 : ¬ W < 256 → post 1) : wpX_isNegated post (nI W) := ek_if (rt_ng W hW) h1 h2
theorem rt_xbv {post : Int32 → Prop} {d v q : Nat} (hd : d < 8) (hv : v < 4) (hq : q < 512) (h : post (rt_oc (rt_bv d v q))) : wpX_bindValue post (nI d) (nI v) (nI q) := by
  unfold rt_bv at h
  unfold wpX_bindValue
  by_cases h7 : d = 7
  · subst h7
    rw [if_pos rfl] at h
    exact br_t rfl h
  · rw [if_neg h7] at h
    refine br_f (rt_ne (b := 7) (by omega) (by decide) h7) ?_
    by_cases h4 : d < 4
    · rw [if_pos h4] at h
      refine br_f (nI_ge (b := 4) h4 (by decide)) ?_
      by_cases e : d = v
      · rw [if_pos e] at h
        exact br_t (congrArg nI e) h
      · rw [if_neg e] at h
        exact br_f (rt_ne (by omega) (by omega) e) h
    · rw [if_neg h4] at h
      refine br_t (nI_le (a := 4) (by omega) (by omega)) ?_
      obtain ⟨x, rfl⟩ : ∃ x, d = x + 4 := ⟨d - 4, by omega⟩
      rw [Nat.add_sub_cancel] at h
      have hx : x < 3 := by omega
      have hl := rt_fdlt q x
      refine nm_r (rt_s34 x) (nm_r (rt_fdI (by omega) hx) ?_)
      by_cases z : rt_fd q x = 0
      · rw [if_pos z] at h
        refine br_t (by rw [z]; rfl) ?_
        refine ek_v (P := post) ?_ h
        rw [nI_1]
        exact rt_orI q hq x hx v hv z
      · rw [if_neg z] at h
        refine br_f (rt_ne (b := 0) (by omega) (by decide) z) ?_
        by_cases e : rt_fd q x = v + 1
        · rw [if_pos e] at h
          exact br_t (by rw [e, nI_1]) h
        · rw [if_neg e] at h
          exact br_f (by rw [nI_1]; exact rt_ne (by omega) (by omega) e) h
theorem rt_f7 {f : Nat} (hp : p < 128) (hf : f < 8) (h : p.testBit f = true) : f < 7 := by
  by_cases e : f = 7
  · subst e
    rw [rt_p7 hp (Nat.le_refl 7)] at h
    cases h
  · omega
theorem rt_xbf (H : rt_ok p w s k a b) {post : Int32 → Prop} {W f q : Nat} (hW : W < 512) (hf : f < 8) (hq : q < 512) (h : post (rt_oc (rt_bf p k a b W f q))) : wpX_bindFact post (nI p, rt_f w, rt_f s, rt_f k, rt_f a, rt_f b) (nI W) (nI f) (nI q) := by
  unfold rt_bf at h
  unfold wpX_bindFact
  dsimp only
  have hf2 : f < 2 ^ 31 := by omega
  rw [rt_rd (g := k) hf2, rt_rd (g := a) hf2, rt_rd (g := b) hf2]
  refine rt_xfact H hf (rt_bb (fun hc => ?_) (fun hc => ?_))
  · rw [if_neg (by rw [hc]; simp)] at h
    exact h
  · have hv : vp_in (nI f) 7 := vp_in_nI (rt_f7 (rt_hp H) hf hc) (by decide)
    refine ⟨hv, rt_xkind hW ?_⟩
    by_cases c : k f = W % 4
    · rw [if_pos ⟨hc, c⟩] at h
      refine br_t (congrArg nI c) (rt_xd1 hW ⟨hv, rt_xbv (Nat.mod_lt _ (by decide)) (rt_ha H f) hq ?_⟩)
      cases e : rt_bv (W / 4 % 8) (a f) q with
      | none =>
        rw [e] at h
        exact br_t rfl h
      | some q1 =>
        rw [e] at h
        have hq1 := rt_bvlt (Nat.mod_lt _ (by decide)) (rt_ha H f) hq e
        exact br_f (rt_m1 (Nat.lt_trans hq1 (by decide))) (rt_xd2 hW ⟨hv, rt_xbv (Nat.mod_lt _ (by decide)) (rt_hb H f) hq1 h⟩)
    · rw [if_neg (fun z => c z.2)] at h
      have h1 := rt_hk H f
      exact br_f (rt_ne (by omega) (by omega) c) h
theorem rt_xpl (H : rt_ok p w s k a b) {post : Int32 → Prop} {W q : Nat} (hW : W < 512) (hq : q < 512) (h0 : rt_any p k a b W q 7 = false → post (nI q)) (h1 : rt_any p k a b W q 7 = true → post (-1)) : ∀ d i : Nat, i + d = 7 → rt_any p k a b W q i = false → wX_passCondition_26 post (nI W) (nI q) (nI p) (rt_f w) (rt_f s) (rt_f k) (rt_f a) (rt_f b) (d + 1) (nI i) := by
  intro d
  induction d with
  | zero =>
    intro i hi hn
    have : i = 7 := by omega
    subst this
    exact br_t (nI_le (a := 7) (by omega) (by decide)) (h0 hn)
  | succ d ih =>
    intro i hi hn
    refine br_f (nI_ge (b := 7) (by omega) (by decide)) (rt_xbf H hW (by omega) hq ?_)
    cases e : rt_bf p k a b W i q with
    | none =>
      refine br_t rfl (nm_r (nI_1 i) (ih (i + 1) (by omega) ?_))
      show ((rt_bf p k a b W i q).isSome || rt_any p k a b W q i) = false
      rw [e, hn]; rfl
    | some q1 =>
      have hq1 := rt_bflt (rt_ha H) (rt_hb H) hq e
      refine br_f (rt_m1 (Nat.lt_trans hq1 (by decide))) (h1 (rt_anyT (i := i + 1) (by omega) ?_))
      show ((rt_bf p k a b W i q).isSome || rt_any p k a b W q i) = true
      rw [e]; rfl
theorem rt_xps (H : rt_ok p w s k a b) {post : Int32 → Prop} {x : Int32} {W f q : Nat} (hx : x = nI W) (hW : W < 512) (hf : f < 8) (hq : q < 512) (h : post (rt_oc (rt_ps p k a b W f q))) : wpX_passCondition post (nI p, rt_f w, rt_f s, rt_f k, rt_f a, rt_f b) x (nI f) (nI q) := by
  subst hx
  unfold rt_ps at h
  unfold wpX_passCondition
  dsimp only
  refine rt_xng hW (fun hc => ?_) (fun hc => ?_)
  · rw [if_pos hc] at h
    exact br_t rfl (rt_xbf H hW hf hq h)
  · rw [if_neg hc] at h
    refine br_f (by decide) ?_
    by_cases h7 : f = 7
    · refine br_t (congrArg nI h7) ⟨_, rt_xpl H hW hq (fun z => ?_) (fun z => ?_) 7 0 rfl rfl⟩
      · rw [if_pos ⟨h7, z⟩] at h
        exact h
      · rw [if_neg (by rw [z]; simp)] at h
        exact h
    · rw [if_neg (fun z => h7 z.1)] at h
      exact br_f (rt_ne (b := 7) (by omega) (by decide) h7) h
theorem rt_xil (H : rt_ok p w s k a b) {post : Int32 → Prop} {r n c : Nat} (hr : r < 3) (hn : n < 4) (hc : c < 512) (h : post (rt_b (rt_is p w k a b r n c))) : ∀ d i q : Nat, i + d = 3 → q < 512 → rt_run p w k a b r n c i = some q → wX_isMatch_6 post (nI r) (nI n) (nI c) (nI p) (rt_f w) (rt_f s) (rt_f k) (rt_f a) (rt_f b) (d + 1) (nI q) (nI i) := by
  intro d
  induction d with
  | zero =>
    intro i q hi hq hR
    have : i = 3 := by omega
    subst this
    unfold rt_is at h
    rw [hR] at h
    exact br_t (nI_le (a := 3) (by omega) (by decide)) h
  | succ d ih =>
    intro i q hi hq hR
    have hR1 := rt_runS hR
    refine br_f (nI_ge (b := 3) (by omega) (by decide)) (rt_xfa hc (by omega) ?_)
    have hl := rt_fdlt c i
    have fin : rt_st p w k a b r n c i q = none → post 0 := by
      intro z
      rw [z] at hR1
      have := rt_runN (j := 3) (by omega) hR1
      unfold rt_is at h
      rw [this] at h
      exact h
    unfold rt_st at hR1 fin
    by_cases hin : i < n
    · rw [if_pos hin] at hR1 fin
      refine br_f (nI_ge hin (by omega)) ⟨pk_in (3 * r + i) 9 (by omega) (rt_ix r i), rt_xps H (rt_rdx (rt_ix r i) (by omega)) (rt_hw H _) hl hq ?_⟩
      cases e : rt_ps p k a b (w (3 * r + i)) (rt_fd c i) q with
      | none => exact br_t rfl (fin e)
      | some q1 =>
        have hq1 := rt_pslt (rt_ha H) (rt_hb H) hq e
        exact br_f (rt_m1 (Nat.lt_trans hq1 (by decide))) (nm_r (nI_1 i) (ih (i + 1) q1 (by omega) hq1 (hR1.trans e)))
    · rw [if_neg hin] at hR1 fin
      refine br_t (nI_le (by omega) (by omega)) ?_
      by_cases h7 : rt_fd c i = 7
      · rw [if_pos h7] at hR1
        exact br_t (congrArg nI h7) (nm_r (nI_1 i) (ih (i + 1) q (by omega) hq hR1))
      · rw [if_neg h7] at fin
        exact br_f (rt_ne (b := 7) (by omega) (by decide) h7) (fin rfl)
theorem rt_xis (H : rt_ok p w s k a b) {post : Int32 → Prop} {x : Int32} {r n c : Nat} (hx : x = nI n) (hr : r < 3) (hn : n < 4) (hc : c < 512) (h : post (rt_b (rt_is p w k a b r n c))) : wpX_isMatch post (nI p, rt_f w, rt_f s, rt_f k, rt_f a, rt_f b) (nI r) x (nI c) := by
  subst hx
  exact ⟨_, rt_xil H hr hn hc h 3 0 0 rfl (by decide) rfl⟩
theorem rt_xcl (H : rt_ok p w s k a b) {post : Int32 → Prop} {r n : Nat} (hr : r < 3) (hn : n < 4) (h : post (nI (rt_ct p w k a b r n))) : ∀ d m : Nat, m + d = 512 → wX_countMatches_5 post (nI r) (nI n) (nI p) (rt_f w) (rt_f s) (rt_f k) (rt_f a) (rt_f b) (d + 1) (nI (rt_cn (rt_is p w k a b r n) m)) (nI m) := by
  intro d
  induction d with
  | zero =>
    intro m hm
    have : m = 512 := by omega
    subst this
    exact br_t (nI_le (a := 512) (by omega) (by decide)) h
  | succ d ih =>
    intro m hm
    have ih1 := ih (m + 1) (by omega)
    unfold rt_cn at ih1
    refine br_f (nI_ge (b := 512) (by omega) (by decide)) (rt_xis H rfl hr hn (by omega) (rt_bb (fun e => nm_r (nI_1 m) ?_) (fun e => nm_r (nI_1 _) (nm_r (nI_1 m) ?_))))
    · rw [if_neg (by rw [e]; simp)] at ih1
      exact ih1
    · rw [if_pos e] at ih1
      exact ih1
theorem rt_xct (H : rt_ok p w s k a b) {post : Int32 → Prop} {x : Int32} {r n : Nat} (hx : x = nI n) (hr : r < 3) (hn : n < 4) (h : post (nI (rt_ct p w k a b r n))) : wpX_countMatches post (nI p, rt_f w, rt_f s, rt_f k, rt_f a, rt_f b) (nI r) x := by
  subst hx
  exact ⟨_, rt_xcl H hr hn h 512 0 rfl⟩
end
end
section
/-! the reference's own methods against the pure picture; rt_B q bd: the array bound holds the fields of q -/
def rt_B (q : Nat) (bd : Nat → Int32) : Prop := ∀ x, x < 3 → bd x = nI (rt_fd q x)
theorem rt_B0 : rt_B 0 (upd (upd (upd (fun _ => 0) 0 0) 1 0) 2 0) := by
  intro x hx
  match x, hx with
  | 0, _ => rfl
  | 1, _ => rfl
  | 2, _ => rfl
theorem rt_Breset (bd : Nat → Int32) : rt_B 0 (upd (upd (upd bd 0 0) 1 0) 2 0) := by
  intro x hx
  match x, hx with
  | 0, _ => rfl
  | 1, _ => rfl
  | 2, _ => rfl
theorem rt_Bback {q : Nat} {bd : Nat → Int32} (bd' : Nat → Int32) (h : rt_B q bd) : rt_B q (upd (upd (upd bd' 0 (bd 0)) 1 (bd 1)) 2 (bd 2)) := by
  intro x hx
  match x, hx with
  | 0, _ => exact h 0 (by decide)
  | 1, _ => exact h 1 (by decide)
  | 2, _ => exact h 2 (by decide)
theorem rt_Bbind {q x v : Nat} {bd : Nat → Int32} (hq : q < 512) (hx : x < 3) (hv : v < 4) (z : rt_fd q x = 0) (h : rt_B q bd) : rt_B (q + (v + 1) * 8 ^ x) (upd bd x (nI (v + 1))) := by
  intro y hy
  rw [(rt_bind q hq x hx v hv z).2 y hy]
  unfold upd
  by_cases e : y = x
  · rw [if_pos e, if_pos e]
  · rw [if_neg e, if_neg e]
    exact h y hy
theorem rt_b1 : ¬ rt_b true = 0 := by decide
section
variable {p : Nat} {w s k a b : Nat → Nat}
theorem rt_yrule {post : Int32 → Prop} {u : SY} {r : Nat} (hr : r < 3) (h : post 1) : wpY_rule post u (nI r) := by
  obtain ⟨u1, u2, u3, u4, u5, u6, u7⟩ := u
  unfold wpY_rule
  dsimp only
  exact rt_inlt (n := 2) (by decide) (by omega) h
theorem rt_yruleN {post : Int32 → Prop} {u : SY} {x : Int32} (hx : rt_bad x 3) (h : post 0) : wpY_rule post u x := by
  obtain ⟨u1, u2, u3, u4, u5, u6, u7⟩ := u
  unfold wpY_rule
  dsimp only
  exact rt_badlt (n := 2) (by decide) hx h
theorem rt_yfits {post : Int32 → SY → Prop} {d v q : Nat} {bd : Nat → Int32} (hd : d < 8) (hv : v < 4) (hq : q < 512) (hB : rt_B q bd) (h : ∀ bd', (∀ q', rt_bv d v q = some q' → rt_B q' bd') → post (rt_b (rt_bv d v q).isSome) (rt_th p, rt_f k, rt_f a, rt_f b, rt_f s, rt_f w, bd')) : wpY_fits post (rt_th p, rt_f k, rt_f a, rt_f b, rt_f s, rt_f w, bd) (nI d) (nI v) := by
  unfold rt_bv at h
  unfold wpY_fits
  dsimp only
  by_cases h7 : d = 7
  · subst h7
    rw [if_pos rfl] at h
    exact br_t (nI_lt (a := 3) (by decide) (by decide)) (br_t rfl (h bd (fun q' e => by cases e; exact hB)))
  · rw [if_neg h7] at h
    by_cases h4 : d < 4
    · rw [if_pos h4] at h
      refine br_f (nI_nlt (a := 3) (by omega) (by decide)) ?_
      by_cases e : d = v
      · rw [if_pos e] at h
        exact br_t (congrArg nI e.symm) (h bd (fun q' e => by cases e; exact hB))
      · rw [if_neg e] at h
        exact br_f (rt_ne (by omega) (by omega) (fun z => e z.symm)) (h bd (fun q' e => nomatch e))
    · rw [if_neg h4] at h
      refine br_t (nI_lt (a := 3) (by omega) (by omega)) (br_f (rt_ne (b := 7) (by omega) (by decide) h7) ?_)
      obtain ⟨x, rfl⟩ : ∃ x, d = x + 4 := ⟨d - 4, by omega⟩
      rw [Nat.add_sub_cancel] at h
      have hx : x < 3 := by omega
      have hl := rt_fdlt q x
      have hvx : vp_in (nI x) 3 := vp_in_nI hx (by decide)
      have hcl : (nI x).toNatClampNeg = x := nI_clamp (by omega)
      have eB : bd (nI x).toNatClampNeg = nI (rt_fd q x) := by rw [hcl]; exact hB x hx
      refine nm_r (rt_s4 x) ⟨hvx, ?_⟩
      by_cases z : rt_fd q x = 0
      · rw [if_pos z] at h
        refine br_t (eB.trans (by rw [z]; rfl)) ⟨hvx, nm_e ⟨hvx, br_t pk_us ?_⟩⟩
        rw [hcl, nI_1]
        exact h _ (fun q' e => by cases e; exact rt_Bbind hq hx hv z hB)
      · rw [if_neg z] at h
        refine br_f (by rw [eB]; exact rt_ne (b := 0) (by omega) (by decide) z) ⟨hvx, ?_⟩
        by_cases e : rt_fd q x = v + 1
        · rw [if_pos e] at h
          exact br_t (by rw [eB, e, nI_1]) (h bd (fun q' e => by cases e; exact hB))
        · rw [if_neg e] at h
          exact br_f (by rw [eB, nI_1]; exact rt_ne (by omega) (by omega) e) (h bd (fun q' e => nomatch e))
theorem rt_ytk (H : rt_ok p w s k a b) {post : Int32 → SY → Prop} {W f q : Nat} {bd : Nat → Int32} (hW : W < 512) (hf : f < 7) (hq : q < 512) (hB : rt_B q bd) (h : ∀ bd', (∀ q', rt_bf p k a b W f q = some q' → rt_B q' bd') → post (rt_b (rt_bf p k a b W f q).isSome) (rt_th p, rt_f k, rt_f a, rt_f b, rt_f s, rt_f w, bd')) : wpY_takes post (rt_th p, rt_f k, rt_f a, rt_f b, rt_f s, rt_f w, bd) (nI W) (nI f) := by
  unfold rt_bf at h
  unfold wpY_takes
  dsimp only
  have hf2 : f < 2 ^ 31 := by omega
  rw [rt_rd (g := k) hf2, rt_rd (g := a) hf2, rt_kd hW, rt_d1 hW, rt_d2 hW]
  have hv : vp_in (nI f) 7 := vp_in_nI hf (by decide)
  refine ⟨hv, rt_thr hf2 (fun hc => ?_) (fun hc => ⟨hv, ?_⟩)⟩
  · rw [if_neg (by rw [hc]; simp)] at h
    exact h bd (fun q' e => nomatch e)
  · by_cases c : k f = W % 4
    · rw [if_pos ⟨hc, c⟩] at h
      refine br_t (congrArg nI c) ⟨hv, rt_yfits (Nat.mod_lt _ (by decide)) (rt_ha H f) hq hB (fun bd1 hB1 => ?_)⟩
      cases e : rt_bv (W / 4 % 8) (a f) q with
      | none =>
        rw [e] at h
        exact br_t rfl (h bd1 (fun q' e => nomatch e))
      | some q1 =>
        rw [e] at h
        have hq1 := rt_bvlt (Nat.mod_lt _ (by decide)) (rt_ha H f) hq e
        have e2 : rt_f b (nI f).toNatClampNeg = nI (b f) := rt_rd hf2
        refine br_f rt_b1 ⟨hv, ?_⟩
        dsimp only
        rw [e2]
        refine rt_yfits (Nat.mod_lt _ (by decide)) (rt_hb H f) hq1 (hB1 q1 e) (fun bd2 hB2 => ?_)
        exact rt_bb (fun z => by have h2 := h bd2 hB2; dsimp only at h2; rw [z] at h2; exact h2) (fun z => by have h2 := h bd2 hB2; dsimp only at h2; rw [z] at h2; exact h2)
    · rw [if_neg (fun z => c z.2)] at h
      have h1 := rt_hk H f
      exact br_f (rt_ne (by omega) (by omega) c) (h bd (fun q' e => nomatch e))
theorem rt_ynl (H : rt_ok p w s k a b) {post : Int32 → SY → Prop} {W q : Nat} (hW : W < 512) (hq : q < 512) (h : ∀ bd', rt_B q bd' → post (rt_b (!rt_any p k a b W q 7)) (rt_th p, rt_f k, rt_f a, rt_f b, rt_f s, rt_f w, bd')) : ∀ (d i : Nat) (bd : Nat → Int32), i + d = 7 → rt_B q bd → wY_none_4 post (nI W) (d + 1) (rt_b (rt_any p k a b W q i)) (nI i) (rt_th p) (rt_f k) (rt_f a) (rt_f b) (rt_f s) (rt_f w) bd := by
  intro d
  induction d with
  | zero =>
    intro i bd hi hB
    have : i = 7 := by omega
    subst this
    have h2 := h bd hB
    refine br_t (nI_le (a := 7) (by omega) (by decide)) (rt_bb (fun e => ?_) (fun e => ?_))
    · rw [e] at h2; exact h2
    · rw [e] at h2; exact h2
  | succ d ih =>
    intro i bd hi hB
    refine br_f (nI_ge (b := 7) (by omega) (by decide)) (nm_e (nm_e (nm_e (rt_ytk H hW (by omega) hq hB (fun bd1 _ => ?_)))))
    have ih1 := ih (i + 1) (upd (upd (upd bd1 0 (bd 0)) 1 (bd 1)) 2 (bd 2)) (by omega) (rt_Bback bd1 hB)
    have e1 : rt_any p k a b W q (i + 1) = ((rt_bf p k a b W i q).isSome || rt_any p k a b W q i) := rfl
    rw [e1] at ih1
    refine rt_bb (fun c => rt_bb (fun c2 => ?_) (fun c2 => ?_)) (fun c => ?_)
    · rw [c, c2] at ih1
      exact nm_e (nm_e (nm_e (nm_r (nI_1 i) ih1)))
    · rw [c, c2] at ih1
      exact nm_e (nm_e (nm_e (nm_r (nI_1 i) ih1)))
    · rw [c] at ih1
      exact nm_e (nm_e (nm_e (nm_r (nI_1 i) ih1)))
theorem rt_yno (H : rt_ok p w s k a b) {post : Int32 → SY → Prop} {W q : Nat} {bd : Nat → Int32} (hW : W < 512) (hq : q < 512) (hB : rt_B q bd) (h : ∀ bd', rt_B q bd' → post (rt_b (!rt_any p k a b W q 7)) (rt_th p, rt_f k, rt_f a, rt_f b, rt_f s, rt_f w, bd')) : wpY_none post (rt_th p, rt_f k, rt_f a, rt_f b, rt_f s, rt_f w, bd) (nI W) :=
  ⟨_, rt_ynl H hW hq h 7 0 bd rfl hB⟩
theorem rt_yil (H : rt_ok p w s k a b) {post : Int32 → SY → Prop} {r n c : Nat} (hr : r < 3) (hn : n < 4) (hc : c < 512) (h : ∀ bd', post (rt_b (rt_is p w k a b r n c)) (rt_th p, rt_f k, rt_f a, rt_f b, rt_f s, rt_f w, bd')) : ∀ (d i : Nat) (o : Option Nat) (bd : Nat → Int32), i + d = 3 → rt_run p w k a b r n c i = o → (∀ q, o = some q → q < 512 ∧ rt_B q bd) → wY_isMatch_29 post (nI r) (nI n) (nI c) (d + 1) (rt_b o.isSome) (nI i) (rt_th p) (rt_f k) (rt_f a) (rt_f b) (rt_f s) (rt_f w) bd := by
  intro d
  induction d with
  | zero =>
    intro i o bd hi hR hB
    have : i = 3 := by omega
    subst this
    unfold rt_is at h
    rw [hR] at h
    refine br_t (nI_le (a := 3) (by omega) (by decide)) ⟨?_, h bd⟩
    cases o.isSome <;> rfl
  | succ d ih =>
    intro i o bd hi hR hB
    refine br_f (nI_ge (b := 3) (by omega) (by decide)) ?_
    cases o with
    | none =>
      have := rt_runN (j := 3) (by omega) hR
      unfold rt_is at h
      rw [this] at h
      exact br_t rfl ⟨rfl, h bd⟩
    | some q =>
      obtain ⟨hq, hBq⟩ := hB q rfl
      have hR1 := rt_runS hR
      have hl := rt_fdlt c i
      have hW := rt_hw H (3 * r + i)
      have e1 : (nI c >>> ((3 * nI i) &&& 31)) &&& 7 = nI (rt_fd c i) := by
        rw [rt_3]; exact rt_fdI (by omega) (by omega)
      refine br_f rt_b1 (nm_r e1 ⟨pk_in (3 * r + i) 9 (by omega) (rt_iy r i), nm_r (rt_rdx (rt_iy r i) (by omega)) ?_⟩)
      unfold rt_st at hR1
      by_cases hin : i < n
      · rw [if_pos hin] at hR1
        unfold rt_ps at hR1
        refine br_f (nI_ge hin (by omega)) ?_
        by_cases h256 : w (3 * r + i) < 256
        · rw [if_pos h256] at hR1
          refine br_t (nI_lt (b := 256) h256 (by decide)) (br_t rfl ?_)
          by_cases h7 : rt_fd c i = 7
          · have e2 : rt_bf p k a b (w (3 * r + i)) (rt_fd c i) q = none := by
              unfold rt_bf
              rw [h7, rt_p7 (rt_hp H) (Nat.le_refl 7)]
              simp
            rw [e2] at hR1
            exact br_t (congrArg nI h7) (br_t rfl (nm_r (nI_1 i) (ih (i + 1) none bd (by omega) hR1 (fun q' e => nomatch e))))
          · refine br_f (rt_ne (b := 7) (by omega) (by decide) h7) (rt_ytk H hW (by omega) hq hBq (fun bd1 hB1 => nm_r (nI_1 i) (ih (i + 1) _ bd1 (by omega) hR1 (fun q' e => ⟨rt_bflt (rt_ha H) (rt_hb H) hq e, hB1 q' e⟩))))
        · rw [if_neg h256] at hR1
          refine br_f (nI_nlt (b := 256) (by omega) (by omega)) (br_f (by decide) (br_f (by decide) ?_))
          by_cases h7 : rt_fd c i = 7
          · refine br_t (congrArg nI h7) (br_f (nI_ge hin (by omega)) (rt_yno H hW hq hBq (fun bd1 hB1 => rt_bb (fun z => ?_) (fun z => ?_))))
            · have z2 : rt_any p k a b (w (3 * r + i)) q 7 = true := by
                cases e : rt_any p k a b (w (3 * r + i)) q 7 with
                | false => rw [e] at z; cases z
                | true => rfl
              rw [if_neg (by rw [z2]; simp)] at hR1
              exact nm_r (nI_1 i) (ih (i + 1) none bd1 (by omega) hR1 (fun q' e => nomatch e))
            · have z2 : rt_any p k a b (w (3 * r + i)) q 7 = false := by
                cases e : rt_any p k a b (w (3 * r + i)) q 7 with
                | false => rfl
                | true => rw [e] at z; cases z
              rw [if_pos ⟨h7, z2⟩] at hR1
              exact nm_r (nI_1 i) (ih (i + 1) (some q) bd1 (by omega) hR1 (fun q' e => by cases e; exact ⟨hq, hB1⟩))
          · rw [if_neg (fun z => h7 z.1)] at hR1
            exact br_f (rt_ne (b := 7) (by omega) (by decide) h7) (nm_r (nI_1 i) (ih (i + 1) none bd (by omega) hR1 (fun q' e => nomatch e)))
      · rw [if_neg hin] at hR1
        refine br_t (nI_le (by omega) (by omega)) (br_f (by decide) (br_f (by decide) ?_))
        by_cases h7 : rt_fd c i = 7
        · rw [if_pos h7] at hR1
          exact br_t (congrArg nI h7) (br_t (nI_le (by omega) (by omega)) (nm_r (nI_1 i) (ih (i + 1) (some q) bd (by omega) hR1 (fun q' e => by cases e; exact ⟨hq, hBq⟩))))
        · rw [if_neg h7] at hR1
          exact br_f (rt_ne (b := 7) (by omega) (by decide) h7) (nm_r (nI_1 i) (ih (i + 1) none bd (by omega) hR1 (fun q' e => nomatch e)))
theorem rt_yis (H : rt_ok p w s k a b) {post : Int32 → SY → Prop} {x : Int32} {r n c : Nat} {bd : Nat → Int32} (hx : x = nI n) (hr : r < 3) (hn : n < 4) (hc : c < 512) (h : ∀ bd', post (rt_b (rt_is p w k a b r n c)) (rt_th p, rt_f k, rt_f a, rt_f b, rt_f s, rt_f w, bd')) : wpY_isMatch post (rt_th p, rt_f k, rt_f a, rt_f b, rt_f s, rt_f w, bd) (nI r) x (nI c) := by
  subst hx
  refine ⟨4, ?_⟩
  refine br_f (by decide) ⟨vp_in_nI (n := 0) (by decide) (by decide), nm_e (nm_r (show (0 : Int32) + 1 = 1 from rfl) ?_)⟩
  refine br_f (by decide) ⟨vp_in_nI (n := 1) (by decide) (by decide), nm_e (nm_r (show (1 : Int32) + 1 = 2 from rfl) ?_)⟩
  refine br_f (by decide) ⟨vp_in_nI (n := 2) (by decide) (by decide), nm_e (nm_r (show (2 : Int32) + 1 = 3 from rfl) ?_)⟩
  refine br_t (by decide) ⟨_, rt_yil H hr hn hc h 3 0 (some 0) _ rfl rfl (fun q e => ?_)⟩
  cases e
  exact ⟨by decide, rt_Breset bd⟩
theorem rt_ycl (H : rt_ok p w s k a b) {post : Int32 → SY → Prop} {r n : Nat} (hr : r < 3) (hn : n < 4) (h : ∀ bd', post (nI (rt_ct p w k a b r n)) (rt_th p, rt_f k, rt_f a, rt_f b, rt_f s, rt_f w, bd')) : ∀ (d m : Nat) (bd : Nat → Int32), m + d = 512 → wY_count_5 post (nI r) (nI n) (d + 1) (nI (rt_cn (rt_is p w k a b r n) m)) (nI m) (rt_th p) (rt_f k) (rt_f a) (rt_f b) (rt_f s) (rt_f w) bd := by
  intro d
  induction d with
  | zero =>
    intro m bd hm
    have : m = 512 := by omega
    subst this
    exact br_t (nI_le (a := 512) (by omega) (by decide)) (h bd)
  | succ d ih =>
    intro m bd hm
    refine br_f (nI_ge (b := 512) (by omega) (by decide)) (rt_yis H rfl hr hn (by omega) (fun bd1 => ?_))
    have ih1 := ih (m + 1) bd1 (by omega)
    unfold rt_cn at ih1
    refine rt_bb (fun e => nm_r (nI_1 m) ?_) (fun e => nm_r (nI_1 _) (nm_r (nI_1 m) ?_))
    · rw [if_neg (by rw [e]; simp)] at ih1
      exact ih1
    · rw [if_pos e] at ih1
      exact ih1
theorem rt_yct (H : rt_ok p w s k a b) {post : Int32 → SY → Prop} {x : Int32} {r n : Nat} {bd : Nat → Int32} (hx : x = nI n) (hr : r < 3) (hn : n < 4) (h : ∀ bd', post (nI (rt_ct p w k a b r n)) (rt_th p, rt_f k, rt_f a, rt_f b, rt_f s, rt_f w, bd')) : wpY_count post (rt_th p, rt_f k, rt_f a, rt_f b, rt_f s, rt_f w, bd) (nI r) x := by
  subst hx
  exact ⟨_, rt_ycl H hr hn h 512 0 bd rfl⟩
theorem rt_ymt (H : rt_ok p w s k a b) {post : Int32 → SY → Prop} {r : Nat} {bd : Nat → Int32} (hr : r < 3) (h : ∀ bd', post (nI (rt_ct p w k a b r (s r))) (rt_th p, rt_f k, rt_f a, rt_f b, rt_f s, rt_f w, bd')) : wpY_matches post (rt_th p, rt_f k, rt_f a, rt_f b, rt_f s, rt_f w, bd) (nI r) := by
  unfold wpY_matches
  dsimp only
  refine rt_yrule hr (br_f (by decide) ⟨vp_in_nI hr (by decide), rt_yct H (rt_rd (by omega)) hr (rt_hs H r) h⟩)
end
end
section
/-! the loops of the questions, and the stores of facts, on both sides -/
def rt_rdy (P : Nat → Bool) : Nat → Nat
  | 0 => 0
  | r + 1 => if P r = true then rt_rdy P r + 2 ^ r else rt_rdy P r
def rt_has (f c : Nat) : Bool := decide (rt_fd c 0 = f) || (decide (rt_fd c 1 = f) || decide (rt_fd c 2 = f))
def rt_Q (p : Nat) (w s k a b : Nat → Nat) (f c : Nat) : Bool := rt_has f (c % 512) && rt_is p w k a b (c / 512) (s (c / 512)) (c % 512)
def rt_fk (k a b : Nat → Nat) (W f : Nat) : Bool := decide (k f = W % 4) && ((decide (4 ≤ W / 4 % 8) || decide (W / 4 % 8 = a f)) && (decide (4 ≤ W / 32 % 8) || decide (W / 32 % 8 = b f)))
def rt_ft (p : Nat) (k a b : Nat → Nat) (W f : Nat) : Bool := p.testBit f && rt_fk k a b W f
def rt_pos (p : Nat) (w s k a b : Nat → Nat) (r : Nat) : Bool := decide (0 < rt_ct p w k a b r (s r))
def rt_lc (z : Nat) : Int32 := if z = 7 then -1 else nI z
theorem rt_rdylt (P : Nat → Bool) (r : Nat) : rt_rdy P r < 2 ^ r := by
  induction r with
  | zero => exact Nat.one_pos
  | succ r ih =>
    unfold rt_rdy
    have e : 2 ^ (r + 1) = 2 ^ r + 2 ^ r := by rw [Nat.pow_succ]; omega
    by_cases h : P r = true
    · rw [if_pos h]; omega
    · rw [if_neg h]; omega
theorem rt_Qe {p : Nat} {w s k a b : Nat → Nat} {f r m : Nat} (hm : m < 512) : rt_Q p w s k a b f (512 * r + m) = (rt_has f m && rt_is p w k a b r (s r) m) := by
  unfold rt_Q
  have e1 : (512 * r + m) % 512 = m := by omega
  have e2 : (512 * r + m) / 512 = r := by omega
  rw [e1, e2]
theorem rt_nar1 : vp_nar .boolean 1 = 1 := rfl
theorem rt_nar0 : vp_nar .boolean 0 = 0 := rfl
theorem rt_rb {x : Bool} {P : Int32 → Prop} (y : Bool) (e : x = y) (h : P (rt_b x)) : P (rt_b y) := e ▸ h
theorem rt_fd0 {c : Nat} (hc : c < 512) : nI c &&& 7 = nI (rt_fd c 0) := by
  rw [pk_andN (by omega) 3 (by decide)]
  unfold rt_fd
  simp
theorem rt_fd1 {c : Nat} (hc : c < 512) : (nI c >>> ((3 : Int32) &&& 31)) &&& 7 = nI (rt_fd c 1) := rt_fdI (x := 1) (by omega) (by decide)
theorem rt_fd2 {c : Nat} (hc : c < 512) : nI c >>> ((6 : Int32) &&& 31) = nI (rt_fd c 2) := by
  rw [pk_shrN (by omega) _ 6 (by decide)]
  unfold rt_fd
  have e : c / 8 ^ 2 % 8 = c / 2 ^ 6 := by
    have h1 : (8 : Nat) ^ 2 = 64 := rfl
    rw [h1]; omega
  rw [e]
section
variable {p : Nat} {w s k a b : Nat → Nat}
theorem rt_ctle (r n : Nat) : rt_ct p w k a b r n ≤ 512 := rt_cnle _ _
theorem rt_xml (H : rt_ok p w s k a b) {post : Int32 → Prop} {K : Int32} {r : Nat} (hr : r < 3) : ∀ d c l : Nat, c + d = 512 → post (rt_find (rt_is p w k a b r (s r)) K d c l) → wX_match_14 post (nI r) K (nI p) (rt_f w) (rt_f s) (rt_f k) (rt_f a) (rt_f b) (d + 1) (nI l) (nI c) := by
  intro d
  induction d with
  | zero =>
    intro c l hc h
    have : c = 512 := by omega
    subst this
    exact br_t (nI_le (a := 512) (by omega) (by decide)) h
  | succ d ih =>
    intro c l hc h
    unfold rt_find at h
    refine br_f (nI_ge (b := 512) (by omega) (by decide)) ⟨vp_in_nI hr (by decide), rt_xis H (rt_rd (by omega)) hr (rt_hs H r) (by omega) (rt_bb (fun e => nm_r (nI_1 c) (ih (c + 1) l (by omega) ?_)) (fun e => ?_))⟩
    · rw [if_neg (by rw [e]; simp)] at h
      exact h
    · rw [if_pos e] at h
      by_cases z : nI l = K
      · rw [if_pos z] at h
        exact br_t z h
      · rw [if_neg z] at h
        exact br_f z (nm_r (nI_1 l) (nm_r (nI_1 c) (ih (c + 1) (l + 1) (by omega) h)))
theorem rt_yml (H : rt_ok p w s k a b) {post : Int32 → SY → Prop} {K : Int32} {r : Nat} (hr : r < 3) : ∀ (d c l : Nat) (bd : Nat → Int32), c + d = 512 → (∀ bd', post (rt_find (rt_is p w k a b r (s r)) K d c l) (rt_th p, rt_f k, rt_f a, rt_f b, rt_f s, rt_f w, bd')) → wY_match_5 post (nI r) K (d + 1) (nI l) (nI c) (rt_th p) (rt_f k) (rt_f a) (rt_f b) (rt_f s) (rt_f w) bd := by
  intro d
  induction d with
  | zero =>
    intro c l bd hc h
    have : c = 512 := by omega
    subst this
    exact br_t (nI_le (a := 512) (by omega) (by decide)) (h bd)
  | succ d ih =>
    intro c l bd hc h
    unfold rt_find at h
    refine br_f (nI_ge (b := 512) (by omega) (by decide)) (rt_yrule hr (br_f (by decide) ⟨vp_in_nI hr (by decide), rt_yis H (rt_rd (by omega)) hr (rt_hs H r) (by omega) (fun bd1 => rt_bb (fun e => nm_r (nI_1 c) (ih (c + 1) l bd1 (by omega) ?_)) (fun e => ?_))⟩))
    · rw [if_neg (by rw [e]; simp)] at h
      exact h
    · rw [if_pos e] at h
      by_cases z : nI l = K
      · rw [if_pos z] at h
        exact br_t z (h bd1)
      · rw [if_neg z] at h
        exact br_f z (nm_r (nI_1 l) (nm_r (nI_1 c) (ih (c + 1) (l + 1) bd1 (by omega) h)))
theorem rt_xrl (H : rt_ok p w s k a b) {post : Int32 → Prop} (h : post (nI (rt_rdy (rt_pos p w s k a b) 3))) : ∀ d r : Nat, r + d = 3 → wX_ready_4 post (nI p) (rt_f w) (rt_f s) (rt_f k) (rt_f a) (rt_f b) (d + 1) (nI (rt_rdy (rt_pos p w s k a b) r)) (nI r) := by
  intro d
  induction d with
  | zero =>
    intro r hr
    have : r = 3 := by omega
    subst this
    exact br_t (nI_le (a := 3) (by omega) (by decide)) h
  | succ d ih =>
    intro r hr
    have ih1 := ih (r + 1) (by omega)
    unfold rt_rdy at ih1
    have hl := rt_ctle (p := p) (w := w) (k := k) (a := a) (b := b) r (s r)
    refine br_f (nI_ge (b := 3) (by omega) (by decide)) ⟨vp_in_nI (by omega) (by decide), rt_xct H (rt_rd (by omega)) (by omega) (rt_hs H r) ?_⟩
    by_cases z : 0 < rt_ct p w k a b r (s r)
    · rw [if_pos (show rt_pos p w s k a b r = true from decide_eq_true z)] at ih1
      have hz := rt_rdylt (rt_pos p w s k a b) r
      have hz2 : 2 ^ r ≤ 4 := Nat.pow_le_pow_right (n := 2) (j := 2) (by decide) (by omega)
      refine br_f (nI_nle z (by omega)) (nm_r (rt_rdyI _ (by omega) r (by omega) hz) (nm_r (nI_1 r) ih1))
    · rw [if_neg (show ¬ rt_pos p w s k a b r = true from fun y => z (of_decide_eq_true y))] at ih1
      exact br_t (nI_le (b := 0) (by omega) (by decide)) (nm_r (nI_1 r) ih1)
theorem rt_yrl (H : rt_ok p w s k a b) {post : Int32 → SY → Prop} (h : ∀ bd', post (nI (rt_rdy (rt_pos p w s k a b) 3)) (rt_th p, rt_f k, rt_f a, rt_f b, rt_f s, rt_f w, bd')) : ∀ (d r : Nat) (bd : Nat → Int32), r + d = 3 → wY_ready_4 post (d + 1) (nI (rt_rdy (rt_pos p w s k a b) r)) (nI r) (rt_th p) (rt_f k) (rt_f a) (rt_f b) (rt_f s) (rt_f w) bd := by
  intro d
  induction d with
  | zero =>
    intro r bd hr
    have : r = 3 := by omega
    subst this
    exact br_t (nI_le (a := 3) (by omega) (by decide)) (h bd)
  | succ d ih =>
    intro r bd hr
    have hl := rt_ctle (p := p) (w := w) (k := k) (a := a) (b := b) r (s r)
    refine br_f (nI_ge (b := 3) (by omega) (by decide)) (rt_ymt H (by omega) (fun bd1 => ?_))
    have ih1 := ih (r + 1) bd1 (by omega)
    unfold rt_rdy at ih1
    by_cases z : 0 < rt_ct p w k a b r (s r)
    · rw [if_pos (show rt_pos p w s k a b r = true from decide_eq_true z)] at ih1
      have hz := rt_rdylt (rt_pos p w s k a b) r
      have hz2 : 2 ^ r ≤ 4 := Nat.pow_le_pow_right (n := 2) (j := 2) (by decide) (by omega)
      refine br_f (nI_nle z (by omega)) (nm_r (rt_rdyI _ (by omega) r (by omega) hz) (nm_r (nI_1 r) ih1))
    · rw [if_neg (show ¬ rt_pos p w s k a b r = true from fun y => z (of_decide_eq_true y))] at ih1
      exact br_t (nI_le (b := 0) (by omega) (by decide)) (nm_r (nI_1 r) ih1)
theorem rt_xhp {post : Int32 → Prop} {f c : Nat} (hf : f < 7) (hc : c < 512) (h : post (rt_b (rt_has f c))) : wpX_hasPlace post (nI f) (nI c) := by
  unfold rt_has at h
  have l0 := rt_fdlt c 0
  have l1 := rt_fdlt c 1
  have l2 := rt_fdlt c 2
  refine ⟨4, br_f (by decide) (rt_xfa (i := 0) hc (by decide) ?_)⟩
  by_cases e0 : rt_fd c 0 = f
  · rw [decide_eq_true e0] at h
    exact br_t (congrArg nI e0) h
  · rw [decide_eq_false e0] at h
    refine br_f (rt_ne (by omega) (by omega) e0) (nm_r (show (0 : Int32) + 1 = 1 from rfl) (br_f (by decide) (rt_xfa (i := 1) hc (by decide) ?_)))
    by_cases e1 : rt_fd c 1 = f
    · rw [decide_eq_true e1] at h
      exact br_t (congrArg nI e1) h
    · rw [decide_eq_false e1] at h
      refine br_f (rt_ne (by omega) (by omega) e1) (nm_r (show (1 : Int32) + 1 = 2 from rfl) (br_f (by decide) (rt_xfa (i := 2) hc (by decide) ?_)))
      by_cases e2 : rt_fd c 2 = f
      · rw [decide_eq_true e2] at h
        exact br_t (congrArg nI e2) h
      · rw [decide_eq_false e2] at h
        exact br_f (rt_ne (by omega) (by omega) e2) (nm_r (show (2 : Int32) + 1 = 3 from rfl) (br_t (by decide) h))
theorem rt_xul (H : rt_ok p w s k a b) {post : Int32 → Prop} {J : Int32 → Int32 → Prop} {f r : Nat} (hf : f < 7) (hr : r < 3) (hJ : J (nI (rt_cn (rt_Q p w s k a b f) (512 * r + 512))) (nI (r + 1))) : ∀ d m : Nat, m + d = 512 → wX_uses_22 post J (nI f) (nI r) (nI p) (rt_f w) (rt_f s) (rt_f k) (rt_f a) (rt_f b) (d + 1) (nI (rt_cn (rt_Q p w s k a b f) (512 * r + m))) (nI m) := by
  intro d
  induction d with
  | zero =>
    intro m hm
    have : m = 512 := by omega
    subst this
    exact br_t (nI_le (a := 512) (by omega) (by decide)) (nm_r (nI_1 r) hJ)
  | succ d ih =>
    intro m hm
    have ih1 : wX_uses_22 post J (nI f) (nI r) (nI p) (rt_f w) (rt_f s) (rt_f k) (rt_f a) (rt_f b) (d + 1) (nI (rt_cn (rt_Q p w s k a b f) (512 * r + m + 1))) (nI (m + 1)) := ih (m + 1) (by omega)
    unfold rt_cn at ih1
    rw [rt_Qe (by omega)] at ih1
    refine br_f (nI_ge (b := 512) (by omega) (by decide)) (rt_xhp hf (by omega) (rt_bb (fun e => nm_r (nI_1 m) ?_) (fun e => ⟨vp_in_nI hr (by decide), rt_xis H (rt_rd (by omega)) hr (rt_hs H r) (by omega) (rt_bb (fun e2 => nm_r (nI_1 m) ?_) (fun e2 => nm_r (nI_1 _) (nm_r (nI_1 m) ?_)))⟩)))
    · rw [if_neg (by rw [e]; simp)] at ih1
      exact ih1
    · rw [if_neg (by rw [e, e2]; simp)] at ih1
      exact ih1
    · rw [if_pos (by rw [e, e2]; rfl)] at ih1
      exact ih1
theorem rt_xuo (H : rt_ok p w s k a b) {post : Int32 → Prop} {f : Nat} (hf : f < 7) (h : post (nI (rt_cn (rt_Q p w s k a b f) 1536))) : ∀ d r : Nat, r + d = 3 → wX_uses_14 post (nI f) (nI p) (rt_f w) (rt_f s) (rt_f k) (rt_f a) (rt_f b) (d + 1) (nI (rt_cn (rt_Q p w s k a b f) (512 * r))) (nI r) := by
  intro d
  induction d with
  | zero =>
    intro r hr
    have : r = 3 := by omega
    subst this
    exact br_t (nI_le (a := 3) (by omega) (by decide)) h
  | succ d ih =>
    intro r hr
    have ih1 := ih (r + 1) (by omega)
    rw [show 512 * (r + 1) = 512 * r + 512 from by omega] at ih1
    exact br_f (nI_ge (b := 3) (by omega) (by decide)) ⟨_, rt_xul H hf (by omega) ih1 512 0 rfl⟩
theorem rt_yis2 (H : rt_ok p w s k a b) {post : Int32 → SY → Prop} {x y : Int32} {r n c : Nat} {bd : Nat → Int32} (hy : y = nI r) (hx : x = nI n) (hr : r < 3) (hn : n < 4) (hc : c < 512) (h : ∀ bd', post (rt_b (rt_is p w k a b r n c)) (rt_th p, rt_f k, rt_f a, rt_f b, rt_f s, rt_f w, bd')) : wpY_isMatch post (rt_th p, rt_f k, rt_f a, rt_f b, rt_f s, rt_f w, bd) y x (nI c) := by
  subst hy
  exact rt_yis H hx hr hn hc h
theorem rt_yul (H : rt_ok p w s k a b) {post : Int32 → SY → Prop} {f : Nat} (hf : f < 7) (h : ∀ bd', post (nI (rt_cn (rt_Q p w s k a b f) 1536)) (rt_th p, rt_f k, rt_f a, rt_f b, rt_f s, rt_f w, bd')) : ∀ (d m : Nat) (bd : Nat → Int32), m + d = 1536 → wY_uses_25 post (nI f) (d + 1) (nI (rt_cn (rt_Q p w s k a b f) m)) (nI m) (rt_th p) (rt_f k) (rt_f a) (rt_f b) (rt_f s) (rt_f w) bd := by
  intro d
  induction d with
  | zero =>
    intro m bd hm
    have : m = 1536 := by omega
    subst this
    exact br_t (nI_le (a := 1536) (by omega) (by decide)) (h bd)
  | succ d ih =>
    intro m bd hm
    have hc : m % 512 < 512 := Nat.mod_lt _ (by decide)
    have hr : m / 512 < 3 := by omega
    have ed : nI m / 512 = nI (m / 512) := pk_div (d := 512) (by omega) (by decide) (by decide)
    have ih1 : ∀ bd1, wY_uses_25 post (nI f) (d + 1) (nI (if rt_Q p w s k a b f m = true then rt_cn (rt_Q p w s k a b f) m + 1 else rt_cn (rt_Q p w s k a b f) m)) (nI (m + 1)) (rt_th p) (rt_f k) (rt_f a) (rt_f b) (rt_f s) (rt_f w) bd1 := fun bd1 => ih (m + 1) bd1 (by omega)
    have K0 : rt_has f (m % 512) = false → wY_uses_73 post (wY_uses_25 post (nI f) (d + 1)) (nI f) (nI (rt_cn (rt_Q p w s k a b f) m)) (nI m) (nI (m % 512)) 0 (rt_th p) (rt_f k) (rt_f a) (rt_f b) (rt_f s) (rt_f w) bd := by
      intro e
      have i2 := ih1 bd
      rw [if_neg (by unfold rt_Q; rw [e]; simp)] at i2
      exact br_t rfl (nm_r (nI_1 m) i2)
    have K1 : rt_has f (m % 512) = true → wY_uses_73 post (wY_uses_25 post (nI f) (d + 1)) (nI f) (nI (rt_cn (rt_Q p w s k a b f) m)) (nI m) (nI (m % 512)) 1 (rt_th p) (rt_f k) (rt_f a) (rt_f b) (rt_f s) (rt_f w) bd := by
      intro e
      refine br_f (by decide) ⟨by decide, by decide, pk_in (m / 512) 3 hr ed, rt_yis2 H ed (rt_rdx ed (by omega)) hr (rt_hs H _) hc (fun bd1 => rt_bb (fun e2 => nm_r (nI_1 m) ?_) (fun e2 => nm_r (nI_1 _) (nm_r (nI_1 m) ?_)))⟩
      · have i2 := ih1 bd1
        rw [if_neg (by unfold rt_Q; rw [e, e2]; simp)] at i2
        exact i2
      · have i2 := ih1 bd1
        rw [if_pos (by unfold rt_Q; rw [e, e2]; rfl)] at i2
        exact i2
    have l0 := rt_fdlt (m % 512) 0
    have l1 := rt_fdlt (m % 512) 1
    have l2 := rt_fdlt (m % 512) 2
    refine br_f (nI_ge (b := 1536) (by omega) (by decide)) ⟨by decide, nm_r (pk_rem (d := 512) (by omega) (by decide) (by decide)) ?_⟩
    rw [rt_fd0 hc, rt_fd1 hc, rt_fd2 hc]
    unfold rt_has at K0 K1
    by_cases e0 : rt_fd (m % 512) 0 = f
    · rw [decide_eq_true e0] at K1
      exact br_t (congrArg nI e0) (K1 rfl)
    · rw [decide_eq_false e0] at K0 K1
      refine br_f (rt_ne (by omega) (by omega) e0) ?_
      by_cases e1 : rt_fd (m % 512) 1 = f
      · rw [decide_eq_true e1] at K1
        exact br_t (congrArg nI e1) (K1 rfl)
      · rw [decide_eq_false e1] at K0 K1
        refine br_f (rt_ne (by omega) (by omega) e1) ?_
        by_cases e2 : rt_fd (m % 512) 2 = f
        · rw [decide_eq_true e2] at K1
          exact br_t (congrArg nI e2) (K1 rfl)
        · rw [decide_eq_false e2] at K0
          exact br_f (rt_ne (by omega) (by omega) e2) (K0 rfl)
end
end
section
/-! fitting; the least free number; the stores of facts -/
theorem rt_lfrle (p : Nat) : ∀ d f, rt_lfr p d f ≤ f + d := by
  intro d
  induction d with
  | zero => intro f; exact Nat.le_refl f
  | succ d ih =>
    intro f
    unfold rt_lfr
    by_cases h : p.testBit f = true
    · rw [if_pos h]; have := ih (f + 1); omega
    · rw [if_neg h]; omega
theorem rt_bf1 {x : Bool} (h : ¬ x = true) : x = false := by
  cases x with
  | false => rfl
  | true => exact absurd rfl h
section
variable {p : Nat} {w s k a b : Nat → Nat}
theorem rt_x39 {post : Int32 → Prop} {d f : Nat} (H : rt_ok p w s k a b) (hd : d < 8) (hf : f < 7) (h : post (rt_b (decide (4 ≤ d) || decide (d = b f)))) : wX_fitsKindAndNumbers_39 post (nI f) (nI d) (nI p) (rt_f w) (rt_f s) (rt_f k) (rt_f a) (rt_f b) := by
  unfold wX_fitsKindAndNumbers_39
  have hb := rt_hb H f
  rw [rt_rd (g := b) (by omega : f < 2 ^ 31)]
  by_cases c1 : 4 ≤ d
  · rw [decide_eq_true c1] at h
    exact br_t (nI_le (a := 4) c1 (by omega)) h
  · rw [decide_eq_false c1] at h
    refine br_f (nI_ge (b := 4) (by omega) (by decide)) ⟨vp_in_nI hf (by decide), ?_⟩
    by_cases c2 : d = b f
    · rw [decide_eq_true c2] at h
      exact br_t (congrArg nI c2) h
    · rw [decide_eq_false c2] at h
      exact br_f (rt_ne (by omega) (by omega) c2) h
theorem rt_xfk (H : rt_ok p w s k a b) {post : Int32 → Prop} {W f : Nat} (hW : W < 512) (hf : f < 7) (h : post (rt_b (rt_fk k a b W f))) : wpX_fitsKindAndNumbers post (nI p, rt_f w, rt_f s, rt_f k, rt_f a, rt_f b) (nI W) (nI f) := by
  unfold rt_fk at h
  unfold wpX_fitsKindAndNumbers
  dsimp only
  have hf2 : f < 2 ^ 31 := by omega
  have hv : vp_in (nI f) 7 := vp_in_nI hf (by decide)
  have h1 := rt_hk H f
  have h2 := rt_ha H f
  rw [rt_rd (g := k) hf2, rt_rd (g := a) hf2]
  refine rt_xd1 hW (rt_xd2 hW ⟨hv, rt_xkind hW ?_⟩)
  by_cases c1 : k f = W % 4
  · rw [decide_eq_true c1] at h
    refine br_t (congrArg nI c1) ?_
    by_cases c2 : 4 ≤ W / 4 % 8
    · rw [decide_eq_true c2] at h
      exact br_t (nI_le (a := 4) c2 (by omega)) (rt_x39 H (Nat.mod_lt _ (by decide)) hf h)
    · rw [decide_eq_false c2] at h
      refine br_f (nI_ge (b := 4) (by omega) (by decide)) ⟨hv, ?_⟩
      by_cases c3 : W / 4 % 8 = a f
      · rw [decide_eq_true c3] at h
        exact br_t (congrArg nI c3) (rt_x39 H (Nat.mod_lt _ (by decide)) hf h)
      · rw [decide_eq_false c3] at h
        exact br_f (rt_ne (by omega) (by omega) c3) h
  · rw [decide_eq_false c1] at h
    exact br_f (rt_ne (by omega) (by omega) c1) h
theorem rt_xtl (H : rt_ok p w s k a b) {post : Int32 → Prop} {W : Nat} (hW : W < 512) (h : post (nI (rt_cn (rt_ft p k a b W) 7))) : ∀ d m : Nat, m + d = 7 → wX_fitting_40 post (nI W) (nI p) (rt_f w) (rt_f s) (rt_f k) (rt_f a) (rt_f b) (d + 1) (nI (rt_cn (rt_ft p k a b W) m)) (nI m) := by
  intro d
  induction d with
  | zero =>
    intro m hm
    have : m = 7 := by omega
    subst this
    exact br_t (nI_le (a := 7) (by omega) (by decide)) h
  | succ d ih =>
    intro m hm
    have ih1 : wX_fitting_40 post (nI W) (nI p) (rt_f w) (rt_f s) (rt_f k) (rt_f a) (rt_f b) (d + 1) (nI (if (p.testBit m && rt_fk k a b W m) = true then rt_cn (rt_ft p k a b W) m + 1 else rt_cn (rt_ft p k a b W) m)) (nI (m + 1)) := ih (m + 1) (by omega)
    refine br_f (nI_ge (b := 7) (by omega) (by decide)) (rt_xfact H (by omega) (rt_bb (fun e => nm_r (nI_1 m) ?_) (fun e => rt_xfk H hW (by omega) (rt_bb (fun e2 => nm_r (nI_1 m) ?_) (fun e2 => nm_r (nI_1 _) (nm_r (nI_1 m) ?_))))))
    · rw [if_neg (by rw [e]; simp)] at ih1
      exact ih1
    · rw [if_neg (by rw [e, e2]; simp)] at ih1
      exact ih1
    · rw [if_pos (by rw [e, e2]; rfl)] at ih1
      exact ih1
theorem rt_ytl (H : rt_ok p w s k a b) {post : Int32 → Prop} {bd : Nat → Int32} {W : Nat} (hW : W < 512) (h : post (nI (rt_cn (rt_ft p k a b W) 7))) : ∀ d m : Nat, m + d = 7 → wY_fitting_57 post (nI W) (nI (W / 4 % 8)) (nI (W / 32 % 8)) (rt_th p) (rt_f k) (rt_f a) (rt_f b) (rt_f s) (rt_f w) bd (d + 1) (nI (rt_cn (rt_ft p k a b W) m)) (nI m) := by
  intro d
  induction d with
  | zero =>
    intro m hm
    have : m = 7 := by omega
    subst this
    exact br_t (nI_le (a := 7) (by omega) (by decide)) h
  | succ d ih =>
    intro m hm
    have ih1 : wY_fitting_57 post (nI W) (nI (W / 4 % 8)) (nI (W / 32 % 8)) (rt_th p) (rt_f k) (rt_f a) (rt_f b) (rt_f s) (rt_f w) bd (d + 1) (nI (if (p.testBit m && rt_fk k a b W m) = true then rt_cn (rt_ft p k a b W) m + 1 else rt_cn (rt_ft p k a b W) m)) (nI (m + 1)) := ih (m + 1) (by omega)
    have K0 : (p.testBit m && rt_fk k a b W m) = false → wY_fitting_128 post (wY_fitting_57 post (nI W) (nI (W / 4 % 8)) (nI (W / 32 % 8)) (rt_th p) (rt_f k) (rt_f a) (rt_f b) (rt_f s) (rt_f w) bd (d + 1)) (nI W) (nI (W / 4 % 8)) (nI (W / 32 % 8)) (nI (rt_cn (rt_ft p k a b W) m)) (nI m) 0 (rt_th p) (rt_f k) (rt_f a) (rt_f b) (rt_f s) (rt_f w) bd := by
      intro e
      rw [if_neg (by rw [e]; simp)] at ih1
      exact br_t rfl (nm_r (nI_1 m) ih1)
    have K1 : (p.testBit m && rt_fk k a b W m) = true → wY_fitting_128 post (wY_fitting_57 post (nI W) (nI (W / 4 % 8)) (nI (W / 32 % 8)) (rt_th p) (rt_f k) (rt_f a) (rt_f b) (rt_f s) (rt_f w) bd (d + 1)) (nI W) (nI (W / 4 % 8)) (nI (W / 32 % 8)) (nI (rt_cn (rt_ft p k a b W) m)) (nI m) 1 (rt_th p) (rt_f k) (rt_f a) (rt_f b) (rt_f s) (rt_f w) bd := by
      intro e
      rw [if_pos e] at ih1
      exact br_f (by decide) (nm_r (nI_1 _) (nm_r (nI_1 m) ih1))
    have hm2 : m < 2 ^ 31 := by omega
    have hv : vp_in (nI m) 7 := vp_in_nI (by omega) (by decide)
    have h1 := rt_hk H m
    have h2 := rt_ha H m
    have h3 := rt_hb H m
    have ek : rt_f k (nI m).toNatClampNeg = nI (k m) := rt_rd hm2
    have ea : rt_f a (nI m).toNatClampNeg = nI (a m) := rt_rd hm2
    have eb : rt_f b (nI m).toNatClampNeg = nI (b m) := rt_rd hm2
    have ew : nI W &&& 3 = nI (W % 4) := rt_kd hW
    refine br_f (nI_ge (b := 7) (by omega) (by decide)) ⟨hv, rt_thr hm2 (fun e => K0 (by rw [e]; rfl)) (fun e => ⟨hv, ?_⟩)⟩
    rw [ek, ew]
    rw [e] at K0 K1
    unfold rt_fk at K0 K1
    by_cases c1 : k m = W % 4
    · rw [decide_eq_true c1] at K0 K1
      refine br_t (congrArg nI c1) ?_
      have K : (decide (4 ≤ W / 4 % 8) || decide (W / 4 % 8 = a m)) = true → wY_fitting_105 post (wY_fitting_57 post (nI W) (nI (W / 4 % 8)) (nI (W / 32 % 8)) (rt_th p) (rt_f k) (rt_f a) (rt_f b) (rt_f s) (rt_f w) bd (d + 1)) (nI W) (nI (W / 4 % 8)) (nI (W / 32 % 8)) (nI (rt_cn (rt_ft p k a b W) m)) (nI m) (rt_th p) (rt_f k) (rt_f a) (rt_f b) (rt_f s) (rt_f w) bd := by
        intro z
        rw [z] at K0 K1
        unfold wY_fitting_105
        rw [eb]
        by_cases c4 : 4 ≤ W / 32 % 8
        · rw [decide_eq_true c4] at K1
          exact br_t (nI_lt (a := 3) (by omega) (by omega)) (K1 rfl)
        · rw [decide_eq_false c4] at K0 K1
          refine br_f (nI_nlt (a := 3) (by omega) (by decide)) ⟨hv, ?_⟩
          by_cases c5 : W / 32 % 8 = b m
          · rw [decide_eq_true c5] at K1
            exact br_t (congrArg nI c5) (K1 rfl)
          · rw [decide_eq_false c5] at K0
            exact br_f (rt_ne (by omega) (by omega) c5) (K0 rfl)
      by_cases c2 : 4 ≤ W / 4 % 8
      · rw [decide_eq_true c2] at K
        exact br_t (nI_lt (a := 3) (by omega) (by omega)) (K rfl)
      · rw [decide_eq_false c2] at K0 K
        refine br_f (nI_nlt (a := 3) (by omega) (by decide)) ⟨hv, ?_⟩
        rw [ea]
        by_cases c3 : W / 4 % 8 = a m
        · rw [decide_eq_true c3] at K
          exact br_t (congrArg nI c3) (K rfl)
        · rw [decide_eq_false c3] at K0
          exact br_f (rt_ne (by omega) (by omega) c3) (K0 rfl)
    · rw [decide_eq_false c1] at K0
      exact br_f (rt_ne (by omega) (by omega) c1) (K0 rfl)
theorem rt_xll (H : rt_ok p w s k a b) {post : Int32 → Prop} : ∀ d f : Nat, f + d = 7 → post (rt_lc (rt_lfr p d f)) → wX_leastFreeNumber_2 post (nI p) (rt_f w) (rt_f s) (rt_f k) (rt_f a) (rt_f b) (d + 1) (nI f) := by
  intro d
  induction d with
  | zero =>
    intro f hf h
    have : f = 7 := by omega
    subst this
    exact br_t (nI_le (a := 7) (by omega) (by decide)) h
  | succ d ih =>
    intro f hf h
    unfold rt_lfr at h
    refine br_f (nI_ge (b := 7) (by omega) (by decide)) (rt_xfact H (by omega) (rt_bb (fun e => ?_) (fun e => nm_r (nI_1 f) (ih (f + 1) (by omega) ?_))))
    · rw [if_neg (by rw [e]; simp)] at h
      unfold rt_lc at h
      rw [if_neg (by omega)] at h
      exact h
    · rw [if_pos e] at h
      exact h
theorem rt_xlf (H : rt_ok p w s k a b) {post : Int32 → Prop} (h : post (rt_lc (rt_lf p))) : wpX_leastFreeNumber post (nI p, rt_f w, rt_f s, rt_f k, rt_f a, rt_f b) := ⟨_, rt_xll H 7 0 rfl h⟩
theorem rt_xput (H : rt_ok p w s k a b) {post : SX → Prop} {f K A B : Nat} (hf : f < 7) (h : post (nI (rt_put p f), rt_f w, rt_f s, rt_f (rt_up k f K), rt_f (rt_up a f A), rt_f (rt_up b f B))) : wpX_putFact post (nI p, rt_f w, rt_f s, rt_f k, rt_f a, rt_f b) (nI f) (nI K) (nI A) (nI B) := by
  unfold wpX_putFact
  dsimp only
  have hv : vp_in (nI f) 7 := vp_in_nI hf (by decide)
  rw [nI_clamp (show f < 2 ^ 31 by omega), rt_upd, rt_upd, rt_upd, (rt_putI p (rt_hp H) f hf).1]
  exact ⟨hv, nm_e ⟨hv, nm_e ⟨hv, nm_e (nm_e h)⟩⟩⟩
theorem rt_xtake (H : rt_ok p w s k a b) {post : SX → Prop} {f : Nat} (hf : f < 7) (h : post (nI (rt_rm p f), rt_f w, rt_f s, rt_f k, rt_f a, rt_f b)) : wpX_takeFact post (nI p, rt_f w, rt_f s, rt_f k, rt_f a, rt_f b) (nI f) := by
  unfold wpX_takeFact
  dsimp only
  rw [(rt_rmI p (rt_hp H) f hf).1]
  exact nm_e h
theorem rt_okput (H : rt_ok p w s k a b) {f K A B : Nat} (hf : f < 7) (hK : K < 3) (hA : A < 4) (hB : B < 4) : rt_ok (rt_put p f) w s (rt_up k f K) (rt_up a f A) (rt_up b f B) :=
  ⟨(rt_putI p (rt_hp H) f hf).2, rt_hw H, rt_hs H, rt_uplt (rt_hk H) (by omega), rt_uplt (rt_ha H) hA, rt_uplt (rt_hb H) hB⟩
theorem rt_okrm (H : rt_ok p w s k a b) {f : Nat} (hf : f < 7) : rt_ok (rt_rm p f) w s k a b :=
  ⟨(rt_rmI p (rt_hp H) f hf).2, rt_hw H, rt_hs H, rt_hk H, rt_ha H, rt_hb H⟩
theorem rt_yal {post : Int32 → SY → Prop} {bd : Nat → Int32} {K A B : Nat} : ∀ d f : Nat, f + d = 7 → (rt_lfr p d f = 7 → post (-2) (rt_th p, rt_f k, rt_f a, rt_f b, rt_f s, rt_f w, bd)) → (rt_lfr p d f < 7 → post (nI (rt_lfr p d f)) (rt_th (rt_put p (rt_lfr p d f)), rt_f (rt_up k (rt_lfr p d f) K), rt_f (rt_up a (rt_lfr p d f) A), rt_f (rt_up b (rt_lfr p d f) B), rt_f s, rt_f w, bd)) → wY_add_15 post (nI K) (nI A) (nI B) (rt_th p) (rt_f k) (rt_f a) (rt_f b) (rt_f s) (rt_f w) bd (d + 1) (nI f) := by
  intro d
  induction d with
  | zero =>
    intro f hf h1 h2
    have : f = 7 := by omega
    subst this
    exact br_t (nI_le (a := 7) (by omega) (by decide)) (h1 rfl)
  | succ d ih =>
    intro f hf h1 h2
    have hv : vp_in (nI f) 7 := vp_in_nI (by omega) (by decide)
    have hf2 : f < 2 ^ 31 := by omega
    unfold rt_lfr at h1 h2
    refine br_f (nI_ge (b := 7) (by omega) (by decide)) ⟨hv, rt_thr hf2 (fun e => ?_) (fun e => nm_r (nI_1 f) ?_)⟩
    · rw [if_neg (by rw [e]; simp)] at h2
      have h3 := h2 (by omega)
      rw [nI_clamp hf2, rt_nar1, rt_thput, rt_upd, rt_upd, rt_upd]
      exact ⟨hv, nm_e ⟨hv, nm_e ⟨hv, nm_e ⟨hv, nm_e h3⟩⟩⟩⟩
    · rw [if_pos e] at h1 h2
      exact ih (f + 1) (by omega) h1 h2
theorem rt_yfl (H : rt_ok p w s k a b) {post : Int32 → Prop} {bd : Nat → Int32} (h : post (nI p)) : ∀ d f : Nat, f + d = 7 → wY_facts_4 post (rt_th p) (rt_f k) (rt_f a) (rt_f b) (rt_f s) (rt_f w) bd (d + 1) (nI (p % 2 ^ f)) (nI f) := by
  intro d
  induction d with
  | zero =>
    intro f hf
    have : f = 7 := by omega
    subst this
    have e : p % 2 ^ 7 = p := Nat.mod_eq_of_lt (rt_hp H)
    rw [e]
    exact br_t (nI_le (a := 7) (by omega) (by decide)) h
  | succ d ih =>
    intro f hf
    have ih1 := ih (f + 1) (by omega)
    have e := rt_setI p (rt_hp H) f (by omega)
    refine br_f (nI_ge (b := 7) (by omega) (by decide)) ⟨vp_in_nI (by omega) (by decide), rt_thr (by omega) (fun c => nm_r (nI_1 f) ?_) (fun c => nm_r (e' := nI (p % 2 ^ (f + 1))) ?_ (nm_r (nI_1 f) ih1))⟩
    · rw [if_neg (by rw [c]; simp)] at e
      rw [e]
      exact ih1
    · rw [if_pos c] at e
      exact e
theorem rt_yfs (H : rt_ok p w s k a b) {post : Int32 → Prop} {bd : Nat → Int32} (h : post (nI p)) : wpY_facts post (rt_th p, rt_f k, rt_f a, rt_f b, rt_f s, rt_f w, bd) := by
  have h1 := rt_yfl H (bd := bd) h 7 0 rfl
  rw [show p % 2 ^ 0 = 0 from Nat.mod_one p] at h1
  exact ⟨_, h1⟩
end
theorem rt_xff {post : Int32 → Prop} {K A B : Nat} (hK : K < 3) (hA : A < 4) (hB : B < 4) (h : post 1) : wpX_isFactForm post (nI K) (nI A) (nI B) :=
  rt_inle (n := 3) (by decide) hK (rt_inle (n := 4) (by decide) hA (rt_inle (n := 4) (by decide) hB h))
theorem rt_yff {post : Int32 → Prop} {u : SY} {K A B : Nat} (hK : K < 3) (hA : A < 4) (hB : B < 4) (h : post 1) : wpY_fact post u (nI K) (nI A) (nI B) := by
  obtain ⟨u1, u2, u3, u4, u5, u6, u7⟩ := u
  unfold wpY_fact
  dsimp only
  exact rt_inlt (n := 2) (by decide) (by omega) (rt_inlt (n := 3) (by decide) (by omega) (rt_inlt (n := 3) (by decide) (by omega) h))
theorem rt_xffN {post : Int32 → Prop} {x y z : Int32} (hb : rt_bad x 3 ∨ rt_bad y 4 ∨ rt_bad z 4) (h : post 0) : wpX_isFactForm post x y z := by
  unfold wpX_isFactForm
  rcases rt_dec x 3 with c | ⟨K, hK, hK2, rfl⟩
  · exact rt_badle (n := 3) (by decide) c h
  · refine rt_inle (n := 3) (by decide) hK ?_
    rcases rt_dec y 4 with c | ⟨A, hA, hA2, rfl⟩
    · exact rt_badle (n := 4) (by decide) c h
    · refine rt_inle (n := 4) (by decide) hA ?_
      rcases rt_dec z 4 with c | ⟨B, hB, hB2, rfl⟩
      · exact rt_badle (n := 4) (by decide) c h
      · have no : ∀ {j n : Nat}, j < n → j < 2 ^ 31 → ¬ rt_bad (nI j) n := by
          intro j n h1 h2 h3
          rcases h3 with h3 | ⟨i, h4, h5, h6⟩
          · exact nI_pos h2 h3
          · have := (nI_eq h2 h5).mp h6
            omega
        rcases hb with c | c | c
        · exact absurd c (no hK hK2)
        · exact absurd c (no hA hA2)
        · exact absurd c (no hB hB2)
theorem rt_yffN {post : Int32 → Prop} {u : SY} {x y z : Int32} (hb : rt_bad x 3 ∨ rt_bad y 4 ∨ rt_bad z 4) (h : post 0) : wpY_fact post u x y z := by
  obtain ⟨u1, u2, u3, u4, u5, u6, u7⟩ := u
  unfold wpY_fact
  dsimp only
  rcases rt_dec x 3 with c | ⟨K, hK, hK2, rfl⟩
  · exact rt_badlt (n := 2) (by decide) c h
  · refine rt_inlt (n := 2) (by decide) (by omega) ?_
    rcases rt_dec y 4 with c | ⟨A, hA, hA2, rfl⟩
    · exact rt_badlt (n := 3) (by decide) c h
    · refine rt_inlt (n := 3) (by decide) (by omega) ?_
      rcases rt_dec z 4 with c | ⟨B, hB, hB2, rfl⟩
      · exact rt_badlt (n := 3) (by decide) c h
      · have no : ∀ {j n : Nat}, j < n → j < 2 ^ 31 → ¬ rt_bad (nI j) n := by
          intro j n h1 h2 h3
          rcases h3 with h3 | ⟨i, h4, h5, h6⟩
          · exact nI_pos h2 h3
          · have := (nI_eq h2 h5).mp h6
            omega
        rcases hb with c | c | c
        · exact absurd c (no hK hK2)
        · exact absurd c (no hA hA2)
        · exact absurd c (no hB hB2)
end
section
/-! the relation, and what is owed -/
section
variable {p : Nat} {w s k a b : Nat → Nat}
theorem rt_xcf {post : Int32 → Prop} {W : Nat} (hW : W < 512) (h3 : ¬ W % 4 = 3) (h : post 1) : wpX_isConditionForm post (nI W) :=
  rt_inle (n := 512) (by decide) hW (rt_xkind hW (br_f (nI_ge (b := 3) (by omega) (by decide)) h))
theorem rt_xcf3 {post : Int32 → Prop} {W : Nat} (hW : W < 512) (h3 : W % 4 = 3) (h : post 0) : wpX_isConditionForm post (nI W) :=
  rt_inle (n := 512) (by decide) hW (rt_xkind hW (br_t (nI_le (a := 3) (by omega) (by omega)) h))
theorem rt_xcfN {post : Int32 → Prop} {x : Int32} (hx : rt_bad x 512) (h : post 0) : wpX_isConditionForm post x :=
  rt_badle (n := 512) (by decide) hx h
theorem rt_yadd {post : Int32 → SY → Prop} {bd : Nat → Int32} {K A B : Nat} (hK : K < 3) (hA : A < 4) (hB : B < 4) (h1 : rt_lf p = 7 → post (-2) (rt_th p, rt_f k, rt_f a, rt_f b, rt_f s, rt_f w, bd)) (h2 : rt_lf p < 7 → post (nI (rt_lf p)) (rt_th (rt_put p (rt_lf p)), rt_f (rt_up k (rt_lf p) K), rt_f (rt_up a (rt_lf p) A), rt_f (rt_up b (rt_lf p) B), rt_f s, rt_f w, bd)) : wpY_add post (rt_th p, rt_f k, rt_f a, rt_f b, rt_f s, rt_f w, bd) (nI K) (nI A) (nI B) := by
  unfold wpY_add
  dsimp only
  exact rt_yff hK hA hB (br_f (by decide) ⟨_, rt_yal 7 0 rfl h1 h2⟩)
theorem rt_yrem (H : rt_ok p w s k a b) {post : Int32 → SY → Prop} {bd : Nat → Int32} {f : Nat} (hf : f < 7) (ht : p.testBit f = true) (h : post 1 (rt_th (rt_rm p f), rt_f k, rt_f a, rt_f b, rt_f s, rt_f w, bd)) : wpY_remove post (rt_th p, rt_f k, rt_f a, rt_f b, rt_f s, rt_f w, bd) (nI f) := by
  unfold wpY_remove
  dsimp only
  have hv : vp_in (nI f) 7 := vp_in_nI hf (by decide)
  refine rt_inlt (n := 6) (by decide) (by omega) ⟨hv, rt_thr (by omega) (fun e => ?_) (fun e => ⟨hv, ?_⟩)⟩
  · rw [ht] at e
    cases e
  · rw [nI_clamp (show f < 2 ^ 31 by omega), rt_nar0, rt_thrm f (rt_hp H)]
    exact nm_e h
theorem rt_tput (p f : Nat) : (rt_put p f).testBit f = true := by
  unfold rt_put
  rw [Nat.testBit_or, Nat.testBit_two_pow]
  simp
theorem rt_updc (W r : Nat) : upd (rt_f w) (nI r * 3 + nI (s r)).toNatClampNeg (nI W) = upd (rt_f w) ((3 : Int32) * nI r + nI (s r)).toNatClampNeg (nI W) := by
  rw [rt_ix, rt_iy]
theorem rt_upds {r : Nat} (hr : r < 3) : upd (rt_f s) (nI r).toNatClampNeg (nI (s r) + 1) = rt_f (rt_up s r (s r + 1)) := by
  rw [nI_clamp (by omega), nI_1, rt_upd]
theorem rt_updw {r W : Nat} (H : rt_ok p w s k a b) (hr : r < 3) : upd (rt_f w) (nI r * 3 + nI (s r)).toNatClampNeg (nI W) = rt_f (rt_up w (3 * r + s r) W) := by
  have := rt_hs H r
  rw [rt_ix, nI_clamp (by omega), rt_upd]
theorem rt_updwy {r W : Nat} (H : rt_ok p w s k a b) (hr : r < 3) : upd (rt_f w) ((3 : Int32) * nI r + nI (s r)).toNatClampNeg (nI W) = rt_f (rt_up w (3 * r + s r) W) := by
  have := rt_hs H r
  rw [rt_iy, nI_clamp (by omega), rt_upd]
theorem rt_updd {r : Nat} (hr : r < 3) (h : ¬ s r = 0) : upd (rt_f s) (nI r).toNatClampNeg (nI (s r) - 1) = rt_f (rt_up s r (s r - 1)) := by
  have e : nI (s r) - 1 = nI (s r - 1) := pk_sub (b := 1) (by omega)
  rw [nI_clamp (by omega), e, rt_upd]
end
/-- both sides hold the same kinds, values, conditions and sizes; the component's bits are the reference's table -/
def i_Rel (_ : Nat) (u : SX) (v : SY) : Prop := ∃ (p : Nat) (w s k a b : Nat → Nat) (bd : Nat → Int32), rt_ok p w s k a b ∧ u = (nI p, rt_f w, rt_f s, rt_f k, rt_f a, rt_f b) ∧ v = (rt_th p, rt_f k, rt_f a, rt_f b, rt_f s, rt_f w, bd)
theorem rt_rel {n p : Nat} {w s k a b : Nat → Nat} {bd : Nat → Int32} (H : rt_ok p w s k a b) : i_Rel n (nI p, rt_f w, rt_f s, rt_f k, rt_f a, rt_f b) (rt_th p, rt_f k, rt_f a, rt_f b, rt_f s, rt_f w, bd) := ⟨p, w, s, k, a, b, bd, H, rfl, rfl⟩
theorem i_up {k : Nat} {u : SX} {v : SY} (h : i_Rel k u v) : i_Rel (k + 5) u v := h
theorem i_vc0 : wpX_init (fun u => wpY_init (fun v => i_Rel 0 u v)) := by
  refine ⟨0, fun _ => 0, fun _ => 0, fun _ => 0, fun _ => 0, fun _ => 0, fun _ => 0, ⟨by decide, fun _ => (show 0 < 512 by decide), fun _ => (show 0 < 4 by decide), fun _ => (show 0 < 4 by decide), fun _ => (show 0 < 4 by decide), fun _ => (show 0 < 4 by decide)⟩, rfl, ?_⟩
  rw [← rt_th0]
  rfl
theorem i_vc_condition {k : Nat} {u : SX} {v : SY} (I : i_Rel k u v) (hk : k + 5 ≤ 2560) (v1 : Int32) (v2 : Int32) : wpX_condition (fun r u' => wpY_condition (fun r' v' => r' = r ∧ i_Rel (k + 5) u' v') v v1 v2) u v1 v2 := by
  obtain ⟨p, w, s, k, a, b, bd, H, rfl, rfl⟩ := I
  unfold wpX_condition wpY_condition
  dsimp only
  rcases rt_dec v1 3 with c | ⟨r, hr, hr2, rfl⟩
  · exact rt_xruleN c (br_t rfl (rt_yruleN c (br_t rfl ⟨rfl, rt_rel H⟩)))
  · have hs := rt_hs H r
    rw [rt_rd (g := s) hr2]
    refine rt_xrule hr (br_f (by decide) ?_)
    rcases rt_dec v2 512 with c | ⟨W, hW, hW2, rfl⟩
    · exact rt_xcfN c (br_t rfl (rt_yrule hr (br_f (by decide) (rt_badlt (n := 511) (by decide) c ⟨rfl, rt_rel H⟩))))
    · by_cases h3 : W % 4 = 3
      · exact rt_xcf3 hW h3 (br_t rfl (rt_yrule hr (br_f (by decide) (rt_inlt (n := 511) (by decide) (by omega) (br_t (by rw [rt_kd hW, h3]; rfl) ⟨rfl, rt_rel H⟩)))))
      · have hv : vp_in (nI r) 3 := vp_in_nI hr (by decide)
        have n3 : ¬ nI W &&& 3 = 3 := by rw [rt_kd hW]; exact rt_ne (b := 3) (by omega) (by decide) h3
        by_cases hf : s r < 3
        · have H' : rt_ok p (rt_up w (3 * r + s r) W) (rt_up s r (s r + 1)) k a b := ⟨rt_hp H, rt_uplt (rt_hw H) hW, rt_uplt (rt_hs H) (by omega), rt_hk H, rt_ha H, rt_hb H⟩
          refine rt_xcf hW h3 (br_f (by decide) ⟨hv, br_t (nI_lt (b := 3) hf (by decide)) ⟨hv, pk_in (3 * r + s r) 9 (by omega) (rt_ix r (s r)), nm_r (rt_updw H hr) ⟨hv, hv, nm_r (rt_upds hr) ⟨hv, ?_⟩⟩⟩⟩)
          exact rt_yrule hr (br_f (by decide) (rt_inlt (n := 511) (by decide) (by omega) (br_f n3 ⟨hv, br_t (nI_lt (b := 3) hf (by decide)) ⟨hv, pk_in (3 * r + s r) 9 (by omega) (rt_iy r (s r)), nm_r (rt_updwy H hr) ⟨hv, hv, nm_r (rt_upds hr) ⟨hv, rfl, rt_rel H'⟩⟩⟩⟩)))
        · exact rt_xcf hW h3 (br_f (by decide) ⟨hv, br_f (nI_nlt (b := 3) (by omega) (by omega)) (rt_yrule hr (br_f (by decide) (rt_inlt (n := 511) (by decide) (by omega) (br_f n3 ⟨hv, br_f (nI_nlt (b := 3) (by omega) (by omega)) ⟨rfl, rt_rel H⟩⟩))))⟩)
theorem i_vc_drop {k : Nat} {u : SX} {v : SY} (I : i_Rel k u v) (hk : k + 5 ≤ 2560) (v1 : Int32) : wpX_drop (fun r u' => wpY_drop (fun r' v' => r' = r ∧ i_Rel (k + 5) u' v') v v1) u v1 := by
  obtain ⟨p, w, s, k, a, b, bd, H, rfl, rfl⟩ := I
  unfold wpX_drop wpY_drop
  dsimp only
  rcases rt_dec v1 3 with c | ⟨r, hr, hr2, rfl⟩
  · exact rt_xruleN c (br_t rfl (rt_yruleN c (br_t rfl ⟨rfl, rt_rel H⟩)))
  · have hs := rt_hs H r
    have hv : vp_in (nI r) 3 := vp_in_nI hr (by decide)
    rw [rt_rd (g := s) hr2]
    by_cases h0 : s r = 0
    · have e : nI (s r) = 0 := by rw [h0]; rfl
      exact rt_xrule hr (br_f (by decide) ⟨hv, br_t e (rt_yrule hr (br_f (by decide) ⟨hv, br_t e ⟨rfl, rt_rel H⟩⟩))⟩)
    · have e : ¬ nI (s r) = 0 := nI_ne0 (by omega) (by omega)
      have H' : rt_ok p w (rt_up s r (s r - 1)) k a b := ⟨rt_hp H, rt_hw H, rt_uplt (rt_hs H) (by omega), rt_hk H, rt_ha H, rt_hb H⟩
      exact rt_xrule hr (br_f (by decide) ⟨hv, br_f e ⟨hv, hv, nm_r (rt_updd hr h0) ⟨hv, rt_yrule hr (br_f (by decide) ⟨hv, br_f e ⟨hv, hv, nm_r (rt_updd hr h0) ⟨hv, rfl, rt_rel H'⟩⟩⟩)⟩⟩⟩)
theorem rt_lcx {p : Nat} (hp : p < 128) : (rt_lf p = 7 ∧ p = 127 ∧ rt_lc (rt_lf p) = -1) ∨ (rt_lf p < 7 ∧ ¬ p = 127 ∧ rt_lc (rt_lf p) = nI (rt_lf p)) := by
  obtain ⟨h1, h2, _⟩ := rt_lf7 p hp
  by_cases z : rt_lf p = 7
  · exact Or.inl ⟨z, h2.mp z, if_pos z⟩
  · exact Or.inr ⟨by omega, fun e => z (h2.mpr e), if_neg z⟩
theorem rt_ff (x y z : Int32) : (rt_bad x 3 ∨ rt_bad y 4 ∨ rt_bad z 4) ∨ ∃ K A B : Nat, K < 3 ∧ A < 4 ∧ B < 4 ∧ x = nI K ∧ y = nI A ∧ z = nI B := by
  rcases rt_dec x 3 with c | ⟨K, hK, _, e1⟩
  · exact Or.inl (Or.inl c)
  · rcases rt_dec y 4 with c | ⟨A, hA, _, e2⟩
    · exact Or.inl (Or.inr (Or.inl c))
    · rcases rt_dec z 4 with c | ⟨B, hB, _, e3⟩
      · exact Or.inl (Or.inr (Or.inr c))
      · exact Or.inr ⟨K, A, B, hK, hA, hB, e1, e2, e3⟩
theorem i_vc_add {k : Nat} {u : SX} {v : SY} (I : i_Rel k u v) (hk : k + 5 ≤ 2560) (v1 : Int32) (v2 : Int32) (v3 : Int32) : wpX_add (fun r u' => wpY_add (fun r' v' => r' = r ∧ i_Rel (k + 5) u' v') v v1 v2 v3) u v1 v2 v3 := by
  obtain ⟨p, w, s, k, a, b, bd, H, rfl, rfl⟩ := I
  unfold wpX_add
  dsimp only
  rcases rt_ff v1 v2 v3 with c | ⟨K, A, B, hK, hA, hB, rfl, rfl, rfl⟩
  · refine rt_xffN c (br_t rfl ?_)
    unfold wpY_add
    dsimp only
    exact rt_yffN c (br_t rfl ⟨rfl, rt_rel H⟩)
  · refine rt_xff hK hA hB (br_f (by decide) (rt_xlf H ?_))
    rcases rt_lcx (rt_hp H) with ⟨z, z2, e⟩ | ⟨z, z2, e⟩
    · rw [e]
      exact br_t rfl (rt_yadd hK hA hB (fun _ => ⟨rfl, rt_rel H⟩) (fun y => absurd z (by omega)))
    · rw [e]
      exact br_f (rt_m1 (by omega)) (rt_xput H z (rt_yadd hK hA hB (fun y => absurd z (by omega)) (fun _ => ⟨rfl, rt_rel (rt_okput H z hK hA hB)⟩)))
theorem i_vc_remove {k : Nat} {u : SX} {v : SY} (I : i_Rel k u v) (hk : k + 5 ≤ 2560) (v1 : Int32) : wpX_remove (fun r u' => wpY_remove (fun r' v' => r' = r ∧ i_Rel (k + 5) u' v') v v1) u v1 := by
  obtain ⟨p, w, s, k, a, b, bd, H, rfl, rfl⟩ := I
  unfold wpX_remove
  dsimp only
  rcases rt_dec v1 7 with c | ⟨f, hf, hf2, rfl⟩
  · refine rt_xfactN c (br_t rfl ?_)
    unfold wpY_remove
    dsimp only
    exact rt_badlt (n := 6) (by decide) c ⟨rfl, rt_rel H⟩
  · refine rt_xfact H (by omega) (rt_bb (fun e => ?_) (fun e => ?_))
    · unfold wpY_remove
      dsimp only
      refine rt_inlt (n := 6) (by decide) (by omega) ⟨vp_in_nI hf (by decide), rt_thr hf2 (fun _ => ⟨rfl, rt_rel H⟩) (fun e2 => ?_)⟩
      rw [e] at e2
      cases e2
    · exact rt_xtake H hf (rt_yrem H hf e ⟨rfl, rt_rel (rt_okrm H hf)⟩)
theorem i_vc_facts {k : Nat} {u : SX} {v : SY} (I : i_Rel k u v) (hk : k + 5 ≤ 2560) : wpX_facts (fun r => wpY_facts (fun r' => r' = r ∧ i_Rel (k + 5) u v) v) u := by
  obtain ⟨p, w, s, k, a, b, bd, H, rfl, rfl⟩ := I
  unfold wpX_facts
  dsimp only
  exact rt_yfs H ⟨rfl, rt_rel H⟩
theorem i_vc_matches {k : Nat} {u : SX} {v : SY} (I : i_Rel k u v) (hk : k + 5 ≤ 2560) (v1 : Int32) : wpX_matches (fun r => wpY_matches (fun r' v' => r' = r ∧ i_Rel (k + 5) u v') v v1) u v1 := by
  obtain ⟨p, w, s, k, a, b, bd, H, rfl, rfl⟩ := I
  unfold wpX_matches
  dsimp only
  rcases rt_dec v1 3 with c | ⟨r, hr, hr2, rfl⟩
  · refine rt_xruleN c (br_t rfl ?_)
    unfold wpY_matches
    dsimp only
    exact rt_yruleN c (br_t rfl ⟨rfl, rt_rel H⟩)
  · exact rt_xrule hr (br_f (by decide) ⟨vp_in_nI hr (by decide), rt_xct H (rt_rd hr2) hr (rt_hs H r) (rt_ymt H hr (fun _ => ⟨rfl, rt_rel H⟩))⟩)
theorem i_vc_match {k : Nat} {u : SX} {v : SY} (I : i_Rel k u v) (hk : k + 5 ≤ 2560) (v1 : Int32) (v2 : Int32) : wpX_match (fun r => wpY_match (fun r' v' => r' = r ∧ i_Rel (k + 5) u v') v v1 v2) u v1 v2 := by
  obtain ⟨p, w, s, k, a, b, bd, H, rfl, rfl⟩ := I
  unfold wpX_match wpY_match
  dsimp only
  rcases rt_dec v1 3 with c | ⟨r, hr, hr2, rfl⟩
  · exact rt_xruleN c (br_t rfl ⟨1, br_f (by decide) (rt_yruleN c (br_t rfl ⟨rfl, rt_rel H⟩))⟩)
  · exact rt_xrule hr (br_f (by decide) ⟨_, rt_xml H hr 512 0 0 rfl ⟨_, rt_yml H hr 512 0 0 bd rfl (fun _ => ⟨rfl, rt_rel H⟩)⟩⟩)
theorem i_vc_ready {k : Nat} {u : SX} {v : SY} (I : i_Rel k u v) (hk : k + 5 ≤ 2560) : wpX_ready (fun r => wpY_ready (fun r' v' => r' = r ∧ i_Rel (k + 5) u v') v) u := by
  obtain ⟨p, w, s, k, a, b, bd, H, rfl, rfl⟩ := I
  unfold wpX_ready wpY_ready
  dsimp only
  exact ⟨_, rt_xrl H ⟨_, rt_yrl H (fun _ => ⟨rfl, rt_rel H⟩) 3 0 bd rfl⟩ 3 0 rfl⟩
theorem i_vc_uses {k : Nat} {u : SX} {v : SY} (I : i_Rel k u v) (hk : k + 5 ≤ 2560) (v1 : Int32) : wpX_uses (fun r => wpY_uses (fun r' v' => r' = r ∧ i_Rel (k + 5) u v') v v1) u v1 := by
  obtain ⟨p, w, s, k, a, b, bd, H, rfl, rfl⟩ := I
  unfold wpX_uses wpY_uses
  dsimp only
  rcases rt_dec v1 7 with c | ⟨f, hf, hf2, rfl⟩
  · exact rt_xfactN c (br_t rfl (rt_badlt (n := 6) (by decide) c ⟨rfl, rt_rel H⟩))
  · refine rt_xfact H (by omega) (rt_bb (fun e => ?_) (fun e => ?_))
    · refine rt_inlt (n := 6) (by decide) (by omega) ⟨vp_in_nI hf (by decide), rt_thr hf2 (fun _ => ⟨rfl, rt_rel H⟩) (fun e2 => ?_)⟩
      rw [e] at e2
      cases e2
    · refine ⟨_, rt_xuo H hf ?_ 3 0 rfl⟩
      refine rt_inlt (n := 6) (by decide) (by omega) ⟨vp_in_nI hf (by decide), rt_thr hf2 (fun e2 => ?_) (fun e2 => ⟨_, rt_yul H hf (fun _ => ⟨rfl, rt_rel H⟩) 1536 0 bd rfl⟩)⟩
      rw [e] at e2
      cases e2
theorem i_vc_fitting {k : Nat} {u : SX} {v : SY} (I : i_Rel k u v) (hk : k + 5 ≤ 2560) (v1 : Int32) (v2 : Int32) : wpX_fitting (fun r => wpY_fitting (fun r' => r' = r ∧ i_Rel (k + 5) u v) v v1 v2) u v1 v2 := by
  obtain ⟨p, w, s, k, a, b, bd, H, rfl, rfl⟩ := I
  unfold wpX_fitting wpY_fitting
  dsimp only
  rcases rt_dec v1 3 with c | ⟨r, hr, hr2, rfl⟩
  · exact rt_xruleN c (br_t rfl (rt_yruleN c (br_t rfl ⟨rfl, rt_rel H⟩)))
  · have hs := rt_hs H r
    have hv : vp_in (nI r) 3 := vp_in_nI hr (by decide)
    rw [rt_rd (g := s) hr2]
    refine rt_xrule hr (br_f (by decide) ?_)
    rcases rt_dec v2 (s r) with c | ⟨i, hi, hi2, rfl⟩
    · by_cases h0 : v2 < 0
      · exact br_t h0 (rt_yrule hr (br_f (by decide) (br_t h0 ⟨rfl, rt_rel H⟩)))
      · obtain ⟨j, h1, h2, rfl⟩ := c.resolve_left h0
        have e : ¬ nI j < nI (s r) := nI_nlt h1 h2
        exact br_f h0 ⟨hv, br_f e (rt_yrule hr (br_f (by decide) (br_f h0 ⟨hv, br_f e ⟨rfl, rt_rel H⟩⟩)))⟩
    · have h0 : ¬ nI i < 0 := nI_pos hi2
      have e : nI i < nI (s r) := nI_lt hi (by omega)
      have hW := rt_hw H (3 * r + i)
      refine br_f h0 ⟨hv, br_t e ⟨pk_in (3 * r + i) 9 (by omega) (rt_ix r i), nm_r (rt_rdx (rt_ix r i) (by omega)) ⟨_, rt_xtl H hW ?_ 7 0 rfl⟩⟩⟩
      refine rt_yrule hr (br_f (by decide) (br_f h0 ⟨hv, br_t e ⟨pk_in (3 * r + i) 9 (by omega) (rt_iy r i), nm_r (rt_rdx (rt_iy r i) (by omega)) (nm_r (rt_d1 hW) (nm_r (rt_d2 hW) ⟨_, rt_ytl H hW ?_ 7 0 rfl⟩))⟩⟩))
      exact ⟨rfl, rt_rel H⟩
theorem i_vc_partial {k : Nat} {u : SX} {v : SY} (I : i_Rel k u v) (hk : k + 5 ≤ 2560) (v1 : Int32) (v2 : Int32) : wpX_partial (fun r => wpY_partial (fun r' v' => r' = r ∧ i_Rel (k + 5) u v') v v1 v2) u v1 v2 := by
  obtain ⟨p, w, s, k, a, b, bd, H, rfl, rfl⟩ := I
  unfold wpX_partial wpY_partial
  dsimp only
  rcases rt_dec v1 3 with c | ⟨r, hr, hr2, rfl⟩
  · exact rt_xruleN c (br_t rfl (rt_yruleN c (br_t rfl ⟨rfl, rt_rel H⟩)))
  · have hs := rt_hs H r
    have hv : vp_in (nI r) 3 := vp_in_nI hr (by decide)
    rw [rt_rd (g := s) hr2]
    refine rt_xrule hr (br_f (by decide) ?_)
    rcases rt_dec v2 (s r + 1) with c | ⟨i, hi, hi2, rfl⟩
    · by_cases h0 : v2 < 0
      · exact br_t h0 (rt_yrule hr (br_f (by decide) (br_t h0 ⟨rfl, rt_rel H⟩)))
      · obtain ⟨j, h1, h2, rfl⟩ := c.resolve_left h0
        exact br_f h0 ⟨hv, br_f (nI_ge (by omega) h2) (rt_yrule hr (br_f (by decide) (br_f h0 ⟨hv, br_t (nI_lt (by omega) h2) ⟨rfl, rt_rel H⟩⟩)))⟩
    · have h0 : ¬ nI i < 0 := nI_pos hi2
      exact br_f h0 ⟨hv, br_t (nI_le (by omega) (by omega)) (rt_xct H rfl hr (by omega) (rt_yrule hr (br_f (by decide) (br_f h0 ⟨hv, br_f (nI_nlt (by omega) (by omega)) (rt_yct H rfl hr (by omega) (fun _ => ⟨rfl, rt_rel H⟩))⟩))))⟩
theorem i_vc_effect {k : Nat} {u : SX} {v : SY} (I : i_Rel k u v) (hk : k + 5 ≤ 2560) (v1 : Int32) (v2 : Int32) (v3 : Int32) (v4 : Int32) : wpX_effect (fun r u' => wpY_effect (fun r' v' => r' = r ∧ i_Rel (k + 5) u' v') v v1 v2 v3 v4) u v1 v2 v3 v4 := by
  obtain ⟨p, w, s, k, a, b, bd, H, rfl, rfl⟩ := I
  unfold wpX_effect wpY_effect
  dsimp only
  rcases rt_dec v1 3 with c | ⟨r, hr, hr2, rfl⟩
  · exact rt_xruleN c (br_t rfl (rt_yruleN c (br_t rfl ⟨rfl, rt_rel H⟩)))
  · have hv : vp_in (nI r) 3 := vp_in_nI hr (by decide)
    refine rt_xrule hr (br_f (by decide) ?_)
    rcases rt_ff v2 v3 v4 with c | ⟨K, A, B, hK, hA, hB, rfl, rfl, rfl⟩
    · exact rt_xffN c (br_t rfl (rt_yrule hr (br_f (by decide) (rt_yffN c (br_t rfl ⟨rfl, rt_rel H⟩)))))
    · refine rt_xff hK hA hB (br_f (by decide) (rt_xlf H ?_))
      rcases rt_lcx (rt_hp H) with ⟨z, z2, e⟩ | ⟨z, z2, e⟩
      · rw [e]
        exact br_t rfl (rt_yrule hr (br_f (by decide) (rt_yff hK hA hB (br_f (by decide) (rt_yfs H (br_t (congrArg nI z2) ⟨rfl, rt_rel H⟩))))))
      · rw [e]
        have hp := rt_hp H
        have H' := rt_okput H z hK hA hB
        have hput : (rt_put p (rt_lf p)).testBit (rt_lf p) = true := rt_tput p (rt_lf p)
        refine br_f (rt_m1 (by omega)) ⟨hv, rt_xct H (rt_rd hr2) hr (rt_hs H r) (rt_xput H z ⟨hv, rt_xct H' (rt_rd hr2) hr (rt_hs H' r) (rt_xtake H' z ?_)⟩)⟩
        refine rt_yrule hr (br_f (by decide) (rt_yff hK hA hB (br_f (by decide) (rt_yfs H (br_f (rt_ne (b := 127) (by omega) (by decide) z2) (rt_ymt H hr (fun bd1 => ?_))))))) 
        refine rt_yadd hK hA hB (fun y => absurd z (by omega)) (fun _ => rt_ymt H' hr (fun bd2 => rt_yrem H' z hput ?_))
        exact ⟨rfl, rt_rel (rt_okrm H' z)⟩
end
