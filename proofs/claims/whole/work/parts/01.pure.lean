theorem pk_us {f : Nat → Int32} {k : Nat} {x : Int32} : upd f k x k = x := if_pos rfl
theorem pk_un {f : Nat → Int32} {k j : Nat} {x : Int32} (h : j ≠ k) : upd f k x j = f j := if_neg h
theorem pk_sub {a b : Nat} (h : b ≤ a) : nI a - nI b = nI (a - b) := by
  obtain ⟨c, rfl⟩ : ∃ c, a = c + b := ⟨a - b, by omega⟩
  rw [← nI_add, Int32.add_sub_cancel, Nat.add_sub_cancel]
theorem pk_m1 (n : Nat) : nI (n + 1) + (-1) = nI n := by
  rw [← nI_1, Int32.add_assoc, show (1 : Int32) + (-1) = 0 from rfl, Int32.add_zero]
theorem pk_mul (a b : Nat) : nI a * nI b = nI (a * b) := (Int32.ofNat_mul a b).symm
theorem pk_div {a d : Nat} (ha : a < 2 ^ 31) (h0 : 0 < d) (hd : d < 2 ^ 31) : nI a / nI d = nI (a / d) := by
  apply Int32.toInt_inj.mp
  rw [lg_idiv_nonneg (by rw [nI_toInt ha]; omega) (by rw [nI_toInt hd]; omega), nI_toInt ha, nI_toInt hd, nI_toInt (Nat.lt_of_le_of_lt (Nat.div_le_self a d) ha)]
  first | rfl | exact (Int.natCast_ediv _ _).symm
theorem pk_rem {a d : Nat} (ha : a < 2 ^ 31) (h0 : 0 < d) (hd : d < 2 ^ 31) : nI a - nI a / nI d * nI d = nI (a % d) := by
  rw [pk_div ha h0 hd, pk_mul, pk_sub (Nat.div_mul_le_self a d)]
  exact congrArg nI (by have := Nat.div_add_mod' a d; omega)
theorem pk_ix (x : Int32) {n : Nat} (hn : n < 2 ^ 31) : x < 0 ∨ nI n ≤ x ∨ ∃ j : Nat, j < n ∧ x = nI j := by
  by_cases h : x < 0
  · exact Or.inl h
  · obtain ⟨j, hj, rfl⟩ := nI_of h
    by_cases h2 : j < n
    · exact Or.inr (Or.inr ⟨j, h2, rfl⟩)
    · exact Or.inr (Or.inl (nI_le (by omega) hj))
theorem pk_le {x y : Int32} {A B : Prop} (a b : Nat) (f : a ≤ b → A) (g : b < a → B) (hx : x = nI a := by rfl) (hy : y = nI b := by rfl) (ha : a < 2 ^ 31 := by omega) (hb : b < 2 ^ 31 := by omega) : (x ≤ y → A) ∧ (¬ x ≤ y → B) := by
  subst hx hy
  rw [nI_leI ha hb]
  exact ⟨f, fun z => g (by omega)⟩
theorem pk_lt {x y : Int32} {A B : Prop} (a b : Nat) (f : a < b → A) (g : b ≤ a → B) (hx : x = nI a := by rfl) (hy : y = nI b := by rfl) (ha : a < 2 ^ 31 := by omega) (hb : b < 2 ^ 31 := by omega) : (x < y → A) ∧ (¬ x < y → B) := by
  subst hx hy
  rw [nI_ltI ha hb]
  exact ⟨f, fun z => g (by omega)⟩
theorem pk_eq {x y : Int32} {A B : Prop} (a b : Nat) (f : a = b → A) (g : a ≠ b → B) (hx : x = nI a := by rfl) (hy : y = nI b := by rfl) (ha : a < 2 ^ 31 := by omega) (hb : b < 2 ^ 31 := by omega) : (x = y → A) ∧ (¬ x = y → B) := by
  subst hx hy
  rw [nI_eq ha hb]
  exact ⟨f, g⟩
theorem pk_in {x : Int32} (n N : Nat) (h : n < N) (hx : x = nI n := by rfl) (hN : N < 2 ^ 31 := by omega) : vp_in x N := by
  subst hx
  exact vp_in_nI h hN
theorem pk_cl {x : Int32} (n : Nat) (hx : x = nI n := by rfl) (h : n < 2 ^ 31 := by omega) : x.toNatClampNeg = n := by
  subst hx
  exact nI_clamp h
theorem pk_tn {n : Nat} (h : n < 2 ^ 32) : (nI n).toBitVec.toNat = n := Nat.mod_eq_of_lt h
theorem pk_and (x : Int32) {m : Int32} (k : Nat) (hm : m.toBitVec.toNat = 2 ^ k - 1) : x &&& m = nI (x.toBitVec.toNat % 2 ^ k) := by
  apply Int32.toBitVec_inj.mp
  apply BitVec.eq_of_toNat_eq
  rw [Int32.toBitVec_and, BitVec.toNat_and, hm, Nat.and_two_pow_sub_one_eq_mod]
  show _ = (BitVec.ofNat 32 _).toNat
  rw [BitVec.toNat_ofNat]
  exact (Nat.mod_eq_of_lt (Nat.lt_of_le_of_lt (Nat.mod_le _ _) x.toBitVec.isLt)).symm
theorem pk_andN {n : Nat} (h : n < 2 ^ 32) {m : Int32} (k : Nat) (hm : m.toBitVec.toNat = 2 ^ k - 1) : nI n &&& m = nI (n % 2 ^ k) := by
  rw [pk_and _ k hm, pk_tn h]
theorem pk_shr (a s : Int32) (k : Nat) (hs : (s.toBitVec.smod 32).toNat = k) : (a >>> s).toInt = a.toInt >>> k := by
  show (a.toBitVec.sshiftRight (s.toBitVec.smod 32).toNat).toInt = _
  rw [hs, BitVec.toInt_sshiftRight]
  rfl
theorem pk_shrN {n : Nat} (h : n < 2 ^ 31) (s : Int32) (k : Nat) (hs : (s.toBitVec.smod 32).toNat = k) : nI n >>> s = nI (n / 2 ^ k) := by
  apply Int32.toInt_inj.mp
  have h2 : n / 2 ^ k ≤ n := Nat.div_le_self _ _
  rw [pk_shr _ _ k hs, nI_toInt h, nI_toInt (by omega), Int.shiftRight_eq_div_pow]
  rfl
/-! the pure picture: first match, decision, counts, searches, shifts of the rule arrays -/
def ra_b (b : Bool) : Int32 := if b = true then 1 else 0
theorem ra_bt : ra_b true = 1 := rfl
theorem ra_bf : ra_b false = 0 := rfl
def ra_fm (m : Nat → Bool) (lo : Int32) : Nat → Nat → Int32
  | 0, _ => -3
  | d + 1, j => if nI j = lo then ra_fm m lo d (j + 1) else if m j = true then nI j else ra_fm m lo d (j + 1)
theorem ra_fm_or (m : Nat → Bool) (lo : Int32) : ∀ d j, ra_fm m lo d j = -3 ∨ ∃ i, i < j + d ∧ ra_fm m lo d j = nI i := by
  intro d
  induction d with
  | zero => intro j; exact Or.inl rfl
  | succ d ih =>
    intro j
    have h : ra_fm m lo d (j + 1) = -3 ∨ ∃ i, i < j + (d + 1) ∧ ra_fm m lo d (j + 1) = nI i := by
      rcases ih (j + 1) with h | ⟨i, hi, h⟩
      · exact Or.inl h
      · exact Or.inr ⟨i, by omega, h⟩
    unfold ra_fm
    by_cases h1 : nI j = lo
    · rw [if_pos h1]; exact h
    · rw [if_neg h1]
      by_cases h2 : m j = true
      · rw [if_pos h2]; exact Or.inr ⟨j, by omega, rfl⟩
      · rw [if_neg h2]; exact h
theorem ra_n3 : ∀ j : Nat, j < 2 ^ 31 → ¬ nI j = -3 := by
  intro j hj e
  have h := nI_toInt hj
  rw [e, show (-3 : Int32).toInt = -3 from by decide] at h
  omega
/-- what the list decides of packet p, the rule lo left out -/
def ra_fp (M : Nat → Nat → Bool) (c p : Nat) (lo : Int32) : Int32 := ra_fm (fun j => M j p) lo c 0
def ra_dc (M : Nat → Nat → Bool) (A : Nat → Int32) (c p : Nat) (lo : Int32) : Int32 :=
  if ra_fp M c p lo = -3 then 0 else A (ra_fp M c p lo).toNatClampNeg
theorem ra_fp_or (M : Nat → Nat → Bool) (c p : Nat) (lo : Int32) : ra_fp M c p lo = -3 ∨ ∃ i, i < c ∧ ra_fp M c p lo = nI i := by
  rcases ra_fm_or (fun j => M j p) lo c 0 with h | ⟨i, hi, h⟩
  · exact Or.inl h
  · exact Or.inr ⟨i, by omega, h⟩
theorem ra_dc01 {M : Nat → Nat → Bool} {A : Nat → Int32} {c : Nat} (hc : c ≤ 10) (hA : ∀ j, j < 10 → A j = 0 ∨ A j = 1) (p : Nat) (lo : Int32) : ra_dc M A c p lo = 0 ∨ ra_dc M A c p lo = 1 := by
  unfold ra_dc
  rcases ra_fp_or M c p lo with h | ⟨i, hi, h⟩
  · rw [if_pos h]; exact Or.inl rfl
  · rw [h, if_neg (ra_n3 i (by omega)), nI_clamp (by omega)]
    exact hA i (by omega)
def ra_cn (f : Nat → Bool) : Nat → Nat → Int32 → Int32
  | 0, _, t => t
  | d + 1, j, t => if f j = true then ra_cn f d (j + 1) (t + 1) else ra_cn f d (j + 1) t
def ra_sm (g : Nat → Int32) : Nat → Nat → Int32 → Int32
  | 0, _, t => t
  | d + 1, j, t => ra_sm g d (j + 1) (t + g j)
def ra_sr (f : Nat → Bool) : Nat → Nat → Int32
  | 0, _ => -3
  | d + 1, j => if f j = true then nI j else ra_sr f d (j + 1)
def ra_ex (f : Nat → Bool) : Nat → Nat → Bool
  | 0, _ => false
  | d + 1, j => if f j = true then true else ra_ex f d (j + 1)
theorem ra_sm_cn (g : Nat → Int32) (hg : ∀ j, g j = 0 ∨ g j = 1) : ∀ d j t, ra_sm g d j t = ra_cn (fun j => decide (g j = 1)) d j t := by
  intro d
  induction d with
  | zero => intro j t; rfl
  | succ d ih =>
    intro j t
    unfold ra_sm ra_cn
    rcases hg j with h | h
    · rw [ih, h]; simp
    · rw [ih, h]; simp
theorem ra_cn_k (f : Nat → Bool) : ∀ d j t, ∃ k, t ≤ k ∧ k ≤ t + d ∧ ra_cn f d j (nI t) = nI k ∧ (ra_ex f d j = true → t < k) ∧ (ra_ex f d j = false → k = t) := by
  intro d
  induction d with
  | zero => intro j t; exact ⟨t, Nat.le_refl _, Nat.le_refl _, rfl, fun h => (by simp [ra_ex] at h), fun _ => rfl⟩
  | succ d ih =>
    intro j t
    by_cases h : f j = true
    · obtain ⟨k, h1, h2, h3, _, _⟩ := ih (j + 1) (t + 1)
      refine ⟨k, by omega, by omega, ?_, fun _ => by omega, fun h5 => ?_⟩
      · unfold ra_cn; rw [if_pos h, nI_1]; exact h3
      · unfold ra_ex at h5; rw [if_pos h] at h5; exact absurd h5 (by decide)
    · obtain ⟨k, h1, h2, h3, h4, h5⟩ := ih (j + 1) t
      refine ⟨k, by omega, by omega, ?_, fun h6 => ?_, fun h6 => ?_⟩
      · unfold ra_cn; rw [if_neg h]; exact h3
      · unfold ra_ex at h6; rw [if_neg h] at h6; exact h4 h6
      · unfold ra_ex at h6; rw [if_neg h] at h6; exact h5 h6
theorem ra_sr_or (f : Nat → Bool) : ∀ d j, j + d < 2 ^ 31 → ((ra_ex f d j = false ∧ ra_sr f d j = -3) ∨ (ra_ex f d j = true ∧ ¬ ra_sr f d j = -3)) := by
  intro d
  induction d with
  | zero => intro j _; exact Or.inl ⟨rfl, rfl⟩
  | succ d ih =>
    intro j hj
    unfold ra_ex ra_sr
    by_cases h : f j = true
    · rw [if_pos h, if_pos h]; exact Or.inr ⟨rfl, ra_n3 j (by omega)⟩
    · rw [if_neg h, if_neg h]; exact ih (j + 1) (by omega)
theorem ra_sr_cn (f : Nat → Bool) : ra_sr f 512 0 = -3 ↔ ra_cn f 512 0 0 = 0 := by
  obtain ⟨k, _, h2, h3, h4, h5⟩ := ra_cn_k f 512 0 0
  rw [nI_0] at h3
  rw [h3]
  rcases ra_sr_or f 512 0 (by omega) with ⟨a, b⟩ | ⟨a, b⟩
  · rw [h5 a]; exact ⟨fun _ => nI_0, fun _ => b⟩
  · exact ⟨fun z => absurd z b, fun z => absurd z (nI_ne0 (h4 a) (by omega))⟩
theorem ra_ex_congr {f g : Nat → Bool} (h : ∀ j, f j = g j) : ∀ d j, ra_ex f d j = ra_ex g d j := by
  have e : f = g := funext h
  intro d j; rw [e]
/-- the saved table, filled from j on -/
def ra_sv (g : Nat → Int32) : Nat → Nat → (Nat → Int32) → (Nat → Int32)
  | 0, _, s => s
  | d + 1, j, s => ra_sv g d (j + 1) (upd s j (g j))
/-- rules at, at + 1 .. move one place back, the last first -/
def ra_in (w : Nat) : Nat → (Nat → Int32) → (Nat → Int32)
  | 0, a => a
  | d + 1, a => ra_in w d (upd a (w + d + 1) (a (w + d)))
/-- rules k + 1 .. move one place ahead, the first first -/
def ra_rm : Nat → Nat → (Nat → Int32) → (Nat → Int32)
  | 0, _, a => a
  | d + 1, k, a => ra_rm d (k + 1) (upd a k (a (k + 1)))
def ra_E (a b : Nat → Int32) : Prop := ∀ j, j < 10 → a j = b j
theorem ra_E_upd {a b : Nat → Int32} (h : ra_E a b) (k : Nat) {x y : Int32} (e : x = y) : ra_E (upd a k x) (upd b k y) := by
  intro j hj
  by_cases z : j = k
  · subst z; rw [pk_us, pk_us]; exact e
  · rw [pk_un z, pk_un z]; exact h j hj
theorem ra_in_E (w : Nat) : ∀ d (a b : Nat → Int32), w + d < 10 → ra_E a b → ra_E (ra_in w d a) (ra_in w d b) ∧ ra_in w d b 10 = b 10 := by
  intro d
  induction d with
  | zero => intro a b _ h; exact ⟨h, rfl⟩
  | succ d ih =>
    intro a b hd h
    obtain ⟨h1, h2⟩ := ih _ _ (by omega) (ra_E_upd h (w + d + 1) (h (w + d) (by omega)))
    exact ⟨h1, h2.trans (pk_un (by omega))⟩
theorem ra_rm_E : ∀ d k (a b : Nat → Int32), k + d < 10 → ra_E a b → ra_E (ra_rm d k a) (ra_rm d k b) ∧ ra_rm d k b 10 = b 10 := by
  intro d
  induction d with
  | zero => intro k a b _ h; exact ⟨h, rfl⟩
  | succ d ih =>
    intro k a b hd h
    obtain ⟨h1, h2⟩ := ih (k + 1) _ _ (by omega) (ra_E_upd h k (h (k + 1) (by omega)))
    exact ⟨h1, h2.trans (pk_un (by omega))⟩
def ra_Z (a : Nat → Int32) : Prop := ∀ j, j < 10 → a j = 0 ∨ a j = 1
theorem ra_Z_upd {a : Nat → Int32} (h : ra_Z a) (k : Nat) {x : Int32} (e : x = 0 ∨ x = 1) : ra_Z (upd a k x) := by
  intro j hj
  by_cases z : j = k
  · subst z; rw [pk_us]; exact e
  · rw [pk_un z]; exact h j hj
theorem ra_in_Z (w : Nat) : ∀ d (a : Nat → Int32), w + d < 10 → ra_Z a → ra_Z (ra_in w d a) := by
  intro d
  induction d with
  | zero => intro a _ h; exact h
  | succ d ih =>
    intro a hd h
    exact ih _ (by omega) (ra_Z_upd h (w + d + 1) (h (w + d) (by omega)))
theorem ra_rm_Z : ∀ d k (a : Nat → Int32), k + d < 10 → ra_Z a → ra_Z (ra_rm d k a) := by
  intro d
  induction d with
  | zero => intro k a _ h; exact h
  | succ d ih =>
    intro k a hd h
    exact ih (k + 1) _ (by omega) (ra_Z_upd h k (h (k + 1) (by omega)))
/-- a rule matches a packet -/
def ra_mt (x1 x2 x3 x4 x5 : Int32) (p : Nat) : Bool :=
  decide (x1 ≤ nI (p / 32)) && decide (nI (p / 32) ≤ x2) && decide (x3 ≤ nI (p / 2 % 16)) && decide (nI (p / 2 % 16) ≤ x4) && (decide (x5 = 2) || decide (x5 = nI (p % 2)))
