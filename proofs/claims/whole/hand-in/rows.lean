section
theorem pk_us {f : Nat → Int32} {k : Nat} {x : Int32} : upd f k x k = x := if_pos rfl
theorem pk_un {f : Nat → Int32} {k j : Nat} {x : Int32} (h : j ≠ k) : upd f k x j = f j := if_neg h
theorem pk_sub {a b : Nat} (h : b ≤ a) : nI a - nI b = nI (a - b) := by
  obtain ⟨c, rfl⟩ : ∃ c, a = c + b := ⟨a - b, by omega⟩
  rw [← nI_add, Int32.add_sub_cancel, Nat.add_sub_cancel]
theorem pk_m1 (n : Nat) : nI (n + 1) + (-1) = nI n := by
  rw [← nI_1, Int32.add_assoc, show (1 : Int32) + (-1) = 0 from rfl, Int32.add_zero]
theorem pk_mul (a b : Nat) : nI a * nI b = nI (a * b) := (Int32.ofNat_mul a b).symm
theorem pk_div {a d : Nat} (ha : a < 2 ^ 31) (h0 : 0 < d) (hd : d < 2 ^ 31) : nI a / nI d = nI (a / d) := by
  apply Int32.toInt_inj.mp
  rw [lg_idiv_nonneg (by rw [nI_toInt ha]; omega) (by rw [nI_toInt hd]; omega), nI_toInt ha, nI_toInt hd, nI_toInt (Nat.lt_of_le_of_lt (Nat.div_le_self a d) ha)]
  first | rfl | exact (Int.natCast_ediv _ _).symm
theorem pk_rem {a d : Nat} (ha : a < 2 ^ 31) (h0 : 0 < d) (hd : d < 2 ^ 31) : nI a - nI a / nI d * nI d = nI (a % d) := by
  rw [pk_div ha h0 hd, pk_mul, pk_sub (Nat.div_mul_le_self a d)]
  exact congrArg nI (by have := Nat.div_add_mod' a d; omega)
theorem pk_ix (x : Int32) {n : Nat} (hn : n < 2 ^ 31) : x < 0 ∨ nI n ≤ x ∨ ∃ j : Nat, j < n ∧ x = nI j := by
  by_cases h : x < 0
  · exact Or.inl h
  · obtain ⟨j, hj, rfl⟩ := nI_of h
    by_cases h2 : j < n
    · exact Or.inr (Or.inr ⟨j, h2, rfl⟩)
    · exact Or.inr (Or.inl (nI_le (by omega) hj))
theorem pk_le {x y : Int32} {A B : Prop} (a b : Nat) (f : a ≤ b → A) (g : b < a → B) (hx : x = nI a := by rfl) (hy : y = nI b := by rfl) (ha : a < 2 ^ 31 := by omega) (hb : b < 2 ^ 31 := by omega) : (x ≤ y → A) ∧ (¬ x ≤ y → B) := by
  subst hx hy
  rw [nI_leI ha hb]
  exact ⟨f, fun z => g (by omega)⟩
theorem pk_lt {x y : Int32} {A B : Prop} (a b : Nat) (f : a < b → A) (g : b ≤ a → B) (hx : x = nI a := by rfl) (hy : y = nI b := by rfl) (ha : a < 2 ^ 31 := by omega) (hb : b < 2 ^ 31 := by omega) : (x < y → A) ∧ (¬ x < y → B) := by
  subst hx hy
  rw [nI_ltI ha hb]
  exact ⟨f, fun z => g (by omega)⟩
theorem pk_eq {x y : Int32} {A B : Prop} (a b : Nat) (f : a = b → A) (g : a ≠ b → B) (hx : x = nI a := by rfl) (hy : y = nI b := by rfl) (ha : a < 2 ^ 31 := by omega) (hb : b < 2 ^ 31 := by omega) : (x = y → A) ∧ (¬ x = y → B) := by
  subst hx hy
  rw [nI_eq ha hb]
  exact ⟨f, g⟩
theorem pk_in {x : Int32} (n N : Nat) (h : n < N) (hx : x = nI n := by rfl) (hN : N < 2 ^ 31 := by omega) : vp_in x N := by
  subst hx
  exact vp_in_nI h hN
theorem pk_cl {x : Int32} (n : Nat) (hx : x = nI n := by rfl) (h : n < 2 ^ 31 := by omega) : x.toNatClampNeg = n := by
  subst hx
  exact nI_clamp h
theorem pk_tn {n : Nat} (h : n < 2 ^ 32) : (nI n).toBitVec.toNat = n := Nat.mod_eq_of_lt h
theorem pk_and (x : Int32) {m : Int32} (k : Nat) (hm : m.toBitVec.toNat = 2 ^ k - 1) : x &&& m = nI (x.toBitVec.toNat % 2 ^ k) := by
  apply Int32.toBitVec_inj.mp
  apply BitVec.eq_of_toNat_eq
  rw [Int32.toBitVec_and, BitVec.toNat_and, hm, Nat.and_two_pow_sub_one_eq_mod]
  show _ = (BitVec.ofNat 32 _).toNat
  rw [BitVec.toNat_ofNat]
  exact (Nat.mod_eq_of_lt (Nat.lt_of_le_of_lt (Nat.mod_le _ _) x.toBitVec.isLt)).symm
theorem pk_andN {n : Nat} (h : n < 2 ^ 32) {m : Int32} (k : Nat) (hm : m.toBitVec.toNat = 2 ^ k - 1) : nI n &&& m = nI (n % 2 ^ k) := by
  rw [pk_and _ k hm, pk_tn h]
theorem pk_shr (a s : Int32) (k : Nat) (hs : (s.toBitVec.smod 32).toNat = k) : (a >>> s).toInt = a.toInt >>> k := by
  show (a.toBitVec.sshiftRight (s.toBitVec.smod 32).toNat).toInt = _
  rw [hs, BitVec.toInt_sshiftRight]
  rfl
theorem pk_shrN {n : Nat} (h : n < 2 ^ 31) (s : Int32) (k : Nat) (hs : (s.toBitVec.smod 32).toNat = k) : nI n >>> s = nI (n / 2 ^ k) := by
  apply Int32.toInt_inj.mp
  have h2 : n / 2 ^ k ≤ n := Nat.div_le_self _ _
  rw [pk_shr _ _ k hs, nI_toInt h, nI_toInt (by omega), Int.shiftRight_eq_div_pow]
  rfl
/-! the pure picture: first match, decision, counts, searches, shifts of the rule arrays -/
def ra_b : Bool → Int32
  | true => 1
  | false => 0
theorem ra_10 : ¬ (1 : Int32) = 0 := by decide
theorem ra_b_inj {a b : Bool} (h : ra_b a = ra_b b) : a = b := by
  cases a <;> cases b
  · rfl
  · exact absurd h (by decide)
  · exact absurd h (by decide)
  · rfl
theorem ra_tb {b : Bool} {A B : Prop} (f : b = false → A) (g : b = true → B) : (ra_b b = 0 → A) ∧ (¬ ra_b b = 0 → B) := by
  cases b
  · exact br_t rfl (f rfl)
  · exact br_f (by decide) (g rfl)
theorem ra_ev {P : Int32 → Prop} {x y : Int32} (h : P x) (e : x = y) : P y := e ▸ h
theorem ra_5t {j : Nat} (h : 512 ≤ j) (hj : j < 2 ^ 31) : (512 : Int32) ≤ nI j := nI_le (a := 512) h hj
theorem ra_5f {j : Nat} (h : j < 512) : ¬ (512 : Int32) ≤ nI j := nI_ge (b := 512) h (by decide)
def ra_fm (m : Nat → Bool) (lo : Int32) : Nat → Nat → Int32
  | 0, _ => -3
  | d + 1, j => if nI j = lo then ra_fm m lo d (j + 1) else if m j = true then nI j else ra_fm m lo d (j + 1)
theorem ra_fm_or (m : Nat → Bool) (lo : Int32) : ∀ d j, ra_fm m lo d j = -3 ∨ ∃ i, i < j + d ∧ ra_fm m lo d j = nI i := by
  intro d
  induction d with
  | zero => intro j; exact Or.inl rfl
  | succ d ih =>
    intro j
    have h : ra_fm m lo d (j + 1) = -3 ∨ ∃ i, i < j + (d + 1) ∧ ra_fm m lo d (j + 1) = nI i := by
      rcases ih (j + 1) with h | ⟨i, hi, h⟩
      · exact Or.inl h
      · exact Or.inr ⟨i, by omega, h⟩
    unfold ra_fm
    by_cases h1 : nI j = lo
    · rw [if_pos h1]; exact h
    · rw [if_neg h1]
      by_cases h2 : m j = true
      · rw [if_pos h2]; exact Or.inr ⟨j, by omega, rfl⟩
      · rw [if_neg h2]; exact h
theorem ra_n3 : ∀ j : Nat, j < 2 ^ 31 → ¬ nI j = -3 := by
  intro j hj e
  have h := nI_toInt hj
  rw [e, show (-3 : Int32).toInt = -3 from by decide] at h
  omega
/-- what the list decides of packet p, the rule lo left out -/
def ra_fp (M : Nat → Nat → Bool) (c p : Nat) (lo : Int32) : Int32 := ra_fm (fun j => M j p) lo c 0
def ra_dc (M : Nat → Nat → Bool) (A : Nat → Int32) (c p : Nat) (lo : Int32) : Int32 :=
  if ra_fp M c p lo = -3 then 0 else A (ra_fp M c p lo).toNatClampNeg
theorem ra_fp_or (M : Nat → Nat → Bool) (c p : Nat) (lo : Int32) : ra_fp M c p lo = -3 ∨ ∃ i, i < c ∧ ra_fp M c p lo = nI i := by
  rcases ra_fm_or (fun j => M j p) lo c 0 with h | ⟨i, hi, h⟩
  · exact Or.inl h
  · exact Or.inr ⟨i, by omega, h⟩
theorem ra_dc01 {M : Nat → Nat → Bool} {A : Nat → Int32} {c : Nat} (hc : c ≤ 10) (hA : ∀ j, j < 10 → A j = 0 ∨ A j = 1) (p : Nat) (lo : Int32) : ra_dc M A c p lo = 0 ∨ ra_dc M A c p lo = 1 := by
  unfold ra_dc
  rcases ra_fp_or M c p lo with h | ⟨i, hi, h⟩
  · rw [if_pos h]; exact Or.inl rfl
  · rw [h, if_neg (ra_n3 i (by omega)), nI_clamp (by omega)]
    exact hA i (by omega)
def ra_cn (f : Nat → Bool) : Nat → Nat → Int32 → Int32
  | 0, _, t => t
  | d + 1, j, t => if f j = true then ra_cn f d (j + 1) (t + 1) else ra_cn f d (j + 1) t
def ra_sm (g : Nat → Int32) : Nat → Nat → Int32 → Int32
  | 0, _, t => t
  | d + 1, j, t => ra_sm g d (j + 1) (t + g j)
def ra_sr (f : Nat → Bool) : Nat → Nat → Int32
  | 0, _ => -3
  | d + 1, j => if f j = true then nI j else ra_sr f d (j + 1)
def ra_ex (f : Nat → Bool) : Nat → Nat → Bool
  | 0, _ => false
  | d + 1, j => if f j = true then true else ra_ex f d (j + 1)
theorem ra_sm_cn (g : Nat → Int32) (hg : ∀ j, g j = 0 ∨ g j = 1) : ∀ d j t, ra_sm g d j t = ra_cn (fun j => decide (g j = 1)) d j t := by
  intro d
  induction d with
  | zero => intro j t; rfl
  | succ d ih =>
    intro j t
    unfold ra_sm ra_cn
    rcases hg j with h | h
    · rw [ih, h]; simp
    · rw [ih, h]; simp
theorem ra_cn_k (f : Nat → Bool) : ∀ d j t, ∃ k, t ≤ k ∧ k ≤ t + d ∧ ra_cn f d j (nI t) = nI k ∧ (ra_ex f d j = true → t < k) ∧ (ra_ex f d j = false → k = t) := by
  intro d
  induction d with
  | zero => intro j t; exact ⟨t, Nat.le_refl _, Nat.le_refl _, rfl, fun h => (by simp [ra_ex] at h), fun _ => rfl⟩
  | succ d ih =>
    intro j t
    by_cases h : f j = true
    · obtain ⟨k, h1, h2, h3, _, _⟩ := ih (j + 1) (t + 1)
      refine ⟨k, by omega, by omega, ?_, fun _ => by omega, fun h5 => ?_⟩
      · unfold ra_cn; rw [if_pos h, nI_1]; exact h3
      · unfold ra_ex at h5; rw [if_pos h] at h5; exact absurd h5 (by decide)
    · obtain ⟨k, h1, h2, h3, h4, h5⟩ := ih (j + 1) t
      refine ⟨k, by omega, by omega, ?_, fun h6 => ?_, fun h6 => ?_⟩
      · unfold ra_cn; rw [if_neg h]; exact h3
      · unfold ra_ex at h6; rw [if_neg h] at h6; exact h4 h6
      · unfold ra_ex at h6; rw [if_neg h] at h6; exact h5 h6
theorem ra_sr_or (f : Nat → Bool) : ∀ d j, j + d < 2 ^ 31 → ((ra_ex f d j = false ∧ ra_sr f d j = -3) ∨ (ra_ex f d j = true ∧ ¬ ra_sr f d j = -3)) := by
  intro d
  induction d with
  | zero => intro j _; exact Or.inl ⟨rfl, rfl⟩
  | succ d ih =>
    intro j hj
    unfold ra_ex ra_sr
    by_cases h : f j = true
    · rw [if_pos h, if_pos h]; exact Or.inr ⟨rfl, ra_n3 j (by omega)⟩
    · rw [if_neg h, if_neg h]; exact ih (j + 1) (by omega)
theorem ra_sr_cn (f : Nat → Bool) : ra_sr f 512 0 = -3 ↔ ra_cn f 512 0 0 = 0 := by
  obtain ⟨k, _, h2, h3, h4, h5⟩ := ra_cn_k f 512 0 0
  rw [nI_0] at h3
  rw [h3]
  rcases ra_sr_or f 512 0 (by omega) with ⟨a, b⟩ | ⟨a, b⟩
  · rw [h5 a]; exact ⟨fun _ => nI_0, fun _ => b⟩
  · exact ⟨fun z => absurd z b, fun z => absurd z (nI_ne0 (h4 a) (by omega))⟩
theorem ra_ex_congr {f g : Nat → Bool} (h : ∀ j, f j = g j) : ∀ d j, ra_ex f d j = ra_ex g d j := by
  have e : f = g := funext h
  intro d j; rw [e]
/-- the saved table, filled from j on -/
def ra_sv (g : Nat → Int32) : Nat → Nat → (Nat → Int32) → (Nat → Int32)
  | 0, _, s => s
  | d + 1, j, s => ra_sv g d (j + 1) (upd s j (g j))
/-- rules at, at + 1 .. move one place back, the last first -/
def ra_in (w : Nat) : Nat → (Nat → Int32) → (Nat → Int32)
  | 0, a => a
  | d + 1, a => ra_in w d (upd a (w + d + 1) (a (w + d)))
/-- rules k + 1 .. move one place ahead, the first first -/
def ra_rm : Nat → Nat → (Nat → Int32) → (Nat → Int32)
  | 0, _, a => a
  | d + 1, k, a => ra_rm d (k + 1) (upd a k (a (k + 1)))
def ra_E (a b : Nat → Int32) : Prop := ∀ j, j < 10 → a j = b j
theorem ra_E_upd {a b : Nat → Int32} (h : ra_E a b) (k : Nat) {x y : Int32} (e : x = y) : ra_E (upd a k x) (upd b k y) := by
  intro j hj
  by_cases z : j = k
  · subst z; rw [pk_us, pk_us]; exact e
  · rw [pk_un z, pk_un z]; exact h j hj
theorem ra_in_E (w : Nat) : ∀ d (a b : Nat → Int32), w + d < 10 → ra_E a b → ra_E (ra_in w d a) (ra_in w d b) ∧ ra_in w d b 10 = b 10 := by
  intro d
  induction d with
  | zero => intro a b _ h; exact ⟨h, rfl⟩
  | succ d ih =>
    intro a b hd h
    obtain ⟨h1, h2⟩ := ih _ _ (by omega) (ra_E_upd h (w + d + 1) (h (w + d) (by omega)))
    exact ⟨h1, h2.trans (pk_un (by omega))⟩
theorem ra_rm_E : ∀ d k (a b : Nat → Int32), k + d < 10 → ra_E a b → ra_E (ra_rm d k a) (ra_rm d k b) ∧ ra_rm d k b 10 = b 10 := by
  intro d
  induction d with
  | zero => intro k a b _ h; exact ⟨h, rfl⟩
  | succ d ih =>
    intro k a b hd h
    obtain ⟨h1, h2⟩ := ih (k + 1) _ _ (by omega) (ra_E_upd h k (h (k + 1) (by omega)))
    exact ⟨h1, h2.trans (pk_un (by omega))⟩
def ra_Z (a : Nat → Int32) : Prop := ∀ j, j < 10 → a j = 0 ∨ a j = 1
theorem ra_Z_upd {a : Nat → Int32} (h : ra_Z a) (k : Nat) {x : Int32} (e : x = 0 ∨ x = 1) : ra_Z (upd a k x) := by
  intro j hj
  by_cases z : j = k
  · subst z; rw [pk_us]; exact e
  · rw [pk_un z]; exact h j hj
theorem ra_in_Z (w : Nat) : ∀ d (a : Nat → Int32), w + d < 10 → ra_Z a → ra_Z (ra_in w d a) := by
  intro d
  induction d with
  | zero => intro a _ h; exact h
  | succ d ih =>
    intro a hd h
    exact ih _ (by omega) (ra_Z_upd h (w + d + 1) (h (w + d) (by omega)))
theorem ra_rm_Z : ∀ d k (a : Nat → Int32), k + d < 10 → ra_Z a → ra_Z (ra_rm d k a) := by
  intro d
  induction d with
  | zero => intro k a _ h; exact h
  | succ d ih =>
    intro k a hd h
    exact ih (k + 1) _ (by omega) (ra_Z_upd h k (h (k + 1) (by omega)))
theorem ra_E_upd2 {a b : Nat → Int32} (h : ra_E a b) (k : Nat) (x z : Int32) : ra_E (upd a k x) (upd (upd b k z) k x) := by
  intro j hj
  by_cases e : j = k
  · subst e; rw [pk_us, pk_us]
  · rw [pk_un e, pk_un e, pk_un e]; exact h j hj
/-- a rule matches a packet -/
def ra_mt (s d q x1 x2 x3 x4 x5 : Int32) : Bool :=
  if s < x1 then false else if x2 < s then false else if d < x3 then false else if x4 < d then false else if x5 = 2 then true else if x5 = q then true else false
theorem ra_ml {P : Int32 → Prop} {s d q x1 x2 x3 x4 x5 : Int32} (V : Prop) (hV : V) (hP : P (ra_b (ra_mt s d q x1 x2 x3 x4 x5))) :
    (s < x1 → P 0) ∧ (¬ s < x1 → (V ∧ ((x2 < s → P 0) ∧ (¬ x2 < s → (V ∧ ((d < x3 → P 0) ∧ (¬ d < x3 → (V ∧ ((x4 < d → P 0) ∧ (¬ x4 < d → (V ∧ ((x5 = 2 → P 1) ∧ (¬ x5 = 2 → (V ∧ ((x5 = q → P 1) ∧ (¬ x5 = q → P 0)))))))))))))))) := by
  unfold ra_mt at hP
  by_cases h1 : s < x1
  · rw [if_pos h1] at hP; exact br_t h1 hP
  rw [if_neg h1] at hP
  by_cases h2 : x2 < s
  · rw [if_pos h2] at hP; exact br_f h1 ⟨hV, br_t h2 hP⟩
  rw [if_neg h2] at hP
  by_cases h3 : d < x3
  · rw [if_pos h3] at hP; exact br_f h1 ⟨hV, br_f h2 ⟨hV, br_t h3 hP⟩⟩
  rw [if_neg h3] at hP
  by_cases h4 : x4 < d
  · rw [if_pos h4] at hP; exact br_f h1 ⟨hV, br_f h2 ⟨hV, br_f h3 ⟨hV, br_t h4 hP⟩⟩⟩
  rw [if_neg h4] at hP
  by_cases h5 : x5 = 2
  · rw [if_pos h5] at hP; exact br_f h1 ⟨hV, br_f h2 ⟨hV, br_f h3 ⟨hV, br_f h4 ⟨hV, br_t h5 hP⟩⟩⟩⟩
  rw [if_neg h5] at hP
  by_cases h6 : x5 = q
  · rw [if_pos h6] at hP; exact br_f h1 ⟨hV, br_f h2 ⟨hV, br_f h3 ⟨hV, br_f h4 ⟨hV, br_f h5 ⟨hV, br_t h6 hP⟩⟩⟩⟩⟩
  · rw [if_neg h6] at hP; exact br_f h1 ⟨hV, br_f h2 ⟨hV, br_f h3 ⟨hV, br_f h4 ⟨hV, br_f h5 ⟨hV, br_f h6 hP⟩⟩⟩⟩⟩
/-- which rules match which packets, out of the five arrays -/
def ra_M (a1 a2 a3 a4 a5 : Nat → Int32) (r p : Nat) : Bool := ra_mt (nI (p / 32)) (nI (p / 2 % 16)) (nI (p % 2)) (a1 r) (a2 r) (a3 r) (a4 r) (a5 r)
theorem ra_M_E {a1 a2 a3 a4 a5 b1 b2 b3 b4 b5 : Nat → Int32} (h1 : ra_E a1 b1) (h2 : ra_E a2 b2) (h3 : ra_E a3 b3) (h4 : ra_E a4 b4) (h5 : ra_E a5 b5) (r p : Nat) (hr : r < 10) : ra_M b1 b2 b3 b4 b5 r p = ra_M a1 a2 a3 a4 a5 r p := by
  unfold ra_M
  rw [h1 r hr, h2 r hr, h3 r hr, h4 r hr, h5 r hr]
theorem ra_xs {p : Nat} (hp : p < 512) : nI p / 32 = nI (p / 32) := pk_div (d := 32) (by omega) (by decide) (by decide)
theorem ra_x2 {p : Nat} (hp : p < 512) : nI p / 2 = nI (p / 2) := pk_div (d := 2) (by omega) (by decide) (by decide)
theorem ra_xd {p : Nat} (hp : p < 512) : nI p / 2 - nI p / 2 / 16 * 16 = nI (p / 2 % 16) := by
  rw [ra_x2 hp]; exact pk_rem (d := 16) (by omega) (by decide) (by decide)
theorem ra_xq {p : Nat} (hp : p < 512) : nI p - nI p / 2 * 2 = nI (p % 2) := pk_rem (d := 2) (by omega) (by decide) (by decide)
theorem ra_ys {p : Nat} (hp : p < 512) : nI p >>> ((5 : Int32) &&& 31) = nI (p / 32) := pk_shrN (by omega) _ 5 (by decide)
theorem ra_yd {p : Nat} (hp : p < 512) : (nI p >>> ((1 : Int32) &&& 31)) &&& 15 = nI (p / 2 % 16) := by
  rw [show nI p >>> ((1 : Int32) &&& 31) = nI (p / 2) from pk_shrN (by omega) _ 1 (by decide)]
  exact pk_andN (by omega) 4 (by decide)
theorem ra_yq {p : Nat} (hp : p < 512) : nI p &&& 1 = nI (p % 2) := pk_andN (by omega) 1 (by decide)
theorem ra_pk (s d q : Nat) : ((32 * nI s) + (2 * nI d)) + nI q = nI (32 * s + 2 * d + q) := by
  rw [show (32 : Int32) = nI 32 from rfl, show (2 : Int32) = nI 2 from rfl, pk_mul, pk_mul, nI_add, nI_add]
/-! loops over the pure picture -/
theorem ra_exl (W : Nat → Nat → Prop) (f : Nat → Bool) (T F : Prop) (e : Nat) (hx : ∀ n, F → W (n + 1) e) (hs : ∀ n j, j < e → (f j = true → T) → (f j = false → W n (j + 1)) → W (n + 1) j) : ∀ d j, j + d = e → (ra_ex f d j = true → T) → (ra_ex f d j = false → F) → W (d + 1) j := by
  intro d
  induction d with
  | zero => intro j hj _ hF; have e1 : j = e := by omega
            rw [e1]; exact hx 0 (hF rfl)
  | succ d ih =>
    intro j hj hT hF
    unfold ra_ex at hT hF
    refine hs _ j (by omega) (fun h => hT (if_pos h)) (fun h => ih (j + 1) (by omega) ?_ ?_)
    · intro z; exact hT (by rw [h]; exact z)
    · intro z; exact hF (by rw [h]; exact z)
theorem ra_exb (W : Nat → Nat → Prop) (f : Nat → Bool) (P : Int32 → Prop) (e : Nat) (hx : ∀ n, P 0 → W (n + 1) e) (hs : ∀ n j, j < e → (f j = true → P 1) → (f j = false → W n (j + 1)) → W (n + 1) j) (hP : P (ra_b (ra_ex f e 0))) : W (e + 1) 0 :=
  ra_exl W f (P 1) (P 0) e hx hs e 0 (Nat.zero_add e) (fun h => by rw [h] at hP; exact hP) (fun h => by rw [h] at hP; exact hP)
theorem ra_srl (W : Nat → Nat → Prop) (f : Nat → Bool) (P : Int32 → Prop) (e : Nat) (hx : ∀ n, P (-3) → W (n + 1) e) (hs : ∀ n j, j < e → (f j = true → P (nI j)) → (f j = false → W n (j + 1)) → W (n + 1) j) : ∀ d j, j + d = e → P (ra_sr f d j) → W (d + 1) j := by
  intro d
  induction d with
  | zero => intro j hj hP; have e1 : j = e := by omega
            rw [e1]; exact hx 0 hP
  | succ d ih =>
    intro j hj hP
    unfold ra_sr at hP
    refine hs _ j (by omega) (fun h => by rw [if_pos h] at hP; exact hP) (fun h => ih (j + 1) (by omega) ?_)
    rw [if_neg (by rw [h]; decide)] at hP; exact hP
theorem ra_cnl (W : Nat → Nat → Int32 → Prop) (f : Nat → Bool) (P : Int32 → Prop) (e : Nat) (hx : ∀ n t, P t → W (n + 1) e t) (hs : ∀ n j t, j < e → (f j = true → W n (j + 1) (t + 1)) → (f j = false → W n (j + 1) t) → W (n + 1) j t) : ∀ d j t, j + d = e → P (ra_cn f d j t) → W (d + 1) j t := by
  intro d
  induction d with
  | zero => intro j t hj hP; have e1 : j = e := by omega
            rw [e1]; exact hx 0 t hP
  | succ d ih =>
    intro j t hj hP
    unfold ra_cn at hP
    refine hs _ j t (by omega) (fun h => ih (j + 1) (t + 1) (by omega) ?_) (fun h => ih (j + 1) t (by omega) ?_)
    · rw [if_pos h] at hP; exact hP
    · rw [if_neg (by rw [h]; decide)] at hP; exact hP
theorem ra_fml (W : Nat → Nat → Prop) (m : Nat → Bool) (lo : Int32) (P : Int32 → Prop) (e : Nat) (hx : ∀ n, P (-3) → W (n + 1) e) (hs : ∀ n j, j < e → (nI j = lo → W n (j + 1)) → (¬ nI j = lo → m j = true → P (nI j)) → (¬ nI j = lo → m j = false → W n (j + 1)) → W (n + 1) j) : ∀ d j, j + d = e → P (ra_fm m lo d j) → W (d + 1) j := by
  intro d
  induction d with
  | zero => intro j hj hP; have e1 : j = e := by omega
            rw [e1]; exact hx 0 hP
  | succ d ih =>
    intro j hj hP
    unfold ra_fm at hP
    refine hs _ j (by omega) (fun h => ih (j + 1) (by omega) ?_) (fun h h2 => ?_) (fun h h2 => ih (j + 1) (by omega) ?_)
    · rw [if_pos h] at hP; exact hP
    · rw [if_neg h, if_pos h2] at hP; exact hP
    · rw [if_neg h, if_neg (by rw [h2]; decide)] at hP; exact hP
/-! the answers -/
def ra_fo (M : Nat → Nat → Bool) (c i p : Nat) : Bool := decide (ra_fp M c p (-1) = nI i)
def ra_ow (M : Nat → Nat → Bool) (c i : Nat) : Int32 := ra_cn (ra_fo M c i) 512 0 0
def ra_so (M : Nat → Nat → Bool) (c i : Nat) : Int32 := ra_sr (ra_fo M c i) 512 0
def ra_fct (M : Nat → Nat → Bool) (A : Nat → Int32) (c i p : Nat) : Bool := M i p && !decide (ra_dc M A c p (-1) = A i)
def ra_ct (M : Nat → Nat → Bool) (A : Nat → Int32) (c i : Nat) : Bool := ra_ex (ra_fct M A c i) 512 0
def ra_fms (M : Nat → Nat → Bool) (A : Nat → Int32) (c i p : Nat) : Bool := !decide (ra_dc M A c p (-1) = ra_dc M A c p (nI i))
def ra_ms (M : Nat → Nat → Bool) (A : Nat → Int32) (c i : Nat) : Bool := ra_ex (ra_fms M A c i) 512 0
def ra_fov (M : Nat → Nat → Bool) (r q p : Nat) : Bool := M r p && M q p
def ra_ov (M : Nat → Nat → Bool) (r q : Nat) : Bool := ra_ex (ra_fov M r q) 512 0
def ra_fxc (M : Nat → Nat → Bool) (r q p : Nat) : Bool := M r p && !M q p
def ra_xc (M : Nat → Nat → Bool) (r q : Nat) : Bool := ra_ex (ra_fxc M r q) 512 0
def ra_fcr (M : Nat → Nat → Bool) (A : Nat → Int32) (i j : Nat) : Bool := !decide (A j = A i) && (ra_ov M j i && (ra_xc M i j && ra_xc M j i))
def ra_cr (M : Nat → Nat → Bool) (A : Nat → Int32) (i : Nat) : Bool := ra_ex (ra_fcr M A i) i 0
def ra_fgn (M : Nat → Nat → Bool) (A : Nat → Int32) (i j : Nat) : Bool := !decide (A j = A i) && !ra_xc M j i
def ra_gn (M : Nat → Nat → Bool) (A : Nat → Int32) (i : Nat) : Bool := ra_ex (ra_fgn M A i) i 0
def ra_ft (z ct ms cr gn : Bool) : Int32 :=
  match z, ct, ms, cr, gn with
  | true, true, _, _, _ => 1
  | true, false, _, _, _ => 2
  | false, _, false, _, _ => 3
  | false, _, true, true, _ => 4
  | false, _, true, false, true => 5
  | false, _, true, false, false => 0
def ra_fa (M : Nat → Nat → Bool) (A : Nat → Int32) (c i : Nat) : Int32 := ra_ft (decide (ra_so M c i = -3)) (ra_ct M A c i) (ra_ms M A c i) (ra_cr M A i) (ra_gn M A i)
def ra_g (M : Nat → Nat → Bool) (A : Nat → Int32) (c p : Nat) : Int32 := ra_dc M A c p (-1)
def ra_fch (M : Nat → Nat → Bool) (A : Nat → Int32) (c : Nat) (sv : Nat → Int32) (p : Nat) : Bool := !decide (ra_dc M A c p (-1) = sv p)
end
section
/-- side X shows the pure picture: M for its matches, A for its actions -/
def ra_OX (c : Nat) (M : Nat → Nat → Bool) (A : Nat → Int32) (e1 e2 e3 e4 e5 : Int32) (a1 a2 a3 a4 a5 a6 : Nat → Int32) : Prop :=
  c ≤ 10 ∧ (∀ r, r < 10 → a6 r = A r) ∧ ∀ (sv : Nat → Int32) (r p : Nat), r < 10 → p < 512 → ∀ post : Int32 → Prop, post (ra_b (M r p)) → wpX_matches post (nI c, e1, e2, e3, e4, e5, a1, a2, a3, a4, a5, a6, sv) (nI r) (nI p)
theorem rx_mt {c : Nat} {e1 e2 e3 e4 e5 : Int32} {a1 a2 a3 a4 a5 a6 sv : Nat → Int32} {r p : Nat} (hr : r < 10) (hp : p < 512) (post : Int32 → Prop) (hP : post (ra_b (ra_M a1 a2 a3 a4 a5 r p))) : wpX_matches post (nI c, e1, e2, e3, e4, e5, a1, a2, a3, a4, a5, a6, sv) (nI r) (nI p) := by
  have hin : vp_in (nI r) 10 := vp_in_nI (by omega) (by decide)
  have hcl : (nI r).toNatClampNeg = r := nI_clamp (by omega)
  unfold wpX_matches
  dsimp only
  rw [hcl]
  exact ⟨by decide, nm_r (ra_xs hp) ⟨by decide, by decide, nm_r (ra_xd hp) ⟨by decide, nm_r (ra_xq hp) ⟨hin, ra_ml _ hin hP⟩⟩⟩⟩
theorem rx_isr0 {c : Nat} {e1 e2 e3 e4 e5 : Int32} {a1 a2 a3 a4 a5 a6 sv : Nat → Int32} {x : Int32} (h : x < 0 ∨ nI c ≤ x) (post : Int32 → Prop) (hP : post 0) : wpX_isRule post (nI c, e1, e2, e3, e4, e5, a1, a2, a3, a4, a5, a6, sv) x := by
  unfold wpX_isRule
  dsimp only
  by_cases h0 : x < 0
  · exact br_t h0 hP
  · exact br_f h0 (br_t (h.resolve_left h0) hP)
theorem rx_isr1 {c : Nat} {e1 e2 e3 e4 e5 : Int32} {a1 a2 a3 a4 a5 a6 sv : Nat → Int32} {i : Nat} (hc : c ≤ 10) (hi : i < c) (post : Int32 → Prop) (hP : post 1) : wpX_isRule post (nI c, e1, e2, e3, e4, e5, a1, a2, a3, a4, a5, a6, sv) (nI i) := by
  unfold wpX_isRule
  dsimp only
  exact br_f (nI_pos (by omega)) (br_f (nI_ge hi (by omega)) hP)
theorem rx_fm {c : Nat} {e1 e2 e3 e4 e5 : Int32} {a1 a2 a3 a4 a5 a6 : Nat → Int32} {M : Nat → Nat → Bool} {A : Nat → Int32} (H : ra_OX c M A e1 e2 e3 e4 e5 a1 a2 a3 a4 a5 a6) (sv : Nat → Int32) {p : Nat} (hp : p < 512) (lo : Int32) (post : Int32 → Prop) (hP : post (ra_fp M c p lo)) : wpX_firstMatch post (nI c, e1, e2, e3, e4, e5, a1, a2, a3, a4, a5, a6, sv) (nI p) lo := by
  have hc := H.1
  refine ⟨c + 1, ra_fml (fun n j => wX_firstMatch_2 post (nI p) lo (nI c) e1 e2 e3 e4 e5 a1 a2 a3 a4 a5 a6 sv n (nI j)) (fun j => M j p) lo post c ?_ ?_ c 0 (Nat.zero_add c) hP⟩
  · intro n h
    exact br_t (nI_le (Nat.le_refl c) (by omega)) h
  · intro n j hj h1 h2 h3
    refine br_f (nI_ge hj (by omega)) (br_c (fun e => nm_r (nI_1 j) (h1 e)) (fun e => H.2.2 sv j p (by omega) hp _ (ra_tb (fun b => nm_r (nI_1 j) (h3 e b)) (fun b => h2 e b))))
theorem rx_dc {c : Nat} {e1 e2 e3 e4 e5 : Int32} {a1 a2 a3 a4 a5 a6 : Nat → Int32} {M : Nat → Nat → Bool} {A : Nat → Int32} (H : ra_OX c M A e1 e2 e3 e4 e5 a1 a2 a3 a4 a5 a6) (sv : Nat → Int32) {p : Nat} (hp : p < 512) (lo : Int32) (post : Int32 → Prop) (hP : post (ra_dc M A c p lo)) : wpX_decision post (nI c, e1, e2, e3, e4, e5, a1, a2, a3, a4, a5, a6, sv) (nI p) lo := by
  have hc := H.1
  unfold wpX_decision
  dsimp only
  refine rx_fm H sv hp lo _ ?_
  rcases ra_fp_or M c p lo with h | ⟨i, hi, h⟩
  · exact br_t h (ra_ev hP (if_pos h))
  · refine br_f (by rw [h]; exact ra_n3 i (by omega)) ⟨by rw [h]; exact vp_in_nI (by omega) (by decide), ra_ev hP ?_⟩
    unfold ra_dc
    rw [h, if_neg (ra_n3 i (by omega)), nI_clamp (by omega)]
    exact (H.2.1 i (by omega)).symm

theorem rx_ow0 {c : Nat} {e1 e2 e3 e4 e5 : Int32} {a1 a2 a3 a4 a5 a6 sv : Nat → Int32} {x : Int32} (h : x < 0 ∨ nI c ≤ x) (post : Int32 → Prop) (hP : post (-1)) : wpX_owned post (nI c, e1, e2, e3, e4, e5, a1, a2, a3, a4, a5, a6, sv) x := by
  unfold wpX_owned
  dsimp only
  exact rx_isr0 h _ (br_t rfl hP)
theorem rx_ow {c : Nat} {e1 e2 e3 e4 e5 : Int32} {a1 a2 a3 a4 a5 a6 : Nat → Int32} {M : Nat → Nat → Bool} {A : Nat → Int32} (H : ra_OX c M A e1 e2 e3 e4 e5 a1 a2 a3 a4 a5 a6) (sv : Nat → Int32) {i : Nat} (hi : i < c) (post : Int32 → Prop) (hP : post (ra_ow M c i)) : wpX_owned post (nI c, e1, e2, e3, e4, e5, a1, a2, a3, a4, a5, a6, sv) (nI i) := by
  unfold wpX_owned
  dsimp only
  refine rx_isr1 H.1 hi _ (br_f ra_10 ⟨513, ra_cnl (fun n j t => wX_owned_14 post (nI i) (nI c) e1 e2 e3 e4 e5 a1 a2 a3 a4 a5 a6 sv n t (nI j)) (ra_fo M c i) post 512 ?_ ?_ 512 0 0 rfl hP⟩)
  · intro n t h
    exact br_t (ra_5t (Nat.le_refl _) (by decide)) h
  · intro n j t hj h1 h2
    exact br_f (ra_5f hj) (rx_fm H sv hj _ _ (br_c (fun e => nm_e (nm_r (nI_1 j) (h1 (decide_eq_true e)))) (fun e => nm_r (nI_1 j) (h2 (decide_eq_false e)))))
theorem rx_sol {c : Nat} {e1 e2 e3 e4 e5 : Int32} {a1 a2 a3 a4 a5 a6 : Nat → Int32} {M : Nat → Nat → Bool} {A : Nat → Int32} (H : ra_OX c M A e1 e2 e3 e4 e5 a1 a2 a3 a4 a5 a6) (sv : Nat → Int32) {i : Nat} (post : Int32 → Prop) (hP : post (ra_so M c i)) : wX_smallestOwned_2 post (nI i) (nI c) e1 e2 e3 e4 e5 a1 a2 a3 a4 a5 a6 sv 513 0 := by
  refine ra_srl (fun n j => wX_smallestOwned_2 post (nI i) (nI c) e1 e2 e3 e4 e5 a1 a2 a3 a4 a5 a6 sv n (nI j)) (ra_fo M c i) post 512 ?_ ?_ 512 0 rfl hP
  · intro n h
    exact br_t (ra_5t (Nat.le_refl _) (by decide)) h
  · intro n j hj h1 h2
    exact br_f (ra_5f hj) (rx_fm H sv hj _ _ (br_c (fun e => h1 (decide_eq_true e)) (fun e => nm_r (nI_1 j) (h2 (decide_eq_false e)))))
theorem rx_so {c : Nat} {e1 e2 e3 e4 e5 : Int32} {a1 a2 a3 a4 a5 a6 : Nat → Int32} {M : Nat → Nat → Bool} {A : Nat → Int32} (H : ra_OX c M A e1 e2 e3 e4 e5 a1 a2 a3 a4 a5 a6) (sv : Nat → Int32) {i : Nat} (post : Int32 → Prop) (hP : post (ra_so M c i)) : wpX_smallestOwned post (nI c, e1, e2, e3, e4, e5, a1, a2, a3, a4, a5, a6, sv) (nI i) := ⟨513, rx_sol H sv post hP⟩
theorem rx_fo0 {c : Nat} {e1 e2 e3 e4 e5 : Int32} {a1 a2 a3 a4 a5 a6 sv : Nat → Int32} {x : Int32} (h : x < 0 ∨ nI c ≤ x) (post : Int32 → Prop) (hP : post (-1)) : wpX_firstOwned post (nI c, e1, e2, e3, e4, e5, a1, a2, a3, a4, a5, a6, sv) x := by
  unfold wpX_firstOwned
  dsimp only
  exact rx_isr0 h _ (br_t rfl hP)
theorem rx_fo {c : Nat} {e1 e2 e3 e4 e5 : Int32} {a1 a2 a3 a4 a5 a6 : Nat → Int32} {M : Nat → Nat → Bool} {A : Nat → Int32} (H : ra_OX c M A e1 e2 e3 e4 e5 a1 a2 a3 a4 a5 a6) (sv : Nat → Int32) {i : Nat} (hi : i < c) (post : Int32 → Prop) (hP : post (ra_so M c i)) : wpX_firstOwned post (nI c, e1, e2, e3, e4, e5, a1, a2, a3, a4, a5, a6, sv) (nI i) := by
  unfold wpX_firstOwned
  dsimp only
  exact rx_isr1 H.1 hi _ (br_f ra_10 (rx_so H sv _ hP))
theorem rx_ct {c : Nat} {e1 e2 e3 e4 e5 : Int32} {a1 a2 a3 a4 a5 a6 : Nat → Int32} {M : Nat → Nat → Bool} {A : Nat → Int32} (H : ra_OX c M A e1 e2 e3 e4 e5 a1 a2 a3 a4 a5 a6) (sv : Nat → Int32) {i : Nat} (hi : i < c) (post : Int32 → Prop) (hP : post (ra_b (ra_ct M A c i))) : wpX_isContradicted post (nI c, e1, e2, e3, e4, e5, a1, a2, a3, a4, a5, a6, sv) (nI i) := by
  have hc := H.1
  have hin : vp_in (nI i) 10 := vp_in_nI (by omega) (by decide)
  have hA : a6 (nI i).toNatClampNeg = A i := by rw [nI_clamp (by omega)]; exact H.2.1 i (by omega)
  refine ⟨513, ra_exb (fun n j => wX_isContradicted_2 post (nI i) (nI c) e1 e2 e3 e4 e5 a1 a2 a3 a4 a5 a6 sv n (nI j)) (ra_fct M A c i) post 512 ?_ ?_ hP⟩
  · intro n h
    exact br_t (ra_5t (Nat.le_refl _) (by decide)) h
  · intro n j hj h1 h2
    refine br_f (ra_5f hj) (H.2.2 sv i j (by omega) hj _ (ra_tb (fun b => nm_r (nI_1 j) (h2 (by unfold ra_fct; rw [b]; rfl))) (fun b => rx_dc H sv hj _ _ ⟨hin, br_c (fun e => nm_r (nI_1 j) (h2 ?_)) (fun e => h1 ?_)⟩)))
    · rw [hA] at e
      unfold ra_fct; rw [b, decide_eq_true e]; rfl
    · rw [hA] at e
      unfold ra_fct; rw [b, decide_eq_false e]; rfl
theorem rx_rd {c : Nat} {e1 e2 e3 e4 e5 : Int32} {a1 a2 a3 a4 a5 a6 : Nat → Int32} {M : Nat → Nat → Bool} {A : Nat → Int32} (H : ra_OX c M A e1 e2 e3 e4 e5 a1 a2 a3 a4 a5 a6) (sv : Nat → Int32) {i : Nat} (post : Int32 → Prop) (hP : post (ra_b (!ra_ms M A c i))) : wpX_isRedundant post (nI c, e1, e2, e3, e4, e5, a1, a2, a3, a4, a5, a6, sv) (nI i) := by
  refine ⟨513, ra_exl (fun n j => wX_isRedundant_2 post (nI i) (nI c) e1 e2 e3 e4 e5 a1 a2 a3 a4 a5 a6 sv n (nI j)) (ra_fms M A c i) (post 0) (post 1) 512 ?_ ?_ 512 0 rfl (fun h => ra_ev hP (by unfold ra_ms; rw [h]; rfl)) (fun h => ra_ev hP (by unfold ra_ms; rw [h]; rfl))⟩
  · intro n h
    exact br_t (ra_5t (Nat.le_refl _) (by decide)) h
  · intro n j hj h1 h2
    refine br_f (ra_5f hj) (rx_dc H sv hj _ _ (rx_dc H sv hj _ _ (br_c (fun e => nm_r (nI_1 j) (h2 ?_)) (fun e => h1 ?_))))
    · unfold ra_fms; rw [decide_eq_true e]; rfl
    · unfold ra_fms; rw [decide_eq_false e]; rfl
theorem rx_ov {c : Nat} {e1 e2 e3 e4 e5 : Int32} {a1 a2 a3 a4 a5 a6 : Nat → Int32} {M : Nat → Nat → Bool} {A : Nat → Int32} (H : ra_OX c M A e1 e2 e3 e4 e5 a1 a2 a3 a4 a5 a6) (sv : Nat → Int32) {r q : Nat} (hr : r < 10) (hq : q < 10) (post : Int32 → Prop) (hP : post (ra_b (ra_ov M r q))) : wpX_overlaps post (nI c, e1, e2, e3, e4, e5, a1, a2, a3, a4, a5, a6, sv) (nI r) (nI q) := by
  refine ⟨513, ra_exb (fun n j => wX_overlaps_2 post (nI r) (nI q) (nI c) e1 e2 e3 e4 e5 a1 a2 a3 a4 a5 a6 sv n (nI j)) (ra_fov M r q) post 512 ?_ ?_ hP⟩
  · intro n h
    exact br_t (ra_5t (Nat.le_refl _) (by decide)) h
  · intro n j hj h1 h2
    exact br_f (ra_5f hj) (H.2.2 sv r j hr hj _ (ra_tb (fun b => nm_r (nI_1 j) (h2 (by unfold ra_fov; rw [b]; rfl))) (fun b => H.2.2 sv q j hq hj _ (ra_tb (fun d => nm_r (nI_1 j) (h2 (by unfold ra_fov; rw [b, d]; rfl))) (fun d => h1 (by unfold ra_fov; rw [b, d]; rfl))))))
theorem rx_xc {c : Nat} {e1 e2 e3 e4 e5 : Int32} {a1 a2 a3 a4 a5 a6 : Nat → Int32} {M : Nat → Nat → Bool} {A : Nat → Int32} (H : ra_OX c M A e1 e2 e3 e4 e5 a1 a2 a3 a4 a5 a6) (sv : Nat → Int32) {r q : Nat} (hr : r < 10) (hq : q < 10) (post : Int32 → Prop) (hP : post (ra_b (ra_xc M r q))) : wpX_exceeds post (nI c, e1, e2, e3, e4, e5, a1, a2, a3, a4, a5, a6, sv) (nI r) (nI q) := by
  refine ⟨513, ra_exb (fun n j => wX_exceeds_2 post (nI r) (nI q) (nI c) e1 e2 e3 e4 e5 a1 a2 a3 a4 a5 a6 sv n (nI j)) (ra_fxc M r q) post 512 ?_ ?_ hP⟩
  · intro n h
    exact br_t (ra_5t (Nat.le_refl _) (by decide)) h
  · intro n j hj h1 h2
    exact br_f (ra_5f hj) (H.2.2 sv r j hr hj _ (ra_tb (fun b => nm_r (nI_1 j) (h2 (by unfold ra_fxc; rw [b]; rfl))) (fun b => H.2.2 sv q j hq hj _ (ra_tb (fun d => h1 (by unfold ra_fxc; rw [b, d]; rfl)) (fun d => nm_r (nI_1 j) (h2 (by unfold ra_fxc; rw [b, d]; rfl)))))))
theorem rx_cr {c : Nat} {e1 e2 e3 e4 e5 : Int32} {a1 a2 a3 a4 a5 a6 : Nat → Int32} {M : Nat → Nat → Bool} {A : Nat → Int32} (H : ra_OX c M A e1 e2 e3 e4 e5 a1 a2 a3 a4 a5 a6) (sv : Nat → Int32) {i : Nat} (hi : i < c) (post : Int32 → Prop) (hP : post (ra_b (ra_cr M A i))) : wpX_isCorrelated post (nI c, e1, e2, e3, e4, e5, a1, a2, a3, a4, a5, a6, sv) (nI i) := by
  have hc := H.1
  have hi10 : i < 10 := by omega
  have hin : vp_in (nI i) 10 := vp_in_nI (by omega) (by decide)
  have hA : a6 (nI i).toNatClampNeg = A i := by rw [nI_clamp (by omega)]; exact H.2.1 i hi10
  refine ⟨i + 1, ra_exb (fun n j => wX_isCorrelated_2 post (nI i) (nI c) e1 e2 e3 e4 e5 a1 a2 a3 a4 a5 a6 sv n (nI j)) (ra_fcr M A i) post i ?_ ?_ hP⟩
  · intro n h
    exact br_t (nI_le (Nat.le_refl i) (by omega)) h
  · intro n j hji h1 h2
    have hj : j < 10 := by omega
    have hB : a6 (nI j).toNatClampNeg = A j := by rw [nI_clamp (by omega)]; exact H.2.1 j hj
    refine br_f (nI_ge hji (by omega)) ⟨vp_in_nI (by omega) (by decide), hin, br_c (fun e => nm_r (nI_1 j) (h2 ?_)) (fun e => rx_ov H sv hj hi10 _ (ra_tb (fun b1 => nm_r (nI_1 j) (h2 ?_)) (fun b1 => rx_xc H sv hi10 hj _ (ra_tb (fun b2 => nm_r (nI_1 j) (h2 ?_)) (fun b2 => rx_xc H sv hj hi10 _ (ra_tb (fun b3 => nm_r (nI_1 j) (h2 ?_)) (fun b3 => h1 ?_)))))))⟩
    all_goals rw [hA, hB] at e
    · unfold ra_fcr; rw [decide_eq_true e]; rfl
    · unfold ra_fcr; rw [decide_eq_false e, b1]; rfl
    · unfold ra_fcr; rw [decide_eq_false e, b1, b2]; rfl
    · unfold ra_fcr; rw [decide_eq_false e, b1, b2, b3]; rfl
    · unfold ra_fcr; rw [decide_eq_false e, b1, b2, b3]; rfl
theorem rx_gn {c : Nat} {e1 e2 e3 e4 e5 : Int32} {a1 a2 a3 a4 a5 a6 : Nat → Int32} {M : Nat → Nat → Bool} {A : Nat → Int32} (H : ra_OX c M A e1 e2 e3 e4 e5 a1 a2 a3 a4 a5 a6) (sv : Nat → Int32) {i : Nat} (hi : i < c) (post : Int32 → Prop) (hP : post (ra_b (ra_gn M A i))) : wpX_isGeneral post (nI c, e1, e2, e3, e4, e5, a1, a2, a3, a4, a5, a6, sv) (nI i) := by
  have hc := H.1
  have hi10 : i < 10 := by omega
  have hin : vp_in (nI i) 10 := vp_in_nI (by omega) (by decide)
  have hA : a6 (nI i).toNatClampNeg = A i := by rw [nI_clamp (by omega)]; exact H.2.1 i hi10
  refine ⟨i + 1, ra_exb (fun n j => wX_isGeneral_2 post (nI i) (nI c) e1 e2 e3 e4 e5 a1 a2 a3 a4 a5 a6 sv n (nI j)) (ra_fgn M A i) post i ?_ ?_ hP⟩
  · intro n h
    exact br_t (nI_le (Nat.le_refl i) (by omega)) h
  · intro n j hji h1 h2
    have hj : j < 10 := by omega
    have hB : a6 (nI j).toNatClampNeg = A j := by rw [nI_clamp (by omega)]; exact H.2.1 j hj
    refine br_f (nI_ge hji (by omega)) ⟨vp_in_nI (by omega) (by decide), hin, br_c (fun e => nm_r (nI_1 j) (h2 ?_)) (fun e => rx_xc H sv hj hi10 _ (ra_tb (fun b1 => h1 ?_) (fun b1 => nm_r (nI_1 j) (h2 ?_))))⟩
    all_goals rw [hA, hB] at e
    · unfold ra_fgn; rw [decide_eq_true e]; rfl
    · unfold ra_fgn; rw [decide_eq_false e, b1]; rfl
    · unfold ra_fgn; rw [decide_eq_false e, b1]; rfl
theorem rx_fa0 {c : Nat} {e1 e2 e3 e4 e5 : Int32} {a1 a2 a3 a4 a5 a6 sv : Nat → Int32} {x : Int32} (h : x < 0 ∨ nI c ≤ x) (post : Int32 → Prop) (hP : post (-1)) : wpX_fault post (nI c, e1, e2, e3, e4, e5, a1, a2, a3, a4, a5, a6, sv) x := by
  unfold wpX_fault
  dsimp only
  exact rx_isr0 h _ (br_t rfl hP)
theorem rx_fa {c : Nat} {e1 e2 e3 e4 e5 : Int32} {a1 a2 a3 a4 a5 a6 : Nat → Int32} {M : Nat → Nat → Bool} {A : Nat → Int32} (H : ra_OX c M A e1 e2 e3 e4 e5 a1 a2 a3 a4 a5 a6) (sv : Nat → Int32) {i : Nat} (hi : i < c) (post : Int32 → Prop) (hP : post (ra_fa M A c i)) : wpX_fault post (nI c, e1, e2, e3, e4, e5, a1, a2, a3, a4, a5, a6, sv) (nI i) := by
  unfold ra_fa at hP
  unfold wpX_fault
  dsimp only
  refine rx_isr1 H.1 hi _ (br_f ra_10 (rx_so H sv _ (br_c (fun e => rx_ct H sv hi _ (ra_tb (fun b => ra_ev hP ?_) (fun b => ra_ev hP ?_))) (fun e => rx_rd H sv _ (ra_tb (fun b => rx_cr H sv hi _ (ra_tb (fun b2 => rx_gn H sv hi _ (ra_tb (fun b3 => ra_ev hP ?_) (fun b3 => ra_ev hP ?_))) (fun b2 => ra_ev hP ?_))) (fun b => ra_ev hP ?_))))))
  · rw [decide_eq_true e, b]; rfl
  · rw [decide_eq_true e, b]; rfl
  · have b' : ra_ms M A c i = true := by cases hb : ra_ms M A c i with
      | true => rfl
      | false => rw [hb] at b; exact absurd b (by decide)
    rw [decide_eq_false e, b', b2, b3]; cases ra_ct M A c i <;> rfl
  · have b' : ra_ms M A c i = true := by cases hb : ra_ms M A c i with
      | true => rfl
      | false => rw [hb] at b; exact absurd b (by decide)
    rw [decide_eq_false e, b', b2, b3]; cases ra_ct M A c i <;> rfl
  · have b' : ra_ms M A c i = true := by cases hb : ra_ms M A c i with
      | true => rfl
      | false => rw [hb] at b; exact absurd b (by decide)
    rw [decide_eq_false e, b', b2]; cases ra_ct M A c i <;> cases ra_gn M A i <;> rfl
  · have b' : ra_ms M A c i = false := by cases hb : ra_ms M A c i with
      | false => rfl
      | true => rw [hb] at b; exact absurd b (by decide)
    rw [decide_eq_false e, b']; cases ra_ct M A c i <;> cases ra_cr M A i <;> cases ra_gn M A i <;> rfl
theorem rx_ch {c : Nat} {e1 e2 e3 e4 e5 : Int32} {a1 a2 a3 a4 a5 a6 : Nat → Int32} {M : Nat → Nat → Bool} {A : Nat → Int32} (H : ra_OX c M A e1 e2 e3 e4 e5 a1 a2 a3 a4 a5 a6) (sv : Nat → Int32) (post : Int32 → Prop) (hP : post (ra_cn (ra_fch M A c sv) 512 0 0)) : wpX_changed post (nI c, e1, e2, e3, e4, e5, a1, a2, a3, a4, a5, a6, sv) := by
  refine ⟨513, ra_cnl (fun n j t => wX_changed_4 post (nI c) e1 e2 e3 e4 e5 a1 a2 a3 a4 a5 a6 sv n t (nI j)) (ra_fch M A c sv) post 512 ?_ ?_ 512 0 0 rfl hP⟩
  · intro n t h
    exact br_t (ra_5t (Nat.le_refl _) (by decide)) h
  · intro n j t hj h1 h2
    refine br_f (ra_5f hj) (rx_dc H sv hj _ _ ⟨vp_in_nI hj (by decide), br_c (fun e => nm_r (nI_1 j) (h2 ?_)) (fun e => nm_e (nm_r (nI_1 j) (h1 ?_)))⟩)
    all_goals rw [nI_clamp (by omega)] at e
    · unfold ra_fch; rw [decide_eq_true e]; rfl
    · unfold ra_fch; rw [decide_eq_false e]; rfl
theorem rx_fc {c : Nat} {e1 e2 e3 e4 e5 : Int32} {a1 a2 a3 a4 a5 a6 : Nat → Int32} {M : Nat → Nat → Bool} {A : Nat → Int32} (H : ra_OX c M A e1 e2 e3 e4 e5 a1 a2 a3 a4 a5 a6) (sv : Nat → Int32) (post : Int32 → Prop) (hP : post (ra_sr (ra_fch M A c sv) 512 0)) : wpX_firstChanged post (nI c, e1, e2, e3, e4, e5, a1, a2, a3, a4, a5, a6, sv) := by
  refine ⟨513, ra_srl (fun n j => wX_firstChanged_2 post (nI c) e1 e2 e3 e4 e5 a1 a2 a3 a4 a5 a6 sv n (nI j)) (ra_fch M A c sv) post 512 ?_ ?_ 512 0 rfl hP⟩
  · intro n h
    exact br_t (ra_5t (Nat.le_refl _) (by decide)) h
  · intro n j hj h1 h2
    refine br_f (ra_5f hj) (rx_dc H sv hj _ _ ⟨vp_in_nI hj (by decide), br_c (fun e => nm_r (nI_1 j) (h2 ?_)) (fun e => h1 ?_)⟩)
    all_goals rw [nI_clamp (by omega)] at e
    · unfold ra_fch; rw [decide_eq_true e]; rfl
    · unfold ra_fch; rw [decide_eq_false e]; rfl
theorem rx_sv {c : Nat} {e1 e2 e3 e4 e5 : Int32} {a1 a2 a3 a4 a5 a6 : Nat → Int32} {M : Nat → Nat → Bool} {A : Nat → Int32} (H : ra_OX c M A e1 e2 e3 e4 e5 a1 a2 a3 a4 a5 a6) (post : Int32 → SX → Prop) : ∀ d j t s, j + d = 512 → post (ra_cn (fun p => decide (ra_g M A c p = 1)) d j t) (nI c, e1, e2, e3, e4, e5, a1, a2, a3, a4, a5, a6, ra_sv (ra_g M A c) d j s) → wX_save_4 post (nI c) e1 e2 e3 e4 e5 (d + 1) t (nI j) a1 a2 a3 a4 a5 a6 s := by
  intro d
  induction d with
  | zero =>
    intro j t s hj hP
    exact br_t (ra_5t (by omega) (by omega)) hP
  | succ d ih =>
    intro j t s hj hP
    have hj5 : j < 512 := by omega
    have hcl : (nI j).toNatClampNeg = j := nI_clamp (by omega)
    have hin : vp_in (nI j) 512 := vp_in_nI hj5 (by decide)
    have hu : upd s j (ra_g M A c j) (nI j).toNatClampNeg = ra_g M A c j := by rw [hcl]; exact pk_us
    refine br_f (ra_5f hj5) (rx_dc H s hj5 _ _ ⟨hin, nm_r (congrArg (fun k => upd s k (ra_g M A c j)) hcl) ⟨hin, br_c (fun e => nm_e (nm_r (nI_1 j) (ih (j + 1) (t + 1) _ (by omega) ?_))) (fun e => nm_r (nI_1 j) (ih (j + 1) t _ (by omega) ?_))⟩⟩)
    all_goals rw [hu] at e
    · unfold ra_cn at hP; rw [if_pos (decide_eq_true e)] at hP; exact hP
    · unfold ra_cn at hP; rw [if_neg (fun z => e (of_decide_eq_true z))] at hP; exact hP
theorem rx_save {c : Nat} {e1 e2 e3 e4 e5 : Int32} {a1 a2 a3 a4 a5 a6 : Nat → Int32} {M : Nat → Nat → Bool} {A : Nat → Int32} (H : ra_OX c M A e1 e2 e3 e4 e5 a1 a2 a3 a4 a5 a6) (sv : Nat → Int32) (post : Int32 → SX → Prop) (hP : post (ra_cn (fun p => decide (ra_g M A c p = 1)) 512 0 0) (nI c, e1, e2, e3, e4, e5, a1, a2, a3, a4, a5, a6, ra_sv (ra_g M A c) 512 0 sv)) : wpX_save post (nI c, e1, e2, e3, e4, e5, a1, a2, a3, a4, a5, a6, sv) :=
  ⟨513, rx_sv H post 512 0 0 sv rfl hP⟩
theorem rx_cp {c : Nat} {e1 e2 e3 e4 e5 : Int32} {a1 a2 a3 a4 a5 a6 sv : Nat → Int32} {x y : Int32} {r s : Nat} (hr : r < 10) (hs : s < 10) (ex : x = nI r) (ey : y = nI s) (post : SX → Prop) (hP : post (nI c, e1, e2, e3, e4, e5, upd a1 s (a1 r), upd a2 s (a2 r), upd a3 s (a3 r), upd a4 s (a4 r), upd a5 s (a5 r), upd a6 s (a6 r), sv)) : wpX_copyRule post (nI c, e1, e2, e3, e4, e5, a1, a2, a3, a4, a5, a6, sv) x y := by
  subst ex ey
  have hx : vp_in (nI r) 10 := vp_in_nI hr (by decide)
  have hy : vp_in (nI s) 10 := vp_in_nI hs (by decide)
  unfold wpX_copyRule
  dsimp only
  rw [nI_clamp (n := r) (by omega), nI_clamp (n := s) (by omega)]
  exact ⟨hx, hy, nm_e ⟨hx, hy, nm_e ⟨hx, hy, nm_e ⟨hx, hy, nm_e ⟨hx, hy, nm_e ⟨hx, hy, nm_e hP⟩⟩⟩⟩⟩⟩
theorem rx_pd {c : Nat} {e1 e2 e3 e4 e5 : Int32} {a1 a2 a3 a4 a5 a6 sv : Nat → Int32} {s : Nat} (hs : s < 10) (act : Int32) (post : SX → Prop) (hP : post (nI c, e1, e2, e3, e4, e5, upd a1 s e1, upd a2 s e2, upd a3 s e3, upd a4 s e4, upd a5 s e5, upd a6 s act, sv)) : wpX_placeDraft post (nI c, e1, e2, e3, e4, e5, a1, a2, a3, a4, a5, a6, sv) (nI s) act := by
  have hx : vp_in (nI s) 10 := vp_in_nI hs (by decide)
  unfold wpX_placeDraft
  dsimp only
  rw [nI_clamp (n := s) (by omega)]
  exact ⟨hx, nm_e ⟨hx, nm_e ⟨hx, nm_e ⟨hx, nm_e ⟨hx, nm_e ⟨hx, nm_e hP⟩⟩⟩⟩⟩⟩
theorem rx_inl {c : Nat} {e1 e2 e3 e4 e5 : Int32} {sv : Nat → Int32} {w : Nat} (act : Int32) (post : Int32 → SX → Prop) : ∀ d (a1 a2 a3 a4 a5 a6 : Nat → Int32), w + d < 10 → post (nI (c + 1)) (nI (c + 1), e1, e2, e3, e4, e5, upd (ra_in w d a1) w e1, upd (ra_in w d a2) w e2, upd (ra_in w d a3) w e3, upd (ra_in w d a4) w e4, upd (ra_in w d a5) w e5, upd (ra_in w d a6) w act, sv) → wX_insert_40 post (nI w) act (d + 1) (nI (w + d)) (nI c) e1 e2 e3 e4 e5 a1 a2 a3 a4 a5 a6 sv := by
  intro d
  induction d with
  | zero =>
    intro a1 a2 a3 a4 a5 a6 hd hP
    exact br_t (nI_le (by omega) (by omega)) (rx_pd (by omega) act _ (nm_r (nI_1 c) hP))
  | succ d ih =>
    intro a1 a2 a3 a4 a5 a6 hd hP
    exact br_f (nI_ge (by omega) (by omega)) (rx_cp (r := w + d) (s := w + d + 1) (by omega) (by omega) (nI_pred (w + d)) rfl _ (nm_r (pk_m1 (w + d)) (ih _ _ _ _ _ _ (by omega) hP)))
theorem rx_rml {c : Nat} {e1 e2 e3 e4 e5 : Int32} {sv : Nat → Int32} (hc : c < 10) (post : Int32 → SX → Prop) : ∀ d k (a1 a2 a3 a4 a5 a6 : Nat → Int32), k + d = c → post (nI c) (nI c, e1, e2, e3, e4, e5, ra_rm d k a1, ra_rm d k a2, ra_rm d k a3, ra_rm d k a4, ra_rm d k a5, ra_rm d k a6, sv) → wX_remove_14 post (d + 1) (nI (k + 1)) (nI (c + 1)) e1 e2 e3 e4 e5 a1 a2 a3 a4 a5 a6 sv := by
  intro d
  induction d with
  | zero =>
    intro k a1 a2 a3 a4 a5 a6 hd hP
    exact br_t (nI_le (by omega) (by omega)) (nm_r (nI_pred c) hP)
  | succ d ih =>
    intro k a1 a2 a3 a4 a5 a6 hd hP
    exact br_f (nI_ge (by omega) (by omega)) (rx_cp (r := k + 1) (s := k) (by omega) (by omega) rfl (nI_pred k) _ (nm_r (nI_1 (k + 1)) (ih (k + 1) _ _ _ _ _ _ (by omega) hP)))
end
section
/-- side Y shows the pure picture: M for its matches, A for its actions -/
def ra_OY (c : Nat) (M : Nat → Nat → Bool) (A : Nat → Int32) (a1 a2 a3 a4 a5 a6 : Nat → Int32) : Prop :=
  c ≤ 10 ∧ (∀ r, r < 10 → a6 r = A r) ∧ ∀ (sv : Nat → Int32) (r p : Nat), r < 10 → p < 512 → ∀ post : Int32 → Prop, post (ra_b (M r p)) → wpY_matches post (nI c, a1, a2, a3, a4, a5, a6, sv) (nI r) (nI p)
theorem ry_mt {c : Nat} {a1 a2 a3 a4 a5 a6 sv : Nat → Int32} {r p : Nat} (hr : r < 10) (hp : p < 512) (post : Int32 → Prop) (hP : post (ra_b (ra_M a1 a2 a3 a4 a5 r p))) : wpY_matches post (nI c, a1, a2, a3, a4, a5, a6, sv) (nI r) (nI p) := by
  have hin : vp_in (nI r) 11 := vp_in_nI (by omega) (by decide)
  have hcl : (nI r).toNatClampNeg = r := nI_clamp (by omega)
  unfold wpY_matches
  dsimp only
  rw [hcl]
  exact nm_r (ra_ys hp) (nm_r (ra_yd hp) (nm_r (ra_yq hp) ⟨hin, ra_ml _ hin hP⟩))
theorem ry_isr0 {c : Nat} {a1 a2 a3 a4 a5 a6 sv : Nat → Int32} {x : Int32} (h : x < 0 ∨ nI c ≤ x) (post : Int32 → Prop) (hP : post 0) : wpY_isRule post (nI c, a1, a2, a3, a4, a5, a6, sv) x := by
  unfold wpY_isRule
  dsimp only
  by_cases h0 : x < 0
  · exact br_t h0 hP
  · exact br_f h0 (br_t (h.resolve_left h0) hP)
theorem ry_isr1 {c : Nat} {a1 a2 a3 a4 a5 a6 sv : Nat → Int32} {i : Nat} (hc : c ≤ 10) (hi : i < c) (post : Int32 → Prop) (hP : post 1) : wpY_isRule post (nI c, a1, a2, a3, a4, a5, a6, sv) (nI i) := by
  unfold wpY_isRule
  dsimp only
  exact br_f (nI_pos (by omega)) (br_f (nI_ge hi (by omega)) hP)
theorem ry_fm {c : Nat} {a1 a2 a3 a4 a5 a6 : Nat → Int32} {M : Nat → Nat → Bool} {A : Nat → Int32} (H : ra_OY c M A a1 a2 a3 a4 a5 a6) (sv : Nat → Int32) {p : Nat} (hp : p < 512) (lo : Int32) (post : Int32 → Prop) (hP : post (ra_fp M c p lo)) : wpY_first post (nI c, a1, a2, a3, a4, a5, a6, sv) (nI p) lo := by
  have hc := H.1
  refine ⟨c + 1, ra_fml (fun n j => wY_first_2 post (nI p) lo (nI c) a1 a2 a3 a4 a5 a6 sv n (nI j)) (fun j => M j p) lo post c ?_ ?_ c 0 (Nat.zero_add c) hP⟩
  · intro n h
    exact br_t (nI_le (Nat.le_refl c) (by omega)) h
  · intro n j hj h1 h2 h3
    refine br_f (nI_ge hj (by omega)) (br_c (fun e => nm_r (nI_1 j) (h1 e)) (fun e => H.2.2 sv j p (by omega) hp _ (ra_tb (fun b => nm_r (nI_1 j) (h3 e b)) (fun b => h2 e b))))
theorem ry_dc {c : Nat} {a1 a2 a3 a4 a5 a6 : Nat → Int32} {M : Nat → Nat → Bool} {A : Nat → Int32} (H : ra_OY c M A a1 a2 a3 a4 a5 a6) (sv : Nat → Int32) {p : Nat} (hp : p < 512) (lo : Int32) (post : Int32 → Prop) (hP : post (ra_dc M A c p lo)) : wpY_decision post (nI c, a1, a2, a3, a4, a5, a6, sv) (nI p) lo := by
  have hc := H.1
  unfold wpY_decision
  dsimp only
  refine ry_fm H sv hp lo _ ?_
  rcases ra_fp_or M c p lo with h | ⟨i, hi, h⟩
  · exact br_t h (ra_ev hP (if_pos h))
  · refine br_f (by rw [h]; exact ra_n3 i (by omega)) ⟨by rw [h]; exact vp_in_nI (by omega) (by decide), ra_ev hP ?_⟩
    unfold ra_dc
    rw [h, if_neg (ra_n3 i (by omega)), nI_clamp (by omega)]
    exact (H.2.1 i (by omega)).symm

theorem ry_ow0 {c : Nat} {a1 a2 a3 a4 a5 a6 sv : Nat → Int32} {x : Int32} (h : x < 0 ∨ nI c ≤ x) (post : Int32 → Prop) (hP : post (-1)) : wpY_owned post (nI c, a1, a2, a3, a4, a5, a6, sv) x := by
  unfold wpY_owned
  dsimp only
  exact ry_isr0 h _ (br_t rfl hP)
theorem ry_ow {c : Nat} {a1 a2 a3 a4 a5 a6 : Nat → Int32} {M : Nat → Nat → Bool} {A : Nat → Int32} (H : ra_OY c M A a1 a2 a3 a4 a5 a6) (sv : Nat → Int32) {i : Nat} (hi : i < c) (post : Int32 → Prop) (hP : post (ra_ow M c i)) : wpY_owned post (nI c, a1, a2, a3, a4, a5, a6, sv) (nI i) := by
  unfold wpY_owned
  dsimp only
  refine ry_isr1 H.1 hi _ (br_f ra_10 ⟨513, ra_cnl (fun n j t => wY_owned_14 post (nI i) (nI c) a1 a2 a3 a4 a5 a6 sv n t (nI j)) (ra_fo M c i) post 512 ?_ ?_ 512 0 0 rfl hP⟩)
  · intro n t h
    exact br_t (ra_5t (Nat.le_refl _) (by decide)) h
  · intro n j t hj h1 h2
    exact br_f (ra_5f hj) (ry_fm H sv hj _ _ (br_c (fun e => nm_e (nm_r (nI_1 j) (h1 (decide_eq_true e)))) (fun e => nm_r (nI_1 j) (h2 (decide_eq_false e)))))
theorem ry_sol {c : Nat} {a1 a2 a3 a4 a5 a6 : Nat → Int32} {M : Nat → Nat → Bool} {A : Nat → Int32} (H : ra_OY c M A a1 a2 a3 a4 a5 a6) (sv : Nat → Int32) {i : Nat} (post : Int32 → Prop) (hP : post (ra_so M c i)) : wY_firstOwned_12 post (nI i) (nI c) a1 a2 a3 a4 a5 a6 sv 513 0 := by
  refine ra_srl (fun n j => wY_firstOwned_12 post (nI i) (nI c) a1 a2 a3 a4 a5 a6 sv n (nI j)) (ra_fo M c i) post 512 ?_ ?_ 512 0 rfl hP
  · intro n h
    exact br_t (ra_5t (Nat.le_refl _) (by decide)) h
  · intro n j hj h1 h2
    exact br_f (ra_5f hj) (ry_fm H sv hj _ _ (br_c (fun e => h1 (decide_eq_true e)) (fun e => nm_r (nI_1 j) (h2 (decide_eq_false e)))))
theorem ry_fo0 {c : Nat} {a1 a2 a3 a4 a5 a6 sv : Nat → Int32} {x : Int32} (h : x < 0 ∨ nI c ≤ x) (post : Int32 → Prop) (hP : post (-1)) : wpY_firstOwned post (nI c, a1, a2, a3, a4, a5, a6, sv) x := by
  unfold wpY_firstOwned
  dsimp only
  exact ry_isr0 h _ (br_t rfl hP)
theorem ry_fo {c : Nat} {a1 a2 a3 a4 a5 a6 : Nat → Int32} {M : Nat → Nat → Bool} {A : Nat → Int32} (H : ra_OY c M A a1 a2 a3 a4 a5 a6) (sv : Nat → Int32) {i : Nat} (hi : i < c) (post : Int32 → Prop) (hP : post (ra_so M c i)) : wpY_firstOwned post (nI c, a1, a2, a3, a4, a5, a6, sv) (nI i) := by
  unfold wpY_firstOwned
  dsimp only
  exact ry_isr1 H.1 hi _ (br_f ra_10 (⟨513, ry_sol H sv post hP⟩))
theorem ry_ct {c : Nat} {a1 a2 a3 a4 a5 a6 : Nat → Int32} {M : Nat → Nat → Bool} {A : Nat → Int32} (H : ra_OY c M A a1 a2 a3 a4 a5 a6) (sv : Nat → Int32) {i : Nat} (hi : i < c) (post : Int32 → Prop) (hP : post (ra_b (ra_ct M A c i))) : wpY_contradicted post (nI c, a1, a2, a3, a4, a5, a6, sv) (nI i) := by
  have hc := H.1
  have hin : vp_in (nI i) 11 := vp_in_nI (by omega) (by decide)
  have hA : a6 (nI i).toNatClampNeg = A i := by rw [nI_clamp (by omega)]; exact H.2.1 i (by omega)
  refine ⟨513, ra_exb (fun n j => wY_contradicted_2 post (nI i) (nI c) a1 a2 a3 a4 a5 a6 sv n (nI j)) (ra_fct M A c i) post 512 ?_ ?_ hP⟩
  · intro n h
    exact br_t (ra_5t (Nat.le_refl _) (by decide)) h
  · intro n j hj h1 h2
    refine br_f (ra_5f hj) (H.2.2 sv i j (by omega) hj _ (ra_tb (fun b => nm_r (nI_1 j) (h2 (by unfold ra_fct; rw [b]; rfl))) (fun b => ry_dc H sv hj _ _ ⟨hin, br_c (fun e => nm_r (nI_1 j) (h2 ?_)) (fun e => h1 ?_)⟩)))
    · rw [hA] at e
      unfold ra_fct; rw [b, decide_eq_true e]; rfl
    · rw [hA] at e
      unfold ra_fct; rw [b, decide_eq_false e]; rfl
theorem ry_ms {c : Nat} {a1 a2 a3 a4 a5 a6 : Nat → Int32} {M : Nat → Nat → Bool} {A : Nat → Int32} (H : ra_OY c M A a1 a2 a3 a4 a5 a6) (sv : Nat → Int32) {i : Nat} (post : Int32 → Prop) (hP : post (ra_b (ra_ms M A c i))) : wpY_missed post (nI c, a1, a2, a3, a4, a5, a6, sv) (nI i) := by
  refine ⟨513, ra_exb (fun n j => wY_missed_2 post (nI i) (nI c) a1 a2 a3 a4 a5 a6 sv n (nI j)) (ra_fms M A c i) post 512 ?_ ?_ hP⟩
  · intro n h
    exact br_t (ra_5t (Nat.le_refl _) (by decide)) h
  · intro n j hj h1 h2
    refine br_f (ra_5f hj) (ry_dc H sv hj _ _ (ry_dc H sv hj _ _ (br_c (fun e => nm_r (nI_1 j) (h2 ?_)) (fun e => h1 ?_))))
    · unfold ra_fms; rw [decide_eq_true e]; rfl
    · unfold ra_fms; rw [decide_eq_false e]; rfl
theorem ry_sm {c : Nat} {a1 a2 a3 a4 a5 a6 : Nat → Int32} {M : Nat → Nat → Bool} {A : Nat → Int32} (H : ra_OY c M A a1 a2 a3 a4 a5 a6) (sv : Nat → Int32) {r q : Nat} (hr : r < 10) (hq : q < 10) (α β : Bool) (f : Nat → Bool) (hf : ∀ p, f p = ((M r p == α) && (M q p == β))) (post : Int32 → Prop) (hP : post (ra_b (ra_ex f 512 0))) : wpY_some post (nI c, a1, a2, a3, a4, a5, a6, sv) (nI r) (ra_b α) (nI q) (ra_b β) := by
  refine ⟨513, ra_exb (fun n j => wY_some_3 post (nI r) (ra_b α) (nI q) (ra_b β) (nI c) a1 a2 a3 a4 a5 a6 sv n (nI j)) f post 512 ?_ ?_ hP⟩
  · intro n h
    exact br_t (ra_5t (Nat.le_refl _) (by decide)) h
  · intro n j hj h1 h2
    refine br_f (ra_5f hj) (H.2.2 sv r j hr hj _ (br_c (fun e => H.2.2 sv q j hq hj _ (br_c (fun g => h1 ?_) (fun g => nm_r (nI_1 j) (h2 ?_)))) (fun e => nm_r (nI_1 j) (h2 ?_))))
    · rw [hf, ra_b_inj e, ra_b_inj g]; simp
    · have g' : ¬ M q j = β := fun z => g (congrArg ra_b z)
      rw [hf, ra_b_inj e]; simp [g']
    · have e' : ¬ M r j = α := fun z => e (congrArg ra_b z)
      rw [hf]; simp [e']
theorem ry_ov {c : Nat} {a1 a2 a3 a4 a5 a6 : Nat → Int32} {M : Nat → Nat → Bool} {A : Nat → Int32} (H : ra_OY c M A a1 a2 a3 a4 a5 a6) (sv : Nat → Int32) {r q : Nat} (hr : r < 10) (hq : q < 10) (post : Int32 → Prop) (hP : post (ra_b (ra_ov M q r))) : wpY_some post (nI c, a1, a2, a3, a4, a5, a6, sv) (nI r) 1 (nI q) 1 :=
  ry_sm H sv hr hq true true (ra_fov M q r) (fun p => by unfold ra_fov; cases M r p <;> cases M q p <;> rfl) post hP
theorem ry_xc {c : Nat} {a1 a2 a3 a4 a5 a6 : Nat → Int32} {M : Nat → Nat → Bool} {A : Nat → Int32} (H : ra_OY c M A a1 a2 a3 a4 a5 a6) (sv : Nat → Int32) {r q : Nat} (hr : r < 10) (hq : q < 10) (post : Int32 → Prop) (hP : post (ra_b (ra_xc M r q))) : wpY_some post (nI c, a1, a2, a3, a4, a5, a6, sv) (nI r) 1 (nI q) 0 :=
  ry_sm H sv hr hq true false (ra_fxc M r q) (fun p => by unfold ra_fxc; cases M r p <;> cases M q p <;> rfl) post hP
theorem ry_xd {c : Nat} {a1 a2 a3 a4 a5 a6 : Nat → Int32} {M : Nat → Nat → Bool} {A : Nat → Int32} (H : ra_OY c M A a1 a2 a3 a4 a5 a6) (sv : Nat → Int32) {r q : Nat} (hr : r < 10) (hq : q < 10) (post : Int32 → Prop) (hP : post (ra_b (ra_xc M q r))) : wpY_some post (nI c, a1, a2, a3, a4, a5, a6, sv) (nI r) 0 (nI q) 1 :=
  ry_sm H sv hr hq false true (ra_fxc M q r) (fun p => by unfold ra_fxc; cases M r p <;> cases M q p <;> rfl) post hP
theorem ry_cr {c : Nat} {a1 a2 a3 a4 a5 a6 : Nat → Int32} {M : Nat → Nat → Bool} {A : Nat → Int32} (H : ra_OY c M A a1 a2 a3 a4 a5 a6) (sv : Nat → Int32) {i : Nat} (hi : i < c) (post : Int32 → Prop) (hP : post (ra_b (ra_cr M A i))) : wpY_correlated post (nI c, a1, a2, a3, a4, a5, a6, sv) (nI i) := by
  have hc := H.1
  have hi10 : i < 10 := by omega
  have hin : vp_in (nI i) 11 := vp_in_nI (by omega) (by decide)
  have hA : a6 (nI i).toNatClampNeg = A i := by rw [nI_clamp (by omega)]; exact H.2.1 i hi10
  refine ⟨i + 1, ra_exb (fun n j => wY_correlated_2 post (nI i) (nI c) a1 a2 a3 a4 a5 a6 sv n (nI j)) (ra_fcr M A i) post i ?_ ?_ hP⟩
  · intro n h
    exact br_t (nI_le (Nat.le_refl i) (by omega)) h
  · intro n j hji h1 h2
    have hj : j < 10 := by omega
    have hB : a6 (nI j).toNatClampNeg = A j := by rw [nI_clamp (by omega)]; exact H.2.1 j hj
    refine br_f (nI_ge hji (by omega)) ⟨vp_in_nI (by omega) (by decide), hin, br_c (fun e => nm_r (nI_1 j) (h2 ?_)) (fun e => ry_ov H sv hi10 hj _ (ra_tb (fun b1 => nm_r (nI_1 j) (h2 ?_)) (fun b1 => ry_xc H sv hi10 hj _ (ra_tb (fun b2 => nm_r (nI_1 j) (h2 ?_)) (fun b2 => ry_xd H sv hi10 hj _ (ra_tb (fun b3 => nm_r (nI_1 j) (h2 ?_)) (fun b3 => h1 ?_)))))))⟩
    all_goals rw [hA, hB] at e
    · unfold ra_fcr; rw [decide_eq_true e]; rfl
    · unfold ra_fcr; rw [decide_eq_false e, b1]; rfl
    · unfold ra_fcr; rw [decide_eq_false e, b1, b2]; rfl
    · unfold ra_fcr; rw [decide_eq_false e, b1, b2, b3]; rfl
    · unfold ra_fcr; rw [decide_eq_false e, b1, b2, b3]; rfl
theorem ry_gn {c : Nat} {a1 a2 a3 a4 a5 a6 : Nat → Int32} {M : Nat → Nat → Bool} {A : Nat → Int32} (H : ra_OY c M A a1 a2 a3 a4 a5 a6) (sv : Nat → Int32) {i : Nat} (hi : i < c) (post : Int32 → Prop) (hP : post (ra_b (ra_gn M A i))) : wpY_general post (nI c, a1, a2, a3, a4, a5, a6, sv) (nI i) := by
  have hc := H.1
  have hi10 : i < 10 := by omega
  have hin : vp_in (nI i) 11 := vp_in_nI (by omega) (by decide)
  have hA : a6 (nI i).toNatClampNeg = A i := by rw [nI_clamp (by omega)]; exact H.2.1 i hi10
  refine ⟨i + 1, ra_exb (fun n j => wY_general_2 post (nI i) (nI c) a1 a2 a3 a4 a5 a6 sv n (nI j)) (ra_fgn M A i) post i ?_ ?_ hP⟩
  · intro n h
    exact br_t (nI_le (Nat.le_refl i) (by omega)) h
  · intro n j hji h1 h2
    have hj : j < 10 := by omega
    have hB : a6 (nI j).toNatClampNeg = A j := by rw [nI_clamp (by omega)]; exact H.2.1 j hj
    refine br_f (nI_ge hji (by omega)) ⟨vp_in_nI (by omega) (by decide), hin, br_c (fun e => nm_r (nI_1 j) (h2 ?_)) (fun e => ry_xd H sv hi10 hj _ (ra_tb (fun b1 => h1 ?_) (fun b1 => nm_r (nI_1 j) (h2 ?_))))⟩
    all_goals rw [hA, hB] at e
    · unfold ra_fgn; rw [decide_eq_true e]; rfl
    · unfold ra_fgn; rw [decide_eq_false e, b1]; rfl
    · unfold ra_fgn; rw [decide_eq_false e, b1]; rfl
theorem ry_fa0 {c : Nat} {a1 a2 a3 a4 a5 a6 sv : Nat → Int32} {x : Int32} (h : x < 0 ∨ nI c ≤ x) (post : Int32 → Prop) (hP : post (-1)) : wpY_fault post (nI c, a1, a2, a3, a4, a5, a6, sv) x := by
  unfold wpY_fault
  dsimp only
  exact ry_isr0 h _ (br_t rfl hP)
theorem ry_fa {c : Nat} {a1 a2 a3 a4 a5 a6 : Nat → Int32} {M : Nat → Nat → Bool} {A : Nat → Int32} (H : ra_OY c M A a1 a2 a3 a4 a5 a6) (sv : Nat → Int32) {i : Nat} (hi : i < c) (post : Int32 → Prop) (hP : post (ra_fa M A c i)) : wpY_fault post (nI c, a1, a2, a3, a4, a5, a6, sv) (nI i) := by
  unfold ra_fa at hP
  have hz : ra_so M c i = -3 ↔ ra_ow M c i = 0 := ra_sr_cn (ra_fo M c i)
  unfold wpY_fault
  dsimp only
  refine ry_isr1 H.1 hi _ (br_f ra_10 (ry_ow H sv hi _ (br_c (fun e => ry_ct H sv hi _ (ra_tb (fun b => ra_ev hP ?_) (fun b => ra_ev hP ?_))) (fun e => ry_ms H sv _ (ra_tb (fun b => ra_ev hP ?_) (fun b => ry_cr H sv hi _ (ra_tb (fun b2 => ry_gn H sv hi _ (ra_tb (fun b3 => ra_ev hP ?_) (fun b3 => ra_ev hP ?_))) (fun b2 => ra_ev hP ?_))))))))
  all_goals rw [← hz] at e
  · rw [decide_eq_true e, b]; rfl
  · rw [decide_eq_true e, b]; rfl
  · rw [decide_eq_false e, b]; cases ra_ct M A c i <;> cases ra_cr M A i <;> cases ra_gn M A i <;> rfl
  · rw [decide_eq_false e, b, b2, b3]; cases ra_ct M A c i <;> rfl
  · rw [decide_eq_false e, b, b2, b3]; cases ra_ct M A c i <;> rfl
  · rw [decide_eq_false e, b, b2]; cases ra_ct M A c i <;> cases ra_gn M A i <;> rfl
theorem ry_ch {c : Nat} {a1 a2 a3 a4 a5 a6 : Nat → Int32} {M : Nat → Nat → Bool} {A : Nat → Int32} (H : ra_OY c M A a1 a2 a3 a4 a5 a6) (sv : Nat → Int32) (post : Int32 → Prop) (hP : post (ra_cn (ra_fch M A c sv) 512 0 0)) : wpY_changed post (nI c, a1, a2, a3, a4, a5, a6, sv) := by
  refine ⟨513, ra_cnl (fun n j t => wY_changed_4 post (nI c) a1 a2 a3 a4 a5 a6 sv n t (nI j)) (ra_fch M A c sv) post 512 ?_ ?_ 512 0 0 rfl hP⟩
  · intro n t h
    exact br_t (ra_5t (Nat.le_refl _) (by decide)) h
  · intro n j t hj h1 h2
    refine br_f (ra_5f hj) (ry_dc H sv hj _ _ ⟨vp_in_nI hj (by decide), br_c (fun e => nm_r (nI_1 j) (h2 ?_)) (fun e => nm_e (nm_r (nI_1 j) (h1 ?_)))⟩)
    all_goals rw [nI_clamp (by omega)] at e
    · unfold ra_fch; rw [decide_eq_true e]; rfl
    · unfold ra_fch; rw [decide_eq_false e]; rfl
theorem ry_fc {c : Nat} {a1 a2 a3 a4 a5 a6 : Nat → Int32} {M : Nat → Nat → Bool} {A : Nat → Int32} (H : ra_OY c M A a1 a2 a3 a4 a5 a6) (sv : Nat → Int32) (post : Int32 → Prop) (hP : post (ra_sr (ra_fch M A c sv) 512 0)) : wpY_firstChanged post (nI c, a1, a2, a3, a4, a5, a6, sv) := by
  refine ⟨513, ra_srl (fun n j => wY_firstChanged_2 post (nI c) a1 a2 a3 a4 a5 a6 sv n (nI j)) (ra_fch M A c sv) post 512 ?_ ?_ 512 0 rfl hP⟩
  · intro n h
    exact br_t (ra_5t (Nat.le_refl _) (by decide)) h
  · intro n j hj h1 h2
    refine br_f (ra_5f hj) (ry_dc H sv hj _ _ ⟨vp_in_nI hj (by decide), br_c (fun e => nm_r (nI_1 j) (h2 ?_)) (fun e => h1 ?_)⟩)
    all_goals rw [nI_clamp (by omega)] at e
    · unfold ra_fch; rw [decide_eq_true e]; rfl
    · unfold ra_fch; rw [decide_eq_false e]; rfl
theorem ry_sv {c : Nat} {a1 a2 a3 a4 a5 a6 : Nat → Int32} {M : Nat → Nat → Bool} {A : Nat → Int32} (H : ra_OY c M A a1 a2 a3 a4 a5 a6) (post : Int32 → SY → Prop) : ∀ d j t s, j + d = 512 → post (ra_sm (ra_g M A c) d j t) (nI c, a1, a2, a3, a4, a5, a6, ra_sv (ra_g M A c) d j s) → wY_save_4 post (nI c)  (d + 1) t (nI j) a1 a2 a3 a4 a5 a6 s := by
  intro d
  induction d with
  | zero =>
    intro j t s hj hP
    exact br_t (ra_5t (by omega) (by omega)) hP
  | succ d ih =>
    intro j t s hj hP
    have hj5 : j < 512 := by omega
    have hcl : (nI j).toNatClampNeg = j := nI_clamp (by omega)
    have hin : vp_in (nI j) 512 := vp_in_nI hj5 (by decide)
    have hu : upd s j (ra_g M A c j) (nI j).toNatClampNeg = ra_g M A c j := by rw [hcl]; exact pk_us
    exact br_f (ra_5f hj5) (ry_dc H s hj5 _ _ ⟨hin, nm_r (congrArg (fun k => upd s k (ra_g M A c j)) hcl) ⟨hin, nm_r (congrArg (fun k => t + k) hu) (nm_r (nI_1 j) (ih (j + 1) _ _ (by omega) hP))⟩⟩)
theorem ry_save {c : Nat} {a1 a2 a3 a4 a5 a6 : Nat → Int32} {M : Nat → Nat → Bool} {A : Nat → Int32} (H : ra_OY c M A a1 a2 a3 a4 a5 a6) (sv : Nat → Int32) (hA : ra_Z A) (post : Int32 → SY → Prop) (hP : post (ra_cn (fun p => decide (ra_g M A c p = 1)) 512 0 0) (nI c, a1, a2, a3, a4, a5, a6, ra_sv (ra_g M A c) 512 0 sv)) : wpY_save post (nI c, a1, a2, a3, a4, a5, a6, sv) :=
  ⟨513, ry_sv H post 512 0 0 sv rfl (by rw [ra_sm_cn (ra_g M A c) (fun p => ra_dc01 H.1 hA p (-1))]; exact hP)⟩
theorem ry_cp {c : Nat} {a1 a2 a3 a4 a5 a6 sv : Nat → Int32} {x y : Int32} {r s : Nat} (hr : r < 11) (hs : s < 11) (ex : x = nI r) (ey : y = nI s) (post : SY → Prop) (hP : post (nI c, upd a1 s (a1 r), upd a2 s (a2 r), upd a3 s (a3 r), upd a4 s (a4 r), upd a5 s (a5 r), upd a6 s (a6 r), sv)) : wpY_copy post (nI c, a1, a2, a3, a4, a5, a6, sv) x y := by
  subst ex ey
  have hx : vp_in (nI r) 11 := vp_in_nI hr (by decide)
  have hy : vp_in (nI s) 11 := vp_in_nI hs (by decide)
  unfold wpY_copy
  dsimp only
  rw [nI_clamp (n := r) (by omega), nI_clamp (n := s) (by omega)]
  exact ⟨hx, hy, nm_e ⟨hx, hy, nm_e ⟨hx, hy, nm_e ⟨hx, hy, nm_e ⟨hx, hy, nm_e ⟨hx, hy, nm_e hP⟩⟩⟩⟩⟩⟩
theorem ry_inl {c : Nat} {sv : Nat → Int32} {w : Nat} (act : Int32) (post : Int32 → SY → Prop) : ∀ d (a1 a2 a3 a4 a5 a6 : Nat → Int32), w + d < 10 → post (nI (c + 1)) (nI (c + 1), upd (ra_in w d a1) w (ra_in w d a1 10), upd (ra_in w d a2) w (ra_in w d a2 10), upd (ra_in w d a3) w (ra_in w d a3 10), upd (ra_in w d a4) w (ra_in w d a4 10), upd (ra_in w d a5) w (ra_in w d a5 10), upd (upd (ra_in w d a6) w (ra_in w d a6 10)) w act, sv) → wY_insert_40 post (nI w) act (d + 1) (nI (w + d)) (nI c) a1 a2 a3 a4 a5 a6 sv := by
  intro d
  induction d with
  | zero =>
    intro a1 a2 a3 a4 a5 a6 hd hP
    have hcl : (nI w).toNatClampNeg = w := nI_clamp (by omega)
    exact br_t (nI_le (by omega) (by omega)) (ry_cp (r := 10) (s := w) (by omega) (by omega) rfl rfl _ ⟨vp_in_nI (by omega) (by decide), nm_r (congrArg (fun k => upd (upd a6 w (a6 10)) k act) hcl) (nm_r (nI_1 c) hP)⟩)
  | succ d ih =>
    intro a1 a2 a3 a4 a5 a6 hd hP
    exact br_f (nI_ge (by omega) (by omega)) (ry_cp (r := w + d) (s := w + d + 1) (by omega) (by omega) (nI_pred (w + d)) rfl _ (nm_r (pk_m1 (w + d)) (ih _ _ _ _ _ _ (by omega) hP)))
theorem ry_rml {c : Nat} {sv : Nat → Int32} (hc : c < 10) (post : Int32 → SY → Prop) : ∀ d k (a1 a2 a3 a4 a5 a6 : Nat → Int32), k + d = c → post (nI c) (nI c, ra_rm d k a1, ra_rm d k a2, ra_rm d k a3, ra_rm d k a4, ra_rm d k a5, ra_rm d k a6, sv) → wY_remove_12 post (d + 1) (nI k) (nI (c + 1)) a1 a2 a3 a4 a5 a6 sv := by
  intro d
  induction d with
  | zero =>
    intro k a1 a2 a3 a4 a5 a6 hd hP
    exact br_t (by rw [nI_pred]; exact nI_le (by omega) (by omega)) (nm_r (nI_pred c) hP)
  | succ d ih =>
    intro k a1 a2 a3 a4 a5 a6 hd hP
    exact br_f (by rw [nI_pred]; exact nI_ge (by omega) (by omega)) (ry_cp (r := k + 1) (s := k) (by omega) (by omega) (nI_1 k) rfl _ (nm_r (nI_1 k) (ih (k + 1) _ _ _ _ _ _ (by omega) hP)))
end
section
def ra_R (c : Nat) (e1 e2 e3 e4 e5 : Int32) (a1 a2 a3 a4 a5 a6 b1 b2 b3 b4 b5 b6 : Nat → Int32) : Prop :=
  c ≤ 10 ∧ (e1 = b1 10 ∧ e2 = b2 10 ∧ e3 = b3 10 ∧ e4 = b4 10 ∧ e5 = b5 10) ∧ (ra_E a1 b1 ∧ ra_E a2 b2 ∧ ra_E a3 b3 ∧ ra_E a4 b4 ∧ ra_E a5 b5 ∧ ra_E a6 b6) ∧ ra_Z a6
/-- the same rules below 10, the reference's place 10 is the draft, the same saved table, actions 0 or 1 -/
def i_Rel (_ : Nat) (u : SX) (v : SY) : Prop :=
  ∃ (c : Nat) (e1 e2 e3 e4 e5 : Int32) (a1 a2 a3 a4 a5 a6 b1 b2 b3 b4 b5 b6 sv : Nat → Int32), u = (nI c, e1, e2, e3, e4, e5, a1, a2, a3, a4, a5, a6, sv) ∧ v = (nI c, b1, b2, b3, b4, b5, b6, sv) ∧ ra_R c e1 e2 e3 e4 e5 a1 a2 a3 a4 a5 a6 b1 b2 b3 b4 b5 b6
theorem i_up {k : Nat} {u : SX} {v : SY} (h : i_Rel k u v) : i_Rel (k + 4) u v := h
theorem ra_mk (k : Nat) {c : Nat} {e1 e2 e3 e4 e5 : Int32} {a1 a2 a3 a4 a5 a6 b1 b2 b3 b4 b5 b6 : Nat → Int32} (sv : Nat → Int32) (h : ra_R c e1 e2 e3 e4 e5 a1 a2 a3 a4 a5 a6 b1 b2 b3 b4 b5 b6) : i_Rel k (nI c, e1, e2, e3, e4, e5, a1, a2, a3, a4, a5, a6, sv) (nI c, b1, b2, b3, b4, b5, b6, sv) :=
  ⟨c, e1, e2, e3, e4, e5, a1, a2, a3, a4, a5, a6, b1, b2, b3, b4, b5, b6, sv, rfl, rfl, h⟩
theorem ra_RX {c : Nat} {e1 e2 e3 e4 e5 : Int32} {a1 a2 a3 a4 a5 a6 b1 b2 b3 b4 b5 b6 : Nat → Int32} (h : ra_R c e1 e2 e3 e4 e5 a1 a2 a3 a4 a5 a6 b1 b2 b3 b4 b5 b6) : ra_OX c (ra_M a1 a2 a3 a4 a5) a6 e1 e2 e3 e4 e5 a1 a2 a3 a4 a5 a6 :=
  ⟨h.1, fun _ _ => rfl, fun _ _ _ hr hp post hP => rx_mt hr hp post hP⟩
theorem ra_RY {c : Nat} {e1 e2 e3 e4 e5 : Int32} {a1 a2 a3 a4 a5 a6 b1 b2 b3 b4 b5 b6 : Nat → Int32} (h : ra_R c e1 e2 e3 e4 e5 a1 a2 a3 a4 a5 a6 b1 b2 b3 b4 b5 b6) : ra_OY c (ra_M a1 a2 a3 a4 a5) a6 b1 b2 b3 b4 b5 b6 := by
  obtain ⟨hc, _, ⟨h1, h2, h3, h4, h5, h6⟩, _⟩ := h
  refine ⟨hc, fun r hr => (h6 r hr).symm, fun _ r p hr hp post hP => ry_mt hr hp post ?_⟩
  rw [ra_M_E h1 h2 h3 h4 h5 r p hr]
  exact hP
theorem ra_E0 (x : Int32) : ra_E (fun _ => 0) (upd (fun _ => 0) 10 x) := fun j hj => (pk_un (f := fun _ => 0) (x := x) (Nat.ne_of_lt hj)).symm
theorem ra_E10 {a b : Nat → Int32} (h : ra_E a b) (x : Int32) : ra_E a (upd b 10 x) := fun j hj => (h j hj).trans (pk_un (f := b) (x := x) (Nat.ne_of_lt hj)).symm
theorem i_vc0 : wpX_init (fun u => wpY_init (fun v => i_Rel 0 u v)) :=
  nm_e (nm_e (nm_e ⟨0, 0, 15, 0, 15, 2, fun _ => 0, fun _ => 0, fun _ => 0, fun _ => 0, fun _ => 0, fun _ => 0, fun _ => 0, upd (fun _ => 0) 10 15, fun _ => 0, upd (fun _ => 0) 10 15, upd (fun _ => 0) 10 2, fun _ => 0, fun _ => 0, rfl, rfl,
    ⟨by decide, ⟨rfl, pk_us.symm, rfl, pk_us.symm, pk_us.symm⟩, ⟨fun _ _ => rfl, ra_E0 15, fun _ _ => rfl, ra_E0 15, ra_E0 2, fun _ _ => rfl⟩, fun _ _ => Or.inl rfl⟩⟩))

theorem i_vc_draftRange {k : Nat} {u : SX} {v : SY} (I : i_Rel k u v) (hk : k + 4 ≤ 2048) (v1 : Int32) (v2 : Int32) (v3 : Int32) : wpX_draftRange (fun r u' => wpY_draftRange (fun r' v' => r' = r ∧ i_Rel (k + 4) u' v') v v1 v2 v3) u v1 v2 v3 := by
  obtain ⟨c, e1, e2, e3, e4, e5, a1, a2, a3, a4, a5, a6, b1, b2, b3, b4, b5, b6, sv, rfl, rfl, h⟩ := I
  have R : i_Rel (k + 4) (nI c, e1, e2, e3, e4, e5, a1, a2, a3, a4, a5, a6, sv) (nI c, b1, b2, b3, b4, b5, b6, sv) := ra_mk _ sv h
  obtain ⟨hc, ⟨q1, q2, q3, q4, q5⟩, ⟨h1, h2, h3, h4, h5, h6⟩, hz⟩ := h
  by_cases t0 : v1 < 0
  · exact br_t t0 (br_t t0 ⟨rfl, R⟩)
  by_cases t1 : 1 < v1
  · exact br_f t0 (br_t t1 (br_f t0 (br_t t1 ⟨rfl, R⟩)))
  by_cases t2 : v2 < 0
  · exact br_f t0 (br_f t1 (br_t t2 (br_f t0 (br_f t1 (br_t t2 ⟨rfl, R⟩)))))
  by_cases t3 : 15 < v3
  · exact br_f t0 (br_f t1 (br_f t2 (br_t t3 (br_f t0 (br_f t1 (br_f t2 (br_c (fun _ => ⟨rfl, R⟩) (fun _ => br_c (fun _ => ⟨rfl, R⟩) (fun _ => br_t t3 ⟨rfl, R⟩)))))))))
  by_cases t4 : v2 ≤ v3
  · have t5 : ¬ 15 < v2 := Int32.not_lt.mpr (Int32.le_trans t4 (Int32.not_lt.mp t3))
    have t6 : ¬ v3 < 0 := Int32.not_lt.mpr (Int32.le_trans (Int32.not_lt.mp t2) t4)
    by_cases t7 : v1 = 0
    · exact br_f t0 (br_f t1 (br_f t2 (br_f t3 (br_t t4 (br_t t7 (br_f t0 (br_f t1 (br_f t2 (br_f t5 (br_f t6 (br_f t3 (br_t t4 (br_t t7 (nm_e (nm_e ⟨rfl, ra_mk _ sv ⟨hc, ⟨pk_us.symm, pk_us.symm, q3, q4, q5⟩, ⟨ra_E10 h1 v2, ra_E10 h2 v3, h3, h4, h5, h6⟩, hz⟩⟩)))))))))))))))
    · exact br_f t0 (br_f t1 (br_f t2 (br_f t3 (br_t t4 (br_f t7 (br_f t0 (br_f t1 (br_f t2 (br_f t5 (br_f t6 (br_f t3 (br_t t4 (br_f t7 (nm_e (nm_e ⟨rfl, ra_mk _ sv ⟨hc, ⟨q1, q2, pk_us.symm, pk_us.symm, q5⟩, ⟨h1, h2, ra_E10 h3 v2, ra_E10 h4 v3, h5, h6⟩, hz⟩⟩)))))))))))))))
  · exact br_f t0 (br_f t1 (br_f t2 (br_f t3 (br_f t4 (br_f t0 (br_f t1 (br_f t2 (br_c (fun _ => ⟨rfl, R⟩) (fun _ => br_c (fun _ => ⟨rfl, R⟩) (fun _ => br_f t3 (br_f t4 ⟨rfl, R⟩)))))))))))
theorem i_vc_draftSet {k : Nat} {u : SX} {v : SY} (I : i_Rel k u v) (hk : k + 4 ≤ 2048) (v1 : Int32) : wpX_draftSet (fun r u' => wpY_draftSet (fun r' v' => r' = r ∧ i_Rel (k + 4) u' v') v v1) u v1 := by
  obtain ⟨c, e1, e2, e3, e4, e5, a1, a2, a3, a4, a5, a6, b1, b2, b3, b4, b5, b6, sv, rfl, rfl, h⟩ := I
  have R : i_Rel (k + 4) (nI c, e1, e2, e3, e4, e5, a1, a2, a3, a4, a5, a6, sv) (nI c, b1, b2, b3, b4, b5, b6, sv) := ra_mk _ sv h
  obtain ⟨hc, ⟨q1, q2, q3, q4, q5⟩, ⟨h1, h2, h3, h4, h5, h6⟩, hz⟩ := h
  by_cases t0 : v1 < 0
  · exact br_t t0 (br_t t0 ⟨rfl, R⟩)
  by_cases t1 : v1 ≤ 2
  · exact br_f t0 (br_t t1 (br_f t0 (br_t t1 (nm_e ⟨rfl, ra_mk _ sv ⟨hc, ⟨q1, q2, q3, q4, pk_us.symm⟩, ⟨h1, h2, h3, h4, ra_E10 h5 v1, h6⟩, hz⟩⟩))))
  · exact br_f t0 (br_f t1 (br_f t0 (br_f t1 ⟨rfl, R⟩)))
theorem ra_insR {c w d : Nat} {e1 e2 e3 e4 e5 : Int32} {a1 a2 a3 a4 a5 a6 b1 b2 b3 b4 b5 b6 : Nat → Int32} (h : ra_R c e1 e2 e3 e4 e5 a1 a2 a3 a4 a5 a6 b1 b2 b3 b4 b5 b6) (hd : w + d < 10) (hc : c < 10) (act : Int32) (hact : act = 0 ∨ act = 1) :
    ra_R (c + 1) e1 e2 e3 e4 e5 (upd (ra_in w d a1) w e1) (upd (ra_in w d a2) w e2) (upd (ra_in w d a3) w e3) (upd (ra_in w d a4) w e4) (upd (ra_in w d a5) w e5) (upd (ra_in w d a6) w act) (upd (ra_in w d b1) w (ra_in w d b1 10)) (upd (ra_in w d b2) w (ra_in w d b2 10)) (upd (ra_in w d b3) w (ra_in w d b3 10)) (upd (ra_in w d b4) w (ra_in w d b4 10)) (upd (ra_in w d b5) w (ra_in w d b5 10)) (upd (upd (ra_in w d b6) w (ra_in w d b6 10)) w act) := by
  obtain ⟨_, ⟨q1, q2, q3, q4, q5⟩, ⟨h1, h2, h3, h4, h5, h6⟩, hz⟩ := h

  obtain ⟨s1, z1⟩ := ra_in_E w d _ _ hd h1
  obtain ⟨s2, z2⟩ := ra_in_E w d _ _ hd h2
  obtain ⟨s3, z3⟩ := ra_in_E w d _ _ hd h3
  obtain ⟨s4, z4⟩ := ra_in_E w d _ _ hd h4
  obtain ⟨s5, z5⟩ := ra_in_E w d _ _ hd h5
  obtain ⟨s6, z6⟩ := ra_in_E w d _ _ hd h6
  have hw : (10 : Nat) ≠ w := by omega
  refine ⟨by omega, ⟨?_, ?_, ?_, ?_, ?_⟩, ⟨ra_E_upd s1 w ?_, ra_E_upd s2 w ?_, ra_E_upd s3 w ?_, ra_E_upd s4 w ?_, ra_E_upd s5 w ?_, ra_E_upd2 s6 w act _⟩, ra_Z_upd (ra_in_Z w d _ hd hz) w hact⟩
  · rw [pk_un hw, z1]; exact q1
  · rw [pk_un hw, z2]; exact q2
  · rw [pk_un hw, z3]; exact q3
  · rw [pk_un hw, z4]; exact q4
  · rw [pk_un hw, z5]; exact q5
  · rw [z1]; exact q1
  · rw [z2]; exact q2
  · rw [z3]; exact q3
  · rw [z4]; exact q4
  · rw [z5]; exact q5
theorem i_vc_insert {k : Nat} {u : SX} {v : SY} (I : i_Rel k u v) (hk : k + 4 ≤ 2048) (v1 : Int32) (v2 : Int32) : wpX_insert (fun r u' => wpY_insert (fun r' v' => r' = r ∧ i_Rel (k + 4) u' v') v v1 v2) u v1 v2 := by
  obtain ⟨c, e1, e2, e3, e4, e5, a1, a2, a3, a4, a5, a6, b1, b2, b3, b4, b5, b6, sv, rfl, rfl, h⟩ := I
  have R : i_Rel (k + 4) (nI c, e1, e2, e3, e4, e5, a1, a2, a3, a4, a5, a6, sv) (nI c, b1, b2, b3, b4, b5, b6, sv) := ra_mk _ sv h
  have hc := h.1
  by_cases hf : c = 10
  · subst hf
    exact br_f (nI_nlt (a := 10) (b := 10) (Nat.le_refl _) (by decide)) (br_t rfl ⟨rfl, R⟩)
  have c10 : c < 10 := by omega
  have x1 : nI c < 10 := nI_lt (b := 10) c10 (by decide)
  have y1 : ¬ nI c = 10 := fun z => hf ((nI_eq (b := 10) (by omega) (by decide)).mp z)
  by_cases t0 : v1 < 0
  · exact br_t x1 (br_t t0 (br_f y1 (br_t t0 ⟨rfl, R⟩)))
  by_cases t1 : nI c < v1
  · exact br_t x1 (br_f t0 (br_t t1 (br_f y1 (br_f t0 (br_t t1 ⟨rfl, R⟩)))))
  obtain ⟨w, hw, rfl⟩ := nI_of t0
  have hwc : w ≤ c := by
    rw [nI_ltI (by omega) hw] at t1; omega
  obtain ⟨d, rfl⟩ : ∃ d, c = w + d := ⟨c - w, by omega⟩
  by_cases t2 : v2 = 0
  · subst t2
    exact br_t x1 (br_f t0 (br_f t1 (br_t rfl ⟨d + 1, rx_inl 0 _ d a1 a2 a3 a4 a5 a6 (by omega) (br_f y1 (br_f t0 (br_f t1 (br_f (by decide) (br_t (by decide) ⟨d + 1, ry_inl 0 _ d b1 b2 b3 b4 b5 b6 (by omega) ⟨rfl, ra_mk _ sv (ra_insR h c10 c10 0 (Or.inl rfl))⟩⟩)))))⟩)))
  by_cases t3 : v2 = 1
  · subst t3
    exact br_t x1 (br_f t0 (br_f t1 (br_f t2 (br_t rfl ⟨d + 1, rx_inl 1 _ d a1 a2 a3 a4 a5 a6 (by omega) (br_f y1 (br_f t0 (br_f t1 (br_f (by decide) (br_t (by decide) ⟨d + 1, ry_inl 1 _ d b1 b2 b3 b4 b5 b6 (by omega) ⟨rfl, ra_mk _ sv (ra_insR h c10 c10 1 (Or.inr rfl))⟩⟩)))))⟩))))
  · refine br_t x1 (br_f t0 (br_f t1 (br_f t2 (br_f t3 (br_f y1 (br_f t0 (br_f t1 (br_c (fun _ => ⟨rfl, R⟩) (fun n0 => br_c (fun n1 => ?_) (fun _ => ⟨rfl, R⟩))))))))))
    exfalso
    obtain ⟨j, hj, rfl⟩ := nI_of2 (x := v2) (M := 1) (n := 1) (by decide) n0 n1
    rcases (show j = 0 ∨ j = 1 by omega) with rfl | rfl
    · exact t2 rfl
    · exact t3 rfl
theorem ra_rmR {c i d : Nat} {e1 e2 e3 e4 e5 : Int32} {a1 a2 a3 a4 a5 a6 b1 b2 b3 b4 b5 b6 : Nat → Int32} (h : ra_R (c + 1) e1 e2 e3 e4 e5 a1 a2 a3 a4 a5 a6 b1 b2 b3 b4 b5 b6) (hd : i + d = c) :
    ra_R c e1 e2 e3 e4 e5 (ra_rm d i a1) (ra_rm d i a2) (ra_rm d i a3) (ra_rm d i a4) (ra_rm d i a5) (ra_rm d i a6) (ra_rm d i b1) (ra_rm d i b2) (ra_rm d i b3) (ra_rm d i b4) (ra_rm d i b5) (ra_rm d i b6) := by
  obtain ⟨hc, ⟨q1, q2, q3, q4, q5⟩, ⟨h1, h2, h3, h4, h5, h6⟩, hz⟩ := h
  have hd' : i + d < 10 := by omega
  obtain ⟨s1, z1⟩ := ra_rm_E d i _ _ hd' h1
  obtain ⟨s2, z2⟩ := ra_rm_E d i _ _ hd' h2
  obtain ⟨s3, z3⟩ := ra_rm_E d i _ _ hd' h3
  obtain ⟨s4, z4⟩ := ra_rm_E d i _ _ hd' h4
  obtain ⟨s5, z5⟩ := ra_rm_E d i _ _ hd' h5
  obtain ⟨s6, z6⟩ := ra_rm_E d i _ _ hd' h6
  exact ⟨by omega, ⟨q1.trans z1.symm, q2.trans z2.symm, q3.trans z3.symm, q4.trans z4.symm, q5.trans z5.symm⟩, ⟨s1, s2, s3, s4, s5, s6⟩, ra_rm_Z d i _ hd' hz⟩
theorem i_vc_remove {k : Nat} {u : SX} {v : SY} (I : i_Rel k u v) (hk : k + 4 ≤ 2048) (v1 : Int32) : wpX_remove (fun r u' => wpY_remove (fun r' v' => r' = r ∧ i_Rel (k + 4) u' v') v v1) u v1 := by
  obtain ⟨c, e1, e2, e3, e4, e5, a1, a2, a3, a4, a5, a6, b1, b2, b3, b4, b5, b6, sv, rfl, rfl, h⟩ := I
  have R : i_Rel (k + 4) (nI c, e1, e2, e3, e4, e5, a1, a2, a3, a4, a5, a6, sv) (nI c, b1, b2, b3, b4, b5, b6, sv) := ra_mk _ sv h
  have hc := h.1
  unfold wpX_remove wpY_remove
  dsimp only
  rcases pk_ix v1 (n := c) (by omega) with t | t | ⟨i, hi, rfl⟩
  · exact rx_isr0 (Or.inl t) _ (br_t rfl (ry_isr0 (Or.inl t) _ (br_t rfl ⟨rfl, R⟩)))
  · exact rx_isr0 (Or.inr t) _ (br_t rfl (ry_isr0 (Or.inr t) _ (br_t rfl ⟨rfl, R⟩)))
  · obtain ⟨c', rfl⟩ : ∃ c', c = c' + 1 := ⟨c - 1, by omega⟩
    obtain ⟨d, rfl⟩ : ∃ d, c' = i + d := ⟨c' - i, by omega⟩
    refine rx_isr1 hc hi _ (br_f ra_10 (nm_r (nI_1 i) ⟨d + 1, rx_rml (by omega) _ d i a1 a2 a3 a4 a5 a6 rfl ?_⟩))
    exact ry_isr1 hc hi _ (br_f ra_10 ⟨d + 1, ry_rml (by omega) _ d i b1 b2 b3 b4 b5 b6 rfl ⟨rfl, ra_mk _ sv (ra_rmR h rfl)⟩⟩)
theorem i_vc_decider {k : Nat} {u : SX} {v : SY} (I : i_Rel k u v) (hk : k + 4 ≤ 2048) (v1 : Int32) (v2 : Int32) (v3 : Int32) : wpX_decider (fun r => wpY_decider (fun r' => r' = r ∧ i_Rel (k + 4) u v) v v1 v2 v3) u v1 v2 v3 := by
  obtain ⟨c, e1, e2, e3, e4, e5, a1, a2, a3, a4, a5, a6, b1, b2, b3, b4, b5, b6, sv, rfl, rfl, h⟩ := I
  have R : i_Rel (k + 4) (nI c, e1, e2, e3, e4, e5, a1, a2, a3, a4, a5, a6, sv) (nI c, b1, b2, b3, b4, b5, b6, sv) := ra_mk _ sv h
  by_cases t0 : v1 < 0
  · exact br_t t0 (br_t t0 ⟨rfl, R⟩)
  by_cases t1 : 15 < v1
  · exact br_f t0 (br_t t1 (br_f t0 (br_t t1 ⟨rfl, R⟩)))
  by_cases t2 : v2 < 0
  · exact br_f t0 (br_f t1 (br_t t2 (br_f t0 (br_f t1 (br_t t2 ⟨rfl, R⟩)))))
  by_cases t3 : 15 < v2
  · exact br_f t0 (br_f t1 (br_f t2 (br_t t3 (br_f t0 (br_f t1 (br_f t2 (br_t t3 ⟨rfl, R⟩)))))))
  by_cases t4 : v3 < 0
  · exact br_f t0 (br_f t1 (br_f t2 (br_f t3 (br_t t4 (br_f t0 (br_f t1 (br_f t2 (br_f t3 (br_t t4 ⟨rfl, R⟩)))))))))
  by_cases t5 : v3 ≤ 1
  · obtain ⟨s, hs, rfl⟩ := nI_of2 (M := 15) (n := 15) (by decide) t0 (Int32.not_lt.mp t1)
    obtain ⟨d, hd, rfl⟩ := nI_of2 (M := 15) (n := 15) (by decide) t2 (Int32.not_lt.mp t3)
    obtain ⟨q, hq, rfl⟩ := nI_of2 (M := 1) (n := 1) (by decide) t4 t5
    refine br_f t0 (br_f t1 (br_f t2 (br_f t3 (br_f t4 (br_t t5 ?_)))))
    rw [ra_pk]
    refine rx_fm (ra_RX h) sv (by omega) _ _ ?_
    refine br_f t0 (br_f t1 (br_f t2 (br_f t3 (br_f t4 (br_t t5 ?_)))))
    rw [ra_pk]
    exact ry_fm (ra_RY h) sv (by omega) _ _ ⟨rfl, R⟩
  · exact br_f t0 (br_f t1 (br_f t2 (br_f t3 (br_f t4 (br_f t5 (br_f t0 (br_f t1 (br_f t2 (br_f t3 (br_f t4 (br_f t5 ⟨rfl, R⟩)))))))))))
theorem i_vc_owned {k : Nat} {u : SX} {v : SY} (I : i_Rel k u v) (hk : k + 4 ≤ 2048) (v1 : Int32) : wpX_owned (fun r => wpY_owned (fun r' => r' = r ∧ i_Rel (k + 4) u v) v v1) u v1 := by
  obtain ⟨c, e1, e2, e3, e4, e5, a1, a2, a3, a4, a5, a6, b1, b2, b3, b4, b5, b6, sv, rfl, rfl, h⟩ := I
  have R : i_Rel (k + 4) (nI c, e1, e2, e3, e4, e5, a1, a2, a3, a4, a5, a6, sv) (nI c, b1, b2, b3, b4, b5, b6, sv) := ra_mk _ sv h
  have hc := h.1
  rcases pk_ix v1 (n := c) (by omega) with t | t | ⟨i, hi, rfl⟩
  · exact rx_ow0 (Or.inl t) _ (ry_ow0 (Or.inl t) _ ⟨rfl, R⟩)
  · exact rx_ow0 (Or.inr t) _ (ry_ow0 (Or.inr t) _ ⟨rfl, R⟩)
  · exact rx_ow (ra_RX h) sv hi _ (ry_ow (ra_RY h) sv hi _ ⟨rfl, R⟩)
theorem i_vc_firstOwned {k : Nat} {u : SX} {v : SY} (I : i_Rel k u v) (hk : k + 4 ≤ 2048) (v1 : Int32) : wpX_firstOwned (fun r => wpY_firstOwned (fun r' => r' = r ∧ i_Rel (k + 4) u v) v v1) u v1 := by
  obtain ⟨c, e1, e2, e3, e4, e5, a1, a2, a3, a4, a5, a6, b1, b2, b3, b4, b5, b6, sv, rfl, rfl, h⟩ := I
  have R : i_Rel (k + 4) (nI c, e1, e2, e3, e4, e5, a1, a2, a3, a4, a5, a6, sv) (nI c, b1, b2, b3, b4, b5, b6, sv) := ra_mk _ sv h
  have hc := h.1
  rcases pk_ix v1 (n := c) (by omega) with t | t | ⟨i, hi, rfl⟩
  · exact rx_fo0 (Or.inl t) _ (ry_fo0 (Or.inl t) _ ⟨rfl, R⟩)
  · exact rx_fo0 (Or.inr t) _ (ry_fo0 (Or.inr t) _ ⟨rfl, R⟩)
  · exact rx_fo (ra_RX h) sv hi _ (ry_fo (ra_RY h) sv hi _ ⟨rfl, R⟩)
theorem i_vc_fault {k : Nat} {u : SX} {v : SY} (I : i_Rel k u v) (hk : k + 4 ≤ 2048) (v1 : Int32) : wpX_fault (fun r => wpY_fault (fun r' => r' = r ∧ i_Rel (k + 4) u v) v v1) u v1 := by
  obtain ⟨c, e1, e2, e3, e4, e5, a1, a2, a3, a4, a5, a6, b1, b2, b3, b4, b5, b6, sv, rfl, rfl, h⟩ := I
  have R : i_Rel (k + 4) (nI c, e1, e2, e3, e4, e5, a1, a2, a3, a4, a5, a6, sv) (nI c, b1, b2, b3, b4, b5, b6, sv) := ra_mk _ sv h
  have hc := h.1
  rcases pk_ix v1 (n := c) (by omega) with t | t | ⟨i, hi, rfl⟩
  · exact rx_fa0 (Or.inl t) _ (ry_fa0 (Or.inl t) _ ⟨rfl, R⟩)
  · exact rx_fa0 (Or.inr t) _ (ry_fa0 (Or.inr t) _ ⟨rfl, R⟩)
  · exact rx_fa (ra_RX h) sv hi _ (ry_fa (ra_RY h) sv hi _ ⟨rfl, R⟩)
theorem i_vc_save {k : Nat} {u : SX} {v : SY} (I : i_Rel k u v) (hk : k + 4 ≤ 2048) : wpX_save (fun r u' => wpY_save (fun r' v' => r' = r ∧ i_Rel (k + 4) u' v') v) u := by
  obtain ⟨c, e1, e2, e3, e4, e5, a1, a2, a3, a4, a5, a6, b1, b2, b3, b4, b5, b6, sv, rfl, rfl, h⟩ := I
  exact rx_save (ra_RX h) sv _ (ry_save (ra_RY h) sv h.2.2.2 _ ⟨rfl, ra_mk _ _ h⟩)
theorem i_vc_changed {k : Nat} {u : SX} {v : SY} (I : i_Rel k u v) (hk : k + 4 ≤ 2048) : wpX_changed (fun r => wpY_changed (fun r' => r' = r ∧ i_Rel (k + 4) u v) v) u := by
  obtain ⟨c, e1, e2, e3, e4, e5, a1, a2, a3, a4, a5, a6, b1, b2, b3, b4, b5, b6, sv, rfl, rfl, h⟩ := I
  exact rx_ch (ra_RX h) sv _ (ry_ch (ra_RY h) sv _ ⟨rfl, ra_mk _ sv h⟩)
theorem i_vc_firstChanged {k : Nat} {u : SX} {v : SY} (I : i_Rel k u v) (hk : k + 4 ≤ 2048) : wpX_firstChanged (fun r => wpY_firstChanged (fun r' => r' = r ∧ i_Rel (k + 4) u v) v) u := by
  obtain ⟨c, e1, e2, e3, e4, e5, a1, a2, a3, a4, a5, a6, b1, b2, b3, b4, b5, b6, sv, rfl, rfl, h⟩ := I
  exact rx_fc (ra_RX h) sv _ (ry_fc (ra_RY h) sv _ ⟨rfl, ra_mk _ sv h⟩)
end
