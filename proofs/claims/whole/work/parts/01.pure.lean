theorem pk_us {f : Nat → Int32} {k : Nat} {x : Int32} : upd f k x k = x := if_pos rfl
theorem pk_un {f : Nat → Int32} {k j : Nat} {x : Int32} (h : j ≠ k) : upd f k x j = f j := if_neg h
theorem pk_sub {a b : Nat} (h : b ≤ a) : nI a - nI b = nI (a - b) := by
  obtain ⟨c, rfl⟩ : ∃ c, a = c + b := ⟨a - b, by omega⟩
  rw [← nI_add, Int32.add_sub_cancel, Nat.add_sub_cancel]
theorem pk_m1 (n : Nat) : nI (n + 1) + (-1) = nI n := by
  rw [← nI_1, Int32.add_assoc, show (1 : Int32) + (-1) = 0 from rfl, Int32.add_zero]
theorem pk_mul (a b : Nat) : nI a * nI b = nI (a * b) := (Int32.ofNat_mul a b).symm
theorem pk_div {a d : Nat} (ha : a < 2 ^ 31) (h0 : 0 < d) (hd : d < 2 ^ 31) : nI a / nI d = nI (a / d) := by
  apply Int32.toInt_inj.mp
  rw [lg_idiv_nonneg (by rw [nI_toInt ha]; omega) (by rw [nI_toInt hd]; omega), nI_toInt ha, nI_toInt hd, nI_toInt (Nat.lt_of_le_of_lt (Nat.div_le_self a d) ha)]
  first | rfl | exact (Int.natCast_ediv _ _).symm
theorem pk_rem {a d : Nat} (ha : a < 2 ^ 31) (h0 : 0 < d) (hd : d < 2 ^ 31) : nI a - nI a / nI d * nI d = nI (a % d) := by
  rw [pk_div ha h0 hd, pk_mul, pk_sub (Nat.div_mul_le_self a d)]
  exact congrArg nI (by have := Nat.div_add_mod' a d; omega)
theorem pk_ix (x : Int32) {n : Nat} (hn : n < 2 ^ 31) : x < 0 ∨ nI n ≤ x ∨ ∃ j : Nat, j < n ∧ x = nI j := by
  by_cases h : x < 0
  · exact Or.inl h
  · obtain ⟨j, hj, rfl⟩ := nI_of h
    by_cases h2 : j < n
    · exact Or.inr (Or.inr ⟨j, h2, rfl⟩)
    · exact Or.inr (Or.inl (nI_le (by omega) hj))
theorem pk_le {x y : Int32} {A B : Prop} (a b : Nat) (f : a ≤ b → A) (g : b < a → B) (hx : x = nI a := by rfl) (hy : y = nI b := by rfl) (ha : a < 2 ^ 31 := by omega) (hb : b < 2 ^ 31 := by omega) : (x ≤ y → A) ∧ (¬ x ≤ y → B) := by
  subst hx hy
  rw [nI_leI ha hb]
  exact ⟨f, fun z => g (by omega)⟩
theorem pk_lt {x y : Int32} {A B : Prop} (a b : Nat) (f : a < b → A) (g : b ≤ a → B) (hx : x = nI a := by rfl) (hy : y = nI b := by rfl) (ha : a < 2 ^ 31 := by omega) (hb : b < 2 ^ 31 := by omega) : (x < y → A) ∧ (¬ x < y → B) := by
  subst hx hy
  rw [nI_ltI ha hb]
  exact ⟨f, fun z => g (by omega)⟩
theorem pk_eq {x y : Int32} {A B : Prop} (a b : Nat) (f : a = b → A) (g : a ≠ b → B) (hx : x = nI a := by rfl) (hy : y = nI b := by rfl) (ha : a < 2 ^ 31 := by omega) (hb : b < 2 ^ 31 := by omega) : (x = y → A) ∧ (¬ x = y → B) := by
  subst hx hy
  rw [nI_eq ha hb]
  exact ⟨f, g⟩
theorem pk_in {x : Int32} (n N : Nat) (h : n < N) (hx : x = nI n := by rfl) (hN : N < 2 ^ 31 := by omega) : vp_in x N := by
  subst hx
  exact vp_in_nI h hN
theorem pk_cl {x : Int32} (n : Nat) (hx : x = nI n := by rfl) (h : n < 2 ^ 31 := by omega) : x.toNatClampNeg = n := by
  subst hx
  exact nI_clamp h
theorem pk_tn {n : Nat} (h : n < 2 ^ 32) : (nI n).toBitVec.toNat = n := Nat.mod_eq_of_lt h
theorem pk_and (x : Int32) {m : Int32} (k : Nat) (hm : m.toBitVec.toNat = 2 ^ k - 1) : x &&& m = nI (x.toBitVec.toNat % 2 ^ k) := by
  apply Int32.toBitVec_inj.mp
  apply BitVec.eq_of_toNat_eq
  rw [Int32.toBitVec_and, BitVec.toNat_and, hm, Nat.and_two_pow_sub_one_eq_mod]
  show _ = (BitVec.ofNat 32 _).toNat
  rw [BitVec.toNat_ofNat]
  exact (Nat.mod_eq_of_lt (Nat.lt_of_le_of_lt (Nat.mod_le _ _) x.toBitVec.isLt)).symm
theorem pk_andN {n : Nat} (h : n < 2 ^ 32) {m : Int32} (k : Nat) (hm : m.toBitVec.toNat = 2 ^ k - 1) : nI n &&& m = nI (n % 2 ^ k) := by
  rw [pk_and _ k hm, pk_tn h]
theorem pk_shr (a s : Int32) (k : Nat) (hs : (s.toBitVec.smod 32).toNat = k) : (a >>> s).toInt = a.toInt >>> k := by
  show (a.toBitVec.sshiftRight (s.toBitVec.smod 32).toNat).toInt = _
  rw [hs, BitVec.toInt_sshiftRight]
  rfl
theorem pk_shrN {n : Nat} (h : n < 2 ^ 31) (s : Int32) (k : Nat) (hs : (s.toBitVec.smod 32).toNat = k) : nI n >>> s = nI (n / 2 ^ k) := by
  apply Int32.toInt_inj.mp
  have h2 : n / 2 ^ k ≤ n := Nat.div_le_self _ _
  rw [pk_shr _ _ k hs, nI_toInt h, nI_toInt (by omega), Int.shiftRight_eq_div_pow]
  rfl
/-! the pure picture: first match, decision, counts, searches, shifts of the rule arrays -/
def ra_b : Bool → Int32
  | true => 1
  | false => 0
theorem ra_10 : ¬ (1 : Int32) = 0 := by decide
theorem ra_b_inj {a b : Bool} (h : ra_b a = ra_b b) : a = b := by
  cases a <;> cases b
  · rfl
  · exact absurd h (by decide)
  · exact absurd h (by decide)
  · rfl
theorem ra_tb {b : Bool} {A B : Prop} (f : b = false → A) (g : b = true → B) : (ra_b b = 0 → A) ∧ (¬ ra_b b = 0 → B) := by
  cases b
  · exact br_t rfl (f rfl)
  · exact br_f (by decide) (g rfl)
theorem ra_ev {P : Int32 → Prop} {x y : Int32} (h : P x) (e : x = y) : P y := e ▸ h
theorem ra_5t {j : Nat} (h : 512 ≤ j) (hj : j < 2 ^ 31) : (512 : Int32) ≤ nI j := nI_le (a := 512) h hj
theorem ra_5f {j : Nat} (h : j < 512) : ¬ (512 : Int32) ≤ nI j := nI_ge (b := 512) h (by decide)
def ra_fm (m : Nat → Bool) (lo : Int32) : Nat → Nat → Int32
  | 0, _ => -3
  | d + 1, j => if nI j = lo then ra_fm m lo d (j + 1) else if m j = true then nI j else ra_fm m lo d (j + 1)
theorem ra_fm_or (m : Nat → Bool) (lo : Int32) : ∀ d j, ra_fm m lo d j = -3 ∨ ∃ i, i < j + d ∧ ra_fm m lo d j = nI i := by
  intro d
  induction d with
  | zero => intro j; exact Or.inl rfl
  | succ d ih =>
    intro j
    have h : ra_fm m lo d (j + 1) = -3 ∨ ∃ i, i < j + (d + 1) ∧ ra_fm m lo d (j + 1) = nI i := by
      rcases ih (j + 1) with h | ⟨i, hi, h⟩
      · exact Or.inl h
      · exact Or.inr ⟨i, by omega, h⟩
    unfold ra_fm
    by_cases h1 : nI j = lo
    · rw [if_pos h1]; exact h
    · rw [if_neg h1]
      by_cases h2 : m j = true
      · rw [if_pos h2]; exact Or.inr ⟨j, by omega, rfl⟩
      · rw [if_neg h2]; exact h
theorem ra_n3 : ∀ j : Nat, j < 2 ^ 31 → ¬ nI j = -3 := by
  intro j hj e
  have h := nI_toInt hj
  rw [e, show (-3 : Int32).toInt = -3 from by decide] at h
  omega
/-- what the list decides of packet p, the rule lo left out -/
def ra_fp (M : Nat → Nat → Bool) (c p : Nat) (lo : Int32) : Int32 := ra_fm (fun j => M j p) lo c 0
def ra_dc (M : Nat → Nat → Bool) (A : Nat → Int32) (c p : Nat) (lo : Int32) : Int32 :=
  if ra_fp M c p lo = -3 then 0 else A (ra_fp M c p lo).toNatClampNeg
theorem ra_fp_or (M : Nat → Nat → Bool) (c p : Nat) (lo : Int32) : ra_fp M c p lo = -3 ∨ ∃ i, i < c ∧ ra_fp M c p lo = nI i := by
  rcases ra_fm_or (fun j => M j p) lo c 0 with h | ⟨i, hi, h⟩
  · exact Or.inl h
  · exact Or.inr ⟨i, by omega, h⟩
theorem ra_dc01 {M : Nat → Nat → Bool} {A : Nat → Int32} {c : Nat} (hc : c ≤ 10) (hA : ∀ j, j < 10 → A j = 0 ∨ A j = 1) (p : Nat) (lo : Int32) : ra_dc M A c p lo = 0 ∨ ra_dc M A c p lo = 1 := by
  unfold ra_dc
  rcases ra_fp_or M c p lo with h | ⟨i, hi, h⟩
  · rw [if_pos h]; exact Or.inl rfl
  · rw [h, if_neg (ra_n3 i (by omega)), nI_clamp (by omega)]
    exact hA i (by omega)
def ra_cn (f : Nat → Bool) : Nat → Nat → Int32 → Int32
  | 0, _, t => t
  | d + 1, j, t => if f j = true then ra_cn f d (j + 1) (t + 1) else ra_cn f d (j + 1) t
def ra_sm (g : Nat → Int32) : Nat → Nat → Int32 → Int32
  | 0, _, t => t
  | d + 1, j, t => ra_sm g d (j + 1) (t + g j)
def ra_sr (f : Nat → Bool) : Nat → Nat → Int32
  | 0, _ => -3
  | d + 1, j => if f j = true then nI j else ra_sr f d (j + 1)
def ra_ex (f : Nat → Bool) : Nat → Nat → Bool
  | 0, _ => false
  | d + 1, j => if f j = true then true else ra_ex f d (j + 1)
theorem ra_sm_cn (g : Nat → Int32) (hg : ∀ j, g j = 0 ∨ g j = 1) : ∀ d j t, ra_sm g d j t = ra_cn (fun j => decide (g j = 1)) d j t := by
  intro d
  induction d with
  | zero => intro j t; rfl
  | succ d ih =>
    intro j t
    unfold ra_sm ra_cn
    rcases hg j with h | h
    · rw [ih, h]; simp
    · rw [ih, h]; simp
theorem ra_cn_k (f : Nat → Bool) : ∀ d j t, ∃ k, t ≤ k ∧ k ≤ t + d ∧ ra_cn f d j (nI t) = nI k ∧ (ra_ex f d j = true → t < k) ∧ (ra_ex f d j = false → k = t) := by
  intro d
  induction d with
  | zero => intro j t; exact ⟨t, Nat.le_refl _, Nat.le_refl _, rfl, fun h => (by simp [ra_ex] at h), fun _ => rfl⟩
  | succ d ih =>
    intro j t
    by_cases h : f j = true
    · obtain ⟨k, h1, h2, h3, _, _⟩ := ih (j + 1) (t + 1)
      refine ⟨k, by omega, by omega, ?_, fun _ => by omega, fun h5 => ?_⟩
      · unfold ra_cn; rw [if_pos h, nI_1]; exact h3
      · unfold ra_ex at h5; rw [if_pos h] at h5; exact absurd h5 (by decide)
    · obtain ⟨k, h1, h2, h3, h4, h5⟩ := ih (j + 1) t
      refine ⟨k, by omega, by omega, ?_, fun h6 => ?_, fun h6 => ?_⟩
      · unfold ra_cn; rw [if_neg h]; exact h3
      · unfold ra_ex at h6; rw [if_neg h] at h6; exact h4 h6
      · unfold ra_ex at h6; rw [if_neg h] at h6; exact h5 h6
theorem ra_sr_or (f : Nat → Bool) : ∀ d j, j + d < 2 ^ 31 → ((ra_ex f d j = false ∧ ra_sr f d j = -3) ∨ (ra_ex f d j = true ∧ ¬ ra_sr f d j = -3)) := by
  intro d
  induction d with
  | zero => intro j _; exact Or.inl ⟨rfl, rfl⟩
  | succ d ih =>
    intro j hj
    unfold ra_ex ra_sr
    by_cases h : f j = true
    · rw [if_pos h, if_pos h]; exact Or.inr ⟨rfl, ra_n3 j (by omega)⟩
    · rw [if_neg h, if_neg h]; exact ih (j + 1) (by omega)
theorem ra_sr_cn (f : Nat → Bool) : ra_sr f 512 0 = -3 ↔ ra_cn f 512 0 0 = 0 := by
  obtain ⟨k, _, h2, h3, h4, h5⟩ := ra_cn_k f 512 0 0
  rw [nI_0] at h3
  rw [h3]
  rcases ra_sr_or f 512 0 (by omega) with ⟨a, b⟩ | ⟨a, b⟩
  · rw [h5 a]; exact ⟨fun _ => nI_0, fun _ => b⟩
  · exact ⟨fun z => absurd z b, fun z => absurd z (nI_ne0 (h4 a) (by omega))⟩
theorem ra_ex_congr {f g : Nat → Bool} (h : ∀ j, f j = g j) : ∀ d j, ra_ex f d j = ra_ex g d j := by
  have e : f = g := funext h
  intro d j; rw [e]
/-- the saved table, filled from j on -/
def ra_sv (g : Nat → Int32) : Nat → Nat → (Nat → Int32) → (Nat → Int32)
  | 0, _, s => s
  | d + 1, j, s => ra_sv g d (j + 1) (upd s j (g j))
/-- rules at, at + 1 .. move one place back, the last first -/
def ra_in (w : Nat) : Nat → (Nat → Int32) → (Nat → Int32)
  | 0, a => a
  | d + 1, a => ra_in w d (upd a (w + d + 1) (a (w + d)))
/-- rules k + 1 .. move one place ahead, the first first -/
def ra_rm : Nat → Nat → (Nat → Int32) → (Nat → Int32)
  | 0, _, a => a
  | d + 1, k, a => ra_rm d (k + 1) (upd a k (a (k + 1)))
def ra_E (a b : Nat → Int32) : Prop := ∀ j, j < 10 → a j = b j
theorem ra_E_upd {a b : Nat → Int32} (h : ra_E a b) (k : Nat) {x y : Int32} (e : x = y) : ra_E (upd a k x) (upd b k y) := by
  intro j hj
  by_cases z : j = k
  · subst z; rw [pk_us, pk_us]; exact e
  · rw [pk_un z, pk_un z]; exact h j hj
theorem ra_in_E (w : Nat) : ∀ d (a b : Nat → Int32), w + d < 10 → ra_E a b → ra_E (ra_in w d a) (ra_in w d b) ∧ ra_in w d b 10 = b 10 := by
  intro d
  induction d with
  | zero => intro a b _ h; exact ⟨h, rfl⟩
  | succ d ih =>
    intro a b hd h
    obtain ⟨h1, h2⟩ := ih _ _ (by omega) (ra_E_upd h (w + d + 1) (h (w + d) (by omega)))
    exact ⟨h1, h2.trans (pk_un (by omega))⟩
theorem ra_rm_E : ∀ d k (a b : Nat → Int32), k + d < 10 → ra_E a b → ra_E (ra_rm d k a) (ra_rm d k b) ∧ ra_rm d k b 10 = b 10 := by
  intro d
  induction d with
  | zero => intro k a b _ h; exact ⟨h, rfl⟩
  | succ d ih =>
    intro k a b hd h
    obtain ⟨h1, h2⟩ := ih (k + 1) _ _ (by omega) (ra_E_upd h k (h (k + 1) (by omega)))
    exact ⟨h1, h2.trans (pk_un (by omega))⟩
def ra_Z (a : Nat → Int32) : Prop := ∀ j, j < 10 → a j = 0 ∨ a j = 1
theorem ra_Z_upd {a : Nat → Int32} (h : ra_Z a) (k : Nat) {x : Int32} (e : x = 0 ∨ x = 1) : ra_Z (upd a k x) := by
  intro j hj
  by_cases z : j = k
  · subst z; rw [pk_us]; exact e
  · rw [pk_un z]; exact h j hj
theorem ra_in_Z (w : Nat) : ∀ d (a : Nat → Int32), w + d < 10 → ra_Z a → ra_Z (ra_in w d a) := by
  intro d
  induction d with
  | zero => intro a _ h; exact h
  | succ d ih =>
    intro a hd h
    exact ih _ (by omega) (ra_Z_upd h (w + d + 1) (h (w + d) (by omega)))
theorem ra_rm_Z : ∀ d k (a : Nat → Int32), k + d < 10 → ra_Z a → ra_Z (ra_rm d k a) := by
  intro d
  induction d with
  | zero => intro k a _ h; exact h
  | succ d ih =>
    intro k a hd h
    exact ih (k + 1) _ (by omega) (ra_Z_upd h k (h (k + 1) (by omega)))
theorem ra_E_upd2 {a b : Nat → Int32} (h : ra_E a b) (k : Nat) (x z : Int32) : ra_E (upd a k x) (upd (upd b k z) k x) := by
  intro j hj
  by_cases e : j = k
  · subst e; rw [pk_us, pk_us]
  · rw [pk_un e, pk_un e, pk_un e]; exact h j hj
/-- a rule matches a packet -/
def ra_mt (s d q x1 x2 x3 x4 x5 : Int32) : Bool :=
  if s < x1 then false else if x2 < s then false else if d < x3 then false else if x4 < d then false else if x5 = 2 then true else if x5 = q then true else false
theorem ra_ml {P : Int32 → Prop} {s d q x1 x2 x3 x4 x5 : Int32} (V : Prop) (hV : V) (hP : P (ra_b (ra_mt s d q x1 x2 x3 x4 x5))) :
    (s < x1 → P 0) ∧ (¬ s < x1 → (V ∧ ((x2 < s → P 0) ∧ (¬ x2 < s → (V ∧ ((d < x3 → P 0) ∧ (¬ d < x3 → (V ∧ ((x4 < d → P 0) ∧ (¬ x4 < d → (V ∧ ((x5 = 2 → P 1) ∧ (¬ x5 = 2 → (V ∧ ((x5 = q → P 1) ∧ (¬ x5 = q → P 0)))))))))))))))) := by
  unfold ra_mt at hP
  by_cases h1 : s < x1
  · rw [if_pos h1] at hP; exact br_t h1 hP
  rw [if_neg h1] at hP
  by_cases h2 : x2 < s
  · rw [if_pos h2] at hP; exact br_f h1 ⟨hV, br_t h2 hP⟩
  rw [if_neg h2] at hP
  by_cases h3 : d < x3
  · rw [if_pos h3] at hP; exact br_f h1 ⟨hV, br_f h2 ⟨hV, br_t h3 hP⟩⟩
  rw [if_neg h3] at hP
  by_cases h4 : x4 < d
  · rw [if_pos h4] at hP; exact br_f h1 ⟨hV, br_f h2 ⟨hV, br_f h3 ⟨hV, br_t h4 hP⟩⟩⟩
  rw [if_neg h4] at hP
  by_cases h5 : x5 = 2
  · rw [if_pos h5] at hP; exact br_f h1 ⟨hV, br_f h2 ⟨hV, br_f h3 ⟨hV, br_f h4 ⟨hV, br_t h5 hP⟩⟩⟩⟩
  rw [if_neg h5] at hP
  by_cases h6 : x5 = q
  · rw [if_pos h6] at hP; exact br_f h1 ⟨hV, br_f h2 ⟨hV, br_f h3 ⟨hV, br_f h4 ⟨hV, br_f h5 ⟨hV, br_t h6 hP⟩⟩⟩⟩⟩
  · rw [if_neg h6] at hP; exact br_f h1 ⟨hV, br_f h2 ⟨hV, br_f h3 ⟨hV, br_f h4 ⟨hV, br_f h5 ⟨hV, br_f h6 hP⟩⟩⟩⟩⟩
/-- which rules match which packets, out of the five arrays -/
def ra_M (a1 a2 a3 a4 a5 : Nat → Int32) (r p : Nat) : Bool := ra_mt (nI (p / 32)) (nI (p / 2 % 16)) (nI (p % 2)) (a1 r) (a2 r) (a3 r) (a4 r) (a5 r)
theorem ra_M_E {a1 a2 a3 a4 a5 b1 b2 b3 b4 b5 : Nat → Int32} (h1 : ra_E a1 b1) (h2 : ra_E a2 b2) (h3 : ra_E a3 b3) (h4 : ra_E a4 b4) (h5 : ra_E a5 b5) (r p : Nat) (hr : r < 10) : ra_M b1 b2 b3 b4 b5 r p = ra_M a1 a2 a3 a4 a5 r p := by
  unfold ra_M
  rw [h1 r hr, h2 r hr, h3 r hr, h4 r hr, h5 r hr]
theorem ra_xs {p : Nat} (hp : p < 512) : nI p / 32 = nI (p / 32) := pk_div (d := 32) (by omega) (by decide) (by decide)
theorem ra_x2 {p : Nat} (hp : p < 512) : nI p / 2 = nI (p / 2) := pk_div (d := 2) (by omega) (by decide) (by decide)
theorem ra_xd {p : Nat} (hp : p < 512) : nI p / 2 - nI p / 2 / 16 * 16 = nI (p / 2 % 16) := by
  rw [ra_x2 hp]; exact pk_rem (d := 16) (by omega) (by decide) (by decide)
theorem ra_xq {p : Nat} (hp : p < 512) : nI p - nI p / 2 * 2 = nI (p % 2) := pk_rem (d := 2) (by omega) (by decide) (by decide)
theorem ra_ys {p : Nat} (hp : p < 512) : nI p >>> ((5 : Int32) &&& 31) = nI (p / 32) := pk_shrN (by omega) _ 5 (by decide)
theorem ra_yd {p : Nat} (hp : p < 512) : (nI p >>> ((1 : Int32) &&& 31)) &&& 15 = nI (p / 2 % 16) := by
  rw [show nI p >>> ((1 : Int32) &&& 31) = nI (p / 2) from pk_shrN (by omega) _ 1 (by decide)]
  exact pk_andN (by omega) 4 (by decide)
theorem ra_yq {p : Nat} (hp : p < 512) : nI p &&& 1 = nI (p % 2) := pk_andN (by omega) 1 (by decide)
theorem ra_pk (s d q : Nat) : ((32 * nI s) + (2 * nI d)) + nI q = nI (32 * s + 2 * d + q) := by
  rw [show (32 : Int32) = nI 32 from rfl, show (2 : Int32) = nI 2 from rfl, pk_mul, pk_mul, nI_add, nI_add]
/-! loops over the pure picture -/
theorem ra_exl (W : Nat → Nat → Prop) (f : Nat → Bool) (T F : Prop) (e : Nat) (hx : ∀ n, F → W (n + 1) e) (hs : ∀ n j, j < e → (f j = true → T) → (f j = false → W n (j + 1)) → W (n + 1) j) : ∀ d j, j + d = e → (ra_ex f d j = true → T) → (ra_ex f d j = false → F) → W (d + 1) j := by
  intro d
  induction d with
  | zero => intro j hj _ hF; have e1 : j = e := by omega
            rw [e1]; exact hx 0 (hF rfl)
  | succ d ih =>
    intro j hj hT hF
    unfold ra_ex at hT hF
    refine hs _ j (by omega) (fun h => hT (if_pos h)) (fun h => ih (j + 1) (by omega) ?_ ?_)
    · intro z; exact hT (by rw [h]; exact z)
    · intro z; exact hF (by rw [h]; exact z)
theorem ra_exb (W : Nat → Nat → Prop) (f : Nat → Bool) (P : Int32 → Prop) (e : Nat) (hx : ∀ n, P 0 → W (n + 1) e) (hs : ∀ n j, j < e → (f j = true → P 1) → (f j = false → W n (j + 1)) → W (n + 1) j) (hP : P (ra_b (ra_ex f e 0))) : W (e + 1) 0 :=
  ra_exl W f (P 1) (P 0) e hx hs e 0 (Nat.zero_add e) (fun h => by rw [h] at hP; exact hP) (fun h => by rw [h] at hP; exact hP)
theorem ra_srl (W : Nat → Nat → Prop) (f : Nat → Bool) (P : Int32 → Prop) (e : Nat) (hx : ∀ n, P (-3) → W (n + 1) e) (hs : ∀ n j, j < e → (f j = true → P (nI j)) → (f j = false → W n (j + 1)) → W (n + 1) j) : ∀ d j, j + d = e → P (ra_sr f d j) → W (d + 1) j := by
  intro d
  induction d with
  | zero => intro j hj hP; have e1 : j = e := by omega
            rw [e1]; exact hx 0 hP
  | succ d ih =>
    intro j hj hP
    unfold ra_sr at hP
    refine hs _ j (by omega) (fun h => by rw [if_pos h] at hP; exact hP) (fun h => ih (j + 1) (by omega) ?_)
    rw [if_neg (by rw [h]; decide)] at hP; exact hP
theorem ra_cnl (W : Nat → Nat → Int32 → Prop) (f : Nat → Bool) (P : Int32 → Prop) (e : Nat) (hx : ∀ n t, P t → W (n + 1) e t) (hs : ∀ n j t, j < e → (f j = true → W n (j + 1) (t + 1)) → (f j = false → W n (j + 1) t) → W (n + 1) j t) : ∀ d j t, j + d = e → P (ra_cn f d j t) → W (d + 1) j t := by
  intro d
  induction d with
  | zero => intro j t hj hP; have e1 : j = e := by omega
            rw [e1]; exact hx 0 t hP
  | succ d ih =>
    intro j t hj hP
    unfold ra_cn at hP
    refine hs _ j t (by omega) (fun h => ih (j + 1) (t + 1) (by omega) ?_) (fun h => ih (j + 1) t (by omega) ?_)
    · rw [if_pos h] at hP; exact hP
    · rw [if_neg (by rw [h]; decide)] at hP; exact hP
theorem ra_fml (W : Nat → Nat → Prop) (m : Nat → Bool) (lo : Int32) (P : Int32 → Prop) (e : Nat) (hx : ∀ n, P (-3) → W (n + 1) e) (hs : ∀ n j, j < e → (nI j = lo → W n (j + 1)) → (¬ nI j = lo → m j = true → P (nI j)) → (¬ nI j = lo → m j = false → W n (j + 1)) → W (n + 1) j) : ∀ d j, j + d = e → P (ra_fm m lo d j) → W (d + 1) j := by
  intro d
  induction d with
  | zero => intro j hj hP; have e1 : j = e := by omega
            rw [e1]; exact hx 0 hP
  | succ d ih =>
    intro j hj hP
    unfold ra_fm at hP
    refine hs _ j (by omega) (fun h => ih (j + 1) (by omega) ?_) (fun h h2 => ?_) (fun h h2 => ih (j + 1) (by omega) ?_)
    · rw [if_pos h] at hP; exact hP
    · rw [if_neg h, if_pos h2] at hP; exact hP
    · rw [if_neg h, if_neg (by rw [h2]; decide)] at hP; exact hP
/-! the answers -/
def ra_fo (M : Nat → Nat → Bool) (c i p : Nat) : Bool := decide (ra_fp M c p (-1) = nI i)
def ra_ow (M : Nat → Nat → Bool) (c i : Nat) : Int32 := ra_cn (ra_fo M c i) 512 0 0
def ra_so (M : Nat → Nat → Bool) (c i : Nat) : Int32 := ra_sr (ra_fo M c i) 512 0
def ra_fct (M : Nat → Nat → Bool) (A : Nat → Int32) (c i p : Nat) : Bool := M i p && !decide (ra_dc M A c p (-1) = A i)
def ra_ct (M : Nat → Nat → Bool) (A : Nat → Int32) (c i : Nat) : Bool := ra_ex (ra_fct M A c i) 512 0
def ra_fms (M : Nat → Nat → Bool) (A : Nat → Int32) (c i p : Nat) : Bool := !decide (ra_dc M A c p (-1) = ra_dc M A c p (nI i))
def ra_ms (M : Nat → Nat → Bool) (A : Nat → Int32) (c i : Nat) : Bool := ra_ex (ra_fms M A c i) 512 0
def ra_fov (M : Nat → Nat → Bool) (r q p : Nat) : Bool := M r p && M q p
def ra_ov (M : Nat → Nat → Bool) (r q : Nat) : Bool := ra_ex (ra_fov M r q) 512 0
def ra_fxc (M : Nat → Nat → Bool) (r q p : Nat) : Bool := M r p && !M q p
def ra_xc (M : Nat → Nat → Bool) (r q : Nat) : Bool := ra_ex (ra_fxc M r q) 512 0
def ra_fcr (M : Nat → Nat → Bool) (A : Nat → Int32) (i j : Nat) : Bool := !decide (A j = A i) && (ra_ov M j i && (ra_xc M i j && ra_xc M j i))
def ra_cr (M : Nat → Nat → Bool) (A : Nat → Int32) (i : Nat) : Bool := ra_ex (ra_fcr M A i) i 0
def ra_fgn (M : Nat → Nat → Bool) (A : Nat → Int32) (i j : Nat) : Bool := !decide (A j = A i) && !ra_xc M j i
def ra_gn (M : Nat → Nat → Bool) (A : Nat → Int32) (i : Nat) : Bool := ra_ex (ra_fgn M A i) i 0
def ra_ft (z ct ms cr gn : Bool) : Int32 :=
  match z, ct, ms, cr, gn with
  | true, true, _, _, _ => 1
  | true, false, _, _, _ => 2
  | false, _, false, _, _ => 3
  | false, _, true, true, _ => 4
  | false, _, true, false, true => 5
  | false, _, true, false, false => 0
def ra_fa (M : Nat → Nat → Bool) (A : Nat → Int32) (c i : Nat) : Int32 := ra_ft (decide (ra_so M c i = -3)) (ra_ct M A c i) (ra_ms M A c i) (ra_cr M A i) (ra_gn M A i)
def ra_g (M : Nat → Nat → Bool) (A : Nat → Int32) (c p : Nat) : Int32 := ra_dc M A c p (-1)
def ra_fch (M : Nat → Nat → Bool) (A : Nat → Int32) (c : Nat) (sv : Nat → Int32) (p : Nat) : Bool := !decide (ra_dc M A c p (-1) = sv p)
