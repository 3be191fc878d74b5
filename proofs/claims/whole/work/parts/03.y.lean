/-- side Y shows the pure picture: M for its matches, A for its actions -/
def ra_OY (c : Nat) (M : Nat → Nat → Bool) (A : Nat → Int32) (a1 a2 a3 a4 a5 a6 : Nat → Int32) : Prop :=
  c ≤ 10 ∧ (∀ r, r < 10 → a6 r = A r) ∧ ∀ (sv : Nat → Int32) (r p : Nat), r < 10 → p < 512 → ∀ post : Int32 → Prop, post (ra_b (M r p)) → wpY_matches post (nI c, a1, a2, a3, a4, a5, a6, sv) (nI r) (nI p)
theorem ry_mt {c : Nat} {a1 a2 a3 a4 a5 a6 sv : Nat → Int32} {r p : Nat} (hr : r < 10) (hp : p < 512) (post : Int32 → Prop) (hP : post (ra_b (ra_M a1 a2 a3 a4 a5 r p))) : wpY_matches post (nI c, a1, a2, a3, a4, a5, a6, sv) (nI r) (nI p) := by
  have hin : vp_in (nI r) 11 := vp_in_nI (by omega) (by decide)
  have hcl : (nI r).toNatClampNeg = r := nI_clamp (by omega)
  unfold wpY_matches
  dsimp only
  rw [hcl]
  exact nm_r (ra_ys hp) (nm_r (ra_yd hp) (nm_r (ra_yq hp) ⟨hin, ra_ml _ hin hP⟩))
theorem ry_isr0 {c : Nat} {a1 a2 a3 a4 a5 a6 sv : Nat → Int32} {x : Int32} (h : x < 0 ∨ nI c ≤ x) (post : Int32 → Prop) (hP : post 0) : wpY_isRule post (nI c, a1, a2, a3, a4, a5, a6, sv) x := by
  unfold wpY_isRule
  dsimp only
  by_cases h0 : x < 0
  · exact br_t h0 hP
  · exact br_f h0 (br_t (h.resolve_left h0) hP)
theorem ry_isr1 {c : Nat} {a1 a2 a3 a4 a5 a6 sv : Nat → Int32} {i : Nat} (hc : c ≤ 10) (hi : i < c) (post : Int32 → Prop) (hP : post 1) : wpY_isRule post (nI c, a1, a2, a3, a4, a5, a6, sv) (nI i) := by
  unfold wpY_isRule
  dsimp only
  exact br_f (nI_pos (by omega)) (br_f (nI_ge hi (by omega)) hP)
theorem ry_fm {c : Nat} {a1 a2 a3 a4 a5 a6 : Nat → Int32} {M : Nat → Nat → Bool} {A : Nat → Int32} (H : ra_OY c M A a1 a2 a3 a4 a5 a6) (sv : Nat → Int32) {p : Nat} (hp : p < 512) (lo : Int32) (post : Int32 → Prop) (hP : post (ra_fp M c p lo)) : wpY_first post (nI c, a1, a2, a3, a4, a5, a6, sv) (nI p) lo := by
  have hc := H.1
  refine ⟨c + 1, ra_fml (fun n j => wY_first_2 post (nI p) lo (nI c) a1 a2 a3 a4 a5 a6 sv n (nI j)) (fun j => M j p) lo post c ?_ ?_ c 0 (Nat.zero_add c) hP⟩
  · intro n h
    exact br_t (nI_le (Nat.le_refl c) (by omega)) h
  · intro n j hj h1 h2 h3
    refine br_f (nI_ge hj (by omega)) (br_c (fun e => nm_r (nI_1 j) (h1 e)) (fun e => H.2.2 sv j p (by omega) hp _ (ra_tb (fun b => nm_r (nI_1 j) (h3 e b)) (fun b => h2 e b))))
theorem ry_dc {c : Nat} {a1 a2 a3 a4 a5 a6 : Nat → Int32} {M : Nat → Nat → Bool} {A : Nat → Int32} (H : ra_OY c M A a1 a2 a3 a4 a5 a6) (sv : Nat → Int32) {p : Nat} (hp : p < 512) (lo : Int32) (post : Int32 → Prop) (hP : post (ra_dc M A c p lo)) : wpY_decision post (nI c, a1, a2, a3, a4, a5, a6, sv) (nI p) lo := by
  have hc := H.1
  unfold wpY_decision
  dsimp only
  refine ry_fm H sv hp lo _ ?_
  rcases ra_fp_or M c p lo with h | ⟨i, hi, h⟩
  · exact br_t h (ra_ev hP (if_pos h))
  · refine br_f (by rw [h]; exact ra_n3 i (by omega)) ⟨by rw [h]; exact vp_in_nI (by omega) (by decide), ra_ev hP ?_⟩
    unfold ra_dc
    rw [h, if_neg (ra_n3 i (by omega)), nI_clamp (by omega)]
    exact (H.2.1 i (by omega)).symm

theorem ry_ow0 {c : Nat} {a1 a2 a3 a4 a5 a6 sv : Nat → Int32} {x : Int32} (h : x < 0 ∨ nI c ≤ x) (post : Int32 → Prop) (hP : post (-1)) : wpY_owned post (nI c, a1, a2, a3, a4, a5, a6, sv) x := by
  unfold wpY_owned
  dsimp only
  exact ry_isr0 h _ (br_t rfl hP)
theorem ry_ow {c : Nat} {a1 a2 a3 a4 a5 a6 : Nat → Int32} {M : Nat → Nat → Bool} {A : Nat → Int32} (H : ra_OY c M A a1 a2 a3 a4 a5 a6) (sv : Nat → Int32) {i : Nat} (hi : i < c) (post : Int32 → Prop) (hP : post (ra_ow M c i)) : wpY_owned post (nI c, a1, a2, a3, a4, a5, a6, sv) (nI i) := by
  unfold wpY_owned
  dsimp only
  refine ry_isr1 H.1 hi _ (br_f ra_10 ⟨513, ra_cnl (fun n j t => wY_owned_14 post (nI i) (nI c) a1 a2 a3 a4 a5 a6 sv n t (nI j)) (ra_fo M c i) post 512 ?_ ?_ 512 0 0 rfl hP⟩)
  · intro n t h
    exact br_t (ra_5t (Nat.le_refl _) (by decide)) h
  · intro n j t hj h1 h2
    exact br_f (ra_5f hj) (ry_fm H sv hj _ _ (br_c (fun e => nm_e (nm_r (nI_1 j) (h1 (decide_eq_true e)))) (fun e => nm_r (nI_1 j) (h2 (decide_eq_false e)))))
theorem ry_sol {c : Nat} {a1 a2 a3 a4 a5 a6 : Nat → Int32} {M : Nat → Nat → Bool} {A : Nat → Int32} (H : ra_OY c M A a1 a2 a3 a4 a5 a6) (sv : Nat → Int32) {i : Nat} (post : Int32 → Prop) (hP : post (ra_so M c i)) : wY_firstOwned_12 post (nI i) (nI c) a1 a2 a3 a4 a5 a6 sv 513 0 := by
  refine ra_srl (fun n j => wY_firstOwned_12 post (nI i) (nI c) a1 a2 a3 a4 a5 a6 sv n (nI j)) (ra_fo M c i) post 512 ?_ ?_ 512 0 rfl hP
  · intro n h
    exact br_t (ra_5t (Nat.le_refl _) (by decide)) h
  · intro n j hj h1 h2
    exact br_f (ra_5f hj) (ry_fm H sv hj _ _ (br_c (fun e => h1 (decide_eq_true e)) (fun e => nm_r (nI_1 j) (h2 (decide_eq_false e)))))
theorem ry_fo0 {c : Nat} {a1 a2 a3 a4 a5 a6 sv : Nat → Int32} {x : Int32} (h : x < 0 ∨ nI c ≤ x) (post : Int32 → Prop) (hP : post (-1)) : wpY_firstOwned post (nI c, a1, a2, a3, a4, a5, a6, sv) x := by
  unfold wpY_firstOwned
  dsimp only
  exact ry_isr0 h _ (br_t rfl hP)
theorem ry_fo {c : Nat} {a1 a2 a3 a4 a5 a6 : Nat → Int32} {M : Nat → Nat → Bool} {A : Nat → Int32} (H : ra_OY c M A a1 a2 a3 a4 a5 a6) (sv : Nat → Int32) {i : Nat} (hi : i < c) (post : Int32 → Prop) (hP : post (ra_so M c i)) : wpY_firstOwned post (nI c, a1, a2, a3, a4, a5, a6, sv) (nI i) := by
  unfold wpY_firstOwned
  dsimp only
  exact ry_isr1 H.1 hi _ (br_f ra_10 (⟨513, ry_sol H sv post hP⟩))
theorem ry_ct {c : Nat} {a1 a2 a3 a4 a5 a6 : Nat → Int32} {M : Nat → Nat → Bool} {A : Nat → Int32} (H : ra_OY c M A a1 a2 a3 a4 a5 a6) (sv : Nat → Int32) {i : Nat} (hi : i < c) (post : Int32 → Prop) (hP : post (ra_b (ra_ct M A c i))) : wpY_contradicted post (nI c, a1, a2, a3, a4, a5, a6, sv) (nI i) := by
  have hc := H.1
  have hin : vp_in (nI i) 11 := vp_in_nI (by omega) (by decide)
  have hA : a6 (nI i).toNatClampNeg = A i := by rw [nI_clamp (by omega)]; exact H.2.1 i (by omega)
  refine ⟨513, ra_exb (fun n j => wY_contradicted_2 post (nI i) (nI c) a1 a2 a3 a4 a5 a6 sv n (nI j)) (ra_fct M A c i) post 512 ?_ ?_ hP⟩
  · intro n h
    exact br_t (ra_5t (Nat.le_refl _) (by decide)) h
  · intro n j hj h1 h2
    refine br_f (ra_5f hj) (H.2.2 sv i j (by omega) hj _ (ra_tb (fun b => nm_r (nI_1 j) (h2 (by unfold ra_fct; rw [b]; rfl))) (fun b => ry_dc H sv hj _ _ ⟨hin, br_c (fun e => nm_r (nI_1 j) (h2 ?_)) (fun e => h1 ?_)⟩)))
    · rw [hA] at e
      unfold ra_fct; rw [b, decide_eq_true e]; rfl
    · rw [hA] at e
      unfold ra_fct; rw [b, decide_eq_false e]; rfl
theorem ry_ms {c : Nat} {a1 a2 a3 a4 a5 a6 : Nat → Int32} {M : Nat → Nat → Bool} {A : Nat → Int32} (H : ra_OY c M A a1 a2 a3 a4 a5 a6) (sv : Nat → Int32) {i : Nat} (post : Int32 → Prop) (hP : post (ra_b (ra_ms M A c i))) : wpY_missed post (nI c, a1, a2, a3, a4, a5, a6, sv) (nI i) := by
  refine ⟨513, ra_exb (fun n j => wY_missed_2 post (nI i) (nI c) a1 a2 a3 a4 a5 a6 sv n (nI j)) (ra_fms M A c i) post 512 ?_ ?_ hP⟩
  · intro n h
    exact br_t (ra_5t (Nat.le_refl _) (by decide)) h
  · intro n j hj h1 h2
    refine br_f (ra_5f hj) (ry_dc H sv hj _ _ (ry_dc H sv hj _ _ (br_c (fun e => nm_r (nI_1 j) (h2 ?_)) (fun e => h1 ?_))))
    · unfold ra_fms; rw [decide_eq_true e]; rfl
    · unfold ra_fms; rw [decide_eq_false e]; rfl
theorem ry_sm {c : Nat} {a1 a2 a3 a4 a5 a6 : Nat → Int32} {M : Nat → Nat → Bool} {A : Nat → Int32} (H : ra_OY c M A a1 a2 a3 a4 a5 a6) (sv : Nat → Int32) {r q : Nat} (hr : r < 10) (hq : q < 10) (α β : Bool) (f : Nat → Bool) (hf : ∀ p, f p = ((M r p == α) && (M q p == β))) (post : Int32 → Prop) (hP : post (ra_b (ra_ex f 512 0))) : wpY_some post (nI c, a1, a2, a3, a4, a5, a6, sv) (nI r) (ra_b α) (nI q) (ra_b β) := by
  refine ⟨513, ra_exb (fun n j => wY_some_3 post (nI r) (ra_b α) (nI q) (ra_b β) (nI c) a1 a2 a3 a4 a5 a6 sv n (nI j)) f post 512 ?_ ?_ hP⟩
  · intro n h
    exact br_t (ra_5t (Nat.le_refl _) (by decide)) h
  · intro n j hj h1 h2
    refine br_f (ra_5f hj) (H.2.2 sv r j hr hj _ (br_c (fun e => H.2.2 sv q j hq hj _ (br_c (fun g => h1 ?_) (fun g => nm_r (nI_1 j) (h2 ?_)))) (fun e => nm_r (nI_1 j) (h2 ?_))))
    · rw [hf, ra_b_inj e, ra_b_inj g]; simp
    · have g' : ¬ M q j = β := fun z => g (congrArg ra_b z)
      rw [hf, ra_b_inj e]; simp [g']
    · have e' : ¬ M r j = α := fun z => e (congrArg ra_b z)
      rw [hf]; simp [e']
theorem ry_ov {c : Nat} {a1 a2 a3 a4 a5 a6 : Nat → Int32} {M : Nat → Nat → Bool} {A : Nat → Int32} (H : ra_OY c M A a1 a2 a3 a4 a5 a6) (sv : Nat → Int32) {r q : Nat} (hr : r < 10) (hq : q < 10) (post : Int32 → Prop) (hP : post (ra_b (ra_ov M q r))) : wpY_some post (nI c, a1, a2, a3, a4, a5, a6, sv) (nI r) 1 (nI q) 1 :=
  ry_sm H sv hr hq true true (ra_fov M q r) (fun p => by unfold ra_fov; cases M r p <;> cases M q p <;> rfl) post hP
theorem ry_xc {c : Nat} {a1 a2 a3 a4 a5 a6 : Nat → Int32} {M : Nat → Nat → Bool} {A : Nat → Int32} (H : ra_OY c M A a1 a2 a3 a4 a5 a6) (sv : Nat → Int32) {r q : Nat} (hr : r < 10) (hq : q < 10) (post : Int32 → Prop) (hP : post (ra_b (ra_xc M r q))) : wpY_some post (nI c, a1, a2, a3, a4, a5, a6, sv) (nI r) 1 (nI q) 0 :=
  ry_sm H sv hr hq true false (ra_fxc M r q) (fun p => by unfold ra_fxc; cases M r p <;> cases M q p <;> rfl) post hP
theorem ry_xd {c : Nat} {a1 a2 a3 a4 a5 a6 : Nat → Int32} {M : Nat → Nat → Bool} {A : Nat → Int32} (H : ra_OY c M A a1 a2 a3 a4 a5 a6) (sv : Nat → Int32) {r q : Nat} (hr : r < 10) (hq : q < 10) (post : Int32 → Prop) (hP : post (ra_b (ra_xc M q r))) : wpY_some post (nI c, a1, a2, a3, a4, a5, a6, sv) (nI r) 0 (nI q) 1 :=
  ry_sm H sv hr hq false true (ra_fxc M q r) (fun p => by unfold ra_fxc; cases M r p <;> cases M q p <;> rfl) post hP
theorem ry_cr {c : Nat} {a1 a2 a3 a4 a5 a6 : Nat → Int32} {M : Nat → Nat → Bool} {A : Nat → Int32} (H : ra_OY c M A a1 a2 a3 a4 a5 a6) (sv : Nat → Int32) {i : Nat} (hi : i < c) (post : Int32 → Prop) (hP : post (ra_b (ra_cr M A i))) : wpY_correlated post (nI c, a1, a2, a3, a4, a5, a6, sv) (nI i) := by
  have hc := H.1
  have hi10 : i < 10 := by omega
  have hin : vp_in (nI i) 11 := vp_in_nI (by omega) (by decide)
  have hA : a6 (nI i).toNatClampNeg = A i := by rw [nI_clamp (by omega)]; exact H.2.1 i hi10
  refine ⟨i + 1, ra_exb (fun n j => wY_correlated_2 post (nI i) (nI c) a1 a2 a3 a4 a5 a6 sv n (nI j)) (ra_fcr M A i) post i ?_ ?_ hP⟩
  · intro n h
    exact br_t (nI_le (Nat.le_refl i) (by omega)) h
  · intro n j hji h1 h2
    have hj : j < 10 := by omega
    have hB : a6 (nI j).toNatClampNeg = A j := by rw [nI_clamp (by omega)]; exact H.2.1 j hj
    refine br_f (nI_ge hji (by omega)) ⟨vp_in_nI (by omega) (by decide), hin, br_c (fun e => nm_r (nI_1 j) (h2 ?_)) (fun e => ry_ov H sv hi10 hj _ (ra_tb (fun b1 => nm_r (nI_1 j) (h2 ?_)) (fun b1 => ry_xc H sv hi10 hj _ (ra_tb (fun b2 => nm_r (nI_1 j) (h2 ?_)) (fun b2 => ry_xd H sv hi10 hj _ (ra_tb (fun b3 => nm_r (nI_1 j) (h2 ?_)) (fun b3 => h1 ?_)))))))⟩
    all_goals rw [hA, hB] at e
    · unfold ra_fcr; rw [decide_eq_true e]; rfl
    · unfold ra_fcr; rw [decide_eq_false e, b1]; rfl
    · unfold ra_fcr; rw [decide_eq_false e, b1, b2]; rfl
    · unfold ra_fcr; rw [decide_eq_false e, b1, b2, b3]; rfl
    · unfold ra_fcr; rw [decide_eq_false e, b1, b2, b3]; rfl
theorem ry_gn {c : Nat} {a1 a2 a3 a4 a5 a6 : Nat → Int32} {M : Nat → Nat → Bool} {A : Nat → Int32} (H : ra_OY c M A a1 a2 a3 a4 a5 a6) (sv : Nat → Int32) {i : Nat} (hi : i < c) (post : Int32 → Prop) (hP : post (ra_b (ra_gn M A i))) : wpY_general post (nI c, a1, a2, a3, a4, a5, a6, sv) (nI i) := by
  have hc := H.1
  have hi10 : i < 10 := by omega
  have hin : vp_in (nI i) 11 := vp_in_nI (by omega) (by decide)
  have hA : a6 (nI i).toNatClampNeg = A i := by rw [nI_clamp (by omega)]; exact H.2.1 i hi10
  refine ⟨i + 1, ra_exb (fun n j => wY_general_2 post (nI i) (nI c) a1 a2 a3 a4 a5 a6 sv n (nI j)) (ra_fgn M A i) post i ?_ ?_ hP⟩
  · intro n h
    exact br_t (nI_le (Nat.le_refl i) (by omega)) h
  · intro n j hji h1 h2
    have hj : j < 10 := by omega
    have hB : a6 (nI j).toNatClampNeg = A j := by rw [nI_clamp (by omega)]; exact H.2.1 j hj
    refine br_f (nI_ge hji (by omega)) ⟨vp_in_nI (by omega) (by decide), hin, br_c (fun e => nm_r (nI_1 j) (h2 ?_)) (fun e => ry_xd H sv hi10 hj _ (ra_tb (fun b1 => h1 ?_) (fun b1 => nm_r (nI_1 j) (h2 ?_))))⟩
    all_goals rw [hA, hB] at e
    · unfold ra_fgn; rw [decide_eq_true e]; rfl
    · unfold ra_fgn; rw [decide_eq_false e, b1]; rfl
    · unfold ra_fgn; rw [decide_eq_false e, b1]; rfl
theorem ry_fa0 {c : Nat} {a1 a2 a3 a4 a5 a6 sv : Nat → Int32} {x : Int32} (h : x < 0 ∨ nI c ≤ x) (post : Int32 → Prop) (hP : post (-1)) : wpY_fault post (nI c, a1, a2, a3, a4, a5, a6, sv) x := by
  unfold wpY_fault
  dsimp only
  exact ry_isr0 h _ (br_t rfl hP)
theorem ry_fa {c : Nat} {a1 a2 a3 a4 a5 a6 : Nat → Int32} {M : Nat → Nat → Bool} {A : Nat → Int32} (H : ra_OY c M A a1 a2 a3 a4 a5 a6) (sv : Nat → Int32) {i : Nat} (hi : i < c) (post : Int32 → Prop) (hP : post (ra_fa M A c i)) : wpY_fault post (nI c, a1, a2, a3, a4, a5, a6, sv) (nI i) := by
  unfold ra_fa at hP
  have hz : ra_so M c i = -3 ↔ ra_ow M c i = 0 := ra_sr_cn (ra_fo M c i)
  unfold wpY_fault
  dsimp only
  refine ry_isr1 H.1 hi _ (br_f ra_10 (ry_ow H sv hi _ (br_c (fun e => ry_ct H sv hi _ (ra_tb (fun b => ra_ev hP ?_) (fun b => ra_ev hP ?_))) (fun e => ry_ms H sv _ (ra_tb (fun b => ra_ev hP ?_) (fun b => ry_cr H sv hi _ (ra_tb (fun b2 => ry_gn H sv hi _ (ra_tb (fun b3 => ra_ev hP ?_) (fun b3 => ra_ev hP ?_))) (fun b2 => ra_ev hP ?_))))))))
  all_goals rw [← hz] at e
  · rw [decide_eq_true e, b]; rfl
  · rw [decide_eq_true e, b]; rfl
  · rw [decide_eq_false e, b]; cases ra_ct M A c i <;> cases ra_cr M A i <;> cases ra_gn M A i <;> rfl
  · rw [decide_eq_false e, b, b2, b3]; cases ra_ct M A c i <;> rfl
  · rw [decide_eq_false e, b, b2, b3]; cases ra_ct M A c i <;> rfl
  · rw [decide_eq_false e, b, b2]; cases ra_ct M A c i <;> cases ra_gn M A i <;> rfl
theorem ry_ch {c : Nat} {a1 a2 a3 a4 a5 a6 : Nat → Int32} {M : Nat → Nat → Bool} {A : Nat → Int32} (H : ra_OY c M A a1 a2 a3 a4 a5 a6) (sv : Nat → Int32) (post : Int32 → Prop) (hP : post (ra_cn (ra_fch M A c sv) 512 0 0)) : wpY_changed post (nI c, a1, a2, a3, a4, a5, a6, sv) := by
  refine ⟨513, ra_cnl (fun n j t => wY_changed_4 post (nI c) a1 a2 a3 a4 a5 a6 sv n t (nI j)) (ra_fch M A c sv) post 512 ?_ ?_ 512 0 0 rfl hP⟩
  · intro n t h
    exact br_t (ra_5t (Nat.le_refl _) (by decide)) h
  · intro n j t hj h1 h2
    refine br_f (ra_5f hj) (ry_dc H sv hj _ _ ⟨vp_in_nI hj (by decide), br_c (fun e => nm_r (nI_1 j) (h2 ?_)) (fun e => nm_e (nm_r (nI_1 j) (h1 ?_)))⟩)
    all_goals rw [nI_clamp (by omega)] at e
    · unfold ra_fch; rw [decide_eq_true e]; rfl
    · unfold ra_fch; rw [decide_eq_false e]; rfl
theorem ry_fc {c : Nat} {a1 a2 a3 a4 a5 a6 : Nat → Int32} {M : Nat → Nat → Bool} {A : Nat → Int32} (H : ra_OY c M A a1 a2 a3 a4 a5 a6) (sv : Nat → Int32) (post : Int32 → Prop) (hP : post (ra_sr (ra_fch M A c sv) 512 0)) : wpY_firstChanged post (nI c, a1, a2, a3, a4, a5, a6, sv) := by
  refine ⟨513, ra_srl (fun n j => wY_firstChanged_2 post (nI c) a1 a2 a3 a4 a5 a6 sv n (nI j)) (ra_fch M A c sv) post 512 ?_ ?_ 512 0 rfl hP⟩
  · intro n h
    exact br_t (ra_5t (Nat.le_refl _) (by decide)) h
  · intro n j hj h1 h2
    refine br_f (ra_5f hj) (ry_dc H sv hj _ _ ⟨vp_in_nI hj (by decide), br_c (fun e => nm_r (nI_1 j) (h2 ?_)) (fun e => h1 ?_)⟩)
    all_goals rw [nI_clamp (by omega)] at e
    · unfold ra_fch; rw [decide_eq_true e]; rfl
    · unfold ra_fch; rw [decide_eq_false e]; rfl
theorem ry_sv {c : Nat} {a1 a2 a3 a4 a5 a6 : Nat → Int32} {M : Nat → Nat → Bool} {A : Nat → Int32} (H : ra_OY c M A a1 a2 a3 a4 a5 a6) (post : Int32 → SY → Prop) : ∀ d j t s, j + d = 512 → post (ra_sm (ra_g M A c) d j t) (nI c, a1, a2, a3, a4, a5, a6, ra_sv (ra_g M A c) d j s) → wY_save_4 post (nI c)  (d + 1) t (nI j) a1 a2 a3 a4 a5 a6 s := by
  intro d
  induction d with
  | zero =>
    intro j t s hj hP
    exact br_t (ra_5t (by omega) (by omega)) hP
  | succ d ih =>
    intro j t s hj hP
    have hj5 : j < 512 := by omega
    have hcl : (nI j).toNatClampNeg = j := nI_clamp (by omega)
    have hin : vp_in (nI j) 512 := vp_in_nI hj5 (by decide)
    have hu : upd s j (ra_g M A c j) (nI j).toNatClampNeg = ra_g M A c j := by rw [hcl]; exact pk_us
    exact br_f (ra_5f hj5) (ry_dc H s hj5 _ _ ⟨hin, nm_r (congrArg (fun k => upd s k (ra_g M A c j)) hcl) ⟨hin, nm_r (congrArg (fun k => t + k) hu) (nm_r (nI_1 j) (ih (j + 1) _ _ (by omega) hP))⟩⟩)
theorem ry_save {c : Nat} {a1 a2 a3 a4 a5 a6 : Nat → Int32} {M : Nat → Nat → Bool} {A : Nat → Int32} (H : ra_OY c M A a1 a2 a3 a4 a5 a6) (sv : Nat → Int32) (hA : ra_Z A) (post : Int32 → SY → Prop) (hP : post (ra_cn (fun p => decide (ra_g M A c p = 1)) 512 0 0) (nI c, a1, a2, a3, a4, a5, a6, ra_sv (ra_g M A c) 512 0 sv)) : wpY_save post (nI c, a1, a2, a3, a4, a5, a6, sv) :=
  ⟨513, ry_sv H post 512 0 0 sv rfl (by rw [ra_sm_cn (ra_g M A c) (fun p => ra_dc01 H.1 hA p (-1))]; exact hP)⟩
theorem ry_cp {c : Nat} {a1 a2 a3 a4 a5 a6 sv : Nat → Int32} {x y : Int32} {r s : Nat} (hr : r < 11) (hs : s < 11) (ex : x = nI r) (ey : y = nI s) (post : SY → Prop) (hP : post (nI c, upd a1 s (a1 r), upd a2 s (a2 r), upd a3 s (a3 r), upd a4 s (a4 r), upd a5 s (a5 r), upd a6 s (a6 r), sv)) : wpY_copy post (nI c, a1, a2, a3, a4, a5, a6, sv) x y := by
  subst ex ey
  have hx : vp_in (nI r) 11 := vp_in_nI hr (by decide)
  have hy : vp_in (nI s) 11 := vp_in_nI hs (by decide)
  unfold wpY_copy
  dsimp only
  rw [nI_clamp (n := r) (by omega), nI_clamp (n := s) (by omega)]
  exact ⟨hx, hy, nm_e ⟨hx, hy, nm_e ⟨hx, hy, nm_e ⟨hx, hy, nm_e ⟨hx, hy, nm_e ⟨hx, hy, nm_e hP⟩⟩⟩⟩⟩⟩
theorem ry_inl {c : Nat} {sv : Nat → Int32} {w : Nat} (act : Int32) (post : Int32 → SY → Prop) : ∀ d (a1 a2 a3 a4 a5 a6 : Nat → Int32), w + d < 10 → post (nI (c + 1)) (nI (c + 1), upd (ra_in w d a1) w (ra_in w d a1 10), upd (ra_in w d a2) w (ra_in w d a2 10), upd (ra_in w d a3) w (ra_in w d a3 10), upd (ra_in w d a4) w (ra_in w d a4 10), upd (ra_in w d a5) w (ra_in w d a5 10), upd (upd (ra_in w d a6) w (ra_in w d a6 10)) w act, sv) → wY_insert_40 post (nI w) act (d + 1) (nI (w + d)) (nI c) a1 a2 a3 a4 a5 a6 sv := by
  intro d
  induction d with
  | zero =>
    intro a1 a2 a3 a4 a5 a6 hd hP
    have hcl : (nI w).toNatClampNeg = w := nI_clamp (by omega)
    exact br_t (nI_le (by omega) (by omega)) (ry_cp (r := 10) (s := w) (by omega) (by omega) rfl rfl _ ⟨vp_in_nI (by omega) (by decide), nm_r (congrArg (fun k => upd (upd a6 w (a6 10)) k act) hcl) (nm_r (nI_1 c) hP)⟩)
  | succ d ih =>
    intro a1 a2 a3 a4 a5 a6 hd hP
    exact br_f (nI_ge (by omega) (by omega)) (ry_cp (r := w + d) (s := w + d + 1) (by omega) (by omega) (nI_pred (w + d)) rfl _ (nm_r (pk_m1 (w + d)) (ih _ _ _ _ _ _ (by omega) hP)))
theorem ry_rml {c : Nat} {sv : Nat → Int32} (hc : c < 10) (post : Int32 → SY → Prop) : ∀ d k (a1 a2 a3 a4 a5 a6 : Nat → Int32), k + d = c → post (nI c) (nI c, ra_rm d k a1, ra_rm d k a2, ra_rm d k a3, ra_rm d k a4, ra_rm d k a5, ra_rm d k a6, sv) → wY_remove_12 post (d + 1) (nI k) (nI (c + 1)) a1 a2 a3 a4 a5 a6 sv := by
  intro d
  induction d with
  | zero =>
    intro k a1 a2 a3 a4 a5 a6 hd hP
    exact br_t (by rw [nI_pred]; exact nI_le (by omega) (by omega)) (nm_r (nI_pred c) hP)
  | succ d ih =>
    intro k a1 a2 a3 a4 a5 a6 hd hP
    exact br_f (by rw [nI_pred]; exact nI_ge (by omega) (by omega)) (ry_cp (r := k + 1) (s := k) (by omega) (by omega) (nI_1 k) rfl _ (nm_r (nI_1 k) (ih (k + 1) _ _ _ _ _ _ (by omega) hP)))
