/-- side X shows the pure picture: M for its matches, A for its actions -/
def ra_OX (c : Nat) (M : Nat → Nat → Bool) (A : Nat → Int32) (e1 e2 e3 e4 e5 : Int32) (a1 a2 a3 a4 a5 a6 : Nat → Int32) : Prop :=
  c ≤ 10 ∧ (∀ r, r < 10 → a6 r = A r) ∧ ∀ (sv : Nat → Int32) (r p : Nat), r < 10 → p < 512 → ∀ post : Int32 → Prop, post (ra_b (M r p)) → wpX_matches post (nI c, e1, e2, e3, e4, e5, a1, a2, a3, a4, a5, a6, sv) (nI r) (nI p)
theorem rx_mt {c : Nat} {e1 e2 e3 e4 e5 : Int32} {a1 a2 a3 a4 a5 a6 sv : Nat → Int32} {r p : Nat} (hr : r < 10) (hp : p < 512) (post : Int32 → Prop) (hP : post (ra_b (ra_M a1 a2 a3 a4 a5 r p))) : wpX_matches post (nI c, e1, e2, e3, e4, e5, a1, a2, a3, a4, a5, a6, sv) (nI r) (nI p) := by
  have hin : vp_in (nI r) 10 := vp_in_nI (by omega) (by decide)
  have hcl : (nI r).toNatClampNeg = r := nI_clamp (by omega)
  unfold wpX_matches
  dsimp only
  rw [hcl]
  exact ⟨by decide, nm_r (ra_xs hp) ⟨by decide, by decide, nm_r (ra_xd hp) ⟨by decide, nm_r (ra_xq hp) ⟨hin, ra_ml _ hin hP⟩⟩⟩⟩
theorem rx_isr0 {c : Nat} {e1 e2 e3 e4 e5 : Int32} {a1 a2 a3 a4 a5 a6 sv : Nat → Int32} {x : Int32} (h : x < 0 ∨ nI c ≤ x) (post : Int32 → Prop) (hP : post 0) : wpX_isRule post (nI c, e1, e2, e3, e4, e5, a1, a2, a3, a4, a5, a6, sv) x := by
  unfold wpX_isRule
  dsimp only
  by_cases h0 : x < 0
  · exact br_t h0 hP
  · exact br_f h0 (br_t (h.resolve_left h0) hP)
theorem rx_isr1 {c : Nat} {e1 e2 e3 e4 e5 : Int32} {a1 a2 a3 a4 a5 a6 sv : Nat → Int32} {i : Nat} (hc : c ≤ 10) (hi : i < c) (post : Int32 → Prop) (hP : post 1) : wpX_isRule post (nI c, e1, e2, e3, e4, e5, a1, a2, a3, a4, a5, a6, sv) (nI i) := by
  unfold wpX_isRule
  dsimp only
  exact br_f (nI_pos (by omega)) (br_f (nI_ge hi (by omega)) hP)
theorem rx_fm {c : Nat} {e1 e2 e3 e4 e5 : Int32} {a1 a2 a3 a4 a5 a6 : Nat → Int32} {M : Nat → Nat → Bool} {A : Nat → Int32} (H : ra_OX c M A e1 e2 e3 e4 e5 a1 a2 a3 a4 a5 a6) (sv : Nat → Int32) {p : Nat} (hp : p < 512) (lo : Int32) (post : Int32 → Prop) (hP : post (ra_fp M c p lo)) : wpX_firstMatch post (nI c, e1, e2, e3, e4, e5, a1, a2, a3, a4, a5, a6, sv) (nI p) lo := by
  have hc := H.1
  refine ⟨c + 1, ra_fml (fun n j => wX_firstMatch_2 post (nI p) lo (nI c) e1 e2 e3 e4 e5 a1 a2 a3 a4 a5 a6 sv n (nI j)) (fun j => M j p) lo post c ?_ ?_ c 0 (Nat.zero_add c) hP⟩
  · intro n h
    exact br_t (nI_le (Nat.le_refl c) (by omega)) h
  · intro n j hj h1 h2 h3
    refine br_f (nI_ge hj (by omega)) (br_c (fun e => nm_r (nI_1 j) (h1 e)) (fun e => H.2.2 sv j p (by omega) hp _ (ra_tb (fun b => nm_r (nI_1 j) (h3 e b)) (fun b => h2 e b))))
theorem rx_dc {c : Nat} {e1 e2 e3 e4 e5 : Int32} {a1 a2 a3 a4 a5 a6 : Nat → Int32} {M : Nat → Nat → Bool} {A : Nat → Int32} (H : ra_OX c M A e1 e2 e3 e4 e5 a1 a2 a3 a4 a5 a6) (sv : Nat → Int32) {p : Nat} (hp : p < 512) (lo : Int32) (post : Int32 → Prop) (hP : post (ra_dc M A c p lo)) : wpX_decision post (nI c, e1, e2, e3, e4, e5, a1, a2, a3, a4, a5, a6, sv) (nI p) lo := by
  have hc := H.1
  unfold wpX_decision
  dsimp only
  refine rx_fm H sv hp lo _ ?_
  rcases ra_fp_or M c p lo with h | ⟨i, hi, h⟩
  · exact br_t h (ra_ev hP (if_pos h))
  · refine br_f (by rw [h]; exact ra_n3 i (by omega)) ⟨by rw [h]; exact vp_in_nI (by omega) (by decide), ra_ev hP ?_⟩
    unfold ra_dc
    rw [h, if_neg (ra_n3 i (by omega)), nI_clamp (by omega)]
    exact (H.2.1 i (by omega)).symm

theorem rx_ow0 {c : Nat} {e1 e2 e3 e4 e5 : Int32} {a1 a2 a3 a4 a5 a6 sv : Nat → Int32} {x : Int32} (h : x < 0 ∨ nI c ≤ x) (post : Int32 → Prop) (hP : post (-1)) : wpX_owned post (nI c, e1, e2, e3, e4, e5, a1, a2, a3, a4, a5, a6, sv) x := by
  unfold wpX_owned
  dsimp only
  exact rx_isr0 h _ (br_t rfl hP)
theorem rx_ow {c : Nat} {e1 e2 e3 e4 e5 : Int32} {a1 a2 a3 a4 a5 a6 : Nat → Int32} {M : Nat → Nat → Bool} {A : Nat → Int32} (H : ra_OX c M A e1 e2 e3 e4 e5 a1 a2 a3 a4 a5 a6) (sv : Nat → Int32) {i : Nat} (hi : i < c) (post : Int32 → Prop) (hP : post (ra_ow M c i)) : wpX_owned post (nI c, e1, e2, e3, e4, e5, a1, a2, a3, a4, a5, a6, sv) (nI i) := by
  unfold wpX_owned
  dsimp only
  refine rx_isr1 H.1 hi _ (br_f ra_10 ⟨513, ra_cnl (fun n j t => wX_owned_14 post (nI i) (nI c) e1 e2 e3 e4 e5 a1 a2 a3 a4 a5 a6 sv n t (nI j)) (ra_fo M c i) post 512 ?_ ?_ 512 0 0 rfl hP⟩)
  · intro n t h
    exact br_t (ra_5t (Nat.le_refl _) (by decide)) h
  · intro n j t hj h1 h2
    exact br_f (ra_5f hj) (rx_fm H sv hj _ _ (br_c (fun e => nm_e (nm_r (nI_1 j) (h1 (decide_eq_true e)))) (fun e => nm_r (nI_1 j) (h2 (decide_eq_false e)))))
theorem rx_sol {c : Nat} {e1 e2 e3 e4 e5 : Int32} {a1 a2 a3 a4 a5 a6 : Nat → Int32} {M : Nat → Nat → Bool} {A : Nat → Int32} (H : ra_OX c M A e1 e2 e3 e4 e5 a1 a2 a3 a4 a5 a6) (sv : Nat → Int32) {i : Nat} (post : Int32 → Prop) (hP : post (ra_so M c i)) : wX_smallestOwned_2 post (nI i) (nI c) e1 e2 e3 e4 e5 a1 a2 a3 a4 a5 a6 sv 513 0 := by
  refine ra_srl (fun n j => wX_smallestOwned_2 post (nI i) (nI c) e1 e2 e3 e4 e5 a1 a2 a3 a4 a5 a6 sv n (nI j)) (ra_fo M c i) post 512 ?_ ?_ 512 0 rfl hP
  · intro n h
    exact br_t (ra_5t (Nat.le_refl _) (by decide)) h
  · intro n j hj h1 h2
    exact br_f (ra_5f hj) (rx_fm H sv hj _ _ (br_c (fun e => h1 (decide_eq_true e)) (fun e => nm_r (nI_1 j) (h2 (decide_eq_false e)))))
theorem rx_so {c : Nat} {e1 e2 e3 e4 e5 : Int32} {a1 a2 a3 a4 a5 a6 : Nat → Int32} {M : Nat → Nat → Bool} {A : Nat → Int32} (H : ra_OX c M A e1 e2 e3 e4 e5 a1 a2 a3 a4 a5 a6) (sv : Nat → Int32) {i : Nat} (post : Int32 → Prop) (hP : post (ra_so M c i)) : wpX_smallestOwned post (nI c, e1, e2, e3, e4, e5, a1, a2, a3, a4, a5, a6, sv) (nI i) := ⟨513, rx_sol H sv post hP⟩
theorem rx_fo0 {c : Nat} {e1 e2 e3 e4 e5 : Int32} {a1 a2 a3 a4 a5 a6 sv : Nat → Int32} {x : Int32} (h : x < 0 ∨ nI c ≤ x) (post : Int32 → Prop) (hP : post (-1)) : wpX_firstOwned post (nI c, e1, e2, e3, e4, e5, a1, a2, a3, a4, a5, a6, sv) x := by
  unfold wpX_firstOwned
  dsimp only
  exact rx_isr0 h _ (br_t rfl hP)
theorem rx_fo {c : Nat} {e1 e2 e3 e4 e5 : Int32} {a1 a2 a3 a4 a5 a6 : Nat → Int32} {M : Nat → Nat → Bool} {A : Nat → Int32} (H : ra_OX c M A e1 e2 e3 e4 e5 a1 a2 a3 a4 a5 a6) (sv : Nat → Int32) {i : Nat} (hi : i < c) (post : Int32 → Prop) (hP : post (ra_so M c i)) : wpX_firstOwned post (nI c, e1, e2, e3, e4, e5, a1, a2, a3, a4, a5, a6, sv) (nI i) := by
  unfold wpX_firstOwned
  dsimp only
  exact rx_isr1 H.1 hi _ (br_f ra_10 (rx_so H sv _ hP))
theorem rx_ct {c : Nat} {e1 e2 e3 e4 e5 : Int32} {a1 a2 a3 a4 a5 a6 : Nat → Int32} {M : Nat → Nat → Bool} {A : Nat → Int32} (H : ra_OX c M A e1 e2 e3 e4 e5 a1 a2 a3 a4 a5 a6) (sv : Nat → Int32) {i : Nat} (hi : i < c) (post : Int32 → Prop) (hP : post (ra_b (ra_ct M A c i))) : wpX_isContradicted post (nI c, e1, e2, e3, e4, e5, a1, a2, a3, a4, a5, a6, sv) (nI i) := by
  have hc := H.1
  have hin : vp_in (nI i) 10 := vp_in_nI (by omega) (by decide)
  have hA : a6 (nI i).toNatClampNeg = A i := by rw [nI_clamp (by omega)]; exact H.2.1 i (by omega)
  refine ⟨513, ra_exb (fun n j => wX_isContradicted_2 post (nI i) (nI c) e1 e2 e3 e4 e5 a1 a2 a3 a4 a5 a6 sv n (nI j)) (ra_fct M A c i) post 512 ?_ ?_ hP⟩
  · intro n h
    exact br_t (ra_5t (Nat.le_refl _) (by decide)) h
  · intro n j hj h1 h2
    refine br_f (ra_5f hj) (H.2.2 sv i j (by omega) hj _ (ra_tb (fun b => nm_r (nI_1 j) (h2 (by unfold ra_fct; rw [b]; rfl))) (fun b => rx_dc H sv hj _ _ ⟨hin, br_c (fun e => nm_r (nI_1 j) (h2 ?_)) (fun e => h1 ?_)⟩)))
    · rw [hA] at e
      unfold ra_fct; rw [b, decide_eq_true e]; rfl
    · rw [hA] at e
      unfold ra_fct; rw [b, decide_eq_false e]; rfl
theorem rx_rd {c : Nat} {e1 e2 e3 e4 e5 : Int32} {a1 a2 a3 a4 a5 a6 : Nat → Int32} {M : Nat → Nat → Bool} {A : Nat → Int32} (H : ra_OX c M A e1 e2 e3 e4 e5 a1 a2 a3 a4 a5 a6) (sv : Nat → Int32) {i : Nat} (post : Int32 → Prop) (hP : post (ra_b (!ra_ms M A c i))) : wpX_isRedundant post (nI c, e1, e2, e3, e4, e5, a1, a2, a3, a4, a5, a6, sv) (nI i) := by
  refine ⟨513, ra_exl (fun n j => wX_isRedundant_2 post (nI i) (nI c) e1 e2 e3 e4 e5 a1 a2 a3 a4 a5 a6 sv n (nI j)) (ra_fms M A c i) (post 0) (post 1) 512 ?_ ?_ 512 0 rfl (fun h => ra_ev hP (by unfold ra_ms; rw [h]; rfl)) (fun h => ra_ev hP (by unfold ra_ms; rw [h]; rfl))⟩
  · intro n h
    exact br_t (ra_5t (Nat.le_refl _) (by decide)) h
  · intro n j hj h1 h2
    refine br_f (ra_5f hj) (rx_dc H sv hj _ _ (rx_dc H sv hj _ _ (br_c (fun e => nm_r (nI_1 j) (h2 ?_)) (fun e => h1 ?_))))
    · unfold ra_fms; rw [decide_eq_true e]; rfl
    · unfold ra_fms; rw [decide_eq_false e]; rfl
theorem rx_ov {c : Nat} {e1 e2 e3 e4 e5 : Int32} {a1 a2 a3 a4 a5 a6 : Nat → Int32} {M : Nat → Nat → Bool} {A : Nat → Int32} (H : ra_OX c M A e1 e2 e3 e4 e5 a1 a2 a3 a4 a5 a6) (sv : Nat → Int32) {r q : Nat} (hr : r < 10) (hq : q < 10) (post : Int32 → Prop) (hP : post (ra_b (ra_ov M r q))) : wpX_overlaps post (nI c, e1, e2, e3, e4, e5, a1, a2, a3, a4, a5, a6, sv) (nI r) (nI q) := by
  refine ⟨513, ra_exb (fun n j => wX_overlaps_2 post (nI r) (nI q) (nI c) e1 e2 e3 e4 e5 a1 a2 a3 a4 a5 a6 sv n (nI j)) (ra_fov M r q) post 512 ?_ ?_ hP⟩
  · intro n h
    exact br_t (ra_5t (Nat.le_refl _) (by decide)) h
  · intro n j hj h1 h2
    exact br_f (ra_5f hj) (H.2.2 sv r j hr hj _ (ra_tb (fun b => nm_r (nI_1 j) (h2 (by unfold ra_fov; rw [b]; rfl))) (fun b => H.2.2 sv q j hq hj _ (ra_tb (fun d => nm_r (nI_1 j) (h2 (by unfold ra_fov; rw [b, d]; rfl))) (fun d => h1 (by unfold ra_fov; rw [b, d]; rfl))))))
theorem rx_xc {c : Nat} {e1 e2 e3 e4 e5 : Int32} {a1 a2 a3 a4 a5 a6 : Nat → Int32} {M : Nat → Nat → Bool} {A : Nat → Int32} (H : ra_OX c M A e1 e2 e3 e4 e5 a1 a2 a3 a4 a5 a6) (sv : Nat → Int32) {r q : Nat} (hr : r < 10) (hq : q < 10) (post : Int32 → Prop) (hP : post (ra_b (ra_xc M r q))) : wpX_exceeds post (nI c, e1, e2, e3, e4, e5, a1, a2, a3, a4, a5, a6, sv) (nI r) (nI q) := by
  refine ⟨513, ra_exb (fun n j => wX_exceeds_2 post (nI r) (nI q) (nI c) e1 e2 e3 e4 e5 a1 a2 a3 a4 a5 a6 sv n (nI j)) (ra_fxc M r q) post 512 ?_ ?_ hP⟩
  · intro n h
    exact br_t (ra_5t (Nat.le_refl _) (by decide)) h
  · intro n j hj h1 h2
    exact br_f (ra_5f hj) (H.2.2 sv r j hr hj _ (ra_tb (fun b => nm_r (nI_1 j) (h2 (by unfold ra_fxc; rw [b]; rfl))) (fun b => H.2.2 sv q j hq hj _ (ra_tb (fun d => h1 (by unfold ra_fxc; rw [b, d]; rfl)) (fun d => nm_r (nI_1 j) (h2 (by unfold ra_fxc; rw [b, d]; rfl)))))))
theorem rx_cr {c : Nat} {e1 e2 e3 e4 e5 : Int32} {a1 a2 a3 a4 a5 a6 : Nat → Int32} {M : Nat → Nat → Bool} {A : Nat → Int32} (H : ra_OX c M A e1 e2 e3 e4 e5 a1 a2 a3 a4 a5 a6) (sv : Nat → Int32) {i : Nat} (hi : i < c) (post : Int32 → Prop) (hP : post (ra_b (ra_cr M A i))) : wpX_isCorrelated post (nI c, e1, e2, e3, e4, e5, a1, a2, a3, a4, a5, a6, sv) (nI i) := by
  have hc := H.1
  have hi10 : i < 10 := by omega
  have hin : vp_in (nI i) 10 := vp_in_nI (by omega) (by decide)
  have hA : a6 (nI i).toNatClampNeg = A i := by rw [nI_clamp (by omega)]; exact H.2.1 i hi10
  refine ⟨i + 1, ra_exb (fun n j => wX_isCorrelated_2 post (nI i) (nI c) e1 e2 e3 e4 e5 a1 a2 a3 a4 a5 a6 sv n (nI j)) (ra_fcr M A i) post i ?_ ?_ hP⟩
  · intro n h
    exact br_t (nI_le (Nat.le_refl i) (by omega)) h
  · intro n j hji h1 h2
    have hj : j < 10 := by omega
    have hB : a6 (nI j).toNatClampNeg = A j := by rw [nI_clamp (by omega)]; exact H.2.1 j hj
    refine br_f (nI_ge hji (by omega)) ⟨vp_in_nI (by omega) (by decide), hin, br_c (fun e => nm_r (nI_1 j) (h2 ?_)) (fun e => rx_ov H sv hj hi10 _ (ra_tb (fun b1 => nm_r (nI_1 j) (h2 ?_)) (fun b1 => rx_xc H sv hi10 hj _ (ra_tb (fun b2 => nm_r (nI_1 j) (h2 ?_)) (fun b2 => rx_xc H sv hj hi10 _ (ra_tb (fun b3 => nm_r (nI_1 j) (h2 ?_)) (fun b3 => h1 ?_)))))))⟩
    all_goals rw [hA, hB] at e
    · unfold ra_fcr; rw [decide_eq_true e]; rfl
    · unfold ra_fcr; rw [decide_eq_false e, b1]; rfl
    · unfold ra_fcr; rw [decide_eq_false e, b1, b2]; rfl
    · unfold ra_fcr; rw [decide_eq_false e, b1, b2, b3]; rfl
    · unfold ra_fcr; rw [decide_eq_false e, b1, b2, b3]; rfl
theorem rx_gn {c : Nat} {e1 e2 e3 e4 e5 : Int32} {a1 a2 a3 a4 a5 a6 : Nat → Int32} {M : Nat → Nat → Bool} {A : Nat → Int32} (H : ra_OX c M A e1 e2 e3 e4 e5 a1 a2 a3 a4 a5 a6) (sv : Nat → Int32) {i : Nat} (hi : i < c) (post : Int32 → Prop) (hP : post (ra_b (ra_gn M A i))) : wpX_isGeneral post (nI c, e1, e2, e3, e4, e5, a1, a2, a3, a4, a5, a6, sv) (nI i) := by
  have hc := H.1
  have hi10 : i < 10 := by omega
  have hin : vp_in (nI i) 10 := vp_in_nI (by omega) (by decide)
  have hA : a6 (nI i).toNatClampNeg = A i := by rw [nI_clamp (by omega)]; exact H.2.1 i hi10
  refine ⟨i + 1, ra_exb (fun n j => wX_isGeneral_2 post (nI i) (nI c) e1 e2 e3 e4 e5 a1 a2 a3 a4 a5 a6 sv n (nI j)) (ra_fgn M A i) post i ?_ ?_ hP⟩
  · intro n h
    exact br_t (nI_le (Nat.le_refl i) (by omega)) h
  · intro n j hji h1 h2
    have hj : j < 10 := by omega
    have hB : a6 (nI j).toNatClampNeg = A j := by rw [nI_clamp (by omega)]; exact H.2.1 j hj
    refine br_f (nI_ge hji (by omega)) ⟨vp_in_nI (by omega) (by decide), hin, br_c (fun e => nm_r (nI_1 j) (h2 ?_)) (fun e => rx_xc H sv hj hi10 _ (ra_tb (fun b1 => h1 ?_) (fun b1 => nm_r (nI_1 j) (h2 ?_))))⟩
    all_goals rw [hA, hB] at e
    · unfold ra_fgn; rw [decide_eq_true e]; rfl
    · unfold ra_fgn; rw [decide_eq_false e, b1]; rfl
    · unfold ra_fgn; rw [decide_eq_false e, b1]; rfl
theorem rx_fa0 {c : Nat} {e1 e2 e3 e4 e5 : Int32} {a1 a2 a3 a4 a5 a6 sv : Nat → Int32} {x : Int32} (h : x < 0 ∨ nI c ≤ x) (post : Int32 → Prop) (hP : post (-1)) : wpX_fault post (nI c, e1, e2, e3, e4, e5, a1, a2, a3, a4, a5, a6, sv) x := by
  unfold wpX_fault
  dsimp only
  exact rx_isr0 h _ (br_t rfl hP)
theorem rx_fa {c : Nat} {e1 e2 e3 e4 e5 : Int32} {a1 a2 a3 a4 a5 a6 : Nat → Int32} {M : Nat → Nat → Bool} {A : Nat → Int32} (H : ra_OX c M A e1 e2 e3 e4 e5 a1 a2 a3 a4 a5 a6) (sv : Nat → Int32) {i : Nat} (hi : i < c) (post : Int32 → Prop) (hP : post (ra_fa M A c i)) : wpX_fault post (nI c, e1, e2, e3, e4, e5, a1, a2, a3, a4, a5, a6, sv) (nI i) := by
  unfold ra_fa at hP
  unfold wpX_fault
  dsimp only
  refine rx_isr1 H.1 hi _ (br_f ra_10 (rx_so H sv _ (br_c (fun e => rx_ct H sv hi _ (ra_tb (fun b => ra_ev hP ?_) (fun b => ra_ev hP ?_))) (fun e => rx_rd H sv _ (ra_tb (fun b => rx_cr H sv hi _ (ra_tb (fun b2 => rx_gn H sv hi _ (ra_tb (fun b3 => ra_ev hP ?_) (fun b3 => ra_ev hP ?_))) (fun b2 => ra_ev hP ?_))) (fun b => ra_ev hP ?_))))))
  · rw [decide_eq_true e, b]; rfl
  · rw [decide_eq_true e, b]; rfl
  · have b' : ra_ms M A c i = true := by cases hb : ra_ms M A c i with
      | true => rfl
      | false => rw [hb] at b; exact absurd b (by decide)
    rw [decide_eq_false e, b', b2, b3]; cases ra_ct M A c i <;> rfl
  · have b' : ra_ms M A c i = true := by cases hb : ra_ms M A c i with
      | true => rfl
      | false => rw [hb] at b; exact absurd b (by decide)
    rw [decide_eq_false e, b', b2, b3]; cases ra_ct M A c i <;> rfl
  · have b' : ra_ms M A c i = true := by cases hb : ra_ms M A c i with
      | true => rfl
      | false => rw [hb] at b; exact absurd b (by decide)
    rw [decide_eq_false e, b', b2]; cases ra_ct M A c i <;> cases ra_gn M A i <;> rfl
  · have b' : ra_ms M A c i = false := by cases hb : ra_ms M A c i with
      | false => rfl
      | true => rw [hb] at b; exact absurd b (by decide)
    rw [decide_eq_false e, b']; cases ra_ct M A c i <;> cases ra_cr M A i <;> cases ra_gn M A i <;> rfl
theorem rx_ch {c : Nat} {e1 e2 e3 e4 e5 : Int32} {a1 a2 a3 a4 a5 a6 : Nat → Int32} {M : Nat → Nat → Bool} {A : Nat → Int32} (H : ra_OX c M A e1 e2 e3 e4 e5 a1 a2 a3 a4 a5 a6) (sv : Nat → Int32) (post : Int32 → Prop) (hP : post (ra_cn (ra_fch M A c sv) 512 0 0)) : wpX_changed post (nI c, e1, e2, e3, e4, e5, a1, a2, a3, a4, a5, a6, sv) := by
  refine ⟨513, ra_cnl (fun n j t => wX_changed_4 post (nI c) e1 e2 e3 e4 e5 a1 a2 a3 a4 a5 a6 sv n t (nI j)) (ra_fch M A c sv) post 512 ?_ ?_ 512 0 0 rfl hP⟩
  · intro n t h
    exact br_t (ra_5t (Nat.le_refl _) (by decide)) h
  · intro n j t hj h1 h2
    refine br_f (ra_5f hj) (rx_dc H sv hj _ _ ⟨vp_in_nI hj (by decide), br_c (fun e => nm_r (nI_1 j) (h2 ?_)) (fun e => nm_e (nm_r (nI_1 j) (h1 ?_)))⟩)
    all_goals rw [nI_clamp (by omega)] at e
    · unfold ra_fch; rw [decide_eq_true e]; rfl
    · unfold ra_fch; rw [decide_eq_false e]; rfl
theorem rx_fc {c : Nat} {e1 e2 e3 e4 e5 : Int32} {a1 a2 a3 a4 a5 a6 : Nat → Int32} {M : Nat → Nat → Bool} {A : Nat → Int32} (H : ra_OX c M A e1 e2 e3 e4 e5 a1 a2 a3 a4 a5 a6) (sv : Nat → Int32) (post : Int32 → Prop) (hP : post (ra_sr (ra_fch M A c sv) 512 0)) : wpX_firstChanged post (nI c, e1, e2, e3, e4, e5, a1, a2, a3, a4, a5, a6, sv) := by
  refine ⟨513, ra_srl (fun n j => wX_firstChanged_2 post (nI c) e1 e2 e3 e4 e5 a1 a2 a3 a4 a5 a6 sv n (nI j)) (ra_fch M A c sv) post 512 ?_ ?_ 512 0 rfl hP⟩
  · intro n h
    exact br_t (ra_5t (Nat.le_refl _) (by decide)) h
  · intro n j hj h1 h2
    refine br_f (ra_5f hj) (rx_dc H sv hj _ _ ⟨vp_in_nI hj (by decide), br_c (fun e => nm_r (nI_1 j) (h2 ?_)) (fun e => h1 ?_)⟩)
    all_goals rw [nI_clamp (by omega)] at e
    · unfold ra_fch; rw [decide_eq_true e]; rfl
    · unfold ra_fch; rw [decide_eq_false e]; rfl
theorem rx_sv {c : Nat} {e1 e2 e3 e4 e5 : Int32} {a1 a2 a3 a4 a5 a6 : Nat → Int32} {M : Nat → Nat → Bool} {A : Nat → Int32} (H : ra_OX c M A e1 e2 e3 e4 e5 a1 a2 a3 a4 a5 a6) (post : Int32 → SX → Prop) : ∀ d j t s, j + d = 512 → post (ra_cn (fun p => decide (ra_g M A c p = 1)) d j t) (nI c, e1, e2, e3, e4, e5, a1, a2, a3, a4, a5, a6, ra_sv (ra_g M A c) d j s) → wX_save_4 post (nI c) e1 e2 e3 e4 e5 (d + 1) t (nI j) a1 a2 a3 a4 a5 a6 s := by
  intro d
  induction d with
  | zero =>
    intro j t s hj hP
    exact br_t (ra_5t (by omega) (by omega)) hP
  | succ d ih =>
    intro j t s hj hP
    have hj5 : j < 512 := by omega
    have hcl : (nI j).toNatClampNeg = j := nI_clamp (by omega)
    have hin : vp_in (nI j) 512 := vp_in_nI hj5 (by decide)
    have hu : upd s j (ra_g M A c j) (nI j).toNatClampNeg = ra_g M A c j := by rw [hcl]; exact pk_us
    refine br_f (ra_5f hj5) (rx_dc H s hj5 _ _ ⟨hin, nm_r (congrArg (fun k => upd s k (ra_g M A c j)) hcl) ⟨hin, br_c (fun e => nm_e (nm_r (nI_1 j) (ih (j + 1) (t + 1) _ (by omega) ?_))) (fun e => nm_r (nI_1 j) (ih (j + 1) t _ (by omega) ?_))⟩⟩)
    all_goals rw [hu] at e
    · unfold ra_cn at hP; rw [if_pos (decide_eq_true e)] at hP; exact hP
    · unfold ra_cn at hP; rw [if_neg (fun z => e (of_decide_eq_true z))] at hP; exact hP
theorem rx_save {c : Nat} {e1 e2 e3 e4 e5 : Int32} {a1 a2 a3 a4 a5 a6 : Nat → Int32} {M : Nat → Nat → Bool} {A : Nat → Int32} (H : ra_OX c M A e1 e2 e3 e4 e5 a1 a2 a3 a4 a5 a6) (sv : Nat → Int32) (post : Int32 → SX → Prop) (hP : post (ra_cn (fun p => decide (ra_g M A c p = 1)) 512 0 0) (nI c, e1, e2, e3, e4, e5, a1, a2, a3, a4, a5, a6, ra_sv (ra_g M A c) 512 0 sv)) : wpX_save post (nI c, e1, e2, e3, e4, e5, a1, a2, a3, a4, a5, a6, sv) :=
  ⟨513, rx_sv H post 512 0 0 sv rfl hP⟩
theorem rx_cp {c : Nat} {e1 e2 e3 e4 e5 : Int32} {a1 a2 a3 a4 a5 a6 sv : Nat → Int32} {x y : Int32} {r s : Nat} (hr : r < 10) (hs : s < 10) (ex : x = nI r) (ey : y = nI s) (post : SX → Prop) (hP : post (nI c, e1, e2, e3, e4, e5, upd a1 s (a1 r), upd a2 s (a2 r), upd a3 s (a3 r), upd a4 s (a4 r), upd a5 s (a5 r), upd a6 s (a6 r), sv)) : wpX_copyRule post (nI c, e1, e2, e3, e4, e5, a1, a2, a3, a4, a5, a6, sv) x y := by
  subst ex ey
  have hx : vp_in (nI r) 10 := vp_in_nI hr (by decide)
  have hy : vp_in (nI s) 10 := vp_in_nI hs (by decide)
  unfold wpX_copyRule
  dsimp only
  rw [nI_clamp (n := r) (by omega), nI_clamp (n := s) (by omega)]
  exact ⟨hx, hy, nm_e ⟨hx, hy, nm_e ⟨hx, hy, nm_e ⟨hx, hy, nm_e ⟨hx, hy, nm_e ⟨hx, hy, nm_e hP⟩⟩⟩⟩⟩⟩
theorem rx_pd {c : Nat} {e1 e2 e3 e4 e5 : Int32} {a1 a2 a3 a4 a5 a6 sv : Nat → Int32} {s : Nat} (hs : s < 10) (act : Int32) (post : SX → Prop) (hP : post (nI c, e1, e2, e3, e4, e5, upd a1 s e1, upd a2 s e2, upd a3 s e3, upd a4 s e4, upd a5 s e5, upd a6 s act, sv)) : wpX_placeDraft post (nI c, e1, e2, e3, e4, e5, a1, a2, a3, a4, a5, a6, sv) (nI s) act := by
  have hx : vp_in (nI s) 10 := vp_in_nI hs (by decide)
  unfold wpX_placeDraft
  dsimp only
  rw [nI_clamp (n := s) (by omega)]
  exact ⟨hx, nm_e ⟨hx, nm_e ⟨hx, nm_e ⟨hx, nm_e ⟨hx, nm_e ⟨hx, nm_e hP⟩⟩⟩⟩⟩⟩
theorem rx_inl {c : Nat} {e1 e2 e3 e4 e5 : Int32} {sv : Nat → Int32} {w : Nat} (act : Int32) (post : Int32 → SX → Prop) : ∀ d (a1 a2 a3 a4 a5 a6 : Nat → Int32), w + d < 10 → post (nI (c + 1)) (nI (c + 1), e1, e2, e3, e4, e5, upd (ra_in w d a1) w e1, upd (ra_in w d a2) w e2, upd (ra_in w d a3) w e3, upd (ra_in w d a4) w e4, upd (ra_in w d a5) w e5, upd (ra_in w d a6) w act, sv) → wX_insert_40 post (nI w) act (d + 1) (nI (w + d)) (nI c) e1 e2 e3 e4 e5 a1 a2 a3 a4 a5 a6 sv := by
  intro d
  induction d with
  | zero =>
    intro a1 a2 a3 a4 a5 a6 hd hP
    exact br_t (nI_le (by omega) (by omega)) (rx_pd (by omega) act _ (nm_r (nI_1 c) hP))
  | succ d ih =>
    intro a1 a2 a3 a4 a5 a6 hd hP
    exact br_f (nI_ge (by omega) (by omega)) (rx_cp (r := w + d) (s := w + d + 1) (by omega) (by omega) (nI_pred (w + d)) rfl _ (nm_r (pk_m1 (w + d)) (ih _ _ _ _ _ _ (by omega) hP)))
theorem rx_rml {c : Nat} {e1 e2 e3 e4 e5 : Int32} {sv : Nat → Int32} (hc : c < 10) (post : Int32 → SX → Prop) : ∀ d k (a1 a2 a3 a4 a5 a6 : Nat → Int32), k + d = c → post (nI c) (nI c, e1, e2, e3, e4, e5, ra_rm d k a1, ra_rm d k a2, ra_rm d k a3, ra_rm d k a4, ra_rm d k a5, ra_rm d k a6, sv) → wX_remove_14 post (d + 1) (nI (k + 1)) (nI (c + 1)) e1 e2 e3 e4 e5 a1 a2 a3 a4 a5 a6 sv := by
  intro d
  induction d with
  | zero =>
    intro k a1 a2 a3 a4 a5 a6 hd hP
    exact br_t (nI_le (by omega) (by omega)) (nm_r (nI_pred c) hP)
  | succ d ih =>
    intro k a1 a2 a3 a4 a5 a6 hd hP
    exact br_f (nI_ge (by omega) (by omega)) (rx_cp (r := k + 1) (s := k) (by omega) (by omega) rfl (nI_pred k) _ (nm_r (nI_1 (k + 1)) (ih (k + 1) _ _ _ _ _ _ (by omega) hP)))
