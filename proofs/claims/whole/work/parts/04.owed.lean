def ra_R (c : Nat) (e1 e2 e3 e4 e5 : Int32) (a1 a2 a3 a4 a5 a6 b1 b2 b3 b4 b5 b6 : Nat → Int32) : Prop :=
  c ≤ 10 ∧ (e1 = b1 10 ∧ e2 = b2 10 ∧ e3 = b3 10 ∧ e4 = b4 10 ∧ e5 = b5 10) ∧ (ra_E a1 b1 ∧ ra_E a2 b2 ∧ ra_E a3 b3 ∧ ra_E a4 b4 ∧ ra_E a5 b5 ∧ ra_E a6 b6) ∧ ra_Z a6
/-- the same rules below 10, the reference's place 10 is the draft, the same saved table, actions 0 or 1 -/
def i_Rel (_ : Nat) (u : SX) (v : SY) : Prop :=
  ∃ (c : Nat) (e1 e2 e3 e4 e5 : Int32) (a1 a2 a3 a4 a5 a6 b1 b2 b3 b4 b5 b6 sv : Nat → Int32), u = (nI c, e1, e2, e3, e4, e5, a1, a2, a3, a4, a5, a6, sv) ∧ v = (nI c, b1, b2, b3, b4, b5, b6, sv) ∧ ra_R c e1 e2 e3 e4 e5 a1 a2 a3 a4 a5 a6 b1 b2 b3 b4 b5 b6
theorem i_up {k : Nat} {u : SX} {v : SY} (h : i_Rel k u v) : i_Rel (k + 4) u v := h
theorem ra_mk (k : Nat) {c : Nat} {e1 e2 e3 e4 e5 : Int32} {a1 a2 a3 a4 a5 a6 b1 b2 b3 b4 b5 b6 : Nat → Int32} (sv : Nat → Int32) (h : ra_R c e1 e2 e3 e4 e5 a1 a2 a3 a4 a5 a6 b1 b2 b3 b4 b5 b6) : i_Rel k (nI c, e1, e2, e3, e4, e5, a1, a2, a3, a4, a5, a6, sv) (nI c, b1, b2, b3, b4, b5, b6, sv) :=
  ⟨c, e1, e2, e3, e4, e5, a1, a2, a3, a4, a5, a6, b1, b2, b3, b4, b5, b6, sv, rfl, rfl, h⟩
theorem ra_RX {c : Nat} {e1 e2 e3 e4 e5 : Int32} {a1 a2 a3 a4 a5 a6 b1 b2 b3 b4 b5 b6 : Nat → Int32} (h : ra_R c e1 e2 e3 e4 e5 a1 a2 a3 a4 a5 a6 b1 b2 b3 b4 b5 b6) : ra_OX c (ra_M a1 a2 a3 a4 a5) a6 e1 e2 e3 e4 e5 a1 a2 a3 a4 a5 a6 :=
  ⟨h.1, fun _ _ => rfl, fun _ _ _ hr hp post hP => rx_mt hr hp post hP⟩
theorem ra_RY {c : Nat} {e1 e2 e3 e4 e5 : Int32} {a1 a2 a3 a4 a5 a6 b1 b2 b3 b4 b5 b6 : Nat → Int32} (h : ra_R c e1 e2 e3 e4 e5 a1 a2 a3 a4 a5 a6 b1 b2 b3 b4 b5 b6) : ra_OY c (ra_M a1 a2 a3 a4 a5) a6 b1 b2 b3 b4 b5 b6 := by
  obtain ⟨hc, _, ⟨h1, h2, h3, h4, h5, h6⟩, _⟩ := h
  refine ⟨hc, fun r hr => (h6 r hr).symm, fun _ r p hr hp post hP => ry_mt hr hp post ?_⟩
  rw [ra_M_E h1 h2 h3 h4 h5 r p hr]
  exact hP
theorem ra_E0 (x : Int32) : ra_E (fun _ => 0) (upd (fun _ => 0) 10 x) := fun j hj => (pk_un (f := fun _ => 0) (x := x) (Nat.ne_of_lt hj)).symm
theorem ra_E10 {a b : Nat → Int32} (h : ra_E a b) (x : Int32) : ra_E a (upd b 10 x) := fun j hj => (h j hj).trans (pk_un (f := b) (x := x) (Nat.ne_of_lt hj)).symm
theorem i_vc0 : wpX_init (fun u => wpY_init (fun v => i_Rel 0 u v)) :=
  nm_e (nm_e (nm_e ⟨0, 0, 15, 0, 15, 2, fun _ => 0, fun _ => 0, fun _ => 0, fun _ => 0, fun _ => 0, fun _ => 0, fun _ => 0, upd (fun _ => 0) 10 15, fun _ => 0, upd (fun _ => 0) 10 15, upd (fun _ => 0) 10 2, fun _ => 0, fun _ => 0, rfl, rfl,
    ⟨by decide, ⟨rfl, pk_us.symm, rfl, pk_us.symm, pk_us.symm⟩, ⟨fun _ _ => rfl, ra_E0 15, fun _ _ => rfl, ra_E0 15, ra_E0 2, fun _ _ => rfl⟩, fun _ _ => Or.inl rfl⟩⟩))

theorem i_vc_draftRange {k : Nat} {u : SX} {v : SY} (I : i_Rel k u v) (hk : k + 4 ≤ 2048) (v1 : Int32) (v2 : Int32) (v3 : Int32) : wpX_draftRange (fun r u' => wpY_draftRange (fun r' v' => r' = r ∧ i_Rel (k + 4) u' v') v v1 v2 v3) u v1 v2 v3 := by
  obtain ⟨c, e1, e2, e3, e4, e5, a1, a2, a3, a4, a5, a6, b1, b2, b3, b4, b5, b6, sv, rfl, rfl, h⟩ := I
  have R : i_Rel (k + 4) (nI c, e1, e2, e3, e4, e5, a1, a2, a3, a4, a5, a6, sv) (nI c, b1, b2, b3, b4, b5, b6, sv) := ra_mk _ sv h
  obtain ⟨hc, ⟨q1, q2, q3, q4, q5⟩, ⟨h1, h2, h3, h4, h5, h6⟩, hz⟩ := h
  by_cases t0 : v1 < 0
  · exact br_t t0 (br_t t0 ⟨rfl, R⟩)
  by_cases t1 : 1 < v1
  · exact br_f t0 (br_t t1 (br_f t0 (br_t t1 ⟨rfl, R⟩)))
  by_cases t2 : v2 < 0
  · exact br_f t0 (br_f t1 (br_t t2 (br_f t0 (br_f t1 (br_t t2 ⟨rfl, R⟩)))))
  by_cases t3 : 15 < v3
  · exact br_f t0 (br_f t1 (br_f t2 (br_t t3 (br_f t0 (br_f t1 (br_f t2 (br_c (fun _ => ⟨rfl, R⟩) (fun _ => br_c (fun _ => ⟨rfl, R⟩) (fun _ => br_t t3 ⟨rfl, R⟩)))))))))
  by_cases t4 : v2 ≤ v3
  · have t5 : ¬ 15 < v2 := Int32.not_lt.mpr (Int32.le_trans t4 (Int32.not_lt.mp t3))
    have t6 : ¬ v3 < 0 := Int32.not_lt.mpr (Int32.le_trans (Int32.not_lt.mp t2) t4)
    by_cases t7 : v1 = 0
    · exact br_f t0 (br_f t1 (br_f t2 (br_f t3 (br_t t4 (br_t t7 (br_f t0 (br_f t1 (br_f t2 (br_f t5 (br_f t6 (br_f t3 (br_t t4 (br_t t7 (nm_e (nm_e ⟨rfl, ra_mk _ sv ⟨hc, ⟨pk_us.symm, pk_us.symm, q3, q4, q5⟩, ⟨ra_E10 h1 v2, ra_E10 h2 v3, h3, h4, h5, h6⟩, hz⟩⟩)))))))))))))))
    · exact br_f t0 (br_f t1 (br_f t2 (br_f t3 (br_t t4 (br_f t7 (br_f t0 (br_f t1 (br_f t2 (br_f t5 (br_f t6 (br_f t3 (br_t t4 (br_f t7 (nm_e (nm_e ⟨rfl, ra_mk _ sv ⟨hc, ⟨q1, q2, pk_us.symm, pk_us.symm, q5⟩, ⟨h1, h2, ra_E10 h3 v2, ra_E10 h4 v3, h5, h6⟩, hz⟩⟩)))))))))))))))
  · exact br_f t0 (br_f t1 (br_f t2 (br_f t3 (br_f t4 (br_f t0 (br_f t1 (br_f t2 (br_c (fun _ => ⟨rfl, R⟩) (fun _ => br_c (fun _ => ⟨rfl, R⟩) (fun _ => br_f t3 (br_f t4 ⟨rfl, R⟩)))))))))))
theorem i_vc_draftSet {k : Nat} {u : SX} {v : SY} (I : i_Rel k u v) (hk : k + 4 ≤ 2048) (v1 : Int32) : wpX_draftSet (fun r u' => wpY_draftSet (fun r' v' => r' = r ∧ i_Rel (k + 4) u' v') v v1) u v1 := by
  obtain ⟨c, e1, e2, e3, e4, e5, a1, a2, a3, a4, a5, a6, b1, b2, b3, b4, b5, b6, sv, rfl, rfl, h⟩ := I
  have R : i_Rel (k + 4) (nI c, e1, e2, e3, e4, e5, a1, a2, a3, a4, a5, a6, sv) (nI c, b1, b2, b3, b4, b5, b6, sv) := ra_mk _ sv h
  obtain ⟨hc, ⟨q1, q2, q3, q4, q5⟩, ⟨h1, h2, h3, h4, h5, h6⟩, hz⟩ := h
  by_cases t0 : v1 < 0
  · exact br_t t0 (br_t t0 ⟨rfl, R⟩)
  by_cases t1 : v1 ≤ 2
  · exact br_f t0 (br_t t1 (br_f t0 (br_t t1 (nm_e ⟨rfl, ra_mk _ sv ⟨hc, ⟨q1, q2, q3, q4, pk_us.symm⟩, ⟨h1, h2, h3, h4, ra_E10 h5 v1, h6⟩, hz⟩⟩))))
  · exact br_f t0 (br_f t1 (br_f t0 (br_f t1 ⟨rfl, R⟩)))
theorem ra_insR {c w d : Nat} {e1 e2 e3 e4 e5 : Int32} {a1 a2 a3 a4 a5 a6 b1 b2 b3 b4 b5 b6 : Nat → Int32} (h : ra_R c e1 e2 e3 e4 e5 a1 a2 a3 a4 a5 a6 b1 b2 b3 b4 b5 b6) (hd : w + d < 10) (hc : c < 10) (act : Int32) (hact : act = 0 ∨ act = 1) :
    ra_R (c + 1) e1 e2 e3 e4 e5 (upd (ra_in w d a1) w e1) (upd (ra_in w d a2) w e2) (upd (ra_in w d a3) w e3) (upd (ra_in w d a4) w e4) (upd (ra_in w d a5) w e5) (upd (ra_in w d a6) w act) (upd (ra_in w d b1) w (ra_in w d b1 10)) (upd (ra_in w d b2) w (ra_in w d b2 10)) (upd (ra_in w d b3) w (ra_in w d b3 10)) (upd (ra_in w d b4) w (ra_in w d b4 10)) (upd (ra_in w d b5) w (ra_in w d b5 10)) (upd (upd (ra_in w d b6) w (ra_in w d b6 10)) w act) := by
  obtain ⟨_, ⟨q1, q2, q3, q4, q5⟩, ⟨h1, h2, h3, h4, h5, h6⟩, hz⟩ := h

  obtain ⟨s1, z1⟩ := ra_in_E w d _ _ hd h1
  obtain ⟨s2, z2⟩ := ra_in_E w d _ _ hd h2
  obtain ⟨s3, z3⟩ := ra_in_E w d _ _ hd h3
  obtain ⟨s4, z4⟩ := ra_in_E w d _ _ hd h4
  obtain ⟨s5, z5⟩ := ra_in_E w d _ _ hd h5
  obtain ⟨s6, z6⟩ := ra_in_E w d _ _ hd h6
  have hw : (10 : Nat) ≠ w := by omega
  refine ⟨by omega, ⟨?_, ?_, ?_, ?_, ?_⟩, ⟨ra_E_upd s1 w ?_, ra_E_upd s2 w ?_, ra_E_upd s3 w ?_, ra_E_upd s4 w ?_, ra_E_upd s5 w ?_, ra_E_upd2 s6 w act _⟩, ra_Z_upd (ra_in_Z w d _ hd hz) w hact⟩
  · rw [pk_un hw, z1]; exact q1
  · rw [pk_un hw, z2]; exact q2
  · rw [pk_un hw, z3]; exact q3
  · rw [pk_un hw, z4]; exact q4
  · rw [pk_un hw, z5]; exact q5
  · rw [z1]; exact q1
  · rw [z2]; exact q2
  · rw [z3]; exact q3
  · rw [z4]; exact q4
  · rw [z5]; exact q5
theorem i_vc_insert {k : Nat} {u : SX} {v : SY} (I : i_Rel k u v) (hk : k + 4 ≤ 2048) (v1 : Int32) (v2 : Int32) : wpX_insert (fun r u' => wpY_insert (fun r' v' => r' = r ∧ i_Rel (k + 4) u' v') v v1 v2) u v1 v2 := by
  obtain ⟨c, e1, e2, e3, e4, e5, a1, a2, a3, a4, a5, a6, b1, b2, b3, b4, b5, b6, sv, rfl, rfl, h⟩ := I
  have R : i_Rel (k + 4) (nI c, e1, e2, e3, e4, e5, a1, a2, a3, a4, a5, a6, sv) (nI c, b1, b2, b3, b4, b5, b6, sv) := ra_mk _ sv h
  have hc := h.1
  by_cases hf : c = 10
  · subst hf
    exact br_f (nI_nlt (a := 10) (b := 10) (Nat.le_refl _) (by decide)) (br_t rfl ⟨rfl, R⟩)
  have c10 : c < 10 := by omega
  have x1 : nI c < 10 := nI_lt (b := 10) c10 (by decide)
  have y1 : ¬ nI c = 10 := fun z => hf ((nI_eq (b := 10) (by omega) (by decide)).mp z)
  by_cases t0 : v1 < 0
  · exact br_t x1 (br_t t0 (br_f y1 (br_t t0 ⟨rfl, R⟩)))
  by_cases t1 : nI c < v1
  · exact br_t x1 (br_f t0 (br_t t1 (br_f y1 (br_f t0 (br_t t1 ⟨rfl, R⟩)))))
  obtain ⟨w, hw, rfl⟩ := nI_of t0
  have hwc : w ≤ c := by
    rw [nI_ltI (by omega) hw] at t1; omega
  obtain ⟨d, rfl⟩ : ∃ d, c = w + d := ⟨c - w, by omega⟩
  by_cases t2 : v2 = 0
  · subst t2
    exact br_t x1 (br_f t0 (br_f t1 (br_t rfl ⟨d + 1, rx_inl 0 _ d a1 a2 a3 a4 a5 a6 (by omega) (br_f y1 (br_f t0 (br_f t1 (br_f (by decide) (br_t (by decide) ⟨d + 1, ry_inl 0 _ d b1 b2 b3 b4 b5 b6 (by omega) ⟨rfl, ra_mk _ sv (ra_insR h c10 c10 0 (Or.inl rfl))⟩⟩)))))⟩)))
  by_cases t3 : v2 = 1
  · subst t3
    exact br_t x1 (br_f t0 (br_f t1 (br_f t2 (br_t rfl ⟨d + 1, rx_inl 1 _ d a1 a2 a3 a4 a5 a6 (by omega) (br_f y1 (br_f t0 (br_f t1 (br_f (by decide) (br_t (by decide) ⟨d + 1, ry_inl 1 _ d b1 b2 b3 b4 b5 b6 (by omega) ⟨rfl, ra_mk _ sv (ra_insR h c10 c10 1 (Or.inr rfl))⟩⟩)))))⟩))))
  · refine br_t x1 (br_f t0 (br_f t1 (br_f t2 (br_f t3 (br_f y1 (br_f t0 (br_f t1 (br_c (fun _ => ⟨rfl, R⟩) (fun n0 => br_c (fun n1 => ?_) (fun _ => ⟨rfl, R⟩))))))))))
    exfalso
    obtain ⟨j, hj, rfl⟩ := nI_of2 (x := v2) (M := 1) (n := 1) (by decide) n0 n1
    rcases (show j = 0 ∨ j = 1 by omega) with rfl | rfl
    · exact t2 rfl
    · exact t3 rfl
theorem ra_rmR {c i d : Nat} {e1 e2 e3 e4 e5 : Int32} {a1 a2 a3 a4 a5 a6 b1 b2 b3 b4 b5 b6 : Nat → Int32} (h : ra_R (c + 1) e1 e2 e3 e4 e5 a1 a2 a3 a4 a5 a6 b1 b2 b3 b4 b5 b6) (hd : i + d = c) :
    ra_R c e1 e2 e3 e4 e5 (ra_rm d i a1) (ra_rm d i a2) (ra_rm d i a3) (ra_rm d i a4) (ra_rm d i a5) (ra_rm d i a6) (ra_rm d i b1) (ra_rm d i b2) (ra_rm d i b3) (ra_rm d i b4) (ra_rm d i b5) (ra_rm d i b6) := by
  obtain ⟨hc, ⟨q1, q2, q3, q4, q5⟩, ⟨h1, h2, h3, h4, h5, h6⟩, hz⟩ := h
  have hd' : i + d < 10 := by omega
  obtain ⟨s1, z1⟩ := ra_rm_E d i _ _ hd' h1
  obtain ⟨s2, z2⟩ := ra_rm_E d i _ _ hd' h2
  obtain ⟨s3, z3⟩ := ra_rm_E d i _ _ hd' h3
  obtain ⟨s4, z4⟩ := ra_rm_E d i _ _ hd' h4
  obtain ⟨s5, z5⟩ := ra_rm_E d i _ _ hd' h5
  obtain ⟨s6, z6⟩ := ra_rm_E d i _ _ hd' h6
  exact ⟨by omega, ⟨q1.trans z1.symm, q2.trans z2.symm, q3.trans z3.symm, q4.trans z4.symm, q5.trans z5.symm⟩, ⟨s1, s2, s3, s4, s5, s6⟩, ra_rm_Z d i _ hd' hz⟩
theorem i_vc_remove {k : Nat} {u : SX} {v : SY} (I : i_Rel k u v) (hk : k + 4 ≤ 2048) (v1 : Int32) : wpX_remove (fun r u' => wpY_remove (fun r' v' => r' = r ∧ i_Rel (k + 4) u' v') v v1) u v1 := by
  obtain ⟨c, e1, e2, e3, e4, e5, a1, a2, a3, a4, a5, a6, b1, b2, b3, b4, b5, b6, sv, rfl, rfl, h⟩ := I
  have R : i_Rel (k + 4) (nI c, e1, e2, e3, e4, e5, a1, a2, a3, a4, a5, a6, sv) (nI c, b1, b2, b3, b4, b5, b6, sv) := ra_mk _ sv h
  have hc := h.1
  unfold wpX_remove wpY_remove
  dsimp only
  rcases pk_ix v1 (n := c) (by omega) with t | t | ⟨i, hi, rfl⟩
  · exact rx_isr0 (Or.inl t) _ (br_t rfl (ry_isr0 (Or.inl t) _ (br_t rfl ⟨rfl, R⟩)))
  · exact rx_isr0 (Or.inr t) _ (br_t rfl (ry_isr0 (Or.inr t) _ (br_t rfl ⟨rfl, R⟩)))
  · obtain ⟨c', rfl⟩ : ∃ c', c = c' + 1 := ⟨c - 1, by omega⟩
    obtain ⟨d, rfl⟩ : ∃ d, c' = i + d := ⟨c' - i, by omega⟩
    refine rx_isr1 hc hi _ (br_f ra_10 (nm_r (nI_1 i) ⟨d + 1, rx_rml (by omega) _ d i a1 a2 a3 a4 a5 a6 rfl ?_⟩))
    exact ry_isr1 hc hi _ (br_f ra_10 ⟨d + 1, ry_rml (by omega) _ d i b1 b2 b3 b4 b5 b6 rfl ⟨rfl, ra_mk _ sv (ra_rmR h rfl)⟩⟩)
theorem i_vc_decider {k : Nat} {u : SX} {v : SY} (I : i_Rel k u v) (hk : k + 4 ≤ 2048) (v1 : Int32) (v2 : Int32) (v3 : Int32) : wpX_decider (fun r => wpY_decider (fun r' => r' = r ∧ i_Rel (k + 4) u v) v v1 v2 v3) u v1 v2 v3 := by
  obtain ⟨c, e1, e2, e3, e4, e5, a1, a2, a3, a4, a5, a6, b1, b2, b3, b4, b5, b6, sv, rfl, rfl, h⟩ := I
  have R : i_Rel (k + 4) (nI c, e1, e2, e3, e4, e5, a1, a2, a3, a4, a5, a6, sv) (nI c, b1, b2, b3, b4, b5, b6, sv) := ra_mk _ sv h
  by_cases t0 : v1 < 0
  · exact br_t t0 (br_t t0 ⟨rfl, R⟩)
  by_cases t1 : 15 < v1
  · exact br_f t0 (br_t t1 (br_f t0 (br_t t1 ⟨rfl, R⟩)))
  by_cases t2 : v2 < 0
  · exact br_f t0 (br_f t1 (br_t t2 (br_f t0 (br_f t1 (br_t t2 ⟨rfl, R⟩)))))
  by_cases t3 : 15 < v2
  · exact br_f t0 (br_f t1 (br_f t2 (br_t t3 (br_f t0 (br_f t1 (br_f t2 (br_t t3 ⟨rfl, R⟩)))))))
  by_cases t4 : v3 < 0
  · exact br_f t0 (br_f t1 (br_f t2 (br_f t3 (br_t t4 (br_f t0 (br_f t1 (br_f t2 (br_f t3 (br_t t4 ⟨rfl, R⟩)))))))))
  by_cases t5 : v3 ≤ 1
  · obtain ⟨s, hs, rfl⟩ := nI_of2 (M := 15) (n := 15) (by decide) t0 (Int32.not_lt.mp t1)
    obtain ⟨d, hd, rfl⟩ := nI_of2 (M := 15) (n := 15) (by decide) t2 (Int32.not_lt.mp t3)
    obtain ⟨q, hq, rfl⟩ := nI_of2 (M := 1) (n := 1) (by decide) t4 t5
    refine br_f t0 (br_f t1 (br_f t2 (br_f t3 (br_f t4 (br_t t5 ?_)))))
    rw [ra_pk]
    refine rx_fm (ra_RX h) sv (by omega) _ _ ?_
    refine br_f t0 (br_f t1 (br_f t2 (br_f t3 (br_f t4 (br_t t5 ?_)))))
    rw [ra_pk]
    exact ry_fm (ra_RY h) sv (by omega) _ _ ⟨rfl, R⟩
  · exact br_f t0 (br_f t1 (br_f t2 (br_f t3 (br_f t4 (br_f t5 (br_f t0 (br_f t1 (br_f t2 (br_f t3 (br_f t4 (br_f t5 ⟨rfl, R⟩)))))))))))
theorem i_vc_owned {k : Nat} {u : SX} {v : SY} (I : i_Rel k u v) (hk : k + 4 ≤ 2048) (v1 : Int32) : wpX_owned (fun r => wpY_owned (fun r' => r' = r ∧ i_Rel (k + 4) u v) v v1) u v1 := by
  obtain ⟨c, e1, e2, e3, e4, e5, a1, a2, a3, a4, a5, a6, b1, b2, b3, b4, b5, b6, sv, rfl, rfl, h⟩ := I
  have R : i_Rel (k + 4) (nI c, e1, e2, e3, e4, e5, a1, a2, a3, a4, a5, a6, sv) (nI c, b1, b2, b3, b4, b5, b6, sv) := ra_mk _ sv h
  have hc := h.1
  rcases pk_ix v1 (n := c) (by omega) with t | t | ⟨i, hi, rfl⟩
  · exact rx_ow0 (Or.inl t) _ (ry_ow0 (Or.inl t) _ ⟨rfl, R⟩)
  · exact rx_ow0 (Or.inr t) _ (ry_ow0 (Or.inr t) _ ⟨rfl, R⟩)
  · exact rx_ow (ra_RX h) sv hi _ (ry_ow (ra_RY h) sv hi _ ⟨rfl, R⟩)
theorem i_vc_firstOwned {k : Nat} {u : SX} {v : SY} (I : i_Rel k u v) (hk : k + 4 ≤ 2048) (v1 : Int32) : wpX_firstOwned (fun r => wpY_firstOwned (fun r' => r' = r ∧ i_Rel (k + 4) u v) v v1) u v1 := by
  obtain ⟨c, e1, e2, e3, e4, e5, a1, a2, a3, a4, a5, a6, b1, b2, b3, b4, b5, b6, sv, rfl, rfl, h⟩ := I
  have R : i_Rel (k + 4) (nI c, e1, e2, e3, e4, e5, a1, a2, a3, a4, a5, a6, sv) (nI c, b1, b2, b3, b4, b5, b6, sv) := ra_mk _ sv h
  have hc := h.1
  rcases pk_ix v1 (n := c) (by omega) with t | t | ⟨i, hi, rfl⟩
  · exact rx_fo0 (Or.inl t) _ (ry_fo0 (Or.inl t) _ ⟨rfl, R⟩)
  · exact rx_fo0 (Or.inr t) _ (ry_fo0 (Or.inr t) _ ⟨rfl, R⟩)
  · exact rx_fo (ra_RX h) sv hi _ (ry_fo (ra_RY h) sv hi _ ⟨rfl, R⟩)
theorem i_vc_fault {k : Nat} {u : SX} {v : SY} (I : i_Rel k u v) (hk : k + 4 ≤ 2048) (v1 : Int32) : wpX_fault (fun r => wpY_fault (fun r' => r' = r ∧ i_Rel (k + 4) u v) v v1) u v1 := by
  obtain ⟨c, e1, e2, e3, e4, e5, a1, a2, a3, a4, a5, a6, b1, b2, b3, b4, b5, b6, sv, rfl, rfl, h⟩ := I
  have R : i_Rel (k + 4) (nI c, e1, e2, e3, e4, e5, a1, a2, a3, a4, a5, a6, sv) (nI c, b1, b2, b3, b4, b5, b6, sv) := ra_mk _ sv h
  have hc := h.1
  rcases pk_ix v1 (n := c) (by omega) with t | t | ⟨i, hi, rfl⟩
  · exact rx_fa0 (Or.inl t) _ (ry_fa0 (Or.inl t) _ ⟨rfl, R⟩)
  · exact rx_fa0 (Or.inr t) _ (ry_fa0 (Or.inr t) _ ⟨rfl, R⟩)
  · exact rx_fa (ra_RX h) sv hi _ (ry_fa (ra_RY h) sv hi _ ⟨rfl, R⟩)
theorem i_vc_save {k : Nat} {u : SX} {v : SY} (I : i_Rel k u v) (hk : k + 4 ≤ 2048) : wpX_save (fun r u' => wpY_save (fun r' v' => r' = r ∧ i_Rel (k + 4) u' v') v) u := by
  obtain ⟨c, e1, e2, e3, e4, e5, a1, a2, a3, a4, a5, a6, b1, b2, b3, b4, b5, b6, sv, rfl, rfl, h⟩ := I
  exact rx_save (ra_RX h) sv _ (ry_save (ra_RY h) sv h.2.2.2 _ ⟨rfl, ra_mk _ _ h⟩)
theorem i_vc_changed {k : Nat} {u : SX} {v : SY} (I : i_Rel k u v) (hk : k + 4 ≤ 2048) : wpX_changed (fun r => wpY_changed (fun r' => r' = r ∧ i_Rel (k + 4) u v) v) u := by
  obtain ⟨c, e1, e2, e3, e4, e5, a1, a2, a3, a4, a5, a6, b1, b2, b3, b4, b5, b6, sv, rfl, rfl, h⟩ := I
  exact rx_ch (ra_RX h) sv _ (ry_ch (ra_RY h) sv _ ⟨rfl, ra_mk _ sv h⟩)
theorem i_vc_firstChanged {k : Nat} {u : SX} {v : SY} (I : i_Rel k u v) (hk : k + 4 ≤ 2048) : wpX_firstChanged (fun r => wpY_firstChanged (fun r' => r' = r ∧ i_Rel (k + 4) u v) v) u := by
  obtain ⟨c, e1, e2, e3, e4, e5, a1, a2, a3, a4, a5, a6, b1, b2, b3, b4, b5, b6, sv, rfl, rfl, h⟩ := I
  exact rx_fc (ra_RX h) sv _ (ry_fc (ra_RY h) sv _ ⟨rfl, ra_mk _ sv h⟩)
