section
variable {c : tc_C} {kd fs ss ip : Nat → Int32} {dm ig : Nat → Int64}
/-- the component's arrays show the circuit -/
def tc_RX (c : tc_C) (kd fs ss ip : Nat → Int32) (dm ig : Nat → Int64) : Prop := (∀ j, j < tc_n c → kd j = nI (tc_K c j) ∧ fs j = nI (tc_F c j) ∧ ss j = nI (tc_S c j)) ∧ (∀ s, tc_used c s → ip s = nI (20 * tc_T c s + tc_Q c s) ∧ ∀ a, a < 64 → tc_lb (dm s) a = tc_lit (tc_D c s) a ∧ tc_lb (ig s) a = tc_lit (tc_G c s) a)
theorem tc_pX (t j : Nat) : nI t * 20 + nI j = nI (20 * t + j) := by
  rw [show (20 : Int32) = nI 20 from rfl, pk_mul, nI_add, Nat.mul_comm]
def tc_oth (m0 m1 m0' m1' : Nat → Int64) (p : Nat) : Prop := ∀ q, q ≠ p → m0' q = m0 q ∧ m1' q = m1 q
def tc_at (m0 m1 : Nat → Int64) (a p : Nat) : tc_B := (tc_lb (m0 p) a, tc_lb (m1 p) a)
theorem tc_oth_upd {m0 m1 : Nat → Int64} {p : Nat} (x y : Int64) : tc_oth m0 m1 (vp_updL m0 p x) (vp_updL m1 p y) p := fun _ hq => ⟨pk_uLn hq, pk_uLn hq⟩
theorem tc_at_upd {m0 m1 : Nat → Int64} {p a : Nat} (x y : Int64) : tc_at (vp_updL m0 p x) (vp_updL m1 p y) a p = (tc_lb x a, tc_lb y a) := by
  unfold tc_at
  rw [pk_uLs, pk_uLs]
theorem tc_Xgate {post : SX → Prop} {m0 m1 : Nat → Int64} {t j : Nat} (hw : tc_wf c) (hx : tc_RX c kd fs ss ip dm ig) (ht : t < 4) (hj : j < tc_n c) (h1 : 1 ≤ tc_K c j) (h4 : tc_K c j ≤ 4)
    (h : ∀ m0' m1', tc_oth m0 m1 m0' m1' (20 * t + j) → (∀ a, a < 64 → tc_at m0' m1' a (20 * t + j) = tc_gate (tc_K c j) (tc_at m0 m1 a (20 * t + tc_F c j)) (tc_at m0 m1 a (20 * t + tc_S c j))) → post (nI (tc_n c), nI (tc_ac c), nI (tc_cc c), kd, fs, ss, ip, dm, ig, m0', m1')) : wpX_setGateValue post (nI (tc_n c), nI (tc_ac c), nI (tc_cc c), kd, fs, ss, ip, dm, ig, m0, m1) (nI t) (nI j) := by
  obtain ⟨h20, hac, hcc, hN, hI⟩ := hw
  obtain ⟨k5, f, s, k0, kf, ks, kk⟩ := hN j hj
  obtain ⟨ek, ef, es⟩ := hx.1 j hj
  have ej : (nI j).toNatClampNeg = j := nI_clamp (by omega)
  have e1 : (nI (20 * t + j)).toNatClampNeg = 20 * t + j := nI_clamp (by omega)
  have e2 : (nI (20 * t + tc_F c j)).toNatClampNeg = 20 * t + tc_F c j := nI_clamp (by omega)
  have e3 : (nI (20 * t + tc_S c j)).toNatClampNeg = 20 * t + tc_S c j := nI_clamp (by omega)
  have i0 : vp_in (nI j) 20 := vp_in_nI (by omega) (by omega)
  have i1 : vp_in (nI (20 * t + j)) 80 := vp_in_nI (by omega) (by omega)
  have i2 : vp_in (nI (20 * t + tc_F c j)) 80 := vp_in_nI (by omega) (by omega)
  have i3 : vp_in (nI (20 * t + tc_S c j)) 80 := vp_in_nI (by omega) (by omega)
  have fj := kf h1 h4
  have n2 : 20 * t + tc_F c j ≠ 20 * t + j := by omega
  unfold wpX_setGateValue wpX_placeOf
  dsimp only
  rw [ej, ek, ef, es, tc_pX, tc_pX, tc_pX, e1, e2, e3]
  refine ⟨i0, i0, i0, nm_e (br_f (nI_nlt (b := 1) h1 (by omega)) (br_c (fun z => ?_) (fun z => ?_)))⟩
  · have z4 : 3 < tc_K c j := (nI_ltI (a := 3) (by omega) (by omega)).mp z
    have sj := ks (by omega) h4
    have n3 : 20 * t + tc_S c j ≠ 20 * t + j := by omega
    refine ⟨i2, i3, i2, i3, i1, nm_e ⟨i2, i3, i2, i3, i1, nm_e (h _ _ (tc_oth_upd _ _) (fun a ha => ?_))⟩⟩
    rw [tc_at_upd, pk_uLn n2, pk_uLn n3]
    unfold tc_gate tc_at
    rw [if_neg (by omega), if_neg (by omega), if_neg (by omega)]
    simp only [tc_lb_or, tc_lb_and]
  · have z4 : tc_K c j ≤ 3 := by
      have : ¬ 3 < tc_K c j := fun y => z (nI_lt (a := 3) y (by omega))
      omega
    refine pk_eq (tc_K c j) 1 (fun z1 => ?_) (fun z1 => pk_eq (tc_K c j) 2 (fun z2 => ?_) (fun z2 => pk_eq (tc_K c j) 3 (fun z3 => ?_) (fun z3 => trivial)))
    · refine ⟨i2, i1, nm_e ⟨i2, i1, nm_e (h _ _ (tc_oth_upd _ _) (fun a ha => ?_))⟩⟩
      rw [tc_at_upd, pk_uLn n2]
      unfold tc_gate tc_at
      rw [if_pos z1]
    · have sj := ks (by omega) h4
      have n3 : 20 * t + tc_S c j ≠ 20 * t + j := by omega
      refine ⟨i2, i3, i1, nm_e ⟨i2, i3, i1, nm_e (h _ _ (tc_oth_upd _ _) (fun a ha => ?_))⟩⟩
      rw [tc_at_upd]
      unfold tc_gate tc_at
      rw [if_neg (by omega), if_pos z2]
      simp only [tc_lb_or, tc_lb_and]
    · have sj := ks (by omega) h4
      have n3 : 20 * t + tc_S c j ≠ 20 * t + j := by omega
      refine ⟨i2, i3, i1, nm_e ⟨i2, i3, i1, nm_e (h _ _ (tc_oth_upd _ _) (fun a ha => ?_))⟩⟩
      rw [tc_at_upd]
      unfold tc_gate tc_at
      rw [if_neg (by omega), if_neg (by omega), if_pos z3]
      simp only [tc_lb_or, tc_lb_and]
theorem tc_Xown29 {post : SX → Prop} {m0 m1 : Nat → Int64} {p : Nat} (hp : p < 80) (h : post (nI (tc_n c), nI (tc_ac c), nI (tc_cc c), kd, fs, ss, ip, dm, ig, (vp_updL m0 p (-1)), (vp_updL m1 p (-1)))) : wX_setOwnValue_29 post (nI p) (nI (tc_n c)) (nI (tc_ac c)) (nI (tc_cc c)) kd fs ss ip dm ig (m0) (m1) := by
  have e1 : (nI p).toNatClampNeg = p := nI_clamp (by omega)
  have i1 : vp_in (nI p) 80 := vp_in_nI hp (by omega)
  unfold wX_setOwnValue_29
  rw [e1]
  exact ⟨i1, nm_e ⟨i1, nm_e h⟩⟩
theorem tc_Xown50 {post : SX → Prop} {m0 m1 : Nat → Int64} {t j : Nat} (hw : tc_wf c) (hx : tc_RX c kd fs ss ip dm ig) (ht : t < 4) (hj : j < tc_n c) (h0 : tc_K c j ≠ 0) (h5 : tc_K c j = 5 → t ≠ 0)
    (h : ∀ m0' m1', tc_oth m0 m1 m0' m1' (20 * t + j) → (∀ a, a < 64 → tc_at m0' m1' a (20 * t + j) = tc_base c (tc_at m0 m1 a) t j) → post (nI (tc_n c), nI (tc_ac c), nI (tc_cc c), kd, fs, ss, ip, dm, ig, m0', m1')) : wX_setOwnValue_50 post (nI t) (nI j) (nI (20 * t + j)) (nI (tc_n c)) (nI (tc_ac c)) (nI (tc_cc c)) kd fs ss ip dm ig (m0) (m1) := by
  have hw' := hw
  obtain ⟨h20, hac, hcc, hN, hI⟩ := hw
  obtain ⟨k5, f, s, k0, kf, ks, kk⟩ := hN j hj
  obtain ⟨ek, ef, es⟩ := hx.1 j hj
  have ej : (nI j).toNatClampNeg = j := nI_clamp (by omega)
  have e1 : (nI (20 * t + j)).toNatClampNeg = 20 * t + j := nI_clamp (by omega)
  have i0 : vp_in (nI j) 20 := vp_in_nI (by omega) (by omega)
  have i1 : vp_in (nI (20 * t + j)) 80 := vp_in_nI (by omega) (by omega)
  unfold wX_setOwnValue_50
  rw [ej, ek]
  refine ⟨i0, pk_eq (tc_K c j) 5 (fun z => ⟨i0, ?_⟩) (fun z => ?_)⟩
  · have t0 := h5 z
    have e2 : (nI (20 * (t - 1) + tc_F c j)).toNatClampNeg = 20 * (t - 1) + tc_F c j := nI_clamp (by omega)
    have i2 : vp_in (nI (20 * (t - 1) + tc_F c j)) 80 := vp_in_nI (by omega) (by omega)
    unfold wpX_placeOf
    rw [ef, show nI t - 1 = nI (t - 1) from pk_sub (b := 1) (by omega), tc_pX, e1]
    dsimp only
    rw [e2]
    refine ⟨i2, i1, nm_e ⟨i2, i1, nm_e (h _ _ (tc_oth_upd _ _) (fun a ha => ?_))⟩⟩
    rw [tc_at_upd]
    unfold tc_base tc_at
    rw [if_neg h0, if_pos z, if_neg t0]
  · refine tc_Xgate hw' hx ht hj (by omega) (by omega) (fun m0' m1' ho ha => h _ _ ho (fun a h64 => ?_))
    rw [ha a h64]
    unfold tc_base
    rw [if_neg h0, if_neg z]
theorem tc_Xown {post : SX → Prop} {m0 m1 : Nat → Int64} {t j : Nat} (hw : tc_wf c) (hx : tc_RX c kd fs ss ip dm ig) (ht : t < 4) (hj : j < tc_n c)
    (h : ∀ m0' m1', tc_oth m0 m1 m0' m1' (20 * t + j) → (∀ a, a < 64 → tc_at m0' m1' a (20 * t + j) = tc_base c (tc_at m0 m1 a) t j) → post (nI (tc_n c), nI (tc_ac c), nI (tc_cc c), kd, fs, ss, ip, dm, ig, m0', m1')) : wpX_setOwnValue post (nI (tc_n c), nI (tc_ac c), nI (tc_cc c), kd, fs, ss, ip, dm, ig, m0, m1) (nI t) (nI j) := by
  have h20 : tc_n c ≤ 20 := hw.1
  obtain ⟨ek, ef, es⟩ := hx.1 j hj
  have k5 : tc_K c j ≤ 5 := (hw.2.2.2.1 j hj).1
  have ej : (nI j).toNatClampNeg = j := nI_clamp (by omega)
  have i0 : vp_in (nI j) 20 := vp_in_nI (by omega) (by omega)
  unfold wpX_setOwnValue wpX_placeOf
  dsimp only
  rw [ej, ek, tc_pX]
  refine ⟨i0, pk_eq (tc_K c j) 0 (fun z => tc_Xown29 (by omega) ?_) (fun z => ⟨i0, pk_eq (tc_K c j) 5 (fun z5 => pk_eq t 0 (fun z0 => tc_Xown29 (by omega) ?_) (fun z0 => ?_)) (fun z5 => ?_)⟩)⟩
  · refine h _ _ (tc_oth_upd _ _) (fun a ha => ?_)
    rw [tc_at_upd, tc_lb_m1 a ha]
    unfold tc_base
    rw [if_pos z]
  · refine h _ _ (tc_oth_upd _ _) (fun a ha => ?_)
    rw [tc_at_upd, tc_lb_m1 a ha]
    unfold tc_base
    rw [if_neg z, if_pos z5, if_pos z0]
  · exact tc_Xown50 hw hx ht hj z (fun _ => z0) h
  · exact tc_Xown50 hw hx ht hj z (fun y => absurd y z5) h
theorem tc_Xassume {post : SX → Prop} {ou : Int32} {m0 m1 : Nat → Int64} {t j : Nat} (hw : tc_wf c) (hx : tc_RX c kd fs ss ip dm ig) (ht : t < 4) (hj : j < tc_n c)
    (h : ∀ m0' m1', tc_oth m0 m1 m0' m1' (20 * t + j) → (∀ a, a < 64 → tc_at m0' m1' a (20 * t + j) = tc_as c ou a (20 * t + j) (tc_ac c) (tc_at m0 m1 a (20 * t + j))) → post (nI (tc_n c), nI (tc_ac c), nI (tc_cc c), kd, fs, ss, ip, dm, ig, m0', m1')) : wpX_assume post (nI (tc_n c), nI (tc_ac c), nI (tc_cc c), kd, fs, ss, ip, dm, ig, m0, m1) (nI t) (nI j) ou := by
  obtain ⟨h20, hac, hcc, hN, hI⟩ := hw
  have hp : 20 * t + j < 80 := by omega
  unfold wpX_assume wpX_placeOf
  dsimp only
  rw [tc_pX]
  generalize 20 * t + j = p at *
  have e1 : (nI p).toNatClampNeg = p := nI_clamp (by omega)
  have i1 : vp_in (nI p) 80 := vp_in_nI hp (by omega)
  refine loop_0 (fun n i s => wX_assume_10 post ou (nI p) (nI (tc_n c)) (nI (tc_ac c)) (nI (tc_cc c)) n (nI i) kd fs ss ip dm ig s.1 s.2) (fun i s => tc_oth m0 m1 s.1 s.2 p ∧ ∀ a, a < 64 → tc_at s.1 s.2 a p = tc_as c ou a p i (tc_at m0 m1 a p)) (tc_ac c) (m0, m1) ⟨fun _ _ => ⟨rfl, rfl⟩, fun _ _ => rfl⟩ ?_ ?_
  · intro n s hs
    exact br_t (nI_le (Nat.le_refl _) (by omega)) (h _ _ hs.1 hs.2)
  · intro n i s hi hs ih
    obtain ⟨s0, s1⟩ := s
    obtain ⟨ho, hv⟩ := hs
    obtain ⟨ei, eb⟩ := hx.2 i (Or.inl hi)
    have ec : (nI i).toNatClampNeg = i := nI_clamp (by omega)
    have i2 : vp_in (nI i) 24 := vp_in_nI (by omega) (by omega)
    refine br_f (nI_ge hi (by omega)) ?_
    rw [ec, ei, e1]
    refine br_c (fun z => nm_e ?_) (fun z => ⟨i2, pk_eq (20 * tc_T c i + tc_Q c i) p (fun y => ?_) (fun y => nm_e ?_) rfl rfl ?_ (by omega)⟩)
    · rw [nI_1]
      refine ih (s0, s1) ⟨ho, fun a ha => ?_⟩
      rw [hv a ha]
      show _ = if nI i ≠ ou ∧ _ then _ else _
      rw [if_neg (fun y => y.1 z)]
    · refine ⟨i1, i2, i2, i1, nm_e ⟨i1, i2, i2, i1, nm_e (nm_e ?_)⟩⟩
      rw [nI_1]
      refine ih (vp_updL s0 p _, vp_updL s1 p _) ⟨fun q hq => ?_, fun a ha => ?_⟩
      · have := ho q hq
        exact ⟨(pk_uLn hq).trans this.1, (pk_uLn hq).trans this.2⟩
      · obtain ⟨b1, b2⟩ := eb a ha
        show tc_at (vp_updL s0 p _) (vp_updL s1 p _) a p = if nI i ≠ ou ∧ _ then _ else _
        rw [if_pos ⟨z, y⟩, ← hv a ha, tc_at_upd]
        simp only [tc_lb_and, tc_lb_not _ ha, b1, b2]
        rfl
    · rw [nI_1]
      refine ih (s0, s1) ⟨ho, fun a ha => ?_⟩
      rw [hv a ha]
      show _ = if nI i ≠ ou ∧ _ then _ else _
      rw [if_neg (fun w => y w.2)]
    · have := hI i (Or.inl hi)
      have a1 := this.1
      have a2 := this.2.1
      omega
/-- all places before (t, j) hold their values -/
def tc_dn (c : tc_C) (ou : Int32) (m0 m1 : Nat → Int64) (t j : Nat) : Prop := ∀ t' j', j' < tc_n c → (t' < t ∨ t' = t ∧ j' < j) → ∀ a, a < 64 → tc_at m0 m1 a (20 * t' + j') = tc_V c ou a (20 * t' + j')
theorem tc_Xfollow {post : SX → Prop} {ou : Int32} {m0 m1 : Nat → Int64} (hw : tc_wf c) (hx : tc_RX c kd fs ss ip dm ig)
    (h : ∀ m0' m1', tc_dn c ou m0' m1' 4 0 → post (nI (tc_n c), nI (tc_ac c), nI (tc_cc c), kd, fs, ss, ip, dm, ig, m0', m1')) : wpX_follow post (nI (tc_n c), nI (tc_ac c), nI (tc_cc c), kd, fs, ss, ip, dm, ig, m0, m1) ou := by
  have h20 : tc_n c ≤ 20 := hw.1
  refine loop_0 (fun n i s => wX_follow_2 post ou n (nI i) (nI (tc_n c)) (nI (tc_ac c)) (nI (tc_cc c)) kd fs ss ip dm ig s.1 s.2) (fun i s => tc_dn c ou s.1 s.2 i 0) 4 (m0, m1) (fun t' j' _ hl => by omega) ?_ ?_
  · intro n s hs
    exact br_t (nI_le (a := 4) (b := 4) (by omega) (by omega)) (h _ _ hs)
  · intro n t s ht hs ih
    refine br_f (nI_ge (b := 4) ht (by omega)) ?_
    refine loop_0 (fun n' i s => wX_follow_9 post (wX_follow_2 post ou n) ou (nI t) n' (nI i) (nI (tc_n c)) (nI (tc_ac c)) (nI (tc_cc c)) kd fs ss ip dm ig s.1 s.2) (fun i s => tc_dn c ou s.1 s.2 t i) (tc_n c) s hs ?_ ?_
    · intro n' s' hs'
      refine br_t (nI_le (Nat.le_refl _) (by omega)) (nm_e ?_)
      rw [nI_1]
      exact ih s' (fun t' j' hj' hl => hs' t' j' hj' (by omega))
    · intro n' j s' hj hs' ih'
      obtain ⟨s0, s1⟩ := s'
      refine br_f (nI_ge hj (by omega)) (tc_Xown hw hx ht hj (fun a0 a1 ho hv => ?_))
      refine tc_Xassume hw hx ht hj (fun b0 b1 ho' hv' => nm_e ?_)
      rw [nI_1]
      refine ih' (b0, b1) (fun t' j' hj' hl a ha => ?_)
      by_cases e : 20 * t' + j' = 20 * t + j
      · have : t' = t ∧ j' = j := by omega
        obtain ⟨rfl, rfl⟩ := this
        rw [hv' a ha, hv a ha, tc_V_eq ou a hw hj]
        exact congrArg _ (tc_base_congr hw hj (fun t1 j1 hj1 hl1 => hs' t1 j1 hj1 hl1 a ha))
      · have hl' : t' < t ∨ t' = t ∧ j' < j := by omega
        rw [← hs' t' j' hj' hl' a ha]
        have p1 := ho _ e
        have p2 := ho' _ e
        show (tc_lb (b0 _) a, tc_lb (b1 _) a) = (tc_lb (s0 _) a, tc_lb (s1 _) a)
        rw [p2.1, p2.2, p1.1, p1.2]
theorem tc_Xidle {post : Int64 → Prop} {ou : Int32} {m0 m1 : Nat → Int64} (hw : tc_wf c) (hd : tc_dn c ou m0 m1 4 0)
    (h : ∀ r, (∀ a, a < 64 → tc_lb r a = tc_idl c ou a) → post r) : wpX_idleSet post (nI (tc_n c), nI (tc_ac c), nI (tc_cc c), kd, fs, ss, ip, dm, ig, m0, m1) := by
  have h20 : tc_n c ≤ 20 := hw.1
  refine loop_0 (fun n i s => wX_idleSet_4 post (nI (tc_n c)) (nI (tc_ac c)) (nI (tc_cc c)) kd fs ss ip dm ig (m0) (m1) n s (nI i)) (fun i s => ∀ a, a < 64 → tc_lb s a = tc_any (fun t => tc_any (fun j => !((tc_V c ou a (20 * t + j)).1 || (tc_V c ou a (20 * t + j)).2)) (tc_n c)) i) 4 0 (fun a ha => tc_lb_0 a) ?_ ?_
  · intro n s hs
    exact br_t (nI_le (a := 4) (b := 4) (by omega) (by omega)) (h _ hs)
  · intro n t s ht hs ih
    refine br_f (nI_ge (b := 4) ht (by omega)) ?_
    refine loop_0 (fun n' i s => wX_idleSet_12 post (wX_idleSet_4 post (nI (tc_n c)) (nI (tc_ac c)) (nI (tc_cc c)) kd fs ss ip dm ig (m0) (m1) n) (nI t) (nI (tc_n c)) (nI (tc_ac c)) (nI (tc_cc c)) kd fs ss ip dm ig (m0) (m1) n' s (nI i)) (fun i s => ∀ a, a < 64 → tc_lb s a = (tc_any (fun t => tc_any (fun j => !((tc_V c ou a (20 * t + j)).1 || (tc_V c ou a (20 * t + j)).2)) (tc_n c)) t || tc_any (fun j => !((tc_V c ou a (20 * t + j)).1 || (tc_V c ou a (20 * t + j)).2)) i)) (tc_n c) s (fun a ha => by rw [hs a ha]; exact (Bool.or_false _).symm) ?_ ?_
    · intro n' s' hs'
      refine br_t (nI_le (Nat.le_refl _) (by omega)) (nm_e ?_)
      rw [nI_1]
      exact ih s' hs'
    · intro n' j s' hj hs' ih'
      have e1 : (nI (20 * t + j)).toNatClampNeg = 20 * t + j := nI_clamp (by omega)
      have i1 : vp_in (nI (20 * t + j)) 80 := vp_in_nI (by omega) (by omega)
      refine br_f (nI_ge hj (by omega)) ?_
      unfold wpX_placeOf
      rw [tc_pX]
      dsimp only
      rw [e1]
      refine ⟨i1, i1, nm_e (nm_e ?_)⟩
      rw [nI_1]
      refine ih' _ (fun a ha => ?_)
      have hv := hd t j hj (Or.inl ht) a ha
      rw [tc_lb_or, tc_lb_not _ ha, tc_lb_or, hs' a ha]
      show _ = (_ || (_ || !((tc_V c ou a (20 * t + j)).1 || (tc_V c ou a (20 * t + j)).2)))
      rw [← hv, Bool.or_assoc]
      rfl
theorem tc_Xbroken {post : Int64 → Prop} {ou : Int32} {m0 m1 : Nat → Int64} {k : Nat} (hw : tc_wf c) (hx : tc_RX c kd fs ss ip dm ig) (hd : tc_dn c ou m0 m1 4 0) (hk : k < tc_cc c)
    (h : ∀ r, (∀ a, a < 64 → tc_lb r a = tc_brk c ou a k) → post r) : wpX_brokenSet post (nI (tc_n c), nI (tc_ac c), nI (tc_cc c), kd, fs, ss, ip, dm, ig, m0, m1) (12 + nI k) := by
  obtain ⟨h20, hac, hcc, hN, hI⟩ := hw
  have hu : tc_used c (12 + k) := Or.inr (by omega)
  obtain ⟨t4, qn, _, _⟩ := hI _ hu
  obtain ⟨ei, eb⟩ := hx.2 _ hu
  have e0 : 12 + nI k = nI (12 + k) := nI_add 12 k
  have ec : (nI (12 + k)).toNatClampNeg = 12 + k := nI_clamp (by omega)
  have i2 : vp_in (nI (12 + k)) 24 := vp_in_nI (by omega) (by omega)
  have e1 : (nI (20 * tc_T c (12 + k) + tc_Q c (12 + k))).toNatClampNeg = 20 * tc_T c (12 + k) + tc_Q c (12 + k) := nI_clamp (by omega)
  have i1 : vp_in (nI (20 * tc_T c (12 + k) + tc_Q c (12 + k))) 80 := vp_in_nI (by omega) (by omega)
  unfold wpX_brokenSet
  dsimp only
  rw [e0, ec, ei]
  refine ⟨i2, nm_e ⟨i2, nm_e ⟨i2, i1, i1, h _ (fun a ha => ?_)⟩⟩⟩
  have hv := hd _ _ qn (Or.inl t4) a ha
  rw [e1]
  unfold tc_brk
  rw [← hv, tc_lb_and, tc_lb_or, tc_lb_and, tc_lb_and, tc_lb_not _ ha, (eb a ha).1, (eb a ha).2]
  rfl
theorem tc_Xfailing {post : Int64 → Prop} {ou : Int32} {m0 m1 : Nat → Int64} (hw : tc_wf c) (hx : tc_RX c kd fs ss ip dm ig) (hd : tc_dn c ou m0 m1 4 0)
    (h : ∀ r, (∀ a, a < 64 → tc_lb r a = tc_fail c ou a) → post r) : wpX_failingSet post (nI (tc_n c), nI (tc_ac c), nI (tc_cc c), kd, fs, ss, ip, dm, ig, m0, m1) := by
  have hcc : tc_cc c ≤ 12 := hw.2.2.1
  refine loop_0 (fun n i s => wX_failingSet_4 post (nI (tc_n c)) (nI (tc_ac c)) (nI (tc_cc c)) kd fs ss ip dm ig (m0) (m1) n s (nI i)) (fun i s => ∀ a, a < 64 → tc_lb s a = tc_any (tc_brk c ou a) i) (tc_cc c) 0 (fun a ha => tc_lb_0 a) ?_ ?_
  · intro n s hs
    refine br_t (nI_le (Nat.le_refl _) (by omega)) (tc_Xidle hw hd (fun r hr => h _ (fun a ha => ?_)))
    rw [tc_lb_and, tc_lb_not _ ha, hs a ha, hr a ha]
    rfl
  · intro n k s hk hs ih
    refine br_f (nI_ge hk (by omega)) (tc_Xbroken hw hx hd hk (fun r hr => nm_e (nm_e ?_)))
    rw [nI_1]
    refine ih _ (fun a ha => ?_)
    rw [tc_lb_or, hs a ha, hr a ha]
    rfl
end
