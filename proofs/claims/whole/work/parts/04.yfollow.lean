section
variable {c : tc_C} {kd fs ss cn mo pl de gu my kp : Nat → Int32} {ou : Int32}
/-- the reference's arrays show the circuit -/
def tc_RY (c : tc_C) (kd fs ss cn mo pl de gu : Nat → Int32) : Prop := cn 0 = nI (tc_ac c) ∧ cn 1 = nI (tc_cc c) ∧ (∀ j, j < tc_n c → kd j = nI (tc_K c j) ∧ (tc_K c j ≠ 0 → fs j = nI (tc_F c j)) ∧ (2 ≤ tc_K c j → tc_K c j ≤ 4 → ss j = nI (tc_S c j))) ∧ (∀ s, tc_used c s → mo s = nI (tc_T c s) ∧ pl s = nI (tc_Q c s) ∧ de s = nI (tc_D c s) ∧ gu s = nI (tc_G c s))
def tc_cd (w : tc_B) : Int32 := (if w.1 then 1 else 0) + (if w.2 then 2 else 0)
theorem tc_pY (t j : Nat) : 20 * nI t + nI j = nI (20 * t + j) := by
  rw [show (20 : Int32) = nI 20 from rfl, pk_mul, nI_add]
theorem tc_cd_cut (w : tc_B) (d : Bool) : tc_cd w &&& ((1 : Int32) <<< (tc_i d &&& 31)) = tc_cd (tc_cut true d w) := by
  rcases w with ⟨x, y⟩
  cases x <;> cases y <;> cases d <;> decide
theorem tc_cut_f (w : tc_B) (d : Bool) : tc_cut false d w = w := by
  rcases w with ⟨x, y⟩
  cases x <;> cases y <;> cases d <;> decide
theorem tc_cd0 (w : tc_B) : tc_cd w = 0 ↔ (!(w.1 || w.2)) = true := by
  rcases w with ⟨x, y⟩
  cases x <;> cases y <;> decide
theorem tc_cd_oth (w : tc_B) (d : Bool) : ((tc_cd w >>> ((1 - tc_i d) &&& 31)) &&& 1) = tc_i (d && w.1 || !d && w.2) := by
  rcases w with ⟨x, y⟩
  cases x <;> cases y <;> cases d <;> decide
theorem tc_i_1 (b : Bool) : tc_i b = 1 ↔ b = true := by cases b <;> decide
theorem tc_i_0 (b : Bool) : tc_i b = 0 ↔ b = false := by cases b <;> decide
theorem tc_br1 {A B : Prop} {b : Bool} (f : b = true → A) (g : b = false → B) : (tc_i b = 1 → A) ∧ (¬ tc_i b = 1 → B) :=
  ⟨fun z => f ((tc_i_1 b).mp z), fun z => g (ts_nt (fun y => z ((tc_i_1 b).mpr y)))⟩
theorem tc_br0 {A B : Prop} {b : Bool} (g : b = false → A) (f : b = true → B) : (tc_i b = 0 → A) ∧ (¬ tc_i b = 0 → B) :=
  ⟨fun z => g ((tc_i_0 b).mp z), fun z => f (ts_nf (fun y => z ((tc_i_0 b).mpr y)))⟩
theorem tc_cd_m {A B : Prop} {w : tc_B} (f : w.1 = true → A) (g : w.1 = false → B) : ((tc_cd w - tc_cd w / 2 * 2) = 1 → A) ∧ (¬ (tc_cd w - tc_cd w / 2 * 2) = 1 → B) := by
  rcases w with ⟨x, y⟩
  cases x
  · exact br_f (by cases y <;> decide) (g rfl)
  · exact br_t (by cases y <;> decide) (f rfl)
theorem tc_cd_l {A B : Prop} {w : tc_B} (f : w.2 = false → A) (g : w.2 = true → B) : (tc_cd w ≤ 1 → A) ∧ (¬ tc_cd w ≤ 1 → B) := by
  rcases w with ⟨x, y⟩
  cases y
  · exact br_t (by cases x <;> decide) (f rfl)
  · exact br_f (by cases x <;> decide) (g rfl)
theorem tc_Ycode {post : Int32 → Prop} {u : SY} (z o : Bool) (h : post (tc_cd (z, o))) : wpY_code post u (tc_i z) (tc_i o) := by
  rcases u with ⟨c, o', k, f, s, cn, mo, pl, de, gu, my, kp⟩
  cases z <;> cases o
  · exact br_t rfl (br_t rfl h)
  · exact br_t rfl (br_f (by decide) h)
  · exact br_f (by decide) (br_t rfl h)
  · exact br_f (by decide) (br_f (by decide) h)
theorem tc_Yown111 {post : Int32 → Prop} {x y : tc_B} {j κ : Nat} (h1 : 1 ≤ κ) (h4 : κ ≤ 4) (hj : j < 20) (ek : kd j = nI κ) (h : post (tc_cd (tc_gate κ x y))) : wY_own_111 post (nI j) (tc_i x.1) (tc_i x.2) (tc_i y.1) (tc_i y.2) (nI (tc_n c)) (ou) kd fs ss cn mo pl de gu (my) (kp) := by
  have ej : (nI j).toNatClampNeg = j := nI_clamp (by omega)
  have i0 : vp_in (nI j) 20 := vp_in_nI hj (by omega)
  rcases x with ⟨x1, x2⟩
  rcases y with ⟨y1, y2⟩
  unfold wY_own_111
  rw [ej, ek]
  refine ⟨i0, pk_eq κ 1 (fun z => ?_) (fun z1 => ⟨i0, pk_eq κ 2 (fun z => ?_) (fun z2 => ⟨i0, pk_eq κ 3 (fun z => ?_) (fun z3 => ?_)⟩)⟩)⟩
  · subst z
    exact tc_Ycode x2 x1 h
  · subst z
    cases x1 <;> cases x2 <;> cases y1 <;> cases y2 <;> simpa [wY_own_158, wY_own_153, wY_own_172, wY_own_173, wpY_code, wY_code_9, tc_i, tc_cd, tc_gate] using h
  · subst z
    cases x1 <;> cases x2 <;> cases y1 <;> cases y2 <;> simpa [wY_own_203, wY_own_202, wY_own_213, wY_own_218, wpY_code, wY_code_9, tc_i, tc_cd, tc_gate] using h
  · have : κ = 4 := by omega
    subst this
    cases x1 <;> cases x2 <;> cases y1 <;> cases y2 <;> simpa [wY_own_233, wY_own_243, wY_own_247, wY_own_248, wY_own_258, wY_own_268, wY_own_272, wY_own_273, wpY_code, wY_code_9, tc_i, tc_cd, tc_gate] using h
theorem tc_Yown57 {post : Int32 → Prop} {x y : tc_B} {j κ : Nat} (h1 : 1 ≤ κ) (h4 : κ ≤ 4) (hj : j < 20) (ek : kd j = nI κ) (h : post (tc_cd (tc_gate κ x y))) : wY_own_57 post (nI j) (tc_cd x) (tc_cd y) (nI (tc_n c)) (ou) kd fs ss cn mo pl de gu (my) (kp) := by
  have H := tc_Yown111 (fs := fs) (ss := ss) (cn := cn) (mo := mo) (pl := pl) (de := de) (gu := gu) (my := my) (kp := kp) (ou := ou) (c := c) h1 h4 hj ek h
  have h98 : wY_own_98 post (nI j) (tc_cd y) (tc_i x.1) (tc_i x.2) (tc_i y.1) (nI (tc_n c)) (ou) kd fs ss cn mo pl de gu (my) (kp) :=
    tc_cd_l (fun z => by rw [z] at H; exact H) (fun z => by rw [z] at H; exact H)
  have h83 : wY_own_83 post (nI j) (tc_cd y) (tc_i x.1) (tc_i x.2) (nI (tc_n c)) (ou) kd fs ss cn mo pl de gu (my) (kp) :=
    ⟨by decide, tc_cd_m (fun z => by rw [z] at h98; exact h98) (fun z => by rw [z] at h98; exact h98)⟩
  have h71 : wY_own_71 post (nI j) (tc_cd x) (tc_cd y) (tc_i x.1) (nI (tc_n c)) (ou) kd fs ss cn mo pl de gu (my) (kp) :=
    tc_cd_l (fun z => by rw [z] at h83; exact h83) (fun z => by rw [z] at h83; exact h83)
  exact ⟨by decide, tc_cd_m (fun z => by rw [z] at h71; exact h71) (fun z => by rw [z] at h71; exact h71)⟩
theorem tc_Yown {post : Int32 → Prop} {t j : Nat} (hw : tc_wf c) (hy : tc_RY c kd fs ss cn mo pl de gu) (ht : t < 4) (hj : j < tc_n c) (h1 : 1 ≤ tc_K c j) (h4 : tc_K c j ≤ 4) (m : Nat → tc_B) (hm : ∀ t' j', j' < tc_n c → (t' < t ∨ t' = t ∧ j' < j) → my (20 * t' + j') = tc_cd (m (20 * t' + j')))
    (h : post (tc_cd (tc_gate (tc_K c j) (m (20 * t + tc_F c j)) (m (20 * t + tc_S c j))))) : wpY_own post (nI (tc_n c), ou, kd, fs, ss, cn, mo, pl, de, gu, my, kp) (nI t) (nI j) := by
  obtain ⟨h20, hac, hcc, hN, hI⟩ := hw
  obtain ⟨k5, f, s, k0, kf, ks, kk⟩ := hN j hj
  obtain ⟨ek, ef, es⟩ := hy.2.2.1 j hj
  have ef := ef (by omega)
  have ej : (nI j).toNatClampNeg = j := nI_clamp (by omega)
  have e2 : (nI (20 * t + tc_F c j)).toNatClampNeg = 20 * t + tc_F c j := nI_clamp (by omega)
  have e3 : (nI (20 * t + tc_S c j)).toNatClampNeg = 20 * t + tc_S c j := nI_clamp (by omega)
  have i0 : vp_in (nI j) 20 := vp_in_nI (by omega) (by omega)
  have i2 : vp_in (nI (20 * t + tc_F c j)) 80 := vp_in_nI (by omega) (by omega)
  have i3 : vp_in (nI (20 * t + tc_S c j)) 80 := vp_in_nI (by omega) (by omega)
  have v2 := hm t (tc_F c j) f (Or.inr ⟨rfl, kf h1 h4⟩)
  unfold wpY_own
  dsimp only
  rw [ej, ek, ef, tc_pY, e2, v2]
  refine ⟨i0, i2, nm_e ⟨i0, pk_le (tc_K c j) 1 (fun z => ?_) (fun z => ⟨i0, pk_le 5 (tc_K c j) (fun z5 => by omega) (fun z5 => ⟨i0, ?_⟩)⟩)⟩⟩
  · have e : tc_gate (tc_K c j) (m (20 * t + tc_F c j)) (m (20 * t + tc_S c j)) = tc_gate (tc_K c j) (m (20 * t + tc_F c j)) (false, false) := by
      have : tc_K c j = 1 := by omega
      unfold tc_gate
      rw [if_pos this, if_pos this]
    rw [e] at h
    exact tc_Yown57 (y := (false, false)) h1 h4 (by omega) ek h
  · rw [es (by omega) h4, tc_pY, e3, hm t (tc_S c j) s (Or.inr ⟨rfl, ks (by omega) h4⟩)]
    exact ⟨i3, tc_Yown57 h1 h4 (by omega) ek h⟩
theorem tc_Ybefore25 {post : Int32 → Prop} {t j : Nat} (hw : tc_wf c) (hy : tc_RY c kd fs ss cn mo pl de gu) (ht : t < 4) (hj : j < tc_n c) (h0 : tc_K c j ≠ 0) (h5 : tc_K c j = 5 → t ≠ 0) (m : Nat → tc_B) (hm : ∀ t' j', j' < tc_n c → (t' < t ∨ t' = t ∧ j' < j) → my (20 * t' + j') = tc_cd (m (20 * t' + j')))
    (h : post (tc_cd (tc_base c m t j))) : wY_before_25 post (nI t) (nI j) (nI (tc_n c)) (ou) kd fs ss cn mo pl de gu (my) (kp) := by
  have hw' := hw
  obtain ⟨h20, hac, hcc, hN, hI⟩ := hw
  obtain ⟨k5, f, s, k0, kf, ks, kk⟩ := hN j hj
  obtain ⟨ek, ef, es⟩ := hy.2.2.1 j hj
  have ef := ef (by omega)
  have ej : (nI j).toNatClampNeg = j := nI_clamp (by omega)
  have i0 : vp_in (nI j) 20 := vp_in_nI (by omega) (by omega)
  unfold tc_base at h
  rw [if_neg h0] at h
  unfold wY_before_25
  rw [ej, ek]
  refine ⟨i0, pk_eq (tc_K c j) 5 (fun z => ⟨i0, ?_⟩) (fun z => ?_)⟩
  · have t0 := h5 z
    have e2 : (nI (20 * (t - 1) + tc_F c j)).toNatClampNeg = 20 * (t - 1) + tc_F c j := nI_clamp (by omega)
    have i2 : vp_in (nI (20 * (t - 1) + tc_F c j)) 80 := vp_in_nI (by omega) (by omega)
    have e : 20 * nI t - 20 + nI (tc_F c j) = nI (20 * (t - 1) + tc_F c j) := by
      rw [show (20 : Int32) = nI 20 from rfl, pk_mul, pk_sub (by omega), nI_add]
      exact congrArg nI (by omega)
    rw [if_pos z, if_neg t0] at h
    rw [ef, e, e2, hm (t - 1) _ f (Or.inl (by omega))]
    exact ⟨i2, h⟩
  · rw [if_neg z] at h
    exact tc_Yown hw' hy ht hj (by omega) (by omega) m hm h
theorem tc_Ybefore {post : Int32 → Prop} {t j : Nat} (hw : tc_wf c) (hy : tc_RY c kd fs ss cn mo pl de gu) (ht : t < 4) (hj : j < tc_n c) (m : Nat → tc_B) (hm : ∀ t' j', j' < tc_n c → (t' < t ∨ t' = t ∧ j' < j) → my (20 * t' + j') = tc_cd (m (20 * t' + j')))
    (h : post (tc_cd (tc_base c m t j))) : wpY_before post (nI (tc_n c), ou, kd, fs, ss, cn, mo, pl, de, gu, my, kp) (nI t) (nI j) := by
  have h20 : tc_n c ≤ 20 := hw.1
  have k5 : tc_K c j ≤ 5 := (hw.2.2.2.1 j hj).1
  obtain ⟨ek, ef, es⟩ := hy.2.2.1 j hj
  have ej : (nI j).toNatClampNeg = j := nI_clamp (by omega)
  have i0 : vp_in (nI j) 20 := vp_in_nI (by omega) (by omega)
  unfold wpY_before
  dsimp only
  rw [ej, ek]
  refine ⟨i0, pk_eq (tc_K c j) 0 (fun z => ?_) (fun z => ⟨i0, pk_eq (tc_K c j) 5 (fun z5 => pk_eq t 0 (fun z0 => ?_) (fun z0 => ?_)) (fun z5 => ?_)⟩)⟩
  · unfold tc_base at h
    rw [if_pos z] at h
    exact h
  · unfold tc_base at h
    rw [if_neg z, if_pos z5, if_pos z0] at h
    exact h
  · exact tc_Ybefore25 hw hy ht hj z (fun _ => z0) m hm h
  · exact tc_Ybefore25 hw hy ht hj z (fun y => absurd y z5) m hm h
theorem tc_Yas {post : SY → Prop} {J2 J9 : Int32 → (Nat → Int32) → (Nat → Int32) → (Nat → Int32) → (Nat → Int32) → (Nat → Int32) → (Nat → Int32) → (Nat → Int32) → (Nat → Int32) → (Nat → Int32) → (Nat → Int32) → Prop} {a t j : Nat} (hw : tc_wf c) (hy : tc_RY c kd fs ss cn mo pl de gu) (ha : a < 64) (ht : t < 4) (hj : j < tc_n c) (w : tc_B)
    (h : J9 (nI (j + 1)) kd fs ss cn mo pl de gu (upd my (20 * t + j) (tc_cd (tc_as c ou a (20 * t + j) (tc_ac c) w))) kp) : ∃ n, wY_follow_28 post J2 J9 (nI a) (nI t) (nI j) (nI (tc_n c)) (ou) kd fs ss cn mo pl de gu (my) (kp) n (tc_cd w) 0 := by
  obtain ⟨h20, hac, hcc, hN, hI⟩ := hw
  have e1 : (nI (20 * t + j)).toNatClampNeg = 20 * t + j := nI_clamp (by omega)
  have i1 : vp_in (nI (20 * t + j)) 80 := vp_in_nI (by omega) (by omega)
  refine loop_0 (fun n i s => wY_follow_28 post J2 J9 (nI a) (nI t) (nI j) (nI (tc_n c)) (ou) kd fs ss cn mo pl de gu (my) (kp) n s (nI i)) (fun i s => s = tc_cd (tc_as c ou a (20 * t + j) i w)) (tc_ac c) (tc_cd w) rfl ?_ ?_
  · intro n s hs
    subst hs
    unfold wY_follow_28
    rw [hy.1, tc_pY, e1, nI_1]
    exact br_t (nI_le (Nat.le_refl _) (by omega)) ⟨i1, nm_e (nm_e h)⟩
  · intro n i s hi hs ih
    subst hs
    have hu : tc_used c i := Or.inl hi
    obtain ⟨em, ep, ed, eg⟩ := hy.2.2.2 i hu
    obtain ⟨b1, b2, b3, b4⟩ := hI i hu
    have ec : (nI i).toNatClampNeg = i := nI_clamp (by omega)
    have i2 : vp_in (nI i) 24 := vp_in_nI (by omega) (by omega)
    have skip : tc_as c ou a (20 * t + j) (i + 1) w = tc_as c ou a (20 * t + j) i w → wY_follow_90 post J2 J9 (wY_follow_28 post J2 J9 (nI a) (nI t) (nI j) (nI (tc_n c)) (ou) kd fs ss cn mo pl de gu (my) (kp) n) (nI a) (nI t) (nI j) (tc_cd (tc_as c ou a (20 * t + j) i w)) (nI i) (nI (tc_n c)) (ou) kd fs ss cn mo pl de gu (my) (kp) := by
      intro e
      refine br_t rfl (nm_e ?_)
      rw [nI_1]
      exact ih _ (by rw [e])
    unfold wY_follow_28
    rw [hy.1, ec, em, ep, eg]
    refine br_f (nI_ge hi (by omega)) (br_c (fun z => skip ?_) (fun z => ⟨i2, pk_eq (tc_T c i) t (fun y => ⟨i2, pk_eq (tc_Q c i) j (fun x => ⟨i2, tc_Yliteral _ b4 ha (tc_br1 (fun g => ?_) (fun g => skip ?_))⟩) (fun x => skip ?_)⟩) (fun y => skip ?_)⟩))
    · show (if nI i ≠ ou ∧ _ then _ else _) = _
      rw [if_neg (fun q => q.1 z)]
    · refine br_f (by decide) ⟨i2, ?_⟩
      rw [ec, ed]
      refine tc_Yliteral _ b3 ha (nm_e (nm_e ?_))
      rw [tc_cd_cut, nI_1]
      refine ih _ ?_
      show _ = tc_cd (if nI i ≠ ou ∧ _ then _ else _)
      rw [if_pos ⟨z, by omega⟩, g]
    · show (if nI i ≠ ou ∧ _ then _ else _) = _
      rw [if_pos ⟨z, by omega⟩, g, tc_cut_f]
    · show (if nI i ≠ ou ∧ _ then _ else _) = _
      rw [if_neg (fun q => x (by have := q.2; omega))]
    · show (if nI i ≠ ou ∧ _ then _ else _) = _
      rw [if_neg (fun q => y (by have := q.2; omega))]
def tc_dnY (c : tc_C) (ou : Int32) (a : Nat) (my : Nat → Int32) (t j : Nat) : Prop := ∀ t' j', j' < tc_n c → (t' < t ∨ t' = t ∧ j' < j) → my (20 * t' + j') = tc_cd (tc_V c ou a (20 * t' + j'))
theorem tc_Yfollow {post : SY → Prop} {a : Nat} (hw : tc_wf c) (hy : tc_RY c kd fs ss cn mo pl de gu) (ha : a < 64)
    (h : ∀ my', tc_dnY c ou a my' 4 0 → post (nI (tc_n c), ou, kd, fs, ss, cn, mo, pl, de, gu, my', kp)) : wpY_follow post (nI (tc_n c), ou, kd, fs, ss, cn, mo, pl, de, gu, my, kp) (nI a) := by
  have h20 : tc_n c ≤ 20 := hw.1
  refine loop_0 (fun n i s => wY_follow_2 post (nI a) (nI (tc_n c)) ou n (nI i) kd fs ss cn mo pl de gu s kp) (fun i s => tc_dnY c ou a s i 0) 4 my (fun t' j' _ hl => by omega) ?_ ?_
  · intro n s hs
    exact br_t (nI_le (a := 4) (b := 4) (by omega) (by omega)) (h _ hs)
  · intro n t s ht hs ih
    refine br_f (nI_ge (b := 4) ht (by omega)) ?_
    refine loop_0 (fun n' i s => wY_follow_9 post (wY_follow_2 post (nI a) (nI (tc_n c)) ou n) (nI a) (nI t) (nI (tc_n c)) ou n' (nI i) kd fs ss cn mo pl de gu s kp) (fun i s => tc_dnY c ou a s t i) (tc_n c) s hs ?_ ?_
    · intro n' s' hs'
      refine br_t (nI_le (Nat.le_refl _) (by omega)) (nm_e ?_)
      rw [nI_1]
      exact ih s' (fun t' j' hj' hl => hs' t' j' hj' (by omega))
    · intro n' j s' hj hs' ih'
      refine br_f (nI_ge hj (by omega)) (tc_Ybefore hw hy ht hj (tc_V c ou a) hs' ?_)
      refine tc_Yas hw hy ha ht hj _ (ih' _ ?_)
      intro t' j' hj' hl
      by_cases e : 20 * t' + j' = 20 * t + j
      · have : t' = t ∧ j' = j := by omega
        obtain ⟨rfl, rfl⟩ := this
        rw [pk_us, tc_V_eq ou a hw hj]
      · have hl' : t' < t ∨ t' = t ∧ j' < j := by omega
        rw [pk_un e]
        exact hs' t' j' hj' hl'
theorem tc_YisIdle {post : Int32 → Prop} {a : Nat} (hw : tc_wf c) (hd : tc_dnY c ou a my 4 0) (h : post (tc_i (tc_idl c ou a))) : wpY_isIdle post (nI (tc_n c), ou, kd, fs, ss, cn, mo, pl, de, gu, my, kp) := by
  have h20 : tc_n c ≤ 20 := hw.1
  refine loop_0 (fun n i (_ : Unit) => wY_isIdle_2 post (nI (tc_n c)) (ou) kd fs ss cn mo pl de gu (my) (kp) n (nI i)) (fun i _ => tc_any (fun t => tc_any (fun j => !((tc_V c ou a (20 * t + j)).1 || (tc_V c ou a (20 * t + j)).2)) (tc_n c)) i = false) 4 () rfl ?_ ?_
  · intro n s hs
    refine br_t (nI_le (a := 4) (b := 4) (by omega) (by omega)) ?_
    have e : tc_idl c ou a = false := hs
    rw [e] at h
    exact h
  · intro n t s ht hs ih
    refine br_f (nI_ge (b := 4) ht (by omega)) ?_
    refine loop_0 (fun n' i (_ : Unit) => wY_isIdle_9 post (wY_isIdle_2 post (nI (tc_n c)) (ou) kd fs ss cn mo pl de gu (my) (kp) n) (nI t) (nI (tc_n c)) (ou) kd fs ss cn mo pl de gu (my) (kp) n' (nI i)) (fun i _ => tc_any (fun j => !((tc_V c ou a (20 * t + j)).1 || (tc_V c ou a (20 * t + j)).2)) i = false) (tc_n c) () rfl ?_ ?_
    · intro n' s' hs'
      refine br_t (nI_le (Nat.le_refl _) (by omega)) (nm_e ?_)
      rw [nI_1]
      refine ih () ?_
      show (tc_any _ t || tc_any _ (tc_n c)) = false
      rw [hs, hs']
      rfl
    · intro n' j s' hj hs' ih'
      have e1 : (nI (20 * t + j)).toNatClampNeg = 20 * t + j := nI_clamp (by omega)
      have i1 : vp_in (nI (20 * t + j)) 80 := vp_in_nI (by omega) (by omega)
      unfold wY_isIdle_9
      rw [tc_pY, e1, hd t j hj (Or.inl ht)]
      refine br_f (nI_ge hj (by omega)) ⟨i1, br_c (fun z => ?_) (fun z => nm_e ?_)⟩
      · have z' := (tc_cd0 _).mp z
        have e : tc_idl c ou a = true := tc_any_of (f := fun t => tc_any (fun j => !((tc_V c ou a (20 * t + j)).1 || (tc_V c ou a (20 * t + j)).2)) (tc_n c)) (i := t) (tc_any_of (f := fun j => !((tc_V c ou a (20 * t + j)).1 || (tc_V c ou a (20 * t + j)).2)) z' hj) ht
        rw [e] at h
        exact h
      · rw [nI_1]
        refine ih' () ?_
        show (tc_any _ j || !((tc_V c ou a (20 * t + j)).1 || (tc_V c ou a (20 * t + j)).2)) = false
        rw [hs', ts_nt (fun y => z ((tc_cd0 _).mpr y))]
        rfl
theorem tc_Ybreaks {post : Int32 → Prop} {a k : Nat} (hw : tc_wf c) (hy : tc_RY c kd fs ss cn mo pl de gu) (hd : tc_dnY c ou a my 4 0) (ha : a < 64) (hk : k < tc_cc c) (h : post (tc_i (tc_brk c ou a k))) : wpY_breaks post (nI (tc_n c), ou, kd, fs, ss, cn, mo, pl, de, gu, my, kp) (nI k) (nI a) := by
  obtain ⟨h20, hac, hcc, hN, hI⟩ := hw
  have hu : tc_used c (12 + k) := Or.inr (by omega)
  obtain ⟨t4, qn, b3, b4⟩ := hI _ hu
  obtain ⟨em, ep, ed, eg⟩ := hy.2.2.2 _ hu
  have e0 : 12 + nI k = nI (12 + k) := nI_add 12 k
  have ec : (nI (12 + k)).toNatClampNeg = 12 + k := nI_clamp (by omega)
  have i2 : vp_in (nI (12 + k)) 24 := vp_in_nI (by omega) (by omega)
  have e1 : (nI (20 * tc_T c (12 + k) + tc_Q c (12 + k))).toNatClampNeg = 20 * tc_T c (12 + k) + tc_Q c (12 + k) := nI_clamp (by omega)
  have i1 : vp_in (nI (20 * tc_T c (12 + k) + tc_Q c (12 + k))) 80 := vp_in_nI (by omega) (by omega)
  unfold wpY_breaks
  dsimp only
  rw [e0]
  refine nm_e ?_
  rw [ec, em, ep, ed, eg, tc_pY, e1, hd _ _ qn (Or.inl t4)]
  refine ⟨i2, tc_Yliteral _ b4 ha (tc_br0 (fun g => ?_) (fun g => ⟨i2, tc_Yliteral _ b3 ha (nm_e ⟨i2, i2, i1, ?_⟩)⟩))⟩
  · unfold tc_brk at h
    rw [g] at h
    exact h
  · unfold tc_brk at h
    rw [g, Bool.true_and] at h
    rw [tc_cd_oth]
    exact tc_br1 (fun z => by rw [z] at h; exact h) (fun z => by rw [z] at h; exact h)
theorem tc_YfailsNow {post : Int32 → Prop} {a : Nat} (hw : tc_wf c) (hy : tc_RY c kd fs ss cn mo pl de gu) (hd : tc_dnY c ou a my 4 0) (ha : a < 64) (h : post (tc_i (tc_fail c ou a))) : wpY_failsNow post (nI (tc_n c), ou, kd, fs, ss, cn, mo, pl, de, gu, my, kp) (nI a) := by
  have hcc : tc_cc c ≤ 12 := hw.2.2.1
  unfold wpY_failsNow
  dsimp only
  refine tc_YisIdle hw hd (tc_br0 (fun g => ?_) (fun g => ?_))
  · have e : tc_fail c ou a = tc_any (tc_brk c ou a) (tc_cc c) := by
      unfold tc_fail
      rw [g]
      exact Bool.and_true _
    rw [e] at h
    refine loop_0 (fun n i (_ : Unit) => wY_failsNow_11 post (nI a) (nI (tc_n c)) (ou) kd fs ss cn mo pl de gu (my) (kp) n (nI i)) (fun i _ => tc_any (tc_brk c ou a) i = false) (tc_cc c) () rfl ?_ ?_
    · intro n s hs
      unfold wY_failsNow_11
      rw [hy.2.1]
      rw [hs] at h
      exact br_t (nI_le (Nat.le_refl _) (by omega)) h
    · intro n k s hk hs ih
      unfold wY_failsNow_11
      rw [hy.2.1]
      refine br_f (nI_ge hk (by omega)) (tc_Ybreaks hw hy hd ha hk (tc_br0 (fun z => nm_e ?_) (fun z => ?_)))
      · rw [nI_1]
        refine ih () ?_
        show (tc_any _ k || _) = false
        rw [hs, z]
        rfl
      · rw [tc_any_of z hk] at h
        exact h
  · unfold tc_fail at h
    rw [g, Bool.not_true, Bool.and_false] at h
    exact h
theorem tc_YcountFails {post : Int32 → SY → Prop} (hw : tc_wf c) (hy : tc_RY c kd fs ss cn mo pl de gu) (h : ∀ my', post (nI (tc_cnt (tc_fail c ou) 64)) (nI (tc_n c), ou, kd, fs, ss, cn, mo, pl, de, gu, my', kp)) : wpY_countFails post (nI (tc_n c), ou, kd, fs, ss, cn, mo, pl, de, gu, my, kp) := by
  refine loop_0 (fun n i s => wY_countFails_4 post n (nI (tc_cnt (tc_fail c ou) i)) (nI i) (nI (tc_n c)) (ou) kd fs ss cn mo pl de gu (s) (kp)) (fun _ _ => True) 64 my trivial ?_ ?_
  · intro n s _
    exact br_t (nI_le (a := 64) (b := 64) (by omega) (by omega)) (h s)
  · intro n a s ha _ ih
    refine br_f (nI_ge (b := 64) ha (by omega)) (tc_Yfollow hw hy ha (fun my' hd => ?_))
    refine tc_YfailsNow hw hy hd ha (tc_br0 (fun z => nm_e ?_) (fun z => nm_e (nm_e ?_)))
    · have := ih my' trivial
      rw [tc_cnt_f z] at this
      rw [nI_1]
      exact this
    · have := ih my' trivial
      rw [tc_cnt_t z] at this
      rw [nI_1, nI_1]
      exact this
theorem tc_Ykeep {post : SY → Prop} {t j : Nat} (hw : tc_wf c) (hy : tc_RY c kd fs ss cn mo pl de gu) (ht : t < 4) (hj : j < tc_n c) (h : ∀ my' kp', (∀ a, a < 64 → kp' a = tc_cd (tc_V c ou a (20 * t + j))) → post (nI (tc_n c), ou, kd, fs, ss, cn, mo, pl, de, gu, my', kp')) : wpY_keep post (nI (tc_n c), ou, kd, fs, ss, cn, mo, pl, de, gu, my, kp) (nI t) (nI j) := by
  have h20 : tc_n c ≤ 20 := hw.1
  have e1 : (nI (20 * t + j)).toNatClampNeg = 20 * t + j := nI_clamp (by omega)
  have i1 : vp_in (nI (20 * t + j)) 80 := vp_in_nI (by omega) (by omega)
  refine loop_0 (fun n i s => wY_keep_2 post (nI t) (nI j) n (nI i) (nI (tc_n c)) (ou) kd fs ss cn mo pl de gu (s.1) (s.2)) (fun i s => ∀ a, a < i → s.2 a = tc_cd (tc_V c ou a (20 * t + j))) 64 (my, kp) (fun a ha => by omega) ?_ ?_
  · intro n s hs
    exact br_t (nI_le (a := 64) (b := 64) (by omega) (by omega)) (h _ _ hs)
  · intro n a s ha hs ih
    obtain ⟨s1, s2⟩ := s
    refine br_f (nI_ge (b := 64) ha (by omega)) (tc_Yfollow hw hy ha (fun my' hd => ?_))
    have ec : (nI a).toNatClampNeg = a := nI_clamp (by omega)
    dsimp only
    rw [tc_pY, e1, ec, hd t j hj (Or.inl ht)]
    refine ⟨i1, vp_in_nI ha (by omega), nm_e (nm_e ?_)⟩
    rw [nI_1]
    refine ih (my', _) (fun b hb => ?_)
    show upd s2 a _ b = _
    by_cases e : b = a
    · subst e
      exact pk_us
    · rw [pk_un e]
      exact hs b (by omega)
end
