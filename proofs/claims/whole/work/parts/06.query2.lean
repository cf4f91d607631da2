/-! ===== needs ===== -/
theorem tc_lb_shr (w : Int64) {s : UInt64} {j : Nat} (hj : j < 64) (hs : s.toNat = j) (i : Nat) : tc_lb ((w.toUInt64 >>> s).toInt64) i = tc_lb w (j + i) := by
  have e : (w.toUInt64 >>> s).toInt64.toBitVec = w.toBitVec >>> j := by
    apply BitVec.eq_of_toNat_eq
    show (w.toUInt64 >>> s).toNat = _
    rw [UInt64.toNat_shiftRight, hs, Nat.mod_eq_of_lt hj, BitVec.toNat_ushiftRight]
    rfl
  unfold tc_lb
  rw [e, BitVec.getLsbD_ushiftRight]
theorem tc_p2 : ∀ k, k < 6 → (1 : Int32) <<< (nI k &&& 31) = nI (2 ^ k) ∧ 2 ^ k < 64 := by decide +kernel
def tc_dep (g : Nat → Bool) (k : Nat) : Bool := tc_any (fun a => (g a ^^ g (2 ^ k + a)) && !a.testBit k) 64
theorem tc_Xdepends {post : Int32 → Prop} {x : Int64} {k : Nat} (hk : k < 6) (h : post (tc_i (tc_dep (tc_lb x) k))) : wpX_dependsOn post x (nI k) := by
  obtain ⟨e2, h2⟩ := tc_p2 k hk
  unfold wpX_dependsOn
  rw [e2]
  refine nm_e (tc_Xvariable hk (fun r hr => br_c (fun z => ?_) (fun z => ?_)))
  · have e : tc_dep (tc_lb x) k = false := by
      refine ts_nt (fun y => ?_)
      obtain ⟨a, ha, hf⟩ := (tc_any_iff _ _).mp y
      have hb := congrArg (fun q => tc_lb q a) z
      simp only [tc_lb_and, tc_lb_not _ ha, tc_lb_xor, tc_lb_shr x h2 (tc_cu _ h2), hr a ha, tc_lb_0] at hb
      rw [hb] at hf
      exact absurd hf (by decide)
    rw [e] at h
    exact h
  · have e : tc_dep (tc_lb x) k = true := by
      refine ts_nf (fun y => z (tc_lb_ext (fun a ha => ?_)))
      simp only [tc_lb_and, tc_lb_not _ ha, tc_lb_xor, tc_lb_shr x h2 (tc_cu _ h2), hr a ha, tc_lb_0]
      refine ts_nt (fun w => ?_)
      have := tc_any_of (f := fun a => (tc_lb x a ^^ tc_lb x (2 ^ k + a)) && !a.testBit k) w ha
      unfold tc_dep at y
      rw [y] at this
      exact absurd this (by decide)
    rw [e] at h
    exact h
/-- the mask of the k below i that f holds of -/
def tc_nd (f : Nat → Bool) : Nat → Int32
  | 0 => 0
  | k + 1 => if f k then tc_nd f k ||| ((1 : Int32) <<< (nI k &&& 31)) else tc_nd f k
theorem tc_nd_congr {f g : Nat → Bool} : ∀ {k : Nat}, (∀ i, i < k → f i = g i) → tc_nd f k = tc_nd g k := by
  intro k
  induction k with
  | zero => intro _; rfl
  | succ k ih =>
    intro h
    show (if f k then tc_nd f k ||| _ else tc_nd f k) = (if g k then tc_nd g k ||| _ else tc_nd g k)
    rw [ih (fun i hi => h i (by omega)), h k (by omega)]
theorem tc_nd_t {f : Nat → Bool} {k : Nat} (h : f k = true) : tc_nd f (k + 1) = tc_nd f k ||| ((1 : Int32) <<< (nI k &&& 31)) := by
  show (if f k then tc_nd f k ||| _ else tc_nd f k) = _
  rw [h]; rfl
theorem tc_nd_f {f : Nat → Bool} {k : Nat} (h : f k = false) : tc_nd f (k + 1) = tc_nd f k := by
  show (if f k then tc_nd f k ||| _ else tc_nd f k) = _
  rw [h]; rfl
def tc_ndf (W : Nat → tc_B) (k : Nat) : Bool := tc_any (fun a => decide (tc_cd (W a) ≠ tc_cd (W (a ^^^ 2 ^ k)))) 64
theorem tc_xr : ∀ k, k < 6 → ∀ a, a < 64 → (a ^^^ 2 ^ k) < 64 ∧ (a.testBit k = false → a ^^^ 2 ^ k = 2 ^ k + a) ∧ (a.testBit k = true → (a ^^^ 2 ^ k).testBit k = false ∧ 2 ^ k + (a ^^^ 2 ^ k) = a) := by decide +kernel
theorem tc_cd_ne (w z : tc_B) : tc_cd w ≠ tc_cd z ↔ (w.1 ^^ z.1) = true ∨ (w.2 ^^ z.2) = true := by
  rcases w with ⟨x, y⟩
  rcases z with ⟨x', y'⟩
  cases x <;> cases y <;> cases x' <;> cases y' <;> decide
theorem tc_depE {W : Nat → tc_B} {x y : Int64} {k : Nat} (hk : k < 6) (h : ∀ a, a < 64 → (tc_lb x a, tc_lb y a) = W a) : (tc_dep (tc_lb x) k || tc_dep (tc_lb y) k) = tc_ndf W k := by
  have hx : ∀ a, a < 64 → tc_lb x a = (W a).1 := fun a ha => by rw [← h a ha]
  have hy : ∀ a, a < 64 → tc_lb y a = (W a).2 := fun a ha => by rw [← h a ha]
  have key : (tc_dep (tc_lb x) k = true ∨ tc_dep (tc_lb y) k = true) ↔ tc_ndf W k = true := by
    constructor
    · rintro (z | z)
      · obtain ⟨a, ha, hf⟩ := (tc_any_iff _ _).mp z
        obtain ⟨l, e, _⟩ := tc_xr k hk a ha
        rw [Bool.and_eq_true, Bool.not_eq_true'] at hf
        have e := e hf.2
        refine tc_any_of (i := a) ?_ ha
        refine decide_eq_true ((tc_cd_ne _ _).mpr (Or.inl ?_))
        rw [← hx a ha, ← hx _ l, e]
        exact hf.1
      · obtain ⟨a, ha, hf⟩ := (tc_any_iff _ _).mp z
        obtain ⟨l, e, _⟩ := tc_xr k hk a ha
        rw [Bool.and_eq_true, Bool.not_eq_true'] at hf
        have e := e hf.2
        refine tc_any_of (i := a) ?_ ha
        refine decide_eq_true ((tc_cd_ne _ _).mpr (Or.inr ?_))
        rw [← hy a ha, ← hy _ l, e]
        exact hf.1
    · intro z
      obtain ⟨a, ha, hf⟩ := (tc_any_iff _ _).mp z
      have hf := (tc_cd_ne _ _).mp (of_decide_eq_true hf)
      obtain ⟨l, e0, e1⟩ := tc_xr k hk a ha
      rw [← hx a ha, ← hx _ l, ← hy a ha, ← hy _ l] at hf
      cases b : a.testBit k
      · have e := e0 b
        rw [e] at hf
        rcases hf with q | q
        · exact Or.inl (tc_any_of (i := a) (by rw [q, b]; rfl) ha)
        · exact Or.inr (tc_any_of (i := a) (by rw [q, b]; rfl) ha)
      · obtain ⟨b', e⟩ := e1 b
        rcases hf with q | q
        · refine Or.inl (tc_any_of (i := a ^^^ 2 ^ k) ?_ l)
          rw [e, b', Bool.xor_comm, q]; rfl
        · refine Or.inr (tc_any_of (i := a ^^^ 2 ^ k) ?_ l)
          rw [e, b', Bool.xor_comm, q]; rfl
  rw [Bool.eq_iff_iff, Bool.or_eq_true]
  exact key
section
variable {c : tc_C} {kd fs ss ip : Nat → Int32} {dm ig m0 m1 : Nat → Int64} {cn mo pl de gu my kp : Nat → Int32}
theorem tc_Xneeds {post : Int32 → SX → Prop} {t j : Nat} (hw : tc_wf c) (hx : tc_RX c kd fs ss ip dm ig) (ht : t < 4) (hj : j < tc_n c) (h : ∀ m0' m1', post (tc_nd (tc_ndf (fun a => tc_V c (-1) a (20 * t + j))) 6) (nI (tc_n c), nI (tc_ac c), nI (tc_cc c), kd, fs, ss, ip, dm, ig, m0', m1')) : wpX_needs post (nI (tc_n c), nI (tc_ac c), nI (tc_cc c), kd, fs, ss, ip, dm, ig, m0, m1) (nI t) (nI j) := by
  have h20 : tc_n c ≤ 20 := hw.1
  have e1 : (nI (20 * t + j)).toNatClampNeg = 20 * t + j := nI_clamp (by omega)
  have i1 : vp_in (nI (20 * t + j)) 80 := vp_in_nI (by omega) (by omega)
  unfold wpX_needs
  dsimp only
  refine tc_XisMoment1 ht (br_f (by decide) (tc_XisNode1 h20 hj (br_f (by decide) (tc_Xfollow hw hx (fun a0 a1 hd => ?_)))))
  unfold wpX_placeOf
  dsimp only
  rw [tc_pX]
  refine loop_0 (fun n i s => wX_needs_34 post (nI (20 * t + j)) (nI (tc_n c)) (nI (tc_ac c)) (nI (tc_cc c)) kd fs ss ip dm ig (a0) (a1) n s (nI i)) (fun i s => s = tc_nd (tc_ndf (fun a => tc_V c (-1) a (20 * t + j))) i) 6 0 rfl ?_ ?_
  · intro n s hs
    subst hs
    exact br_t (nI_le (a := 6) (b := 6) (by omega) (by omega)) (h a0 a1)
  · intro n k s hk hs ih
    have E := tc_depE (W := fun a => tc_V c (-1) a (20 * t + j)) (x := a0 (20 * t + j)) (y := a1 (20 * t + j)) hk (fun a ha => hd t j hj (Or.inl ht) a ha)
    have more : tc_ndf (fun a => tc_V c (-1) a (20 * t + j)) k = true → wX_needs_69 post (wX_needs_34 post (nI (20 * t + j)) (nI (tc_n c)) (nI (tc_ac c)) (nI (tc_cc c)) kd fs ss ip dm ig (a0) (a1) n) (nI (20 * t + j)) s (nI k) (nI (tc_n c)) (nI (tc_ac c)) (nI (tc_cc c)) kd fs ss ip dm ig (a0) (a1) := by
      intro z
      refine nm_e (nm_e ?_)
      rw [nI_1]
      exact ih _ (by rw [tc_nd_t z, hs])
    unfold wX_needs_34
    rw [e1]
    refine br_f (nI_ge (b := 6) hk (by omega)) ⟨i1, tc_Xdepends hk (tc_br0 (fun y => ⟨i1, tc_Xdepends hk (tc_br0 (fun z => nm_e ?_) (fun z => more ?_))⟩) (fun y => more ?_))⟩
    · rw [y, z] at E
      rw [nI_1]
      exact ih _ (by rw [tc_nd_f E.symm, hs])
    · rw [← E, z, Bool.or_true]
    · rw [← E, y, Bool.true_or]
theorem tc_Yneeds {post : Int32 → SY → Prop} {t j : Nat} (hw : tc_wf c) (hy : tc_RY c kd fs ss cn mo pl de gu) (ht : t < 4) (hj : j < tc_n c) (h : ∀ my' kp', post (tc_nd (tc_ndf (fun a => tc_V c (-1) a (20 * t + j))) 6) (nI (tc_n c), -1, kd, fs, ss, cn, mo, pl, de, gu, my', kp')) : wpY_needs post (nI (tc_n c), -1, kd, fs, ss, cn, mo, pl, de, gu, my, kp) (nI t) (nI j) := by
  have h20 : tc_n c ≤ 20 := hw.1
  unfold wpY_needs
  dsimp only
  refine tc_YnoMoment0 ht (br_t rfl (tc_YnoNode0 h20 hj (br_t rfl (tc_Ykeep hw hy ht hj (fun my' kp' hv => ?_)))))
  have H := h my' kp'
  revert H
  generalize hW : (fun a => tc_V c (-1) a (20 * t + j)) = W
  have hv' : ∀ a, a < 64 → kp' a = tc_cd (W a) := fun a ha => by rw [← hW]; exact hv a ha
  intro H
  refine loop_0 (fun n i s => wY_needs_29 post (nI (tc_n c)) (-1) kd fs ss cn mo pl de gu (my') (kp') n s (nI i)) (fun i s => s = tc_nd (tc_ndf W) i) 6 0 rfl ?_ ?_
  · intro n s hs
    subst hs
    exact br_t (nI_le (a := 6) (b := 6) (by omega) (by omega)) H
  · intro n k s hk hs ih
    obtain ⟨e2, h2⟩ := tc_p2 k hk
    refine br_f (nI_ge (b := 6) hk (by omega)) ?_
    refine loop_0 (fun n' i s' => wY_needs_39 post (wY_needs_29 post (nI (tc_n c)) (-1) kd fs ss cn mo pl de gu (my') (kp') n) (nI k) (nI (tc_n c)) (-1) kd fs ss cn mo pl de gu (my') (kp') n' s' (nI i)) (fun i s' => s' = if tc_any (fun a => decide (tc_cd (W a) ≠ tc_cd (W (a ^^^ 2 ^ k)))) i then s ||| ((1 : Int32) <<< (nI k &&& 31)) else s) 64 s rfl ?_ ?_
    · intro n' s' hs'
      refine br_t (nI_le (a := 64) (b := 64) (by omega) (by omega)) (nm_e ?_)
      rw [nI_1]
      refine ih _ ?_
      rw [hs', hs]
      rfl
    · intro n' a s' ha hs' ih'
      have l := (tc_xr k hk a ha).1
      have ec : (nI a).toNatClampNeg = a := nI_clamp (by omega)
      have i1 : vp_in (nI a) 64 := vp_in_nI ha (by omega)
      have ed : (nI (a ^^^ 2 ^ k)).toNatClampNeg = a ^^^ 2 ^ k := nI_clamp (by omega)
      have i2 : vp_in (nI (a ^^^ 2 ^ k)) 64 := vp_in_nI l (by omega)
      unfold wY_needs_39
      rw [ec, show nI a ^^^ (1 : Int32) <<< (nI k &&& 31) = nI (a ^^^ 2 ^ k) by rw [e2, nx_xor], ed, hv' a ha, hv' _ l]
      refine br_f (nI_ge (b := 64) ha (by omega)) ⟨i1, i2, br_c (fun z => nm_e ?_) (fun z => nm_e (nm_e ?_))⟩
      · rw [nI_1]
        refine ih' _ ?_
        show _ = if (tc_any _ a || decide (tc_cd (W a) ≠ tc_cd (W (a ^^^ 2 ^ k)))) then _ else _
        rw [decide_eq_false (fun q => q z), Bool.or_false]
        exact hs'
      · rw [nI_1]
        refine ih' _ ?_
        show _ = if (tc_any _ a || decide (tc_cd (W a) ≠ tc_cd (W (a ^^^ 2 ^ k)))) then _ else _
        rw [decide_eq_true z, Bool.or_true, if_pos rfl, hs']
        split
        · apply b_ext
          intro i _
          rw [b_or, b_or, Bool.or_assoc, Bool.or_self]
        · rfl
end
theorem i_vc_needs {k : Nat} {u : SX} {v : SY} (I : i_Rel k u v) (hk : k + 6 ≤ 3072) (v1 : Int32) (v2 : Int32) : wpX_needs (fun r u' => wpY_needs (fun r' v' => r' = r ∧ i_Rel (k + 6) u' v') v v1 v2) u v1 v2 := by
  have I' := I
  obtain ⟨c, kd, fs, ss, ip, dm, ig, m0, m1, gs, ts, cn, mo, pl, de, gu, my, kp, hw, hx, hy, rfl, rfl⟩ := I
  have h20 : tc_n c ≤ 20 := hw.1
  rcases tc_ix v1 (n := 4) (by omega) with z1 | ⟨t, ht, rfl⟩
  · unfold wpX_needs wpY_needs
    dsimp only
    exact tc_XisMoment0 z1 (br_t rfl (tc_YnoMoment1 z1 (br_f (by decide) ⟨rfl, I'⟩)))
  rcases tc_ix v2 (n := tc_n c) (by omega) with z2 | ⟨j, hj, rfl⟩
  · unfold wpX_needs wpY_needs
    dsimp only
    exact tc_XisMoment1 ht (br_f (by decide) (tc_XisNode0 z2 (br_t rfl (tc_YnoMoment0 ht (br_t rfl (tc_YnoNode1 z2 (br_f (by decide) ⟨rfl, I'⟩)))))))
  exact tc_Xneeds hw hx ht hj (fun a0 a1 => tc_Yneeds hw hy ht hj (fun my' kp' => ⟨rfl, tc_relI a0 a1 my' kp' hw hx hy⟩))
/-! ===== fails, idle, first, failsOf, without ===== -/
theorem i_vc_fails {k : Nat} {u : SX} {v : SY} (I : i_Rel k u v) (hk : k + 6 ≤ 3072) : wpX_fails (fun r u' => wpY_fails (fun r' v' => r' = r ∧ i_Rel (k + 6) u' v') v) u := by
  obtain ⟨c, kd, fs, ss, ip, dm, ig, m0, m1, gs, ts, cn, mo, pl, de, gu, my, kp, hw, hx, hy, rfl, rfl⟩ := I
  unfold wpX_fails wpY_fails
  dsimp only
  refine tc_Xfollow hw hx (fun a0 a1 hd => tc_Xfailing hw hx hd (fun r hr => tc_Xsize ?_))
  refine tc_YcountFails hw hy (fun my' => ⟨?_, tc_relI a0 a1 my' kp hw hx hy⟩)
  rw [tc_cnt_congr hr]
theorem i_vc_idle {k : Nat} {u : SX} {v : SY} (I : i_Rel k u v) (hk : k + 6 ≤ 3072) : wpX_idle (fun r u' => wpY_idle (fun r' v' => r' = r ∧ i_Rel (k + 6) u' v') v) u := by
  obtain ⟨c, kd, fs, ss, ip, dm, ig, m0, m1, gs, ts, cn, mo, pl, de, gu, my, kp, hw, hx, hy, rfl, rfl⟩ := I
  unfold wpX_idle wpY_idle
  dsimp only
  refine tc_Xfollow hw hx (fun a0 a1 hd => tc_Xidle hw hd (fun r hr => tc_Xsize ?_))
  rw [tc_cnt_congr hr]
  refine loop_0 (fun n i s => wY_idle_4 _ n (nI (tc_cnt (tc_idl c (-1)) i)) (nI i) (nI (tc_n c)) (-1) kd gs ts cn mo pl de gu s kp) (fun _ _ => True) 64 my trivial ?_ ?_
  · intro n s _
    exact br_t (nI_le (a := 64) (b := 64) (by omega) (by omega)) ⟨rfl, tc_relI a0 a1 s kp hw hx hy⟩
  · intro n a s ha _ ih
    refine br_f (nI_ge (b := 64) ha (by omega)) (tc_Yfollow hw hy ha (fun my' hd => ?_))
    refine tc_YisIdle hw hd (tc_br0 (fun z => nm_e ?_) (fun z => nm_e (nm_e ?_)))
    · have := ih my' trivial
      rw [tc_cnt_f z] at this
      rw [nI_1]
      exact this
    · have := ih my' trivial
      rw [tc_cnt_t z] at this
      rw [nI_1, nI_1]
      exact this
theorem tc_fst_t {f : Nat → Bool} {i : Nat} (hi : i < 64) (h : f i = true) : tc_fst f (64 - i) i = nI i := by
  obtain ⟨d, e⟩ : ∃ d, 64 - i = d + 1 := ⟨63 - i, by omega⟩
  rw [e]
  show (if f i then nI i else _) = _
  rw [h]; rfl
theorem tc_fst_f {f : Nat → Bool} {i : Nat} (hi : i < 64) (h : f i = false) : tc_fst f (64 - i) i = tc_fst f (64 - (i + 1)) (i + 1) := by
  obtain ⟨d, e⟩ : ∃ d, 64 - i = d + 1 := ⟨63 - i, by omega⟩
  rw [e, show 64 - (i + 1) = d by omega]
  show (if f i then nI i else tc_fst f d (i + 1)) = _
  rw [h]; rfl
theorem i_vc_first {k : Nat} {u : SX} {v : SY} (I : i_Rel k u v) (hk : k + 6 ≤ 3072) : wpX_first (fun r u' => wpY_first (fun r' v' => r' = r ∧ i_Rel (k + 6) u' v') v) u := by
  obtain ⟨c, kd, fs, ss, ip, dm, ig, m0, m1, gs, ts, cn, mo, pl, de, gu, my, kp, hw, hx, hy, rfl, rfl⟩ := I
  unfold wpX_first wpY_first
  dsimp only
  refine tc_Xfollow hw hx (fun a0 a1 hd => tc_Xfailing hw hx hd (fun r hr => ?_))
  have Y : ∀ R : Int32, R = tc_fst (tc_fail c (-1)) 64 0 → ∃ n, wY_first_2 (fun r' v' => r' = R ∧ i_Rel (k + 6) (nI (tc_n c), nI (tc_ac c), nI (tc_cc c), kd, fs, ss, ip, dm, ig, a0, a1) v') n 0 (nI (tc_n c)) (-1) kd gs ts cn mo pl de gu my kp := by
    intro R hR
    refine loop_0 (fun n i s => wY_first_2 _ n (nI i) (nI (tc_n c)) (-1) kd gs ts cn mo pl de gu s kp) (fun i _ => R = tc_fst (tc_fail c (-1)) (64 - i) i) 64 my hR ?_ ?_
    · intro n s hs
      exact br_t (nI_le (a := 64) (b := 64) (by omega) (by omega)) ⟨hs.symm, tc_relI a0 a1 s kp hw hx hy⟩
    · intro n a s ha hs ih
      refine br_f (nI_ge (b := 64) ha (by omega)) (tc_Yfollow hw hy ha (fun my' hd => ?_))
      refine tc_YfailsNow hw hy hd ha (tc_br0 (fun z => nm_e ?_) (fun z => ?_))
      · rw [nI_1]
        exact ih my' (hs.trans (tc_fst_f ha z))
      · exact ⟨(hs.trans (tc_fst_t ha z)).symm, tc_relI a0 a1 my' kp hw hx hy⟩
  have E : tc_fst (tc_lb r) 64 0 = tc_fst (tc_fail c (-1)) 64 0 := tc_fst_congr 64 0 (fun a ha => hr a (by omega))
  refine loop_0 (fun n i (_ : Unit) => wX_first_12 _ r (nI (tc_n c)) (nI (tc_ac c)) (nI (tc_cc c)) kd fs ss ip dm ig (a0) (a1) n (nI i)) (fun i _ => tc_fst (tc_fail c (-1)) 64 0 = tc_fst (tc_lb r) (64 - i) i) 64 () E.symm ?_ ?_
  · intro n s hs
    exact br_t (nI_le (a := 64) (b := 64) (by omega) (by omega)) (Y _ hs.symm)
  · intro n a s ha hs ih
    refine br_f (nI_ge (b := 64) ha (by omega)) (tc_Xcontains ha (fun z => br_f (by decide) ?_) (fun z => br_t rfl (nm_e ?_)))
    · exact Y _ (hs.trans (tc_fst_t ha z)).symm
    · rw [nI_1]
      exact ih () (hs.trans (tc_fst_f ha z))
theorem i_vc_failsOf {k : Nat} {u : SX} {v : SY} (I : i_Rel k u v) (hk : k + 6 ≤ 3072) (v1 : Int32) : wpX_failsOf (fun r u' => wpY_failsOf (fun r' v' => r' = r ∧ i_Rel (k + 6) u' v') v v1) u v1 := by
  have I' := I
  obtain ⟨c, kd, fs, ss, ip, dm, ig, m0, m1, gs, ts, cn, mo, pl, de, gu, my, kp, hw, hx, hy, rfl, rfl⟩ := I
  have hcc : tc_cc c ≤ 12 := hw.2.2.1
  unfold wpX_failsOf wpY_failsOf
  dsimp only
  rw [hy.2.1]
  rcases tc_ix v1 (n := tc_cc c) (by omega) with z1 | ⟨q, hq, rfl⟩
  · refine br_c (fun z => br_t z ⟨rfl, I'⟩) (fun z => ?_)
    have z' := Int32.not_lt.mpr (z1.resolve_left z)
    exact br_f z' (br_f z (br_f z' ⟨rfl, I'⟩))
  refine br_f (nI_pos (by omega)) (br_t (nI_lt hq (by omega)) (tc_Xfollow hw hx (fun a0 a1 hd => tc_Xbroken hw hx hd hq (fun r hr => tc_Xidle hw hd (fun r2 hr2 => tc_Xsize ?_)))))
  refine br_f (nI_pos (by omega)) (br_t (nI_lt hq (by omega)) ?_)
  rw [tc_cnt_congr (g := fun a => tc_brk c (-1) a q && !tc_idl c (-1) a) (fun a ha => by rw [tc_lb_and, tc_lb_not _ ha, hr a ha, hr2 a ha])]
  generalize hf : (fun a => tc_brk c (-1) a q && !tc_idl c (-1) a) = f
  refine loop_0 (fun n i s => wY_failsOf_21 _ (nI q) n (nI (tc_cnt f i)) (nI i) (nI (tc_n c)) (-1) kd gs ts cn mo pl de gu s kp) (fun _ _ => True) 64 my trivial ?_ ?_
  · intro n s _
    exact br_t (nI_le (a := 64) (b := 64) (by omega) (by omega)) ⟨rfl, tc_relI a0 a1 s kp hw hx hy⟩
  · intro n a s ha _ ih
    refine br_f (nI_ge (b := 64) ha (by omega)) (tc_Yfollow hw hy ha (fun my' hd => ?_))
    have H := ih my' trivial
    refine tc_YisIdle hw hd (tc_br0 (fun z => tc_Ybreaks hw hy hd ha hq (tc_br0 (fun y => br_t rfl (nm_e ?_)) (fun y => br_f (by decide) (nm_e (nm_e ?_))))) (fun z => br_t rfl (nm_e ?_)))
    · rw [tc_cnt_f (k := a) (by rw [← hf]; show (tc_brk c (-1) a q && !tc_idl c (-1) a) = false; rw [y]; rfl)] at H
      rw [nI_1]
      exact H
    · rw [tc_cnt_t (k := a) (by rw [← hf]; show (tc_brk c (-1) a q && !tc_idl c (-1) a) = true; rw [y, z]; rfl)] at H
      rw [nI_1, nI_1]
      exact H
    · rw [tc_cnt_f (k := a) (by rw [← hf]; show (tc_brk c (-1) a q && !tc_idl c (-1) a) = false; rw [z]; exact Bool.and_false _)] at H
      rw [nI_1]
      exact H
theorem i_vc_without {k : Nat} {u : SX} {v : SY} (I : i_Rel k u v) (hk : k + 6 ≤ 3072) (v1 : Int32) : wpX_without (fun r u' => wpY_without (fun r' v' => r' = r ∧ i_Rel (k + 6) u' v') v v1) u v1 := by
  have I' := I
  obtain ⟨c, kd, fs, ss, ip, dm, ig, m0, m1, gs, ts, cn, mo, pl, de, gu, my, kp, hw, hx, hy, rfl, rfl⟩ := I
  have hac : tc_ac c ≤ 12 := hw.2.1
  unfold wpX_without wpY_without
  dsimp only
  rw [hy.1]
  rcases tc_ix v1 (n := tc_ac c) (by omega) with z1 | ⟨q, hq, rfl⟩
  · refine br_c (fun z => br_t z ⟨rfl, I'⟩) (fun z => ?_)
    have z' := Int32.not_lt.mpr (z1.resolve_left z)
    exact br_f z' (br_f z (br_f z' ⟨rfl, I'⟩))
  refine br_f (nI_pos (by omega)) (br_t (nI_lt hq (by omega)) (tc_Xfollow hw hx (fun a0 a1 hd => tc_Xfailing hw hx hd (fun r hr => tc_Xfollow hw hx (fun b0 b1 hd2 => tc_Xfailing hw hx hd2 (fun r2 hr2 => tc_Xsize (tc_Xsize ?_)))))))
  refine br_f (nI_pos (by omega)) (br_t (nI_lt hq (by omega)) (tc_YcountFails hw hy (fun my1 => tc_YcountFails hw hy (fun my2 => ⟨?_, tc_relI b0 b1 my2 kp hw hx hy⟩))))
  rw [tc_cnt_congr hr, tc_cnt_congr hr2]
