/-! ===== arguments ===== -/
theorem tc_XisMoment0 {post : Int32 → Prop} {x : Int32} (h : x < 0 ∨ nI 4 ≤ x) (p : post 0) : wpX_isMoment post x := br_c (fun _ => p) (fun z => br_t (h.resolve_left z) p)
theorem tc_XisMoment1 {post : Int32 → Prop} {t : Nat} (h : t < 4) (p : post 1) : wpX_isMoment post (nI t) := br_f (nI_pos (by omega)) (br_f (nI_ge (b := 4) h (by omega)) p)
theorem tc_XisLiteral0 {post : Int32 → Prop} {x : Int32} (h : x < 0 ∨ nI 14 ≤ x) (p : post 0) : wpX_isLiteral post x := br_c (fun _ => p) (fun z => br_t (h.resolve_left z) p)
theorem tc_XisLiteral1 {post : Int32 → Prop} {t : Nat} (h : t < 14) (p : post 1) : wpX_isLiteral post (nI t) := br_f (nI_pos (by omega)) (br_f (nI_ge (b := 14) h (by omega)) p)
theorem tc_XisNode0 {post : Int32 → Prop} {x : Int32} {c : tc_C} {kd fs ss ip : Nat → Int32} {dm ig m0 m1 : Nat → Int64} (h : x < 0 ∨ nI (tc_n c) ≤ x) (p : post 0) : wpX_isNode post (nI (tc_n c), nI (tc_ac c), nI (tc_cc c), kd, fs, ss, ip, dm, ig, m0, m1) x := br_c (fun _ => p) (fun z => br_t (h.resolve_left z) p)
theorem tc_XisNode1 {post : Int32 → Prop} {j : Nat} {c : tc_C} {kd fs ss ip : Nat → Int32} {dm ig m0 m1 : Nat → Int64} (hn : tc_n c ≤ 20) (h : j < tc_n c) (p : post 1) : wpX_isNode post (nI (tc_n c), nI (tc_ac c), nI (tc_cc c), kd, fs, ss, ip, dm, ig, m0, m1) (nI j) := br_f (nI_pos (by omega)) (br_f (nI_ge h (by omega)) p)
theorem tc_le3 {x : Int32} (h : nI 4 ≤ x) : ¬ x ≤ 3 := fun z => absurd (Int32.le_trans h z) (by decide)
theorem tc_le13 {x : Int32} (h : nI 14 ≤ x) : ¬ x ≤ 13 := fun z => absurd (Int32.le_trans h z) (by decide)
theorem tc_le63 {x : Int32} (h : nI 64 ≤ x) : ¬ x ≤ 63 := fun z => absurd (Int32.le_trans h z) (by decide)
theorem tc_YnoMoment1 {post : Int32 → Prop} {u : SY} {x : Int32} (h : x < 0 ∨ nI 4 ≤ x) (p : post 1) : wpY_noMoment post u x := by
  rcases u with ⟨c, o, k, f, s, cn, mo, pl, de, gu, my, kp⟩
  exact br_c (fun _ => p) (fun z => br_f (tc_le3 (h.resolve_left z)) p)
theorem tc_YnoMoment0 {post : Int32 → Prop} {u : SY} {t : Nat} (h : t < 4) (p : post 0) : wpY_noMoment post u (nI t) := by
  rcases u with ⟨c, o, k, f, s, cn, mo, pl, de, gu, my, kp⟩
  exact br_f (nI_pos (by omega)) (br_t (nI_le (b := 3) (by omega) (by omega)) p)
theorem tc_YnoLiteral1 {post : Int32 → Prop} {u : SY} {x : Int32} (h : x < 0 ∨ nI 14 ≤ x) (p : post 1) : wpY_noLiteral post u x := by
  rcases u with ⟨c, o, k, f, s, cn, mo, pl, de, gu, my, kp⟩
  exact br_c (fun _ => p) (fun z => br_f (tc_le13 (h.resolve_left z)) p)
theorem tc_YnoLiteral0 {post : Int32 → Prop} {u : SY} {t : Nat} (h : t < 14) (p : post 0) : wpY_noLiteral post u (nI t) := by
  rcases u with ⟨c, o, k, f, s, cn, mo, pl, de, gu, my, kp⟩
  exact br_f (nI_pos (by omega)) (br_t (nI_le (b := 13) (by omega) (by omega)) p)
theorem tc_YnoNode1 {post : Int32 → Prop} {x : Int32} {c : tc_C} {kd fs ss cn mo pl de gu my kp : Nat → Int32} {ou : Int32} (h : x < 0 ∨ nI (tc_n c) ≤ x) (p : post 1) : wpY_noNode post (nI (tc_n c), ou, kd, fs, ss, cn, mo, pl, de, gu, my, kp) x := br_c (fun _ => p) (fun z => br_f (Int32.not_lt.mpr (h.resolve_left z)) p)
theorem tc_YnoNode0 {post : Int32 → Prop} {j : Nat} {c : tc_C} {kd fs ss cn mo pl de gu my kp : Nat → Int32} {ou : Int32} (hn : tc_n c ≤ 20) (h : j < tc_n c) (p : post 0) : wpY_noNode post (nI (tc_n c), ou, kd, fs, ss, cn, mo, pl, de, gu, my, kp) (nI j) := br_f (nI_pos (by omega)) (br_t (nI_lt h (by omega)) p)
theorem tc_ix (x : Int32) {n : Nat} (hn : n < 2 ^ 31) : (x < 0 ∨ nI n ≤ x) ∨ ∃ j : Nat, j < n ∧ x = nI j := by
  rcases pk_ix x hn with h | h | h
  · exact Or.inl (Or.inl h)
  · exact Or.inl (Or.inr h)
  · exact Or.inr h
/-! ===== the relation ===== -/
def tc_Rel (u : SX) (v : SY) : Prop := ∃ (c : tc_C) (kd fs ss ip : Nat → Int32) (dm ig m0 m1 : Nat → Int64) (gs ts cn mo pl de gu my kp : Nat → Int32), tc_wf c ∧ tc_RX c kd fs ss ip dm ig ∧ tc_RY c kd gs ts cn mo pl de gu ∧ u = (nI (tc_n c), nI (tc_ac c), nI (tc_cc c), kd, fs, ss, ip, dm, ig, m0, m1) ∧ v = (nI (tc_n c), -1, kd, gs, ts, cn, mo, pl, de, gu, my, kp)
def i_Rel (_ : Nat) (u : SX) (v : SY) : Prop := tc_Rel u v
theorem i_up {k : Nat} {u : SX} {v : SY} (h : i_Rel k u v) : i_Rel (k + 6) u v := h
theorem tc_relI {c : tc_C} {kd fs ss ip : Nat → Int32} {dm ig : Nat → Int64} {gs ts cn mo pl de gu : Nat → Int32} (m0 m1 : Nat → Int64) (my kp : Nat → Int32) (hw : tc_wf c) (hx : tc_RX c kd fs ss ip dm ig) (hy : tc_RY c kd gs ts cn mo pl de gu) : tc_Rel (nI (tc_n c), nI (tc_ac c), nI (tc_cc c), kd, fs, ss, ip, dm, ig, m0, m1) (nI (tc_n c), -1, kd, gs, ts, cn, mo, pl, de, gu, my, kp) := ⟨c, kd, fs, ss, ip, dm, ig, m0, m1, gs, ts, cn, mo, pl, de, gu, my, kp, hw, hx, hy, rfl, rfl⟩
theorem i_vc0 : wpX_init (fun u => wpY_init (fun v => i_Rel 0 u v)) := by
  refine ⟨(0, 0, 0, fun _ => 0, fun _ => 0, fun _ => 0, fun _ => 0, fun _ => 0, fun _ => 0, fun _ => 0), fun _ => 0, fun _ => 0, fun _ => 0, fun _ => 0, fun _ => 0, fun _ => 0, fun _ => 0, fun _ => 0, fun _ => 0, fun _ => 0, fun _ => 0, fun _ => 0, fun _ => 0, fun _ => 0, fun _ => 0, fun _ => 0, fun _ => 0, ?_, ?_, ?_, rfl, rfl⟩
  · refine ⟨by decide, by decide, by decide, fun j hj => absurd hj (Nat.not_lt_zero j), fun s hs => ?_⟩
    have h : s < 0 ∨ (12 ≤ s ∧ s < 12 + 0) := hs
    omega
  · refine ⟨fun j hj => absurd hj (Nat.not_lt_zero j), fun s hs => ?_⟩
    have h : s < 0 ∨ (12 ≤ s ∧ s < 12 + 0) := hs
    omega
  · refine ⟨rfl, rfl, fun j hj => absurd hj (Nat.not_lt_zero j), fun s hs => ?_⟩
    have h : s < 0 ∨ (12 ≤ s ∧ s < 12 + 0) := hs
    omega
section
variable {c : tc_C} {kd fs ss ip : Nat → Int32} {dm ig m0 m1 : Nat → Int64} {cn mo pl de gu my kp : Nat → Int32}
def tc_told (w : tc_B) : Int32 := if w.1 then (if w.2 then 0 else 1) else (if w.2 then 2 else 3)
theorem tc_Xvalue {post : Int32 → SX → Prop} {t j a : Nat} (hw : tc_wf c) (hx : tc_RX c kd fs ss ip dm ig) (ht : t < 4) (hj : j < tc_n c) (ha : a < 64) (h : ∀ m0' m1', post (tc_told (tc_V c (-1) a (20 * t + j))) (nI (tc_n c), nI (tc_ac c), nI (tc_cc c), kd, fs, ss, ip, dm, ig, m0', m1')) : wpX_value post (nI (tc_n c), nI (tc_ac c), nI (tc_cc c), kd, fs, ss, ip, dm, ig, m0, m1) (nI t) (nI j) (nI a) := by
  have h20 : tc_n c ≤ 20 := hw.1
  have e1 : (nI (20 * t + j)).toNatClampNeg = 20 * t + j := nI_clamp (by omega)
  have i1 : vp_in (nI (20 * t + j)) 80 := vp_in_nI (by omega) (by omega)
  unfold wpX_value
  dsimp only
  refine tc_XisMoment1 ht (br_f (by decide) (tc_XisNode1 h20 hj (br_f (by decide) (br_f (nI_pos (by omega)) (br_t (nI_lt (b := 64) ha (by omega)) (tc_Xfollow hw hx (fun a0 a1 hd => ?_)))))))
  have hv := hd t j hj (Or.inl ht) a ha
  have H := h a0 a1
  rw [← hv] at H
  unfold wpX_placeOf
  dsimp only
  rw [tc_pX, e1]
  refine ⟨i1, ?_⟩
  unfold tc_told tc_at at H
  refine tc_Xcontains ha (fun z => ⟨i1, tc_Xcontains ha (fun y => br_f (by decide) (br_f (by decide) ?_)) (fun y => br_f (by decide) (br_t rfl ?_))⟩) (fun z => ⟨i1, tc_Xcontains ha (fun y => br_t rfl (br_f (by decide) ?_)) (fun y => br_t rfl (br_t rfl ?_))⟩)
  · rw [z, y] at H; exact H
  · rw [z, y] at H; exact H
  · rw [z, y] at H; exact H
  · rw [z, y] at H; exact H
theorem tc_Ytold {post : Int32 → Prop} {u : SY} (w : tc_B) (h : post (tc_told w)) : wpY_told post u (tc_cd w) := by
  rcases u with ⟨c, o, k, f, s, cn, mo, pl, de, gu, my, kp⟩
  rcases w with ⟨x, y⟩
  cases x <;> cases y
  · exact br_f (by decide) (br_t rfl h)
  · exact br_f (by decide) (br_f (by decide) h)
  · exact br_f (by decide) (br_f (by decide) h)
  · exact br_t rfl h
theorem tc_Yvalue {post : Int32 → SY → Prop} {t j a : Nat} (hw : tc_wf c) (hy : tc_RY c kd fs ss cn mo pl de gu) (ht : t < 4) (hj : j < tc_n c) (ha : a < 64) (h : ∀ my', post (tc_told (tc_V c (-1) a (20 * t + j))) (nI (tc_n c), -1, kd, fs, ss, cn, mo, pl, de, gu, my', kp)) : wpY_value post (nI (tc_n c), -1, kd, fs, ss, cn, mo, pl, de, gu, my, kp) (nI t) (nI j) (nI a) := by
  have h20 : tc_n c ≤ 20 := hw.1
  have e1 : (nI (20 * t + j)).toNatClampNeg = 20 * t + j := nI_clamp (by omega)
  have i1 : vp_in (nI (20 * t + j)) 80 := vp_in_nI (by omega) (by omega)
  unfold wpY_value
  dsimp only
  refine tc_YnoMoment0 ht (br_t rfl (tc_YnoNode0 h20 hj (br_t rfl (br_f (nI_pos (by omega)) (br_t (nI_le (b := 63) (by omega) (by omega)) (tc_Yfollow hw hy ha (fun my' hd => ?_)))))))
  dsimp only
  rw [tc_pY, e1, hd t j hj (Or.inl ht)]
  exact ⟨i1, tc_Ytold _ (h my')⟩
end
theorem i_vc_value {k : Nat} {u : SX} {v : SY} (I : i_Rel k u v) (hk : k + 6 ≤ 3072) (v1 : Int32) (v2 : Int32) (v3 : Int32) : wpX_value (fun r u' => wpY_value (fun r' v' => r' = r ∧ i_Rel (k + 6) u' v') v v1 v2 v3) u v1 v2 v3 := by
  have I' := I
  obtain ⟨c, kd, fs, ss, ip, dm, ig, m0, m1, gs, ts, cn, mo, pl, de, gu, my, kp, hw, hx, hy, rfl, rfl⟩ := I
  have h20 : tc_n c ≤ 20 := hw.1
  rcases tc_ix v1 (n := 4) (by omega) with z1 | ⟨t, ht, rfl⟩
  · unfold wpX_value wpY_value
    dsimp only
    exact tc_XisMoment0 z1 (br_t rfl (tc_YnoMoment1 z1 (br_f (by decide) ⟨rfl, I'⟩)))
  rcases tc_ix v2 (n := tc_n c) (by omega) with z2 | ⟨j, hj, rfl⟩
  · unfold wpX_value wpY_value
    dsimp only
    exact tc_XisMoment1 ht (br_f (by decide) (tc_XisNode0 z2 (br_t rfl (tc_YnoMoment0 ht (br_t rfl (tc_YnoNode1 z2 (br_f (by decide) ⟨rfl, I'⟩)))))))
  rcases tc_ix v3 (n := 64) (by omega) with z3 | ⟨a, ha, rfl⟩
  · unfold wpX_value wpY_value
    dsimp only
    refine tc_XisMoment1 ht (br_f (by decide) (tc_XisNode1 h20 hj (br_f (by decide) (br_c (fun z => ?_) (fun z => br_f (Int32.not_lt.mpr (z3.resolve_left z)) ?_)))))
    · exact tc_YnoMoment0 ht (br_t rfl (tc_YnoNode0 h20 hj (br_t rfl (br_t z ⟨rfl, I'⟩))))
    · exact tc_YnoMoment0 ht (br_t rfl (tc_YnoNode0 h20 hj (br_t rfl (br_f z (br_f (tc_le63 (z3.resolve_left z)) ⟨rfl, I'⟩)))))
  exact tc_Xvalue hw hx ht hj ha (fun a0 a1 => tc_Yvalue hw hy ht hj ha (fun my' => ⟨rfl, tc_relI a0 a1 my' kp hw hx hy⟩))
theorem i_vc_nodes {k : Nat} {u : SX} {v : SY} (I : i_Rel k u v) (hk : k + 6 ≤ 3072) : wpX_nodes (fun r => wpY_nodes (fun r' => r' = r ∧ i_Rel (k + 6) u v) v) u := by
  have I' := I
  obtain ⟨c, kd, fs, ss, ip, dm, ig, m0, m1, gs, ts, cn, mo, pl, de, gu, my, kp, hw, hx, hy, rfl, rfl⟩ := I
  exact ⟨rfl, I'⟩
section
variable {c : tc_C} {kd fs ss ip : Nat → Int32} {dm ig m0 m1 : Nat → Int64} {cn mo pl de gu my kp : Nat → Int32}
theorem tc_Xdefinite {post : Int32 → SX → Prop} {t j : Nat} (hw : tc_wf c) (hx : tc_RX c kd fs ss ip dm ig) (ht : t < 4) (hj : j < tc_n c) (h : ∀ m0' m1', post (nI (tc_cnt (fun a => (tc_V c (-1) a (20 * t + j)).1 ^^ (tc_V c (-1) a (20 * t + j)).2) 64)) (nI (tc_n c), nI (tc_ac c), nI (tc_cc c), kd, fs, ss, ip, dm, ig, m0', m1')) : wpX_definite post (nI (tc_n c), nI (tc_ac c), nI (tc_cc c), kd, fs, ss, ip, dm, ig, m0, m1) (nI t) (nI j) := by
  have h20 : tc_n c ≤ 20 := hw.1
  have e1 : (nI (20 * t + j)).toNatClampNeg = 20 * t + j := nI_clamp (by omega)
  have i1 : vp_in (nI (20 * t + j)) 80 := vp_in_nI (by omega) (by omega)
  unfold wpX_definite
  dsimp only
  refine tc_XisMoment1 ht (br_f (by decide) (tc_XisNode1 h20 hj (br_f (by decide) (tc_Xfollow hw hx (fun a0 a1 hd => ?_)))))
  unfold wpX_placeOf
  dsimp only
  rw [tc_pX, e1]
  refine ⟨i1, i1, tc_Xsize ?_⟩
  have H := h a0 a1
  rw [tc_cnt_congr (g := fun a => (tc_V c (-1) a (20 * t + j)).1 ^^ (tc_V c (-1) a (20 * t + j)).2) (fun a ha => ?_)]
  · exact H
  · rw [tc_lb_xor, ← hd t j hj (Or.inl ht) a ha]
    rfl
theorem tc_cd1 (w : tc_B) (h : tc_cd w = 1) : (w.1 ^^ w.2) = true := by
  rcases w with ⟨x, y⟩
  revert h
  cases x <;> cases y <;> decide
theorem tc_cd2 (w : tc_B) (h : tc_cd w = 2) : (w.1 ^^ w.2) = true := by
  rcases w with ⟨x, y⟩
  revert h
  cases x <;> cases y <;> decide
theorem tc_cd3 (w : tc_B) (h : ¬ tc_cd w = 1) (h' : ¬ tc_cd w = 2) : (w.1 ^^ w.2) = false := by
  rcases w with ⟨x, y⟩
  revert h h'
  cases x <;> cases y <;> decide
theorem tc_Ydefinite {post : Int32 → SY → Prop} {t j : Nat} (hw : tc_wf c) (hy : tc_RY c kd fs ss cn mo pl de gu) (ht : t < 4) (hj : j < tc_n c) (h : ∀ my' kp', post (nI (tc_cnt (fun a => (tc_V c (-1) a (20 * t + j)).1 ^^ (tc_V c (-1) a (20 * t + j)).2) 64)) (nI (tc_n c), -1, kd, fs, ss, cn, mo, pl, de, gu, my', kp')) : wpY_definite post (nI (tc_n c), -1, kd, fs, ss, cn, mo, pl, de, gu, my, kp) (nI t) (nI j) := by
  have h20 : tc_n c ≤ 20 := hw.1
  unfold wpY_definite
  dsimp only
  refine tc_YnoMoment0 ht (br_t rfl (tc_YnoNode0 h20 hj (br_t rfl (tc_Ykeep hw hy ht hj (fun my' kp' hv => ?_)))))
  refine loop_0 (fun n i s => wY_definite_29 post (nI (tc_n c)) (-1) kd fs ss cn mo pl de gu (my') (kp') n s (nI i)) (fun i s => s = nI (tc_cnt (fun a => (tc_V c (-1) a (20 * t + j)).1 ^^ (tc_V c (-1) a (20 * t + j)).2) i)) 64 0 rfl ?_ ?_
  · intro n s hs
    subst hs
    exact br_t (nI_le (a := 64) (b := 64) (by omega) (by omega)) (h my' kp')
  · intro n a s ha hs ih
    subst hs
    have ec : (nI a).toNatClampNeg = a := nI_clamp (by omega)
    have i1 : vp_in (nI a) 64 := vp_in_nI ha (by omega)
    unfold wY_definite_29
    rw [ec, hv a ha, nI_1, nI_1]
    refine br_f (nI_ge (b := 64) ha (by omega)) ⟨i1, br_c (fun z => nm_e (nm_e (ih _ ?_))) (fun z => ⟨i1, br_c (fun y => nm_e (nm_e (ih _ ?_))) (fun y => nm_e (ih _ ?_))⟩)⟩
    · exact congrArg nI (tc_cnt_t (f := fun a => (tc_V c (-1) a (20 * t + j)).1 ^^ (tc_V c (-1) a (20 * t + j)).2) (tc_cd1 _ z)).symm
    · exact congrArg nI (tc_cnt_t (f := fun a => (tc_V c (-1) a (20 * t + j)).1 ^^ (tc_V c (-1) a (20 * t + j)).2) (tc_cd2 _ y)).symm
    · exact congrArg nI (tc_cnt_f (f := fun a => (tc_V c (-1) a (20 * t + j)).1 ^^ (tc_V c (-1) a (20 * t + j)).2) (tc_cd3 _ z y)).symm
end
theorem i_vc_definite {k : Nat} {u : SX} {v : SY} (I : i_Rel k u v) (hk : k + 6 ≤ 3072) (v1 : Int32) (v2 : Int32) : wpX_definite (fun r u' => wpY_definite (fun r' v' => r' = r ∧ i_Rel (k + 6) u' v') v v1 v2) u v1 v2 := by
  have I' := I
  obtain ⟨c, kd, fs, ss, ip, dm, ig, m0, m1, gs, ts, cn, mo, pl, de, gu, my, kp, hw, hx, hy, rfl, rfl⟩ := I
  have h20 : tc_n c ≤ 20 := hw.1
  rcases tc_ix v1 (n := 4) (by omega) with z1 | ⟨t, ht, rfl⟩
  · unfold wpX_definite wpY_definite
    dsimp only
    exact tc_XisMoment0 z1 (br_t rfl (tc_YnoMoment1 z1 (br_f (by decide) ⟨rfl, I'⟩)))
  rcases tc_ix v2 (n := tc_n c) (by omega) with z2 | ⟨j, hj, rfl⟩
  · unfold wpX_definite wpY_definite
    dsimp only
    exact tc_XisMoment1 ht (br_f (by decide) (tc_XisNode0 z2 (br_t rfl (tc_YnoMoment0 ht (br_t rfl (tc_YnoNode1 z2 (br_f (by decide) ⟨rfl, I'⟩)))))))
  exact tc_Xdefinite hw hx ht hj (fun a0 a1 => tc_Ydefinite hw hy ht hj (fun my' kp' => ⟨rfl, tc_relI a0 a1 my' kp' hw hx hy⟩))
