/-! ===== the circuit changes ===== -/
def tc_up (f : Nat → Nat) (k x : Nat) : Nat → Nat := fun j => if j = k then x else f j
theorem tc_ups {f : Nat → Nat} {k x : Nat} : tc_up f k x k = x := if_pos rfl
theorem tc_upn {f : Nat → Nat} {k j x : Nat} (h : j ≠ k) : tc_up f k x j = f j := if_neg h
theorem tc_rel_connect {c : tc_C} {kd fs ss ip : Nat → Int32} {dm ig m0 m1 : Nat → Int64} {gs ts cn mo pl de gu my kp : Nat → Int32} (hw : tc_wf c) (hx : tc_RX c kd fs ss ip dm ig) (hy : tc_RY c kd gs ts cn mo pl de gu) {k i : Nat} (hk : k < tc_n c) (hi : i < tc_n c) (h5 : tc_K c k = 5) :
    tc_Rel (nI (tc_n c), nI (tc_ac c), nI (tc_cc c), kd, upd fs k (nI i), ss, ip, dm, ig, m0, m1) (nI (tc_n c), -1, kd, upd gs k (nI i), ts, cn, mo, pl, de, gu, my, kp) := by
  rcases c with ⟨n, ac, cc, K, F, S, T, Q, D, G⟩
  obtain ⟨h20, hac, hcc, hN, hI⟩ := hw
  obtain ⟨hx1, hx2⟩ := hx
  obtain ⟨hy1, hy2, hy3, hy4⟩ := hy
  refine ⟨(n, ac, cc, K, tc_up F k i, S, T, Q, D, G), kd, upd fs k (nI i), ss, ip, dm, ig, m0, m1, upd gs k (nI i), ts, cn, mo, pl, de, gu, my, kp, ⟨h20, hac, hcc, fun j hj => ?_, hI⟩, ⟨fun j hj => ?_, hx2⟩, ⟨hy1, hy2, fun j hj => ?_, hy4⟩, rfl, rfl⟩
  · obtain ⟨a1, a2, a3, a4, a5, a6, a7⟩ := hN j hj
    have e5 : K k = 5 := h5
    by_cases e : j = k
    · subst e
      refine ⟨a1, ?_, a3, fun z => ?_, fun z1 z4 => ?_, a6, a7⟩
      · show tc_up F j i j < n
        rw [tc_ups]; exact hi
      · have z : K j = 0 := z
        omega
      · have z4 : K j ≤ 4 := z4
        omega
    · refine ⟨a1, ?_, a3, fun z => ?_, fun z1 z4 => ?_, a6, a7⟩
      · show tc_up F k i j < n
        rw [tc_upn e]; exact a2
      · show tc_up F k i j = j
        rw [tc_upn e]; exact a4 z
      · show tc_up F k i j < j
        rw [tc_upn e]; exact a5 z1 z4
  · obtain ⟨a1, a2, a3⟩ := hx1 j hj
    refine ⟨a1, ?_, a3⟩
    show upd fs k (nI i) j = nI (tc_up F k i j)
    by_cases e : j = k
    · subst e
      rw [pk_us, tc_ups]
    · rw [pk_un e, tc_upn e]; exact a2
  · obtain ⟨a1, a2, a3⟩ := hy3 j hj
    refine ⟨a1, fun z => ?_, a3⟩
    show upd gs k (nI i) j = nI (tc_up F k i j)
    by_cases e : j = k
    · subst e
      rw [pk_us, tc_ups]
    · rw [pk_un e, tc_upn e]; exact a2 z
theorem i_vc_connect {k : Nat} {u : SX} {v : SY} (I : i_Rel k u v) (hk : k + 6 ≤ 3072) (v1 : Int32) (v2 : Int32) : wpX_connect (fun r u' => wpY_connect (fun r' v' => r' = r ∧ i_Rel (k + 6) u' v') v v1 v2) u v1 v2 := by
  have I' := I
  obtain ⟨c, kd, fs, ss, ip, dm, ig, m0, m1, gs, ts, cn, mo, pl, de, gu, my, kp, hw, hx, hy, rfl, rfl⟩ := I
  have h20 : tc_n c ≤ 20 := hw.1
  unfold wpX_connect wpY_connect
  dsimp only
  rcases tc_ix v2 (n := tc_n c) (by omega) with z2 | ⟨i, hi, rfl⟩
  · exact tc_XisNode0 z2 (br_t rfl (tc_YnoNode1 z2 (br_f (by decide) ⟨rfl, I'⟩)))
  rcases tc_ix v1 (n := tc_n c) (by omega) with z1 | ⟨q, hq, rfl⟩
  · exact tc_XisNode1 h20 hi (br_f (by decide) (tc_XisNode0 z1 (br_t rfl (tc_YnoNode0 h20 hi (br_t rfl (tc_YnoNode1 z1 (br_f (by decide) ⟨rfl, I'⟩)))))))
  have ec : (nI q).toNatClampNeg = q := nI_clamp (by omega)
  have i1 : vp_in (nI q) 20 := vp_in_nI (by omega) (by omega)
  have k5 : tc_K c q ≤ 5 := (hw.2.2.2.1 q hq).1
  rw [ec, (hx.1 q hq).1]
  refine tc_XisNode1 h20 hi (br_f (by decide) (tc_XisNode1 h20 hq (br_f (by decide) ⟨i1, pk_eq (tc_K c q) 5 (fun z => ⟨i1, nm_e ⟨i1, nm_e ?_⟩⟩) (fun z => ?_)⟩)))
  · refine tc_YnoNode0 h20 hi (br_t rfl (tc_YnoNode0 h20 hq (br_t rfl ⟨i1, br_t (by rw [z]; rfl) ⟨i1, nm_e ⟨i1, nm_e ⟨?_, tc_rel_connect hw hx hy hq hi z⟩⟩⟩⟩)))
    rw [(hx.1 q hq).2.1]
    exact (hy.2.2.1 q hq).2.1 (by omega)
  · refine tc_YnoNode0 h20 hi (br_t rfl (tc_YnoNode0 h20 hq (br_t rfl ⟨i1, br_f (fun y => z ?_) ⟨rfl, I'⟩⟩)))
    exact (nI_eq (b := 5) (by omega) (by omega)).mp y
/-! ===== node ===== -/
theorem tc_rel_node {c : tc_C} {kd fs ss ip : Nat → Int32} {dm ig m0 m1 : Nat → Int64} {gs ts cn mo pl de gu my kp : Nat → Int32} (hw : tc_wf c) (hx : tc_RX c kd fs ss ip dm ig) (hy : tc_RY c kd gs ts cn mo pl de gu) {κ f s : Nat} {y1 y2 : Int32} (hn : tc_n c < 20) (hκ : κ ≤ 5) (hf : f ≤ tc_n c) (hs : s ≤ tc_n c) (h0 : κ = 0 → f = tc_n c) (h1 : 1 ≤ κ → κ ≤ 4 → f < tc_n c) (h2 : 2 ≤ κ → κ ≤ 4 → s < tc_n c) (h3 : κ < 2 ∨ κ = 5 → s = tc_n c) (hy1 : κ ≠ 0 → y1 = nI f) (hy2 : 2 ≤ κ → κ ≤ 4 → y2 = nI s) :
    tc_Rel (nI (tc_n c + 1), nI (tc_ac c), nI (tc_cc c), upd kd (tc_n c) (nI κ), upd fs (tc_n c) (nI f), upd ss (tc_n c) (nI s), ip, dm, ig, m0, m1) (nI (tc_n c + 1), -1, upd kd (tc_n c) (nI κ), upd gs (tc_n c) y1, upd ts (tc_n c) y2, cn, mo, pl, de, gu, my, kp) := by
  rcases c with ⟨n, ac, cc, K, F, S, T, Q, D, G⟩
  obtain ⟨h20, hac, hcc, hN, hI⟩ := hw
  obtain ⟨hx1, hx2⟩ := hx
  obtain ⟨b1, b2, hy3, hy4⟩ := hy
  dsimp only [tc_n, tc_ac, tc_cc] at *
  refine ⟨(n + 1, ac, cc, tc_up K n κ, tc_up F n f, tc_up S n s, T, Q, D, G), upd kd n (nI κ), upd fs n (nI f), upd ss n (nI s), ip, dm, ig, m0, m1, upd gs n y1, upd ts n y2, cn, mo, pl, de, gu, my, kp, ⟨hn, hac, hcc, fun j hj => ?_, fun q hq => ?_⟩, ⟨fun j hj => ?_, hx2⟩, ⟨b1, b2, fun j hj => ?_, hy4⟩, rfl, rfl⟩
  · show tc_up K n κ j ≤ 5 ∧ tc_up F n f j < n + 1 ∧ tc_up S n s j < n + 1 ∧ (tc_up K n κ j = 0 → tc_up F n f j = j) ∧ (1 ≤ tc_up K n κ j → tc_up K n κ j ≤ 4 → tc_up F n f j < j) ∧ (2 ≤ tc_up K n κ j → tc_up K n κ j ≤ 4 → tc_up S n s j < j) ∧ (tc_up K n κ j < 2 ∨ tc_up K n κ j = 5 → tc_up S n s j = j)
    by_cases e : j = n
    · subst e
      rw [tc_ups, tc_ups, tc_ups]
      exact ⟨hκ, by omega, by omega, h0, h1, h2, h3⟩
    · rw [tc_upn e, tc_upn e, tc_upn e]
      have hj : j < n + 1 := hj
      have := hN j (show j < n by omega)
      obtain ⟨a1, a2, a3, a4, a5, a6, a7⟩ := this
      have a2 : F j < n := a2
      have a3 : S j < n := a3
      exact ⟨a1, by omega, by omega, a4, a5, a6, a7⟩
  · obtain ⟨a1, a2, a3, a4⟩ := hI q hq
    have a2 : Q q < n := a2
    exact ⟨a1, show Q q < n + 1 by omega, a3, a4⟩
  · show upd kd n (nI κ) j = nI (tc_up K n κ j) ∧ upd fs n (nI f) j = nI (tc_up F n f j) ∧ upd ss n (nI s) j = nI (tc_up S n s j)
    by_cases e : j = n
    · subst e
      rw [tc_ups, tc_ups, tc_ups, pk_us, pk_us, pk_us]
      exact ⟨rfl, rfl, rfl⟩
    · rw [tc_upn e, tc_upn e, tc_upn e, pk_un e, pk_un e, pk_un e]
      have hj : j < n + 1 := hj
      exact hx1 j (show j < n by omega)
  · show upd kd n (nI κ) j = nI (tc_up K n κ j) ∧ (tc_up K n κ j ≠ 0 → upd gs n y1 j = nI (tc_up F n f j)) ∧ (2 ≤ tc_up K n κ j → tc_up K n κ j ≤ 4 → upd ts n y2 j = nI (tc_up S n s j))
    by_cases e : j = n
    · subst e
      rw [tc_ups, tc_ups, tc_ups, pk_us, pk_us, pk_us]
      exact ⟨rfl, hy1, hy2⟩
    · rw [tc_upn e, tc_upn e, tc_upn e, pk_un e, pk_un e, pk_un e]
      have hj : j < n + 1 := hj
      exact hy3 j (show j < n by omega)
section
variable {c : tc_C} {kd fs ss ip : Nat → Int32} {dm ig m0 m1 : Nat → Int64} {cn mo pl de gu my kp : Nat → Int32}
theorem tc_Xn_full {post : Int32 → SX → Prop} {x1 x2 x3 x4 x5 : Int32} (hn : tc_n c = 20) (h : post (-2) (nI (tc_n c), nI (tc_ac c), nI (tc_cc c), kd, fs, ss, ip, dm, ig, m0, m1)) : wX_node_73 post x1 x2 x3 x4 x5 (nI (tc_n c)) (nI (tc_ac c)) (nI (tc_cc c)) kd fs ss ip dm ig (m0) (m1) := br_f (by rw [hn]; decide) h
theorem tc_Xn_ok {post : Int32 → SX → Prop} {x1 x2 x3 : Int32} (b1 b2 : Bool) (hn : tc_n c < 20) (h : post (nI (tc_n c)) (nI (tc_n c + 1), nI (tc_ac c), nI (tc_cc c), upd kd (tc_n c) x1, upd fs (tc_n c) (if b1 then x2 else nI (tc_n c)), upd ss (tc_n c) (if b2 then x3 else nI (tc_n c)), ip, dm, ig, m0, m1)) : wX_node_73 post x1 x2 x3 (tc_i b1) (tc_i b2) (nI (tc_n c)) (nI (tc_ac c)) (nI (tc_cc c)) kd fs ss ip dm ig (m0) (m1) := by
  have ec : (nI (tc_n c)).toNatClampNeg = tc_n c := nI_clamp (by omega)
  have i1 : vp_in (nI (tc_n c)) 20 := vp_in_nI (by omega) (by omega)
  unfold wX_node_73
  rw [ec]
  refine br_t (nI_lt (b := 20) hn (by omega)) ⟨i1, nm_e (tc_br0 (fun z => ?_) (fun z => ?_))⟩
  · subst z
    unfold wX_node_116
    rw [ec]
    refine ⟨i1, nm_e (tc_br0 (fun z => ?_) (fun z => ?_))⟩
    · subst z
      unfold wX_node_134
      rw [ec, nI_1]
      exact ⟨i1, nm_e (nm_e h)⟩
    · subst z
      unfold wX_node_134
      rw [ec, nI_1]
      exact ⟨i1, nm_e (nm_e h)⟩
  · subst z
    unfold wX_node_116
    rw [ec]
    refine ⟨i1, nm_e (tc_br0 (fun z => ?_) (fun z => ?_))⟩
    · subst z
      unfold wX_node_134
      rw [ec, nI_1]
      exact ⟨i1, nm_e (nm_e h)⟩
    · subst z
      unfold wX_node_134
      rw [ec, nI_1]
      exact ⟨i1, nm_e (nm_e h)⟩
theorem tc_Xn_0 {post : Int32 → SX → Prop} {κ : Nat} {p1 p2 : Int32} (h5 : κ = 0 ∨ κ = 5) (h : wX_node_73 post (nI κ) p1 p2 0 0 (nI (tc_n c)) (nI (tc_ac c)) (nI (tc_cc c)) kd fs ss ip dm ig (m0) (m1)) : wpX_node post (nI (tc_n c), nI (tc_ac c), nI (tc_cc c), kd, fs, ss, ip, dm, ig, m0, m1) (nI κ) p1 p2 := by
  rcases h5 with rfl | rfl
  · exact br_f (by decide) (br_t (by decide) (br_t (by decide) (br_t (by decide) (br_t rfl (br_t rfl h)))))
  · exact br_f (by decide) (br_t (by decide) (br_f (by decide) (br_t (by decide) (br_f (by decide) (br_t (by decide) (br_t rfl (br_t rfl h)))))))
theorem tc_Xn_1 {post : Int32 → SX → Prop} {p1 p2 : Int32} (h : wX_node_43 post (nI 1) p1 p2 1 0 (nI (tc_n c)) (nI (tc_ac c)) (nI (tc_cc c)) kd fs ss ip dm ig (m0) (m1)) : wpX_node post (nI (tc_n c), nI (tc_ac c), nI (tc_cc c), kd, fs, ss, ip, dm, ig, m0, m1) (nI 1) p1 p2 := br_f (by decide) (br_t (by decide) (br_f (by decide) (br_f (by decide) (br_t (by decide) h))))
theorem tc_Xn_2 {post : Int32 → SX → Prop} {κ : Nat} {p1 p2 : Int32} (h2 : 2 ≤ κ) (h4 : κ ≤ 4) (h : wX_node_43 post (nI κ) p1 p2 1 1 (nI (tc_n c)) (nI (tc_ac c)) (nI (tc_cc c)) kd fs ss ip dm ig (m0) (m1)) : wpX_node post (nI (tc_n c), nI (tc_ac c), nI (tc_cc c), kd, fs, ss, ip, dm, ig, m0, m1) (nI κ) p1 p2 :=
  br_f (nI_pos (by omega)) (br_t (nI_le (b := 5) (by omega) (by omega)) (br_f (nI_nlt (b := 1) (by omega) (by omega)) (br_f (nI_nlt (a := 4) h4 (by omega)) (br_f (nI_nlt (b := 2) h2 (by omega)) (br_f (nI_nlt (a := 4) h4 (by omega)) h)))))
theorem tc_Yn_full {post : Int32 → SY → Prop} {x1 x2 x3 : Int32} (hn : tc_n c = 20) (h : post (-2) (nI (tc_n c), -1, kd, fs, ss, cn, mo, pl, de, gu, my, kp)) : wY_node_46 post x1 x2 x3 (nI (tc_n c)) (-1) kd fs ss cn mo pl de gu (my) (kp) := br_t (by rw [hn]; rfl) h
theorem tc_Yn_ok {post : Int32 → SY → Prop} {κ : Nat} {x2 x3 : Int32} (hκ : κ ≤ 5) (hn : tc_n c < 20) (h : post (nI (tc_n c)) (nI (tc_n c + 1), -1, upd kd (tc_n c) (nI κ), upd fs (tc_n c) (if κ = 5 then nI (tc_n c) else x2), upd ss (tc_n c) x3, cn, mo, pl, de, gu, my, kp)) : wY_node_46 post (nI κ) x2 x3 (nI (tc_n c)) (-1) kd fs ss cn mo pl de gu (my) (kp) := by
  have ec : (nI (tc_n c)).toNatClampNeg = tc_n c := nI_clamp (by omega)
  have i1 : vp_in (nI (tc_n c)) 20 := vp_in_nI (by omega) (by omega)
  have e1 : nI (tc_n c + 1) - 1 = nI (tc_n c) := nI_pred _
  unfold wY_node_46
  rw [ec]
  refine pk_eq (tc_n c) 20 (fun z => by omega) (fun z => ⟨i1, nm_e (pk_eq κ 5 (fun y => ?_) (fun y => ?_))⟩)
  · unfold wY_node_89
    rw [ec, nI_1]
    refine ⟨i1, nm_e ⟨i1, nm_e (nm_e ?_)⟩⟩
    rw [e1]
    rw [if_pos y] at h
    exact h
  · unfold wY_node_89
    rw [ec, nI_1]
    refine ⟨i1, nm_e ⟨i1, nm_e (nm_e ?_)⟩⟩
    rw [e1]
    rw [if_neg y] at h
    exact h
theorem tc_Yn_0 {post : Int32 → SY → Prop} {κ : Nat} {p1 p2 : Int32} (h5 : κ = 0 ∨ κ = 5) (h : wY_node_46 post (nI κ) p1 p2 (nI (tc_n c)) (-1) kd fs ss cn mo pl de gu (my) (kp)) : wpY_node post (nI (tc_n c), -1, kd, fs, ss, cn, mo, pl, de, gu, my, kp) (nI κ) p1 p2 := by
  rcases h5 with rfl | rfl
  · exact br_f (by decide) (br_f (by decide) (br_t (by decide) (br_t (by decide) h)))
  · exact br_f (by decide) (br_f (by decide) (br_f (by decide) (br_t (by decide) (br_f (by decide) (br_t (by decide) h)))))
theorem tc_Yn_1 {post : Int32 → SY → Prop} {κ : Nat} {p1 p2 : Int32} (h1 : 1 ≤ κ) (h4 : κ ≤ 4) (h : wpY_noNode (fun r => (r = 0 → wY_node_26 post (nI κ) p1 p2 (nI (tc_n c)) (-1) kd fs ss cn mo pl de gu (my) (kp)) ∧ (¬ r = 0 → post (-1) (nI (tc_n c), -1, kd, fs, ss, cn, mo, pl, de, gu, my, kp))) (nI (tc_n c), -1, kd, fs, ss, cn, mo, pl, de, gu, my, kp) p1) : wpY_node post (nI (tc_n c), -1, kd, fs, ss, cn, mo, pl, de, gu, my, kp) (nI κ) p1 p2 :=
  br_f (nI_pos (by omega)) (br_f (nI_nlt (a := 5) (by omega) (by omega)) (br_f (nI_ge (a := 0) h1 (by omega)) (br_f (nI_ge (b := 5) (by omega) (by omega)) h)))
theorem tc_Yn_2 {post : Int32 → SY → Prop} {κ : Nat} {p1 p2 : Int32} (h2 : 2 ≤ κ) (h4 : κ ≤ 4) (h : wpY_noNode (fun r => (r = 0 → wY_node_46 post (nI κ) p1 p2 (nI (tc_n c)) (-1) kd fs ss cn mo pl de gu (my) (kp)) ∧ (¬ r = 0 → post (-1) (nI (tc_n c), -1, kd, fs, ss, cn, mo, pl, de, gu, my, kp))) (nI (tc_n c), -1, kd, fs, ss, cn, mo, pl, de, gu, my, kp) p2) : wY_node_26 post (nI κ) p1 p2 (nI (tc_n c)) (-1) kd fs ss cn mo pl de gu (my) (kp) :=
  br_f (nI_ge (a := 1) h2 (by omega)) (br_f (nI_ge (b := 5) (by omega) (by omega)) h)
end
theorem i_vc_node {k : Nat} {u : SX} {v : SY} (I : i_Rel k u v) (hk : k + 6 ≤ 3072) (v1 : Int32) (v2 : Int32) (v3 : Int32) : wpX_node (fun r u' => wpY_node (fun r' v' => r' = r ∧ i_Rel (k + 6) u' v') v v1 v2 v3) u v1 v2 v3 := by
  have I' := I
  obtain ⟨c, kd, fs, ss, ip, dm, ig, m0, m1, gs, ts, cn, mo, pl, de, gu, my, kp, hw, hx, hy, rfl, rfl⟩ := I
  have h20 : tc_n c ≤ 20 := hw.1
  rcases tc_ix v1 (n := 6) (by omega) with z1 | ⟨κ, hκ, rfl⟩
  · unfold wpX_node wpY_node
    dsimp only
    refine br_c (fun z => br_t z ⟨rfl, I'⟩) (fun z => ?_)
    have z6 := z1.resolve_left z
    have z' : ¬ v1 ≤ 5 := fun y => absurd (Int32.le_trans z6 y) (by decide)
    exact br_f z' (br_f z (br_t (Int32.not_le.mp z') ⟨rfl, I'⟩))
  rcases (by omega : (κ = 0 ∨ κ = 5) ∨ κ = 1 ∨ (2 ≤ κ ∧ κ ≤ 4)) with h5 | rfl | ⟨h2, h4⟩
  · rcases (by omega : tc_n c = 20 ∨ tc_n c < 20) with e | e
    · exact tc_Xn_0 h5 (tc_Xn_full e (tc_Yn_0 h5 (tc_Yn_full e ⟨rfl, I'⟩)))
    · refine tc_Xn_0 h5 (tc_Xn_ok false false e (tc_Yn_0 h5 (tc_Yn_ok (by omega) e ⟨rfl, ?_⟩)))
      exact tc_rel_node hw hx hy e (by omega) (Nat.le_refl _) (Nat.le_refl _) (fun _ => rfl) (fun _ _ => by omega) (fun _ _ => by omega) (fun _ => rfl) (fun z => if_pos (by omega)) (fun _ _ => by omega)
  · rcases tc_ix v2 (n := tc_n c) (by omega) with z2 | ⟨f, hf, rfl⟩
    · exact tc_Xn_1 (br_f (by decide) (tc_XisNode0 z2 (br_t rfl (tc_Yn_1 (by omega) (by omega) (tc_YnoNode1 z2 (br_f (by decide) ⟨rfl, I'⟩))))))
    · rcases (by omega : tc_n c = 20 ∨ tc_n c < 20) with e | e
      · exact tc_Xn_1 (br_f (by decide) (tc_XisNode1 h20 hf (br_f (by decide) (br_t rfl (tc_Xn_full e (tc_Yn_1 (by omega) (by omega) (tc_YnoNode0 h20 hf (br_t rfl (br_t (by decide) (tc_Yn_full e ⟨rfl, I'⟩))))))))))
      · refine tc_Xn_1 (br_f (by decide) (tc_XisNode1 h20 hf (br_f (by decide) (br_t rfl (tc_Xn_ok true false e (tc_Yn_1 (by omega) (by omega) (tc_YnoNode0 h20 hf (br_t rfl (br_t (by decide) (tc_Yn_ok (by omega) e ⟨rfl, ?_⟩))))))))))
        exact tc_rel_node hw hx hy e (by omega) (by omega) (Nat.le_refl _) (fun _ => by omega) (fun _ _ => hf) (fun _ _ => by omega) (fun _ => rfl) (fun z => if_neg (by omega)) (fun _ _ => by omega)
  · rcases tc_ix v2 (n := tc_n c) (by omega) with z2 | ⟨f, hf, rfl⟩
    · exact tc_Xn_2 h2 h4 (br_f (by decide) (tc_XisNode0 z2 (br_t rfl (tc_Yn_1 (by omega) (by omega) (tc_YnoNode1 z2 (br_f (by decide) ⟨rfl, I'⟩))))))
    · rcases tc_ix v3 (n := tc_n c) (by omega) with z3 | ⟨s, hs, rfl⟩
      · exact tc_Xn_2 h2 h4 (br_f (by decide) (tc_XisNode1 h20 hf (br_f (by decide) (br_f (by decide) (tc_XisNode0 z3 (br_t rfl (tc_Yn_1 (by omega) (by omega) (tc_YnoNode0 h20 hf (br_t rfl (tc_Yn_2 h2 h4 (tc_YnoNode1 z3 (br_f (by decide) ⟨rfl, I'⟩))))))))))))
      · rcases (by omega : tc_n c = 20 ∨ tc_n c < 20) with e | e
        · exact tc_Xn_2 h2 h4 (br_f (by decide) (tc_XisNode1 h20 hf (br_f (by decide) (br_f (by decide) (tc_XisNode1 h20 hs (br_f (by decide) (tc_Xn_full e (tc_Yn_1 (by omega) (by omega) (tc_YnoNode0 h20 hf (br_t rfl (tc_Yn_2 h2 h4 (tc_YnoNode0 h20 hs (br_t rfl (tc_Yn_full e ⟨rfl, I'⟩))))))))))))))
        · refine tc_Xn_2 h2 h4 (br_f (by decide) (tc_XisNode1 h20 hf (br_f (by decide) (br_f (by decide) (tc_XisNode1 h20 hs (br_f (by decide) (tc_Xn_ok true true e (tc_Yn_1 (by omega) (by omega) (tc_YnoNode0 h20 hf (br_t rfl (tc_Yn_2 h2 h4 (tc_YnoNode0 h20 hs (br_t rfl (tc_Yn_ok (by omega) e ⟨rfl, ?_⟩))))))))))))))
          exact tc_rel_node hw hx hy e (by omega) (by omega) (by omega) (fun _ => by omega) (fun _ _ => hf) (fun _ _ => hs) (fun _ => by omega) (fun z => if_neg (by omega)) (fun _ _ => rfl)
