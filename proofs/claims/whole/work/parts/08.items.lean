/-! ===== items ===== -/
theorem tc_rel_item {c : tc_C} {kd fs ss ip : Nat → Int32} {dm ig m0 m1 : Nat → Int64} {gs ts cn cm mo pl de gu my kp : Nat → Int32} (hw : tc_wf c) (hx : tc_RX c kd fs ss ip dm ig) (hy : tc_RY c kd gs ts cn mo pl de gu) {p t j d g ac' cc' : Nat} {r1 r2 : Int64} (ht : t < 4) (hj : j < tc_n c) (hd : d < 14) (hg : g < 14) (hr1 : ∀ a, a < 64 → tc_lb r1 a = tc_lit d a) (hr2 : ∀ a, a < 64 → tc_lb r2 a = tc_lit g a) (ha' : ac' ≤ 12) (hc' : cc' ≤ 12) (hU : ∀ s, (s < ac' ∨ (12 ≤ s ∧ s < 12 + cc')) → s ≠ p → tc_used c s) (h0 : cm 0 = nI ac') (h1 : cm 1 = nI cc') :
    tc_Rel (nI (tc_n c), nI ac', nI cc', kd, fs, ss, upd ip p (nI (20 * t + j)), vp_updL dm p r1, vp_updL ig p r2, m0, m1) (nI (tc_n c), -1, kd, gs, ts, cm, upd mo p (nI t), upd pl p (nI j), upd de p (nI d), upd gu p (nI g), my, kp) := by
  rcases c with ⟨n, ac, cc, K, F, S, T, Q, D, G⟩
  obtain ⟨h20, hac, hcc, hN, hI⟩ := hw
  obtain ⟨hx1, hx2⟩ := hx
  obtain ⟨b1, b2, hy3, hy4⟩ := hy
  refine ⟨(n, ac', cc', K, F, S, tc_up T p t, tc_up Q p j, tc_up D p d, tc_up G p g), kd, fs, ss, upd ip p (nI (20 * t + j)), vp_updL dm p r1, vp_updL ig p r2, m0, m1, gs, ts, cm, upd mo p (nI t), upd pl p (nI j), upd de p (nI d), upd gu p (nI g), my, kp, ⟨h20, ha', hc', hN, fun s hs => ?_⟩, ⟨hx1, fun s hs => ?_⟩, ⟨h0, h1, hy3, fun s hs => ?_⟩, rfl, rfl⟩
  · show tc_up T p t s < 4 ∧ tc_up Q p j s < n ∧ tc_up D p d s < 14 ∧ tc_up G p g s < 14
    by_cases e : s = p
    · subst e
      rw [tc_ups, tc_ups, tc_ups, tc_ups]
      exact ⟨ht, hj, hd, hg⟩
    · rw [tc_upn e, tc_upn e, tc_upn e, tc_upn e]
      exact hI s (hU s hs e)
  · show upd ip p (nI (20 * t + j)) s = nI (20 * tc_up T p t s + tc_up Q p j s) ∧ ∀ a, a < 64 → tc_lb (vp_updL dm p r1 s) a = tc_lit (tc_up D p d s) a ∧ tc_lb (vp_updL ig p r2 s) a = tc_lit (tc_up G p g s) a
    by_cases e : s = p
    · subst e
      rw [tc_ups, tc_ups, tc_ups, tc_ups, pk_us, pk_uLs, pk_uLs]
      exact ⟨rfl, fun a ha => ⟨hr1 a ha, hr2 a ha⟩⟩
    · rw [tc_upn e, tc_upn e, tc_upn e, tc_upn e, pk_un e, pk_uLn e, pk_uLn e]
      exact hx2 s (hU s hs e)
  · show upd mo p (nI t) s = nI (tc_up T p t s) ∧ upd pl p (nI j) s = nI (tc_up Q p j s) ∧ upd de p (nI d) s = nI (tc_up D p d s) ∧ upd gu p (nI g) s = nI (tc_up G p g s)
    by_cases e : s = p
    · subst e
      rw [tc_ups, tc_ups, tc_ups, tc_ups, pk_us, pk_us, pk_us, pk_us]
      exact ⟨rfl, rfl, rfl, rfl⟩
    · rw [tc_upn e, tc_upn e, tc_upn e, tc_upn e, pk_un e, pk_un e, pk_un e, pk_un e]
      exact hy4 s (hU s hs e)
section
variable {c : tc_C} {kd fs ss ip : Nat → Int32} {dm ig m0 m1 : Nat → Int64} {cn mo pl de gu my kp : Nat → Int32}
theorem tc_Xitem0 {post : Int32 → SX → Prop} {t j d g : Nat} (h20 : tc_n c ≤ 20) (hq : tc_ac c < 12) (ht : t < 4) (hj : j < tc_n c) (hd : d < 14) (hg : g < 14) (h : ∀ r1 r2, (∀ a, a < 64 → tc_lb r1 a = tc_lit d a) → (∀ a, a < 64 → tc_lb r2 a = tc_lit g a) → post (nI (tc_ac c)) (nI (tc_n c), nI (tc_ac c + 1), nI (tc_cc c), kd, fs, ss, upd ip (tc_ac c) (nI (20 * t + j)), vp_updL dm (tc_ac c) r1, vp_updL ig (tc_ac c) r2, m0, m1)) : wpX_item post (nI (tc_n c), nI (tc_ac c), nI (tc_cc c), kd, fs, ss, ip, dm, ig, m0, m1) 0 (nI t) (nI j) (nI d) (nI g) := by
  have ec : (nI (tc_ac c)).toNatClampNeg = tc_ac c := nI_clamp (by omega)
  have i1 : vp_in (nI (tc_ac c)) 24 := vp_in_nI (by omega) (by omega)
  unfold wpX_item
  dsimp only
  refine tc_XisMoment1 ht (br_f (by decide) (tc_XisNode1 h20 hj (br_f (by decide) (tc_XisLiteral1 hd (br_f (by decide) (tc_XisLiteral1 hg (br_f (by decide) (br_t rfl (br_t (nI_lt (b := 12) hq (by omega)) (br_t rfl (nm_r (Int32.zero_add _) ?_)))))))))))
  unfold wpX_placeOf
  rw [tc_pX]
  dsimp only
  rw [ec]
  refine ⟨i1, nm_e (tc_Xliteral hd (fun r1 h1 => ⟨i1, nm_e (tc_Xliteral hg (fun r2 h2 => ⟨i1, nm_e (br_t rfl ?_)⟩))⟩))⟩
  rw [nI_1]
  exact h r1 r2 h1 h2
theorem tc_Xitem1 {post : Int32 → SX → Prop} {v1 : Int32} {t j d g : Nat} (hv : ¬ v1 = 0) (h20 : tc_n c ≤ 20) (hq : tc_cc c < 12) (ht : t < 4) (hj : j < tc_n c) (hd : d < 14) (hg : g < 14) (h : ∀ r1 r2, (∀ a, a < 64 → tc_lb r1 a = tc_lit d a) → (∀ a, a < 64 → tc_lb r2 a = tc_lit g a) → post (nI (tc_cc c)) (nI (tc_n c), nI (tc_ac c), nI (tc_cc c + 1), kd, fs, ss, upd ip (12 + tc_cc c) (nI (20 * t + j)), vp_updL dm (12 + tc_cc c) r1, vp_updL ig (12 + tc_cc c) r2, m0, m1)) : wpX_item post (nI (tc_n c), nI (tc_ac c), nI (tc_cc c), kd, fs, ss, ip, dm, ig, m0, m1) v1 (nI t) (nI j) (nI d) (nI g) := by
  have ec : (nI (12 + tc_cc c)).toNatClampNeg = 12 + tc_cc c := nI_clamp (by omega)
  have i1 : vp_in (nI (12 + tc_cc c)) 24 := vp_in_nI (by omega) (by omega)
  unfold wpX_item
  dsimp only
  refine tc_XisMoment1 ht (br_f (by decide) (tc_XisNode1 h20 hj (br_f (by decide) (tc_XisLiteral1 hd (br_f (by decide) (tc_XisLiteral1 hg (br_f (by decide) (br_f hv (br_t (nI_lt (b := 12) hq (by omega)) (br_f hv (nm_r (nI_add 12 (tc_cc c)) ?_)))))))))))
  unfold wpX_placeOf
  rw [tc_pX]
  dsimp only
  rw [ec]
  refine ⟨i1, nm_e (tc_Xliteral hd (fun r1 h1 => ⟨i1, nm_e (tc_Xliteral hg (fun r2 h2 => ⟨i1, nm_e (br_f hv ?_)⟩))⟩))⟩
  rw [nI_1]
  exact h r1 r2 h1 h2
theorem tc_Yi_full {post : Int32 → SY → Prop} {x2 x3 x4 x5 : Int32} {σ : Nat} (hσ : σ < 2) (hc : cn σ = nI 12) (h : post (-2) (nI (tc_n c), -1, kd, fs, ss, cn, mo, pl, de, gu, my, kp)) : wY_item_45 post x2 x3 x4 x5 (nI σ) (nI (tc_n c)) (-1) kd fs ss cn mo pl de gu (my) (kp) := by
  have es : (nI σ).toNatClampNeg = σ := nI_clamp (by omega)
  have i0 : vp_in (nI σ) 2 := vp_in_nI hσ (by omega)
  unfold wY_item_45
  rw [es, hc]
  exact ⟨i0, br_t rfl h⟩
theorem tc_Yi_ok {post : Int32 → SY → Prop} {x2 x3 x4 x5 : Int32} {σ q : Nat} (hσ : σ < 2) (hc : cn σ = nI q) (hq : q < 12) (h : post (nI q) (nI (tc_n c), -1, kd, fs, ss, upd cn σ (nI (q + 1)), upd mo (12 * σ + q) x2, upd pl (12 * σ + q) x3, upd de (12 * σ + q) x4, upd gu (12 * σ + q) x5, my, kp)) : wY_item_45 post x2 x3 x4 x5 (nI σ) (nI (tc_n c)) (-1) kd fs ss cn mo pl de gu (my) (kp) := by
  have es : (nI σ).toNatClampNeg = σ := nI_clamp (by omega)
  have i0 : vp_in (nI σ) 2 := vp_in_nI hσ (by omega)
  have ep : 12 * nI σ + nI q = nI (12 * σ + q) := by
    rw [show (12 : Int32) = nI 12 from rfl, pk_mul, nI_add]
  have ec : (nI (12 * σ + q)).toNatClampNeg = 12 * σ + q := nI_clamp (by omega)
  have i1 : vp_in (nI (12 * σ + q)) 24 := vp_in_nI (by omega) (by omega)
  unfold wY_item_45
  rw [es, hc, ep, nI_1]
  refine ⟨i0, br_f (fun z => ?_) ⟨i0, nm_e ?_⟩⟩
  · have := (nI_eq (b := 12) (by omega) (by omega)).mp z
    omega
  · rw [ec]
    refine ⟨i1, nm_e ⟨i1, nm_e ⟨i1, nm_e ⟨i1, nm_e ⟨i0, i0, nm_e ⟨i0, ?_⟩⟩⟩⟩⟩⟩
    rw [pk_us, nI_pred]
    exact h
end
theorem i_vc_item {k : Nat} {u : SX} {v : SY} (I : i_Rel k u v) (hk : k + 6 ≤ 3072) (v1 : Int32) (v2 : Int32) (v3 : Int32) (v4 : Int32) (v5 : Int32) : wpX_item (fun r u' => wpY_item (fun r' v' => r' = r ∧ i_Rel (k + 6) u' v') v v1 v2 v3 v4 v5) u v1 v2 v3 v4 v5 := by
  have I' := I
  obtain ⟨c, kd, fs, ss, ip, dm, ig, m0, m1, gs, ts, cn, mo, pl, de, gu, my, kp, hw, hx, hy, rfl, rfl⟩ := I
  have h20 : tc_n c ≤ 20 := hw.1
  have hac : tc_ac c ≤ 12 := hw.2.1
  have hcc : tc_cc c ≤ 12 := hw.2.2.1
  rcases tc_ix v2 (n := 4) (by omega) with z2 | ⟨t, ht, rfl⟩
  · unfold wpX_item wpY_item
    dsimp only
    exact tc_XisMoment0 z2 (br_t rfl (tc_YnoMoment1 z2 (br_f (by decide) ⟨rfl, I'⟩)))
  rcases tc_ix v3 (n := tc_n c) (by omega) with z3 | ⟨j, hj, rfl⟩
  · unfold wpX_item wpY_item
    dsimp only
    exact tc_XisMoment1 ht (br_f (by decide) (tc_XisNode0 z3 (br_t rfl (tc_YnoMoment0 ht (br_t rfl (tc_YnoNode1 z3 (br_f (by decide) ⟨rfl, I'⟩)))))))
  rcases tc_ix v4 (n := 14) (by omega) with z4 | ⟨d, hd, rfl⟩
  · unfold wpX_item wpY_item
    dsimp only
    exact tc_XisMoment1 ht (br_f (by decide) (tc_XisNode1 h20 hj (br_f (by decide) (tc_XisLiteral0 z4 (br_t rfl (tc_YnoMoment0 ht (br_t rfl (tc_YnoNode0 h20 hj (br_t rfl (tc_YnoLiteral1 z4 (br_f (by decide) ⟨rfl, I'⟩)))))))))))
  rcases tc_ix v5 (n := 14) (by omega) with z5 | ⟨g, hg, rfl⟩
  · unfold wpX_item wpY_item
    dsimp only
    exact tc_XisMoment1 ht (br_f (by decide) (tc_XisNode1 h20 hj (br_f (by decide) (tc_XisLiteral1 hd (br_f (by decide) (tc_XisLiteral0 z5 (br_t rfl (tc_YnoMoment0 ht (br_t rfl (tc_YnoNode0 h20 hj (br_t rfl (tc_YnoLiteral0 hd (br_t rfl (tc_YnoLiteral1 z5 (br_f (by decide) ⟨rfl, I'⟩)))))))))))))))
  have Y : ∀ {post : Int32 → SY → Prop}, ((v1 = 0 → wY_item_45 post (nI t) (nI j) (nI d) (nI g) 0 (nI (tc_n c)) (-1) kd gs ts cn mo pl de gu my kp) ∧ (¬ v1 = 0 → wY_item_45 post (nI t) (nI j) (nI d) (nI g) 1 (nI (tc_n c)) (-1) kd gs ts cn mo pl de gu my kp)) → wpY_item post (nI (tc_n c), -1, kd, gs, ts, cn, mo, pl, de, gu, my, kp) v1 (nI t) (nI j) (nI d) (nI g) := by
    intro post H
    unfold wpY_item
    dsimp only
    exact tc_YnoMoment0 ht (br_t rfl (tc_YnoNode0 h20 hj (br_t rfl (tc_YnoLiteral0 hd (br_t rfl (tc_YnoLiteral0 hg (br_t rfl H)))))))
  by_cases z1 : v1 = 0
  · subst z1
    rcases (by omega : tc_ac c = 12 ∨ tc_ac c < 12) with e | e
    · have hc : cn 0 = nI 12 := by rw [hy.1, e]
      unfold wpX_item
      dsimp only
      exact tc_XisMoment1 ht (br_f (by decide) (tc_XisNode1 h20 hj (br_f (by decide) (tc_XisLiteral1 hd (br_f (by decide) (tc_XisLiteral1 hg (br_f (by decide) (br_t rfl (br_f (by rw [e]; decide) (Y (br_t rfl (tc_Yi_full (σ := 0) (by omega) hc ⟨rfl, I'⟩))))))))))))
    · refine tc_Xitem0 h20 e ht hj hd hg (fun r1 r2 h1 h2 => Y (br_t rfl (tc_Yi_ok (σ := 0) (by omega) hy.1 e ⟨rfl, ?_⟩)))
      rw [show 12 * 0 + tc_ac c = tc_ac c by omega]
      exact tc_rel_item hw hx hy ht hj hd hg h1 h2 (by omega) hcc (fun s hs hn => by unfold tc_used; omega) pk_us (by rw [pk_un (by omega)]; exact hy.2.1)
  · rcases (by omega : tc_cc c = 12 ∨ tc_cc c < 12) with e | e
    · have hc : cn 1 = nI 12 := by rw [hy.2.1, e]
      unfold wpX_item
      dsimp only
      exact tc_XisMoment1 ht (br_f (by decide) (tc_XisNode1 h20 hj (br_f (by decide) (tc_XisLiteral1 hd (br_f (by decide) (tc_XisLiteral1 hg (br_f (by decide) (br_f z1 (br_f (by rw [e]; decide) (Y (br_f z1 (tc_Yi_full (σ := 1) (by omega) hc ⟨rfl, I'⟩))))))))))))
    · refine tc_Xitem1 z1 h20 e ht hj hd hg (fun r1 r2 h1 h2 => Y (br_f z1 (tc_Yi_ok (σ := 1) (by omega) hy.2.1 e ⟨rfl, ?_⟩)))
      rw [show 12 * 1 + tc_cc c = 12 + tc_cc c by omega]
      exact tc_rel_item hw hx hy ht hj hd hg h1 h2 hac (by omega) (fun s hs hn => by unfold tc_used; omega) (by rw [pk_un (by omega)]; exact hy.1) pk_us
/-! ===== drop ===== -/
def tc_sx (lo hi s : Nat) : Nat := if lo ≤ s ∧ s < hi then s + 1 else s
theorem tc_sx0 {α : Type} (f : Nat → α) (lo : Nat) : (fun s => f (tc_sx lo lo s)) = f := by
  funext s
  unfold tc_sx
  rw [if_neg (by omega)]
theorem tc_sxs {α : Type} (f : Nat → α) {lo i : Nat} (h : lo ≤ i) : (fun s => if s = i then f (tc_sx lo i (i + 1)) else f (tc_sx lo i s)) = fun s => f (tc_sx lo (i + 1) s) := by
  funext s
  unfold tc_sx
  by_cases e : s = i
  · rw [if_pos e, if_neg (by omega), if_pos (by omega), e]
  · rw [if_neg e]
    by_cases z : lo ≤ s ∧ s < i
    · rw [if_pos z, if_pos (by omega)]
    · rw [if_neg z, if_neg (by omega)]
theorem tc_rel_shift {c : tc_C} {kd fs ss ip : Nat → Int32} {dm ig m0 m1 : Nat → Int64} {gs ts cn cm mo pl de gu my kp : Nat → Int32} (hw : tc_wf c) (hx : tc_RX c kd fs ss ip dm ig) (hy : tc_RY c kd gs ts cn mo pl de gu) {lo hi ac' cc' : Nat} (ha' : ac' ≤ 12) (hc' : cc' ≤ 12) (hU : ∀ s, (s < ac' ∨ (12 ≤ s ∧ s < 12 + cc')) → tc_used c (tc_sx lo hi s)) (h0 : cm 0 = nI ac') (h1 : cm 1 = nI cc') :
    tc_Rel (nI (tc_n c), nI ac', nI cc', kd, fs, ss, (fun s => ip (tc_sx lo hi s)), (fun s => dm (tc_sx lo hi s)), (fun s => ig (tc_sx lo hi s)), m0, m1) (nI (tc_n c), -1, kd, gs, ts, cm, (fun s => mo (tc_sx lo hi s)), (fun s => pl (tc_sx lo hi s)), (fun s => de (tc_sx lo hi s)), (fun s => gu (tc_sx lo hi s)), my, kp) := by
  rcases c with ⟨n, ac, cc, K, F, S, T, Q, D, G⟩
  obtain ⟨h20, hac, hcc, hN, hI⟩ := hw
  obtain ⟨hx1, hx2⟩ := hx
  obtain ⟨b1, b2, hy3, hy4⟩ := hy
  exact ⟨(n, ac', cc', K, F, S, fun s => T (tc_sx lo hi s), fun s => Q (tc_sx lo hi s), fun s => D (tc_sx lo hi s), fun s => G (tc_sx lo hi s)), kd, fs, ss, _, _, _, m0, m1, gs, ts, cm, _, _, _, _, my, kp, ⟨h20, ha', hc', hN, fun s hs => hI _ (hU s hs)⟩, ⟨hx1, fun s hs => hx2 _ (hU s hs)⟩, ⟨h0, h1, hy3, fun s hs => hy4 _ (hU s hs)⟩, rfl, rfl⟩
section
variable {c : tc_C} {kd fs ss ip : Nat → Int32} {dm ig m0 m1 : Nat → Int64} {cn mo pl de gu my kp : Nat → Int32}
theorem tc_Xdrop38 {post : Int32 → SX → Prop} {v1 x3 : Int32} {lo hi : Nat} (hl : lo ≤ hi) (hh : hi < 24) (h : wpX_setItemCount (fun u => match u with | (a1, a2, a3, a4, a5, a6, a7, a8, a9, a10, a11) => post (x3 - 1) (a1, a2, a3, a4, a5, a6, a7, a8, a9, a10, a11)) (nI (tc_n c), nI (tc_ac c), nI (tc_cc c), kd, fs, ss, (fun s => ip (tc_sx lo hi s)), (fun s => dm (tc_sx lo hi s)), (fun s => ig (tc_sx lo hi s)), m0, m1) v1 (x3 - 1)) : ∃ n, wX_drop_38 post v1 x3 (nI hi) (nI (tc_n c)) (nI (tc_ac c)) (nI (tc_cc c)) n (nI lo) kd fs ss ip dm ig m0 m1 := by
  have H := pk_loop (fun n i (_ : Unit) => wX_drop_38 post v1 x3 (nI hi) (nI (tc_n c)) (nI (tc_ac c)) (nI (tc_cc c)) n (nI i) kd fs ss (fun s => ip (tc_sx lo i s)) (fun s => dm (tc_sx lo i s)) (fun s => ig (tc_sx lo i s)) m0 m1) (fun i _ => lo ≤ i) hi lo () hl (Nat.le_refl _) ?_ ?_
  · rw [tc_sx0, tc_sx0, tc_sx0] at H
    exact H
  · intro n s _
    exact br_t (nI_le (Nat.le_refl _) (by omega)) h
  · intro n i s hi' hlo ih
    have ec : (nI i).toNatClampNeg = i := nI_clamp (by omega)
    have ed : (nI (i + 1)).toNatClampNeg = i + 1 := nI_clamp (by omega)
    have i1 : vp_in (nI i) 24 := vp_in_nI (by omega) (by omega)
    have i2 : vp_in (nI (i + 1)) 24 := vp_in_nI (by omega) (by omega)
    unfold wX_drop_38
    rw [nI_1, ec, ed]
    refine br_f (nI_ge hi' (by omega)) ⟨i2, i1, nm_r (tc_sxs ip hlo) ⟨i2, i1, nm_r (tc_sxs dm hlo) ⟨i2, i1, nm_r (tc_sxs ig hlo) (nm_e ?_)⟩⟩⟩
    exact ih () (by omega)
theorem tc_Ydrop9 {post : Int32 → SY → Prop} {σ q k : Nat} (hσ : σ < 2) (hc : cn σ = nI q) (hq : q ≤ 12) (hk : k < q) (h : post (nI (q - 1)) (nI (tc_n c), -1, kd, fs, ss, upd cn σ (nI (q - 1)), (fun s => mo (tc_sx (12 * σ + k) (12 * σ + (q - 1)) s)), (fun s => pl (tc_sx (12 * σ + k) (12 * σ + (q - 1)) s)), (fun s => de (tc_sx (12 * σ + k) (12 * σ + (q - 1)) s)), (fun s => gu (tc_sx (12 * σ + k) (12 * σ + (q - 1)) s)), my, kp)) : wY_drop_9 post (nI k) (nI σ) (nI (tc_n c)) (-1) kd fs ss cn mo pl de gu (my) (kp) := by
  have es : (nI σ).toNatClampNeg = σ := nI_clamp (by omega)
  have i0 : vp_in (nI σ) 2 := vp_in_nI hσ (by omega)
  have ep : ∀ m : Nat, 12 * nI σ + nI m = nI (12 * σ + m) := fun m => by
    rw [show (12 : Int32) = nI 12 from rfl, pk_mul, nI_add]
  have eq1 : nI q - 1 = nI (q - 1) := pk_sub (b := 1) (by omega)
  unfold wY_drop_9
  rw [es, hc, eq1, ep]
  refine br_f (nI_pos (by omega)) ⟨i0, br_t (nI_lt hk (by omega)) ⟨i0, i0, nm_e (nm_e ?_)⟩⟩
  revert h
  generalize hcm : upd cn σ (nI (q - 1)) = cm
  have hcm' : cm σ = nI (q - 1) := by rw [← hcm]; exact pk_us
  intro h
  have H := pk_loop (fun n i (_ : Unit) => wY_drop_45 post (nI σ) (nI (tc_n c)) (-1) n (nI i) kd fs ss cm (fun s => mo (tc_sx (12 * σ + k) i s)) (fun s => pl (tc_sx (12 * σ + k) i s)) (fun s => de (tc_sx (12 * σ + k) i s)) (fun s => gu (tc_sx (12 * σ + k) i s)) my kp) (fun i _ => 12 * σ + k ≤ i) (12 * σ + (q - 1)) (12 * σ + k) () (by omega) (Nat.le_refl _) ?_ ?_
  · rw [tc_sx0, tc_sx0, tc_sx0, tc_sx0] at H
    exact H
  · intro n s _
    unfold wY_drop_45
    rw [es, hcm', ep]
    exact ⟨i0, br_t (nI_le (Nat.le_refl _) (by omega)) ⟨i0, h⟩⟩
  · intro n i s hi' hlo ih
    have ec : (nI i).toNatClampNeg = i := nI_clamp (by omega)
    have ed : (nI (i + 1)).toNatClampNeg = i + 1 := nI_clamp (by omega)
    have i1 : vp_in (nI i) 24 := vp_in_nI (by omega) (by omega)
    have i2 : vp_in (nI (i + 1)) 24 := vp_in_nI (by omega) (by omega)
    unfold wY_drop_45
    rw [es, hcm', ep, nI_1, ec, ed]
    refine ⟨i0, br_f (nI_ge hi' (by omega)) ⟨i2, i1, nm_r (tc_sxs mo hlo) ⟨i2, i1, nm_r (tc_sxs pl hlo) ⟨i2, i1, nm_r (tc_sxs de hlo) ⟨i2, i1, nm_r (tc_sxs gu hlo) (nm_e ?_)⟩⟩⟩⟩⟩
    exact ih () (by omega)
end
theorem tc_Ydrop_none {post : Int32 → SY → Prop} {x : Int32} {σ q : Nat} {c : tc_C} {kd fs ss cn mo pl de gu my kp : Nat → Int32} (hσ : σ < 2) (hc : cn σ = nI q) (hx : x < 0 ∨ nI q ≤ x) (h : post (-4) (nI (tc_n c), -1, kd, fs, ss, cn, mo, pl, de, gu, my, kp)) : wY_drop_9 post x (nI σ) (nI (tc_n c)) (-1) kd fs ss cn mo pl de gu (my) (kp) := by
  have es : (nI σ).toNatClampNeg = σ := nI_clamp (by omega)
  have i0 : vp_in (nI σ) 2 := vp_in_nI hσ (by omega)
  unfold wY_drop_9
  rw [es, hc]
  exact br_c (fun _ => h) (fun z => ⟨i0, br_f (Int32.not_lt.mpr (hx.resolve_left z)) h⟩)
theorem i_vc_drop {k : Nat} {u : SX} {v : SY} (I : i_Rel k u v) (hk : k + 6 ≤ 3072) (v1 : Int32) (v2 : Int32) : wpX_drop (fun r u' => wpY_drop (fun r' v' => r' = r ∧ i_Rel (k + 6) u' v') v v1 v2) u v1 v2 := by
  have I' := I
  obtain ⟨c, kd, fs, ss, ip, dm, ig, m0, m1, gs, ts, cn, mo, pl, de, gu, my, kp, hw, hx, hy, rfl, rfl⟩ := I
  have h20 : tc_n c ≤ 20 := hw.1
  have hac : tc_ac c ≤ 12 := hw.2.1
  have hcc : tc_cc c ≤ 12 := hw.2.2.1
  unfold wpX_drop wpY_drop
  dsimp only
  by_cases z1 : v1 = 0
  · subst z1
    refine br_t rfl ?_
    rcases tc_ix v2 (n := tc_ac c) (by omega) with z2 | ⟨q, hq, rfl⟩
    · exact br_c (fun _ => br_t rfl (tc_Ydrop_none (σ := 0) (by omega) hy.1 z2 ⟨rfl, I'⟩)) (fun z => br_f (Int32.not_lt.mpr (z2.resolve_left z)) (br_t rfl (tc_Ydrop_none (σ := 0) (by omega) hy.1 z2 ⟨rfl, I'⟩)))
    · have e1 : 0 + nI (tc_ac c) - 1 = nI (tc_ac c - 1) := by rw [Int32.zero_add]; exact pk_sub (b := 1) (by omega)
      have e2 : nI (tc_ac c) - 1 = nI (tc_ac c - 1) := pk_sub (b := 1) (by omega)
      refine br_f (nI_pos (by omega)) (br_t (nI_lt hq (by omega)) (br_t rfl (nm_r e1 (nm_r (Int32.zero_add _) (tc_Xdrop38 (by omega) (by omega) (br_t rfl (br_t rfl ?_)))))))
      rw [e2]
      refine tc_Ydrop9 (σ := 0) (by omega) hy.1 hac hq ⟨rfl, ?_⟩
      rw [show 12 * 0 + q = q by omega, show 12 * 0 + (tc_ac c - 1) = tc_ac c - 1 by omega]
      refine tc_rel_shift hw hx hy (by omega) hcc (fun s hs => ?_) pk_us (by rw [pk_un (by omega)]; exact hy.2.1)
      unfold tc_used tc_sx
      split <;> omega
  · refine br_f z1 ?_
    rcases tc_ix v2 (n := tc_cc c) (by omega) with z2 | ⟨q, hq, rfl⟩
    · exact br_c (fun _ => br_f z1 (tc_Ydrop_none (σ := 1) (by omega) hy.2.1 z2 ⟨rfl, I'⟩)) (fun z => br_f (Int32.not_lt.mpr (z2.resolve_left z)) (br_f z1 (tc_Ydrop_none (σ := 1) (by omega) hy.2.1 z2 ⟨rfl, I'⟩)))
    · have e1 : 12 + nI (tc_cc c) - 1 = nI (12 + (tc_cc c - 1)) := by
        rw [show (12 : Int32) + nI (tc_cc c) = nI (12 + tc_cc c) from nI_add 12 _, show 12 + (tc_cc c - 1) = 12 + tc_cc c - 1 by omega]
        exact pk_sub (b := 1) (by omega)
      have e2 : nI (tc_cc c) - 1 = nI (tc_cc c - 1) := pk_sub (b := 1) (by omega)
      refine br_f (nI_pos (by omega)) (br_t (nI_lt hq (by omega)) (br_f z1 (nm_r e1 (nm_r (nI_add 12 q) (tc_Xdrop38 (by omega) (by omega) (br_f z1 (br_f z1 ?_)))))))
      rw [e2]
      refine tc_Ydrop9 (σ := 1) (by omega) hy.2.1 hcc hq ⟨rfl, ?_⟩
      rw [show 12 * 1 + q = 12 + q by omega, show 12 * 1 + (tc_cc c - 1) = 12 + (tc_cc c - 1) by omega]
      refine tc_rel_shift hw hx hy hac (by omega) (fun s hs => ?_) (by rw [pk_un (by omega)]; exact hy.1) pk_us
      unfold tc_used tc_sx
      split <;> omega
