/-! ===== cone: both sides against the least closed set ===== -/
def tc_bit (i : Nat) : Int32 := (1 : Int32) <<< (nI i &&& 31)
theorem tc_bit_bt {i q : Nat} (hi : i < 32) (hq : q < 32) : bt (tc_bit i) q = decide (i = q) := by
  unfold bt tc_bit
  rw [nf_sh i hi, BitVec.getLsbD_twoPow]
  simp [hi]
theorem tc_bt1 : ∀ i, i < 32 → bt 1 i = decide (i = 0) := by decide +kernel
theorem tc_and1 (y : Int32) : y &&& 1 = tc_i (bt y 0) := by
  apply b_ext
  intro i hi
  rw [b_and, tc_bt1 i hi]
  by_cases e : i = 0
  · subst e
    cases bt y 0
    · rw [Bool.false_and]; exact (b_0 0).symm
    · rfl
  · rw [decide_eq_false e, Bool.and_false]
    cases bt y 0
    · exact (b_0 i).symm
    · show false = bt 1 i
      rw [tc_bt1 i hi, decide_eq_false e]
theorem tc_Xt {A B : Prop} {x : Int32} {j : Nat} (hj : j < 32) (f : bt x j = false → A) (g : bt x j = true → B) : (((x.toUInt32 >>> ((nI j).toUInt32 &&& Int32.toUInt32 31)).toInt32 &&& 1) = 0 → A) ∧ (¬ ((x.toUInt32 >>> ((nI j).toUInt32 &&& Int32.toUInt32 31)).toInt32 &&& 1) = 0 → B) := by
  rw [tc_and1, b_ushr j hj]
  exact tc_br0 f g
theorem tc_Yt {A B : Prop} {x : Int32} {j : Nat} (hj : j < 32) (g : bt x j = true → A) (f : bt x j = false → B) : (((x >>> (nI j &&& 31)) &&& 1) = 1 → A) ∧ (¬ ((x >>> (nI j &&& 31)) &&& 1) = 1 → B) := by
  rw [tc_and1, b_sshr j hj x (by omega), if_pos (by omega)]
  exact tc_br1 g f
def tc_sub (s p : Int32) : Prop := ∀ q, q < 32 → bt s q = true → bt p q = true
theorem tc_sub_eq {s p : Int32} (h : tc_sub s p) (h' : tc_sub p s) : s = p := by
  apply b_ext
  intro i hi
  have a := h i hi
  have b := h' i hi
  cases e : bt s i
  · cases e' : bt p i
    · rfl
    · rw [b e'] at e; exact absurd e (by decide)
  · exact (a e).symm
def tc_ad (s : Int32) (j i : Nat) : Int32 := if bt s j then s ||| tc_bit i else s
theorem tc_ad_mono (s : Int32) (j i : Nat) : tc_sub s (tc_ad s j i) := by
  intro q hq h
  unfold tc_ad
  split
  · rw [b_or, h]; rfl
  · exact h
theorem tc_ad_has {s : Int32} {j i : Nat} (hi : i < 32) (h : bt s j = true) : bt (tc_ad s j i) i = true := by
  unfold tc_ad
  rw [if_pos h, b_or, tc_bit_bt hi hi, decide_eq_true rfl, Bool.or_true]
theorem tc_ad_sup {s p : Int32} {j i : Nat} (hi : i < 32) (h : tc_sub s p) (hj : bt s j = true → bt p i = true) : tc_sub (tc_ad s j i) p := by
  intro q hq z
  unfold tc_ad at z
  split at z
  · rename_i y
    rw [b_or, tc_bit_bt hi hq] at z
    by_cases e : i = q
    · subst e
      exact hj y
    · rw [decide_eq_false e, Bool.or_false] at z
      exact h q hq z
  · exact h q hq z
theorem tc_ad_self {s : Int32} {j : Nat} (hj : j < 32) : tc_ad s j j = s :=
  tc_sub_eq (tc_ad_sup hj (fun _ _ z => z) (fun z => z)) (tc_ad_mono s j j)
def tc_cl (c : tc_C) (s : Int32) : Prop := ∀ j, j < tc_n c → bt s j = true → bt s (tc_F c j) = true ∧ bt s (tc_S c j) = true
/-- the least closed set that holds v -/
def tc_lc (c : tc_C) (v : Nat) (s : Int32) : Prop := bt s v = true ∧ tc_cl c s ∧ ∀ p, bt p v = true → tc_cl c p → tc_sub s p
theorem tc_lc_eq {c : tc_C} {v : Nat} {s p : Int32} (h : tc_lc c v s) (h' : tc_lc c v p) : s = p := tc_sub_eq (h.2.2 p h'.1 h'.2.1) (h'.2.2 s h.1 h.2.1)
theorem tc_cnt_mono {f g : Nat → Bool} : ∀ {k : Nat}, (∀ i, i < k → f i = true → g i = true) → tc_cnt f k ≤ tc_cnt g k := by
  intro k
  induction k with
  | zero => intro _; exact Nat.le_refl _
  | succ k ih =>
    intro h
    have a := ih (fun i hi => h i (by omega))
    have b := h k (by omega)
    cases e : f k
    · rw [tc_cnt_f e]
      have : tc_cnt g k ≤ tc_cnt g (k + 1) := Nat.le_add_right _ _
      omega
    · rw [tc_cnt_t e, tc_cnt_t (b e)]
      omega
theorem tc_cnt_lt {f g : Nat → Bool} {i : Nat} : ∀ {k : Nat}, (∀ i, i < k → f i = true → g i = true) → i < k → f i = false → g i = true → tc_cnt f k < tc_cnt g k := by
  intro k
  induction k with
  | zero => intro _ z; omega
  | succ k ih =>
    intro h hi hf hg
    by_cases e : i = k
    · subst e
      have a := tc_cnt_mono (f := f) (g := g) (k := i) (fun q hq => h q (by omega))
      rw [tc_cnt_f hf, tc_cnt_t hg]
      omega
    · have a := ih (fun q hq => h q (by omega)) (by omega) hf hg
      have b := h k (by omega)
      cases e : f k
      · rw [tc_cnt_f e]
        have : tc_cnt g k ≤ tc_cnt g (k + 1) := Nat.le_add_right _ _
        omega
      · rw [tc_cnt_t e, tc_cnt_t (b e)]
        omega
theorem tc_cnt_all {f : Nat → Bool} {k : Nat} (h : k ≤ tc_cnt f k) : ∀ i, i < k → f i = true := by
  intro i hi
  refine ts_nf (fun z => ?_)
  have a := tc_cnt_lt (f := f) (g := fun _ => true) (k := k) (fun _ _ _ => rfl) hi z rfl
  have b := tc_cnt_le (fun _ => true) k
  omega
/-! the component: count - 1 steps -/
def tc_ws (c : tc_C) (s : Int32) : Nat → Int32
  | 0 => s
  | i + 1 => if bt s i then tc_ws c s i ||| (tc_bit (tc_F c i) ||| tc_bit (tc_S c i)) else tc_ws c s i
theorem tc_ws_mono (c : tc_C) (s : Int32) : ∀ i, tc_sub s (tc_ws c s i) := by
  intro i
  induction i with
  | zero => exact fun _ _ h => h
  | succ i ih =>
    intro q hq h
    show bt (if bt s i then tc_ws c s i ||| _ else tc_ws c s i) q = true
    split
    · rw [b_or, ih q hq h]; rfl
    · exact ih q hq h
theorem tc_ws_has {c : tc_C} (hw : tc_wf c) {s : Int32} : ∀ i, i ≤ tc_n c → ∀ j, j < i → bt s j = true → bt (tc_ws c s i) (tc_F c j) = true ∧ bt (tc_ws c s i) (tc_S c j) = true := by
  have h20 : tc_n c ≤ 20 := hw.1
  intro i
  induction i with
  | zero => intro _ j hj; omega
  | succ i ih =>
    intro hi j hj h
    show bt (if bt s i then tc_ws c s i ||| (tc_bit (tc_F c i) ||| tc_bit (tc_S c i)) else tc_ws c s i) _ = true ∧ bt (if bt s i then tc_ws c s i ||| (tc_bit (tc_F c i) ||| tc_bit (tc_S c i)) else tc_ws c s i) _ = true
    by_cases e : j = i
    · subst e
      obtain ⟨_, f, g, _⟩ := hw.2.2.2.1 j (by omega)
      rw [if_pos h, b_or, b_or, b_or, b_or, tc_bit_bt (by omega) (by omega), tc_bit_bt (i := tc_S c j) (q := tc_S c j) (by omega) (by omega), decide_eq_true rfl, decide_eq_true rfl]
      simp
    · obtain ⟨a, b⟩ := ih (by omega) j (by omega) h
      split
      · exact ⟨by rw [b_or, a]; rfl, by rw [b_or, b]; rfl⟩
      · exact ⟨a, b⟩
theorem tc_ws_sup {c : tc_C} (hw : tc_wf c) {s p : Int32} (h : tc_sub s p) (hp : tc_cl c p) : ∀ i, i ≤ tc_n c → tc_sub (tc_ws c s i) p := by
  have h20 : tc_n c ≤ 20 := hw.1
  intro i
  induction i with
  | zero => intro _; exact h
  | succ i ih =>
    intro hi q hq z
    have z : bt (if bt s i then tc_ws c s i ||| (tc_bit (tc_F c i) ||| tc_bit (tc_S c i)) else tc_ws c s i) q = true := z
    obtain ⟨_, f, g, _⟩ := hw.2.2.2.1 i (by omega)
    split at z
    · rename_i y
      obtain ⟨a, b⟩ := hp i (by omega) (h i (by omega) y)
      rw [b_or, b_or, tc_bit_bt (by omega) hq, tc_bit_bt (by omega) hq] at z
      by_cases e : tc_F c i = q
      · rw [← e]; exact a
      · by_cases e' : tc_S c i = q
        · rw [← e']; exact b
        · rw [decide_eq_false e, decide_eq_false e', Bool.or_false, Bool.or_false] at z
          exact ih (by omega) q hq z
    · exact ih (by omega) q hq z
def tc_it (c : tc_C) (v : Nat) : Nat → Int32
  | 0 => tc_bit v
  | m + 1 => tc_ws c (tc_it c v m) (tc_n c)
theorem tc_it_v {c : tc_C} {v : Nat} (hv : v < 32) : ∀ m, bt (tc_it c v m) v = true := by
  intro m
  induction m with
  | zero => show bt (tc_bit v) v = true; rw [tc_bit_bt hv hv, decide_eq_true rfl]
  | succ m ih => exact tc_ws_mono c _ _ v hv ih
theorem tc_it_sup {c : tc_C} (hw : tc_wf c) {v : Nat} (hv : v < 32) {p : Int32} (h : bt p v = true) (hp : tc_cl c p) : ∀ m, tc_sub (tc_it c v m) p := by
  intro m
  induction m with
  | zero =>
    intro q hq z
    have z : bt (tc_bit v) q = true := z
    rw [tc_bit_bt hv hq] at z
    rw [← of_decide_eq_true z]; exact h
  | succ m ih => exact tc_ws_sup hw ih hp _ (Nat.le_refl _)
theorem tc_it_cnt {c : tc_C} (hw : tc_wf c) {v : Nat} (hv : v < tc_n c) : ∀ m, tc_cl c (tc_it c v m) ∨ m + 1 ≤ tc_cnt (bt (tc_it c v m)) (tc_n c) := by
  have h20 : tc_n c ≤ 20 := hw.1
  intro m
  induction m with
  | zero =>
    right
    have a := tc_cnt_lt (f := fun _ => false) (g := bt (tc_it c v 0)) (k := tc_n c) (fun _ _ z => absurd z (by decide)) hv rfl (tc_it_v (by omega) 0)
    omega
  | succ m ih =>
    rcases ih with ih | ih
    · left
      have e : tc_it c v (m + 1) = tc_it c v m := tc_sub_eq (tc_ws_sup hw (fun _ _ z => z) ih _ (Nat.le_refl _)) (tc_ws_mono c _ _)
      rw [e]; exact ih
    · by_cases z : tc_cl c (tc_it c v m)
      · left
        have e : tc_it c v (m + 1) = tc_it c v m := tc_sub_eq (tc_ws_sup hw (fun _ _ z => z) z _ (Nat.le_refl _)) (tc_ws_mono c _ _)
        rw [e]; exact z
      · right
        have : ∃ i, i < tc_n c ∧ bt (tc_it c v m) i = false ∧ bt (tc_it c v (m + 1)) i = true := by
          refine Classical.byContradiction (fun y => z (fun j hj hb => ?_))
          obtain ⟨_, f, g, _⟩ := hw.2.2.2.1 j hj
          obtain ⟨a, b⟩ := tc_ws_has hw (s := tc_it c v m) _ (Nat.le_refl _) j hj hb
          exact ⟨ts_nf (fun x => y ⟨_, f, x, a⟩), ts_nf (fun x => y ⟨_, g, x, b⟩)⟩
        obtain ⟨i, hi, hf, hg⟩ := this
        have := tc_cnt_lt (f := bt (tc_it c v m)) (g := bt (tc_it c v (m + 1))) (fun q hq => tc_ws_mono c _ _ q (by omega)) hi hf hg
        omega
theorem tc_it_lc {c : tc_C} (hw : tc_wf c) {v : Nat} (hv : v < tc_n c) : tc_lc c v (tc_it c v (tc_n c - 1)) := by
  have h20 : tc_n c ≤ 20 := hw.1
  refine ⟨tc_it_v (by omega) _, ?_, fun p h hp => tc_it_sup hw (by omega) h hp _⟩
  rcases tc_it_cnt hw hv (tc_n c - 1) with h | h
  · exact h
  · intro j hj _
    obtain ⟨_, f, g, _⟩ := hw.2.2.2.1 j hj
    have a := tc_cnt_all (f := bt (tc_it c v (tc_n c - 1))) (k := tc_n c) (by omega)
    exact ⟨a _ f, a _ g⟩
section
variable {c : tc_C} {kd fs ss ip : Nat → Int32} {dm ig m0 m1 : Nat → Int64} {cn mo pl de gu my kp : Nat → Int32}
theorem tc_Xwith {post : Int32 → Prop} {s : Int32} (hw : tc_wf c) (hx : tc_RX c kd fs ss ip dm ig) (h : post (tc_ws c s (tc_n c))) : wpX_withSources post (nI (tc_n c), nI (tc_ac c), nI (tc_cc c), kd, fs, ss, ip, dm, ig, m0, m1) s := by
  have h20 : tc_n c ≤ 20 := hw.1
  refine loop_0 (fun n i r => wX_withSources_4 post s (nI (tc_n c)) (nI (tc_ac c)) (nI (tc_cc c)) kd fs ss ip dm ig (m0) (m1) n r (nI i)) (fun i r => r = tc_ws c s i) (tc_n c) s rfl ?_ ?_
  · intro n r hr
    subst hr
    exact br_t (nI_le (Nat.le_refl _) (by omega)) h
  · intro n j r hj hr ih
    have ec : (nI j).toNatClampNeg = j := nI_clamp (by omega)
    have i1 : vp_in (nI j) 20 := vp_in_nI (by omega) (by omega)
    unfold wX_withSources_4
    rw [ec, (hx.1 j hj).2.1, (hx.1 j hj).2.2, nI_1]
    refine br_f (nI_ge hj (by omega)) (tc_Xt (by omega) (fun z => nm_e (ih _ ?_)) (fun z => ⟨i1, i1, nm_e (nm_e (ih _ ?_))⟩))
    · show _ = if bt s j then _ else _
      rw [z, hr]; rfl
    · show _ = if bt s j then _ else _
      rw [if_pos z, hr]; rfl
theorem tc_Xcone {post : Int32 → Prop} {v : Nat} (hw : tc_wf c) (hx : tc_RX c kd fs ss ip dm ig) (hv : v < tc_n c) (h : post (tc_it c v (tc_n c - 1))) : wpX_cone post (nI (tc_n c), nI (tc_ac c), nI (tc_cc c), kd, fs, ss, ip, dm, ig, m0, m1) (nI v) := by
  have h20 : tc_n c ≤ 20 := hw.1
  unfold wpX_cone
  dsimp only
  refine tc_XisNode1 h20 hv (br_f (by decide) (nm_e ?_))
  refine pk_loop (fun n i r => wX_cone_16 post (nI (tc_n c)) (nI (tc_ac c)) (nI (tc_cc c)) kd fs ss ip dm ig (m0) (m1) n r (nI i)) (fun i r => 1 ≤ i ∧ r = tc_it c v (i - 1)) (tc_n c) 1 (tc_bit v) (by omega) ⟨Nat.le_refl _, rfl⟩ ?_ ?_
  · intro n r hr
    rw [hr.2]
    exact br_t (nI_le (Nat.le_refl _) (by omega)) h
  · intro n i r hi hr ih
    obtain ⟨hi1, rfl⟩ := hr
    refine br_f (nI_ge hi (by omega)) (tc_Xwith hw hx (nm_e ?_))
    rw [nI_1]
    refine ih _ ⟨by omega, ?_⟩
    rw [show i + 1 - 1 = (i - 1) + 1 by omega]
    rfl
/-! the reference: passes until nothing changes -/
def tc_sp (c : tc_C) (s : Int32) (j : Nat) : Int32 := tc_ad (tc_ad s j (tc_F c j)) j (tc_S c j)
def tc_ps (c : tc_C) (s : Int32) : Nat → Int32
  | 0 => s
  | i + 1 => tc_sp c (tc_ps c s i) i
theorem tc_sp_mono (c : tc_C) (s : Int32) (j : Nat) : tc_sub s (tc_sp c s j) := fun q hq h => tc_ad_mono _ _ _ q hq (tc_ad_mono _ _ _ q hq h)
theorem tc_ps_mono (c : tc_C) (s : Int32) (i : Nat) : ∀ d, tc_sub (tc_ps c s i) (tc_ps c s (i + d)) := by
  intro d
  induction d with
  | zero => exact fun _ _ h => h
  | succ d ih => exact fun q hq h => tc_sp_mono c _ _ q hq (ih q hq h)
theorem tc_ps_sup {c : tc_C} (hw : tc_wf c) {s p : Int32} (h : tc_sub s p) (hp : tc_cl c p) : ∀ i, i ≤ tc_n c → tc_sub (tc_ps c s i) p := by
  have h20 : tc_n c ≤ 20 := hw.1
  intro i
  induction i with
  | zero => intro _; exact h
  | succ i ih =>
    intro hi
    obtain ⟨_, f, g, _⟩ := hw.2.2.2.1 i (by omega)
    have a := ih (by omega)
    have b := tc_ad_sup (i := tc_F c i) (by omega) a (fun z => (hp i (by omega) (a i (by omega) z)).1)
    exact tc_ad_sup (by omega) b (fun z => (hp i (by omega) (b i (by omega) z)).2)
theorem tc_ps_cl {c : tc_C} (hw : tc_wf c) {s : Int32} (h : tc_ps c s (tc_n c) = s) : tc_cl c s := by
  have h20 : tc_n c ≤ 20 := hw.1
  intro j hj hb
  obtain ⟨_, f, g, _⟩ := hw.2.2.2.1 j hj
  have e : ∀ i, i ≤ tc_n c → tc_ps c s i = s := by
    intro i hi
    refine tc_sub_eq ?_ ?_
    · have := tc_ps_mono c s i (tc_n c - i)
      rw [show i + (tc_n c - i) = tc_n c by omega, h] at this
      exact this
    · have := tc_ps_mono c s 0 i
      rw [Nat.zero_add] at this
      exact this
  have e1 : tc_sp c s j = s := by
    have := e (j + 1) (by omega)
    rw [show tc_ps c s (j + 1) = tc_sp c (tc_ps c s j) j from rfl, e j (by omega)] at this
    exact this
  have a : bt (tc_ad s j (tc_F c j)) (tc_F c j) = true := tc_ad_has (by omega) hb
  have b : bt (tc_ad s j (tc_F c j)) j = true := tc_ad_mono _ _ _ j (by omega) hb
  have a' : bt (tc_sp c s j) (tc_F c j) = true := tc_ad_mono _ _ _ _ (by omega) a
  have b' : bt (tc_sp c s j) (tc_S c j) = true := tc_ad_has (by omega) b
  rw [e1] at a' b'
  exact ⟨a', b'⟩
theorem tc_Y67 {post : Int32 → Prop} {J16 J26 : Int32 → Int32 → Prop} {s x3 ou : Int32} {j : Nat} (hw : tc_wf c) (hy : tc_RY c kd fs ss cn mo pl de gu) (hj : j < tc_n c) (h : J26 (tc_ad s j (tc_S c j)) (nI (j + 1))) : wY_cone_67 post J16 J26 s x3 (nI j) (nI (tc_n c)) (ou) kd fs ss cn mo pl de gu (my) (kp) := by
  have h20 : tc_n c ≤ 20 := hw.1
  obtain ⟨k5, f, g, _, _, _, kk⟩ := hw.2.2.2.1 j hj
  obtain ⟨ek, _, es⟩ := hy.2.2.1 j hj
  have ec : (nI j).toNatClampNeg = j := nI_clamp (by omega)
  have i1 : vp_in (nI j) 20 := vp_in_nI (by omega) (by omega)
  unfold wY_cone_67
  rw [ec, ek, nI_1]
  refine tc_Yt (by omega) (fun z => ⟨i1, pk_le (tc_K c j) 1 (fun y => nm_e ?_) (fun y => ⟨i1, pk_le 5 (tc_K c j) (fun x => nm_e ?_) (fun x => ⟨i1, ?_⟩)⟩)⟩) (fun z => nm_e ?_)
  · rw [kk (by omega), tc_ad_self (by omega)] at h
    exact h
  · rw [kk (by omega), tc_ad_self (by omega)] at h
    exact h
  · rw [es (by omega) (by omega)]
    unfold tc_ad at h
    rw [if_pos z] at h
    exact nm_e (nm_e h)
  · unfold tc_ad at h
    rw [z] at h
    exact h
theorem tc_Ypass {post : Int32 → Prop} {J16 : Int32 → Int32 → Prop} {s x3 ou : Int32} (hw : tc_wf c) (hy : tc_RY c kd fs ss cn mo pl de gu) (h : J16 (tc_ps c s (tc_n c)) x3) : ∃ n, wY_cone_26 post J16 x3 (nI (tc_n c)) (ou) kd fs ss cn mo pl de gu (my) (kp) n s 0 := by
  have h20 : tc_n c ≤ 20 := hw.1
  refine loop_0 (fun n i r => wY_cone_26 post J16 x3 (nI (tc_n c)) (ou) kd fs ss cn mo pl de gu (my) (kp) n r (nI i)) (fun i r => r = tc_ps c s i) (tc_n c) s rfl ?_ ?_
  · intro n r hr
    subst hr
    exact br_t (nI_le (Nat.le_refl _) (by omega)) h
  · intro n j r hj hr ih
    subst hr
    obtain ⟨k5, f, g, k0, _, _, kk⟩ := hw.2.2.2.1 j hj
    obtain ⟨ek, ef, es⟩ := hy.2.2.1 j hj
    have ec : (nI j).toNatClampNeg = j := nI_clamp (by omega)
    have i1 : vp_in (nI j) 20 := vp_in_nI (by omega) (by omega)
    have H := fun (q : Int32) (e : q = tc_ad (tc_ps c s j) j (tc_F c j)) => tc_Y67 (post := post) (J16 := J16) (my := my) (kp := kp) (x3 := x3) (ou := ou) (s := q) hw hy hj (ih (tc_ad q j (tc_S c j)) (by rw [e]; rfl))
    unfold wY_cone_26
    rw [ec, ek]
    refine br_f (nI_ge hj (by omega)) (tc_Yt (by omega) (fun z => ⟨i1, pk_le (tc_K c j) 0 (fun y => H _ ?_) (fun y => ⟨i1, ?_⟩)⟩) (fun z => H _ ?_))
    · rw [k0 (by omega), tc_ad_self (by omega)]
    · rw [ef (by omega)]
      refine nm_e (H _ ?_)
      unfold tc_ad
      rw [if_pos z]
      rfl
    · unfold tc_ad
      rw [z]
      rfl
theorem tc_Ycone {post : Int32 → Prop} {v : Nat} {ou : Int32} (hw : tc_wf c) (hy : tc_RY c kd fs ss cn mo pl de gu) (hv : v < tc_n c) (h : ∀ r, tc_lc c v r → post r) : wpY_cone post (nI (tc_n c), ou, kd, fs, ss, cn, mo, pl, de, gu, my, kp) (nI v) := by
  have h20 : tc_n c ≤ 20 := hw.1
  unfold wpY_cone
  dsimp only
  refine tc_YnoNode0 h20 hv (br_t rfl (nm_e ?_))
  refine loop_m (fun n (s : Int32 × Int32) => wY_cone_16 post (nI (tc_n c)) (ou) kd fs ss cn mo pl de gu (my) (kp) n s.1 s.2) (fun s => bt s.1 v = true ∧ (∀ p, bt p v = true → tc_cl c p → tc_sub s.1 p) ∧ (s.1 = s.2 → tc_cl c s.1)) (fun s => 2 * (32 - tc_cnt (bt s.1) 32) + (if s.1 = s.2 then 0 else 1)) ?_ (tc_bit v, 0) ⟨?_, ?_, ?_⟩
  · intro n s hs ih
    obtain ⟨s, b⟩ := s
    obtain ⟨h1, h2, h3⟩ := hs
    dsimp only at h1 h2 h3 ih
    refine br_c (fun z => h s ⟨h1, h3 z, h2⟩) (fun z => tc_Ypass hw hy ?_)
    have m := tc_ps_mono c s 0 (tc_n c)
    rw [Nat.zero_add] at m
    refine ih (tc_ps c s (tc_n c), s) ⟨m v (by omega) h1, fun p hp hc => tc_ps_sup hw (h2 p hp hc) hc _ (Nat.le_refl _), fun e => ?_⟩ ?_
    · have e : tc_ps c s (tc_n c) = s := e
      show tc_cl c (tc_ps c s (tc_n c))
      rw [e]
      exact tc_ps_cl hw e
    · show 2 * (32 - tc_cnt (bt (tc_ps c s (tc_n c))) 32) + (if tc_ps c s (tc_n c) = s then 0 else 1) < 2 * (32 - tc_cnt (bt s) 32) + (if s = b then 0 else 1)
      rw [if_neg z]
      by_cases e : tc_ps c s (tc_n c) = s
      · rw [if_pos e, e]
        omega
      · rw [if_neg e]
        have : ∃ i, i < 32 ∧ bt s i = false ∧ bt (tc_ps c s (tc_n c)) i = true := by
          refine Classical.byContradiction (fun y => e (tc_sub_eq (fun q hq hb => ?_) m))
          exact ts_nf (fun x => y ⟨q, hq, x, hb⟩)
        obtain ⟨i, hi, hf, hg⟩ := this
        have a := tc_cnt_lt (f := bt s) (g := bt (tc_ps c s (tc_n c))) (k := 32) m hi hf hg
        have b := tc_cnt_le (bt (tc_ps c s (tc_n c))) 32
        omega
  · show bt (tc_bit v) v = true
    rw [tc_bit_bt (by omega) (by omega), decide_eq_true rfl]
  · intro p hp _ q hq z
    have z : bt (tc_bit v) q = true := z
    rw [tc_bit_bt (by omega) hq] at z
    rw [← of_decide_eq_true z]; exact hp
  · intro e
    have e : tc_bit v = 0 := e
    have a : bt (tc_bit v) v = true := by rw [tc_bit_bt (by omega) (by omega), decide_eq_true rfl]
    rw [e, b_0] at a
    exact absurd a (by decide)
end
theorem i_vc_cone {k : Nat} {u : SX} {v : SY} (I : i_Rel k u v) (hk : k + 6 ≤ 3072) (v1 : Int32) : wpX_cone (fun r => wpY_cone (fun r' => r' = r ∧ i_Rel (k + 6) u v) v v1) u v1 := by
  have I' := I
  obtain ⟨c, kd, fs, ss, ip, dm, ig, m0, m1, gs, ts, cn, mo, pl, de, gu, my, kp, hw, hx, hy, rfl, rfl⟩ := I
  have h20 : tc_n c ≤ 20 := hw.1
  rcases tc_ix v1 (n := tc_n c) (by omega) with z1 | ⟨q, hq, rfl⟩
  · unfold wpX_cone wpY_cone
    dsimp only
    exact tc_XisNode0 z1 (br_t rfl (tc_YnoNode1 z1 (br_f (by decide) ⟨rfl, I'⟩)))
  exact tc_Xcone hw hx hq (tc_Ycone hw hy hq (fun r hr => ⟨tc_lc_eq hr (tc_it_lc hw hq), I'⟩))
