/-! ===== sets of assignments by their bits; any, count, least ===== -/
def tc_lb (x : Int64) (i : Nat) : Bool := x.toBitVec.getLsbD i
theorem tc_lb_or (x y : Int64) (i : Nat) : tc_lb (x ||| y) i = (tc_lb x i || tc_lb y i) := by unfold tc_lb; rw [Int64.toBitVec_or, BitVec.getLsbD_or]
theorem tc_lb_and (x y : Int64) (i : Nat) : tc_lb (x &&& y) i = (tc_lb x i && tc_lb y i) := by unfold tc_lb; rw [Int64.toBitVec_and, BitVec.getLsbD_and]
theorem tc_lb_xor (x y : Int64) (i : Nat) : tc_lb (x ^^^ y) i = (tc_lb x i ^^ tc_lb y i) := by unfold tc_lb; rw [Int64.toBitVec_xor, BitVec.getLsbD_xor]
theorem tc_lb_m1 : ∀ i, i < 64 → tc_lb (-1) i = true := by decide +kernel
theorem tc_lb_0 (i : Nat) : tc_lb 0 i = false := BitVec.getLsbD_zero
theorem tc_lb_big {x : Int64} {i : Nat} (h : 64 ≤ i) : tc_lb x i = false := BitVec.getLsbD_of_ge _ _ h
theorem tc_lb_not (x : Int64) {i : Nat} (h : i < 64) : tc_lb (x ^^^ (-1)) i = !tc_lb x i := by rw [tc_lb_xor, tc_lb_m1 i h, Bool.xor_true]
theorem tc_lb_ext {x y : Int64} (h : ∀ i, i < 64 → tc_lb x i = tc_lb y i) : x = y := Int64.toBitVec_inj.mp (BitVec.eq_of_getLsbD_eq (fun i hi => h i hi))
theorem tc_one : ∀ k, k < 64 → ((1 : Int64) <<< ((nI k).toInt64 &&& 63)).toBitVec = BitVec.twoPow 64 k := by decide +kernel
theorem tc_lb_one {k : Nat} (hk : k < 64) {i : Nat} (hi : i < 64) : tc_lb ((1 : Int64) <<< ((nI k).toInt64 &&& 63)) i = decide (k = i) := by
  unfold tc_lb
  rw [tc_one k hk, BitVec.getLsbD_twoPow]
  simp [hi, hk]
theorem tc_cu (k : Nat) (h : k < 64) : ((nI k).toInt64.toUInt64 &&& Int64.toUInt64 63).toNat = k := by
  rw [wb_cu k h]
  exact Nat.mod_eq_of_lt (by omega)
theorem tc_Xcontains {post : Int32 → Prop} {x : Int64} {a : Nat} (ha : a < 64) (h1 : tc_lb x a = true → post 1) (h0 : tc_lb x a = false → post 0) : wpX_contains post x (nI a) := by
  have e := ts_bit (w := x) ha (tc_cu a ha)
  refine br_c (fun z => h0 (e.mp z)) (fun z => h1 ?_)
  exact ts_nf (fun y => z (e.mpr y))
theorem tc_Xbit {A B : Prop} {i v : Nat} (hi : i < 64) (hv : v < 6) (h0 : i.testBit v = false → A) (h1 : i.testBit v = true → B) : ((((nI i).toUInt32 >>> ((nI v).toUInt32 &&& Int32.toUInt32 31)).toInt32 &&& 1) = 0 → A) ∧ (¬ (((nI i).toUInt32 >>> ((nI v).toUInt32 &&& Int32.toUInt32 31)).toInt32 &&& 1) = 0 → B) := by
  have e := nx_bit (k := i) (j := v) (by omega) (by omega)
  exact ⟨fun z => h0 (e.mp z), fun z => h1 (ts_nf (fun y => z (e.mpr y)))⟩
/-- any, count -/
def tc_any (f : Nat → Bool) : Nat → Bool
  | 0 => false
  | k + 1 => tc_any f k || f k
theorem tc_any_of {f : Nat → Bool} {i : Nat} (h : f i = true) : ∀ {k : Nat}, i < k → tc_any f k = true := by
  intro k
  induction k with
  | zero => intro z; omega
  | succ k ih =>
    intro z
    show (tc_any f k || f k) = true
    rcases Nat.lt_or_ge i k with y | y
    · rw [ih y]; rfl
    · have : i = k := by omega
      subst this
      rw [h, Bool.or_true]
theorem tc_any_iff (f : Nat → Bool) (k : Nat) : tc_any f k = true ↔ ∃ i, i < k ∧ f i = true := by
  constructor
  · intro h
    induction k with
    | zero => exact absurd h (by simp [tc_any])
    | succ k ih =>
      have h' : (tc_any f k || f k) = true := h
      cases e : tc_any f k
      · rw [e] at h'
        exact ⟨k, by omega, by simpa using h'⟩
      · obtain ⟨i, hi, hf⟩ := ih e
        exact ⟨i, by omega, hf⟩
  · rintro ⟨i, hi, hf⟩
    exact tc_any_of hf hi
theorem tc_any_congr {f g : Nat → Bool} : ∀ {k : Nat}, (∀ i, i < k → f i = g i) → tc_any f k = tc_any g k := by
  intro k
  induction k with
  | zero => intro _; rfl
  | succ k ih =>
    intro h
    show (tc_any f k || f k) = (tc_any g k || g k)
    rw [ih (fun i hi => h i (by omega)), h k (by omega)]
def tc_cnt (f : Nat → Bool) : Nat → Nat
  | 0 => 0
  | k + 1 => tc_cnt f k + (if f k then 1 else 0)
theorem tc_cnt_congr {f g : Nat → Bool} : ∀ {k : Nat}, (∀ i, i < k → f i = g i) → tc_cnt f k = tc_cnt g k := by
  intro k
  induction k with
  | zero => intro _; rfl
  | succ k ih =>
    intro h
    show tc_cnt f k + _ = tc_cnt g k + _
    rw [ih (fun i hi => h i (by omega)), h k (by omega)]
theorem tc_cnt_le (f : Nat → Bool) : ∀ k, tc_cnt f k ≤ k := by
  intro k
  induction k with
  | zero => exact Nat.le_refl _
  | succ k ih =>
    show tc_cnt f k + (if f k then 1 else 0) ≤ k + 1
    split <;> omega
theorem tc_cnt_t {f : Nat → Bool} {k : Nat} (h : f k = true) : tc_cnt f (k + 1) = tc_cnt f k + 1 := by
  show tc_cnt f k + (if f k then 1 else 0) = _
  rw [h]; rfl
theorem tc_cnt_f {f : Nat → Bool} {k : Nat} (h : f k = false) : tc_cnt f (k + 1) = tc_cnt f k := by
  show tc_cnt f k + (if f k then 1 else 0) = _
  rw [h]; rfl
/-- the first number at or behind i, below 64, that f holds of, as an answer -/
def tc_fst (f : Nat → Bool) : Nat → Nat → Int32
  | 0, _ => -4
  | d + 1, i => if f i then nI i else tc_fst f d (i + 1)
theorem tc_fst_congr {f g : Nat → Bool} : ∀ (d i : Nat), (∀ a, a < i + d → f a = g a) → tc_fst f d i = tc_fst g d i := by
  intro d
  induction d with
  | zero => intro i _; rfl
  | succ d ih =>
    intro i h
    show (if f i then nI i else tc_fst f d (i + 1)) = (if g i then nI i else tc_fst g d (i + 1))
    rw [h i (by omega), ih (i + 1) (fun a ha => h a (by omega))]
/-! ===== literals ===== -/
def tc_lit (l a : Nat) : Bool := if l < 6 then a.testBit l else if l < 12 then !a.testBit (l - 6) else decide (l = 13)
theorem tc_Xsize {post : Int32 → Prop} {x : Int64} (h : post (nI (tc_cnt (tc_lb x) 64))) : wpX_size post x := by
  refine loop_0 (fun n i s => wX_size_4 post x n s (nI i)) (fun i s => s = nI (tc_cnt (tc_lb x) i)) 64 0 rfl ?_ ?_
  · intro n s hs
    subst hs
    exact br_t (nI_le (a := 64) (b := 64) (by omega) (by omega)) h
  · intro n i s hi hs ih
    subst hs
    refine br_f (nI_ge (b := 64) hi (by omega)) (tc_Xcontains hi (fun z => ?_) (fun z => ?_))
    · refine br_f (by decide) (nm_e (nm_e ?_))
      rw [nI_1, nI_1]
      exact ih _ (by rw [tc_cnt_t z])
    · refine br_t rfl (nm_e ?_)
      rw [nI_1]
      exact ih _ (by rw [tc_cnt_f z])
theorem tc_Xvariable {post : Int64 → Prop} {v : Nat} (hv : v < 6) (h : ∀ r, (∀ a, a < 64 → tc_lb r a = a.testBit v) → post r) : wpX_variableSet post (nI v) := by
  refine loop_0 (fun n i s => wX_variableSet_4 post (nI v) n s (nI i)) (fun i s => ∀ a, a < 64 → tc_lb s a = (decide (a < i) && a.testBit v)) 64 0 ?_ ?_ ?_
  · intro a _
    rw [tc_lb_0]; simp
  · intro n s hs
    refine br_t (nI_le (a := 64) (b := 64) (by omega) (by omega)) (h s (fun a ha => ?_))
    rw [hs a ha, decide_eq_true ha, Bool.true_and]
  · intro n i s hi hs ih
    refine br_f (nI_ge (b := 64) hi (by omega)) (tc_Xbit hi hv (fun z => ?_) (fun z => ?_))
    · refine nm_e ?_
      rw [nI_1]
      refine ih _ (fun a ha => ?_)
      rw [hs a ha]
      rcases Nat.lt_trichotomy a i with y | y | y
      · rw [decide_eq_true y, decide_eq_true (by omega : a < i + 1)]
      · subst y; rw [z, Bool.and_false, Bool.and_false]
      · rw [decide_eq_false (by omega : ¬ a < i), decide_eq_false (by omega : ¬ a < i + 1)]
    · refine nm_e (nm_e ?_)
      rw [nI_1]
      refine ih _ (fun a ha => ?_)
      rw [tc_lb_or, tc_lb_one hi ha, hs a ha]
      rcases Nat.lt_trichotomy a i with y | y | y
      · rw [decide_eq_true y, decide_eq_true (by omega : a < i + 1), decide_eq_false (by omega : ¬ i = a), Bool.or_false]
      · subst y; rw [z, decide_eq_true (by omega : a < a + 1)]; simp
      · rw [decide_eq_false (by omega : ¬ a < i), decide_eq_false (by omega : ¬ a < i + 1), decide_eq_false (by omega : ¬ i = a)]; rfl
theorem tc_Xliteral {post : Int64 → Prop} {l : Nat} (hl : l < 14) (h : ∀ r, (∀ a, a < 64 → tc_lb r a = tc_lit l a) → post r) : wpX_literalSet post (nI l) := by
  refine pk_le 6 l (fun h6 => pk_le 12 l (fun h12 => pk_eq l 12 (fun e => ?_) (fun e => ?_)) (fun h12 => ?_)) (fun h6 => ?_)
  · refine h _ (fun a ha => ?_)
    subst e
    rw [tc_lb_0]; rfl
  · refine h _ (fun a ha => ?_)
    have : l = 13 := by omega
    subst this
    rw [tc_lb_m1 a ha]; rfl
  · have e6 : nI l - 6 = nI (l - 6) := pk_sub (b := 6) h6
    rw [e6]
    refine tc_Xvariable (by omega) (fun r hr => h _ (fun a ha => ?_))
    rw [tc_lb_not _ ha, hr a ha]
    unfold tc_lit
    rw [if_neg (by omega), if_pos h12]
  · refine tc_Xvariable h6 (fun r hr => h _ (fun a ha => ?_))
    rw [hr a ha]
    unfold tc_lit
    rw [if_pos h6]
def tc_i (b : Bool) : Int32 := if b then 1 else 0
theorem tc_shr : ∀ l, l < 6 → ∀ a, a < 64 → (nI a >>> (nI l &&& 31)) &&& 1 = tc_i (a.testBit l) := by decide +kernel
theorem tc_i1 (b : Bool) : 1 - tc_i b = tc_i (!b) := by cases b <;> rfl
theorem tc_Yliteral {post : Int32 → Prop} (u : SY) {l a : Nat} (hl : l < 14) (ha : a < 64) (h : post (tc_i (tc_lit l a))) : wpY_literal post u (nI l) (nI a) := by
  rcases u with ⟨c, o, k, f, s, cn, mo, pl, de, gu, my, kp⟩
  refine pk_le l 11 (fun h11 => pk_le 6 l (fun h6 => ?_) (fun h6 => ?_)) (fun h11 => ?_)
  · have e6 : nI l - 6 = nI (l - 6) := pk_sub (b := 6) h6
    rw [e6, tc_shr _ (by omega) a ha, tc_i1]
    unfold tc_lit at h
    rw [if_neg (by omega), if_pos (by omega)] at h
    exact h
  · rw [tc_shr _ h6 a ha]
    unfold tc_lit at h
    rw [if_pos h6] at h
    exact h
  · have e12 : nI l - 12 = nI (l - 12) := pk_sub (b := 12) (by omega)
    rw [e12]
    unfold tc_lit at h
    rw [if_neg (by omega), if_neg (by omega)] at h
    rcases (by omega : l = 12 ∨ l = 13) with e | e
    · subst e; exact h
    · subst e; exact h
/-! ===== the circuit and its values ===== -/
abbrev tc_C : Type := Nat × Nat × Nat × (Nat → Nat) × (Nat → Nat) × (Nat → Nat) × (Nat → Nat) × (Nat → Nat) × (Nat → Nat) × (Nat → Nat)
abbrev tc_n (c : tc_C) : Nat := c.1
abbrev tc_ac (c : tc_C) : Nat := c.2.1
abbrev tc_cc (c : tc_C) : Nat := c.2.2.1
abbrev tc_K (c : tc_C) : Nat → Nat := c.2.2.2.1
abbrev tc_F (c : tc_C) : Nat → Nat := c.2.2.2.2.1
abbrev tc_S (c : tc_C) : Nat → Nat := c.2.2.2.2.2.1
abbrev tc_T (c : tc_C) : Nat → Nat := c.2.2.2.2.2.2.1
abbrev tc_Q (c : tc_C) : Nat → Nat := c.2.2.2.2.2.2.2.1
abbrev tc_D (c : tc_C) : Nat → Nat := c.2.2.2.2.2.2.2.2.1
abbrev tc_G (c : tc_C) : Nat → Nat := c.2.2.2.2.2.2.2.2.2
def tc_used (c : tc_C) (s : Nat) : Prop := s < tc_ac c ∨ (12 ≤ s ∧ s < 12 + tc_cc c)
def tc_okN (c : tc_C) (j : Nat) : Prop := tc_K c j ≤ 5 ∧ tc_F c j < tc_n c ∧ tc_S c j < tc_n c ∧ (tc_K c j = 0 → tc_F c j = j) ∧ (1 ≤ tc_K c j → tc_K c j ≤ 4 → tc_F c j < j) ∧ (2 ≤ tc_K c j → tc_K c j ≤ 4 → tc_S c j < j) ∧ (tc_K c j < 2 ∨ tc_K c j = 5 → tc_S c j = j)
def tc_okI (c : tc_C) (s : Nat) : Prop := tc_T c s < 4 ∧ tc_Q c s < tc_n c ∧ tc_D c s < 14 ∧ tc_G c s < 14
def tc_wf (c : tc_C) : Prop := tc_n c ≤ 20 ∧ tc_ac c ≤ 12 ∧ tc_cc c ≤ 12 ∧ (∀ j, j < tc_n c → tc_okN c j) ∧ (∀ s, tc_used c s → tc_okI c s)
abbrev tc_B : Type := Bool × Bool
def tc_cut (g d : Bool) (w : tc_B) : tc_B := (w.1 && !(g && d), w.2 && !(g && !d))
def tc_as (c : tc_C) (ou : Int32) (a p : Nat) : Nat → tc_B → tc_B
  | 0, w => w
  | k + 1, w => if nI k ≠ ou ∧ 20 * tc_T c k + tc_Q c k = p then tc_cut (tc_lit (tc_G c k) a) (tc_lit (tc_D c k) a) (tc_as c ou a p k w) else tc_as c ou a p k w
def tc_gate (k : Nat) (x y : tc_B) : tc_B := if k = 1 then (x.2, x.1) else if k = 2 then (x.1 || y.1, x.2 && y.2) else if k = 3 then (x.1 && y.1, x.2 || y.2) else (x.1 && y.1 || x.2 && y.2, x.2 && y.1 || x.1 && y.2)
def tc_base (c : tc_C) (m : Nat → tc_B) (t j : Nat) : tc_B := if tc_K c j = 0 then (true, true) else if tc_K c j = 5 then (if t = 0 then (true, true) else m (20 * (t - 1) + tc_F c j)) else tc_gate (tc_K c j) (m (20 * t + tc_F c j)) (m (20 * t + tc_S c j))
def tc_tab (c : tc_C) (ou : Int32) (a : Nat) : Nat → Nat → tc_B
  | 0 => fun _ => (true, true)
  | p + 1 => fun q => if q = p then tc_as c ou a p (tc_ac c) (tc_base c (tc_tab c ou a p) (p / 20) (p % 20)) else tc_tab c ou a p q
def tc_V (c : tc_C) (ou : Int32) (a p : Nat) : tc_B := tc_tab c ou a (p + 1) p
theorem tc_tab_lt (c : tc_C) (ou : Int32) (a : Nat) : ∀ p q, q < p → tc_tab c ou a p q = tc_V c ou a q := by
  intro p
  induction p with
  | zero => intro q h; omega
  | succ p ih =>
    intro q h
    rcases Nat.lt_or_ge q p with z | z
    · show (if q = p then _ else tc_tab c ou a p q) = _
      rw [if_neg (by omega)]
      exact ih q z
    · have : q = p := by omega
      subst this
      rfl
theorem tc_base_congr {c : tc_C} {m m' : Nat → tc_B} {t j : Nat} (hw : tc_wf c) (hj : j < tc_n c) (h : ∀ t' j', j' < tc_n c → (t' < t ∨ t' = t ∧ j' < j) → m (20 * t' + j') = m' (20 * t' + j')) : tc_base c m t j = tc_base c m' t j := by
  obtain ⟨h20, hac, hcc, hN, hI⟩ := hw
  obtain ⟨k5, f, s, k0, kf, ks, kk⟩ := hN j hj
  unfold tc_base
  by_cases z0 : tc_K c j = 0
  · rw [if_pos z0, if_pos z0]
  · rw [if_neg z0, if_neg z0]
    by_cases z5 : tc_K c j = 5
    · rw [if_pos z5, if_pos z5]
      by_cases t0 : t = 0
      · rw [if_pos t0, if_pos t0]
      · rw [if_neg t0, if_neg t0, h _ _ f (Or.inl (by omega))]
    · rw [if_neg z5, if_neg z5, h _ _ f (Or.inr ⟨rfl, kf (by omega) (by omega)⟩)]
      by_cases z1 : tc_K c j = 1
      · unfold tc_gate
        rw [if_pos z1, if_pos z1]
      · rw [h _ _ s (Or.inr ⟨rfl, ks (by omega) (by omega)⟩)]
theorem tc_V_eq {c : tc_C} (ou : Int32) (a : Nat) {t j : Nat} (hw : tc_wf c) (hj : j < tc_n c) : tc_V c ou a (20 * t + j) = tc_as c ou a (20 * t + j) (tc_ac c) (tc_base c (tc_V c ou a) t j) := by
  have h20 : tc_n c ≤ 20 := hw.1
  unfold tc_V
  show (if (20 * t + j) = 20 * t + j then _ else _) = _
  rw [if_pos rfl, show (20 * t + j) / 20 = t by omega, show (20 * t + j) % 20 = j by omega]
  refine congrArg _ (tc_base_congr hw hj (fun t' j' hj' hl => ?_))
  exact tc_tab_lt c ou a _ _ (by omega)
/-- what is asked of the values: idle, broken, failing -/
def tc_idl (c : tc_C) (ou : Int32) (a : Nat) : Bool := tc_any (fun t => tc_any (fun j => !((tc_V c ou a (20 * t + j)).1 || (tc_V c ou a (20 * t + j)).2)) (tc_n c)) 4
def tc_brk (c : tc_C) (ou : Int32) (a k : Nat) : Bool := tc_lit (tc_G c (12 + k)) a && (tc_lit (tc_D c (12 + k)) a && (tc_V c ou a (20 * tc_T c (12 + k) + tc_Q c (12 + k))).1 || !tc_lit (tc_D c (12 + k)) a && (tc_V c ou a (20 * tc_T c (12 + k) + tc_Q c (12 + k))).2)
def tc_fail (c : tc_C) (ou : Int32) (a : Nat) : Bool := tc_any (tc_brk c ou a) (tc_cc c) && !tc_idl c ou a
