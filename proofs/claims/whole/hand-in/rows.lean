section
theorem pk_us {f : Nat → Int32} {k : Nat} {x : Int32} : upd f k x k = x := if_pos rfl
theorem pk_un {f : Nat → Int32} {k j : Nat} {x : Int32} (h : j ≠ k) : upd f k x j = f j := if_neg h
theorem pk_uLs {f : Nat → Int64} {k : Nat} {x : Int64} : vp_updL f k x k = x := if_pos rfl
theorem pk_uLn {f : Nat → Int64} {k j : Nat} {x : Int64} (h : j ≠ k) : vp_updL f k x j = f j := if_neg h
theorem pk_sub {a b : Nat} (h : b ≤ a) : nI a - nI b = nI (a - b) := by
  obtain ⟨c, rfl⟩ : ∃ c, a = c + b := ⟨a - b, by omega⟩
  rw [← nI_add, Int32.add_sub_cancel, Nat.add_sub_cancel]
theorem pk_m1 (n : Nat) : nI (n + 1) + (-1) = nI n := by
  rw [← nI_1, Int32.add_assoc, show (1 : Int32) + (-1) = 0 from rfl, Int32.add_zero]
theorem pk_mul (a b : Nat) : nI a * nI b = nI (a * b) := (Int32.ofNat_mul a b).symm
theorem pk_div {a d : Nat} (ha : a < 2 ^ 31) (h0 : 0 < d) (hd : d < 2 ^ 31) : nI a / nI d = nI (a / d) := by
  apply Int32.toInt_inj.mp
  rw [lg_idiv_nonneg (by rw [nI_toInt ha]; omega) (by rw [nI_toInt hd]; omega), nI_toInt ha, nI_toInt hd, nI_toInt (Nat.lt_of_le_of_lt (Nat.div_le_self a d) ha)]
  first | rfl | exact (Int.natCast_ediv _ _).symm
theorem pk_rem {a d : Nat} (ha : a < 2 ^ 31) (h0 : 0 < d) (hd : d < 2 ^ 31) : nI a - nI a / nI d * nI d = nI (a % d) := by
  rw [pk_div ha h0 hd, pk_mul, pk_sub (Nat.div_mul_le_self a d)]
  exact congrArg nI (by have := Nat.div_add_mod' a d; omega)
theorem pk_ix (x : Int32) {n : Nat} (hn : n < 2 ^ 31) : x < 0 ∨ nI n ≤ x ∨ ∃ j : Nat, j < n ∧ x = nI j := by
  by_cases h : x < 0
  · exact Or.inl h
  · obtain ⟨j, hj, rfl⟩ := nI_of h
    by_cases h2 : j < n
    · exact Or.inr (Or.inr ⟨j, h2, rfl⟩)
    · exact Or.inr (Or.inl (nI_le (by omega) hj))
theorem pk_le {x y : Int32} {A B : Prop} (a b : Nat) (f : a ≤ b → A) (g : b < a → B) (hx : x = nI a := by rfl) (hy : y = nI b := by rfl) (ha : a < 2 ^ 31 := by omega) (hb : b < 2 ^ 31 := by omega) : (x ≤ y → A) ∧ (¬ x ≤ y → B) := by
  subst hx hy
  rw [nI_leI ha hb]
  exact ⟨f, fun z => g (by omega)⟩
theorem pk_lt {x y : Int32} {A B : Prop} (a b : Nat) (f : a < b → A) (g : b ≤ a → B) (hx : x = nI a := by rfl) (hy : y = nI b := by rfl) (ha : a < 2 ^ 31 := by omega) (hb : b < 2 ^ 31 := by omega) : (x < y → A) ∧ (¬ x < y → B) := by
  subst hx hy
  rw [nI_ltI ha hb]
  exact ⟨f, fun z => g (by omega)⟩
theorem pk_eq {x y : Int32} {A B : Prop} (a b : Nat) (f : a = b → A) (g : a ≠ b → B) (hx : x = nI a := by rfl) (hy : y = nI b := by rfl) (ha : a < 2 ^ 31 := by omega) (hb : b < 2 ^ 31 := by omega) : (x = y → A) ∧ (¬ x = y → B) := by
  subst hx hy
  rw [nI_eq ha hb]
  exact ⟨f, g⟩
theorem pk_in {x : Int32} (n N : Nat) (h : n < N) (hx : x = nI n := by rfl) (hN : N < 2 ^ 31 := by omega) : vp_in x N := by
  subst hx
  exact vp_in_nI h hN
theorem pk_cl {x : Int32} (n : Nat) (hx : x = nI n := by rfl) (h : n < 2 ^ 31 := by omega) : x.toNatClampNeg = n := by
  subst hx
  exact nI_clamp h
theorem pk_tn {n : Nat} (h : n < 2 ^ 32) : (nI n).toBitVec.toNat = n := Nat.mod_eq_of_lt h
theorem pk_and (x : Int32) {m : Int32} (k : Nat) (hm : m.toBitVec.toNat = 2 ^ k - 1) : x &&& m = nI (x.toBitVec.toNat % 2 ^ k) := by
  apply Int32.toBitVec_inj.mp
  apply BitVec.eq_of_toNat_eq
  rw [Int32.toBitVec_and, BitVec.toNat_and, hm, Nat.and_two_pow_sub_one_eq_mod]
  show _ = (BitVec.ofNat 32 _).toNat
  rw [BitVec.toNat_ofNat]
  exact (Nat.mod_eq_of_lt (Nat.lt_of_le_of_lt (Nat.mod_le _ _) x.toBitVec.isLt)).symm
theorem pk_andN {n : Nat} (h : n < 2 ^ 32) {m : Int32} (k : Nat) (hm : m.toBitVec.toNat = 2 ^ k - 1) : nI n &&& m = nI (n % 2 ^ k) := by
  rw [pk_and _ k hm, pk_tn h]
theorem pk_shr (a s : Int32) (k : Nat) (hs : (s.toBitVec.smod 32).toNat = k) : (a >>> s).toInt = a.toInt >>> k := by
  show (a.toBitVec.sshiftRight (s.toBitVec.smod 32).toNat).toInt = _
  rw [hs, BitVec.toInt_sshiftRight]
  rfl
theorem pk_shrN {n : Nat} (h : n < 2 ^ 31) (s : Int32) (k : Nat) (hs : (s.toBitVec.smod 32).toNat = k) : nI n >>> s = nI (n / 2 ^ k) := by
  apply Int32.toInt_inj.mp
  have h2 : n / 2 ^ k ≤ n := Nat.div_le_self _ _
  rw [pk_shr _ _ k hs, nI_toInt h, nI_toInt (by omega), Int.shiftRight_eq_div_pow]
  rfl
theorem pk_loop {σ : Type} (W : Nat → Nat → σ → Prop) (I : Nat → σ → Prop) (e i0 : Nat) (s : σ) (hi : i0 ≤ e) (h0 : I i0 s) (hx : ∀ n s, I e s → W (n + 1) e s)
    (hs : ∀ n i s, i < e → I i s → (∀ s', I (i + 1) s' → W n (i + 1) s') → W (n + 1) i s) : ∃ n, W n i0 s :=
  ⟨e + 1, loop_i W I e hx hs (e + 1) i0 s hi (by omega) h0⟩
def bt (x : Int32) (i : Nat) : Bool := x.toBitVec.getLsbD i
theorem b_ext {x y : Int32} (h : ∀ i, i < 32 → bt x i = bt y i) : x = y := Int32.toBitVec_inj.mp (BitVec.eq_of_getLsbD_eq (fun i hi => h i hi))
theorem b_or (x y : Int32) (i : Nat) : bt (x ||| y) i = (bt x i || bt y i) := by unfold bt; rw [Int32.toBitVec_or, BitVec.getLsbD_or]
theorem b_and (x y : Int32) (i : Nat) : bt (x &&& y) i = (bt x i && bt y i) := by unfold bt; rw [Int32.toBitVec_and, BitVec.getLsbD_and]
theorem b_xor (x y : Int32) (i : Nat) : bt (x ^^^ y) i = (bt x i ^^ bt y i) := by unfold bt; rw [Int32.toBitVec_xor, BitVec.getLsbD_xor]
theorem b_big {x : Int32} {i : Nat} (h : 32 ≤ i) : bt x i = false := BitVec.getLsbD_of_ge _ _ h
theorem b_m1 : ∀ i, i < 32 → bt (-1) i = true := by decide +kernel
theorem b_0 (i : Nat) : bt 0 i = false := BitVec.getLsbD_zero
theorem s_l : ∀ n, n < 32 → ((nI n &&& 31).toBitVec.smod 32).toNat = n := by decide +kernel
theorem s_u : ∀ n, n < 32 → (((nI n).toUInt32 &&& Int32.toUInt32 31).toBitVec % 32).toNat = n := by decide +kernel
theorem b_shl (n : Nat) (hn : n < 32) (x : Int32) {i : Nat} (hi : i < 32) : bt (x <<< (nI n &&& 31)) i = (decide (n ≤ i) && bt x (i - n)) := by
  unfold bt
  rw [Int32.toBitVec_shiftLeft]
  show (x.toBitVec <<< ((nI n &&& 31).toBitVec.smod 32).toNat).getLsbD i = _
  rw [s_l n hn, BitVec.getLsbD_shiftLeft]
  rcases Nat.lt_or_ge i n with h | h
  · simp [h, Nat.not_le.mpr h]
  · simp [hi, h, Nat.not_lt.mpr h]
theorem b_ushr (n : Nat) (hn : n < 32) (x : Int32) (i : Nat) : bt ((x.toUInt32 >>> ((nI n).toUInt32 &&& Int32.toUInt32 31)).toInt32) i = bt x (n + i) := by
  show (x.toUInt32 >>> ((nI n).toUInt32 &&& Int32.toUInt32 31)).toBitVec.getLsbD i = x.toUInt32.toBitVec.getLsbD (n + i)
  rw [UInt32.toBitVec_shiftRight]
  show (x.toUInt32.toBitVec >>> (((nI n).toUInt32 &&& Int32.toUInt32 31).toBitVec % 32).toNat).getLsbD i = _
  rw [s_u n hn, BitVec.getLsbD_ushiftRight]
theorem b_sshr (n : Nat) (hn : n < 32) (x : Int32) {i : Nat} (hi : i < 32) : bt (x >>> (nI n &&& 31)) i = if n + i < 32 then bt x (n + i) else bt x 31 := by
  unfold bt
  rw [Int32.toBitVec_shiftRight]
  show (x.toBitVec.sshiftRight ((nI n &&& 31).toBitVec.smod 32).toNat).getLsbD i = _
  rw [s_l n hn, BitVec.getLsbD_sshiftRight, BitVec.msb_eq_getLsbD_last]
  simp [hi]
theorem nx_and (a b : Nat) : nI a &&& nI b = nI (a &&& b) := by
  apply Int32.toBitVec_inj.1
  show BitVec.ofNat 32 a &&& BitVec.ofNat 32 b = BitVec.ofNat 32 (a &&& b)
  apply BitVec.eq_of_getLsbD_eq
  intro i hi
  simp [hi]
theorem nx_xor (a b : Nat) : nI a ^^^ nI b = nI (a ^^^ b) := by
  apply Int32.toBitVec_inj.1
  show BitVec.ofNat 32 a ^^^ BitVec.ofNat 32 b = BitVec.ofNat 32 (a ^^^ b)
  apply BitVec.eq_of_getLsbD_eq
  intro i hi
  simp [hi]
theorem nx_cnt : ∀ j : Fin 32, (UInt32.ofNat j.val &&& Int32.toUInt32 31).toNat % 32 = j.val := by decide +kernel
theorem nx_ush {k j : Nat} (hk : k < 65536) (hj : j < 32) : ((nI k).toUInt32 >>> ((nI j).toUInt32 &&& Int32.toUInt32 31)).toInt32 = nI (k >>> j) := by
  have hs : k >>> j ≤ k := by
    rw [Nat.shiftRight_eq_div_pow]
    exact Nat.div_le_self _ _
  have e2 : UInt32.ofNat k >>> (UInt32.ofNat j &&& Int32.toUInt32 31) = UInt32.ofNat (k >>> j) := by
    apply UInt32.toNat_inj.1
    have h1 : (UInt32.ofNat k).toNat = k := Nat.mod_eq_of_lt (by omega)
    have h2 : (UInt32.ofNat (k >>> j)).toNat = k >>> j := Nat.mod_eq_of_lt (by omega)
    rw [UInt32.toNat_shiftRight, nx_cnt ⟨j, hj⟩, h1, h2]
  show (UInt32.ofNat k >>> (UInt32.ofNat j &&& Int32.toUInt32 31)).toInt32 = _
  rw [e2]
  rfl
theorem nx_bit {k j : Nat} (hk : k < 65536) (hj : j < 16) : (((nI k).toUInt32 >>> ((nI j).toUInt32 &&& Int32.toUInt32 31)).toInt32 &&& 1) = 0 ↔ k.testBit j = false := by
  rw [nx_ush hk (by omega)]
  show nI (k >>> j) &&& nI 1 = 0 ↔ _
  rw [nx_and, Nat.and_one_is_mod, ← nI_0, nI_eq (by omega) (by omega), Nat.testBit_eq_decide_div_mod_eq, Nat.shiftRight_eq_div_pow, decide_eq_false_iff_not]
  generalize k / 2 ^ j = z
  omega
theorem nf_sh : ∀ l, l < 32 → ((1 : Int32) <<< (nI l &&& 31)).toBitVec = BitVec.twoPow 32 l := by decide +kernel
theorem ts_nf {x : Bool} (h : ¬ x = false) : x = true := by cases x <;> first | rfl | exact absurd rfl h
theorem ts_nt {x : Bool} (h : ¬ x = true) : x = false := by cases x <;> first | rfl | exact absurd rfl h
theorem ts_bit {w : Int64} {s : UInt64} {j : Nat} (hj : j < 64) (hs : s.toNat = j) : ((w.toUInt64 >>> s).toInt64 &&& 1) = 0 ↔ w.toBitVec.getLsbD j = false := by
  have e : (w.toUInt64 >>> s).toInt64.toBitVec = w.toBitVec >>> j := by
    apply BitVec.eq_of_toNat_eq
    show (w.toUInt64 >>> s).toNat = _
    rw [UInt64.toNat_shiftRight, hs, Nat.mod_eq_of_lt hj, BitVec.toNat_ushiftRight]
    rfl
  rw [← Int64.toBitVec_inj, Int64.toBitVec_and, e]
  show w.toBitVec >>> j &&& 1#64 = 0#64 ↔ _
  constructor
  · intro h
    have t := congrArg (fun x => x.getLsbD 0) h
    simpa using t
  · intro h
    apply BitVec.eq_of_getLsbD_eq
    intro i hi
    cases i with
    | zero => simp [h]
    | succ i => simp
theorem wb_c : ∀ k, k < 64 → ((nI k).toInt64 &&& 63) = lN k := by decide +kernel
theorem wb_cu : ∀ k, k < 64 → ((nI k).toInt64.toUInt64 &&& Int64.toUInt64 63) = UInt64.ofNat k := by decide +kernel
theorem wb_sm : ∀ k, k < 64 → (BitVec.ofNat 64 k).smod 64 = BitVec.ofNat 64 k := by decide +kernel
end
section
/-! ===== sets of assignments by their bits; any, count, least ===== -/
def tc_lb (x : Int64) (i : Nat) : Bool := x.toBitVec.getLsbD i
theorem tc_lb_or (x y : Int64) (i : Nat) : tc_lb (x ||| y) i = (tc_lb x i || tc_lb y i) := by unfold tc_lb; rw [Int64.toBitVec_or, BitVec.getLsbD_or]
theorem tc_lb_and (x y : Int64) (i : Nat) : tc_lb (x &&& y) i = (tc_lb x i && tc_lb y i) := by unfold tc_lb; rw [Int64.toBitVec_and, BitVec.getLsbD_and]
theorem tc_lb_xor (x y : Int64) (i : Nat) : tc_lb (x ^^^ y) i = (tc_lb x i ^^ tc_lb y i) := by unfold tc_lb; rw [Int64.toBitVec_xor, BitVec.getLsbD_xor]
theorem tc_lb_m1 : ∀ i, i < 64 → tc_lb (-1) i = true := by decide +kernel
theorem tc_lb_0 (i : Nat) : tc_lb 0 i = false := BitVec.getLsbD_zero
theorem tc_lb_big {x : Int64} {i : Nat} (h : 64 ≤ i) : tc_lb x i = false := BitVec.getLsbD_of_ge _ _ h
theorem tc_lb_not (x : Int64) {i : Nat} (h : i < 64) : tc_lb (x ^^^ (-1)) i = !tc_lb x i := by rw [tc_lb_xor, tc_lb_m1 i h, Bool.xor_true]
theorem tc_lb_ext {x y : Int64} (h : ∀ i, i < 64 → tc_lb x i = tc_lb y i) : x = y := Int64.toBitVec_inj.mp (BitVec.eq_of_getLsbD_eq (fun i hi => h i hi))
theorem tc_one : ∀ k, k < 64 → ((1 : Int64) <<< ((nI k).toInt64 &&& 63)).toBitVec = BitVec.twoPow 64 k := by decide +kernel
theorem tc_lb_one {k : Nat} (hk : k < 64) {i : Nat} (hi : i < 64) : tc_lb ((1 : Int64) <<< ((nI k).toInt64 &&& 63)) i = decide (k = i) := by
  unfold tc_lb
  rw [tc_one k hk, BitVec.getLsbD_twoPow]
  simp [hi, hk]
theorem tc_cu (k : Nat) (h : k < 64) : ((nI k).toInt64.toUInt64 &&& Int64.toUInt64 63).toNat = k := by
  rw [wb_cu k h]
  exact Nat.mod_eq_of_lt (by omega)
theorem tc_Xcontains {post : Int32 → Prop} {x : Int64} {a : Nat} (ha : a < 64) (h1 : tc_lb x a = true → post 1) (h0 : tc_lb x a = false → post 0) : wpX_contains post x (nI a) := by
  have e := ts_bit (w := x) ha (tc_cu a ha)
  refine br_c (fun z => h0 (e.mp z)) (fun z => h1 ?_)
  exact ts_nf (fun y => z (e.mpr y))
theorem tc_Xbit {A B : Prop} {i v : Nat} (hi : i < 64) (hv : v < 6) (h0 : i.testBit v = false → A) (h1 : i.testBit v = true → B) : ((((nI i).toUInt32 >>> ((nI v).toUInt32 &&& Int32.toUInt32 31)).toInt32 &&& 1) = 0 → A) ∧ (¬ (((nI i).toUInt32 >>> ((nI v).toUInt32 &&& Int32.toUInt32 31)).toInt32 &&& 1) = 0 → B) := by
  have e := nx_bit (k := i) (j := v) (by omega) (by omega)
  exact ⟨fun z => h0 (e.mp z), fun z => h1 (ts_nf (fun y => z (e.mpr y)))⟩
/-- any, count -/
def tc_any (f : Nat → Bool) : Nat → Bool
  | 0 => false
  | k + 1 => tc_any f k || f k
theorem tc_any_of {f : Nat → Bool} {i : Nat} (h : f i = true) : ∀ {k : Nat}, i < k → tc_any f k = true := by
  intro k
  induction k with
  | zero => intro z; omega
  | succ k ih =>
    intro z
    show (tc_any f k || f k) = true
    rcases Nat.lt_or_ge i k with y | y
    · rw [ih y]; rfl
    · have : i = k := by omega
      subst this
      rw [h, Bool.or_true]
theorem tc_any_iff (f : Nat → Bool) (k : Nat) : tc_any f k = true ↔ ∃ i, i < k ∧ f i = true := by
  constructor
  · intro h
    induction k with
    | zero => exact absurd h (by simp [tc_any])
    | succ k ih =>
      have h' : (tc_any f k || f k) = true := h
      cases e : tc_any f k
      · rw [e] at h'
        exact ⟨k, by omega, by simpa using h'⟩
      · obtain ⟨i, hi, hf⟩ := ih e
        exact ⟨i, by omega, hf⟩
  · rintro ⟨i, hi, hf⟩
    exact tc_any_of hf hi
theorem tc_any_congr {f g : Nat → Bool} : ∀ {k : Nat}, (∀ i, i < k → f i = g i) → tc_any f k = tc_any g k := by
  intro k
  induction k with
  | zero => intro _; rfl
  | succ k ih =>
    intro h
    show (tc_any f k || f k) = (tc_any g k || g k)
    rw [ih (fun i hi => h i (by omega)), h k (by omega)]
def tc_cnt (f : Nat → Bool) : Nat → Nat
  | 0 => 0
  | k + 1 => tc_cnt f k + (if f k then 1 else 0)
theorem tc_cnt_congr {f g : Nat → Bool} : ∀ {k : Nat}, (∀ i, i < k → f i = g i) → tc_cnt f k = tc_cnt g k := by
  intro k
  induction k with
  | zero => intro _; rfl
  | succ k ih =>
    intro h
    show tc_cnt f k + _ = tc_cnt g k + _
    rw [ih (fun i hi => h i (by omega)), h k (by omega)]
theorem tc_cnt_le (f : Nat → Bool) : ∀ k, tc_cnt f k ≤ k := by
  intro k
  induction k with
  | zero => exact Nat.le_refl _
  | succ k ih =>
    show tc_cnt f k + (if f k then 1 else 0) ≤ k + 1
    split <;> omega
theorem tc_cnt_t {f : Nat → Bool} {k : Nat} (h : f k = true) : tc_cnt f (k + 1) = tc_cnt f k + 1 := by
  show tc_cnt f k + (if f k then 1 else 0) = _
  rw [h]; rfl
theorem tc_cnt_f {f : Nat → Bool} {k : Nat} (h : f k = false) : tc_cnt f (k + 1) = tc_cnt f k := by
  show tc_cnt f k + (if f k then 1 else 0) = _
  rw [h]; rfl
/-- the first number at or behind i, below 64, that f holds of, as an answer -/
def tc_fst (f : Nat → Bool) : Nat → Nat → Int32
  | 0, _ => -4
  | d + 1, i => if f i then nI i else tc_fst f d (i + 1)
theorem tc_fst_congr {f g : Nat → Bool} : ∀ (d i : Nat), (∀ a, a < i + d → f a = g a) → tc_fst f d i = tc_fst g d i := by
  intro d
  induction d with
  | zero => intro i _; rfl
  | succ d ih =>
    intro i h
    show (if f i then nI i else tc_fst f d (i + 1)) = (if g i then nI i else tc_fst g d (i + 1))
    rw [h i (by omega), ih (i + 1) (fun a ha => h a (by omega))]
/-! ===== literals ===== -/
def tc_lit (l a : Nat) : Bool := if l < 6 then a.testBit l else if l < 12 then !a.testBit (l - 6) else decide (l = 13)
theorem tc_Xsize {post : Int32 → Prop} {x : Int64} (h : post (nI (tc_cnt (tc_lb x) 64))) : wpX_size post x := by
  refine loop_0 (fun n i s => wX_size_4 post x n s (nI i)) (fun i s => s = nI (tc_cnt (tc_lb x) i)) 64 0 rfl ?_ ?_
  · intro n s hs
    subst hs
    exact br_t (nI_le (a := 64) (b := 64) (by omega) (by omega)) h
  · intro n i s hi hs ih
    subst hs
    refine br_f (nI_ge (b := 64) hi (by omega)) (tc_Xcontains hi (fun z => ?_) (fun z => ?_))
    · refine br_f (by decide) (nm_e (nm_e ?_))
      rw [nI_1, nI_1]
      exact ih _ (by rw [tc_cnt_t z])
    · refine br_t rfl (nm_e ?_)
      rw [nI_1]
      exact ih _ (by rw [tc_cnt_f z])
theorem tc_Xvariable {post : Int64 → Prop} {v : Nat} (hv : v < 6) (h : ∀ r, (∀ a, a < 64 → tc_lb r a = a.testBit v) → post r) : wpX_variableSet post (nI v) := by
  refine loop_0 (fun n i s => wX_variableSet_4 post (nI v) n s (nI i)) (fun i s => ∀ a, a < 64 → tc_lb s a = (decide (a < i) && a.testBit v)) 64 0 ?_ ?_ ?_
  · intro a _
    rw [tc_lb_0]; simp
  · intro n s hs
    refine br_t (nI_le (a := 64) (b := 64) (by omega) (by omega)) (h s (fun a ha => ?_))
    rw [hs a ha, decide_eq_true ha, Bool.true_and]
  · intro n i s hi hs ih
    refine br_f (nI_ge (b := 64) hi (by omega)) (tc_Xbit hi hv (fun z => ?_) (fun z => ?_))
    · refine nm_e ?_
      rw [nI_1]
      refine ih _ (fun a ha => ?_)
      rw [hs a ha]
      rcases Nat.lt_trichotomy a i with y | y | y
      · rw [decide_eq_true y, decide_eq_true (by omega : a < i + 1)]
      · subst y; rw [z, Bool.and_false, Bool.and_false]
      · rw [decide_eq_false (by omega : ¬ a < i), decide_eq_false (by omega : ¬ a < i + 1)]
    · refine nm_e (nm_e ?_)
      rw [nI_1]
      refine ih _ (fun a ha => ?_)
      rw [tc_lb_or, tc_lb_one hi ha, hs a ha]
      rcases Nat.lt_trichotomy a i with y | y | y
      · rw [decide_eq_true y, decide_eq_true (by omega : a < i + 1), decide_eq_false (by omega : ¬ i = a), Bool.or_false]
      · subst y; rw [z, decide_eq_true (by omega : a < a + 1)]; simp
      · rw [decide_eq_false (by omega : ¬ a < i), decide_eq_false (by omega : ¬ a < i + 1), decide_eq_false (by omega : ¬ i = a)]; rfl
theorem tc_Xliteral {post : Int64 → Prop} {l : Nat} (hl : l < 14) (h : ∀ r, (∀ a, a < 64 → tc_lb r a = tc_lit l a) → post r) : wpX_literalSet post (nI l) := by
  refine pk_le 6 l (fun h6 => pk_le 12 l (fun h12 => pk_eq l 12 (fun e => ?_) (fun e => ?_)) (fun h12 => ?_)) (fun h6 => ?_)
  · refine h _ (fun a ha => ?_)
    subst e
    rw [tc_lb_0]; rfl
  · refine h _ (fun a ha => ?_)
    have : l = 13 := by omega
    subst this
    rw [tc_lb_m1 a ha]; rfl
  · have e6 : nI l - 6 = nI (l - 6) := pk_sub (b := 6) h6
    rw [e6]
    refine tc_Xvariable (by omega) (fun r hr => h _ (fun a ha => ?_))
    rw [tc_lb_not _ ha, hr a ha]
    unfold tc_lit
    rw [if_neg (by omega), if_pos h12]
  · refine tc_Xvariable h6 (fun r hr => h _ (fun a ha => ?_))
    rw [hr a ha]
    unfold tc_lit
    rw [if_pos h6]
def tc_i (b : Bool) : Int32 := if b then 1 else 0
theorem tc_shr : ∀ l, l < 6 → ∀ a, a < 64 → (nI a >>> (nI l &&& 31)) &&& 1 = tc_i (a.testBit l) := by decide +kernel
theorem tc_i1 (b : Bool) : 1 - tc_i b = tc_i (!b) := by cases b <;> rfl
theorem tc_Yliteral {post : Int32 → Prop} (u : SY) {l a : Nat} (hl : l < 14) (ha : a < 64) (h : post (tc_i (tc_lit l a))) : wpY_literal post u (nI l) (nI a) := by
  rcases u with ⟨c, o, k, f, s, cn, mo, pl, de, gu, my, kp⟩
  refine pk_le l 11 (fun h11 => pk_le 6 l (fun h6 => ?_) (fun h6 => ?_)) (fun h11 => ?_)
  · have e6 : nI l - 6 = nI (l - 6) := pk_sub (b := 6) h6
    rw [e6, tc_shr _ (by omega) a ha, tc_i1]
    unfold tc_lit at h
    rw [if_neg (by omega), if_pos (by omega)] at h
    exact h
  · rw [tc_shr _ h6 a ha]
    unfold tc_lit at h
    rw [if_pos h6] at h
    exact h
  · have e12 : nI l - 12 = nI (l - 12) := pk_sub (b := 12) (by omega)
    rw [e12]
    unfold tc_lit at h
    rw [if_neg (by omega), if_neg (by omega)] at h
    rcases (by omega : l = 12 ∨ l = 13) with e | e
    · subst e; exact h
    · subst e; exact h
/-! ===== the circuit and its values ===== -/
abbrev tc_C : Type := Nat × Nat × Nat × (Nat → Nat) × (Nat → Nat) × (Nat → Nat) × (Nat → Nat) × (Nat → Nat) × (Nat → Nat) × (Nat → Nat)
abbrev tc_n (c : tc_C) : Nat := c.1
abbrev tc_ac (c : tc_C) : Nat := c.2.1
abbrev tc_cc (c : tc_C) : Nat := c.2.2.1
abbrev tc_K (c : tc_C) : Nat → Nat := c.2.2.2.1
abbrev tc_F (c : tc_C) : Nat → Nat := c.2.2.2.2.1
abbrev tc_S (c : tc_C) : Nat → Nat := c.2.2.2.2.2.1
abbrev tc_T (c : tc_C) : Nat → Nat := c.2.2.2.2.2.2.1
abbrev tc_Q (c : tc_C) : Nat → Nat := c.2.2.2.2.2.2.2.1
abbrev tc_D (c : tc_C) : Nat → Nat := c.2.2.2.2.2.2.2.2.1
abbrev tc_G (c : tc_C) : Nat → Nat := c.2.2.2.2.2.2.2.2.2
def tc_used (c : tc_C) (s : Nat) : Prop := s < tc_ac c ∨ (12 ≤ s ∧ s < 12 + tc_cc c)
def tc_okN (c : tc_C) (j : Nat) : Prop := tc_K c j ≤ 5 ∧ tc_F c j < tc_n c ∧ tc_S c j < tc_n c ∧ (tc_K c j = 0 → tc_F c j = j) ∧ (1 ≤ tc_K c j → tc_K c j ≤ 4 → tc_F c j < j) ∧ (2 ≤ tc_K c j → tc_K c j ≤ 4 → tc_S c j < j) ∧ (tc_K c j < 2 ∨ tc_K c j = 5 → tc_S c j = j)
def tc_okI (c : tc_C) (s : Nat) : Prop := tc_T c s < 4 ∧ tc_Q c s < tc_n c ∧ tc_D c s < 14 ∧ tc_G c s < 14
def tc_wf (c : tc_C) : Prop := tc_n c ≤ 20 ∧ tc_ac c ≤ 12 ∧ tc_cc c ≤ 12 ∧ (∀ j, j < tc_n c → tc_okN c j) ∧ (∀ s, tc_used c s → tc_okI c s)
abbrev tc_B : Type := Bool × Bool
def tc_cut (g d : Bool) (w : tc_B) : tc_B := (w.1 && !(g && d), w.2 && !(g && !d))
def tc_as (c : tc_C) (ou : Int32) (a p : Nat) : Nat → tc_B → tc_B
  | 0, w => w
  | k + 1, w => if nI k ≠ ou ∧ 20 * tc_T c k + tc_Q c k = p then tc_cut (tc_lit (tc_G c k) a) (tc_lit (tc_D c k) a) (tc_as c ou a p k w) else tc_as c ou a p k w
def tc_gate (k : Nat) (x y : tc_B) : tc_B := if k = 1 then (x.2, x.1) else if k = 2 then (x.1 || y.1, x.2 && y.2) else if k = 3 then (x.1 && y.1, x.2 || y.2) else (x.1 && y.1 || x.2 && y.2, x.2 && y.1 || x.1 && y.2)
def tc_base (c : tc_C) (m : Nat → tc_B) (t j : Nat) : tc_B := if tc_K c j = 0 then (true, true) else if tc_K c j = 5 then (if t = 0 then (true, true) else m (20 * (t - 1) + tc_F c j)) else tc_gate (tc_K c j) (m (20 * t + tc_F c j)) (m (20 * t + tc_S c j))
def tc_tab (c : tc_C) (ou : Int32) (a : Nat) : Nat → Nat → tc_B
  | 0 => fun _ => (true, true)
  | p + 1 => fun q => if q = p then tc_as c ou a p (tc_ac c) (tc_base c (tc_tab c ou a p) (p / 20) (p % 20)) else tc_tab c ou a p q
def tc_V (c : tc_C) (ou : Int32) (a p : Nat) : tc_B := tc_tab c ou a (p + 1) p
theorem tc_tab_lt (c : tc_C) (ou : Int32) (a : Nat) : ∀ p q, q < p → tc_tab c ou a p q = tc_V c ou a q := by
  intro p
  induction p with
  | zero => intro q h; omega
  | succ p ih =>
    intro q h
    rcases Nat.lt_or_ge q p with z | z
    · show (if q = p then _ else tc_tab c ou a p q) = _
      rw [if_neg (by omega)]
      exact ih q z
    · have : q = p := by omega
      subst this
      rfl
theorem tc_base_congr {c : tc_C} {m m' : Nat → tc_B} {t j : Nat} (hw : tc_wf c) (hj : j < tc_n c) (h : ∀ t' j', j' < tc_n c → (t' < t ∨ t' = t ∧ j' < j) → m (20 * t' + j') = m' (20 * t' + j')) : tc_base c m t j = tc_base c m' t j := by
  obtain ⟨h20, hac, hcc, hN, hI⟩ := hw
  obtain ⟨k5, f, s, k0, kf, ks, kk⟩ := hN j hj
  unfold tc_base
  by_cases z0 : tc_K c j = 0
  · rw [if_pos z0, if_pos z0]
  · rw [if_neg z0, if_neg z0]
    by_cases z5 : tc_K c j = 5
    · rw [if_pos z5, if_pos z5]
      by_cases t0 : t = 0
      · rw [if_pos t0, if_pos t0]
      · rw [if_neg t0, if_neg t0, h _ _ f (Or.inl (by omega))]
    · rw [if_neg z5, if_neg z5, h _ _ f (Or.inr ⟨rfl, kf (by omega) (by omega)⟩)]
      by_cases z1 : tc_K c j = 1
      · unfold tc_gate
        rw [if_pos z1, if_pos z1]
      · rw [h _ _ s (Or.inr ⟨rfl, ks (by omega) (by omega)⟩)]
theorem tc_V_eq {c : tc_C} (ou : Int32) (a : Nat) {t j : Nat} (hw : tc_wf c) (hj : j < tc_n c) : tc_V c ou a (20 * t + j) = tc_as c ou a (20 * t + j) (tc_ac c) (tc_base c (tc_V c ou a) t j) := by
  have h20 : tc_n c ≤ 20 := hw.1
  unfold tc_V
  show (if (20 * t + j) = 20 * t + j then _ else _) = _
  rw [if_pos rfl, show (20 * t + j) / 20 = t by omega, show (20 * t + j) % 20 = j by omega]
  refine congrArg _ (tc_base_congr hw hj (fun t' j' hj' hl => ?_))
  exact tc_tab_lt c ou a _ _ (by omega)
/-- what is asked of the values: idle, broken, failing -/
def tc_idl (c : tc_C) (ou : Int32) (a : Nat) : Bool := tc_any (fun t => tc_any (fun j => !((tc_V c ou a (20 * t + j)).1 || (tc_V c ou a (20 * t + j)).2)) (tc_n c)) 4
def tc_brk (c : tc_C) (ou : Int32) (a k : Nat) : Bool := tc_lit (tc_G c (12 + k)) a && (tc_lit (tc_D c (12 + k)) a && (tc_V c ou a (20 * tc_T c (12 + k) + tc_Q c (12 + k))).1 || !tc_lit (tc_D c (12 + k)) a && (tc_V c ou a (20 * tc_T c (12 + k) + tc_Q c (12 + k))).2)
def tc_fail (c : tc_C) (ou : Int32) (a : Nat) : Bool := tc_any (tc_brk c ou a) (tc_cc c) && !tc_idl c ou a
end
section
section
variable {c : tc_C} {kd fs ss ip : Nat → Int32} {dm ig : Nat → Int64}
/-- the component's arrays show the circuit -/
def tc_RX (c : tc_C) (kd fs ss ip : Nat → Int32) (dm ig : Nat → Int64) : Prop := (∀ j, j < tc_n c → kd j = nI (tc_K c j) ∧ fs j = nI (tc_F c j) ∧ ss j = nI (tc_S c j)) ∧ (∀ s, tc_used c s → ip s = nI (20 * tc_T c s + tc_Q c s) ∧ ∀ a, a < 64 → tc_lb (dm s) a = tc_lit (tc_D c s) a ∧ tc_lb (ig s) a = tc_lit (tc_G c s) a)
theorem tc_pX (t j : Nat) : nI t * 20 + nI j = nI (20 * t + j) := by
  rw [show (20 : Int32) = nI 20 from rfl, pk_mul, nI_add, Nat.mul_comm]
def tc_oth (m0 m1 m0' m1' : Nat → Int64) (p : Nat) : Prop := ∀ q, q ≠ p → m0' q = m0 q ∧ m1' q = m1 q
def tc_at (m0 m1 : Nat → Int64) (a p : Nat) : tc_B := (tc_lb (m0 p) a, tc_lb (m1 p) a)
theorem tc_oth_upd {m0 m1 : Nat → Int64} {p : Nat} (x y : Int64) : tc_oth m0 m1 (vp_updL m0 p x) (vp_updL m1 p y) p := fun _ hq => ⟨pk_uLn hq, pk_uLn hq⟩
theorem tc_at_upd {m0 m1 : Nat → Int64} {p a : Nat} (x y : Int64) : tc_at (vp_updL m0 p x) (vp_updL m1 p y) a p = (tc_lb x a, tc_lb y a) := by
  unfold tc_at
  rw [pk_uLs, pk_uLs]
theorem tc_Xgate {post : SX → Prop} {m0 m1 : Nat → Int64} {t j : Nat} (hw : tc_wf c) (hx : tc_RX c kd fs ss ip dm ig) (ht : t < 4) (hj : j < tc_n c) (h1 : 1 ≤ tc_K c j) (h4 : tc_K c j ≤ 4)
    (h : ∀ m0' m1', tc_oth m0 m1 m0' m1' (20 * t + j) → (∀ a, a < 64 → tc_at m0' m1' a (20 * t + j) = tc_gate (tc_K c j) (tc_at m0 m1 a (20 * t + tc_F c j)) (tc_at m0 m1 a (20 * t + tc_S c j))) → post (nI (tc_n c), nI (tc_ac c), nI (tc_cc c), kd, fs, ss, ip, dm, ig, m0', m1')) : wpX_setGateValue post (nI (tc_n c), nI (tc_ac c), nI (tc_cc c), kd, fs, ss, ip, dm, ig, m0, m1) (nI t) (nI j) := by
  obtain ⟨h20, hac, hcc, hN, hI⟩ := hw
  obtain ⟨k5, f, s, k0, kf, ks, kk⟩ := hN j hj
  obtain ⟨ek, ef, es⟩ := hx.1 j hj
  have ej : (nI j).toNatClampNeg = j := nI_clamp (by omega)
  have e1 : (nI (20 * t + j)).toNatClampNeg = 20 * t + j := nI_clamp (by omega)
  have e2 : (nI (20 * t + tc_F c j)).toNatClampNeg = 20 * t + tc_F c j := nI_clamp (by omega)
  have e3 : (nI (20 * t + tc_S c j)).toNatClampNeg = 20 * t + tc_S c j := nI_clamp (by omega)
  have i0 : vp_in (nI j) 20 := vp_in_nI (by omega) (by omega)
  have i1 : vp_in (nI (20 * t + j)) 80 := vp_in_nI (by omega) (by omega)
  have i2 : vp_in (nI (20 * t + tc_F c j)) 80 := vp_in_nI (by omega) (by omega)
  have i3 : vp_in (nI (20 * t + tc_S c j)) 80 := vp_in_nI (by omega) (by omega)
  have fj := kf h1 h4
  have n2 : 20 * t + tc_F c j ≠ 20 * t + j := by omega
  unfold wpX_setGateValue wpX_placeOf
  dsimp only
  rw [ej, ek, ef, es, tc_pX, tc_pX, tc_pX, e1, e2, e3]
  refine ⟨i0, i0, i0, nm_e (br_f (nI_nlt (b := 1) h1 (by omega)) (br_c (fun z => ?_) (fun z => ?_)))⟩
  · have z4 : 3 < tc_K c j := (nI_ltI (a := 3) (by omega) (by omega)).mp z
    have sj := ks (by omega) h4
    have n3 : 20 * t + tc_S c j ≠ 20 * t + j := by omega
    refine ⟨i2, i3, i2, i3, i1, nm_e ⟨i2, i3, i2, i3, i1, nm_e (h _ _ (tc_oth_upd _ _) (fun a ha => ?_))⟩⟩
    rw [tc_at_upd, pk_uLn n2, pk_uLn n3]
    unfold tc_gate tc_at
    rw [if_neg (by omega), if_neg (by omega), if_neg (by omega)]
    simp only [tc_lb_or, tc_lb_and]
  · have z4 : tc_K c j ≤ 3 := by
      have : ¬ 3 < tc_K c j := fun y => z (nI_lt (a := 3) y (by omega))
      omega
    refine pk_eq (tc_K c j) 1 (fun z1 => ?_) (fun z1 => pk_eq (tc_K c j) 2 (fun z2 => ?_) (fun z2 => pk_eq (tc_K c j) 3 (fun z3 => ?_) (fun z3 => trivial)))
    · refine ⟨i2, i1, nm_e ⟨i2, i1, nm_e (h _ _ (tc_oth_upd _ _) (fun a ha => ?_))⟩⟩
      rw [tc_at_upd, pk_uLn n2]
      unfold tc_gate tc_at
      rw [if_pos z1]
    · have sj := ks (by omega) h4
      have n3 : 20 * t + tc_S c j ≠ 20 * t + j := by omega
      refine ⟨i2, i3, i1, nm_e ⟨i2, i3, i1, nm_e (h _ _ (tc_oth_upd _ _) (fun a ha => ?_))⟩⟩
      rw [tc_at_upd]
      unfold tc_gate tc_at
      rw [if_neg (by omega), if_pos z2]
      simp only [tc_lb_or, tc_lb_and]
    · have sj := ks (by omega) h4
      have n3 : 20 * t + tc_S c j ≠ 20 * t + j := by omega
      refine ⟨i2, i3, i1, nm_e ⟨i2, i3, i1, nm_e (h _ _ (tc_oth_upd _ _) (fun a ha => ?_))⟩⟩
      rw [tc_at_upd]
      unfold tc_gate tc_at
      rw [if_neg (by omega), if_neg (by omega), if_pos z3]
      simp only [tc_lb_or, tc_lb_and]
theorem tc_Xown29 {post : SX → Prop} {m0 m1 : Nat → Int64} {p : Nat} (hp : p < 80) (h : post (nI (tc_n c), nI (tc_ac c), nI (tc_cc c), kd, fs, ss, ip, dm, ig, (vp_updL m0 p (-1)), (vp_updL m1 p (-1)))) : wX_setOwnValue_29 post (nI p) (nI (tc_n c)) (nI (tc_ac c)) (nI (tc_cc c)) kd fs ss ip dm ig (m0) (m1) := by
  have e1 : (nI p).toNatClampNeg = p := nI_clamp (by omega)
  have i1 : vp_in (nI p) 80 := vp_in_nI hp (by omega)
  unfold wX_setOwnValue_29
  rw [e1]
  exact ⟨i1, nm_e ⟨i1, nm_e h⟩⟩
theorem tc_Xown50 {post : SX → Prop} {m0 m1 : Nat → Int64} {t j : Nat} (hw : tc_wf c) (hx : tc_RX c kd fs ss ip dm ig) (ht : t < 4) (hj : j < tc_n c) (h0 : tc_K c j ≠ 0) (h5 : tc_K c j = 5 → t ≠ 0)
    (h : ∀ m0' m1', tc_oth m0 m1 m0' m1' (20 * t + j) → (∀ a, a < 64 → tc_at m0' m1' a (20 * t + j) = tc_base c (tc_at m0 m1 a) t j) → post (nI (tc_n c), nI (tc_ac c), nI (tc_cc c), kd, fs, ss, ip, dm, ig, m0', m1')) : wX_setOwnValue_50 post (nI t) (nI j) (nI (20 * t + j)) (nI (tc_n c)) (nI (tc_ac c)) (nI (tc_cc c)) kd fs ss ip dm ig (m0) (m1) := by
  have hw' := hw
  obtain ⟨h20, hac, hcc, hN, hI⟩ := hw
  obtain ⟨k5, f, s, k0, kf, ks, kk⟩ := hN j hj
  obtain ⟨ek, ef, es⟩ := hx.1 j hj
  have ej : (nI j).toNatClampNeg = j := nI_clamp (by omega)
  have e1 : (nI (20 * t + j)).toNatClampNeg = 20 * t + j := nI_clamp (by omega)
  have i0 : vp_in (nI j) 20 := vp_in_nI (by omega) (by omega)
  have i1 : vp_in (nI (20 * t + j)) 80 := vp_in_nI (by omega) (by omega)
  unfold wX_setOwnValue_50
  rw [ej, ek]
  refine ⟨i0, pk_eq (tc_K c j) 5 (fun z => ⟨i0, ?_⟩) (fun z => ?_)⟩
  · have t0 := h5 z
    have e2 : (nI (20 * (t - 1) + tc_F c j)).toNatClampNeg = 20 * (t - 1) + tc_F c j := nI_clamp (by omega)
    have i2 : vp_in (nI (20 * (t - 1) + tc_F c j)) 80 := vp_in_nI (by omega) (by omega)
    unfold wpX_placeOf
    rw [ef, show nI t - 1 = nI (t - 1) from pk_sub (b := 1) (by omega), tc_pX, e1]
    dsimp only
    rw [e2]
    refine ⟨i2, i1, nm_e ⟨i2, i1, nm_e (h _ _ (tc_oth_upd _ _) (fun a ha => ?_))⟩⟩
    rw [tc_at_upd]
    unfold tc_base tc_at
    rw [if_neg h0, if_pos z, if_neg t0]
  · refine tc_Xgate hw' hx ht hj (by omega) (by omega) (fun m0' m1' ho ha => h _ _ ho (fun a h64 => ?_))
    rw [ha a h64]
    unfold tc_base
    rw [if_neg h0, if_neg z]
theorem tc_Xown {post : SX → Prop} {m0 m1 : Nat → Int64} {t j : Nat} (hw : tc_wf c) (hx : tc_RX c kd fs ss ip dm ig) (ht : t < 4) (hj : j < tc_n c)
    (h : ∀ m0' m1', tc_oth m0 m1 m0' m1' (20 * t + j) → (∀ a, a < 64 → tc_at m0' m1' a (20 * t + j) = tc_base c (tc_at m0 m1 a) t j) → post (nI (tc_n c), nI (tc_ac c), nI (tc_cc c), kd, fs, ss, ip, dm, ig, m0', m1')) : wpX_setOwnValue post (nI (tc_n c), nI (tc_ac c), nI (tc_cc c), kd, fs, ss, ip, dm, ig, m0, m1) (nI t) (nI j) := by
  have h20 : tc_n c ≤ 20 := hw.1
  obtain ⟨ek, ef, es⟩ := hx.1 j hj
  have k5 : tc_K c j ≤ 5 := (hw.2.2.2.1 j hj).1
  have ej : (nI j).toNatClampNeg = j := nI_clamp (by omega)
  have i0 : vp_in (nI j) 20 := vp_in_nI (by omega) (by omega)
  unfold wpX_setOwnValue wpX_placeOf
  dsimp only
  rw [ej, ek, tc_pX]
  refine ⟨i0, pk_eq (tc_K c j) 0 (fun z => tc_Xown29 (by omega) ?_) (fun z => ⟨i0, pk_eq (tc_K c j) 5 (fun z5 => pk_eq t 0 (fun z0 => tc_Xown29 (by omega) ?_) (fun z0 => ?_)) (fun z5 => ?_)⟩)⟩
  · refine h _ _ (tc_oth_upd _ _) (fun a ha => ?_)
    rw [tc_at_upd, tc_lb_m1 a ha]
    unfold tc_base
    rw [if_pos z]
  · refine h _ _ (tc_oth_upd _ _) (fun a ha => ?_)
    rw [tc_at_upd, tc_lb_m1 a ha]
    unfold tc_base
    rw [if_neg z, if_pos z5, if_pos z0]
  · exact tc_Xown50 hw hx ht hj z (fun _ => z0) h
  · exact tc_Xown50 hw hx ht hj z (fun y => absurd y z5) h
theorem tc_Xassume {post : SX → Prop} {ou : Int32} {m0 m1 : Nat → Int64} {t j : Nat} (hw : tc_wf c) (hx : tc_RX c kd fs ss ip dm ig) (ht : t < 4) (hj : j < tc_n c)
    (h : ∀ m0' m1', tc_oth m0 m1 m0' m1' (20 * t + j) → (∀ a, a < 64 → tc_at m0' m1' a (20 * t + j) = tc_as c ou a (20 * t + j) (tc_ac c) (tc_at m0 m1 a (20 * t + j))) → post (nI (tc_n c), nI (tc_ac c), nI (tc_cc c), kd, fs, ss, ip, dm, ig, m0', m1')) : wpX_assume post (nI (tc_n c), nI (tc_ac c), nI (tc_cc c), kd, fs, ss, ip, dm, ig, m0, m1) (nI t) (nI j) ou := by
  obtain ⟨h20, hac, hcc, hN, hI⟩ := hw
  have hp : 20 * t + j < 80 := by omega
  unfold wpX_assume wpX_placeOf
  dsimp only
  rw [tc_pX]
  generalize 20 * t + j = p at *
  have e1 : (nI p).toNatClampNeg = p := nI_clamp (by omega)
  have i1 : vp_in (nI p) 80 := vp_in_nI hp (by omega)
  refine loop_0 (fun n i s => wX_assume_10 post ou (nI p) (nI (tc_n c)) (nI (tc_ac c)) (nI (tc_cc c)) n (nI i) kd fs ss ip dm ig s.1 s.2) (fun i s => tc_oth m0 m1 s.1 s.2 p ∧ ∀ a, a < 64 → tc_at s.1 s.2 a p = tc_as c ou a p i (tc_at m0 m1 a p)) (tc_ac c) (m0, m1) ⟨fun _ _ => ⟨rfl, rfl⟩, fun _ _ => rfl⟩ ?_ ?_
  · intro n s hs
    exact br_t (nI_le (Nat.le_refl _) (by omega)) (h _ _ hs.1 hs.2)
  · intro n i s hi hs ih
    obtain ⟨s0, s1⟩ := s
    obtain ⟨ho, hv⟩ := hs
    obtain ⟨ei, eb⟩ := hx.2 i (Or.inl hi)
    have ec : (nI i).toNatClampNeg = i := nI_clamp (by omega)
    have i2 : vp_in (nI i) 24 := vp_in_nI (by omega) (by omega)
    refine br_f (nI_ge hi (by omega)) ?_
    rw [ec, ei, e1]
    refine br_c (fun z => nm_e ?_) (fun z => ⟨i2, pk_eq (20 * tc_T c i + tc_Q c i) p (fun y => ?_) (fun y => nm_e ?_) rfl rfl ?_ (by omega)⟩)
    · rw [nI_1]
      refine ih (s0, s1) ⟨ho, fun a ha => ?_⟩
      rw [hv a ha]
      show _ = if nI i ≠ ou ∧ _ then _ else _
      rw [if_neg (fun y => y.1 z)]
    · refine ⟨i1, i2, i2, i1, nm_e ⟨i1, i2, i2, i1, nm_e (nm_e ?_)⟩⟩
      rw [nI_1]
      refine ih (vp_updL s0 p _, vp_updL s1 p _) ⟨fun q hq => ?_, fun a ha => ?_⟩
      · have := ho q hq
        exact ⟨(pk_uLn hq).trans this.1, (pk_uLn hq).trans this.2⟩
      · obtain ⟨b1, b2⟩ := eb a ha
        show tc_at (vp_updL s0 p _) (vp_updL s1 p _) a p = if nI i ≠ ou ∧ _ then _ else _
        rw [if_pos ⟨z, y⟩, ← hv a ha, tc_at_upd]
        simp only [tc_lb_and, tc_lb_not _ ha, b1, b2]
        rfl
    · rw [nI_1]
      refine ih (s0, s1) ⟨ho, fun a ha => ?_⟩
      rw [hv a ha]
      show _ = if nI i ≠ ou ∧ _ then _ else _
      rw [if_neg (fun w => y w.2)]
    · have := hI i (Or.inl hi)
      have a1 := this.1
      have a2 := this.2.1
      omega
/-- all places before (t, j) hold their values -/
def tc_dn (c : tc_C) (ou : Int32) (m0 m1 : Nat → Int64) (t j : Nat) : Prop := ∀ t' j', j' < tc_n c → (t' < t ∨ t' = t ∧ j' < j) → ∀ a, a < 64 → tc_at m0 m1 a (20 * t' + j') = tc_V c ou a (20 * t' + j')
theorem tc_Xfollow {post : SX → Prop} {ou : Int32} {m0 m1 : Nat → Int64} (hw : tc_wf c) (hx : tc_RX c kd fs ss ip dm ig)
    (h : ∀ m0' m1', tc_dn c ou m0' m1' 4 0 → post (nI (tc_n c), nI (tc_ac c), nI (tc_cc c), kd, fs, ss, ip, dm, ig, m0', m1')) : wpX_follow post (nI (tc_n c), nI (tc_ac c), nI (tc_cc c), kd, fs, ss, ip, dm, ig, m0, m1) ou := by
  have h20 : tc_n c ≤ 20 := hw.1
  refine loop_0 (fun n i s => wX_follow_2 post ou n (nI i) (nI (tc_n c)) (nI (tc_ac c)) (nI (tc_cc c)) kd fs ss ip dm ig s.1 s.2) (fun i s => tc_dn c ou s.1 s.2 i 0) 4 (m0, m1) (fun t' j' _ hl => by omega) ?_ ?_
  · intro n s hs
    exact br_t (nI_le (a := 4) (b := 4) (by omega) (by omega)) (h _ _ hs)
  · intro n t s ht hs ih
    refine br_f (nI_ge (b := 4) ht (by omega)) ?_
    refine loop_0 (fun n' i s => wX_follow_9 post (wX_follow_2 post ou n) ou (nI t) n' (nI i) (nI (tc_n c)) (nI (tc_ac c)) (nI (tc_cc c)) kd fs ss ip dm ig s.1 s.2) (fun i s => tc_dn c ou s.1 s.2 t i) (tc_n c) s hs ?_ ?_
    · intro n' s' hs'
      refine br_t (nI_le (Nat.le_refl _) (by omega)) (nm_e ?_)
      rw [nI_1]
      exact ih s' (fun t' j' hj' hl => hs' t' j' hj' (by omega))
    · intro n' j s' hj hs' ih'
      obtain ⟨s0, s1⟩ := s'
      refine br_f (nI_ge hj (by omega)) (tc_Xown hw hx ht hj (fun a0 a1 ho hv => ?_))
      refine tc_Xassume hw hx ht hj (fun b0 b1 ho' hv' => nm_e ?_)
      rw [nI_1]
      refine ih' (b0, b1) (fun t' j' hj' hl a ha => ?_)
      by_cases e : 20 * t' + j' = 20 * t + j
      · have : t' = t ∧ j' = j := by omega
        obtain ⟨rfl, rfl⟩ := this
        rw [hv' a ha, hv a ha, tc_V_eq ou a hw hj]
        exact congrArg _ (tc_base_congr hw hj (fun t1 j1 hj1 hl1 => hs' t1 j1 hj1 hl1 a ha))
      · have hl' : t' < t ∨ t' = t ∧ j' < j := by omega
        rw [← hs' t' j' hj' hl' a ha]
        have p1 := ho _ e
        have p2 := ho' _ e
        show (tc_lb (b0 _) a, tc_lb (b1 _) a) = (tc_lb (s0 _) a, tc_lb (s1 _) a)
        rw [p2.1, p2.2, p1.1, p1.2]
theorem tc_Xidle {post : Int64 → Prop} {ou : Int32} {m0 m1 : Nat → Int64} (hw : tc_wf c) (hd : tc_dn c ou m0 m1 4 0)
    (h : ∀ r, (∀ a, a < 64 → tc_lb r a = tc_idl c ou a) → post r) : wpX_idleSet post (nI (tc_n c), nI (tc_ac c), nI (tc_cc c), kd, fs, ss, ip, dm, ig, m0, m1) := by
  have h20 : tc_n c ≤ 20 := hw.1
  refine loop_0 (fun n i s => wX_idleSet_4 post (nI (tc_n c)) (nI (tc_ac c)) (nI (tc_cc c)) kd fs ss ip dm ig (m0) (m1) n s (nI i)) (fun i s => ∀ a, a < 64 → tc_lb s a = tc_any (fun t => tc_any (fun j => !((tc_V c ou a (20 * t + j)).1 || (tc_V c ou a (20 * t + j)).2)) (tc_n c)) i) 4 0 (fun a ha => tc_lb_0 a) ?_ ?_
  · intro n s hs
    exact br_t (nI_le (a := 4) (b := 4) (by omega) (by omega)) (h _ hs)
  · intro n t s ht hs ih
    refine br_f (nI_ge (b := 4) ht (by omega)) ?_
    refine loop_0 (fun n' i s => wX_idleSet_12 post (wX_idleSet_4 post (nI (tc_n c)) (nI (tc_ac c)) (nI (tc_cc c)) kd fs ss ip dm ig (m0) (m1) n) (nI t) (nI (tc_n c)) (nI (tc_ac c)) (nI (tc_cc c)) kd fs ss ip dm ig (m0) (m1) n' s (nI i)) (fun i s => ∀ a, a < 64 → tc_lb s a = (tc_any (fun t => tc_any (fun j => !((tc_V c ou a (20 * t + j)).1 || (tc_V c ou a (20 * t + j)).2)) (tc_n c)) t || tc_any (fun j => !((tc_V c ou a (20 * t + j)).1 || (tc_V c ou a (20 * t + j)).2)) i)) (tc_n c) s (fun a ha => by rw [hs a ha]; exact (Bool.or_false _).symm) ?_ ?_
    · intro n' s' hs'
      refine br_t (nI_le (Nat.le_refl _) (by omega)) (nm_e ?_)
      rw [nI_1]
      exact ih s' hs'
    · intro n' j s' hj hs' ih'
      have e1 : (nI (20 * t + j)).toNatClampNeg = 20 * t + j := nI_clamp (by omega)
      have i1 : vp_in (nI (20 * t + j)) 80 := vp_in_nI (by omega) (by omega)
      refine br_f (nI_ge hj (by omega)) ?_
      unfold wpX_placeOf
      rw [tc_pX]
      dsimp only
      rw [e1]
      refine ⟨i1, i1, nm_e (nm_e ?_)⟩
      rw [nI_1]
      refine ih' _ (fun a ha => ?_)
      have hv := hd t j hj (Or.inl ht) a ha
      rw [tc_lb_or, tc_lb_not _ ha, tc_lb_or, hs' a ha]
      show _ = (_ || (_ || !((tc_V c ou a (20 * t + j)).1 || (tc_V c ou a (20 * t + j)).2)))
      rw [← hv, Bool.or_assoc]
      rfl
theorem tc_Xbroken {post : Int64 → Prop} {ou : Int32} {m0 m1 : Nat → Int64} {k : Nat} (hw : tc_wf c) (hx : tc_RX c kd fs ss ip dm ig) (hd : tc_dn c ou m0 m1 4 0) (hk : k < tc_cc c)
    (h : ∀ r, (∀ a, a < 64 → tc_lb r a = tc_brk c ou a k) → post r) : wpX_brokenSet post (nI (tc_n c), nI (tc_ac c), nI (tc_cc c), kd, fs, ss, ip, dm, ig, m0, m1) (12 + nI k) := by
  obtain ⟨h20, hac, hcc, hN, hI⟩ := hw
  have hu : tc_used c (12 + k) := Or.inr (by omega)
  obtain ⟨t4, qn, _, _⟩ := hI _ hu
  obtain ⟨ei, eb⟩ := hx.2 _ hu
  have e0 : 12 + nI k = nI (12 + k) := nI_add 12 k
  have ec : (nI (12 + k)).toNatClampNeg = 12 + k := nI_clamp (by omega)
  have i2 : vp_in (nI (12 + k)) 24 := vp_in_nI (by omega) (by omega)
  have e1 : (nI (20 * tc_T c (12 + k) + tc_Q c (12 + k))).toNatClampNeg = 20 * tc_T c (12 + k) + tc_Q c (12 + k) := nI_clamp (by omega)
  have i1 : vp_in (nI (20 * tc_T c (12 + k) + tc_Q c (12 + k))) 80 := vp_in_nI (by omega) (by omega)
  unfold wpX_brokenSet
  dsimp only
  rw [e0, ec, ei]
  refine ⟨i2, nm_e ⟨i2, nm_e ⟨i2, i1, i1, h _ (fun a ha => ?_)⟩⟩⟩
  have hv := hd _ _ qn (Or.inl t4) a ha
  rw [e1]
  unfold tc_brk
  rw [← hv, tc_lb_and, tc_lb_or, tc_lb_and, tc_lb_and, tc_lb_not _ ha, (eb a ha).1, (eb a ha).2]
  rfl
theorem tc_Xfailing {post : Int64 → Prop} {ou : Int32} {m0 m1 : Nat → Int64} (hw : tc_wf c) (hx : tc_RX c kd fs ss ip dm ig) (hd : tc_dn c ou m0 m1 4 0)
    (h : ∀ r, (∀ a, a < 64 → tc_lb r a = tc_fail c ou a) → post r) : wpX_failingSet post (nI (tc_n c), nI (tc_ac c), nI (tc_cc c), kd, fs, ss, ip, dm, ig, m0, m1) := by
  have hcc : tc_cc c ≤ 12 := hw.2.2.1
  refine loop_0 (fun n i s => wX_failingSet_4 post (nI (tc_n c)) (nI (tc_ac c)) (nI (tc_cc c)) kd fs ss ip dm ig (m0) (m1) n s (nI i)) (fun i s => ∀ a, a < 64 → tc_lb s a = tc_any (tc_brk c ou a) i) (tc_cc c) 0 (fun a ha => tc_lb_0 a) ?_ ?_
  · intro n s hs
    refine br_t (nI_le (Nat.le_refl _) (by omega)) (tc_Xidle hw hd (fun r hr => h _ (fun a ha => ?_)))
    rw [tc_lb_and, tc_lb_not _ ha, hs a ha, hr a ha]
    rfl
  · intro n k s hk hs ih
    refine br_f (nI_ge hk (by omega)) (tc_Xbroken hw hx hd hk (fun r hr => nm_e (nm_e ?_)))
    rw [nI_1]
    refine ih _ (fun a ha => ?_)
    rw [tc_lb_or, hs a ha, hr a ha]
    rfl
end
end
section
section
variable {c : tc_C} {kd fs ss cn mo pl de gu my kp : Nat → Int32} {ou : Int32}
/-- the reference's arrays show the circuit -/
def tc_RY (c : tc_C) (kd fs ss cn mo pl de gu : Nat → Int32) : Prop := cn 0 = nI (tc_ac c) ∧ cn 1 = nI (tc_cc c) ∧ (∀ j, j < tc_n c → kd j = nI (tc_K c j) ∧ (tc_K c j ≠ 0 → fs j = nI (tc_F c j)) ∧ (2 ≤ tc_K c j → tc_K c j ≤ 4 → ss j = nI (tc_S c j))) ∧ (∀ s, tc_used c s → mo s = nI (tc_T c s) ∧ pl s = nI (tc_Q c s) ∧ de s = nI (tc_D c s) ∧ gu s = nI (tc_G c s))
def tc_cd (w : tc_B) : Int32 := (if w.1 then 1 else 0) + (if w.2 then 2 else 0)
theorem tc_pY (t j : Nat) : 20 * nI t + nI j = nI (20 * t + j) := by
  rw [show (20 : Int32) = nI 20 from rfl, pk_mul, nI_add]
theorem tc_cd_cut (w : tc_B) (d : Bool) : tc_cd w &&& ((1 : Int32) <<< (tc_i d &&& 31)) = tc_cd (tc_cut true d w) := by
  rcases w with ⟨x, y⟩
  cases x <;> cases y <;> cases d <;> decide
theorem tc_cut_f (w : tc_B) (d : Bool) : tc_cut false d w = w := by
  rcases w with ⟨x, y⟩
  cases x <;> cases y <;> cases d <;> decide
theorem tc_cd0 (w : tc_B) : tc_cd w = 0 ↔ (!(w.1 || w.2)) = true := by
  rcases w with ⟨x, y⟩
  cases x <;> cases y <;> decide
theorem tc_cd_oth (w : tc_B) (d : Bool) : ((tc_cd w >>> ((1 - tc_i d) &&& 31)) &&& 1) = tc_i (d && w.1 || !d && w.2) := by
  rcases w with ⟨x, y⟩
  cases x <;> cases y <;> cases d <;> decide
theorem tc_i_1 (b : Bool) : tc_i b = 1 ↔ b = true := by cases b <;> decide
theorem tc_i_0 (b : Bool) : tc_i b = 0 ↔ b = false := by cases b <;> decide
theorem tc_br1 {A B : Prop} {b : Bool} (f : b = true → A) (g : b = false → B) : (tc_i b = 1 → A) ∧ (¬ tc_i b = 1 → B) :=
  ⟨fun z => f ((tc_i_1 b).mp z), fun z => g (ts_nt (fun y => z ((tc_i_1 b).mpr y)))⟩
theorem tc_br0 {A B : Prop} {b : Bool} (g : b = false → A) (f : b = true → B) : (tc_i b = 0 → A) ∧ (¬ tc_i b = 0 → B) :=
  ⟨fun z => g ((tc_i_0 b).mp z), fun z => f (ts_nf (fun y => z ((tc_i_0 b).mpr y)))⟩
theorem tc_cd_m {A B : Prop} {w : tc_B} (f : w.1 = true → A) (g : w.1 = false → B) : ((tc_cd w - tc_cd w / 2 * 2) = 1 → A) ∧ (¬ (tc_cd w - tc_cd w / 2 * 2) = 1 → B) := by
  rcases w with ⟨x, y⟩
  cases x
  · exact br_f (by cases y <;> decide) (g rfl)
  · exact br_t (by cases y <;> decide) (f rfl)
theorem tc_cd_l {A B : Prop} {w : tc_B} (f : w.2 = false → A) (g : w.2 = true → B) : (tc_cd w ≤ 1 → A) ∧ (¬ tc_cd w ≤ 1 → B) := by
  rcases w with ⟨x, y⟩
  cases y
  · exact br_t (by cases x <;> decide) (f rfl)
  · exact br_f (by cases x <;> decide) (g rfl)
theorem tc_Ycode {post : Int32 → Prop} {u : SY} (z o : Bool) (h : post (tc_cd (z, o))) : wpY_code post u (tc_i z) (tc_i o) := by
  rcases u with ⟨c, o', k, f, s, cn, mo, pl, de, gu, my, kp⟩
  cases z <;> cases o
  · exact br_t rfl (br_t rfl h)
  · exact br_t rfl (br_f (by decide) h)
  · exact br_f (by decide) (br_t rfl h)
  · exact br_f (by decide) (br_f (by decide) h)
theorem tc_Yown111 {post : Int32 → Prop} {x y : tc_B} {j κ : Nat} (h1 : 1 ≤ κ) (h4 : κ ≤ 4) (hj : j < 20) (ek : kd j = nI κ) (h : post (tc_cd (tc_gate κ x y))) : wY_own_111 post (nI j) (tc_i x.1) (tc_i x.2) (tc_i y.1) (tc_i y.2) (nI (tc_n c)) (ou) kd fs ss cn mo pl de gu (my) (kp) := by
  have ej : (nI j).toNatClampNeg = j := nI_clamp (by omega)
  have i0 : vp_in (nI j) 20 := vp_in_nI hj (by omega)
  rcases x with ⟨x1, x2⟩
  rcases y with ⟨y1, y2⟩
  unfold wY_own_111
  rw [ej, ek]
  refine ⟨i0, pk_eq κ 1 (fun z => ?_) (fun z1 => ⟨i0, pk_eq κ 2 (fun z => ?_) (fun z2 => ⟨i0, pk_eq κ 3 (fun z => ?_) (fun z3 => ?_)⟩)⟩)⟩
  · subst z
    exact tc_Ycode x2 x1 h
  · subst z
    cases x1 <;> cases x2 <;> cases y1 <;> cases y2 <;> simpa [wY_own_158, wY_own_153, wY_own_172, wY_own_173, wpY_code, wY_code_9, tc_i, tc_cd, tc_gate] using h
  · subst z
    cases x1 <;> cases x2 <;> cases y1 <;> cases y2 <;> simpa [wY_own_203, wY_own_202, wY_own_213, wY_own_218, wpY_code, wY_code_9, tc_i, tc_cd, tc_gate] using h
  · have : κ = 4 := by omega
    subst this
    cases x1 <;> cases x2 <;> cases y1 <;> cases y2 <;> simpa [wY_own_233, wY_own_243, wY_own_247, wY_own_248, wY_own_258, wY_own_268, wY_own_272, wY_own_273, wpY_code, wY_code_9, tc_i, tc_cd, tc_gate] using h
theorem tc_Yown57 {post : Int32 → Prop} {x y : tc_B} {j κ : Nat} (h1 : 1 ≤ κ) (h4 : κ ≤ 4) (hj : j < 20) (ek : kd j = nI κ) (h : post (tc_cd (tc_gate κ x y))) : wY_own_57 post (nI j) (tc_cd x) (tc_cd y) (nI (tc_n c)) (ou) kd fs ss cn mo pl de gu (my) (kp) := by
  have H := tc_Yown111 (fs := fs) (ss := ss) (cn := cn) (mo := mo) (pl := pl) (de := de) (gu := gu) (my := my) (kp := kp) (ou := ou) (c := c) h1 h4 hj ek h
  have h98 : wY_own_98 post (nI j) (tc_cd y) (tc_i x.1) (tc_i x.2) (tc_i y.1) (nI (tc_n c)) (ou) kd fs ss cn mo pl de gu (my) (kp) :=
    tc_cd_l (fun z => by rw [z] at H; exact H) (fun z => by rw [z] at H; exact H)
  have h83 : wY_own_83 post (nI j) (tc_cd y) (tc_i x.1) (tc_i x.2) (nI (tc_n c)) (ou) kd fs ss cn mo pl de gu (my) (kp) :=
    ⟨by decide, tc_cd_m (fun z => by rw [z] at h98; exact h98) (fun z => by rw [z] at h98; exact h98)⟩
  have h71 : wY_own_71 post (nI j) (tc_cd x) (tc_cd y) (tc_i x.1) (nI (tc_n c)) (ou) kd fs ss cn mo pl de gu (my) (kp) :=
    tc_cd_l (fun z => by rw [z] at h83; exact h83) (fun z => by rw [z] at h83; exact h83)
  exact ⟨by decide, tc_cd_m (fun z => by rw [z] at h71; exact h71) (fun z => by rw [z] at h71; exact h71)⟩
theorem tc_Yown {post : Int32 → Prop} {t j : Nat} (hw : tc_wf c) (hy : tc_RY c kd fs ss cn mo pl de gu) (ht : t < 4) (hj : j < tc_n c) (h1 : 1 ≤ tc_K c j) (h4 : tc_K c j ≤ 4) (m : Nat → tc_B) (hm : ∀ t' j', j' < tc_n c → (t' < t ∨ t' = t ∧ j' < j) → my (20 * t' + j') = tc_cd (m (20 * t' + j')))
    (h : post (tc_cd (tc_gate (tc_K c j) (m (20 * t + tc_F c j)) (m (20 * t + tc_S c j))))) : wpY_own post (nI (tc_n c), ou, kd, fs, ss, cn, mo, pl, de, gu, my, kp) (nI t) (nI j) := by
  obtain ⟨h20, hac, hcc, hN, hI⟩ := hw
  obtain ⟨k5, f, s, k0, kf, ks, kk⟩ := hN j hj
  obtain ⟨ek, ef, es⟩ := hy.2.2.1 j hj
  have ef := ef (by omega)
  have ej : (nI j).toNatClampNeg = j := nI_clamp (by omega)
  have e2 : (nI (20 * t + tc_F c j)).toNatClampNeg = 20 * t + tc_F c j := nI_clamp (by omega)
  have e3 : (nI (20 * t + tc_S c j)).toNatClampNeg = 20 * t + tc_S c j := nI_clamp (by omega)
  have i0 : vp_in (nI j) 20 := vp_in_nI (by omega) (by omega)
  have i2 : vp_in (nI (20 * t + tc_F c j)) 80 := vp_in_nI (by omega) (by omega)
  have i3 : vp_in (nI (20 * t + tc_S c j)) 80 := vp_in_nI (by omega) (by omega)
  have v2 := hm t (tc_F c j) f (Or.inr ⟨rfl, kf h1 h4⟩)
  unfold wpY_own
  dsimp only
  rw [ej, ek, ef, tc_pY, e2, v2]
  refine ⟨i0, i2, nm_e ⟨i0, pk_le (tc_K c j) 1 (fun z => ?_) (fun z => ⟨i0, pk_le 5 (tc_K c j) (fun z5 => by omega) (fun z5 => ⟨i0, ?_⟩)⟩)⟩⟩
  · have e : tc_gate (tc_K c j) (m (20 * t + tc_F c j)) (m (20 * t + tc_S c j)) = tc_gate (tc_K c j) (m (20 * t + tc_F c j)) (false, false) := by
      have : tc_K c j = 1 := by omega
      unfold tc_gate
      rw [if_pos this, if_pos this]
    rw [e] at h
    exact tc_Yown57 (y := (false, false)) h1 h4 (by omega) ek h
  · rw [es (by omega) h4, tc_pY, e3, hm t (tc_S c j) s (Or.inr ⟨rfl, ks (by omega) h4⟩)]
    exact ⟨i3, tc_Yown57 h1 h4 (by omega) ek h⟩
theorem tc_Ybefore25 {post : Int32 → Prop} {t j : Nat} (hw : tc_wf c) (hy : tc_RY c kd fs ss cn mo pl de gu) (ht : t < 4) (hj : j < tc_n c) (h0 : tc_K c j ≠ 0) (h5 : tc_K c j = 5 → t ≠ 0) (m : Nat → tc_B) (hm : ∀ t' j', j' < tc_n c → (t' < t ∨ t' = t ∧ j' < j) → my (20 * t' + j') = tc_cd (m (20 * t' + j')))
    (h : post (tc_cd (tc_base c m t j))) : wY_before_25 post (nI t) (nI j) (nI (tc_n c)) (ou) kd fs ss cn mo pl de gu (my) (kp) := by
  have hw' := hw
  obtain ⟨h20, hac, hcc, hN, hI⟩ := hw
  obtain ⟨k5, f, s, k0, kf, ks, kk⟩ := hN j hj
  obtain ⟨ek, ef, es⟩ := hy.2.2.1 j hj
  have ef := ef (by omega)
  have ej : (nI j).toNatClampNeg = j := nI_clamp (by omega)
  have i0 : vp_in (nI j) 20 := vp_in_nI (by omega) (by omega)
  unfold tc_base at h
  rw [if_neg h0] at h
  unfold wY_before_25
  rw [ej, ek]
  refine ⟨i0, pk_eq (tc_K c j) 5 (fun z => ⟨i0, ?_⟩) (fun z => ?_)⟩
  · have t0 := h5 z
    have e2 : (nI (20 * (t - 1) + tc_F c j)).toNatClampNeg = 20 * (t - 1) + tc_F c j := nI_clamp (by omega)
    have i2 : vp_in (nI (20 * (t - 1) + tc_F c j)) 80 := vp_in_nI (by omega) (by omega)
    have e : 20 * nI t - 20 + nI (tc_F c j) = nI (20 * (t - 1) + tc_F c j) := by
      rw [show (20 : Int32) = nI 20 from rfl, pk_mul, pk_sub (by omega), nI_add]
      exact congrArg nI (by omega)
    rw [if_pos z, if_neg t0] at h
    rw [ef, e, e2, hm (t - 1) _ f (Or.inl (by omega))]
    exact ⟨i2, h⟩
  · rw [if_neg z] at h
    exact tc_Yown hw' hy ht hj (by omega) (by omega) m hm h
theorem tc_Ybefore {post : Int32 → Prop} {t j : Nat} (hw : tc_wf c) (hy : tc_RY c kd fs ss cn mo pl de gu) (ht : t < 4) (hj : j < tc_n c) (m : Nat → tc_B) (hm : ∀ t' j', j' < tc_n c → (t' < t ∨ t' = t ∧ j' < j) → my (20 * t' + j') = tc_cd (m (20 * t' + j')))
    (h : post (tc_cd (tc_base c m t j))) : wpY_before post (nI (tc_n c), ou, kd, fs, ss, cn, mo, pl, de, gu, my, kp) (nI t) (nI j) := by
  have h20 : tc_n c ≤ 20 := hw.1
  have k5 : tc_K c j ≤ 5 := (hw.2.2.2.1 j hj).1
  obtain ⟨ek, ef, es⟩ := hy.2.2.1 j hj
  have ej : (nI j).toNatClampNeg = j := nI_clamp (by omega)
  have i0 : vp_in (nI j) 20 := vp_in_nI (by omega) (by omega)
  unfold wpY_before
  dsimp only
  rw [ej, ek]
  refine ⟨i0, pk_eq (tc_K c j) 0 (fun z => ?_) (fun z => ⟨i0, pk_eq (tc_K c j) 5 (fun z5 => pk_eq t 0 (fun z0 => ?_) (fun z0 => ?_)) (fun z5 => ?_)⟩)⟩
  · unfold tc_base at h
    rw [if_pos z] at h
    exact h
  · unfold tc_base at h
    rw [if_neg z, if_pos z5, if_pos z0] at h
    exact h
  · exact tc_Ybefore25 hw hy ht hj z (fun _ => z0) m hm h
  · exact tc_Ybefore25 hw hy ht hj z (fun y => absurd y z5) m hm h
theorem tc_Yas {post : SY → Prop} {J2 J9 : Int32 → (Nat → Int32) → (Nat → Int32) → (Nat → Int32) → (Nat → Int32) → (Nat → Int32) → (Nat → Int32) → (Nat → Int32) → (Nat → Int32) → (Nat → Int32) → (Nat → Int32) → Prop} {a t j : Nat} (hw : tc_wf c) (hy : tc_RY c kd fs ss cn mo pl de gu) (ha : a < 64) (ht : t < 4) (hj : j < tc_n c) (w : tc_B)
    (h : J9 (nI (j + 1)) kd fs ss cn mo pl de gu (upd my (20 * t + j) (tc_cd (tc_as c ou a (20 * t + j) (tc_ac c) w))) kp) : ∃ n, wY_follow_28 post J2 J9 (nI a) (nI t) (nI j) (nI (tc_n c)) (ou) kd fs ss cn mo pl de gu (my) (kp) n (tc_cd w) 0 := by
  obtain ⟨h20, hac, hcc, hN, hI⟩ := hw
  have e1 : (nI (20 * t + j)).toNatClampNeg = 20 * t + j := nI_clamp (by omega)
  have i1 : vp_in (nI (20 * t + j)) 80 := vp_in_nI (by omega) (by omega)
  refine loop_0 (fun n i s => wY_follow_28 post J2 J9 (nI a) (nI t) (nI j) (nI (tc_n c)) (ou) kd fs ss cn mo pl de gu (my) (kp) n s (nI i)) (fun i s => s = tc_cd (tc_as c ou a (20 * t + j) i w)) (tc_ac c) (tc_cd w) rfl ?_ ?_
  · intro n s hs
    subst hs
    unfold wY_follow_28
    rw [hy.1, tc_pY, e1, nI_1]
    exact br_t (nI_le (Nat.le_refl _) (by omega)) ⟨i1, nm_e (nm_e h)⟩
  · intro n i s hi hs ih
    subst hs
    have hu : tc_used c i := Or.inl hi
    obtain ⟨em, ep, ed, eg⟩ := hy.2.2.2 i hu
    obtain ⟨b1, b2, b3, b4⟩ := hI i hu
    have ec : (nI i).toNatClampNeg = i := nI_clamp (by omega)
    have i2 : vp_in (nI i) 24 := vp_in_nI (by omega) (by omega)
    have skip : tc_as c ou a (20 * t + j) (i + 1) w = tc_as c ou a (20 * t + j) i w → wY_follow_90 post J2 J9 (wY_follow_28 post J2 J9 (nI a) (nI t) (nI j) (nI (tc_n c)) (ou) kd fs ss cn mo pl de gu (my) (kp) n) (nI a) (nI t) (nI j) (tc_cd (tc_as c ou a (20 * t + j) i w)) (nI i) (nI (tc_n c)) (ou) kd fs ss cn mo pl de gu (my) (kp) := by
      intro e
      refine br_t rfl (nm_e ?_)
      rw [nI_1]
      exact ih _ (by rw [e])
    unfold wY_follow_28
    rw [hy.1, ec, em, ep, eg]
    refine br_f (nI_ge hi (by omega)) (br_c (fun z => skip ?_) (fun z => ⟨i2, pk_eq (tc_T c i) t (fun y => ⟨i2, pk_eq (tc_Q c i) j (fun x => ⟨i2, tc_Yliteral _ b4 ha (tc_br1 (fun g => ?_) (fun g => skip ?_))⟩) (fun x => skip ?_)⟩) (fun y => skip ?_)⟩))
    · show (if nI i ≠ ou ∧ _ then _ else _) = _
      rw [if_neg (fun q => q.1 z)]
    · refine br_f (by decide) ⟨i2, ?_⟩
      rw [ec, ed]
      refine tc_Yliteral _ b3 ha (nm_e (nm_e ?_))
      rw [tc_cd_cut, nI_1]
      refine ih _ ?_
      show _ = tc_cd (if nI i ≠ ou ∧ _ then _ else _)
      rw [if_pos ⟨z, by omega⟩, g]
    · show (if nI i ≠ ou ∧ _ then _ else _) = _
      rw [if_pos ⟨z, by omega⟩, g, tc_cut_f]
    · show (if nI i ≠ ou ∧ _ then _ else _) = _
      rw [if_neg (fun q => x (by have := q.2; omega))]
    · show (if nI i ≠ ou ∧ _ then _ else _) = _
      rw [if_neg (fun q => y (by have := q.2; omega))]
def tc_dnY (c : tc_C) (ou : Int32) (a : Nat) (my : Nat → Int32) (t j : Nat) : Prop := ∀ t' j', j' < tc_n c → (t' < t ∨ t' = t ∧ j' < j) → my (20 * t' + j') = tc_cd (tc_V c ou a (20 * t' + j'))
theorem tc_Yfollow {post : SY → Prop} {a : Nat} (hw : tc_wf c) (hy : tc_RY c kd fs ss cn mo pl de gu) (ha : a < 64)
    (h : ∀ my', tc_dnY c ou a my' 4 0 → post (nI (tc_n c), ou, kd, fs, ss, cn, mo, pl, de, gu, my', kp)) : wpY_follow post (nI (tc_n c), ou, kd, fs, ss, cn, mo, pl, de, gu, my, kp) (nI a) := by
  have h20 : tc_n c ≤ 20 := hw.1
  refine loop_0 (fun n i s => wY_follow_2 post (nI a) (nI (tc_n c)) ou n (nI i) kd fs ss cn mo pl de gu s kp) (fun i s => tc_dnY c ou a s i 0) 4 my (fun t' j' _ hl => by omega) ?_ ?_
  · intro n s hs
    exact br_t (nI_le (a := 4) (b := 4) (by omega) (by omega)) (h _ hs)
  · intro n t s ht hs ih
    refine br_f (nI_ge (b := 4) ht (by omega)) ?_
    refine loop_0 (fun n' i s => wY_follow_9 post (wY_follow_2 post (nI a) (nI (tc_n c)) ou n) (nI a) (nI t) (nI (tc_n c)) ou n' (nI i) kd fs ss cn mo pl de gu s kp) (fun i s => tc_dnY c ou a s t i) (tc_n c) s hs ?_ ?_
    · intro n' s' hs'
      refine br_t (nI_le (Nat.le_refl _) (by omega)) (nm_e ?_)
      rw [nI_1]
      exact ih s' (fun t' j' hj' hl => hs' t' j' hj' (by omega))
    · intro n' j s' hj hs' ih'
      refine br_f (nI_ge hj (by omega)) (tc_Ybefore hw hy ht hj (tc_V c ou a) hs' ?_)
      refine tc_Yas hw hy ha ht hj _ (ih' _ ?_)
      intro t' j' hj' hl
      by_cases e : 20 * t' + j' = 20 * t + j
      · have : t' = t ∧ j' = j := by omega
        obtain ⟨rfl, rfl⟩ := this
        rw [pk_us, tc_V_eq ou a hw hj]
      · have hl' : t' < t ∨ t' = t ∧ j' < j := by omega
        rw [pk_un e]
        exact hs' t' j' hj' hl'
theorem tc_YisIdle {post : Int32 → Prop} {a : Nat} (hw : tc_wf c) (hd : tc_dnY c ou a my 4 0) (h : post (tc_i (tc_idl c ou a))) : wpY_isIdle post (nI (tc_n c), ou, kd, fs, ss, cn, mo, pl, de, gu, my, kp) := by
  have h20 : tc_n c ≤ 20 := hw.1
  refine loop_0 (fun n i (_ : Unit) => wY_isIdle_2 post (nI (tc_n c)) (ou) kd fs ss cn mo pl de gu (my) (kp) n (nI i)) (fun i _ => tc_any (fun t => tc_any (fun j => !((tc_V c ou a (20 * t + j)).1 || (tc_V c ou a (20 * t + j)).2)) (tc_n c)) i = false) 4 () rfl ?_ ?_
  · intro n s hs
    refine br_t (nI_le (a := 4) (b := 4) (by omega) (by omega)) ?_
    have e : tc_idl c ou a = false := hs
    rw [e] at h
    exact h
  · intro n t s ht hs ih
    refine br_f (nI_ge (b := 4) ht (by omega)) ?_
    refine loop_0 (fun n' i (_ : Unit) => wY_isIdle_9 post (wY_isIdle_2 post (nI (tc_n c)) (ou) kd fs ss cn mo pl de gu (my) (kp) n) (nI t) (nI (tc_n c)) (ou) kd fs ss cn mo pl de gu (my) (kp) n' (nI i)) (fun i _ => tc_any (fun j => !((tc_V c ou a (20 * t + j)).1 || (tc_V c ou a (20 * t + j)).2)) i = false) (tc_n c) () rfl ?_ ?_
    · intro n' s' hs'
      refine br_t (nI_le (Nat.le_refl _) (by omega)) (nm_e ?_)
      rw [nI_1]
      refine ih () ?_
      show (tc_any _ t || tc_any _ (tc_n c)) = false
      rw [hs, hs']
      rfl
    · intro n' j s' hj hs' ih'
      have e1 : (nI (20 * t + j)).toNatClampNeg = 20 * t + j := nI_clamp (by omega)
      have i1 : vp_in (nI (20 * t + j)) 80 := vp_in_nI (by omega) (by omega)
      unfold wY_isIdle_9
      rw [tc_pY, e1, hd t j hj (Or.inl ht)]
      refine br_f (nI_ge hj (by omega)) ⟨i1, br_c (fun z => ?_) (fun z => nm_e ?_)⟩
      · have z' := (tc_cd0 _).mp z
        have e : tc_idl c ou a = true := tc_any_of (f := fun t => tc_any (fun j => !((tc_V c ou a (20 * t + j)).1 || (tc_V c ou a (20 * t + j)).2)) (tc_n c)) (i := t) (tc_any_of (f := fun j => !((tc_V c ou a (20 * t + j)).1 || (tc_V c ou a (20 * t + j)).2)) z' hj) ht
        rw [e] at h
        exact h
      · rw [nI_1]
        refine ih' () ?_
        show (tc_any _ j || !((tc_V c ou a (20 * t + j)).1 || (tc_V c ou a (20 * t + j)).2)) = false
        rw [hs', ts_nt (fun y => z ((tc_cd0 _).mpr y))]
        rfl
theorem tc_Ybreaks {post : Int32 → Prop} {a k : Nat} (hw : tc_wf c) (hy : tc_RY c kd fs ss cn mo pl de gu) (hd : tc_dnY c ou a my 4 0) (ha : a < 64) (hk : k < tc_cc c) (h : post (tc_i (tc_brk c ou a k))) : wpY_breaks post (nI (tc_n c), ou, kd, fs, ss, cn, mo, pl, de, gu, my, kp) (nI k) (nI a) := by
  obtain ⟨h20, hac, hcc, hN, hI⟩ := hw
  have hu : tc_used c (12 + k) := Or.inr (by omega)
  obtain ⟨t4, qn, b3, b4⟩ := hI _ hu
  obtain ⟨em, ep, ed, eg⟩ := hy.2.2.2 _ hu
  have e0 : 12 + nI k = nI (12 + k) := nI_add 12 k
  have ec : (nI (12 + k)).toNatClampNeg = 12 + k := nI_clamp (by omega)
  have i2 : vp_in (nI (12 + k)) 24 := vp_in_nI (by omega) (by omega)
  have e1 : (nI (20 * tc_T c (12 + k) + tc_Q c (12 + k))).toNatClampNeg = 20 * tc_T c (12 + k) + tc_Q c (12 + k) := nI_clamp (by omega)
  have i1 : vp_in (nI (20 * tc_T c (12 + k) + tc_Q c (12 + k))) 80 := vp_in_nI (by omega) (by omega)
  unfold wpY_breaks
  dsimp only
  rw [e0]
  refine nm_e ?_
  rw [ec, em, ep, ed, eg, tc_pY, e1, hd _ _ qn (Or.inl t4)]
  refine ⟨i2, tc_Yliteral _ b4 ha (tc_br0 (fun g => ?_) (fun g => ⟨i2, tc_Yliteral _ b3 ha (nm_e ⟨i2, i2, i1, ?_⟩)⟩))⟩
  · unfold tc_brk at h
    rw [g] at h
    exact h
  · unfold tc_brk at h
    rw [g, Bool.true_and] at h
    rw [tc_cd_oth]
    exact tc_br1 (fun z => by rw [z] at h; exact h) (fun z => by rw [z] at h; exact h)
theorem tc_YfailsNow {post : Int32 → Prop} {a : Nat} (hw : tc_wf c) (hy : tc_RY c kd fs ss cn mo pl de gu) (hd : tc_dnY c ou a my 4 0) (ha : a < 64) (h : post (tc_i (tc_fail c ou a))) : wpY_failsNow post (nI (tc_n c), ou, kd, fs, ss, cn, mo, pl, de, gu, my, kp) (nI a) := by
  have hcc : tc_cc c ≤ 12 := hw.2.2.1
  unfold wpY_failsNow
  dsimp only
  refine tc_YisIdle hw hd (tc_br0 (fun g => ?_) (fun g => ?_))
  · have e : tc_fail c ou a = tc_any (tc_brk c ou a) (tc_cc c) := by
      unfold tc_fail
      rw [g]
      exact Bool.and_true _
    rw [e] at h
    refine loop_0 (fun n i (_ : Unit) => wY_failsNow_11 post (nI a) (nI (tc_n c)) (ou) kd fs ss cn mo pl de gu (my) (kp) n (nI i)) (fun i _ => tc_any (tc_brk c ou a) i = false) (tc_cc c) () rfl ?_ ?_
    · intro n s hs
      unfold wY_failsNow_11
      rw [hy.2.1]
      rw [hs] at h
      exact br_t (nI_le (Nat.le_refl _) (by omega)) h
    · intro n k s hk hs ih
      unfold wY_failsNow_11
      rw [hy.2.1]
      refine br_f (nI_ge hk (by omega)) (tc_Ybreaks hw hy hd ha hk (tc_br0 (fun z => nm_e ?_) (fun z => ?_)))
      · rw [nI_1]
        refine ih () ?_
        show (tc_any _ k || _) = false
        rw [hs, z]
        rfl
      · rw [tc_any_of z hk] at h
        exact h
  · unfold tc_fail at h
    rw [g, Bool.not_true, Bool.and_false] at h
    exact h
theorem tc_YcountFails {post : Int32 → SY → Prop} (hw : tc_wf c) (hy : tc_RY c kd fs ss cn mo pl de gu) (h : ∀ my', post (nI (tc_cnt (tc_fail c ou) 64)) (nI (tc_n c), ou, kd, fs, ss, cn, mo, pl, de, gu, my', kp)) : wpY_countFails post (nI (tc_n c), ou, kd, fs, ss, cn, mo, pl, de, gu, my, kp) := by
  refine loop_0 (fun n i s => wY_countFails_4 post n (nI (tc_cnt (tc_fail c ou) i)) (nI i) (nI (tc_n c)) (ou) kd fs ss cn mo pl de gu (s) (kp)) (fun _ _ => True) 64 my trivial ?_ ?_
  · intro n s _
    exact br_t (nI_le (a := 64) (b := 64) (by omega) (by omega)) (h s)
  · intro n a s ha _ ih
    refine br_f (nI_ge (b := 64) ha (by omega)) (tc_Yfollow hw hy ha (fun my' hd => ?_))
    refine tc_YfailsNow hw hy hd ha (tc_br0 (fun z => nm_e ?_) (fun z => nm_e (nm_e ?_)))
    · have := ih my' trivial
      rw [tc_cnt_f z] at this
      rw [nI_1]
      exact this
    · have := ih my' trivial
      rw [tc_cnt_t z] at this
      rw [nI_1, nI_1]
      exact this
theorem tc_Ykeep {post : SY → Prop} {t j : Nat} (hw : tc_wf c) (hy : tc_RY c kd fs ss cn mo pl de gu) (ht : t < 4) (hj : j < tc_n c) (h : ∀ my' kp', (∀ a, a < 64 → kp' a = tc_cd (tc_V c ou a (20 * t + j))) → post (nI (tc_n c), ou, kd, fs, ss, cn, mo, pl, de, gu, my', kp')) : wpY_keep post (nI (tc_n c), ou, kd, fs, ss, cn, mo, pl, de, gu, my, kp) (nI t) (nI j) := by
  have h20 : tc_n c ≤ 20 := hw.1
  have e1 : (nI (20 * t + j)).toNatClampNeg = 20 * t + j := nI_clamp (by omega)
  have i1 : vp_in (nI (20 * t + j)) 80 := vp_in_nI (by omega) (by omega)
  refine loop_0 (fun n i s => wY_keep_2 post (nI t) (nI j) n (nI i) (nI (tc_n c)) (ou) kd fs ss cn mo pl de gu (s.1) (s.2)) (fun i s => ∀ a, a < i → s.2 a = tc_cd (tc_V c ou a (20 * t + j))) 64 (my, kp) (fun a ha => by omega) ?_ ?_
  · intro n s hs
    exact br_t (nI_le (a := 64) (b := 64) (by omega) (by omega)) (h _ _ hs)
  · intro n a s ha hs ih
    obtain ⟨s1, s2⟩ := s
    refine br_f (nI_ge (b := 64) ha (by omega)) (tc_Yfollow hw hy ha (fun my' hd => ?_))
    have ec : (nI a).toNatClampNeg = a := nI_clamp (by omega)
    dsimp only
    rw [tc_pY, e1, ec, hd t j hj (Or.inl ht)]
    refine ⟨i1, vp_in_nI ha (by omega), nm_e (nm_e ?_)⟩
    rw [nI_1]
    refine ih (my', _) (fun b hb => ?_)
    show upd s2 a _ b = _
    by_cases e : b = a
    · subst e
      exact pk_us
    · rw [pk_un e]
      exact hs b (by omega)
end
end
section
/-! ===== arguments ===== -/
theorem tc_XisMoment0 {post : Int32 → Prop} {x : Int32} (h : x < 0 ∨ nI 4 ≤ x) (p : post 0) : wpX_isMoment post x := br_c (fun _ => p) (fun z => br_t (h.resolve_left z) p)
theorem tc_XisMoment1 {post : Int32 → Prop} {t : Nat} (h : t < 4) (p : post 1) : wpX_isMoment post (nI t) := br_f (nI_pos (by omega)) (br_f (nI_ge (b := 4) h (by omega)) p)
theorem tc_XisLiteral0 {post : Int32 → Prop} {x : Int32} (h : x < 0 ∨ nI 14 ≤ x) (p : post 0) : wpX_isLiteral post x := br_c (fun _ => p) (fun z => br_t (h.resolve_left z) p)
theorem tc_XisLiteral1 {post : Int32 → Prop} {t : Nat} (h : t < 14) (p : post 1) : wpX_isLiteral post (nI t) := br_f (nI_pos (by omega)) (br_f (nI_ge (b := 14) h (by omega)) p)
theorem tc_XisNode0 {post : Int32 → Prop} {x : Int32} {c : tc_C} {kd fs ss ip : Nat → Int32} {dm ig m0 m1 : Nat → Int64} (h : x < 0 ∨ nI (tc_n c) ≤ x) (p : post 0) : wpX_isNode post (nI (tc_n c), nI (tc_ac c), nI (tc_cc c), kd, fs, ss, ip, dm, ig, m0, m1) x := br_c (fun _ => p) (fun z => br_t (h.resolve_left z) p)
theorem tc_XisNode1 {post : Int32 → Prop} {j : Nat} {c : tc_C} {kd fs ss ip : Nat → Int32} {dm ig m0 m1 : Nat → Int64} (hn : tc_n c ≤ 20) (h : j < tc_n c) (p : post 1) : wpX_isNode post (nI (tc_n c), nI (tc_ac c), nI (tc_cc c), kd, fs, ss, ip, dm, ig, m0, m1) (nI j) := br_f (nI_pos (by omega)) (br_f (nI_ge h (by omega)) p)
theorem tc_le3 {x : Int32} (h : nI 4 ≤ x) : ¬ x ≤ 3 := fun z => absurd (Int32.le_trans h z) (by decide)
theorem tc_le13 {x : Int32} (h : nI 14 ≤ x) : ¬ x ≤ 13 := fun z => absurd (Int32.le_trans h z) (by decide)
theorem tc_le63 {x : Int32} (h : nI 64 ≤ x) : ¬ x ≤ 63 := fun z => absurd (Int32.le_trans h z) (by decide)
theorem tc_YnoMoment1 {post : Int32 → Prop} {u : SY} {x : Int32} (h : x < 0 ∨ nI 4 ≤ x) (p : post 1) : wpY_noMoment post u x := by
  rcases u with ⟨c, o, k, f, s, cn, mo, pl, de, gu, my, kp⟩
  exact br_c (fun _ => p) (fun z => br_f (tc_le3 (h.resolve_left z)) p)
theorem tc_YnoMoment0 {post : Int32 → Prop} {u : SY} {t : Nat} (h : t < 4) (p : post 0) : wpY_noMoment post u (nI t) := by
  rcases u with ⟨c, o, k, f, s, cn, mo, pl, de, gu, my, kp⟩
  exact br_f (nI_pos (by omega)) (br_t (nI_le (b := 3) (by omega) (by omega)) p)
theorem tc_YnoLiteral1 {post : Int32 → Prop} {u : SY} {x : Int32} (h : x < 0 ∨ nI 14 ≤ x) (p : post 1) : wpY_noLiteral post u x := by
  rcases u with ⟨c, o, k, f, s, cn, mo, pl, de, gu, my, kp⟩
  exact br_c (fun _ => p) (fun z => br_f (tc_le13 (h.resolve_left z)) p)
theorem tc_YnoLiteral0 {post : Int32 → Prop} {u : SY} {t : Nat} (h : t < 14) (p : post 0) : wpY_noLiteral post u (nI t) := by
  rcases u with ⟨c, o, k, f, s, cn, mo, pl, de, gu, my, kp⟩
  exact br_f (nI_pos (by omega)) (br_t (nI_le (b := 13) (by omega) (by omega)) p)
theorem tc_YnoNode1 {post : Int32 → Prop} {x : Int32} {c : tc_C} {kd fs ss cn mo pl de gu my kp : Nat → Int32} {ou : Int32} (h : x < 0 ∨ nI (tc_n c) ≤ x) (p : post 1) : wpY_noNode post (nI (tc_n c), ou, kd, fs, ss, cn, mo, pl, de, gu, my, kp) x := br_c (fun _ => p) (fun z => br_f (Int32.not_lt.mpr (h.resolve_left z)) p)
theorem tc_YnoNode0 {post : Int32 → Prop} {j : Nat} {c : tc_C} {kd fs ss cn mo pl de gu my kp : Nat → Int32} {ou : Int32} (hn : tc_n c ≤ 20) (h : j < tc_n c) (p : post 0) : wpY_noNode post (nI (tc_n c), ou, kd, fs, ss, cn, mo, pl, de, gu, my, kp) (nI j) := br_f (nI_pos (by omega)) (br_t (nI_lt h (by omega)) p)
theorem tc_ix (x : Int32) {n : Nat} (hn : n < 2 ^ 31) : (x < 0 ∨ nI n ≤ x) ∨ ∃ j : Nat, j < n ∧ x = nI j := by
  rcases pk_ix x hn with h | h | h
  · exact Or.inl (Or.inl h)
  · exact Or.inl (Or.inr h)
  · exact Or.inr h
/-! ===== the relation ===== -/
def tc_Rel (u : SX) (v : SY) : Prop := ∃ (c : tc_C) (kd fs ss ip : Nat → Int32) (dm ig m0 m1 : Nat → Int64) (gs ts cn mo pl de gu my kp : Nat → Int32), tc_wf c ∧ tc_RX c kd fs ss ip dm ig ∧ tc_RY c kd gs ts cn mo pl de gu ∧ u = (nI (tc_n c), nI (tc_ac c), nI (tc_cc c), kd, fs, ss, ip, dm, ig, m0, m1) ∧ v = (nI (tc_n c), -1, kd, gs, ts, cn, mo, pl, de, gu, my, kp)
def i_Rel (_ : Nat) (u : SX) (v : SY) : Prop := tc_Rel u v
theorem i_up {k : Nat} {u : SX} {v : SY} (h : i_Rel k u v) : i_Rel (k + 6) u v := h
theorem tc_relI {c : tc_C} {kd fs ss ip : Nat → Int32} {dm ig : Nat → Int64} {gs ts cn mo pl de gu : Nat → Int32} (m0 m1 : Nat → Int64) (my kp : Nat → Int32) (hw : tc_wf c) (hx : tc_RX c kd fs ss ip dm ig) (hy : tc_RY c kd gs ts cn mo pl de gu) : tc_Rel (nI (tc_n c), nI (tc_ac c), nI (tc_cc c), kd, fs, ss, ip, dm, ig, m0, m1) (nI (tc_n c), -1, kd, gs, ts, cn, mo, pl, de, gu, my, kp) := ⟨c, kd, fs, ss, ip, dm, ig, m0, m1, gs, ts, cn, mo, pl, de, gu, my, kp, hw, hx, hy, rfl, rfl⟩
theorem i_vc0 : wpX_init (fun u => wpY_init (fun v => i_Rel 0 u v)) := by
  refine ⟨(0, 0, 0, fun _ => 0, fun _ => 0, fun _ => 0, fun _ => 0, fun _ => 0, fun _ => 0, fun _ => 0), fun _ => 0, fun _ => 0, fun _ => 0, fun _ => 0, fun _ => 0, fun _ => 0, fun _ => 0, fun _ => 0, fun _ => 0, fun _ => 0, fun _ => 0, fun _ => 0, fun _ => 0, fun _ => 0, fun _ => 0, fun _ => 0, fun _ => 0, ?_, ?_, ?_, rfl, rfl⟩
  · refine ⟨by decide, by decide, by decide, fun j hj => absurd hj (Nat.not_lt_zero j), fun s hs => ?_⟩
    have h : s < 0 ∨ (12 ≤ s ∧ s < 12 + 0) := hs
    omega
  · refine ⟨fun j hj => absurd hj (Nat.not_lt_zero j), fun s hs => ?_⟩
    have h : s < 0 ∨ (12 ≤ s ∧ s < 12 + 0) := hs
    omega
  · refine ⟨rfl, rfl, fun j hj => absurd hj (Nat.not_lt_zero j), fun s hs => ?_⟩
    have h : s < 0 ∨ (12 ≤ s ∧ s < 12 + 0) := hs
    omega
section
variable {c : tc_C} {kd fs ss ip : Nat → Int32} {dm ig m0 m1 : Nat → Int64} {cn mo pl de gu my kp : Nat → Int32}
def tc_told (w : tc_B) : Int32 := if w.1 then (if w.2 then 0 else 1) else (if w.2 then 2 else 3)
theorem tc_Xvalue {post : Int32 → SX → Prop} {t j a : Nat} (hw : tc_wf c) (hx : tc_RX c kd fs ss ip dm ig) (ht : t < 4) (hj : j < tc_n c) (ha : a < 64) (h : ∀ m0' m1', post (tc_told (tc_V c (-1) a (20 * t + j))) (nI (tc_n c), nI (tc_ac c), nI (tc_cc c), kd, fs, ss, ip, dm, ig, m0', m1')) : wpX_value post (nI (tc_n c), nI (tc_ac c), nI (tc_cc c), kd, fs, ss, ip, dm, ig, m0, m1) (nI t) (nI j) (nI a) := by
  have h20 : tc_n c ≤ 20 := hw.1
  have e1 : (nI (20 * t + j)).toNatClampNeg = 20 * t + j := nI_clamp (by omega)
  have i1 : vp_in (nI (20 * t + j)) 80 := vp_in_nI (by omega) (by omega)
  unfold wpX_value
  dsimp only
  refine tc_XisMoment1 ht (br_f (by decide) (tc_XisNode1 h20 hj (br_f (by decide) (br_f (nI_pos (by omega)) (br_t (nI_lt (b := 64) ha (by omega)) (tc_Xfollow hw hx (fun a0 a1 hd => ?_)))))))
  have hv := hd t j hj (Or.inl ht) a ha
  have H := h a0 a1
  rw [← hv] at H
  unfold wpX_placeOf
  dsimp only
  rw [tc_pX, e1]
  refine ⟨i1, ?_⟩
  unfold tc_told tc_at at H
  refine tc_Xcontains ha (fun z => ⟨i1, tc_Xcontains ha (fun y => br_f (by decide) (br_f (by decide) ?_)) (fun y => br_f (by decide) (br_t rfl ?_))⟩) (fun z => ⟨i1, tc_Xcontains ha (fun y => br_t rfl (br_f (by decide) ?_)) (fun y => br_t rfl (br_t rfl ?_))⟩)
  · rw [z, y] at H; exact H
  · rw [z, y] at H; exact H
  · rw [z, y] at H; exact H
  · rw [z, y] at H; exact H
theorem tc_Ytold {post : Int32 → Prop} {u : SY} (w : tc_B) (h : post (tc_told w)) : wpY_told post u (tc_cd w) := by
  rcases u with ⟨c, o, k, f, s, cn, mo, pl, de, gu, my, kp⟩
  rcases w with ⟨x, y⟩
  cases x <;> cases y
  · exact br_f (by decide) (br_t rfl h)
  · exact br_f (by decide) (br_f (by decide) h)
  · exact br_f (by decide) (br_f (by decide) h)
  · exact br_t rfl h
theorem tc_Yvalue {post : Int32 → SY → Prop} {t j a : Nat} (hw : tc_wf c) (hy : tc_RY c kd fs ss cn mo pl de gu) (ht : t < 4) (hj : j < tc_n c) (ha : a < 64) (h : ∀ my', post (tc_told (tc_V c (-1) a (20 * t + j))) (nI (tc_n c), -1, kd, fs, ss, cn, mo, pl, de, gu, my', kp)) : wpY_value post (nI (tc_n c), -1, kd, fs, ss, cn, mo, pl, de, gu, my, kp) (nI t) (nI j) (nI a) := by
  have h20 : tc_n c ≤ 20 := hw.1
  have e1 : (nI (20 * t + j)).toNatClampNeg = 20 * t + j := nI_clamp (by omega)
  have i1 : vp_in (nI (20 * t + j)) 80 := vp_in_nI (by omega) (by omega)
  unfold wpY_value
  dsimp only
  refine tc_YnoMoment0 ht (br_t rfl (tc_YnoNode0 h20 hj (br_t rfl (br_f (nI_pos (by omega)) (br_t (nI_le (b := 63) (by omega) (by omega)) (tc_Yfollow hw hy ha (fun my' hd => ?_)))))))
  dsimp only
  rw [tc_pY, e1, hd t j hj (Or.inl ht)]
  exact ⟨i1, tc_Ytold _ (h my')⟩
end
theorem i_vc_value {k : Nat} {u : SX} {v : SY} (I : i_Rel k u v) (hk : k + 6 ≤ 3072) (v1 : Int32) (v2 : Int32) (v3 : Int32) : wpX_value (fun r u' => wpY_value (fun r' v' => r' = r ∧ i_Rel (k + 6) u' v') v v1 v2 v3) u v1 v2 v3 := by
  have I' := I
  obtain ⟨c, kd, fs, ss, ip, dm, ig, m0, m1, gs, ts, cn, mo, pl, de, gu, my, kp, hw, hx, hy, rfl, rfl⟩ := I
  have h20 : tc_n c ≤ 20 := hw.1
  rcases tc_ix v1 (n := 4) (by omega) with z1 | ⟨t, ht, rfl⟩
  · unfold wpX_value wpY_value
    dsimp only
    exact tc_XisMoment0 z1 (br_t rfl (tc_YnoMoment1 z1 (br_f (by decide) ⟨rfl, I'⟩)))
  rcases tc_ix v2 (n := tc_n c) (by omega) with z2 | ⟨j, hj, rfl⟩
  · unfold wpX_value wpY_value
    dsimp only
    exact tc_XisMoment1 ht (br_f (by decide) (tc_XisNode0 z2 (br_t rfl (tc_YnoMoment0 ht (br_t rfl (tc_YnoNode1 z2 (br_f (by decide) ⟨rfl, I'⟩)))))))
  rcases tc_ix v3 (n := 64) (by omega) with z3 | ⟨a, ha, rfl⟩
  · unfold wpX_value wpY_value
    dsimp only
    refine tc_XisMoment1 ht (br_f (by decide) (tc_XisNode1 h20 hj (br_f (by decide) (br_c (fun z => ?_) (fun z => br_f (Int32.not_lt.mpr (z3.resolve_left z)) ?_)))))
    · exact tc_YnoMoment0 ht (br_t rfl (tc_YnoNode0 h20 hj (br_t rfl (br_t z ⟨rfl, I'⟩))))
    · exact tc_YnoMoment0 ht (br_t rfl (tc_YnoNode0 h20 hj (br_t rfl (br_f z (br_f (tc_le63 (z3.resolve_left z)) ⟨rfl, I'⟩)))))
  exact tc_Xvalue hw hx ht hj ha (fun a0 a1 => tc_Yvalue hw hy ht hj ha (fun my' => ⟨rfl, tc_relI a0 a1 my' kp hw hx hy⟩))
theorem i_vc_nodes {k : Nat} {u : SX} {v : SY} (I : i_Rel k u v) (hk : k + 6 ≤ 3072) : wpX_nodes (fun r => wpY_nodes (fun r' => r' = r ∧ i_Rel (k + 6) u v) v) u := by
  have I' := I
  obtain ⟨c, kd, fs, ss, ip, dm, ig, m0, m1, gs, ts, cn, mo, pl, de, gu, my, kp, hw, hx, hy, rfl, rfl⟩ := I
  exact ⟨rfl, I'⟩
section
variable {c : tc_C} {kd fs ss ip : Nat → Int32} {dm ig m0 m1 : Nat → Int64} {cn mo pl de gu my kp : Nat → Int32}
theorem tc_Xdefinite {post : Int32 → SX → Prop} {t j : Nat} (hw : tc_wf c) (hx : tc_RX c kd fs ss ip dm ig) (ht : t < 4) (hj : j < tc_n c) (h : ∀ m0' m1', post (nI (tc_cnt (fun a => (tc_V c (-1) a (20 * t + j)).1 ^^ (tc_V c (-1) a (20 * t + j)).2) 64)) (nI (tc_n c), nI (tc_ac c), nI (tc_cc c), kd, fs, ss, ip, dm, ig, m0', m1')) : wpX_definite post (nI (tc_n c), nI (tc_ac c), nI (tc_cc c), kd, fs, ss, ip, dm, ig, m0, m1) (nI t) (nI j) := by
  have h20 : tc_n c ≤ 20 := hw.1
  have e1 : (nI (20 * t + j)).toNatClampNeg = 20 * t + j := nI_clamp (by omega)
  have i1 : vp_in (nI (20 * t + j)) 80 := vp_in_nI (by omega) (by omega)
  unfold wpX_definite
  dsimp only
  refine tc_XisMoment1 ht (br_f (by decide) (tc_XisNode1 h20 hj (br_f (by decide) (tc_Xfollow hw hx (fun a0 a1 hd => ?_)))))
  unfold wpX_placeOf
  dsimp only
  rw [tc_pX, e1]
  refine ⟨i1, i1, tc_Xsize ?_⟩
  have H := h a0 a1
  rw [tc_cnt_congr (g := fun a => (tc_V c (-1) a (20 * t + j)).1 ^^ (tc_V c (-1) a (20 * t + j)).2) (fun a ha => ?_)]
  · exact H
  · rw [tc_lb_xor, ← hd t j hj (Or.inl ht) a ha]
    rfl
theorem tc_cd1 (w : tc_B) (h : tc_cd w = 1) : (w.1 ^^ w.2) = true := by
  rcases w with ⟨x, y⟩
  revert h
  cases x <;> cases y <;> decide
theorem tc_cd2 (w : tc_B) (h : tc_cd w = 2) : (w.1 ^^ w.2) = true := by
  rcases w with ⟨x, y⟩
  revert h
  cases x <;> cases y <;> decide
theorem tc_cd3 (w : tc_B) (h : ¬ tc_cd w = 1) (h' : ¬ tc_cd w = 2) : (w.1 ^^ w.2) = false := by
  rcases w with ⟨x, y⟩
  revert h h'
  cases x <;> cases y <;> decide
theorem tc_Ydefinite {post : Int32 → SY → Prop} {t j : Nat} (hw : tc_wf c) (hy : tc_RY c kd fs ss cn mo pl de gu) (ht : t < 4) (hj : j < tc_n c) (h : ∀ my' kp', post (nI (tc_cnt (fun a => (tc_V c (-1) a (20 * t + j)).1 ^^ (tc_V c (-1) a (20 * t + j)).2) 64)) (nI (tc_n c), -1, kd, fs, ss, cn, mo, pl, de, gu, my', kp')) : wpY_definite post (nI (tc_n c), -1, kd, fs, ss, cn, mo, pl, de, gu, my, kp) (nI t) (nI j) := by
  have h20 : tc_n c ≤ 20 := hw.1
  unfold wpY_definite
  dsimp only
  refine tc_YnoMoment0 ht (br_t rfl (tc_YnoNode0 h20 hj (br_t rfl (tc_Ykeep hw hy ht hj (fun my' kp' hv => ?_)))))
  refine loop_0 (fun n i s => wY_definite_29 post (nI (tc_n c)) (-1) kd fs ss cn mo pl de gu (my') (kp') n s (nI i)) (fun i s => s = nI (tc_cnt (fun a => (tc_V c (-1) a (20 * t + j)).1 ^^ (tc_V c (-1) a (20 * t + j)).2) i)) 64 0 rfl ?_ ?_
  · intro n s hs
    subst hs
    exact br_t (nI_le (a := 64) (b := 64) (by omega) (by omega)) (h my' kp')
  · intro n a s ha hs ih
    subst hs
    have ec : (nI a).toNatClampNeg = a := nI_clamp (by omega)
    have i1 : vp_in (nI a) 64 := vp_in_nI ha (by omega)
    unfold wY_definite_29
    rw [ec, hv a ha, nI_1, nI_1]
    refine br_f (nI_ge (b := 64) ha (by omega)) ⟨i1, br_c (fun z => nm_e (nm_e (ih _ ?_))) (fun z => ⟨i1, br_c (fun y => nm_e (nm_e (ih _ ?_))) (fun y => nm_e (ih _ ?_))⟩)⟩
    · exact congrArg nI (tc_cnt_t (f := fun a => (tc_V c (-1) a (20 * t + j)).1 ^^ (tc_V c (-1) a (20 * t + j)).2) (tc_cd1 _ z)).symm
    · exact congrArg nI (tc_cnt_t (f := fun a => (tc_V c (-1) a (20 * t + j)).1 ^^ (tc_V c (-1) a (20 * t + j)).2) (tc_cd2 _ y)).symm
    · exact congrArg nI (tc_cnt_f (f := fun a => (tc_V c (-1) a (20 * t + j)).1 ^^ (tc_V c (-1) a (20 * t + j)).2) (tc_cd3 _ z y)).symm
end
theorem i_vc_definite {k : Nat} {u : SX} {v : SY} (I : i_Rel k u v) (hk : k + 6 ≤ 3072) (v1 : Int32) (v2 : Int32) : wpX_definite (fun r u' => wpY_definite (fun r' v' => r' = r ∧ i_Rel (k + 6) u' v') v v1 v2) u v1 v2 := by
  have I' := I
  obtain ⟨c, kd, fs, ss, ip, dm, ig, m0, m1, gs, ts, cn, mo, pl, de, gu, my, kp, hw, hx, hy, rfl, rfl⟩ := I
  have h20 : tc_n c ≤ 20 := hw.1
  rcases tc_ix v1 (n := 4) (by omega) with z1 | ⟨t, ht, rfl⟩
  · unfold wpX_definite wpY_definite
    dsimp only
    exact tc_XisMoment0 z1 (br_t rfl (tc_YnoMoment1 z1 (br_f (by decide) ⟨rfl, I'⟩)))
  rcases tc_ix v2 (n := tc_n c) (by omega) with z2 | ⟨j, hj, rfl⟩
  · unfold wpX_definite wpY_definite
    dsimp only
    exact tc_XisMoment1 ht (br_f (by decide) (tc_XisNode0 z2 (br_t rfl (tc_YnoMoment0 ht (br_t rfl (tc_YnoNode1 z2 (br_f (by decide) ⟨rfl, I'⟩)))))))
  exact tc_Xdefinite hw hx ht hj (fun a0 a1 => tc_Ydefinite hw hy ht hj (fun my' kp' => ⟨rfl, tc_relI a0 a1 my' kp' hw hx hy⟩))
end
section
/-! ===== needs ===== -/
theorem tc_lb_shr (w : Int64) {s : UInt64} {j : Nat} (hj : j < 64) (hs : s.toNat = j) (i : Nat) : tc_lb ((w.toUInt64 >>> s).toInt64) i = tc_lb w (j + i) := by
  have e : (w.toUInt64 >>> s).toInt64.toBitVec = w.toBitVec >>> j := by
    apply BitVec.eq_of_toNat_eq
    show (w.toUInt64 >>> s).toNat = _
    rw [UInt64.toNat_shiftRight, hs, Nat.mod_eq_of_lt hj, BitVec.toNat_ushiftRight]
    rfl
  unfold tc_lb
  rw [e, BitVec.getLsbD_ushiftRight]
theorem tc_p2 : ∀ k, k < 6 → (1 : Int32) <<< (nI k &&& 31) = nI (2 ^ k) ∧ 2 ^ k < 64 := by decide +kernel
def tc_dep (g : Nat → Bool) (k : Nat) : Bool := tc_any (fun a => (g a ^^ g (2 ^ k + a)) && !a.testBit k) 64
theorem tc_Xdepends {post : Int32 → Prop} {x : Int64} {k : Nat} (hk : k < 6) (h : post (tc_i (tc_dep (tc_lb x) k))) : wpX_dependsOn post x (nI k) := by
  obtain ⟨e2, h2⟩ := tc_p2 k hk
  unfold wpX_dependsOn
  rw [e2]
  refine nm_e (tc_Xvariable hk (fun r hr => br_c (fun z => ?_) (fun z => ?_)))
  · have e : tc_dep (tc_lb x) k = false := by
      refine ts_nt (fun y => ?_)
      obtain ⟨a, ha, hf⟩ := (tc_any_iff _ _).mp y
      have hb := congrArg (fun q => tc_lb q a) z
      simp only [tc_lb_and, tc_lb_not _ ha, tc_lb_xor, tc_lb_shr x h2 (tc_cu _ h2), hr a ha, tc_lb_0] at hb
      rw [hb] at hf
      exact absurd hf (by decide)
    rw [e] at h
    exact h
  · have e : tc_dep (tc_lb x) k = true := by
      refine ts_nf (fun y => z (tc_lb_ext (fun a ha => ?_)))
      simp only [tc_lb_and, tc_lb_not _ ha, tc_lb_xor, tc_lb_shr x h2 (tc_cu _ h2), hr a ha, tc_lb_0]
      refine ts_nt (fun w => ?_)
      have := tc_any_of (f := fun a => (tc_lb x a ^^ tc_lb x (2 ^ k + a)) && !a.testBit k) w ha
      unfold tc_dep at y
      rw [y] at this
      exact absurd this (by decide)
    rw [e] at h
    exact h
/-- the mask of the k below i that f holds of -/
def tc_nd (f : Nat → Bool) : Nat → Int32
  | 0 => 0
  | k + 1 => if f k then tc_nd f k ||| ((1 : Int32) <<< (nI k &&& 31)) else tc_nd f k
theorem tc_nd_congr {f g : Nat → Bool} : ∀ {k : Nat}, (∀ i, i < k → f i = g i) → tc_nd f k = tc_nd g k := by
  intro k
  induction k with
  | zero => intro _; rfl
  | succ k ih =>
    intro h
    show (if f k then tc_nd f k ||| _ else tc_nd f k) = (if g k then tc_nd g k ||| _ else tc_nd g k)
    rw [ih (fun i hi => h i (by omega)), h k (by omega)]
theorem tc_nd_t {f : Nat → Bool} {k : Nat} (h : f k = true) : tc_nd f (k + 1) = tc_nd f k ||| ((1 : Int32) <<< (nI k &&& 31)) := by
  show (if f k then tc_nd f k ||| _ else tc_nd f k) = _
  rw [h]; rfl
theorem tc_nd_f {f : Nat → Bool} {k : Nat} (h : f k = false) : tc_nd f (k + 1) = tc_nd f k := by
  show (if f k then tc_nd f k ||| _ else tc_nd f k) = _
  rw [h]; rfl
def tc_ndf (W : Nat → tc_B) (k : Nat) : Bool := tc_any (fun a => decide (tc_cd (W a) ≠ tc_cd (W (a ^^^ 2 ^ k)))) 64
theorem tc_xr : ∀ k, k < 6 → ∀ a, a < 64 → (a ^^^ 2 ^ k) < 64 ∧ (a.testBit k = false → a ^^^ 2 ^ k = 2 ^ k + a) ∧ (a.testBit k = true → (a ^^^ 2 ^ k).testBit k = false ∧ 2 ^ k + (a ^^^ 2 ^ k) = a) := by decide +kernel
theorem tc_cd_ne (w z : tc_B) : tc_cd w ≠ tc_cd z ↔ (w.1 ^^ z.1) = true ∨ (w.2 ^^ z.2) = true := by
  rcases w with ⟨x, y⟩
  rcases z with ⟨x', y'⟩
  cases x <;> cases y <;> cases x' <;> cases y' <;> decide
theorem tc_depE {W : Nat → tc_B} {x y : Int64} {k : Nat} (hk : k < 6) (h : ∀ a, a < 64 → (tc_lb x a, tc_lb y a) = W a) : (tc_dep (tc_lb x) k || tc_dep (tc_lb y) k) = tc_ndf W k := by
  have hx : ∀ a, a < 64 → tc_lb x a = (W a).1 := fun a ha => by rw [← h a ha]
  have hy : ∀ a, a < 64 → tc_lb y a = (W a).2 := fun a ha => by rw [← h a ha]
  have key : (tc_dep (tc_lb x) k = true ∨ tc_dep (tc_lb y) k = true) ↔ tc_ndf W k = true := by
    constructor
    · rintro (z | z)
      · obtain ⟨a, ha, hf⟩ := (tc_any_iff _ _).mp z
        obtain ⟨l, e, _⟩ := tc_xr k hk a ha
        rw [Bool.and_eq_true, Bool.not_eq_true'] at hf
        have e := e hf.2
        refine tc_any_of (i := a) ?_ ha
        refine decide_eq_true ((tc_cd_ne _ _).mpr (Or.inl ?_))
        rw [← hx a ha, ← hx _ l, e]
        exact hf.1
      · obtain ⟨a, ha, hf⟩ := (tc_any_iff _ _).mp z
        obtain ⟨l, e, _⟩ := tc_xr k hk a ha
        rw [Bool.and_eq_true, Bool.not_eq_true'] at hf
        have e := e hf.2
        refine tc_any_of (i := a) ?_ ha
        refine decide_eq_true ((tc_cd_ne _ _).mpr (Or.inr ?_))
        rw [← hy a ha, ← hy _ l, e]
        exact hf.1
    · intro z
      obtain ⟨a, ha, hf⟩ := (tc_any_iff _ _).mp z
      have hf := (tc_cd_ne _ _).mp (of_decide_eq_true hf)
      obtain ⟨l, e0, e1⟩ := tc_xr k hk a ha
      rw [← hx a ha, ← hx _ l, ← hy a ha, ← hy _ l] at hf
      cases b : a.testBit k
      · have e := e0 b
        rw [e] at hf
        rcases hf with q | q
        · exact Or.inl (tc_any_of (i := a) (by rw [q, b]; rfl) ha)
        · exact Or.inr (tc_any_of (i := a) (by rw [q, b]; rfl) ha)
      · obtain ⟨b', e⟩ := e1 b
        rcases hf with q | q
        · refine Or.inl (tc_any_of (i := a ^^^ 2 ^ k) ?_ l)
          rw [e, b', Bool.xor_comm, q]; rfl
        · refine Or.inr (tc_any_of (i := a ^^^ 2 ^ k) ?_ l)
          rw [e, b', Bool.xor_comm, q]; rfl
  rw [Bool.eq_iff_iff, Bool.or_eq_true]
  exact key
section
variable {c : tc_C} {kd fs ss ip : Nat → Int32} {dm ig m0 m1 : Nat → Int64} {cn mo pl de gu my kp : Nat → Int32}
theorem tc_Xneeds {post : Int32 → SX → Prop} {t j : Nat} (hw : tc_wf c) (hx : tc_RX c kd fs ss ip dm ig) (ht : t < 4) (hj : j < tc_n c) (h : ∀ m0' m1', post (tc_nd (tc_ndf (fun a => tc_V c (-1) a (20 * t + j))) 6) (nI (tc_n c), nI (tc_ac c), nI (tc_cc c), kd, fs, ss, ip, dm, ig, m0', m1')) : wpX_needs post (nI (tc_n c), nI (tc_ac c), nI (tc_cc c), kd, fs, ss, ip, dm, ig, m0, m1) (nI t) (nI j) := by
  have h20 : tc_n c ≤ 20 := hw.1
  have e1 : (nI (20 * t + j)).toNatClampNeg = 20 * t + j := nI_clamp (by omega)
  have i1 : vp_in (nI (20 * t + j)) 80 := vp_in_nI (by omega) (by omega)
  unfold wpX_needs
  dsimp only
  refine tc_XisMoment1 ht (br_f (by decide) (tc_XisNode1 h20 hj (br_f (by decide) (tc_Xfollow hw hx (fun a0 a1 hd => ?_)))))
  unfold wpX_placeOf
  dsimp only
  rw [tc_pX]
  refine loop_0 (fun n i s => wX_needs_34 post (nI (20 * t + j)) (nI (tc_n c)) (nI (tc_ac c)) (nI (tc_cc c)) kd fs ss ip dm ig (a0) (a1) n s (nI i)) (fun i s => s = tc_nd (tc_ndf (fun a => tc_V c (-1) a (20 * t + j))) i) 6 0 rfl ?_ ?_
  · intro n s hs
    subst hs
    exact br_t (nI_le (a := 6) (b := 6) (by omega) (by omega)) (h a0 a1)
  · intro n k s hk hs ih
    have E := tc_depE (W := fun a => tc_V c (-1) a (20 * t + j)) (x := a0 (20 * t + j)) (y := a1 (20 * t + j)) hk (fun a ha => hd t j hj (Or.inl ht) a ha)
    have more : tc_ndf (fun a => tc_V c (-1) a (20 * t + j)) k = true → wX_needs_69 post (wX_needs_34 post (nI (20 * t + j)) (nI (tc_n c)) (nI (tc_ac c)) (nI (tc_cc c)) kd fs ss ip dm ig (a0) (a1) n) (nI (20 * t + j)) s (nI k) (nI (tc_n c)) (nI (tc_ac c)) (nI (tc_cc c)) kd fs ss ip dm ig (a0) (a1) := by
      intro z
      refine nm_e (nm_e ?_)
      rw [nI_1]
      exact ih _ (by rw [tc_nd_t z, hs])
    unfold wX_needs_34
    rw [e1]
    refine br_f (nI_ge (b := 6) hk (by omega)) ⟨i1, tc_Xdepends hk (tc_br0 (fun y => ⟨i1, tc_Xdepends hk (tc_br0 (fun z => nm_e ?_) (fun z => more ?_))⟩) (fun y => more ?_))⟩
    · rw [y, z] at E
      rw [nI_1]
      exact ih _ (by rw [tc_nd_f E.symm, hs])
    · rw [← E, z, Bool.or_true]
    · rw [← E, y, Bool.true_or]
theorem tc_Yneeds {post : Int32 → SY → Prop} {t j : Nat} (hw : tc_wf c) (hy : tc_RY c kd fs ss cn mo pl de gu) (ht : t < 4) (hj : j < tc_n c) (h : ∀ my' kp', post (tc_nd (tc_ndf (fun a => tc_V c (-1) a (20 * t + j))) 6) (nI (tc_n c), -1, kd, fs, ss, cn, mo, pl, de, gu, my', kp')) : wpY_needs post (nI (tc_n c), -1, kd, fs, ss, cn, mo, pl, de, gu, my, kp) (nI t) (nI j) := by
  have h20 : tc_n c ≤ 20 := hw.1
  unfold wpY_needs
  dsimp only
  refine tc_YnoMoment0 ht (br_t rfl (tc_YnoNode0 h20 hj (br_t rfl (tc_Ykeep hw hy ht hj (fun my' kp' hv => ?_)))))
  have H := h my' kp'
  revert H
  generalize hW : (fun a => tc_V c (-1) a (20 * t + j)) = W
  have hv' : ∀ a, a < 64 → kp' a = tc_cd (W a) := fun a ha => by rw [← hW]; exact hv a ha
  intro H
  refine loop_0 (fun n i s => wY_needs_29 post (nI (tc_n c)) (-1) kd fs ss cn mo pl de gu (my') (kp') n s (nI i)) (fun i s => s = tc_nd (tc_ndf W) i) 6 0 rfl ?_ ?_
  · intro n s hs
    subst hs
    exact br_t (nI_le (a := 6) (b := 6) (by omega) (by omega)) H
  · intro n k s hk hs ih
    obtain ⟨e2, h2⟩ := tc_p2 k hk
    refine br_f (nI_ge (b := 6) hk (by omega)) ?_
    refine loop_0 (fun n' i s' => wY_needs_39 post (wY_needs_29 post (nI (tc_n c)) (-1) kd fs ss cn mo pl de gu (my') (kp') n) (nI k) (nI (tc_n c)) (-1) kd fs ss cn mo pl de gu (my') (kp') n' s' (nI i)) (fun i s' => s' = if tc_any (fun a => decide (tc_cd (W a) ≠ tc_cd (W (a ^^^ 2 ^ k)))) i then s ||| ((1 : Int32) <<< (nI k &&& 31)) else s) 64 s rfl ?_ ?_
    · intro n' s' hs'
      refine br_t (nI_le (a := 64) (b := 64) (by omega) (by omega)) (nm_e ?_)
      rw [nI_1]
      refine ih _ ?_
      rw [hs', hs]
      rfl
    · intro n' a s' ha hs' ih'
      have l := (tc_xr k hk a ha).1
      have ec : (nI a).toNatClampNeg = a := nI_clamp (by omega)
      have i1 : vp_in (nI a) 64 := vp_in_nI ha (by omega)
      have ed : (nI (a ^^^ 2 ^ k)).toNatClampNeg = a ^^^ 2 ^ k := nI_clamp (by omega)
      have i2 : vp_in (nI (a ^^^ 2 ^ k)) 64 := vp_in_nI l (by omega)
      unfold wY_needs_39
      rw [ec, show nI a ^^^ (1 : Int32) <<< (nI k &&& 31) = nI (a ^^^ 2 ^ k) by rw [e2, nx_xor], ed, hv' a ha, hv' _ l]
      refine br_f (nI_ge (b := 64) ha (by omega)) ⟨i1, i2, br_c (fun z => nm_e ?_) (fun z => nm_e (nm_e ?_))⟩
      · rw [nI_1]
        refine ih' _ ?_
        show _ = if (tc_any _ a || decide (tc_cd (W a) ≠ tc_cd (W (a ^^^ 2 ^ k)))) then _ else _
        rw [decide_eq_false (fun q => q z), Bool.or_false]
        exact hs'
      · rw [nI_1]
        refine ih' _ ?_
        show _ = if (tc_any _ a || decide (tc_cd (W a) ≠ tc_cd (W (a ^^^ 2 ^ k)))) then _ else _
        rw [decide_eq_true z, Bool.or_true, if_pos rfl, hs']
        split
        · apply b_ext
          intro i _
          rw [b_or, b_or, Bool.or_assoc, Bool.or_self]
        · rfl
end
theorem i_vc_needs {k : Nat} {u : SX} {v : SY} (I : i_Rel k u v) (hk : k + 6 ≤ 3072) (v1 : Int32) (v2 : Int32) : wpX_needs (fun r u' => wpY_needs (fun r' v' => r' = r ∧ i_Rel (k + 6) u' v') v v1 v2) u v1 v2 := by
  have I' := I
  obtain ⟨c, kd, fs, ss, ip, dm, ig, m0, m1, gs, ts, cn, mo, pl, de, gu, my, kp, hw, hx, hy, rfl, rfl⟩ := I
  have h20 : tc_n c ≤ 20 := hw.1
  rcases tc_ix v1 (n := 4) (by omega) with z1 | ⟨t, ht, rfl⟩
  · unfold wpX_needs wpY_needs
    dsimp only
    exact tc_XisMoment0 z1 (br_t rfl (tc_YnoMoment1 z1 (br_f (by decide) ⟨rfl, I'⟩)))
  rcases tc_ix v2 (n := tc_n c) (by omega) with z2 | ⟨j, hj, rfl⟩
  · unfold wpX_needs wpY_needs
    dsimp only
    exact tc_XisMoment1 ht (br_f (by decide) (tc_XisNode0 z2 (br_t rfl (tc_YnoMoment0 ht (br_t rfl (tc_YnoNode1 z2 (br_f (by decide) ⟨rfl, I'⟩)))))))
  exact tc_Xneeds hw hx ht hj (fun a0 a1 => tc_Yneeds hw hy ht hj (fun my' kp' => ⟨rfl, tc_relI a0 a1 my' kp' hw hx hy⟩))
/-! ===== fails, idle, first, failsOf, without ===== -/
theorem i_vc_fails {k : Nat} {u : SX} {v : SY} (I : i_Rel k u v) (hk : k + 6 ≤ 3072) : wpX_fails (fun r u' => wpY_fails (fun r' v' => r' = r ∧ i_Rel (k + 6) u' v') v) u := by
  obtain ⟨c, kd, fs, ss, ip, dm, ig, m0, m1, gs, ts, cn, mo, pl, de, gu, my, kp, hw, hx, hy, rfl, rfl⟩ := I
  unfold wpX_fails wpY_fails
  dsimp only
  refine tc_Xfollow hw hx (fun a0 a1 hd => tc_Xfailing hw hx hd (fun r hr => tc_Xsize ?_))
  refine tc_YcountFails hw hy (fun my' => ⟨?_, tc_relI a0 a1 my' kp hw hx hy⟩)
  rw [tc_cnt_congr hr]
theorem i_vc_idle {k : Nat} {u : SX} {v : SY} (I : i_Rel k u v) (hk : k + 6 ≤ 3072) : wpX_idle (fun r u' => wpY_idle (fun r' v' => r' = r ∧ i_Rel (k + 6) u' v') v) u := by
  obtain ⟨c, kd, fs, ss, ip, dm, ig, m0, m1, gs, ts, cn, mo, pl, de, gu, my, kp, hw, hx, hy, rfl, rfl⟩ := I
  unfold wpX_idle wpY_idle
  dsimp only
  refine tc_Xfollow hw hx (fun a0 a1 hd => tc_Xidle hw hd (fun r hr => tc_Xsize ?_))
  rw [tc_cnt_congr hr]
  refine loop_0 (fun n i s => wY_idle_4 _ n (nI (tc_cnt (tc_idl c (-1)) i)) (nI i) (nI (tc_n c)) (-1) kd gs ts cn mo pl de gu s kp) (fun _ _ => True) 64 my trivial ?_ ?_
  · intro n s _
    exact br_t (nI_le (a := 64) (b := 64) (by omega) (by omega)) ⟨rfl, tc_relI a0 a1 s kp hw hx hy⟩
  · intro n a s ha _ ih
    refine br_f (nI_ge (b := 64) ha (by omega)) (tc_Yfollow hw hy ha (fun my' hd => ?_))
    refine tc_YisIdle hw hd (tc_br0 (fun z => nm_e ?_) (fun z => nm_e (nm_e ?_)))
    · have := ih my' trivial
      rw [tc_cnt_f z] at this
      rw [nI_1]
      exact this
    · have := ih my' trivial
      rw [tc_cnt_t z] at this
      rw [nI_1, nI_1]
      exact this
theorem tc_fst_t {f : Nat → Bool} {i : Nat} (hi : i < 64) (h : f i = true) : tc_fst f (64 - i) i = nI i := by
  obtain ⟨d, e⟩ : ∃ d, 64 - i = d + 1 := ⟨63 - i, by omega⟩
  rw [e]
  show (if f i then nI i else _) = _
  rw [h]; rfl
theorem tc_fst_f {f : Nat → Bool} {i : Nat} (hi : i < 64) (h : f i = false) : tc_fst f (64 - i) i = tc_fst f (64 - (i + 1)) (i + 1) := by
  obtain ⟨d, e⟩ : ∃ d, 64 - i = d + 1 := ⟨63 - i, by omega⟩
  rw [e, show 64 - (i + 1) = d by omega]
  show (if f i then nI i else tc_fst f d (i + 1)) = _
  rw [h]; rfl
theorem i_vc_first {k : Nat} {u : SX} {v : SY} (I : i_Rel k u v) (hk : k + 6 ≤ 3072) : wpX_first (fun r u' => wpY_first (fun r' v' => r' = r ∧ i_Rel (k + 6) u' v') v) u := by
  obtain ⟨c, kd, fs, ss, ip, dm, ig, m0, m1, gs, ts, cn, mo, pl, de, gu, my, kp, hw, hx, hy, rfl, rfl⟩ := I
  unfold wpX_first wpY_first
  dsimp only
  refine tc_Xfollow hw hx (fun a0 a1 hd => tc_Xfailing hw hx hd (fun r hr => ?_))
  have Y : ∀ R : Int32, R = tc_fst (tc_fail c (-1)) 64 0 → ∃ n, wY_first_2 (fun r' v' => r' = R ∧ i_Rel (k + 6) (nI (tc_n c), nI (tc_ac c), nI (tc_cc c), kd, fs, ss, ip, dm, ig, a0, a1) v') n 0 (nI (tc_n c)) (-1) kd gs ts cn mo pl de gu my kp := by
    intro R hR
    refine loop_0 (fun n i s => wY_first_2 _ n (nI i) (nI (tc_n c)) (-1) kd gs ts cn mo pl de gu s kp) (fun i _ => R = tc_fst (tc_fail c (-1)) (64 - i) i) 64 my hR ?_ ?_
    · intro n s hs
      exact br_t (nI_le (a := 64) (b := 64) (by omega) (by omega)) ⟨hs.symm, tc_relI a0 a1 s kp hw hx hy⟩
    · intro n a s ha hs ih
      refine br_f (nI_ge (b := 64) ha (by omega)) (tc_Yfollow hw hy ha (fun my' hd => ?_))
      refine tc_YfailsNow hw hy hd ha (tc_br0 (fun z => nm_e ?_) (fun z => ?_))
      · rw [nI_1]
        exact ih my' (hs.trans (tc_fst_f ha z))
      · exact ⟨(hs.trans (tc_fst_t ha z)).symm, tc_relI a0 a1 my' kp hw hx hy⟩
  have E : tc_fst (tc_lb r) 64 0 = tc_fst (tc_fail c (-1)) 64 0 := tc_fst_congr 64 0 (fun a ha => hr a (by omega))
  refine loop_0 (fun n i (_ : Unit) => wX_first_12 _ r (nI (tc_n c)) (nI (tc_ac c)) (nI (tc_cc c)) kd fs ss ip dm ig (a0) (a1) n (nI i)) (fun i _ => tc_fst (tc_fail c (-1)) 64 0 = tc_fst (tc_lb r) (64 - i) i) 64 () E.symm ?_ ?_
  · intro n s hs
    exact br_t (nI_le (a := 64) (b := 64) (by omega) (by omega)) (Y _ hs.symm)
  · intro n a s ha hs ih
    refine br_f (nI_ge (b := 64) ha (by omega)) (tc_Xcontains ha (fun z => br_f (by decide) ?_) (fun z => br_t rfl (nm_e ?_)))
    · exact Y _ (hs.trans (tc_fst_t ha z)).symm
    · rw [nI_1]
      exact ih () (hs.trans (tc_fst_f ha z))
theorem i_vc_failsOf {k : Nat} {u : SX} {v : SY} (I : i_Rel k u v) (hk : k + 6 ≤ 3072) (v1 : Int32) : wpX_failsOf (fun r u' => wpY_failsOf (fun r' v' => r' = r ∧ i_Rel (k + 6) u' v') v v1) u v1 := by
  have I' := I
  obtain ⟨c, kd, fs, ss, ip, dm, ig, m0, m1, gs, ts, cn, mo, pl, de, gu, my, kp, hw, hx, hy, rfl, rfl⟩ := I
  have hcc : tc_cc c ≤ 12 := hw.2.2.1
  unfold wpX_failsOf wpY_failsOf
  dsimp only
  rw [hy.2.1]
  rcases tc_ix v1 (n := tc_cc c) (by omega) with z1 | ⟨q, hq, rfl⟩
  · refine br_c (fun z => br_t z ⟨rfl, I'⟩) (fun z => ?_)
    have z' := Int32.not_lt.mpr (z1.resolve_left z)
    exact br_f z' (br_f z (br_f z' ⟨rfl, I'⟩))
  refine br_f (nI_pos (by omega)) (br_t (nI_lt hq (by omega)) (tc_Xfollow hw hx (fun a0 a1 hd => tc_Xbroken hw hx hd hq (fun r hr => tc_Xidle hw hd (fun r2 hr2 => tc_Xsize ?_)))))
  refine br_f (nI_pos (by omega)) (br_t (nI_lt hq (by omega)) ?_)
  rw [tc_cnt_congr (g := fun a => tc_brk c (-1) a q && !tc_idl c (-1) a) (fun a ha => by rw [tc_lb_and, tc_lb_not _ ha, hr a ha, hr2 a ha])]
  generalize hf : (fun a => tc_brk c (-1) a q && !tc_idl c (-1) a) = f
  refine loop_0 (fun n i s => wY_failsOf_21 _ (nI q) n (nI (tc_cnt f i)) (nI i) (nI (tc_n c)) (-1) kd gs ts cn mo pl de gu s kp) (fun _ _ => True) 64 my trivial ?_ ?_
  · intro n s _
    exact br_t (nI_le (a := 64) (b := 64) (by omega) (by omega)) ⟨rfl, tc_relI a0 a1 s kp hw hx hy⟩
  · intro n a s ha _ ih
    refine br_f (nI_ge (b := 64) ha (by omega)) (tc_Yfollow hw hy ha (fun my' hd => ?_))
    have H := ih my' trivial
    refine tc_YisIdle hw hd (tc_br0 (fun z => tc_Ybreaks hw hy hd ha hq (tc_br0 (fun y => br_t rfl (nm_e ?_)) (fun y => br_f (by decide) (nm_e (nm_e ?_))))) (fun z => br_t rfl (nm_e ?_)))
    · rw [tc_cnt_f (k := a) (by rw [← hf]; show (tc_brk c (-1) a q && !tc_idl c (-1) a) = false; rw [y]; rfl)] at H
      rw [nI_1]
      exact H
    · rw [tc_cnt_t (k := a) (by rw [← hf]; show (tc_brk c (-1) a q && !tc_idl c (-1) a) = true; rw [y, z]; rfl)] at H
      rw [nI_1, nI_1]
      exact H
    · rw [tc_cnt_f (k := a) (by rw [← hf]; show (tc_brk c (-1) a q && !tc_idl c (-1) a) = false; rw [z]; exact Bool.and_false _)] at H
      rw [nI_1]
      exact H
theorem i_vc_without {k : Nat} {u : SX} {v : SY} (I : i_Rel k u v) (hk : k + 6 ≤ 3072) (v1 : Int32) : wpX_without (fun r u' => wpY_without (fun r' v' => r' = r ∧ i_Rel (k + 6) u' v') v v1) u v1 := by
  have I' := I
  obtain ⟨c, kd, fs, ss, ip, dm, ig, m0, m1, gs, ts, cn, mo, pl, de, gu, my, kp, hw, hx, hy, rfl, rfl⟩ := I
  have hac : tc_ac c ≤ 12 := hw.2.1
  unfold wpX_without wpY_without
  dsimp only
  rw [hy.1]
  rcases tc_ix v1 (n := tc_ac c) (by omega) with z1 | ⟨q, hq, rfl⟩
  · refine br_c (fun z => br_t z ⟨rfl, I'⟩) (fun z => ?_)
    have z' := Int32.not_lt.mpr (z1.resolve_left z)
    exact br_f z' (br_f z (br_f z' ⟨rfl, I'⟩))
  refine br_f (nI_pos (by omega)) (br_t (nI_lt hq (by omega)) (tc_Xfollow hw hx (fun a0 a1 hd => tc_Xfailing hw hx hd (fun r hr => tc_Xfollow hw hx (fun b0 b1 hd2 => tc_Xfailing hw hx hd2 (fun r2 hr2 => tc_Xsize (tc_Xsize ?_)))))))
  refine br_f (nI_pos (by omega)) (br_t (nI_lt hq (by omega)) (tc_YcountFails hw hy (fun my1 => tc_YcountFails hw hy (fun my2 => ⟨?_, tc_relI b0 b1 my2 kp hw hx hy⟩))))
  rw [tc_cnt_congr hr, tc_cnt_congr hr2]
end
section
/-! ===== the circuit changes ===== -/
def tc_up (f : Nat → Nat) (k x : Nat) : Nat → Nat := fun j => if j = k then x else f j
theorem tc_ups {f : Nat → Nat} {k x : Nat} : tc_up f k x k = x := if_pos rfl
theorem tc_upn {f : Nat → Nat} {k j x : Nat} (h : j ≠ k) : tc_up f k x j = f j := if_neg h
theorem tc_rel_connect {c : tc_C} {kd fs ss ip : Nat → Int32} {dm ig m0 m1 : Nat → Int64} {gs ts cn mo pl de gu my kp : Nat → Int32} (hw : tc_wf c) (hx : tc_RX c kd fs ss ip dm ig) (hy : tc_RY c kd gs ts cn mo pl de gu) {k i : Nat} (hk : k < tc_n c) (hi : i < tc_n c) (h5 : tc_K c k = 5) :
    tc_Rel (nI (tc_n c), nI (tc_ac c), nI (tc_cc c), kd, upd fs k (nI i), ss, ip, dm, ig, m0, m1) (nI (tc_n c), -1, kd, upd gs k (nI i), ts, cn, mo, pl, de, gu, my, kp) := by
  rcases c with ⟨n, ac, cc, K, F, S, T, Q, D, G⟩
  obtain ⟨h20, hac, hcc, hN, hI⟩ := hw
  obtain ⟨hx1, hx2⟩ := hx
  obtain ⟨hy1, hy2, hy3, hy4⟩ := hy
  refine ⟨(n, ac, cc, K, tc_up F k i, S, T, Q, D, G), kd, upd fs k (nI i), ss, ip, dm, ig, m0, m1, upd gs k (nI i), ts, cn, mo, pl, de, gu, my, kp, ⟨h20, hac, hcc, fun j hj => ?_, hI⟩, ⟨fun j hj => ?_, hx2⟩, ⟨hy1, hy2, fun j hj => ?_, hy4⟩, rfl, rfl⟩
  · obtain ⟨a1, a2, a3, a4, a5, a6, a7⟩ := hN j hj
    have e5 : K k = 5 := h5
    by_cases e : j = k
    · subst e
      refine ⟨a1, ?_, a3, fun z => ?_, fun z1 z4 => ?_, a6, a7⟩
      · show tc_up F j i j < n
        rw [tc_ups]; exact hi
      · have z : K j = 0 := z
        omega
      · have z4 : K j ≤ 4 := z4
        omega
    · refine ⟨a1, ?_, a3, fun z => ?_, fun z1 z4 => ?_, a6, a7⟩
      · show tc_up F k i j < n
        rw [tc_upn e]; exact a2
      · show tc_up F k i j = j
        rw [tc_upn e]; exact a4 z
      · show tc_up F k i j < j
        rw [tc_upn e]; exact a5 z1 z4
  · obtain ⟨a1, a2, a3⟩ := hx1 j hj
    refine ⟨a1, ?_, a3⟩
    show upd fs k (nI i) j = nI (tc_up F k i j)
    by_cases e : j = k
    · subst e
      rw [pk_us, tc_ups]
    · rw [pk_un e, tc_upn e]; exact a2
  · obtain ⟨a1, a2, a3⟩ := hy3 j hj
    refine ⟨a1, fun z => ?_, a3⟩
    show upd gs k (nI i) j = nI (tc_up F k i j)
    by_cases e : j = k
    · subst e
      rw [pk_us, tc_ups]
    · rw [pk_un e, tc_upn e]; exact a2 z
theorem i_vc_connect {k : Nat} {u : SX} {v : SY} (I : i_Rel k u v) (hk : k + 6 ≤ 3072) (v1 : Int32) (v2 : Int32) : wpX_connect (fun r u' => wpY_connect (fun r' v' => r' = r ∧ i_Rel (k + 6) u' v') v v1 v2) u v1 v2 := by
  have I' := I
  obtain ⟨c, kd, fs, ss, ip, dm, ig, m0, m1, gs, ts, cn, mo, pl, de, gu, my, kp, hw, hx, hy, rfl, rfl⟩ := I
  have h20 : tc_n c ≤ 20 := hw.1
  unfold wpX_connect wpY_connect
  dsimp only
  rcases tc_ix v2 (n := tc_n c) (by omega) with z2 | ⟨i, hi, rfl⟩
  · exact tc_XisNode0 z2 (br_t rfl (tc_YnoNode1 z2 (br_f (by decide) ⟨rfl, I'⟩)))
  rcases tc_ix v1 (n := tc_n c) (by omega) with z1 | ⟨q, hq, rfl⟩
  · exact tc_XisNode1 h20 hi (br_f (by decide) (tc_XisNode0 z1 (br_t rfl (tc_YnoNode0 h20 hi (br_t rfl (tc_YnoNode1 z1 (br_f (by decide) ⟨rfl, I'⟩)))))))
  have ec : (nI q).toNatClampNeg = q := nI_clamp (by omega)
  have i1 : vp_in (nI q) 20 := vp_in_nI (by omega) (by omega)
  have k5 : tc_K c q ≤ 5 := (hw.2.2.2.1 q hq).1
  rw [ec, (hx.1 q hq).1]
  refine tc_XisNode1 h20 hi (br_f (by decide) (tc_XisNode1 h20 hq (br_f (by decide) ⟨i1, pk_eq (tc_K c q) 5 (fun z => ⟨i1, nm_e ⟨i1, nm_e ?_⟩⟩) (fun z => ?_)⟩)))
  · refine tc_YnoNode0 h20 hi (br_t rfl (tc_YnoNode0 h20 hq (br_t rfl ⟨i1, br_t (by rw [z]; rfl) ⟨i1, nm_e ⟨i1, nm_e ⟨?_, tc_rel_connect hw hx hy hq hi z⟩⟩⟩⟩)))
    rw [(hx.1 q hq).2.1]
    exact (hy.2.2.1 q hq).2.1 (by omega)
  · refine tc_YnoNode0 h20 hi (br_t rfl (tc_YnoNode0 h20 hq (br_t rfl ⟨i1, br_f (fun y => z ?_) ⟨rfl, I'⟩⟩)))
    exact (nI_eq (b := 5) (by omega) (by omega)).mp y
/-! ===== node ===== -/
theorem tc_rel_node {c : tc_C} {kd fs ss ip : Nat → Int32} {dm ig m0 m1 : Nat → Int64} {gs ts cn mo pl de gu my kp : Nat → Int32} (hw : tc_wf c) (hx : tc_RX c kd fs ss ip dm ig) (hy : tc_RY c kd gs ts cn mo pl de gu) {κ f s : Nat} {y1 y2 : Int32} (hn : tc_n c < 20) (hκ : κ ≤ 5) (hf : f ≤ tc_n c) (hs : s ≤ tc_n c) (h0 : κ = 0 → f = tc_n c) (h1 : 1 ≤ κ → κ ≤ 4 → f < tc_n c) (h2 : 2 ≤ κ → κ ≤ 4 → s < tc_n c) (h3 : κ < 2 ∨ κ = 5 → s = tc_n c) (hy1 : κ ≠ 0 → y1 = nI f) (hy2 : 2 ≤ κ → κ ≤ 4 → y2 = nI s) :
    tc_Rel (nI (tc_n c + 1), nI (tc_ac c), nI (tc_cc c), upd kd (tc_n c) (nI κ), upd fs (tc_n c) (nI f), upd ss (tc_n c) (nI s), ip, dm, ig, m0, m1) (nI (tc_n c + 1), -1, upd kd (tc_n c) (nI κ), upd gs (tc_n c) y1, upd ts (tc_n c) y2, cn, mo, pl, de, gu, my, kp) := by
  rcases c with ⟨n, ac, cc, K, F, S, T, Q, D, G⟩
  obtain ⟨h20, hac, hcc, hN, hI⟩ := hw
  obtain ⟨hx1, hx2⟩ := hx
  obtain ⟨b1, b2, hy3, hy4⟩ := hy
  dsimp only [tc_n, tc_ac, tc_cc] at *
  refine ⟨(n + 1, ac, cc, tc_up K n κ, tc_up F n f, tc_up S n s, T, Q, D, G), upd kd n (nI κ), upd fs n (nI f), upd ss n (nI s), ip, dm, ig, m0, m1, upd gs n y1, upd ts n y2, cn, mo, pl, de, gu, my, kp, ⟨hn, hac, hcc, fun j hj => ?_, fun q hq => ?_⟩, ⟨fun j hj => ?_, hx2⟩, ⟨b1, b2, fun j hj => ?_, hy4⟩, rfl, rfl⟩
  · show tc_up K n κ j ≤ 5 ∧ tc_up F n f j < n + 1 ∧ tc_up S n s j < n + 1 ∧ (tc_up K n κ j = 0 → tc_up F n f j = j) ∧ (1 ≤ tc_up K n κ j → tc_up K n κ j ≤ 4 → tc_up F n f j < j) ∧ (2 ≤ tc_up K n κ j → tc_up K n κ j ≤ 4 → tc_up S n s j < j) ∧ (tc_up K n κ j < 2 ∨ tc_up K n κ j = 5 → tc_up S n s j = j)
    by_cases e : j = n
    · subst e
      rw [tc_ups, tc_ups, tc_ups]
      exact ⟨hκ, by omega, by omega, h0, h1, h2, h3⟩
    · rw [tc_upn e, tc_upn e, tc_upn e]
      have hj : j < n + 1 := hj
      have := hN j (show j < n by omega)
      obtain ⟨a1, a2, a3, a4, a5, a6, a7⟩ := this
      have a2 : F j < n := a2
      have a3 : S j < n := a3
      exact ⟨a1, by omega, by omega, a4, a5, a6, a7⟩
  · obtain ⟨a1, a2, a3, a4⟩ := hI q hq
    have a2 : Q q < n := a2
    exact ⟨a1, show Q q < n + 1 by omega, a3, a4⟩
  · show upd kd n (nI κ) j = nI (tc_up K n κ j) ∧ upd fs n (nI f) j = nI (tc_up F n f j) ∧ upd ss n (nI s) j = nI (tc_up S n s j)
    by_cases e : j = n
    · subst e
      rw [tc_ups, tc_ups, tc_ups, pk_us, pk_us, pk_us]
      exact ⟨rfl, rfl, rfl⟩
    · rw [tc_upn e, tc_upn e, tc_upn e, pk_un e, pk_un e, pk_un e]
      have hj : j < n + 1 := hj
      exact hx1 j (show j < n by omega)
  · show upd kd n (nI κ) j = nI (tc_up K n κ j) ∧ (tc_up K n κ j ≠ 0 → upd gs n y1 j = nI (tc_up F n f j)) ∧ (2 ≤ tc_up K n κ j → tc_up K n κ j ≤ 4 → upd ts n y2 j = nI (tc_up S n s j))
    by_cases e : j = n
    · subst e
      rw [tc_ups, tc_ups, tc_ups, pk_us, pk_us, pk_us]
      exact ⟨rfl, hy1, hy2⟩
    · rw [tc_upn e, tc_upn e, tc_upn e, pk_un e, pk_un e, pk_un e]
      have hj : j < n + 1 := hj
      exact hy3 j (show j < n by omega)
section
variable {c : tc_C} {kd fs ss ip : Nat → Int32} {dm ig m0 m1 : Nat → Int64} {cn mo pl de gu my kp : Nat → Int32}
theorem tc_Xn_full {post : Int32 → SX → Prop} {x1 x2 x3 x4 x5 : Int32} (hn : tc_n c = 20) (h : post (-2) (nI (tc_n c), nI (tc_ac c), nI (tc_cc c), kd, fs, ss, ip, dm, ig, m0, m1)) : wX_node_73 post x1 x2 x3 x4 x5 (nI (tc_n c)) (nI (tc_ac c)) (nI (tc_cc c)) kd fs ss ip dm ig (m0) (m1) := br_f (by rw [hn]; decide) h
theorem tc_Xn_ok {post : Int32 → SX → Prop} {x1 x2 x3 : Int32} (b1 b2 : Bool) (hn : tc_n c < 20) (h : post (nI (tc_n c)) (nI (tc_n c + 1), nI (tc_ac c), nI (tc_cc c), upd kd (tc_n c) x1, upd fs (tc_n c) (if b1 then x2 else nI (tc_n c)), upd ss (tc_n c) (if b2 then x3 else nI (tc_n c)), ip, dm, ig, m0, m1)) : wX_node_73 post x1 x2 x3 (tc_i b1) (tc_i b2) (nI (tc_n c)) (nI (tc_ac c)) (nI (tc_cc c)) kd fs ss ip dm ig (m0) (m1) := by
  have ec : (nI (tc_n c)).toNatClampNeg = tc_n c := nI_clamp (by omega)
  have i1 : vp_in (nI (tc_n c)) 20 := vp_in_nI (by omega) (by omega)
  unfold wX_node_73
  rw [ec]
  refine br_t (nI_lt (b := 20) hn (by omega)) ⟨i1, nm_e (tc_br0 (fun z => ?_) (fun z => ?_))⟩
  · subst z
    unfold wX_node_116
    rw [ec]
    refine ⟨i1, nm_e (tc_br0 (fun z => ?_) (fun z => ?_))⟩
    · subst z
      unfold wX_node_134
      rw [ec, nI_1]
      exact ⟨i1, nm_e (nm_e h)⟩
    · subst z
      unfold wX_node_134
      rw [ec, nI_1]
      exact ⟨i1, nm_e (nm_e h)⟩
  · subst z
    unfold wX_node_116
    rw [ec]
    refine ⟨i1, nm_e (tc_br0 (fun z => ?_) (fun z => ?_))⟩
    · subst z
      unfold wX_node_134
      rw [ec, nI_1]
      exact ⟨i1, nm_e (nm_e h)⟩
    · subst z
      unfold wX_node_134
      rw [ec, nI_1]
      exact ⟨i1, nm_e (nm_e h)⟩
theorem tc_Xn_0 {post : Int32 → SX → Prop} {κ : Nat} {p1 p2 : Int32} (h5 : κ = 0 ∨ κ = 5) (h : wX_node_73 post (nI κ) p1 p2 0 0 (nI (tc_n c)) (nI (tc_ac c)) (nI (tc_cc c)) kd fs ss ip dm ig (m0) (m1)) : wpX_node post (nI (tc_n c), nI (tc_ac c), nI (tc_cc c), kd, fs, ss, ip, dm, ig, m0, m1) (nI κ) p1 p2 := by
  rcases h5 with rfl | rfl
  · exact br_f (by decide) (br_t (by decide) (br_t (by decide) (br_t (by decide) (br_t rfl (br_t rfl h)))))
  · exact br_f (by decide) (br_t (by decide) (br_f (by decide) (br_t (by decide) (br_f (by decide) (br_t (by decide) (br_t rfl (br_t rfl h)))))))
theorem tc_Xn_1 {post : Int32 → SX → Prop} {p1 p2 : Int32} (h : wX_node_43 post (nI 1) p1 p2 1 0 (nI (tc_n c)) (nI (tc_ac c)) (nI (tc_cc c)) kd fs ss ip dm ig (m0) (m1)) : wpX_node post (nI (tc_n c), nI (tc_ac c), nI (tc_cc c), kd, fs, ss, ip, dm, ig, m0, m1) (nI 1) p1 p2 := br_f (by decide) (br_t (by decide) (br_f (by decide) (br_f (by decide) (br_t (by decide) h))))
theorem tc_Xn_2 {post : Int32 → SX → Prop} {κ : Nat} {p1 p2 : Int32} (h2 : 2 ≤ κ) (h4 : κ ≤ 4) (h : wX_node_43 post (nI κ) p1 p2 1 1 (nI (tc_n c)) (nI (tc_ac c)) (nI (tc_cc c)) kd fs ss ip dm ig (m0) (m1)) : wpX_node post (nI (tc_n c), nI (tc_ac c), nI (tc_cc c), kd, fs, ss, ip, dm, ig, m0, m1) (nI κ) p1 p2 :=
  br_f (nI_pos (by omega)) (br_t (nI_le (b := 5) (by omega) (by omega)) (br_f (nI_nlt (b := 1) (by omega) (by omega)) (br_f (nI_nlt (a := 4) h4 (by omega)) (br_f (nI_nlt (b := 2) h2 (by omega)) (br_f (nI_nlt (a := 4) h4 (by omega)) h)))))
theorem tc_Yn_full {post : Int32 → SY → Prop} {x1 x2 x3 : Int32} (hn : tc_n c = 20) (h : post (-2) (nI (tc_n c), -1, kd, fs, ss, cn, mo, pl, de, gu, my, kp)) : wY_node_46 post x1 x2 x3 (nI (tc_n c)) (-1) kd fs ss cn mo pl de gu (my) (kp) := br_t (by rw [hn]; rfl) h
theorem tc_Yn_ok {post : Int32 → SY → Prop} {κ : Nat} {x2 x3 : Int32} (hκ : κ ≤ 5) (hn : tc_n c < 20) (h : post (nI (tc_n c)) (nI (tc_n c + 1), -1, upd kd (tc_n c) (nI κ), upd fs (tc_n c) (if κ = 5 then nI (tc_n c) else x2), upd ss (tc_n c) x3, cn, mo, pl, de, gu, my, kp)) : wY_node_46 post (nI κ) x2 x3 (nI (tc_n c)) (-1) kd fs ss cn mo pl de gu (my) (kp) := by
  have ec : (nI (tc_n c)).toNatClampNeg = tc_n c := nI_clamp (by omega)
  have i1 : vp_in (nI (tc_n c)) 20 := vp_in_nI (by omega) (by omega)
  have e1 : nI (tc_n c + 1) - 1 = nI (tc_n c) := nI_pred _
  unfold wY_node_46
  rw [ec]
  refine pk_eq (tc_n c) 20 (fun z => by omega) (fun z => ⟨i1, nm_e (pk_eq κ 5 (fun y => ?_) (fun y => ?_))⟩)
  · unfold wY_node_89
    rw [ec, nI_1]
    refine ⟨i1, nm_e ⟨i1, nm_e (nm_e ?_)⟩⟩
    rw [e1]
    rw [if_pos y] at h
    exact h
  · unfold wY_node_89
    rw [ec, nI_1]
    refine ⟨i1, nm_e ⟨i1, nm_e (nm_e ?_)⟩⟩
    rw [e1]
    rw [if_neg y] at h
    exact h
theorem tc_Yn_0 {post : Int32 → SY → Prop} {κ : Nat} {p1 p2 : Int32} (h5 : κ = 0 ∨ κ = 5) (h : wY_node_46 post (nI κ) p1 p2 (nI (tc_n c)) (-1) kd fs ss cn mo pl de gu (my) (kp)) : wpY_node post (nI (tc_n c), -1, kd, fs, ss, cn, mo, pl, de, gu, my, kp) (nI κ) p1 p2 := by
  rcases h5 with rfl | rfl
  · exact br_f (by decide) (br_f (by decide) (br_t (by decide) (br_t (by decide) h)))
  · exact br_f (by decide) (br_f (by decide) (br_f (by decide) (br_t (by decide) (br_f (by decide) (br_t (by decide) h)))))
theorem tc_Yn_1 {post : Int32 → SY → Prop} {κ : Nat} {p1 p2 : Int32} (h1 : 1 ≤ κ) (h4 : κ ≤ 4) (h : wpY_noNode (fun r => (r = 0 → wY_node_26 post (nI κ) p1 p2 (nI (tc_n c)) (-1) kd fs ss cn mo pl de gu (my) (kp)) ∧ (¬ r = 0 → post (-1) (nI (tc_n c), -1, kd, fs, ss, cn, mo, pl, de, gu, my, kp))) (nI (tc_n c), -1, kd, fs, ss, cn, mo, pl, de, gu, my, kp) p1) : wpY_node post (nI (tc_n c), -1, kd, fs, ss, cn, mo, pl, de, gu, my, kp) (nI κ) p1 p2 :=
  br_f (nI_pos (by omega)) (br_f (nI_nlt (a := 5) (by omega) (by omega)) (br_f (nI_ge (a := 0) h1 (by omega)) (br_f (nI_ge (b := 5) (by omega) (by omega)) h)))
theorem tc_Yn_2 {post : Int32 → SY → Prop} {κ : Nat} {p1 p2 : Int32} (h2 : 2 ≤ κ) (h4 : κ ≤ 4) (h : wpY_noNode (fun r => (r = 0 → wY_node_46 post (nI κ) p1 p2 (nI (tc_n c)) (-1) kd fs ss cn mo pl de gu (my) (kp)) ∧ (¬ r = 0 → post (-1) (nI (tc_n c), -1, kd, fs, ss, cn, mo, pl, de, gu, my, kp))) (nI (tc_n c), -1, kd, fs, ss, cn, mo, pl, de, gu, my, kp) p2) : wY_node_26 post (nI κ) p1 p2 (nI (tc_n c)) (-1) kd fs ss cn mo pl de gu (my) (kp) :=
  br_f (nI_ge (a := 1) h2 (by omega)) (br_f (nI_ge (b := 5) (by omega) (by omega)) h)
end
theorem i_vc_node {k : Nat} {u : SX} {v : SY} (I : i_Rel k u v) (hk : k + 6 ≤ 3072) (v1 : Int32) (v2 : Int32) (v3 : Int32) : wpX_node (fun r u' => wpY_node (fun r' v' => r' = r ∧ i_Rel (k + 6) u' v') v v1 v2 v3) u v1 v2 v3 := by
  have I' := I
  obtain ⟨c, kd, fs, ss, ip, dm, ig, m0, m1, gs, ts, cn, mo, pl, de, gu, my, kp, hw, hx, hy, rfl, rfl⟩ := I
  have h20 : tc_n c ≤ 20 := hw.1
  rcases tc_ix v1 (n := 6) (by omega) with z1 | ⟨κ, hκ, rfl⟩
  · unfold wpX_node wpY_node
    dsimp only
    refine br_c (fun z => br_t z ⟨rfl, I'⟩) (fun z => ?_)
    have z6 := z1.resolve_left z
    have z' : ¬ v1 ≤ 5 := fun y => absurd (Int32.le_trans z6 y) (by decide)
    exact br_f z' (br_f z (br_t (Int32.not_le.mp z') ⟨rfl, I'⟩))
  rcases (by omega : (κ = 0 ∨ κ = 5) ∨ κ = 1 ∨ (2 ≤ κ ∧ κ ≤ 4)) with h5 | rfl | ⟨h2, h4⟩
  · rcases (by omega : tc_n c = 20 ∨ tc_n c < 20) with e | e
    · exact tc_Xn_0 h5 (tc_Xn_full e (tc_Yn_0 h5 (tc_Yn_full e ⟨rfl, I'⟩)))
    · refine tc_Xn_0 h5 (tc_Xn_ok false false e (tc_Yn_0 h5 (tc_Yn_ok (by omega) e ⟨rfl, ?_⟩)))
      exact tc_rel_node hw hx hy e (by omega) (Nat.le_refl _) (Nat.le_refl _) (fun _ => rfl) (fun _ _ => by omega) (fun _ _ => by omega) (fun _ => rfl) (fun z => if_pos (by omega)) (fun _ _ => by omega)
  · rcases tc_ix v2 (n := tc_n c) (by omega) with z2 | ⟨f, hf, rfl⟩
    · exact tc_Xn_1 (br_f (by decide) (tc_XisNode0 z2 (br_t rfl (tc_Yn_1 (by omega) (by omega) (tc_YnoNode1 z2 (br_f (by decide) ⟨rfl, I'⟩))))))
    · rcases (by omega : tc_n c = 20 ∨ tc_n c < 20) with e | e
      · exact tc_Xn_1 (br_f (by decide) (tc_XisNode1 h20 hf (br_f (by decide) (br_t rfl (tc_Xn_full e (tc_Yn_1 (by omega) (by omega) (tc_YnoNode0 h20 hf (br_t rfl (br_t (by decide) (tc_Yn_full e ⟨rfl, I'⟩))))))))))
      · refine tc_Xn_1 (br_f (by decide) (tc_XisNode1 h20 hf (br_f (by decide) (br_t rfl (tc_Xn_ok true false e (tc_Yn_1 (by omega) (by omega) (tc_YnoNode0 h20 hf (br_t rfl (br_t (by decide) (tc_Yn_ok (by omega) e ⟨rfl, ?_⟩))))))))))
        exact tc_rel_node hw hx hy e (by omega) (by omega) (Nat.le_refl _) (fun _ => by omega) (fun _ _ => hf) (fun _ _ => by omega) (fun _ => rfl) (fun z => if_neg (by omega)) (fun _ _ => by omega)
  · rcases tc_ix v2 (n := tc_n c) (by omega) with z2 | ⟨f, hf, rfl⟩
    · exact tc_Xn_2 h2 h4 (br_f (by decide) (tc_XisNode0 z2 (br_t rfl (tc_Yn_1 (by omega) (by omega) (tc_YnoNode1 z2 (br_f (by decide) ⟨rfl, I'⟩))))))
    · rcases tc_ix v3 (n := tc_n c) (by omega) with z3 | ⟨s, hs, rfl⟩
      · exact tc_Xn_2 h2 h4 (br_f (by decide) (tc_XisNode1 h20 hf (br_f (by decide) (br_f (by decide) (tc_XisNode0 z3 (br_t rfl (tc_Yn_1 (by omega) (by omega) (tc_YnoNode0 h20 hf (br_t rfl (tc_Yn_2 h2 h4 (tc_YnoNode1 z3 (br_f (by decide) ⟨rfl, I'⟩))))))))))))
      · rcases (by omega : tc_n c = 20 ∨ tc_n c < 20) with e | e
        · exact tc_Xn_2 h2 h4 (br_f (by decide) (tc_XisNode1 h20 hf (br_f (by decide) (br_f (by decide) (tc_XisNode1 h20 hs (br_f (by decide) (tc_Xn_full e (tc_Yn_1 (by omega) (by omega) (tc_YnoNode0 h20 hf (br_t rfl (tc_Yn_2 h2 h4 (tc_YnoNode0 h20 hs (br_t rfl (tc_Yn_full e ⟨rfl, I'⟩))))))))))))))
        · refine tc_Xn_2 h2 h4 (br_f (by decide) (tc_XisNode1 h20 hf (br_f (by decide) (br_f (by decide) (tc_XisNode1 h20 hs (br_f (by decide) (tc_Xn_ok true true e (tc_Yn_1 (by omega) (by omega) (tc_YnoNode0 h20 hf (br_t rfl (tc_Yn_2 h2 h4 (tc_YnoNode0 h20 hs (br_t rfl (tc_Yn_ok (by omega) e ⟨rfl, ?_⟩))))))))))))))
          exact tc_rel_node hw hx hy e (by omega) (by omega) (by omega) (fun _ => by omega) (fun _ _ => hf) (fun _ _ => hs) (fun _ => by omega) (fun z => if_neg (by omega)) (fun _ _ => rfl)
end
section
/-! ===== items ===== -/
theorem tc_rel_item {c : tc_C} {kd fs ss ip : Nat → Int32} {dm ig m0 m1 : Nat → Int64} {gs ts cn cm mo pl de gu my kp : Nat → Int32} (hw : tc_wf c) (hx : tc_RX c kd fs ss ip dm ig) (hy : tc_RY c kd gs ts cn mo pl de gu) {p t j d g ac' cc' : Nat} {r1 r2 : Int64} (ht : t < 4) (hj : j < tc_n c) (hd : d < 14) (hg : g < 14) (hr1 : ∀ a, a < 64 → tc_lb r1 a = tc_lit d a) (hr2 : ∀ a, a < 64 → tc_lb r2 a = tc_lit g a) (ha' : ac' ≤ 12) (hc' : cc' ≤ 12) (hU : ∀ s, (s < ac' ∨ (12 ≤ s ∧ s < 12 + cc')) → s ≠ p → tc_used c s) (h0 : cm 0 = nI ac') (h1 : cm 1 = nI cc') :
    tc_Rel (nI (tc_n c), nI ac', nI cc', kd, fs, ss, upd ip p (nI (20 * t + j)), vp_updL dm p r1, vp_updL ig p r2, m0, m1) (nI (tc_n c), -1, kd, gs, ts, cm, upd mo p (nI t), upd pl p (nI j), upd de p (nI d), upd gu p (nI g), my, kp) := by
  rcases c with ⟨n, ac, cc, K, F, S, T, Q, D, G⟩
  obtain ⟨h20, hac, hcc, hN, hI⟩ := hw
  obtain ⟨hx1, hx2⟩ := hx
  obtain ⟨b1, b2, hy3, hy4⟩ := hy
  refine ⟨(n, ac', cc', K, F, S, tc_up T p t, tc_up Q p j, tc_up D p d, tc_up G p g), kd, fs, ss, upd ip p (nI (20 * t + j)), vp_updL dm p r1, vp_updL ig p r2, m0, m1, gs, ts, cm, upd mo p (nI t), upd pl p (nI j), upd de p (nI d), upd gu p (nI g), my, kp, ⟨h20, ha', hc', hN, fun s hs => ?_⟩, ⟨hx1, fun s hs => ?_⟩, ⟨h0, h1, hy3, fun s hs => ?_⟩, rfl, rfl⟩
  · show tc_up T p t s < 4 ∧ tc_up Q p j s < n ∧ tc_up D p d s < 14 ∧ tc_up G p g s < 14
    by_cases e : s = p
    · subst e
      rw [tc_ups, tc_ups, tc_ups, tc_ups]
      exact ⟨ht, hj, hd, hg⟩
    · rw [tc_upn e, tc_upn e, tc_upn e, tc_upn e]
      exact hI s (hU s hs e)
  · show upd ip p (nI (20 * t + j)) s = nI (20 * tc_up T p t s + tc_up Q p j s) ∧ ∀ a, a < 64 → tc_lb (vp_updL dm p r1 s) a = tc_lit (tc_up D p d s) a ∧ tc_lb (vp_updL ig p r2 s) a = tc_lit (tc_up G p g s) a
    by_cases e : s = p
    · subst e
      rw [tc_ups, tc_ups, tc_ups, tc_ups, pk_us, pk_uLs, pk_uLs]
      exact ⟨rfl, fun a ha => ⟨hr1 a ha, hr2 a ha⟩⟩
    · rw [tc_upn e, tc_upn e, tc_upn e, tc_upn e, pk_un e, pk_uLn e, pk_uLn e]
      exact hx2 s (hU s hs e)
  · show upd mo p (nI t) s = nI (tc_up T p t s) ∧ upd pl p (nI j) s = nI (tc_up Q p j s) ∧ upd de p (nI d) s = nI (tc_up D p d s) ∧ upd gu p (nI g) s = nI (tc_up G p g s)
    by_cases e : s = p
    · subst e
      rw [tc_ups, tc_ups, tc_ups, tc_ups, pk_us, pk_us, pk_us, pk_us]
      exact ⟨rfl, rfl, rfl, rfl⟩
    · rw [tc_upn e, tc_upn e, tc_upn e, tc_upn e, pk_un e, pk_un e, pk_un e, pk_un e]
      exact hy4 s (hU s hs e)
section
variable {c : tc_C} {kd fs ss ip : Nat → Int32} {dm ig m0 m1 : Nat → Int64} {cn mo pl de gu my kp : Nat → Int32}
theorem tc_Xitem0 {post : Int32 → SX → Prop} {t j d g : Nat} (h20 : tc_n c ≤ 20) (hq : tc_ac c < 12) (ht : t < 4) (hj : j < tc_n c) (hd : d < 14) (hg : g < 14) (h : ∀ r1 r2, (∀ a, a < 64 → tc_lb r1 a = tc_lit d a) → (∀ a, a < 64 → tc_lb r2 a = tc_lit g a) → post (nI (tc_ac c)) (nI (tc_n c), nI (tc_ac c + 1), nI (tc_cc c), kd, fs, ss, upd ip (tc_ac c) (nI (20 * t + j)), vp_updL dm (tc_ac c) r1, vp_updL ig (tc_ac c) r2, m0, m1)) : wpX_item post (nI (tc_n c), nI (tc_ac c), nI (tc_cc c), kd, fs, ss, ip, dm, ig, m0, m1) 0 (nI t) (nI j) (nI d) (nI g) := by
  have ec : (nI (tc_ac c)).toNatClampNeg = tc_ac c := nI_clamp (by omega)
  have i1 : vp_in (nI (tc_ac c)) 24 := vp_in_nI (by omega) (by omega)
  unfold wpX_item
  dsimp only
  refine tc_XisMoment1 ht (br_f (by decide) (tc_XisNode1 h20 hj (br_f (by decide) (tc_XisLiteral1 hd (br_f (by decide) (tc_XisLiteral1 hg (br_f (by decide) (br_t rfl (br_t (nI_lt (b := 12) hq (by omega)) (br_t rfl (nm_r (Int32.zero_add _) ?_)))))))))))
  unfold wpX_placeOf
  rw [tc_pX]
  dsimp only
  rw [ec]
  refine ⟨i1, nm_e (tc_Xliteral hd (fun r1 h1 => ⟨i1, nm_e (tc_Xliteral hg (fun r2 h2 => ⟨i1, nm_e (br_t rfl ?_)⟩))⟩))⟩
  rw [nI_1]
  exact h r1 r2 h1 h2
theorem tc_Xitem1 {post : Int32 → SX → Prop} {v1 : Int32} {t j d g : Nat} (hv : ¬ v1 = 0) (h20 : tc_n c ≤ 20) (hq : tc_cc c < 12) (ht : t < 4) (hj : j < tc_n c) (hd : d < 14) (hg : g < 14) (h : ∀ r1 r2, (∀ a, a < 64 → tc_lb r1 a = tc_lit d a) → (∀ a, a < 64 → tc_lb r2 a = tc_lit g a) → post (nI (tc_cc c)) (nI (tc_n c), nI (tc_ac c), nI (tc_cc c + 1), kd, fs, ss, upd ip (12 + tc_cc c) (nI (20 * t + j)), vp_updL dm (12 + tc_cc c) r1, vp_updL ig (12 + tc_cc c) r2, m0, m1)) : wpX_item post (nI (tc_n c), nI (tc_ac c), nI (tc_cc c), kd, fs, ss, ip, dm, ig, m0, m1) v1 (nI t) (nI j) (nI d) (nI g) := by
  have ec : (nI (12 + tc_cc c)).toNatClampNeg = 12 + tc_cc c := nI_clamp (by omega)
  have i1 : vp_in (nI (12 + tc_cc c)) 24 := vp_in_nI (by omega) (by omega)
  unfold wpX_item
  dsimp only
  refine tc_XisMoment1 ht (br_f (by decide) (tc_XisNode1 h20 hj (br_f (by decide) (tc_XisLiteral1 hd (br_f (by decide) (tc_XisLiteral1 hg (br_f (by decide) (br_f hv (br_t (nI_lt (b := 12) hq (by omega)) (br_f hv (nm_r (nI_add 12 (tc_cc c)) ?_)))))))))))
  unfold wpX_placeOf
  rw [tc_pX]
  dsimp only
  rw [ec]
  refine ⟨i1, nm_e (tc_Xliteral hd (fun r1 h1 => ⟨i1, nm_e (tc_Xliteral hg (fun r2 h2 => ⟨i1, nm_e (br_f hv ?_)⟩))⟩))⟩
  rw [nI_1]
  exact h r1 r2 h1 h2
theorem tc_Yi_full {post : Int32 → SY → Prop} {x2 x3 x4 x5 : Int32} {σ : Nat} (hσ : σ < 2) (hc : cn σ = nI 12) (h : post (-2) (nI (tc_n c), -1, kd, fs, ss, cn, mo, pl, de, gu, my, kp)) : wY_item_45 post x2 x3 x4 x5 (nI σ) (nI (tc_n c)) (-1) kd fs ss cn mo pl de gu (my) (kp) := by
  have es : (nI σ).toNatClampNeg = σ := nI_clamp (by omega)
  have i0 : vp_in (nI σ) 2 := vp_in_nI hσ (by omega)
  unfold wY_item_45
  rw [es, hc]
  exact ⟨i0, br_t rfl h⟩
theorem tc_Yi_ok {post : Int32 → SY → Prop} {x2 x3 x4 x5 : Int32} {σ q : Nat} (hσ : σ < 2) (hc : cn σ = nI q) (hq : q < 12) (h : post (nI q) (nI (tc_n c), -1, kd, fs, ss, upd cn σ (nI (q + 1)), upd mo (12 * σ + q) x2, upd pl (12 * σ + q) x3, upd de (12 * σ + q) x4, upd gu (12 * σ + q) x5, my, kp)) : wY_item_45 post x2 x3 x4 x5 (nI σ) (nI (tc_n c)) (-1) kd fs ss cn mo pl de gu (my) (kp) := by
  have es : (nI σ).toNatClampNeg = σ := nI_clamp (by omega)
  have i0 : vp_in (nI σ) 2 := vp_in_nI hσ (by omega)
  have ep : 12 * nI σ + nI q = nI (12 * σ + q) := by
    rw [show (12 : Int32) = nI 12 from rfl, pk_mul, nI_add]
  have ec : (nI (12 * σ + q)).toNatClampNeg = 12 * σ + q := nI_clamp (by omega)
  have i1 : vp_in (nI (12 * σ + q)) 24 := vp_in_nI (by omega) (by omega)
  unfold wY_item_45
  rw [es, hc, ep, nI_1]
  refine ⟨i0, br_f (fun z => ?_) ⟨i0, nm_e ?_⟩⟩
  · have := (nI_eq (b := 12) (by omega) (by omega)).mp z
    omega
  · rw [ec]
    refine ⟨i1, nm_e ⟨i1, nm_e ⟨i1, nm_e ⟨i1, nm_e ⟨i0, i0, nm_e ⟨i0, ?_⟩⟩⟩⟩⟩⟩
    rw [pk_us, nI_pred]
    exact h
end
theorem i_vc_item {k : Nat} {u : SX} {v : SY} (I : i_Rel k u v) (hk : k + 6 ≤ 3072) (v1 : Int32) (v2 : Int32) (v3 : Int32) (v4 : Int32) (v5 : Int32) : wpX_item (fun r u' => wpY_item (fun r' v' => r' = r ∧ i_Rel (k + 6) u' v') v v1 v2 v3 v4 v5) u v1 v2 v3 v4 v5 := by
  have I' := I
  obtain ⟨c, kd, fs, ss, ip, dm, ig, m0, m1, gs, ts, cn, mo, pl, de, gu, my, kp, hw, hx, hy, rfl, rfl⟩ := I
  have h20 : tc_n c ≤ 20 := hw.1
  have hac : tc_ac c ≤ 12 := hw.2.1
  have hcc : tc_cc c ≤ 12 := hw.2.2.1
  rcases tc_ix v2 (n := 4) (by omega) with z2 | ⟨t, ht, rfl⟩
  · unfold wpX_item wpY_item
    dsimp only
    exact tc_XisMoment0 z2 (br_t rfl (tc_YnoMoment1 z2 (br_f (by decide) ⟨rfl, I'⟩)))
  rcases tc_ix v3 (n := tc_n c) (by omega) with z3 | ⟨j, hj, rfl⟩
  · unfold wpX_item wpY_item
    dsimp only
    exact tc_XisMoment1 ht (br_f (by decide) (tc_XisNode0 z3 (br_t rfl (tc_YnoMoment0 ht (br_t rfl (tc_YnoNode1 z3 (br_f (by decide) ⟨rfl, I'⟩)))))))
  rcases tc_ix v4 (n := 14) (by omega) with z4 | ⟨d, hd, rfl⟩
  · unfold wpX_item wpY_item
    dsimp only
    exact tc_XisMoment1 ht (br_f (by decide) (tc_XisNode1 h20 hj (br_f (by decide) (tc_XisLiteral0 z4 (br_t rfl (tc_YnoMoment0 ht (br_t rfl (tc_YnoNode0 h20 hj (br_t rfl (tc_YnoLiteral1 z4 (br_f (by decide) ⟨rfl, I'⟩)))))))))))
  rcases tc_ix v5 (n := 14) (by omega) with z5 | ⟨g, hg, rfl⟩
  · unfold wpX_item wpY_item
    dsimp only
    exact tc_XisMoment1 ht (br_f (by decide) (tc_XisNode1 h20 hj (br_f (by decide) (tc_XisLiteral1 hd (br_f (by decide) (tc_XisLiteral0 z5 (br_t rfl (tc_YnoMoment0 ht (br_t rfl (tc_YnoNode0 h20 hj (br_t rfl (tc_YnoLiteral0 hd (br_t rfl (tc_YnoLiteral1 z5 (br_f (by decide) ⟨rfl, I'⟩)))))))))))))))
  have Y : ∀ {post : Int32 → SY → Prop}, ((v1 = 0 → wY_item_45 post (nI t) (nI j) (nI d) (nI g) 0 (nI (tc_n c)) (-1) kd gs ts cn mo pl de gu my kp) ∧ (¬ v1 = 0 → wY_item_45 post (nI t) (nI j) (nI d) (nI g) 1 (nI (tc_n c)) (-1) kd gs ts cn mo pl de gu my kp)) → wpY_item post (nI (tc_n c), -1, kd, gs, ts, cn, mo, pl, de, gu, my, kp) v1 (nI t) (nI j) (nI d) (nI g) := by
    intro post H
    unfold wpY_item
    dsimp only
    exact tc_YnoMoment0 ht (br_t rfl (tc_YnoNode0 h20 hj (br_t rfl (tc_YnoLiteral0 hd (br_t rfl (tc_YnoLiteral0 hg (br_t rfl H)))))))
  by_cases z1 : v1 = 0
  · subst z1
    rcases (by omega : tc_ac c = 12 ∨ tc_ac c < 12) with e | e
    · have hc : cn 0 = nI 12 := by rw [hy.1, e]
      unfold wpX_item
      dsimp only
      exact tc_XisMoment1 ht (br_f (by decide) (tc_XisNode1 h20 hj (br_f (by decide) (tc_XisLiteral1 hd (br_f (by decide) (tc_XisLiteral1 hg (br_f (by decide) (br_t rfl (br_f (by rw [e]; decide) (Y (br_t rfl (tc_Yi_full (σ := 0) (by omega) hc ⟨rfl, I'⟩))))))))))))
    · refine tc_Xitem0 h20 e ht hj hd hg (fun r1 r2 h1 h2 => Y (br_t rfl (tc_Yi_ok (σ := 0) (by omega) hy.1 e ⟨rfl, ?_⟩)))
      rw [show 12 * 0 + tc_ac c = tc_ac c by omega]
      exact tc_rel_item hw hx hy ht hj hd hg h1 h2 (by omega) hcc (fun s hs hn => by unfold tc_used; omega) pk_us (by rw [pk_un (by omega)]; exact hy.2.1)
  · rcases (by omega : tc_cc c = 12 ∨ tc_cc c < 12) with e | e
    · have hc : cn 1 = nI 12 := by rw [hy.2.1, e]
      unfold wpX_item
      dsimp only
      exact tc_XisMoment1 ht (br_f (by decide) (tc_XisNode1 h20 hj (br_f (by decide) (tc_XisLiteral1 hd (br_f (by decide) (tc_XisLiteral1 hg (br_f (by decide) (br_f z1 (br_f (by rw [e]; decide) (Y (br_f z1 (tc_Yi_full (σ := 1) (by omega) hc ⟨rfl, I'⟩))))))))))))
    · refine tc_Xitem1 z1 h20 e ht hj hd hg (fun r1 r2 h1 h2 => Y (br_f z1 (tc_Yi_ok (σ := 1) (by omega) hy.2.1 e ⟨rfl, ?_⟩)))
      rw [show 12 * 1 + tc_cc c = 12 + tc_cc c by omega]
      exact tc_rel_item hw hx hy ht hj hd hg h1 h2 hac (by omega) (fun s hs hn => by unfold tc_used; omega) (by rw [pk_un (by omega)]; exact hy.1) pk_us
/-! ===== drop ===== -/
def tc_sx (lo hi s : Nat) : Nat := if lo ≤ s ∧ s < hi then s + 1 else s
theorem tc_sx0 {α : Type} (f : Nat → α) (lo : Nat) : (fun s => f (tc_sx lo lo s)) = f := by
  funext s
  unfold tc_sx
  rw [if_neg (by omega)]
theorem tc_sxs {α : Type} (f : Nat → α) {lo i : Nat} (h : lo ≤ i) : (fun s => if s = i then f (tc_sx lo i (i + 1)) else f (tc_sx lo i s)) = fun s => f (tc_sx lo (i + 1) s) := by
  funext s
  unfold tc_sx
  by_cases e : s = i
  · rw [if_pos e, if_neg (by omega), if_pos (by omega), e]
  · rw [if_neg e]
    by_cases z : lo ≤ s ∧ s < i
    · rw [if_pos z, if_pos (by omega)]
    · rw [if_neg z, if_neg (by omega)]
theorem tc_rel_shift {c : tc_C} {kd fs ss ip : Nat → Int32} {dm ig m0 m1 : Nat → Int64} {gs ts cn cm mo pl de gu my kp : Nat → Int32} (hw : tc_wf c) (hx : tc_RX c kd fs ss ip dm ig) (hy : tc_RY c kd gs ts cn mo pl de gu) {lo hi ac' cc' : Nat} (ha' : ac' ≤ 12) (hc' : cc' ≤ 12) (hU : ∀ s, (s < ac' ∨ (12 ≤ s ∧ s < 12 + cc')) → tc_used c (tc_sx lo hi s)) (h0 : cm 0 = nI ac') (h1 : cm 1 = nI cc') :
    tc_Rel (nI (tc_n c), nI ac', nI cc', kd, fs, ss, (fun s => ip (tc_sx lo hi s)), (fun s => dm (tc_sx lo hi s)), (fun s => ig (tc_sx lo hi s)), m0, m1) (nI (tc_n c), -1, kd, gs, ts, cm, (fun s => mo (tc_sx lo hi s)), (fun s => pl (tc_sx lo hi s)), (fun s => de (tc_sx lo hi s)), (fun s => gu (tc_sx lo hi s)), my, kp) := by
  rcases c with ⟨n, ac, cc, K, F, S, T, Q, D, G⟩
  obtain ⟨h20, hac, hcc, hN, hI⟩ := hw
  obtain ⟨hx1, hx2⟩ := hx
  obtain ⟨b1, b2, hy3, hy4⟩ := hy
  exact ⟨(n, ac', cc', K, F, S, fun s => T (tc_sx lo hi s), fun s => Q (tc_sx lo hi s), fun s => D (tc_sx lo hi s), fun s => G (tc_sx lo hi s)), kd, fs, ss, _, _, _, m0, m1, gs, ts, cm, _, _, _, _, my, kp, ⟨h20, ha', hc', hN, fun s hs => hI _ (hU s hs)⟩, ⟨hx1, fun s hs => hx2 _ (hU s hs)⟩, ⟨h0, h1, hy3, fun s hs => hy4 _ (hU s hs)⟩, rfl, rfl⟩
section
variable {c : tc_C} {kd fs ss ip : Nat → Int32} {dm ig m0 m1 : Nat → Int64} {cn mo pl de gu my kp : Nat → Int32}
theorem tc_Xdrop38 {post : Int32 → SX → Prop} {v1 x3 : Int32} {lo hi : Nat} (hl : lo ≤ hi) (hh : hi < 24) (h : wpX_setItemCount (fun u => match u with | (a1, a2, a3, a4, a5, a6, a7, a8, a9, a10, a11) => post (x3 - 1) (a1, a2, a3, a4, a5, a6, a7, a8, a9, a10, a11)) (nI (tc_n c), nI (tc_ac c), nI (tc_cc c), kd, fs, ss, (fun s => ip (tc_sx lo hi s)), (fun s => dm (tc_sx lo hi s)), (fun s => ig (tc_sx lo hi s)), m0, m1) v1 (x3 - 1)) : ∃ n, wX_drop_38 post v1 x3 (nI hi) (nI (tc_n c)) (nI (tc_ac c)) (nI (tc_cc c)) n (nI lo) kd fs ss ip dm ig m0 m1 := by
  have H := pk_loop (fun n i (_ : Unit) => wX_drop_38 post v1 x3 (nI hi) (nI (tc_n c)) (nI (tc_ac c)) (nI (tc_cc c)) n (nI i) kd fs ss (fun s => ip (tc_sx lo i s)) (fun s => dm (tc_sx lo i s)) (fun s => ig (tc_sx lo i s)) m0 m1) (fun i _ => lo ≤ i) hi lo () hl (Nat.le_refl _) ?_ ?_
  · rw [tc_sx0, tc_sx0, tc_sx0] at H
    exact H
  · intro n s _
    exact br_t (nI_le (Nat.le_refl _) (by omega)) h
  · intro n i s hi' hlo ih
    have ec : (nI i).toNatClampNeg = i := nI_clamp (by omega)
    have ed : (nI (i + 1)).toNatClampNeg = i + 1 := nI_clamp (by omega)
    have i1 : vp_in (nI i) 24 := vp_in_nI (by omega) (by omega)
    have i2 : vp_in (nI (i + 1)) 24 := vp_in_nI (by omega) (by omega)
    unfold wX_drop_38
    rw [nI_1, ec, ed]
    refine br_f (nI_ge hi' (by omega)) ⟨i2, i1, nm_r (tc_sxs ip hlo) ⟨i2, i1, nm_r (tc_sxs dm hlo) ⟨i2, i1, nm_r (tc_sxs ig hlo) (nm_e ?_)⟩⟩⟩
    exact ih () (by omega)
theorem tc_Ydrop9 {post : Int32 → SY → Prop} {σ q k : Nat} (hσ : σ < 2) (hc : cn σ = nI q) (hq : q ≤ 12) (hk : k < q) (h : post (nI (q - 1)) (nI (tc_n c), -1, kd, fs, ss, upd cn σ (nI (q - 1)), (fun s => mo (tc_sx (12 * σ + k) (12 * σ + (q - 1)) s)), (fun s => pl (tc_sx (12 * σ + k) (12 * σ + (q - 1)) s)), (fun s => de (tc_sx (12 * σ + k) (12 * σ + (q - 1)) s)), (fun s => gu (tc_sx (12 * σ + k) (12 * σ + (q - 1)) s)), my, kp)) : wY_drop_9 post (nI k) (nI σ) (nI (tc_n c)) (-1) kd fs ss cn mo pl de gu (my) (kp) := by
  have es : (nI σ).toNatClampNeg = σ := nI_clamp (by omega)
  have i0 : vp_in (nI σ) 2 := vp_in_nI hσ (by omega)
  have ep : ∀ m : Nat, 12 * nI σ + nI m = nI (12 * σ + m) := fun m => by
    rw [show (12 : Int32) = nI 12 from rfl, pk_mul, nI_add]
  have eq1 : nI q - 1 = nI (q - 1) := pk_sub (b := 1) (by omega)
  unfold wY_drop_9
  rw [es, hc, eq1, ep]
  refine br_f (nI_pos (by omega)) ⟨i0, br_t (nI_lt hk (by omega)) ⟨i0, i0, nm_e (nm_e ?_)⟩⟩
  revert h
  generalize hcm : upd cn σ (nI (q - 1)) = cm
  have hcm' : cm σ = nI (q - 1) := by rw [← hcm]; exact pk_us
  intro h
  have H := pk_loop (fun n i (_ : Unit) => wY_drop_45 post (nI σ) (nI (tc_n c)) (-1) n (nI i) kd fs ss cm (fun s => mo (tc_sx (12 * σ + k) i s)) (fun s => pl (tc_sx (12 * σ + k) i s)) (fun s => de (tc_sx (12 * σ + k) i s)) (fun s => gu (tc_sx (12 * σ + k) i s)) my kp) (fun i _ => 12 * σ + k ≤ i) (12 * σ + (q - 1)) (12 * σ + k) () (by omega) (Nat.le_refl _) ?_ ?_
  · rw [tc_sx0, tc_sx0, tc_sx0, tc_sx0] at H
    exact H
  · intro n s _
    unfold wY_drop_45
    rw [es, hcm', ep]
    exact ⟨i0, br_t (nI_le (Nat.le_refl _) (by omega)) ⟨i0, h⟩⟩
  · intro n i s hi' hlo ih
    have ec : (nI i).toNatClampNeg = i := nI_clamp (by omega)
    have ed : (nI (i + 1)).toNatClampNeg = i + 1 := nI_clamp (by omega)
    have i1 : vp_in (nI i) 24 := vp_in_nI (by omega) (by omega)
    have i2 : vp_in (nI (i + 1)) 24 := vp_in_nI (by omega) (by omega)
    unfold wY_drop_45
    rw [es, hcm', ep, nI_1, ec, ed]
    refine ⟨i0, br_f (nI_ge hi' (by omega)) ⟨i2, i1, nm_r (tc_sxs mo hlo) ⟨i2, i1, nm_r (tc_sxs pl hlo) ⟨i2, i1, nm_r (tc_sxs de hlo) ⟨i2, i1, nm_r (tc_sxs gu hlo) (nm_e ?_)⟩⟩⟩⟩⟩
    exact ih () (by omega)
end
theorem tc_Ydrop_none {post : Int32 → SY → Prop} {x : Int32} {σ q : Nat} {c : tc_C} {kd fs ss cn mo pl de gu my kp : Nat → Int32} (hσ : σ < 2) (hc : cn σ = nI q) (hx : x < 0 ∨ nI q ≤ x) (h : post (-4) (nI (tc_n c), -1, kd, fs, ss, cn, mo, pl, de, gu, my, kp)) : wY_drop_9 post x (nI σ) (nI (tc_n c)) (-1) kd fs ss cn mo pl de gu (my) (kp) := by
  have es : (nI σ).toNatClampNeg = σ := nI_clamp (by omega)
  have i0 : vp_in (nI σ) 2 := vp_in_nI hσ (by omega)
  unfold wY_drop_9
  rw [es, hc]
  exact br_c (fun _ => h) (fun z => ⟨i0, br_f (Int32.not_lt.mpr (hx.resolve_left z)) h⟩)
theorem i_vc_drop {k : Nat} {u : SX} {v : SY} (I : i_Rel k u v) (hk : k + 6 ≤ 3072) (v1 : Int32) (v2 : Int32) : wpX_drop (fun r u' => wpY_drop (fun r' v' => r' = r ∧ i_Rel (k + 6) u' v') v v1 v2) u v1 v2 := by
  have I' := I
  obtain ⟨c, kd, fs, ss, ip, dm, ig, m0, m1, gs, ts, cn, mo, pl, de, gu, my, kp, hw, hx, hy, rfl, rfl⟩ := I
  have h20 : tc_n c ≤ 20 := hw.1
  have hac : tc_ac c ≤ 12 := hw.2.1
  have hcc : tc_cc c ≤ 12 := hw.2.2.1
  unfold wpX_drop wpY_drop
  dsimp only
  by_cases z1 : v1 = 0
  · subst z1
    refine br_t rfl ?_
    rcases tc_ix v2 (n := tc_ac c) (by omega) with z2 | ⟨q, hq, rfl⟩
    · exact br_c (fun _ => br_t rfl (tc_Ydrop_none (σ := 0) (by omega) hy.1 z2 ⟨rfl, I'⟩)) (fun z => br_f (Int32.not_lt.mpr (z2.resolve_left z)) (br_t rfl (tc_Ydrop_none (σ := 0) (by omega) hy.1 z2 ⟨rfl, I'⟩)))
    · have e1 : 0 + nI (tc_ac c) - 1 = nI (tc_ac c - 1) := by rw [Int32.zero_add]; exact pk_sub (b := 1) (by omega)
      have e2 : nI (tc_ac c) - 1 = nI (tc_ac c - 1) := pk_sub (b := 1) (by omega)
      refine br_f (nI_pos (by omega)) (br_t (nI_lt hq (by omega)) (br_t rfl (nm_r e1 (nm_r (Int32.zero_add _) (tc_Xdrop38 (by omega) (by omega) (br_t rfl (br_t rfl ?_)))))))
      rw [e2]
      refine tc_Ydrop9 (σ := 0) (by omega) hy.1 hac hq ⟨rfl, ?_⟩
      rw [show 12 * 0 + q = q by omega, show 12 * 0 + (tc_ac c - 1) = tc_ac c - 1 by omega]
      refine tc_rel_shift hw hx hy (by omega) hcc (fun s hs => ?_) pk_us (by rw [pk_un (by omega)]; exact hy.2.1)
      unfold tc_used tc_sx
      split <;> omega
  · refine br_f z1 ?_
    rcases tc_ix v2 (n := tc_cc c) (by omega) with z2 | ⟨q, hq, rfl⟩
    · exact br_c (fun _ => br_f z1 (tc_Ydrop_none (σ := 1) (by omega) hy.2.1 z2 ⟨rfl, I'⟩)) (fun z => br_f (Int32.not_lt.mpr (z2.resolve_left z)) (br_f z1 (tc_Ydrop_none (σ := 1) (by omega) hy.2.1 z2 ⟨rfl, I'⟩)))
    · have e1 : 12 + nI (tc_cc c) - 1 = nI (12 + (tc_cc c - 1)) := by
        rw [show (12 : Int32) + nI (tc_cc c) = nI (12 + tc_cc c) from nI_add 12 _, show 12 + (tc_cc c - 1) = 12 + tc_cc c - 1 by omega]
        exact pk_sub (b := 1) (by omega)
      have e2 : nI (tc_cc c) - 1 = nI (tc_cc c - 1) := pk_sub (b := 1) (by omega)
      refine br_f (nI_pos (by omega)) (br_t (nI_lt hq (by omega)) (br_f z1 (nm_r e1 (nm_r (nI_add 12 q) (tc_Xdrop38 (by omega) (by omega) (br_f z1 (br_f z1 ?_)))))))
      rw [e2]
      refine tc_Ydrop9 (σ := 1) (by omega) hy.2.1 hcc hq ⟨rfl, ?_⟩
      rw [show 12 * 1 + q = 12 + q by omega, show 12 * 1 + (tc_cc c - 1) = 12 + (tc_cc c - 1) by omega]
      refine tc_rel_shift hw hx hy hac (by omega) (fun s hs => ?_) (by rw [pk_un (by omega)]; exact hy.1) pk_us
      unfold tc_used tc_sx
      split <;> omega
end
section
/-! ===== cone: both sides against the least closed set ===== -/
def tc_bit (i : Nat) : Int32 := (1 : Int32) <<< (nI i &&& 31)
theorem tc_bit_bt {i q : Nat} (hi : i < 32) (hq : q < 32) : bt (tc_bit i) q = decide (i = q) := by
  unfold bt tc_bit
  rw [nf_sh i hi, BitVec.getLsbD_twoPow]
  simp [hi]
theorem tc_bt1 : ∀ i, i < 32 → bt 1 i = decide (i = 0) := by decide +kernel
theorem tc_and1 (y : Int32) : y &&& 1 = tc_i (bt y 0) := by
  apply b_ext
  intro i hi
  rw [b_and, tc_bt1 i hi]
  by_cases e : i = 0
  · subst e
    cases bt y 0
    · rw [Bool.false_and]; exact (b_0 0).symm
    · rfl
  · rw [decide_eq_false e, Bool.and_false]
    cases bt y 0
    · exact (b_0 i).symm
    · show false = bt 1 i
      rw [tc_bt1 i hi, decide_eq_false e]
theorem tc_Xt {A B : Prop} {x : Int32} {j : Nat} (hj : j < 32) (f : bt x j = false → A) (g : bt x j = true → B) : (((x.toUInt32 >>> ((nI j).toUInt32 &&& Int32.toUInt32 31)).toInt32 &&& 1) = 0 → A) ∧ (¬ ((x.toUInt32 >>> ((nI j).toUInt32 &&& Int32.toUInt32 31)).toInt32 &&& 1) = 0 → B) := by
  rw [tc_and1, b_ushr j hj]
  exact tc_br0 f g
theorem tc_Yt {A B : Prop} {x : Int32} {j : Nat} (hj : j < 32) (g : bt x j = true → A) (f : bt x j = false → B) : (((x >>> (nI j &&& 31)) &&& 1) = 1 → A) ∧ (¬ ((x >>> (nI j &&& 31)) &&& 1) = 1 → B) := by
  rw [tc_and1, b_sshr j hj x (by omega), if_pos (by omega)]
  exact tc_br1 g f
def tc_sub (s p : Int32) : Prop := ∀ q, q < 32 → bt s q = true → bt p q = true
theorem tc_sub_eq {s p : Int32} (h : tc_sub s p) (h' : tc_sub p s) : s = p := by
  apply b_ext
  intro i hi
  have a := h i hi
  have b := h' i hi
  cases e : bt s i
  · cases e' : bt p i
    · rfl
    · rw [b e'] at e; exact absurd e (by decide)
  · exact (a e).symm
def tc_ad (s : Int32) (j i : Nat) : Int32 := if bt s j then s ||| tc_bit i else s
theorem tc_ad_mono (s : Int32) (j i : Nat) : tc_sub s (tc_ad s j i) := by
  intro q hq h
  unfold tc_ad
  split
  · rw [b_or, h]; rfl
  · exact h
theorem tc_ad_has {s : Int32} {j i : Nat} (hi : i < 32) (h : bt s j = true) : bt (tc_ad s j i) i = true := by
  unfold tc_ad
  rw [if_pos h, b_or, tc_bit_bt hi hi, decide_eq_true rfl, Bool.or_true]
theorem tc_ad_sup {s p : Int32} {j i : Nat} (hi : i < 32) (h : tc_sub s p) (hj : bt s j = true → bt p i = true) : tc_sub (tc_ad s j i) p := by
  intro q hq z
  unfold tc_ad at z
  split at z
  · rename_i y
    rw [b_or, tc_bit_bt hi hq] at z
    by_cases e : i = q
    · subst e
      exact hj y
    · rw [decide_eq_false e, Bool.or_false] at z
      exact h q hq z
  · exact h q hq z
theorem tc_ad_self {s : Int32} {j : Nat} (hj : j < 32) : tc_ad s j j = s :=
  tc_sub_eq (tc_ad_sup hj (fun _ _ z => z) (fun z => z)) (tc_ad_mono s j j)
def tc_cl (c : tc_C) (s : Int32) : Prop := ∀ j, j < tc_n c → bt s j = true → bt s (tc_F c j) = true ∧ bt s (tc_S c j) = true
/-- the least closed set that holds v -/
def tc_lc (c : tc_C) (v : Nat) (s : Int32) : Prop := bt s v = true ∧ tc_cl c s ∧ ∀ p, bt p v = true → tc_cl c p → tc_sub s p
theorem tc_lc_eq {c : tc_C} {v : Nat} {s p : Int32} (h : tc_lc c v s) (h' : tc_lc c v p) : s = p := tc_sub_eq (h.2.2 p h'.1 h'.2.1) (h'.2.2 s h.1 h.2.1)
theorem tc_cnt_mono {f g : Nat → Bool} : ∀ {k : Nat}, (∀ i, i < k → f i = true → g i = true) → tc_cnt f k ≤ tc_cnt g k := by
  intro k
  induction k with
  | zero => intro _; exact Nat.le_refl _
  | succ k ih =>
    intro h
    have a := ih (fun i hi => h i (by omega))
    have b := h k (by omega)
    cases e : f k
    · rw [tc_cnt_f e]
      have : tc_cnt g k ≤ tc_cnt g (k + 1) := Nat.le_add_right _ _
      omega
    · rw [tc_cnt_t e, tc_cnt_t (b e)]
      omega
theorem tc_cnt_lt {f g : Nat → Bool} {i : Nat} : ∀ {k : Nat}, (∀ i, i < k → f i = true → g i = true) → i < k → f i = false → g i = true → tc_cnt f k < tc_cnt g k := by
  intro k
  induction k with
  | zero => intro _ z; omega
  | succ k ih =>
    intro h hi hf hg
    by_cases e : i = k
    · subst e
      have a := tc_cnt_mono (f := f) (g := g) (k := i) (fun q hq => h q (by omega))
      rw [tc_cnt_f hf, tc_cnt_t hg]
      omega
    · have a := ih (fun q hq => h q (by omega)) (by omega) hf hg
      have b := h k (by omega)
      cases e : f k
      · rw [tc_cnt_f e]
        have : tc_cnt g k ≤ tc_cnt g (k + 1) := Nat.le_add_right _ _
        omega
      · rw [tc_cnt_t e, tc_cnt_t (b e)]
        omega
theorem tc_cnt_all {f : Nat → Bool} {k : Nat} (h : k ≤ tc_cnt f k) : ∀ i, i < k → f i = true := by
  intro i hi
  refine ts_nf (fun z => ?_)
  have a := tc_cnt_lt (f := f) (g := fun _ => true) (k := k) (fun _ _ _ => rfl) hi z rfl
  have b := tc_cnt_le (fun _ => true) k
  omega
/-! the component: count - 1 steps -/
def tc_ws (c : tc_C) (s : Int32) : Nat → Int32
  | 0 => s
  | i + 1 => if bt s i then tc_ws c s i ||| (tc_bit (tc_F c i) ||| tc_bit (tc_S c i)) else tc_ws c s i
theorem tc_ws_mono (c : tc_C) (s : Int32) : ∀ i, tc_sub s (tc_ws c s i) := by
  intro i
  induction i with
  | zero => exact fun _ _ h => h
  | succ i ih =>
    intro q hq h
    show bt (if bt s i then tc_ws c s i ||| _ else tc_ws c s i) q = true
    split
    · rw [b_or, ih q hq h]; rfl
    · exact ih q hq h
theorem tc_ws_has {c : tc_C} (hw : tc_wf c) {s : Int32} : ∀ i, i ≤ tc_n c → ∀ j, j < i → bt s j = true → bt (tc_ws c s i) (tc_F c j) = true ∧ bt (tc_ws c s i) (tc_S c j) = true := by
  have h20 : tc_n c ≤ 20 := hw.1
  intro i
  induction i with
  | zero => intro _ j hj; omega
  | succ i ih =>
    intro hi j hj h
    show bt (if bt s i then tc_ws c s i ||| (tc_bit (tc_F c i) ||| tc_bit (tc_S c i)) else tc_ws c s i) _ = true ∧ bt (if bt s i then tc_ws c s i ||| (tc_bit (tc_F c i) ||| tc_bit (tc_S c i)) else tc_ws c s i) _ = true
    by_cases e : j = i
    · subst e
      obtain ⟨_, f, g, _⟩ := hw.2.2.2.1 j (by omega)
      rw [if_pos h, b_or, b_or, b_or, b_or, tc_bit_bt (by omega) (by omega), tc_bit_bt (i := tc_S c j) (q := tc_S c j) (by omega) (by omega), decide_eq_true rfl, decide_eq_true rfl]
      simp
    · obtain ⟨a, b⟩ := ih (by omega) j (by omega) h
      split
      · exact ⟨by rw [b_or, a]; rfl, by rw [b_or, b]; rfl⟩
      · exact ⟨a, b⟩
theorem tc_ws_sup {c : tc_C} (hw : tc_wf c) {s p : Int32} (h : tc_sub s p) (hp : tc_cl c p) : ∀ i, i ≤ tc_n c → tc_sub (tc_ws c s i) p := by
  have h20 : tc_n c ≤ 20 := hw.1
  intro i
  induction i with
  | zero => intro _; exact h
  | succ i ih =>
    intro hi q hq z
    have z : bt (if bt s i then tc_ws c s i ||| (tc_bit (tc_F c i) ||| tc_bit (tc_S c i)) else tc_ws c s i) q = true := z
    obtain ⟨_, f, g, _⟩ := hw.2.2.2.1 i (by omega)
    split at z
    · rename_i y
      obtain ⟨a, b⟩ := hp i (by omega) (h i (by omega) y)
      rw [b_or, b_or, tc_bit_bt (by omega) hq, tc_bit_bt (by omega) hq] at z
      by_cases e : tc_F c i = q
      · rw [← e]; exact a
      · by_cases e' : tc_S c i = q
        · rw [← e']; exact b
        · rw [decide_eq_false e, decide_eq_false e', Bool.or_false, Bool.or_false] at z
          exact ih (by omega) q hq z
    · exact ih (by omega) q hq z
def tc_it (c : tc_C) (v : Nat) : Nat → Int32
  | 0 => tc_bit v
  | m + 1 => tc_ws c (tc_it c v m) (tc_n c)
theorem tc_it_v {c : tc_C} {v : Nat} (hv : v < 32) : ∀ m, bt (tc_it c v m) v = true := by
  intro m
  induction m with
  | zero => show bt (tc_bit v) v = true; rw [tc_bit_bt hv hv, decide_eq_true rfl]
  | succ m ih => exact tc_ws_mono c _ _ v hv ih
theorem tc_it_sup {c : tc_C} (hw : tc_wf c) {v : Nat} (hv : v < 32) {p : Int32} (h : bt p v = true) (hp : tc_cl c p) : ∀ m, tc_sub (tc_it c v m) p := by
  intro m
  induction m with
  | zero =>
    intro q hq z
    have z : bt (tc_bit v) q = true := z
    rw [tc_bit_bt hv hq] at z
    rw [← of_decide_eq_true z]; exact h
  | succ m ih => exact tc_ws_sup hw ih hp _ (Nat.le_refl _)
theorem tc_it_cnt {c : tc_C} (hw : tc_wf c) {v : Nat} (hv : v < tc_n c) : ∀ m, tc_cl c (tc_it c v m) ∨ m + 1 ≤ tc_cnt (bt (tc_it c v m)) (tc_n c) := by
  have h20 : tc_n c ≤ 20 := hw.1
  intro m
  induction m with
  | zero =>
    right
    have a := tc_cnt_lt (f := fun _ => false) (g := bt (tc_it c v 0)) (k := tc_n c) (fun _ _ z => absurd z (by decide)) hv rfl (tc_it_v (by omega) 0)
    omega
  | succ m ih =>
    rcases ih with ih | ih
    · left
      have e : tc_it c v (m + 1) = tc_it c v m := tc_sub_eq (tc_ws_sup hw (fun _ _ z => z) ih _ (Nat.le_refl _)) (tc_ws_mono c _ _)
      rw [e]; exact ih
    · by_cases z : tc_cl c (tc_it c v m)
      · left
        have e : tc_it c v (m + 1) = tc_it c v m := tc_sub_eq (tc_ws_sup hw (fun _ _ z => z) z _ (Nat.le_refl _)) (tc_ws_mono c _ _)
        rw [e]; exact z
      · right
        have : ∃ i, i < tc_n c ∧ bt (tc_it c v m) i = false ∧ bt (tc_it c v (m + 1)) i = true := by
          refine Classical.byContradiction (fun y => z (fun j hj hb => ?_))
          obtain ⟨_, f, g, _⟩ := hw.2.2.2.1 j hj
          obtain ⟨a, b⟩ := tc_ws_has hw (s := tc_it c v m) _ (Nat.le_refl _) j hj hb
          exact ⟨ts_nf (fun x => y ⟨_, f, x, a⟩), ts_nf (fun x => y ⟨_, g, x, b⟩)⟩
        obtain ⟨i, hi, hf, hg⟩ := this
        have := tc_cnt_lt (f := bt (tc_it c v m)) (g := bt (tc_it c v (m + 1))) (fun q hq => tc_ws_mono c _ _ q (by omega)) hi hf hg
        omega
theorem tc_it_lc {c : tc_C} (hw : tc_wf c) {v : Nat} (hv : v < tc_n c) : tc_lc c v (tc_it c v (tc_n c - 1)) := by
  have h20 : tc_n c ≤ 20 := hw.1
  refine ⟨tc_it_v (by omega) _, ?_, fun p h hp => tc_it_sup hw (by omega) h hp _⟩
  rcases tc_it_cnt hw hv (tc_n c - 1) with h | h
  · exact h
  · intro j hj _
    obtain ⟨_, f, g, _⟩ := hw.2.2.2.1 j hj
    have a := tc_cnt_all (f := bt (tc_it c v (tc_n c - 1))) (k := tc_n c) (by omega)
    exact ⟨a _ f, a _ g⟩
section
variable {c : tc_C} {kd fs ss ip : Nat → Int32} {dm ig m0 m1 : Nat → Int64} {cn mo pl de gu my kp : Nat → Int32}
theorem tc_Xwith {post : Int32 → Prop} {s : Int32} (hw : tc_wf c) (hx : tc_RX c kd fs ss ip dm ig) (h : post (tc_ws c s (tc_n c))) : wpX_withSources post (nI (tc_n c), nI (tc_ac c), nI (tc_cc c), kd, fs, ss, ip, dm, ig, m0, m1) s := by
  have h20 : tc_n c ≤ 20 := hw.1
  refine loop_0 (fun n i r => wX_withSources_4 post s (nI (tc_n c)) (nI (tc_ac c)) (nI (tc_cc c)) kd fs ss ip dm ig (m0) (m1) n r (nI i)) (fun i r => r = tc_ws c s i) (tc_n c) s rfl ?_ ?_
  · intro n r hr
    subst hr
    exact br_t (nI_le (Nat.le_refl _) (by omega)) h
  · intro n j r hj hr ih
    have ec : (nI j).toNatClampNeg = j := nI_clamp (by omega)
    have i1 : vp_in (nI j) 20 := vp_in_nI (by omega) (by omega)
    unfold wX_withSources_4
    rw [ec, (hx.1 j hj).2.1, (hx.1 j hj).2.2, nI_1]
    refine br_f (nI_ge hj (by omega)) (tc_Xt (by omega) (fun z => nm_e (ih _ ?_)) (fun z => ⟨i1, i1, nm_e (nm_e (ih _ ?_))⟩))
    · show _ = if bt s j then _ else _
      rw [z, hr]; rfl
    · show _ = if bt s j then _ else _
      rw [if_pos z, hr]; rfl
theorem tc_Xcone {post : Int32 → Prop} {v : Nat} (hw : tc_wf c) (hx : tc_RX c kd fs ss ip dm ig) (hv : v < tc_n c) (h : post (tc_it c v (tc_n c - 1))) : wpX_cone post (nI (tc_n c), nI (tc_ac c), nI (tc_cc c), kd, fs, ss, ip, dm, ig, m0, m1) (nI v) := by
  have h20 : tc_n c ≤ 20 := hw.1
  unfold wpX_cone
  dsimp only
  refine tc_XisNode1 h20 hv (br_f (by decide) (nm_e ?_))
  refine pk_loop (fun n i r => wX_cone_16 post (nI (tc_n c)) (nI (tc_ac c)) (nI (tc_cc c)) kd fs ss ip dm ig (m0) (m1) n r (nI i)) (fun i r => 1 ≤ i ∧ r = tc_it c v (i - 1)) (tc_n c) 1 (tc_bit v) (by omega) ⟨Nat.le_refl _, rfl⟩ ?_ ?_
  · intro n r hr
    rw [hr.2]
    exact br_t (nI_le (Nat.le_refl _) (by omega)) h
  · intro n i r hi hr ih
    obtain ⟨hi1, rfl⟩ := hr
    refine br_f (nI_ge hi (by omega)) (tc_Xwith hw hx (nm_e ?_))
    rw [nI_1]
    refine ih _ ⟨by omega, ?_⟩
    rw [show i + 1 - 1 = (i - 1) + 1 by omega]
    rfl
/-! the reference: passes until nothing changes -/
def tc_sp (c : tc_C) (s : Int32) (j : Nat) : Int32 := tc_ad (tc_ad s j (tc_F c j)) j (tc_S c j)
def tc_ps (c : tc_C) (s : Int32) : Nat → Int32
  | 0 => s
  | i + 1 => tc_sp c (tc_ps c s i) i
theorem tc_sp_mono (c : tc_C) (s : Int32) (j : Nat) : tc_sub s (tc_sp c s j) := fun q hq h => tc_ad_mono _ _ _ q hq (tc_ad_mono _ _ _ q hq h)
theorem tc_ps_mono (c : tc_C) (s : Int32) (i : Nat) : ∀ d, tc_sub (tc_ps c s i) (tc_ps c s (i + d)) := by
  intro d
  induction d with
  | zero => exact fun _ _ h => h
  | succ d ih => exact fun q hq h => tc_sp_mono c _ _ q hq (ih q hq h)
theorem tc_ps_sup {c : tc_C} (hw : tc_wf c) {s p : Int32} (h : tc_sub s p) (hp : tc_cl c p) : ∀ i, i ≤ tc_n c → tc_sub (tc_ps c s i) p := by
  have h20 : tc_n c ≤ 20 := hw.1
  intro i
  induction i with
  | zero => intro _; exact h
  | succ i ih =>
    intro hi
    obtain ⟨_, f, g, _⟩ := hw.2.2.2.1 i (by omega)
    have a := ih (by omega)
    have b := tc_ad_sup (i := tc_F c i) (by omega) a (fun z => (hp i (by omega) (a i (by omega) z)).1)
    exact tc_ad_sup (by omega) b (fun z => (hp i (by omega) (b i (by omega) z)).2)
theorem tc_ps_cl {c : tc_C} (hw : tc_wf c) {s : Int32} (h : tc_ps c s (tc_n c) = s) : tc_cl c s := by
  have h20 : tc_n c ≤ 20 := hw.1
  intro j hj hb
  obtain ⟨_, f, g, _⟩ := hw.2.2.2.1 j hj
  have e : ∀ i, i ≤ tc_n c → tc_ps c s i = s := by
    intro i hi
    refine tc_sub_eq ?_ ?_
    · have := tc_ps_mono c s i (tc_n c - i)
      rw [show i + (tc_n c - i) = tc_n c by omega, h] at this
      exact this
    · have := tc_ps_mono c s 0 i
      rw [Nat.zero_add] at this
      exact this
  have e1 : tc_sp c s j = s := by
    have := e (j + 1) (by omega)
    rw [show tc_ps c s (j + 1) = tc_sp c (tc_ps c s j) j from rfl, e j (by omega)] at this
    exact this
  have a : bt (tc_ad s j (tc_F c j)) (tc_F c j) = true := tc_ad_has (by omega) hb
  have b : bt (tc_ad s j (tc_F c j)) j = true := tc_ad_mono _ _ _ j (by omega) hb
  have a' : bt (tc_sp c s j) (tc_F c j) = true := tc_ad_mono _ _ _ _ (by omega) a
  have b' : bt (tc_sp c s j) (tc_S c j) = true := tc_ad_has (by omega) b
  rw [e1] at a' b'
  exact ⟨a', b'⟩
theorem tc_Y67 {post : Int32 → Prop} {J16 J26 : Int32 → Int32 → Prop} {s x3 ou : Int32} {j : Nat} (hw : tc_wf c) (hy : tc_RY c kd fs ss cn mo pl de gu) (hj : j < tc_n c) (h : J26 (tc_ad s j (tc_S c j)) (nI (j + 1))) : wY_cone_67 post J16 J26 s x3 (nI j) (nI (tc_n c)) (ou) kd fs ss cn mo pl de gu (my) (kp) := by
  have h20 : tc_n c ≤ 20 := hw.1
  obtain ⟨k5, f, g, _, _, _, kk⟩ := hw.2.2.2.1 j hj
  obtain ⟨ek, _, es⟩ := hy.2.2.1 j hj
  have ec : (nI j).toNatClampNeg = j := nI_clamp (by omega)
  have i1 : vp_in (nI j) 20 := vp_in_nI (by omega) (by omega)
  unfold wY_cone_67
  rw [ec, ek, nI_1]
  refine tc_Yt (by omega) (fun z => ⟨i1, pk_le (tc_K c j) 1 (fun y => nm_e ?_) (fun y => ⟨i1, pk_le 5 (tc_K c j) (fun x => nm_e ?_) (fun x => ⟨i1, ?_⟩)⟩)⟩) (fun z => nm_e ?_)
  · rw [kk (by omega), tc_ad_self (by omega)] at h
    exact h
  · rw [kk (by omega), tc_ad_self (by omega)] at h
    exact h
  · rw [es (by omega) (by omega)]
    unfold tc_ad at h
    rw [if_pos z] at h
    exact nm_e (nm_e h)
  · unfold tc_ad at h
    rw [z] at h
    exact h
theorem tc_Ypass {post : Int32 → Prop} {J16 : Int32 → Int32 → Prop} {s x3 ou : Int32} (hw : tc_wf c) (hy : tc_RY c kd fs ss cn mo pl de gu) (h : J16 (tc_ps c s (tc_n c)) x3) : ∃ n, wY_cone_26 post J16 x3 (nI (tc_n c)) (ou) kd fs ss cn mo pl de gu (my) (kp) n s 0 := by
  have h20 : tc_n c ≤ 20 := hw.1
  refine loop_0 (fun n i r => wY_cone_26 post J16 x3 (nI (tc_n c)) (ou) kd fs ss cn mo pl de gu (my) (kp) n r (nI i)) (fun i r => r = tc_ps c s i) (tc_n c) s rfl ?_ ?_
  · intro n r hr
    subst hr
    exact br_t (nI_le (Nat.le_refl _) (by omega)) h
  · intro n j r hj hr ih
    subst hr
    obtain ⟨k5, f, g, k0, _, _, kk⟩ := hw.2.2.2.1 j hj
    obtain ⟨ek, ef, es⟩ := hy.2.2.1 j hj
    have ec : (nI j).toNatClampNeg = j := nI_clamp (by omega)
    have i1 : vp_in (nI j) 20 := vp_in_nI (by omega) (by omega)
    have H := fun (q : Int32) (e : q = tc_ad (tc_ps c s j) j (tc_F c j)) => tc_Y67 (post := post) (J16 := J16) (my := my) (kp := kp) (x3 := x3) (ou := ou) (s := q) hw hy hj (ih (tc_ad q j (tc_S c j)) (by rw [e]; rfl))
    unfold wY_cone_26
    rw [ec, ek]
    refine br_f (nI_ge hj (by omega)) (tc_Yt (by omega) (fun z => ⟨i1, pk_le (tc_K c j) 0 (fun y => H _ ?_) (fun y => ⟨i1, ?_⟩)⟩) (fun z => H _ ?_))
    · rw [k0 (by omega), tc_ad_self (by omega)]
    · rw [ef (by omega)]
      refine nm_e (H _ ?_)
      unfold tc_ad
      rw [if_pos z]
      rfl
    · unfold tc_ad
      rw [z]
      rfl
theorem tc_Ycone {post : Int32 → Prop} {v : Nat} {ou : Int32} (hw : tc_wf c) (hy : tc_RY c kd fs ss cn mo pl de gu) (hv : v < tc_n c) (h : ∀ r, tc_lc c v r → post r) : wpY_cone post (nI (tc_n c), ou, kd, fs, ss, cn, mo, pl, de, gu, my, kp) (nI v) := by
  have h20 : tc_n c ≤ 20 := hw.1
  unfold wpY_cone
  dsimp only
  refine tc_YnoNode0 h20 hv (br_t rfl (nm_e ?_))
  refine loop_m (fun n (s : Int32 × Int32) => wY_cone_16 post (nI (tc_n c)) (ou) kd fs ss cn mo pl de gu (my) (kp) n s.1 s.2) (fun s => bt s.1 v = true ∧ (∀ p, bt p v = true → tc_cl c p → tc_sub s.1 p) ∧ (s.1 = s.2 → tc_cl c s.1)) (fun s => 2 * (32 - tc_cnt (bt s.1) 32) + (if s.1 = s.2 then 0 else 1)) ?_ (tc_bit v, 0) ⟨?_, ?_, ?_⟩
  · intro n s hs ih
    obtain ⟨s, b⟩ := s
    obtain ⟨h1, h2, h3⟩ := hs
    dsimp only at h1 h2 h3 ih
    refine br_c (fun z => h s ⟨h1, h3 z, h2⟩) (fun z => tc_Ypass hw hy ?_)
    have m := tc_ps_mono c s 0 (tc_n c)
    rw [Nat.zero_add] at m
    refine ih (tc_ps c s (tc_n c), s) ⟨m v (by omega) h1, fun p hp hc => tc_ps_sup hw (h2 p hp hc) hc _ (Nat.le_refl _), fun e => ?_⟩ ?_
    · have e : tc_ps c s (tc_n c) = s := e
      show tc_cl c (tc_ps c s (tc_n c))
      rw [e]
      exact tc_ps_cl hw e
    · show 2 * (32 - tc_cnt (bt (tc_ps c s (tc_n c))) 32) + (if tc_ps c s (tc_n c) = s then 0 else 1) < 2 * (32 - tc_cnt (bt s) 32) + (if s = b then 0 else 1)
      rw [if_neg z]
      by_cases e : tc_ps c s (tc_n c) = s
      · rw [if_pos e, e]
        omega
      · rw [if_neg e]
        have : ∃ i, i < 32 ∧ bt s i = false ∧ bt (tc_ps c s (tc_n c)) i = true := by
          refine Classical.byContradiction (fun y => e (tc_sub_eq (fun q hq hb => ?_) m))
          exact ts_nf (fun x => y ⟨q, hq, x, hb⟩)
        obtain ⟨i, hi, hf, hg⟩ := this
        have a := tc_cnt_lt (f := bt s) (g := bt (tc_ps c s (tc_n c))) (k := 32) m hi hf hg
        have b := tc_cnt_le (bt (tc_ps c s (tc_n c))) 32
        omega
  · show bt (tc_bit v) v = true
    rw [tc_bit_bt (by omega) (by omega), decide_eq_true rfl]
  · intro p hp _ q hq z
    have z : bt (tc_bit v) q = true := z
    rw [tc_bit_bt (by omega) hq] at z
    rw [← of_decide_eq_true z]; exact hp
  · intro e
    have e : tc_bit v = 0 := e
    have a : bt (tc_bit v) v = true := by rw [tc_bit_bt (by omega) (by omega), decide_eq_true rfl]
    rw [e, b_0] at a
    exact absurd a (by decide)
end
theorem i_vc_cone {k : Nat} {u : SX} {v : SY} (I : i_Rel k u v) (hk : k + 6 ≤ 3072) (v1 : Int32) : wpX_cone (fun r => wpY_cone (fun r' => r' = r ∧ i_Rel (k + 6) u v) v v1) u v1 := by
  have I' := I
  obtain ⟨c, kd, fs, ss, ip, dm, ig, m0, m1, gs, ts, cn, mo, pl, de, gu, my, kp, hw, hx, hy, rfl, rfl⟩ := I
  have h20 : tc_n c ≤ 20 := hw.1
  rcases tc_ix v1 (n := tc_n c) (by omega) with z1 | ⟨q, hq, rfl⟩
  · unfold wpX_cone wpY_cone
    dsimp only
    exact tc_XisNode0 z1 (br_t rfl (tc_YnoNode1 z1 (br_f (by decide) ⟨rfl, I'⟩)))
  exact tc_Xcone hw hx hq (tc_Ycone hw hy hq (fun r hr => ⟨tc_lc_eq hr (tc_it_lc hw hq), I'⟩))
end
