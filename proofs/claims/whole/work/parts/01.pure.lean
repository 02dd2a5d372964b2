/-! part 1: bits, counts, and the pure picture of what falls and of what a drop leaves (bt, b_or, b_0, nf_sh, nf_tp, ts_bit, wb_cu, u_tn, pk_mul began as rows of the kit) -/
theorem pk_mul (a b : Nat) : nI a * nI b = nI (a * b) := (Int32.ofNat_mul a b).symm
def bt (x : Int32) (i : Nat) : Bool := x.toBitVec.getLsbD i
theorem b_0 (i : Nat) : bt 0 i = false := BitVec.getLsbD_zero
theorem nf_sh : ∀ l, l < 32 → ((1 : Int32) <<< (nI l &&& 31)).toBitVec = BitVec.twoPow 32 l := by decide +kernel
theorem nf_tp : ∀ l, l < 32 → BitVec.twoPow 32 l ≠ 0#32 := by decide +kernel
theorem ts_bit {w : Int64} {s : UInt64} {j : Nat} (hj : j < 64) (hs : s.toNat = j) : ((w.toUInt64 >>> s).toInt64 &&& 1) = 0 ↔ w.toBitVec.getLsbD j = false := by
  have e : (w.toUInt64 >>> s).toInt64.toBitVec = w.toBitVec >>> j := by
    apply BitVec.eq_of_toNat_eq
    show (w.toUInt64 >>> s).toNat = _
    rw [UInt64.toNat_shiftRight, hs, Nat.mod_eq_of_lt hj, BitVec.toNat_ushiftRight]
    rfl
  rw [← Int64.toBitVec_inj, Int64.toBitVec_and, e]
  show w.toBitVec >>> j &&& 1#64 = 0#64 ↔ _
  constructor
  · intro h
    have t := congrArg (fun x => x.getLsbD 0) h
    simpa using t
  · intro h
    apply BitVec.eq_of_getLsbD_eq
    intro i hi
    cases i with
    | zero => simp [h]
    | succ i => simp
theorem wb_cu : ∀ k, k < 64 → ((nI k).toInt64.toUInt64 &&& Int64.toUInt64 63) = UInt64.ofNat k := by decide +kernel
theorem u_tn {n : Nat} (h : n < 2 ^ 64) : (UInt64.ofNat n).toNat = n := Nat.mod_eq_of_lt h
/-! a long as a set of slots -/
def gl_b (w : Int64) (j : Nat) : Bool := w.toBitVec.getLsbD j
theorem gl_b0 (j : Nat) : gl_b 0 j = false := BitVec.getLsbD_zero
theorem gl_sh : ∀ k, k < 64 → ((1 : Int64) <<< ((nI k).toInt64 &&& 63)).toBitVec = BitVec.twoPow 64 k := by decide +kernel
theorem gl_bor (w : Int64) {k : Nat} (hk : k < 64) (j : Nat) : gl_b (w ||| ((1 : Int64) <<< ((nI k).toInt64 &&& 63))) j = (gl_b w j || decide (k = j)) := by
  unfold gl_b
  rw [Int64.toBitVec_or, gl_sh k hk, BitVec.getLsbD_or, BitVec.getLsbD_twoPow]
  simp [hk]
theorem gl_bt (w : Int64) {k : Nat} (hk : k < 64) : ((w.toUInt64 >>> ((nI k).toInt64.toUInt64 &&& Int64.toUInt64 63)).toInt64 &&& 1) = 0 ↔ gl_b w k = false := ts_bit hk (by rw [wb_cu k hk]; exact u_tn (by omega))
/-! an int as a set of rights -/
theorem gl_ror (m : Int32) {l : Nat} (hl : l < 32) (i : Nat) : bt (m ||| ((1 : Int32) <<< (nI l &&& 31))) i = (bt m i || decide (l = i)) := by
  unfold bt
  rw [Int32.toBitVec_or, nf_sh l hl, BitVec.getLsbD_or, BitVec.getLsbD_twoPow]
  simp [hl]
theorem gl_rand (m : Int32) {l : Nat} (hl : l < 32) : (m &&& ((1 : Int32) <<< (nI l &&& 31))) = 0 ↔ bt m l = false := by
  unfold bt
  rw [← Int32.toBitVec_inj, Int32.toBitVec_and, nf_sh l hl, BitVec.and_twoPow]
  show _ = 0#32 ↔ _
  cases hb : m.toBitVec.getLsbD l
  · exact ⟨fun _ => rfl, fun _ => by simp⟩
  · exact ⟨fun z => absurd ((if_pos rfl).symm.trans z) (nf_tp l hl), fun z => absurd z (by decide)⟩
/-! counts -/
def gl_cn (P : Nat → Bool) : Nat → Nat
  | 0 => 0
  | i + 1 => gl_cn P i + (if P i = true then 1 else 0)
theorem gl_cn_le (P : Nat → Bool) : ∀ i, gl_cn P i ≤ i := by
  intro i
  induction i with
  | zero => exact Nat.le_refl 0
  | succ i ih =>
    show gl_cn P i + (if P i = true then 1 else 0) ≤ i + 1
    split <;> omega
theorem gl_cn_t {P : Nat → Bool} {i : Nat} (h : P i = true) : gl_cn P (i + 1) = gl_cn P i + 1 := by
  show gl_cn P i + (if P i = true then 1 else 0) = _
  rw [if_pos h]
theorem gl_cn_f {P : Nat → Bool} {i : Nat} (h : P i = false) : gl_cn P (i + 1) = gl_cn P i := by
  show gl_cn P i + (if P i = true then 1 else 0) = _
  rw [if_neg (by rw [h]; decide), Nat.add_zero]
theorem gl_cn_cg {P Q : Nat → Bool} : ∀ i, (∀ j, j < i → P j = Q j) → gl_cn P i = gl_cn Q i := by
  intro i
  induction i with
  | zero => intro _; rfl
  | succ i ih =>
    intro h
    show gl_cn P i + (if P i = true then 1 else 0) = gl_cn Q i + (if Q i = true then 1 else 0)
    rw [ih (fun j hj => h j (by omega)), h i (by omega)]
theorem gl_cn_tl {P : Nat → Bool} {n : Nat} (h : ∀ j, n ≤ j → P j = false) : ∀ m, gl_cn P (n + m) = gl_cn P n := by
  intro m
  induction m with
  | zero => rfl
  | succ m ih =>
    show gl_cn P ((n + m) + 1) = _
    rw [gl_cn_f (h (n + m) (by omega)), ih]
/-! a truth as an int -/
def gl_01 (b : Bool) : Int32 := if b = true then 1 else 0
theorem gl_01t : gl_01 true = 1 := rfl
theorem gl_01f : gl_01 false = 0 := rfl
theorem gl_01z (b : Bool) : gl_01 b = 0 ↔ b = false := by cases b <;> decide
/-! is there, among the first e slots that K keeps, one with option to u of p -/
def gl_ex (K : Nat → Bool) (tk pv op : Nat → Int32) (u p : Int32) : Nat → Bool
  | 0 => false
  | e + 1 => gl_ex K tk pv op u p e || (K e && (!(op e == 0) && (tk e == u && pv e == p)))
theorem gl_ex_s (K : Nat → Bool) (tk pv op : Nat → Int32) (u p : Int32) (e : Nat) : gl_ex K tk pv op u p (e + 1) = (gl_ex K tk pv op u p e || (K e && (!(op e == 0) && (tk e == u && pv e == p)))) := rfl
theorem gl_ex_cg {K L : Nat → Bool} (tk pv op : Nat → Int32) (u p : Int32) : ∀ i, (∀ j, j < i → K j = L j) → gl_ex K tk pv op u p i = gl_ex L tk pv op u p i := by
  intro i
  induction i with
  | zero => intro _; rfl
  | succ i ih =>
    intro h
    rw [gl_ex_s, gl_ex_s, ih (fun j hj => h j (by omega)), h i (by omega)]
theorem gl_ex_up {K : Nat → Bool} {tk pv op : Nat → Int32} {u p : Int32} {i : Nat} (h : gl_ex K tk pv op u p i = true) : ∀ m, gl_ex K tk pv op u p (i + m) = true := by
  intro m
  induction m with
  | zero => exact h
  | succ m ih =>
    show gl_ex K tk pv op u p ((i + m) + 1) = true
    rw [gl_ex_s, ih, Bool.true_or]
/-- what is kept after i steps of the pass -/
def gl_kk (gv tk pv op : Nat → Int32) (K : Nat → Bool) : Nat → Nat → Bool
  | 0 => K
  | i + 1 => fun j => if j = i then (gl_kk gv tk pv op K i i && (gv i == 0 || gl_ex (gl_kk gv tk pv op K i) tk pv op (gv i) (pv i) i)) else gl_kk gv tk pv op K i j
theorem gl_kk_s {gv tk pv op : Nat → Int32} {K : Nat → Bool} (i : Nat) : gl_kk gv tk pv op K (i + 1) i = (gl_kk gv tk pv op K i i && (gv i == 0 || gl_ex (gl_kk gv tk pv op K i) tk pv op (gv i) (pv i) i)) := by
  show (if i = i then _ else _) = _
  rw [if_pos rfl]
theorem gl_kk_n {gv tk pv op : Nat → Int32} {K : Nat → Bool} {i j : Nat} (h : j ≠ i) : gl_kk gv tk pv op K (i + 1) j = gl_kk gv tk pv op K i j := by
  show (if j = i then _ else _) = _
  rw [if_neg h]
theorem gl_kk_l {gv tk pv op : Nat → Int32} {K : Nat → Bool} {j : Nat} : ∀ i, i ≤ j → gl_kk gv tk pv op K i j = K j := by
  intro i
  induction i with
  | zero => intro _; rfl
  | succ i ih =>
    intro h
    rw [gl_kk_n (by omega), ih (by omega)]
/-- the right's bit set grows by slot i as it is kept -/
theorem gl_ex_k {gv tk pv op : Nat → Int32} {K : Nat → Bool} (u p : Int32) (i : Nat) : gl_ex (gl_kk gv tk pv op K (i + 1)) tk pv op u p (i + 1) = (gl_ex (gl_kk gv tk pv op K i) tk pv op u p i || (gl_kk gv tk pv op K (i + 1) i && (!(op i == 0) && (tk i == u && pv i == p)))) := by
  rw [gl_ex_s, gl_ex_cg (L := gl_kk gv tk pv op K i) tk pv op u p i (fun j hj => gl_kk_n (by omega))]
/-! what a drop leaves -/
def gl_dl (K : Nat → Bool) : Nat → Nat
  | 0 => 0
  | i + 1 => if K i = true then gl_dl K i + 1 else gl_dl K i
theorem gl_dl_t {K : Nat → Bool} {i : Nat} (h : K i = true) : gl_dl K (i + 1) = gl_dl K i + 1 := by
  show (if K i = true then _ else _) = _
  rw [if_pos h]
theorem gl_dl_f {K : Nat → Bool} {i : Nat} (h : K i = false) : gl_dl K (i + 1) = gl_dl K i := by
  show (if K i = true then _ else _) = _
  rw [if_neg (by rw [h]; decide)]
theorem gl_dl_le (K : Nat → Bool) : ∀ i, gl_dl K i ≤ i := by
  intro i
  induction i with
  | zero => exact Nat.le_refl 0
  | succ i ih =>
    show (if K i = true then gl_dl K i + 1 else gl_dl K i) ≤ i + 1
    split <;> omega
def gl_da (f : Int32 → Int32) (K : Nat → Bool) (a : Nat → Int32) : Nat → Nat → Int32
  | 0 => a
  | i + 1 => if K i = true then upd (gl_da f K a i) (gl_dl K i) (f (gl_da f K a i i)) else gl_da f K a i
theorem gl_da_t {f : Int32 → Int32} {K : Nat → Bool} {a : Nat → Int32} {i : Nat} (h : K i = true) : gl_da f K a (i + 1) = upd (gl_da f K a i) (gl_dl K i) (f (gl_da f K a i i)) := by
  show (if K i = true then _ else _) = _
  rw [if_pos h]
theorem gl_da_f {f : Int32 → Int32} {K : Nat → Bool} {a : Nat → Int32} {i : Nat} (h : K i = false) : gl_da f K a (i + 1) = gl_da f K a i := by
  show (if K i = true then _ else _) = _
  rw [if_neg (by rw [h]; decide)]
theorem gl_da_P {P : Int32 → Prop} {K : Nat → Bool} {a : Nat → Int32} {n : Nat} (h : ∀ j, j < n → P (a j)) : ∀ i, i ≤ n → ∀ j, j < n → P (gl_da (fun x => x) K a i j) := by
  intro i
  induction i with
  | zero => intro _; exact h
  | succ i ih =>
    intro hi j hj
    cases hK : K i
    · rw [gl_da_f hK]; exact ih (by omega) j hj
    · rw [gl_da_t hK]
      show P (if j = gl_dl K i then _ else _)
      split
      · exact ih (by omega) i (by omega)
      · exact ih (by omega) j hj
/-- the first n slots name users and privileges -/
def gl_ok (n : Nat) (gv tk pv : Nat → Int32) : Prop := (∀ j, j < n → ∃ g : Nat, g < 8 ∧ gv j = nI g) ∧ (∀ j, j < n → ∃ t : Nat, t < 8 ∧ tk j = nI t) ∧ (∀ j, j < n → ∃ p : Nat, p < 3 ∧ pv j = nI p)
theorem gl_ok_da {n : Nat} {gv tk pv : Nat → Int32} (K : Nat → Bool) (h : gl_ok n gv tk pv) : gl_ok (gl_dl K n) (gl_da (fun x => x) K gv n) (gl_da (fun x => x) K tk n) (gl_da (fun x => x) K pv n) := by
  have hl := gl_dl_le K n
  refine ⟨fun j hj => ?_, fun j hj => ?_, fun j hj => ?_⟩
  · exact gl_da_P (P := fun x => ∃ g : Nat, g < 8 ∧ x = nI g) h.1 n (Nat.le_refl n) j (by omega)
  · exact gl_da_P (P := fun x => ∃ g : Nat, g < 8 ∧ x = nI g) h.2.1 n (Nat.le_refl n) j (by omega)
  · exact gl_da_P (P := fun x => ∃ g : Nat, g < 3 ∧ x = nI g) h.2.2 n (Nat.le_refl n) j (by omega)
