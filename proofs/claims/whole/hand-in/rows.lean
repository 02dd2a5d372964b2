section
/-! part 1: bits, counts, and the pure picture of what falls and of what a drop leaves (bt, b_or, b_0, nf_sh, nf_tp, ts_bit, wb_cu, u_tn, pk_mul began as rows of the kit) -/
theorem pk_mul (a b : Nat) : nI a * nI b = nI (a * b) := (Int32.ofNat_mul a b).symm
def bt (x : Int32) (i : Nat) : Bool := x.toBitVec.getLsbD i
theorem b_0 (i : Nat) : bt 0 i = false := BitVec.getLsbD_zero
theorem nf_sh : ∀ l, l < 32 → ((1 : Int32) <<< (nI l &&& 31)).toBitVec = BitVec.twoPow 32 l := by decide +kernel
theorem nf_tp : ∀ l, l < 32 → BitVec.twoPow 32 l ≠ 0#32 := by decide +kernel
theorem ts_bit {w : Int64} {s : UInt64} {j : Nat} (hj : j < 64) (hs : s.toNat = j) : ((w.toUInt64 >>> s).toInt64 &&& 1) = 0 ↔ w.toBitVec.getLsbD j = false := by
  have e : (w.toUInt64 >>> s).toInt64.toBitVec = w.toBitVec >>> j := by
    apply BitVec.eq_of_toNat_eq
    show (w.toUInt64 >>> s).toNat = _
    rw [UInt64.toNat_shiftRight, hs, Nat.mod_eq_of_lt hj, BitVec.toNat_ushiftRight]
    rfl
  rw [← Int64.toBitVec_inj, Int64.toBitVec_and, e]
  show w.toBitVec >>> j &&& 1#64 = 0#64 ↔ _
  constructor
  · intro h
    have t := congrArg (fun x => x.getLsbD 0) h
    simpa using t
  · intro h
    apply BitVec.eq_of_getLsbD_eq
    intro i hi
    cases i with
    | zero => simp [h]
    | succ i => simp
theorem wb_cu : ∀ k, k < 64 → ((nI k).toInt64.toUInt64 &&& Int64.toUInt64 63) = UInt64.ofNat k := by decide +kernel
theorem u_tn {n : Nat} (h : n < 2 ^ 64) : (UInt64.ofNat n).toNat = n := Nat.mod_eq_of_lt h
/-! a long as a set of slots -/
def gl_b (w : Int64) (j : Nat) : Bool := w.toBitVec.getLsbD j
theorem gl_b0 (j : Nat) : gl_b 0 j = false := BitVec.getLsbD_zero
theorem gl_sh : ∀ k, k < 64 → ((1 : Int64) <<< ((nI k).toInt64 &&& 63)).toBitVec = BitVec.twoPow 64 k := by decide +kernel
theorem gl_bor (w : Int64) {k : Nat} (hk : k < 64) (j : Nat) : gl_b (w ||| ((1 : Int64) <<< ((nI k).toInt64 &&& 63))) j = (gl_b w j || decide (k = j)) := by
  unfold gl_b
  rw [Int64.toBitVec_or, gl_sh k hk, BitVec.getLsbD_or, BitVec.getLsbD_twoPow]
  simp [hk]
theorem gl_bt (w : Int64) {k : Nat} (hk : k < 64) : ((w.toUInt64 >>> ((nI k).toInt64.toUInt64 &&& Int64.toUInt64 63)).toInt64 &&& 1) = 0 ↔ gl_b w k = false := ts_bit hk (by rw [wb_cu k hk]; exact u_tn (by omega))
/-! an int as a set of rights -/
theorem gl_ror (m : Int32) {l : Nat} (hl : l < 32) (i : Nat) : bt (m ||| ((1 : Int32) <<< (nI l &&& 31))) i = (bt m i || decide (l = i)) := by
  unfold bt
  rw [Int32.toBitVec_or, nf_sh l hl, BitVec.getLsbD_or, BitVec.getLsbD_twoPow]
  simp [hl]
theorem gl_rand (m : Int32) {l : Nat} (hl : l < 32) : (m &&& ((1 : Int32) <<< (nI l &&& 31))) = 0 ↔ bt m l = false := by
  unfold bt
  rw [← Int32.toBitVec_inj, Int32.toBitVec_and, nf_sh l hl, BitVec.and_twoPow]
  show _ = 0#32 ↔ _
  cases hb : m.toBitVec.getLsbD l
  · exact ⟨fun _ => rfl, fun _ => by simp⟩
  · exact ⟨fun z => absurd ((if_pos rfl).symm.trans z) (nf_tp l hl), fun z => absurd z (by decide)⟩
/-! counts -/
def gl_cn (P : Nat → Bool) : Nat → Nat
  | 0 => 0
  | i + 1 => gl_cn P i + (if P i = true then 1 else 0)
theorem gl_cn_le (P : Nat → Bool) : ∀ i, gl_cn P i ≤ i := by
  intro i
  induction i with
  | zero => exact Nat.le_refl 0
  | succ i ih =>
    show gl_cn P i + (if P i = true then 1 else 0) ≤ i + 1
    split <;> omega
theorem gl_cn_t {P : Nat → Bool} {i : Nat} (h : P i = true) : gl_cn P (i + 1) = gl_cn P i + 1 := by
  show gl_cn P i + (if P i = true then 1 else 0) = _
  rw [if_pos h]
theorem gl_cn_f {P : Nat → Bool} {i : Nat} (h : P i = false) : gl_cn P (i + 1) = gl_cn P i := by
  show gl_cn P i + (if P i = true then 1 else 0) = _
  rw [if_neg (by rw [h]; decide), Nat.add_zero]
theorem gl_cn_cg {P Q : Nat → Bool} : ∀ i, (∀ j, j < i → P j = Q j) → gl_cn P i = gl_cn Q i := by
  intro i
  induction i with
  | zero => intro _; rfl
  | succ i ih =>
    intro h
    show gl_cn P i + (if P i = true then 1 else 0) = gl_cn Q i + (if Q i = true then 1 else 0)
    rw [ih (fun j hj => h j (by omega)), h i (by omega)]
theorem gl_cn_tl {P : Nat → Bool} {n : Nat} (h : ∀ j, n ≤ j → P j = false) : ∀ m, gl_cn P (n + m) = gl_cn P n := by
  intro m
  induction m with
  | zero => rfl
  | succ m ih =>
    show gl_cn P ((n + m) + 1) = _
    rw [gl_cn_f (h (n + m) (by omega)), ih]
/-! a truth as an int -/
def gl_01 (b : Bool) : Int32 := if b = true then 1 else 0
theorem gl_01t : gl_01 true = 1 := rfl
theorem gl_01f : gl_01 false = 0 := rfl
theorem gl_01z (b : Bool) : gl_01 b = 0 ↔ b = false := by cases b <;> decide
/-! is there, among the first e slots that K keeps, one with option to u of p -/
def gl_ex (K : Nat → Bool) (tk pv op : Nat → Int32) (u p : Int32) : Nat → Bool
  | 0 => false
  | e + 1 => gl_ex K tk pv op u p e || (K e && (!(op e == 0) && (tk e == u && pv e == p)))
theorem gl_ex_s (K : Nat → Bool) (tk pv op : Nat → Int32) (u p : Int32) (e : Nat) : gl_ex K tk pv op u p (e + 1) = (gl_ex K tk pv op u p e || (K e && (!(op e == 0) && (tk e == u && pv e == p)))) := rfl
theorem gl_ex_cg {K L : Nat → Bool} (tk pv op : Nat → Int32) (u p : Int32) : ∀ i, (∀ j, j < i → K j = L j) → gl_ex K tk pv op u p i = gl_ex L tk pv op u p i := by
  intro i
  induction i with
  | zero => intro _; rfl
  | succ i ih =>
    intro h
    rw [gl_ex_s, gl_ex_s, ih (fun j hj => h j (by omega)), h i (by omega)]
theorem gl_ex_up {K : Nat → Bool} {tk pv op : Nat → Int32} {u p : Int32} {i : Nat} (h : gl_ex K tk pv op u p i = true) : ∀ m, gl_ex K tk pv op u p (i + m) = true := by
  intro m
  induction m with
  | zero => exact h
  | succ m ih =>
    show gl_ex K tk pv op u p ((i + m) + 1) = true
    rw [gl_ex_s, ih, Bool.true_or]
/-- what is kept after i steps of the pass -/
def gl_kk (gv tk pv op : Nat → Int32) (K : Nat → Bool) : Nat → Nat → Bool
  | 0 => K
  | i + 1 => fun j => if j = i then (gl_kk gv tk pv op K i i && (gv i == 0 || gl_ex (gl_kk gv tk pv op K i) tk pv op (gv i) (pv i) i)) else gl_kk gv tk pv op K i j
theorem gl_kk_s {gv tk pv op : Nat → Int32} {K : Nat → Bool} (i : Nat) : gl_kk gv tk pv op K (i + 1) i = (gl_kk gv tk pv op K i i && (gv i == 0 || gl_ex (gl_kk gv tk pv op K i) tk pv op (gv i) (pv i) i)) := by
  show (if i = i then _ else _) = _
  rw [if_pos rfl]
theorem gl_kk_n {gv tk pv op : Nat → Int32} {K : Nat → Bool} {i j : Nat} (h : j ≠ i) : gl_kk gv tk pv op K (i + 1) j = gl_kk gv tk pv op K i j := by
  show (if j = i then _ else _) = _
  rw [if_neg h]
theorem gl_kk_l {gv tk pv op : Nat → Int32} {K : Nat → Bool} {j : Nat} : ∀ i, i ≤ j → gl_kk gv tk pv op K i j = K j := by
  intro i
  induction i with
  | zero => intro _; rfl
  | succ i ih =>
    intro h
    rw [gl_kk_n (by omega), ih (by omega)]
/-- the right's bit set grows by slot i as it is kept -/
theorem gl_ex_k {gv tk pv op : Nat → Int32} {K : Nat → Bool} (u p : Int32) (i : Nat) : gl_ex (gl_kk gv tk pv op K (i + 1)) tk pv op u p (i + 1) = (gl_ex (gl_kk gv tk pv op K i) tk pv op u p i || (gl_kk gv tk pv op K (i + 1) i && (!(op i == 0) && (tk i == u && pv i == p)))) := by
  rw [gl_ex_s, gl_ex_cg (L := gl_kk gv tk pv op K i) tk pv op u p i (fun j hj => gl_kk_n (by omega))]
/-! what a drop leaves -/
def gl_dl (K : Nat → Bool) : Nat → Nat
  | 0 => 0
  | i + 1 => if K i = true then gl_dl K i + 1 else gl_dl K i
theorem gl_dl_t {K : Nat → Bool} {i : Nat} (h : K i = true) : gl_dl K (i + 1) = gl_dl K i + 1 := by
  show (if K i = true then _ else _) = _
  rw [if_pos h]
theorem gl_dl_f {K : Nat → Bool} {i : Nat} (h : K i = false) : gl_dl K (i + 1) = gl_dl K i := by
  show (if K i = true then _ else _) = _
  rw [if_neg (by rw [h]; decide)]
theorem gl_dl_le (K : Nat → Bool) : ∀ i, gl_dl K i ≤ i := by
  intro i
  induction i with
  | zero => exact Nat.le_refl 0
  | succ i ih =>
    show (if K i = true then gl_dl K i + 1 else gl_dl K i) ≤ i + 1
    split <;> omega
def gl_da (f : Int32 → Int32) (K : Nat → Bool) (a : Nat → Int32) : Nat → Nat → Int32
  | 0 => a
  | i + 1 => if K i = true then upd (gl_da f K a i) (gl_dl K i) (f (gl_da f K a i i)) else gl_da f K a i
theorem gl_da_t {f : Int32 → Int32} {K : Nat → Bool} {a : Nat → Int32} {i : Nat} (h : K i = true) : gl_da f K a (i + 1) = upd (gl_da f K a i) (gl_dl K i) (f (gl_da f K a i i)) := by
  show (if K i = true then _ else _) = _
  rw [if_pos h]
theorem gl_da_f {f : Int32 → Int32} {K : Nat → Bool} {a : Nat → Int32} {i : Nat} (h : K i = false) : gl_da f K a (i + 1) = gl_da f K a i := by
  show (if K i = true then _ else _) = _
  rw [if_neg (by rw [h]; decide)]
theorem gl_da_P {P : Int32 → Prop} {K : Nat → Bool} {a : Nat → Int32} {n : Nat} (h : ∀ j, j < n → P (a j)) : ∀ i, i ≤ n → ∀ j, j < n → P (gl_da (fun x => x) K a i j) := by
  intro i
  induction i with
  | zero => intro _; exact h
  | succ i ih =>
    intro hi j hj
    cases hK : K i
    · rw [gl_da_f hK]; exact ih (by omega) j hj
    · rw [gl_da_t hK]
      show P (if j = gl_dl K i then _ else _)
      split
      · exact ih (by omega) i (by omega)
      · exact ih (by omega) j hj
/-- the first n slots name users and privileges -/
def gl_ok (n : Nat) (gv tk pv : Nat → Int32) : Prop := (∀ j, j < n → ∃ g : Nat, g < 8 ∧ gv j = nI g) ∧ (∀ j, j < n → ∃ t : Nat, t < 8 ∧ tk j = nI t) ∧ (∀ j, j < n → ∃ p : Nat, p < 3 ∧ pv j = nI p)
theorem gl_ok_da {n : Nat} {gv tk pv : Nat → Int32} (K : Nat → Bool) (h : gl_ok n gv tk pv) : gl_ok (gl_dl K n) (gl_da (fun x => x) K gv n) (gl_da (fun x => x) K tk n) (gl_da (fun x => x) K pv n) := by
  have hl := gl_dl_le K n
  refine ⟨fun j hj => ?_, fun j hj => ?_, fun j hj => ?_⟩
  · exact gl_da_P (P := fun x => ∃ g : Nat, g < 8 ∧ x = nI g) h.1 n (Nat.le_refl n) j (by omega)
  · exact gl_da_P (P := fun x => ∃ g : Nat, g < 8 ∧ x = nI g) h.2.1 n (Nat.le_refl n) j (by omega)
  · exact gl_da_P (P := fun x => ∃ g : Nat, g < 3 ∧ x = nI g) h.2.2 n (Nat.le_refl n) j (by omega)
end
section
/-! part 2: the guards, and the loops that only read -/
theorem gl_br (a : Nat → Int32) {A B : Prop} {i : Nat} {y : Int32} (hi : i < 48) (f : a i = y → A) (g : ¬ a i = y → B) : (a (nI i).toNatClampNeg = y → A) ∧ (¬ a (nI i).toNatClampNeg = y → B) := by
  rw [nI_clamp (by omega)]
  exact ⟨f, g⟩
theorem gl_nx {P : Int32 → Prop} {i : Nat} (h : P (nI (i + 1))) : ∀ y : Int32, y = nI i + 1 → P y := nm_r (nI_1 i) h
theorem gl_8 : nI 8 = 8 := by decide +kernel
theorem gl_3 : nI 3 = 3 := by decide +kernel
theorem gl_7 : nI 7 = 7 := by decide +kernel
theorem gl_2 : nI 2 = 2 := by decide +kernel
theorem gl_48 : nI 48 = 48 := by decide +kernel
theorem gl_usr (x : Int32) : (x < 0 ∨ (¬ x < 0 ∧ 8 ≤ x ∧ ¬ x ≤ 7)) ∨ ∃ g : Nat, g < 8 ∧ x = nI g := by
  by_cases h0 : x < 0
  · exact Or.inl (Or.inl h0)
  · obtain ⟨j, hj, rfl⟩ := nI_of h0
    rcases Nat.lt_or_ge j 8 with h | h
    · exact Or.inr ⟨j, h, rfl⟩
    · refine Or.inl (Or.inr ⟨h0, ?_, ?_⟩)
      · rw [← gl_8]; exact nI_le h hj
      · rw [← gl_7]; exact nI_ge (by omega) hj
theorem gl_prv (x : Int32) : (x < 0 ∨ (¬ x < 0 ∧ 3 ≤ x ∧ ¬ x ≤ 2)) ∨ ∃ g : Nat, g < 3 ∧ x = nI g := by
  by_cases h0 : x < 0
  · exact Or.inl (Or.inl h0)
  · obtain ⟨j, hj, rfl⟩ := nI_of h0
    rcases Nat.lt_or_ge j 3 with h | h
    · exact Or.inr ⟨j, h, rfl⟩
    · refine Or.inl (Or.inr ⟨h0, ?_, ?_⟩)
      · rw [← gl_3]; exact nI_le h hj
      · rw [← gl_2]; exact nI_ge (by omega) hj
theorem gl_xub {post : Int32 → Prop} {x : Int32} (h : x < 0 ∨ (¬ x < 0 ∧ 8 ≤ x ∧ ¬ x ≤ 7)) (hp : post 0) : wpX_isUser post x := by
  rcases h with h | h
  · exact br_t h hp
  · exact br_f h.1 (br_t h.2.1 hp)
theorem gl_xuo {post : Int32 → Prop} {g : Nat} (h : g < 8) (hp : post 1) : wpX_isUser post (nI g) := by
  refine br_f (nI_pos (by omega)) (br_f ?_ hp)
  rw [← gl_8]
  exact nI_ge h (by omega)
theorem gl_xpb {post : Int32 → Prop} {x : Int32} (h : x < 0 ∨ (¬ x < 0 ∧ 3 ≤ x ∧ ¬ x ≤ 2)) (hp : post 0) : wpX_isPrivilege post x := by
  rcases h with h | h
  · exact br_t h hp
  · exact br_f h.1 (br_t h.2.1 hp)
theorem gl_xpo {post : Int32 → Prop} {g : Nat} (h : g < 3) (hp : post 1) : wpX_isPrivilege post (nI g) := by
  refine br_f (nI_pos (by omega)) (br_f ?_ hp)
  rw [← gl_3]
  exact nI_ge h (by omega)
theorem gl_yub {post : Int32 → Prop} {x : Int32} (h : x < 0 ∨ (¬ x < 0 ∧ 8 ≤ x ∧ ¬ x ≤ 7)) (hp : post 1) : wpY_bad post x := by
  rcases h with h | h
  · exact br_t h hp
  · exact br_f h.1 (br_f h.2.2 hp)
theorem gl_yuo {post : Int32 → Prop} {g : Nat} (h : g < 8) (hp : post 0) : wpY_bad post (nI g) := by
  refine br_f (nI_pos (by omega)) (br_t ?_ hp)
  rw [← gl_7]
  exact nI_le (by omega) (by omega)
theorem gl_ypb {post : Int32 → Prop} {x : Int32} (h : x < 0 ∨ (¬ x < 0 ∧ 3 ≤ x ∧ ¬ x ≤ 2)) (hp : post 1) : wpY_badPrivilege post x := by
  rcases h with h | h
  · exact br_t h hp
  · exact br_f h.1 (br_f h.2.2 hp)
theorem gl_ypo {post : Int32 → Prop} {g : Nat} (h : g < 3) (hp : post 0) : wpY_badPrivilege post (nI g) := by
  refine br_f (nI_pos (by omega)) (br_t ?_ hp)
  rw [← gl_2]
  exact nI_le (by omega) (by omega)
theorem gl_1n0 : ¬ (1 : Int32) = 0 := by decide
/-! may, hasRight -/
def gl_rt (tk pv op : Nat → Int32) (u p : Int32) (n : Nat) : Bool := u == 0 || gl_ex (fun _ => true) tk pv op u p n
theorem gl_xhr {post : Int32 → Prop} {u p x : Int32} {gv tk pv op tm : Nat → Int32} {n : Nat} (hn : n ≤ 48) (hp : post (gl_01 (gl_ex (fun _ => true) tk pv op u p n))) : ∀ d i, i + d = n → gl_ex (fun _ => true) tk pv op u p i = false → wX_hasRight_8 post u p (nI n) x gv tk pv op tm (d + 1) (nI i) := by
  intro d
  induction d with
  | zero =>
    intro i hi he
    have e : i = n := by omega
    subst e
    rw [he] at hp
    exact br_t (nI_le (Nat.le_refl i) (by omega)) hp
  | succ d ih =>
    intro i hi he
    have hin : vp_in (nI i) 48 := vp_in_nI (by omega) (by omega)
    have nx : gl_ex (fun _ => true) tk pv op u p (i + 1) = false → wX_hasRight_8 post u p (nI n) x gv tk pv op tm (d + 1) (nI (i + 1)) := fun h => ih (i + 1) (by omega) h
    refine br_f (nI_ge (by omega) (by omega)) ⟨hin, gl_br tk (by omega) (fun h1 => ⟨hin, gl_br pv (by omega) (fun h2 => ⟨hin, gl_br op (by omega) (fun h3 => gl_nx (nx ?_)) (fun h3 => ?_)⟩) (fun h2 => gl_nx (nx ?_))⟩) (fun h1 => gl_nx (nx ?_))⟩
    · simp [gl_ex_s, he, h3]
    · have t : gl_ex (fun _ => true) tk pv op u p (i + 1) = true := by simp [gl_ex_s, h1, h2, h3]
      have t2 := gl_ex_up t (n - (i + 1))
      rw [show i + 1 + (n - (i + 1)) = n by omega] at t2
      rw [t2] at hp
      exact hp
    · simp [gl_ex_s, he, h2]
    · simp [gl_ex_s, he, h1]
theorem gl_yma {post : Int32 → Prop} {u p x : Int32} {gv tk pv op tm kp : Nat → Int32} {n : Nat} (hn : n ≤ 48) (hp : post (gl_01 (gl_rt tk pv op u p n))) : ∀ d i, i + d = n → gl_ex (fun _ => true) tk pv op u p i = false → wY_may_18 post u p (nI n) x tm gv tk pv op kp (d + 1) (nI i) := by
  intro d
  induction d with
  | zero =>
    intro i hi he
    have e : i = n := by omega
    subst e
    unfold gl_rt at hp
    rw [he, Bool.or_false] at hp
    refine br_t (nI_le (Nat.le_refl i) (by omega)) ?_
    by_cases h : u = 0
    · subst h; exact br_t rfl hp
    · rw [beq_false_of_ne h] at hp; exact br_f h hp
  | succ d ih =>
    intro i hi he
    have hin : vp_in (nI i) 48 := vp_in_nI (by omega) (by omega)
    have nx : gl_ex (fun _ => true) tk pv op u p (i + 1) = false → wY_may_18 post u p (nI n) x tm gv tk pv op kp (d + 1) (nI (i + 1)) := fun h => ih (i + 1) (by omega) h
    refine br_f (nI_ge (by omega) (by omega)) ⟨hin, gl_br tk (by omega) (fun h1 => ⟨hin, gl_br pv (by omega) (fun h2 => ⟨hin, gl_br op (by omega) (fun h3 => gl_nx (nx ?_)) (fun h3 => ?_)⟩) (fun h2 => gl_nx (nx ?_))⟩) (fun h1 => gl_nx (nx ?_))⟩
    · simp [gl_ex_s, he, h3]
    · have t : gl_ex (fun _ => true) tk pv op u p (i + 1) = true := by simp [gl_ex_s, h1, h2, h3]
      have t2 := gl_ex_up t (n - (i + 1))
      rw [show i + 1 + (n - (i + 1)) = n by omega] at t2
      unfold gl_rt at hp
      rw [t2, Bool.or_true] at hp
      exact hp
    · simp [gl_ex_s, he, h2]
    · simp [gl_ex_s, he, h1]
theorem gl_xright {post : Int32 → Prop} {u p x : Int32} {gv tk pv op tm : Nat → Int32} {n : Nat} (hn : n ≤ 48) (hp : post (gl_01 (gl_rt tk pv op u p n))) : wpX_hasRight post (nI n, x, gv, tk, pv, op, tm) u p := by
  unfold wpX_hasRight
  unfold gl_rt at hp
  by_cases h : u = 0
  · subst h; exact br_t rfl hp
  · rw [beq_false_of_ne h, Bool.false_or] at hp
    refine br_f h ⟨n + 1, ?_⟩
    exact gl_xhr hn hp n 0 (by omega) rfl
theorem gl_ymayo {post : Int32 → Prop} {u p : Nat} {x : Int32} {gv tk pv op tm kp : Nat → Int32} {n : Nat} (hu : u < 8) (hq : p < 3) (hn : n ≤ 48) (hp : post (gl_01 (gl_rt tk pv op (nI u) (nI p) n))) : wpY_may post (nI n, x, tm, gv, tk, pv, op, kp) (nI u) (nI p) := by
  unfold wpY_may
  refine gl_yuo hu (br_t rfl (gl_ypo hq (br_t rfl ⟨n + 1, ?_⟩)))
  exact gl_yma hn hp n 0 (by omega) rfl
/-! received, given -/
theorem gl_xrc {post : Int32 → Prop} {u p x : Int32} {gv tk pv op tm : Nat → Int32} {n : Nat} (hn : n ≤ 48) (hp : post (nI (gl_cn (fun j => tk j == u && pv j == p) n))) : ∀ d i, i + d = n → wX_countReceived_5 post u p (nI n) x gv tk pv op tm (d + 1) (nI (gl_cn (fun j => tk j == u && pv j == p) i)) (nI i) := by
  intro d
  induction d with
  | zero =>
    intro i hi
    have e : i = n := by omega
    subst e
    exact br_t (nI_le (Nat.le_refl i) (by omega)) hp
  | succ d ih =>
    intro i hi
    have hin : vp_in (nI i) 48 := vp_in_nI (by omega) (by omega)
    have nx := ih (i + 1) (by omega)
    have nf : ((fun j => tk j == u && pv j == p) : Nat → Bool) i = false → wX_countReceived_5 post u p (nI n) x gv tk pv op tm (d + 1) (nI (gl_cn (fun j => tk j == u && pv j == p) i)) (nI (i + 1)) := fun h => by rw [gl_cn_f h] at nx; exact nx
    refine br_f (nI_ge (by omega) (by omega)) ⟨hin, gl_br tk (by omega) (fun h1 => ⟨hin, gl_br pv (by omega) (fun h2 => ?_) (fun h2 => gl_nx (nf ?_))⟩) (fun h1 => gl_nx (nf ?_))⟩
    · rw [gl_cn_t (P := (fun j => tk j == u && pv j == p)) (by simp [h1, h2])] at nx
      exact nm_r (nI_1 _) (gl_nx nx)
    · simp [h2]
    · simp [h1]
theorem gl_yrc {post : Int32 → Prop} {u p x : Int32} {gv tk pv op tm kp : Nat → Int32} {n : Nat} (hn : n ≤ 48) (hp : post (nI (gl_cn (fun j => tk j == u && pv j == p) n))) : ∀ d i, i + d = n → wY_received_21 post u p (nI n) x tm gv tk pv op kp (d + 1) (nI (gl_cn (fun j => tk j == u && pv j == p) i)) (nI i) := by
  intro d
  induction d with
  | zero =>
    intro i hi
    have e : i = n := by omega
    subst e
    exact br_t (nI_le (Nat.le_refl i) (by omega)) hp
  | succ d ih =>
    intro i hi
    have hin : vp_in (nI i) 48 := vp_in_nI (by omega) (by omega)
    have nx := ih (i + 1) (by omega)
    have nf : ((fun j => tk j == u && pv j == p) : Nat → Bool) i = false → wY_received_21 post u p (nI n) x tm gv tk pv op kp (d + 1) (nI (gl_cn (fun j => tk j == u && pv j == p) i)) (nI (i + 1)) := fun h => by rw [gl_cn_f h] at nx; exact nx
    refine br_f (nI_ge (by omega) (by omega)) ⟨hin, gl_br tk (by omega) (fun h1 => ⟨hin, gl_br pv (by omega) (fun h2 => ?_) (fun h2 => gl_nx (nf ?_))⟩) (fun h1 => gl_nx (nf ?_))⟩
    · rw [gl_cn_t (P := (fun j => tk j == u && pv j == p)) (by simp [h1, h2])] at nx
      exact nm_r (nI_1 _) (gl_nx nx)
    · simp [h2]
    · simp [h1]
theorem gl_xgi {post : Int32 → Prop} {u p x : Int32} {gv tk pv op tm : Nat → Int32} {n : Nat} (hn : n ≤ 48) (hp : post (nI (gl_cn (fun j => gv j == u && pv j == p) n))) : ∀ d i, i + d = n → wX_given_21 post u p (nI n) x gv tk pv op tm (d + 1) (nI (gl_cn (fun j => gv j == u && pv j == p) i)) (nI i) := by
  intro d
  induction d with
  | zero =>
    intro i hi
    have e : i = n := by omega
    subst e
    exact br_t (nI_le (Nat.le_refl i) (by omega)) hp
  | succ d ih =>
    intro i hi
    have hin : vp_in (nI i) 48 := vp_in_nI (by omega) (by omega)
    have nx := ih (i + 1) (by omega)
    have nf : ((fun j => gv j == u && pv j == p) : Nat → Bool) i = false → wX_given_21 post u p (nI n) x gv tk pv op tm (d + 1) (nI (gl_cn (fun j => gv j == u && pv j == p) i)) (nI (i + 1)) := fun h => by rw [gl_cn_f h] at nx; exact nx
    refine br_f (nI_ge (by omega) (by omega)) ⟨hin, gl_br gv (by omega) (fun h1 => ⟨hin, gl_br pv (by omega) (fun h2 => ?_) (fun h2 => gl_nx (nf ?_))⟩) (fun h1 => gl_nx (nf ?_))⟩
    · rw [gl_cn_t (P := (fun j => gv j == u && pv j == p)) (by simp [h1, h2])] at nx
      exact nm_r (nI_1 _) (gl_nx nx)
    · simp [h2]
    · simp [h1]
theorem gl_ygi {post : Int32 → Prop} {u p x : Int32} {gv tk pv op tm kp : Nat → Int32} {n : Nat} (hn : n ≤ 48) (hp : post (nI (gl_cn (fun j => gv j == u && pv j == p) n))) : ∀ d i, i + d = n → wY_given_21 post u p (nI n) x tm gv tk pv op kp (d + 1) (nI (gl_cn (fun j => gv j == u && pv j == p) i)) (nI i) := by
  intro d
  induction d with
  | zero =>
    intro i hi
    have e : i = n := by omega
    subst e
    exact br_t (nI_le (Nat.le_refl i) (by omega)) hp
  | succ d ih =>
    intro i hi
    have hin : vp_in (nI i) 48 := vp_in_nI (by omega) (by omega)
    have nx := ih (i + 1) (by omega)
    have nf : ((fun j => gv j == u && pv j == p) : Nat → Bool) i = false → wY_given_21 post u p (nI n) x tm gv tk pv op kp (d + 1) (nI (gl_cn (fun j => gv j == u && pv j == p) i)) (nI (i + 1)) := fun h => by rw [gl_cn_f h] at nx; exact nx
    refine br_f (nI_ge (by omega) (by omega)) ⟨hin, gl_br gv (by omega) (fun h1 => ⟨hin, gl_br pv (by omega) (fun h2 => ?_) (fun h2 => gl_nx (nf ?_))⟩) (fun h1 => gl_nx (nf ?_))⟩
    · rw [gl_cn_t (P := (fun j => gv j == u && pv j == p)) (by simp [h1, h2])] at nx
      exact nm_r (nI_1 _) (gl_nx nx)
    · simp [h2]
    · simp [h1]
/-! stands -/
def gl_an (P : Nat → Bool) : Nat → Bool
  | 0 => false
  | i + 1 => gl_an P i || P i
theorem gl_an_s (P : Nat → Bool) (i : Nat) : gl_an P (i + 1) = (gl_an P i || P i) := rfl
theorem gl_an_up {P : Nat → Bool} {i : Nat} (h : gl_an P i = true) : ∀ m, gl_an P (i + m) = true := by
  intro m
  induction m with
  | zero => exact h
  | succ m ih =>
    show gl_an P ((i + m) + 1) = true
    rw [gl_an_s, ih, Bool.true_or]
theorem gl_xst {post : Int32 → Prop} {t x : Int32} {gv tk pv op tm : Nat → Int32} {n : Nat} (hn : n ≤ 48) (hp : post (gl_01 (gl_an (fun j => tm j == t) n))) : ∀ d i, i + d = n → gl_an (fun j => tm j == t) i = false → wX_stands_2 post t (nI n) x gv tk pv op tm (d + 1) (nI i) := by
  intro d
  induction d with
  | zero =>
    intro i hi he
    have e : i = n := by omega
    subst e
    rw [he] at hp
    exact br_t (nI_le (Nat.le_refl i) (by omega)) hp
  | succ d ih =>
    intro i hi he
    have hin : vp_in (nI i) 48 := vp_in_nI (by omega) (by omega)
    refine br_f (nI_ge (by omega) (by omega)) ⟨hin, gl_br tm (by omega) (fun h1 => ?_) (fun h1 => gl_nx (ih (i + 1) (by omega) ?_))⟩
    · have t1 : gl_an (fun j => tm j == t) (i + 1) = true := by simp [gl_an_s, h1]
      have t2 := gl_an_up t1 (n - (i + 1))
      rw [show i + 1 + (n - (i + 1)) = n by omega] at t2
      rw [t2] at hp
      exact hp
    · simp [gl_an_s, he, h1]
theorem gl_yst {post : Int32 → Prop} {t x : Int32} {gv tk pv op tm kp : Nat → Int32} {n : Nat} (hn : n ≤ 48) (hp : post (gl_01 (gl_an (fun j => tm j == t) n))) : ∀ d i, i + d = n → gl_an (fun j => tm j == t) i = false → wY_stands_2 post t (nI n) x tm gv tk pv op kp (d + 1) (nI i) := by
  intro d
  induction d with
  | zero =>
    intro i hi he
    have e : i = n := by omega
    subst e
    rw [he] at hp
    exact br_t (nI_le (Nat.le_refl i) (by omega)) hp
  | succ d ih =>
    intro i hi he
    have hin : vp_in (nI i) 48 := vp_in_nI (by omega) (by omega)
    refine br_f (nI_ge (by omega) (by omega)) ⟨hin, gl_br tm (by omega) (fun h1 => ?_) (fun h1 => gl_nx (ih (i + 1) (by omega) ?_))⟩
    · have t1 : gl_an (fun j => tm j == t) (i + 1) = true := by simp [gl_an_s, h1]
      have t2 := gl_an_up t1 (n - (i + 1))
      rw [show i + 1 + (n - (i + 1)) = n by omega] at t2
      rw [t2] at hp
      exact hp
    · simp [gl_an_s, he, h1]
end
section
/-! part 3: the component's sets of slots, its pass, its drop -/
theorem gl_isin {post : Int32 → Prop} {w : Int64} {i : Nat} (hi : i < 64) (f : gl_b w i = false → post 0) (g : gl_b w i = true → post 1) : wpX_isIn post (nI i) w := by
  cases h : gl_b w i
  · exact br_t ((gl_bt w hi).mpr h) (f h)
  · exact br_f (fun z => by rw [(gl_bt w hi).mp z] at h; exact absurd h (by decide)) (g h)
/-- w holds just the slots below i of which M says true -/
def gl_set (w : Int64) (i : Nat) (M : Nat → Bool) : Prop := ∀ j, gl_b w j = (decide (j < i) && M j)
theorem gl_set_0 (M : Nat → Bool) : gl_set 0 0 M := fun j => by rw [gl_b0]; simp
theorem gl_set_t {w : Int64} {i : Nat} {M : Nat → Bool} (h : gl_set w i M) (hi : i < 64) (hM : M i = true) : gl_set (w ||| ((1 : Int64) <<< ((nI i).toInt64 &&& 63))) (i + 1) M := by
  intro j
  rw [gl_bor w hi, h j]
  rcases Nat.lt_trichotomy j i with z | z | z
  · simp [z, show j < i + 1 by omega, show ¬ i = j by omega]
  · subst z; simp [hM]
  · simp [show ¬ j < i by omega, show ¬ j < i + 1 by omega, show ¬ i = j by omega]
theorem gl_set_f {w : Int64} {i : Nat} {M : Nat → Bool} (h : gl_set w i M) (hM : M i = false) : gl_set w (i + 1) M := by
  intro j
  rw [h j]
  rcases Nat.lt_trichotomy j i with z | z | z
  · simp [z, show j < i + 1 by omega]
  · subst z; simp [hM]
  · simp [show ¬ j < i by omega, show ¬ j < i + 1 by omega]
def gl_mb (gv tk pv : Nat → Int32) (a b p : Int32) : Nat → Bool := fun j => gv j == a && (tk j == b && pv j == p)
def gl_mt (gv tk : Nat → Int32) (a : Int32) : Nat → Bool := fun j => gv j == a || tk j == a
theorem gl_xsb {post : Int64 → Prop} {a b p x : Int32} {gv tk pv op tm : Nat → Int32} {n : Nat} (hn : n ≤ 48) (hp : ∀ w, gl_set w n (gl_mb gv tk pv a b p) → post w) : ∀ d i w, i + d = n → gl_set w i (gl_mb gv tk pv a b p) → wX_slotsBetween_6 post a b p (nI n) x gv tk pv op tm (d + 1) w (nI i) := by
  intro d
  induction d with
  | zero =>
    intro i w hi hw
    have e : i = n := by omega
    subst e
    exact br_t (nI_le (Nat.le_refl i) (by omega)) (hp w hw)
  | succ d ih =>
    intro i w hi hw
    have hin : vp_in (nI i) 48 := vp_in_nI (by omega) (by omega)
    have nf : gl_mb gv tk pv a b p i = false → wX_slotsBetween_6 post a b p (nI n) x gv tk pv op tm (d + 1) w (nI (i + 1)) := fun h => ih (i + 1) w (by omega) (gl_set_f hw h)
    refine br_f (nI_ge (by omega) (by omega)) ⟨hin, gl_br gv (by omega) (fun h1 => ⟨hin, gl_br tk (by omega) (fun h2 => ⟨hin, gl_br pv (by omega) (fun h3 => nm_e (gl_nx (ih (i + 1) _ (by omega) (gl_set_t hw (by omega) ?_)))) (fun h3 => gl_nx (nf ?_))⟩) (fun h2 => gl_nx (nf ?_))⟩) (fun h1 => gl_nx (nf ?_))⟩
    · simp [gl_mb, h1, h2, h3]
    · simp [gl_mb, h3]
    · simp [gl_mb, h2]
    · simp [gl_mb, h1]
theorem gl_xbetween {post : Int64 → Prop} {a b p x : Int32} {gv tk pv op tm : Nat → Int32} {n : Nat} (hn : n ≤ 48) (hp : ∀ w, gl_set w n (gl_mb gv tk pv a b p) → post w) : wpX_slotsBetween post (nI n, x, gv, tk, pv, op, tm) a b p := by
  unfold wpX_slotsBetween
  refine ⟨n + 1, ?_⟩
  exact gl_xsb hn hp n 0 0 (by omega) (gl_set_0 _)
theorem gl_xst36 {post : Int64 → Prop} {J : Int64 → Int32 → Prop} {a x : Int32} {w : Int64} {gv tk pv op tm : Nat → Int32} {n i : Nat} (h : J (w ||| ((1 : Int64) <<< ((nI i).toInt64 &&& 63))) (nI (i + 1))) : wX_slotsTouching_36 post J a w (nI i) (nI n) x gv tk pv op tm := by
  unfold wX_slotsTouching_36
  exact nm_e (gl_nx h)
theorem gl_xto {post : Int64 → Prop} {a x : Int32} {gv tk pv op tm : Nat → Int32} {n : Nat} (hn : n ≤ 48) (hp : ∀ w, gl_set w n (gl_mt gv tk a) → post w) : ∀ d i w, i + d = n → gl_set w i (gl_mt gv tk a) → wX_slotsTouching_5 post a (nI n) x gv tk pv op tm (d + 1) w (nI i) := by
  intro d
  induction d with
  | zero =>
    intro i w hi hw
    have e : i = n := by omega
    subst e
    exact br_t (nI_le (Nat.le_refl i) (by omega)) (hp w hw)
  | succ d ih =>
    intro i w hi hw
    have hin : vp_in (nI i) 48 := vp_in_nI (by omega) (by omega)
    refine br_f (nI_ge (by omega) (by omega)) ⟨hin, gl_br gv (by omega) (fun h1 => gl_xst36 (ih (i + 1) _ (by omega) (gl_set_t hw (by omega) ?_))) (fun h1 => ⟨hin, gl_br tk (by omega) (fun h2 => gl_xst36 (ih (i + 1) _ (by omega) (gl_set_t hw (by omega) ?_))) (fun h2 => gl_nx (ih (i + 1) w (by omega) (gl_set_f hw ?_)))⟩)⟩
    · simp [gl_mt, h1]
    · simp [gl_mt, h2]
    · simp [gl_mt, h1, h2]
theorem gl_xtouching {post : Int64 → Prop} {a x : Int32} {gv tk pv op tm : Nat → Int32} {n : Nat} (hn : n ≤ 48) (hp : ∀ w, gl_set w n (gl_mt gv tk a) → post w) : wpX_slotsTouching post (nI n, x, gv, tk, pv, op, tm) a := by
  unfold wpX_slotsTouching
  refine ⟨n + 1, ?_⟩
  exact gl_xto hn hp n 0 0 (by omega) (gl_set_0 _)
/-! the pass -/
theorem gl_n1 {b : Bool} (h : false = !b) : b = true := by
  cases b
  · exact absurd h (by decide)
  · rfl
theorem gl_n2 {b : Bool} (h : true = !b) : b = false := by
  cases b
  · rfl
  · exact absurd h (by decide)
theorem gl_ro {post : Int32 → Prop} {a b : Int32} {g q : Nat} (ha : a = nI g) (hb : b = nI q) (h : post ((1 : Int32) <<< (nI (g * 3 + q) &&& 31))) : wpX_rightOf post a b := by
  subst ha hb
  have e : nI g * 3 + nI q = nI (g * 3 + q) := by rw [← nI_add, ← pk_mul, gl_3]
  unfold wpX_rightOf
  rw [e]
  exact h
/-- the bits of r are the rights that the kept ones below i give -/
def gl_rts (r : Int32) (K : Nat → Bool) (tk pv op : Nat → Int32) (i : Nat) : Prop := ∀ u p : Nat, u < 8 → p < 3 → bt r (u * 3 + p) = gl_ex K tk pv op (nI u) (nI p) i
theorem gl_rts_0 (K : Nat → Bool) (tk pv op : Nat → Int32) : gl_rts 0 K tk pv op 0 := fun u p _ _ => b_0 _
section
variable {gv tk pv op tm : Nat → Int32} {K : Nat → Bool} {n i : Nat} {w : Int64} {r x : Int32}
theorem gl_st_same (h : gl_kk gv tk pv op K (i + 1) i = gl_kk gv tk pv op K i i) (hw : gl_set w n (fun j => !(gl_kk gv tk pv op K i j))) : gl_set w n (fun j => !(gl_kk gv tk pv op K (i + 1) j)) := by
  intro j
  rw [hw j]
  dsimp only
  by_cases z : j = i
  · subst z; rw [h]
  · rw [gl_kk_n z]
theorem gl_st_fall (hi : i < n) (hn : n ≤ 48) (h1 : gl_kk gv tk pv op K (i + 1) i = false) (hw : gl_set w n (fun j => !(gl_kk gv tk pv op K i j))) : gl_set (w ||| ((1 : Int64) <<< ((nI i).toInt64 &&& 63))) n (fun j => !(gl_kk gv tk pv op K (i + 1) j)) := by
  intro j
  rw [gl_bor w (by omega), hw j]
  dsimp only
  by_cases z : j = i
  · subst z; simp [h1, hi]
  · rw [gl_kk_n z]; simp [show ¬ i = j by omega]
theorem gl_rt_same (h : gl_kk gv tk pv op K (i + 1) i = false ∨ op i = 0) (hr : gl_rts r (gl_kk gv tk pv op K i) tk pv op i) : gl_rts r (gl_kk gv tk pv op K (i + 1)) tk pv op (i + 1) := by
  intro u p hu hp
  rw [hr u p hu hp, gl_ex_k]
  rcases h with h | h
  · rw [h]; simp
  · simp [h]
theorem gl_rt_grow {t q : Nat} (ht : t < 8) (hq : q < 3) (et : tk i = nI t) (eq : pv i = nI q) (h : gl_kk gv tk pv op K (i + 1) i = true) (ho : ¬ op i = 0) (hr : gl_rts r (gl_kk gv tk pv op K i) tk pv op i) : gl_rts (r ||| ((1 : Int32) <<< (nI (t * 3 + q) &&& 31))) (gl_kk gv tk pv op K (i + 1)) tk pv op (i + 1) := by
  intro u p hu hp
  have e1 : (nI t == nI u) = decide (t = u) := by
    by_cases z : t = u
    · subst z; simp
    · rw [decide_eq_false z]; exact beq_false_of_ne (fun y => z ((nI_eq (by omega) (by omega)).mp y))
  have e2 : (nI q == nI p) = decide (q = p) := by
    by_cases z : q = p
    · subst z; simp
    · rw [decide_eq_false z]; exact beq_false_of_ne (fun y => z ((nI_eq (by omega) (by omega)).mp y))
  have e3 : decide (t * 3 + q = u * 3 + p) = (decide (t = u) && decide (q = p)) := by
    rw [← Bool.decide_and]
    exact decide_eq_decide.mpr ⟨fun y => by omega, fun y => by omega⟩
  rw [gl_ror r (by omega), hr u p hu hp, gl_ex_k, h, et, eq, e1, e2, e3, beq_false_of_ne ho]
  rfl
theorem gl_xwf76 {post : Int64 → Prop} {J : Int64 → Int32 → Int32 → Prop} (hn : n ≤ 48) (hi : i < n) (hok : gl_ok n gv tk pv) (h : gl_kk gv tk pv op K (i + 1) i = true) (hr : gl_rts r (gl_kk gv tk pv op K i) tk pv op i) (hJ : ∀ r', gl_rts r' (gl_kk gv tk pv op K (i + 1)) tk pv op (i + 1) → J w r' (nI (i + 1))) : wX_withFallen_76 post J w r (nI i) (nI n) x gv tk pv op tm := by
  have hin : vp_in (nI i) 48 := vp_in_nI (by omega) (by omega)
  obtain ⟨t, ht, et⟩ := hok.2.1 i hi
  obtain ⟨q, hq, eq⟩ := hok.2.2 i hi
  unfold wX_withFallen_76
  refine ⟨hin, gl_br op (by omega) (fun h3 => gl_nx (hJ r (gl_rt_same (Or.inr h3) hr))) (fun h3 => ⟨hin, hin, gl_ro (g := t) (q := q) ?_ ?_ (nm_e (gl_nx (hJ _ (gl_rt_grow ht hq et eq h h3 hr))))⟩)⟩
  · rw [nI_clamp (by omega)]; exact et
  · rw [nI_clamp (by omega)]; exact eq
end
theorem gl_xwf {post : Int64 → Prop} {gv tk pv op tm : Nat → Int32} {K : Nat → Bool} {n : Nat} {x : Int32} (hn : n ≤ 48) (hok : gl_ok n gv tk pv) (hp : ∀ w, gl_set w n (fun j => !(gl_kk gv tk pv op K n j)) → post w) : ∀ d i w r, i + d = n → gl_set w n (fun j => !(gl_kk gv tk pv op K i j)) → gl_rts r (gl_kk gv tk pv op K i) tk pv op i → wX_withFallen_8 post (nI n) x gv tk pv op tm (d + 1) w r (nI i) := by
  intro d
  induction d with
  | zero =>
    intro i w r hi hw hr
    have e : i = n := by omega
    subst e
    exact br_t (nI_le (Nat.le_refl i) (by omega)) (hp w hw)
  | succ d ih =>
    intro i w r hi hw hr
    have hin : vp_in (nI i) 48 := vp_in_nI (by omega) (by omega)
    have hlt : i < n := by omega
    obtain ⟨g, hg, eg⟩ := hok.1 i hlt
    obtain ⟨q, hq, eq⟩ := hok.2.2 i hlt
    have hb : gl_b w i = !(gl_kk gv tk pv op K i i) := by rw [hw i]; simp [hlt]
    have ks := gl_kk_s (gv := gv) (tk := tk) (pv := pv) (op := op) (K := K) i
    have hbit : bt r (g * 3 + q) = gl_ex (gl_kk gv tk pv op K i) tk pv op (gv i) (pv i) i := by rw [eg, eq]; exact hr g q hg hq
    refine br_f (nI_ge hlt (by omega)) (gl_isin (by omega) (fun h => br_t rfl ⟨hin, hin, gl_ro (g := g) (q := q) ?_ ?_ ⟨hin, gl_br gv (by omega) (fun h1 => ?_) (fun h1 => ?_)⟩⟩) (fun h => br_f gl_1n0 (gl_nx ?_)))
    · rw [nI_clamp (by omega)]; exact eg
    · rw [nI_clamp (by omega)]; exact eq
    · have k1 : gl_kk gv tk pv op K i i = true := gl_n1 (h.symm.trans hb)
      have k2 : gl_kk gv tk pv op K (i + 1) i = true := by rw [ks, k1, h1]; rfl
      exact gl_xwf76 hn hlt hok k2 hr (fun r' hr' => ih (i + 1) w r' (by omega) (gl_st_same (k2.trans k1.symm) hw) hr')
    · have k1 : gl_kk gv tk pv op K i i = true := gl_n1 (h.symm.trans hb)
      rw [k1, beq_false_of_ne h1, Bool.true_and, Bool.false_or, ← hbit] at ks
      cases hB : bt r (g * 3 + q)
      · rw [hB] at ks
        exact br_t ((gl_rand r (by omega)).mpr hB) (nm_e (gl_nx (ih (i + 1) _ r (by omega) (gl_st_fall hlt hn ks hw) (gl_rt_same (Or.inl ks) hr))))
      · rw [hB] at ks
        exact br_f (fun z => by rw [(gl_rand r (by omega)).mp z] at hB; exact absurd hB (by decide)) (gl_xwf76 hn hlt hok ks hr (fun r' hr' => ih (i + 1) w r' (by omega) (gl_st_same (ks.trans k1.symm) hw) hr'))
    · have k1 : gl_kk gv tk pv op K i i = false := gl_n2 (h.symm.trans hb)
      have k2 : gl_kk gv tk pv op K (i + 1) i = false := by rw [ks, k1, Bool.false_and]
      exact ih (i + 1) w r (by omega) (gl_st_same (k2.trans k1.symm) hw) (gl_rt_same (Or.inl k2) hr)
theorem gl_xfallen {post : Int64 → Prop} {gv tk pv op tm : Nat → Int32} {M : Nat → Bool} {n : Nat} {x : Int32} {w : Int64} (hn : n ≤ 48) (hok : gl_ok n gv tk pv) (hw : gl_set w n M) (hp : ∀ w', gl_set w' n (fun j => !(gl_kk gv tk pv op (fun j => !(M j)) n j)) → post w') : wpX_withFallen post (nI n, x, gv, tk, pv, op, tm) w := by
  unfold wpX_withFallen
  refine ⟨n + 1, ?_⟩
  refine gl_xwf (K := fun j => !(M j)) hn hok hp n 0 w 0 (by omega) ?_ (gl_rts_0 _ _ _ _)
  intro j
  rw [hw j]
  show _ = (decide (j < n) && !(!(M j)))
  rw [Bool.not_not]
/-! its size -/
theorem gl_xsz {post : Int32 → Prop} {w : Int64} (hp : post (nI (gl_cn (gl_b w) 48))) : ∀ d i, i + d = 48 → wX_sizeOf_4 post w (d + 1) (nI (gl_cn (gl_b w) i)) (nI i) := by
  intro d
  induction d with
  | zero =>
    intro i hi
    have e : i = 48 := by omega
    subst e
    refine br_t ?_ hp
    rw [← gl_48]
    exact nI_le (Nat.le_refl 48) (by omega)
  | succ d ih =>
    intro i hi
    have nx := ih (i + 1) (by omega)
    refine br_f ?_ (gl_isin (by omega) (fun h => br_t rfl (gl_nx ?_)) (fun h => br_f gl_1n0 (nm_r (nI_1 _) (gl_nx ?_))))
    · rw [← gl_48]; exact nI_ge (by omega) (by omega)
    · rw [gl_cn_f h] at nx; exact nx
    · rw [gl_cn_t h] at nx; exact nx
theorem gl_xsize {post : Int32 → Prop} {w : Int64} {n : Nat} {M : Nat → Bool} (hn : n ≤ 48) (hw : gl_set w n M) (hp : post (nI (gl_cn M n))) : wpX_sizeOf post w := by
  have e : gl_cn (gl_b w) 48 = gl_cn M n := by
    have t := gl_cn_tl (P := gl_b w) (n := n) (fun j hj => by rw [hw j]; simp [show ¬ j < n by omega]) (48 - n)
    rw [show n + (48 - n) = 48 by omega] at t
    rw [t]
    exact gl_cn_cg n (fun j hj => by rw [hw j]; simp [hj])
  unfold wpX_sizeOf
  refine ⟨49, ?_⟩
  rw [← e] at hp
  exact gl_xsz hp 48 0 (by omega)
/-! its drop -/
theorem gl_xmv {post : SX → Prop} {c x : Int32} {gv tk pv op tm : Nat → Int32} {i l : Nat} (hi : i < 48) (hl : l < 48) (hp : post (c, x, upd gv l (gv i), upd tk l (tk i), upd pv l (pv i), upd op l (vp_nar .boolean (op i)), upd tm l (tm i))) : wpX_move post (c, x, gv, tk, pv, op, tm) (nI i) (nI l) := by
  have h1 : vp_in (nI i) 48 := vp_in_nI hi (by omega)
  have h2 : vp_in (nI l) 48 := vp_in_nI hl (by omega)
  have e1 : (nI i).toNatClampNeg = i := nI_clamp (by omega)
  have e2 : (nI l).toNatClampNeg = l := nI_clamp (by omega)
  unfold wpX_move
  dsimp only
  rw [e1, e2]
  exact ⟨h1, h2, nm_e ⟨h1, h2, nm_e ⟨h1, h2, nm_e ⟨h1, h2, nm_e ⟨h1, h2, nm_e hp⟩⟩⟩⟩⟩
theorem gl_xdr {post : SX → Prop} {gv tk pv op tm : Nat → Int32} {K : Nat → Bool} {n : Nat} {x : Int32} {w : Int64} (hn : n ≤ 48) (hw : ∀ j, j < n → gl_b w j = !(K j)) (hp : post (nI (gl_dl K n), x, gl_da (fun y => y) K gv n, gl_da (fun y => y) K tk n, gl_da (fun y => y) K pv n, gl_da (fun y => vp_nar .boolean y) K op n, gl_da (fun y => y) K tm n)) : ∀ d i, i + d = n → wX_drop_5 post w (d + 1) (nI (gl_dl K i)) (nI i) (nI n) x (gl_da (fun y => y) K gv i) (gl_da (fun y => y) K tk i) (gl_da (fun y => y) K pv i) (gl_da (fun y => vp_nar .boolean y) K op i) (gl_da (fun y => y) K tm i) := by
  intro d
  induction d with
  | zero =>
    intro i hi
    have e : i = n := by omega
    subst e
    exact br_t (nI_le (Nat.le_refl i) (by omega)) hp
  | succ d ih =>
    intro i hi
    have nx := ih (i + 1) (by omega)
    have hl := gl_dl_le K i
    have hb := hw i (by omega)
    refine br_f (nI_ge (by omega) (by omega)) (gl_isin (by omega) (fun h => br_t rfl (gl_xmv (by omega) (by omega) ?_)) (fun h => br_f gl_1n0 (gl_nx ?_)))
    · have k1 : K i = true := gl_n1 (h.symm.trans hb)
      rw [gl_dl_t k1, gl_da_t k1, gl_da_t k1, gl_da_t k1, gl_da_t k1, gl_da_t k1] at nx
      exact nm_r (nI_1 _) (gl_nx nx)
    · have k1 : K i = false := gl_n2 (h.symm.trans hb)
      rw [gl_dl_f k1, gl_da_f k1, gl_da_f k1, gl_da_f k1, gl_da_f k1, gl_da_f k1] at nx
      exact nx
theorem gl_xdrop {post : SX → Prop} {gv tk pv op tm : Nat → Int32} {K : Nat → Bool} {n : Nat} {x : Int32} {w : Int64} (hn : n ≤ 48) (hw : ∀ j, j < n → gl_b w j = !(K j)) (hp : post (nI (gl_dl K n), x, gl_da (fun y => y) K gv n, gl_da (fun y => y) K tk n, gl_da (fun y => y) K pv n, gl_da (fun y => vp_nar .boolean y) K op n, gl_da (fun y => y) K tm n)) : wpX_drop post (nI n, x, gv, tk, pv, op, tm) w := by
  unfold wpX_drop
  refine ⟨n + 1, ?_⟩
  exact gl_xdr hn hw hp n 0 (by omega)
theorem gl_xtake {post : Int32 → SX → Prop} {gv tk pv op tm : Nat → Int32} {M K : Nat → Bool} {n : Nat} {x : Int32} {w : Int64} (hn : n ≤ 48) (hok : gl_ok n gv tk pv) (hw : gl_set w n M) (hK : K = gl_kk gv tk pv op (fun j => !(M j)) n) (hp : post (nI (gl_cn (fun j => !(K j)) n)) (nI (gl_dl K n), x, gl_da (fun y => y) K gv n, gl_da (fun y => y) K tk n, gl_da (fun y => y) K pv n, gl_da (fun y => vp_nar .boolean y) K op n, gl_da (fun y => y) K tm n)) : wpX_takeBack post (nI n, x, gv, tk, pv, op, tm) w := by
  subst hK
  unfold wpX_takeBack
  dsimp only
  refine gl_xfallen hn hok hw (fun w' hw' => ?_)
  refine gl_xdrop (K := gl_kk gv tk pv op (fun j => !(M j)) n) hn (fun j hj => by rw [hw' j]; simp [hj]) ?_
  exact gl_xsize hn hw' hp
end
section
/-! part 4: the reference's pass and its drop -/
theorem gl_tf {b : Bool} (h : ¬ b = false) : b = true := by
  cases b
  · exact absurd rfl h
  · rfl
theorem gl_vb0 : vp_nar .boolean 0 = 0 := rfl
theorem gl_vb1 : vp_nar .boolean 1 = 1 := rfl
theorem gl_vb (b : Bool) : vp_nar .boolean (gl_01 b) = gl_01 b := by cases b <;> rfl
theorem gl_br2 (a b : Nat → Int32) {A B : Prop} {i g : Nat} (hi : i < 48) (hg : g < 48) (f : a i = b g → A) (h : ¬ a i = b g → B) : (a (nI i).toNatClampNeg = b (nI g).toNatClampNeg → A) ∧ (¬ a (nI i).toNatClampNeg = b (nI g).toNatClampNeg → B) := by
  rw [nI_clamp (by omega), nI_clamp (by omega)]
  exact ⟨f, h⟩
theorem gl_yfo {post : Int32 → Prop} {x : Int32} {tm gv tk pv op kp : Nat → Int32} {K : Nat → Bool} {n g : Nat} (hg : g < 48) (hk : ∀ j, j < g → kp j = gl_01 (K j)) (hp : post (gl_01 (gl_ex K tk pv op (gv g) (pv g) g))) : ∀ d i, i + d = g → gl_ex K tk pv op (gv g) (pv g) i = false → wY_founded_13 post (nI g) (nI n) x tm gv tk pv op kp (d + 1) (nI i) := by
  intro d
  induction d with
  | zero =>
    intro i hi he
    have e : i = g := by omega
    subst e
    rw [he] at hp
    exact br_t (nI_le (Nat.le_refl i) (by omega)) hp
  | succ d ih =>
    intro i hi he
    have hin : vp_in (nI i) 48 := vp_in_nI (by omega) (by omega)
    have hgn : vp_in (nI g) 48 := vp_in_nI (by omega) (by omega)
    have nx : gl_ex K tk pv op (gv g) (pv g) (i + 1) = false → wY_founded_13 post (nI g) (nI n) x tm gv tk pv op kp (d + 1) (nI (i + 1)) := fun h => ih (i + 1) (by omega) h
    have hki := hk i (by omega)
    refine br_f (nI_ge (by omega) (by omega)) ⟨hin, gl_br kp (by omega) (fun h0 => gl_nx (nx ?_)) (fun h0 => ⟨hin, gl_br op (by omega) (fun h1 => gl_nx (nx ?_)) (fun h1 => ⟨hin, hgn, gl_br2 tk gv (by omega) hg (fun h2 => ⟨hin, hgn, gl_br2 pv pv (by omega) hg (fun h3 => ?_) (fun h3 => gl_nx (nx ?_))⟩) (fun h2 => gl_nx (nx ?_))⟩)⟩)⟩
    · rw [hki, gl_01z] at h0
      simp [gl_ex_s, he, h0]
    · simp [gl_ex_s, he, h1]
    · rw [hki, gl_01z] at h0
      have t : gl_ex K tk pv op (gv g) (pv g) (i + 1) = true := by simp [gl_ex_s, h0, h1, h2, h3]
      have t2 := gl_ex_up t (g - (i + 1))
      rw [show i + 1 + (g - (i + 1)) = g by omega] at t2
      rw [t2] at hp
      exact hp
    · simp [gl_ex_s, he, h3]
    · simp [gl_ex_s, he, h2]
theorem gl_yfounded {post : Int32 → Prop} {x : Int32} {tm gv tk pv op kp : Nat → Int32} {K : Nat → Bool} {n g : Nat} (hg : g < 48) (hk : ∀ j, j < g → kp j = gl_01 (K j)) (hp : post (gl_01 (gv g == 0 || gl_ex K tk pv op (gv g) (pv g) g))) : wpY_founded post (nI n, x, tm, gv, tk, pv, op, kp) (nI g) := by
  unfold wpY_founded
  refine ⟨vp_in_nI hg (by omega), gl_br gv hg (fun h => ?_) (fun h => ⟨g + 1, ?_⟩)⟩
  · rw [h] at hp; exact hp
  · rw [beq_false_of_ne h, Bool.false_or] at hp
    exact gl_yfo hg hk hp g 0 (by omega) rfl
theorem gl_ys39 {post : Int32 → SY → Prop} {J : Int32 → Int32 → (Nat → Int32) → (Nat → Int32) → (Nat → Int32) → (Nat → Int32) → (Nat → Int32) → (Nat → Int32) → Prop} {c x : Int32} {tm gv tk pv op kp : Nat → Int32} {m i : Nat} (b : Bool) {z : Int32} (hz : z = gl_01 b) (hi : i < 48) (h : J (nI (m + (if b = false then 1 else 0))) (nI (i + 1)) tm gv tk pv op (upd kp i (gl_01 b))) : wY_settle_39 post J (nI m) (nI i) z (nI i) c x tm gv tk pv op kp := by
  have hin : vp_in (nI i) 48 := vp_in_nI hi (by omega)
  have e1 : (nI i).toNatClampNeg = i := nI_clamp (by omega)
  have e2 : upd kp i (gl_01 b) i = gl_01 b := if_pos rfl
  subst hz
  unfold wY_settle_39
  rw [gl_vb, e1]
  refine ⟨hin, nm_e ⟨hin, ?_⟩⟩
  rw [e2]
  cases b
  · exact br_t rfl (nm_r (nI_1 _) (gl_nx h))
  · exact br_f gl_1n0 (gl_nx h)
theorem gl_yse {post : Int32 → SY → Prop} {x : Int32} {tm gv tk pv op : Nat → Int32} {K : Nat → Bool} {n : Nat} (hn : n ≤ 48) (hp : ∀ kp, (∀ j, j < n → kp j = gl_01 (gl_kk gv tk pv op K n j)) → post (nI (gl_cn (fun j => !(gl_kk gv tk pv op K n j)) n)) (nI n, x, tm, gv, tk, pv, op, kp)) : ∀ d i kp, i + d = n → (∀ j, j < n → kp j = gl_01 (gl_kk gv tk pv op K i j)) → wY_settle_4 post (nI n) x (d + 1) (nI (gl_cn (fun j => !(gl_kk gv tk pv op K i j)) i)) (nI i) tm gv tk pv op kp := by
  intro d
  induction d with
  | zero =>
    intro i kp hi hk
    have e : i = n := by omega
    subst e
    exact br_t (nI_le (Nat.le_refl i) (by omega)) (hp kp hk)
  | succ d ih =>
    intro i kp hi hk
    have hin : vp_in (nI i) 48 := vp_in_nI (by omega) (by omega)
    have hki := hk i (by omega)
    have ks := gl_kk_s (gv := gv) (tk := tk) (pv := pv) (op := op) (K := K) i
    have nx : ∀ b : Bool, gl_kk gv tk pv op K (i + 1) i = b → wY_settle_4 post (nI n) x (d + 1) (nI (gl_cn (fun j => !(gl_kk gv tk pv op K i j)) i + (if b = false then 1 else 0))) (nI (i + 1)) tm gv tk pv op (upd kp i (gl_01 b)) := by
      intro b hb
      have t := ih (i + 1) (upd kp i (gl_01 b)) (by omega) (fun j hj => by
        show (if j = i then _ else _) = _
        by_cases z : j = i
        · subst z; rw [if_pos rfl, hb]
        · rw [if_neg z, gl_kk_n z]; exact hk j hj)
      have ec : gl_cn (fun j => !(gl_kk gv tk pv op K (i + 1) j)) (i + 1) = gl_cn (fun j => !(gl_kk gv tk pv op K i j)) i + (if b = false then 1 else 0) := by
        show gl_cn (fun j => !(gl_kk gv tk pv op K (i + 1) j)) i + (if (!(gl_kk gv tk pv op K (i + 1) i)) = true then 1 else 0) = _
        rw [hb, gl_cn_cg (P := fun j => !(gl_kk gv tk pv op K (i + 1) j)) (Q := fun j => !(gl_kk gv tk pv op K i j)) i (fun j hj => by rw [gl_kk_n (by omega)])]
        cases b <;> rfl
      rw [ec] at t
      exact t
    refine br_f (nI_ge (by omega) (by omega)) ⟨hin, gl_br kp (by omega) (fun h => ?_) (fun h => ?_)⟩
    · rw [hki, gl_01z] at h
      rw [h, Bool.false_and] at ks
      exact gl_ys39 false rfl (by omega) (nx false ks)
    · rw [hki, gl_01z] at h
      have h' : gl_kk gv tk pv op K i i = true := gl_tf h
      rw [h', Bool.true_and] at ks
      refine gl_yfounded (K := gl_kk gv tk pv op K i) (by omega) (fun j hj => hk j (by omega)) ?_
      cases hb : (gv i == 0 || gl_ex (gl_kk gv tk pv op K i) tk pv op (gv i) (pv i) i)
      · rw [hb] at ks
        exact br_t rfl (gl_ys39 false rfl (by omega) (nx false ks))
      · rw [hb] at ks
        exact br_f gl_1n0 (gl_ys39 true rfl (by omega) (nx true ks))
theorem gl_ysettle {post : Int32 → SY → Prop} {x : Int32} {tm gv tk pv op kp : Nat → Int32} {K : Nat → Bool} {n : Nat} (hn : n ≤ 48) (hk : ∀ j, j < n → kp j = gl_01 (K j)) (hp : ∀ kp, (∀ j, j < n → kp j = gl_01 (gl_kk gv tk pv op K n j)) → post (nI (gl_cn (fun j => !(gl_kk gv tk pv op K n j)) n)) (nI n, x, tm, gv, tk, pv, op, kp)) : wpY_settle post (nI n, x, tm, gv, tk, pv, op, kp) := by
  unfold wpY_settle
  refine ⟨n + 1, ?_⟩
  exact gl_yse hn hp n 0 kp (by omega) hk
/-! its drop -/
theorem gl_ydr {post : SY → Prop} {gv tk pv op tm kp : Nat → Int32} {K : Nat → Bool} {n : Nat} {x : Int32} (hn : n ≤ 48) (hk : ∀ j, j < n → kp j = gl_01 (K j)) (hp : post (nI (gl_dl K n), x, gl_da (fun y => y) K tm n, gl_da (fun y => y) K gv n, gl_da (fun y => y) K tk n, gl_da (fun y => y) K pv n, gl_da (fun y => vp_nar .boolean y) K op n, kp)) : ∀ d i, i + d = n → wY_drop_4 post (nI n) x (d + 1) (nI (gl_dl K i)) (nI i) (gl_da (fun y => y) K tm i) (gl_da (fun y => y) K gv i) (gl_da (fun y => y) K tk i) (gl_da (fun y => y) K pv i) (gl_da (fun y => vp_nar .boolean y) K op i) kp := by
  intro d
  induction d with
  | zero =>
    intro i hi
    have e : i = n := by omega
    subst e
    exact br_t (nI_le (Nat.le_refl i) (by omega)) hp
  | succ d ih =>
    intro i hi
    have nx := ih (i + 1) (by omega)
    have hl := gl_dl_le K i
    have hki := hk i (by omega)
    have h1 : vp_in (nI i) 48 := vp_in_nI (by omega) (by omega)
    have h2 : vp_in (nI (gl_dl K i)) 48 := vp_in_nI (by omega) (by omega)
    have e1 : (nI i).toNatClampNeg = i := nI_clamp (by omega)
    have e2 : (nI (gl_dl K i)).toNatClampNeg = gl_dl K i := nI_clamp (by omega)
    refine br_f (nI_ge (by omega) (by omega)) ⟨h1, gl_br kp (by omega) (fun h => gl_nx ?_) (fun h => ?_)⟩
    · rw [hki, gl_01z] at h
      rw [gl_dl_f h, gl_da_f h, gl_da_f h, gl_da_f h, gl_da_f h, gl_da_f h] at nx
      exact nx
    · rw [hki, gl_01z] at h
      have h' : K i = true := gl_tf h
      rw [gl_dl_t h', gl_da_t h', gl_da_t h', gl_da_t h', gl_da_t h', gl_da_t h'] at nx
      rw [e1, e2]
      exact ⟨h1, h2, nm_e ⟨h1, h2, nm_e ⟨h1, h2, nm_e ⟨h1, h2, nm_e ⟨h1, h2, nm_e (nm_r (nI_1 _) (gl_nx nx))⟩⟩⟩⟩⟩
theorem gl_ydrop {post : SY → Prop} {gv tk pv op tm kp : Nat → Int32} {K : Nat → Bool} {n : Nat} {x : Int32} (hn : n ≤ 48) (hk : ∀ j, j < n → kp j = gl_01 (K j)) (hp : post (nI (gl_dl K n), x, gl_da (fun y => y) K tm n, gl_da (fun y => y) K gv n, gl_da (fun y => y) K tk n, gl_da (fun y => y) K pv n, gl_da (fun y => vp_nar .boolean y) K op n, kp)) : wpY_drop post (nI n, x, tm, gv, tk, pv, op, kp) := by
  unfold wpY_drop
  refine ⟨n + 1, ?_⟩
  exact gl_ydr hn hk hp n 0 (by omega)
/-! the loops that begin reach and expel -/
theorem gl_kpu {kp : Nat → Int32} {i : Nat} {K : Nat → Bool} {b : Bool} (hk : ∀ j, j < i → kp j = gl_01 (K j)) (hb : K i = b) : ∀ j, j < i + 1 → upd kp i (gl_01 b) j = gl_01 (K j) := by
  intro j hj
  show (if j = i then _ else _) = _
  by_cases z : j = i
  · subst z; rw [if_pos rfl, hb]
  · rw [if_neg z]; exact hk j (by omega)
theorem gl_st {P : (Nat → Int32) → Prop} {kp : Nat → Int32} {i : Nat} {z : Int32} (b : Bool) (hz : z = gl_01 b) (hi : i < 48) (h : P (upd kp i (gl_01 b))) : vp_in (nI i) 48 ∧ ∀ y : Nat → Int32, y = upd kp (nI i).toNatClampNeg (vp_nar .boolean z) → P y := by
  subst hz
  rw [gl_vb, nI_clamp (by omega)]
  exact ⟨vp_in_nI hi (by omega), nm_e h⟩
theorem gl_yre {post : Int32 → SY → Prop} {a b p x : Int32} {tm gv tk pv op : Nat → Int32} {n : Nat} (hn : n ≤ 48) (hp : ∀ kp, (∀ j, j < n → kp j = gl_01 (!(gl_mb gv tk pv a b p j))) → wpY_settle post (nI n, x, tm, gv, tk, pv, op, kp)) : ∀ d i kp, i + d = n → (∀ j, j < i → kp j = gl_01 (!(gl_mb gv tk pv a b p j))) → wY_reach_26 post a b p (nI n) x (d + 1) (nI i) tm gv tk pv op kp := by
  intro d
  induction d with
  | zero =>
    intro i kp hi hk
    have e : i = n := by omega
    subst e
    exact br_t (nI_le (Nat.le_refl i) (by omega)) (hp kp hk)
  | succ d ih =>
    intro i kp hi hk
    have hin : vp_in (nI i) 48 := vp_in_nI (by omega) (by omega)
    have nx : ∀ c : Bool, (!(gl_mb gv tk pv a b p i)) = c → wY_reach_26 post a b p (nI n) x (d + 1) (nI (i + 1)) tm gv tk pv op (upd kp i (gl_01 c)) := fun c hc => ih (i + 1) _ (by omega) (gl_kpu (K := fun j => !(gl_mb gv tk pv a b p j)) hk hc)
    refine br_f (nI_ge (by omega) (by omega)) ⟨hin, gl_br gv (by omega) (fun h1 => ⟨hin, gl_br tk (by omega) (fun h2 => ⟨hin, gl_br pv (by omega) (fun h3 => gl_st false rfl (by omega) (gl_nx (nx false ?_))) (fun h3 => gl_st true rfl (by omega) (gl_nx (nx true ?_)))⟩) (fun h2 => gl_st true rfl (by omega) (gl_nx (nx true ?_)))⟩) (fun h1 => gl_st true rfl (by omega) (gl_nx (nx true ?_)))⟩
    · simp [gl_mb, h1, h2, h3]
    · simp [gl_mb, h3]
    · simp [gl_mb, h2]
    · simp [gl_mb, h1]
theorem gl_yex {post : Int32 → SY → Prop} {a x : Int32} {tm gv tk pv op : Nat → Int32} {n : Nat} (hn : n ≤ 48) (hp : ∀ kp, (∀ j, j < n → kp j = gl_01 (!(gl_mt gv tk a j))) → wpY_settle (fun r u => wpY_drop (fun u' => post r u') u) (nI n, x, tm, gv, tk, pv, op, kp)) : ∀ d i kp, i + d = n → (∀ j, j < i → kp j = gl_01 (!(gl_mt gv tk a j))) → wY_expel_15 post a (nI n) x (d + 1) (nI i) tm gv tk pv op kp := by
  intro d
  induction d with
  | zero =>
    intro i kp hi hk
    have e : i = n := by omega
    subst e
    exact br_t (nI_le (Nat.le_refl i) (by omega)) (hp kp hk)
  | succ d ih =>
    intro i kp hi hk
    have hin : vp_in (nI i) 48 := vp_in_nI (by omega) (by omega)
    have nx : ∀ c : Bool, (!(gl_mt gv tk a i)) = c → wY_expel_15 post a (nI n) x (d + 1) (nI (i + 1)) tm gv tk pv op (upd kp i (gl_01 c)) := fun c hc => ih (i + 1) _ (by omega) (gl_kpu (K := fun j => !(gl_mt gv tk a j)) hk hc)
    refine br_f (nI_ge (by omega) (by omega)) ⟨hin, gl_br gv (by omega) (fun h1 => gl_st false rfl (by omega) (gl_nx (nx false ?_))) (fun h1 => ⟨hin, gl_br tk (by omega) (fun h2 => gl_st false rfl (by omega) (gl_nx (nx false ?_))) (fun h2 => gl_st true rfl (by omega) (gl_nx (nx true ?_)))⟩)⟩
    · simp [gl_mt, h1]
    · simp [gl_mt, h2]
    · simp [gl_mt, h1, h2]
end
section
/-! part 5: the relation and what is owed -/
/-- the same grants in the same slots; the first n slots name users and privileges; the reference's array kept is free -/
def i_Rel (_ : Nat) (u : SX) (v : SY) : Prop := ∃ (n : Nat) (x : Int32) (gv tk pv op tm kp : Nat → Int32), n ≤ 48 ∧ gl_ok n gv tk pv ∧ u = (nI n, x, gv, tk, pv, op, tm) ∧ v = (nI n, x, tm, gv, tk, pv, op, kp)
theorem gl_rel {k n : Nat} {x : Int32} {gv tk pv op tm kp : Nat → Int32} (hn : n ≤ 48) (hok : gl_ok n gv tk pv) : i_Rel k (nI n, x, gv, tk, pv, op, tm) (nI n, x, tm, gv, tk, pv, op, kp) := ⟨n, x, gv, tk, pv, op, tm, kp, hn, hok, rfl, rfl⟩
theorem i_up {k : Nat} {u : SX} {v : SY} (h : i_Rel k u v) : i_Rel (k + 5) u v := by
  exact h
theorem i_vc0 : wpX_init (fun u => wpY_init (fun v => i_Rel 0 u v)) := by
  unfold wpX_init wpY_init
  rw [← nI_0]
  exact gl_rel (n := 0) (by omega) ⟨fun j hj => absurd hj (by omega), fun j hj => absurd hj (by omega), fun j hj => absurd hj (by omega)⟩
/-! the readers -/
theorem gl_xcr {post : Int32 → Prop} {u p x : Int32} {gv tk pv op tm : Nat → Int32} {n : Nat} (hn : n ≤ 48) (hp : post (nI (gl_cn (fun j => tk j == u && pv j == p) n))) : wpX_countReceived post (nI n, x, gv, tk, pv, op, tm) u p := by
  unfold wpX_countReceived
  refine ⟨n + 1, ?_⟩
  exact gl_xrc hn hp n 0 (by omega)
theorem gl_yreceived {post : Int32 → Prop} {u p : Nat} {x : Int32} {gv tk pv op tm kp : Nat → Int32} {n : Nat} (hu : u < 8) (hq : p < 3) (hn : n ≤ 48) (hp : post (nI (gl_cn (fun j => tk j == nI u && pv j == nI p) n))) : wpY_received post (nI n, x, tm, gv, tk, pv, op, kp) (nI u) (nI p) := by
  unfold wpY_received
  refine gl_yuo hu (br_t rfl (gl_ypo hq (br_t rfl ⟨n + 1, ?_⟩)))
  exact gl_yrc hn hp n 0 (by omega)
theorem i_vc_holds {k : Nat} {u : SX} {v : SY} (I : i_Rel k u v) (hk : k + 5 ≤ 2560) (v1 : Int32) (v2 : Int32) : wpX_holds (fun r => wpY_holds (fun r' => r' = r ∧ i_Rel (k + 5) u v) v v1 v2) u v1 v2 := by
  obtain ⟨n, x, gv, tk, pv, op, tm, kp, hn, hok, rfl, rfl⟩ := I
  rcases gl_usr v1 with b1 | ⟨g, hg, rfl⟩
  · unfold wpX_holds
    refine gl_xub b1 (br_t rfl ?_)
    unfold wpY_holds
    exact gl_yub b1 (br_f gl_1n0 ⟨rfl, gl_rel hn hok⟩)
  rcases gl_prv v2 with b2 | ⟨q, hq, rfl⟩
  · unfold wpX_holds
    refine gl_xuo hg (br_f gl_1n0 (gl_xpb b2 (br_t rfl ?_)))
    unfold wpY_holds
    exact gl_yuo hg (br_t rfl (gl_ypb b2 (br_f gl_1n0 ⟨rfl, gl_rel hn hok⟩)))
  unfold wpX_holds
  refine gl_xuo hg (br_f gl_1n0 (gl_xpo hq (br_f gl_1n0 ?_)))
  by_cases h0 : nI g = 0
  · refine br_t h0 ?_
    unfold wpY_holds
    exact gl_yuo hg (br_t rfl (gl_ypo hq (br_t rfl (br_t h0 ⟨rfl, gl_rel hn hok⟩))))
  · refine br_f h0 (gl_xcr hn ?_)
    by_cases hc : nI (gl_cn (fun j => tk j == nI g && pv j == nI q) n) ≤ 0
    · refine br_t hc ?_
      unfold wpY_holds
      exact gl_yuo hg (br_t rfl (gl_ypo hq (br_t rfl (br_f h0 (gl_yreceived hg hq hn (br_t hc ⟨rfl, gl_rel hn hok⟩))))))
    · refine br_f hc ?_
      unfold wpY_holds
      exact gl_yuo hg (br_t rfl (gl_ypo hq (br_t rfl (br_f h0 (gl_yreceived hg hq hn (br_f hc ⟨rfl, gl_rel hn hok⟩))))))
theorem i_vc_may {k : Nat} {u : SX} {v : SY} (I : i_Rel k u v) (hk : k + 5 ≤ 2560) (v1 : Int32) (v2 : Int32) : wpX_may (fun r => wpY_may (fun r' => r' = r ∧ i_Rel (k + 5) u v) v v1 v2) u v1 v2 := by
  obtain ⟨n, x, gv, tk, pv, op, tm, kp, hn, hok, rfl, rfl⟩ := I
  rcases gl_usr v1 with b1 | ⟨g, hg, rfl⟩
  · unfold wpX_may
    refine gl_xub b1 (br_t rfl ?_)
    unfold wpY_may
    exact gl_yub b1 (br_f gl_1n0 ⟨rfl, gl_rel hn hok⟩)
  rcases gl_prv v2 with b2 | ⟨q, hq, rfl⟩
  · unfold wpX_may
    refine gl_xuo hg (br_f gl_1n0 (gl_xpb b2 (br_t rfl ?_)))
    unfold wpY_may
    exact gl_yuo hg (br_t rfl (gl_ypb b2 (br_f gl_1n0 ⟨rfl, gl_rel hn hok⟩)))
  unfold wpX_may
  refine gl_xuo hg (br_f gl_1n0 (gl_xpo hq (br_f gl_1n0 (gl_xright hn ?_))))
  cases hr : gl_rt tk pv op (nI g) (nI q) n
  · refine br_t rfl (gl_ymayo hg hq hn ?_)
    rw [hr]
    exact ⟨rfl, gl_rel hn hok⟩
  · refine br_f gl_1n0 (gl_ymayo hg hq hn ?_)
    rw [hr]
    exact ⟨rfl, gl_rel hn hok⟩
theorem i_vc_received {k : Nat} {u : SX} {v : SY} (I : i_Rel k u v) (hk : k + 5 ≤ 2560) (v1 : Int32) (v2 : Int32) : wpX_received (fun r => wpY_received (fun r' => r' = r ∧ i_Rel (k + 5) u v) v v1 v2) u v1 v2 := by
  obtain ⟨n, x, gv, tk, pv, op, tm, kp, hn, hok, rfl, rfl⟩ := I
  rcases gl_usr v1 with b1 | ⟨g, hg, rfl⟩
  · unfold wpX_received
    refine gl_xub b1 (br_t rfl ?_)
    unfold wpY_received
    exact gl_yub b1 (br_f gl_1n0 ⟨rfl, gl_rel hn hok⟩)
  rcases gl_prv v2 with b2 | ⟨q, hq, rfl⟩
  · unfold wpX_received
    refine gl_xuo hg (br_f gl_1n0 (gl_xpb b2 (br_t rfl ?_)))
    unfold wpY_received
    exact gl_yuo hg (br_t rfl (gl_ypb b2 (br_f gl_1n0 ⟨rfl, gl_rel hn hok⟩)))
  unfold wpX_received
  exact gl_xuo hg (br_f gl_1n0 (gl_xpo hq (br_f gl_1n0 (gl_xcr hn (gl_yreceived hg hq hn ⟨rfl, gl_rel hn hok⟩)))))
theorem i_vc_given {k : Nat} {u : SX} {v : SY} (I : i_Rel k u v) (hk : k + 5 ≤ 2560) (v1 : Int32) (v2 : Int32) : wpX_given (fun r => wpY_given (fun r' => r' = r ∧ i_Rel (k + 5) u v) v v1 v2) u v1 v2 := by
  obtain ⟨n, x, gv, tk, pv, op, tm, kp, hn, hok, rfl, rfl⟩ := I
  rcases gl_usr v1 with b1 | ⟨g, hg, rfl⟩
  · unfold wpX_given
    refine gl_xub b1 (br_t rfl ?_)
    unfold wpY_given
    exact gl_yub b1 (br_f gl_1n0 ⟨rfl, gl_rel hn hok⟩)
  rcases gl_prv v2 with b2 | ⟨q, hq, rfl⟩
  · unfold wpX_given
    refine gl_xuo hg (br_f gl_1n0 (gl_xpb b2 (br_t rfl ?_)))
    unfold wpY_given
    exact gl_yuo hg (br_t rfl (gl_ypb b2 (br_f gl_1n0 ⟨rfl, gl_rel hn hok⟩)))
  unfold wpX_given
  refine gl_xuo hg (br_f gl_1n0 (gl_xpo hq (br_f gl_1n0 ⟨n + 1, gl_xgi hn ?_ n 0 (by omega)⟩)))
  unfold wpY_given
  exact gl_yuo hg (br_t rfl (gl_ypo hq (br_t rfl ⟨n + 1, gl_ygi hn ⟨rfl, gl_rel hn hok⟩ n 0 (by omega)⟩)))
theorem i_vc_stands {k : Nat} {u : SX} {v : SY} (I : i_Rel k u v) (hk : k + 5 ≤ 2560) (v1 : Int32) : wpX_stands (fun r => wpY_stands (fun r' => r' = r ∧ i_Rel (k + 5) u v) v v1) u v1 := by
  obtain ⟨n, x, gv, tk, pv, op, tm, kp, hn, hok, rfl, rfl⟩ := I
  unfold wpX_stands
  refine ⟨n + 1, gl_xst hn ?_ n 0 (by omega) rfl⟩
  unfold wpY_stands
  exact ⟨n + 1, gl_yst hn ⟨rfl, gl_rel hn hok⟩ n 0 (by omega) rfl⟩
theorem i_vc_standing {k : Nat} {u : SX} {v : SY} (I : i_Rel k u v) (hk : k + 5 ≤ 2560) : wpX_standing (fun r => wpY_standing (fun r' => r' = r ∧ i_Rel (k + 5) u v) v) u := by
  obtain ⟨n, x, gv, tk, pv, op, tm, kp, hn, hok, rfl, rfl⟩ := I
  unfold wpX_standing wpY_standing
  exact ⟨rfl, gl_rel hn hok⟩
/-! grant -/
theorem gl_okg {n g t q : Nat} {gv tk pv : Nat → Int32} (hok : gl_ok n gv tk pv) (hg : g < 8) (ht : t < 8) (hq : q < 3) : gl_ok (n + 1) (upd gv n (nI g)) (upd tk n (nI t)) (upd pv n (nI q)) := by
  have s : ∀ (a : Nat → Int32) (m v : Nat), (∀ j, j < n → ∃ y : Nat, y < m ∧ a j = nI y) → v < m → ∀ j, j < n + 1 → ∃ y : Nat, y < m ∧ upd a n (nI v) j = nI y := by
    intro a m v h hv j hj
    by_cases z : j = n
    · exact ⟨v, hv, if_pos z⟩
    · obtain ⟨y, hy, ey⟩ := h j (by omega)
      exact ⟨y, hy, (if_neg z).trans ey⟩
  exact ⟨s gv 8 g hok.1 hg, s tk 8 t hok.2.1 ht, s pv 3 q hok.2.2 hq⟩
theorem gl_p1 (x : Int32) : x + 1 - 1 = x := by
  apply Int32.toBitVec_inj.mp
  rw [Int32.toBitVec_sub, Int32.toBitVec_add]
  exact BitVec.add_sub_cancel _ _
theorem i_vc_grant {k : Nat} {u : SX} {v : SY} (I : i_Rel k u v) (hk : k + 5 ≤ 2560) (v1 : Int32) (v2 : Int32) (v3 : Int32) (v4 : Int32) : wpX_grant (fun r u' => wpY_grant (fun r' v' => r' = r ∧ i_Rel (k + 5) u' v') v v1 v2 v3 (lw_bz v4)) u v1 v2 v3 (lw_bz v4) := by
  obtain ⟨n, x, gv, tk, pv, op, tm, kp, hn, hok, rfl, rfl⟩ := I
  rcases gl_usr v1 with b1 | ⟨g, hg, rfl⟩
  · unfold wpX_grant
    refine gl_xub b1 (br_t rfl ?_)
    unfold wpY_grant
    exact gl_yub b1 (br_f gl_1n0 ⟨rfl, gl_rel hn hok⟩)
  rcases gl_usr v2 with b2 | ⟨t, ht, rfl⟩
  · unfold wpX_grant
    refine gl_xuo hg (br_f gl_1n0 (gl_xub b2 (br_t rfl ?_)))
    unfold wpY_grant
    exact gl_yuo hg (br_t rfl (gl_yub b2 (br_f gl_1n0 ⟨rfl, gl_rel hn hok⟩)))
  unfold wpX_grant
  refine gl_xuo hg (br_f gl_1n0 (gl_xuo ht (br_f gl_1n0 ?_)))
  unfold wpY_grant
  by_cases hgt : nI g = nI t
  · rcases gl_prv v3 with b3 | ⟨q, hq, rfl⟩
    · exact gl_xpb b3 (br_t rfl (gl_yuo hg (br_t rfl (gl_yuo ht (br_t rfl (br_t hgt ⟨rfl, gl_rel hn hok⟩))))))
    · exact gl_xpo hq (br_f gl_1n0 (br_t hgt (gl_yuo hg (br_t rfl (gl_yuo ht (br_t rfl (br_t hgt ⟨rfl, gl_rel hn hok⟩)))))))
  by_cases ht0 : nI t = 0
  · rcases gl_prv v3 with b3 | ⟨q, hq, rfl⟩
    · exact gl_xpb b3 (br_t rfl (gl_yuo hg (br_t rfl (gl_yuo ht (br_t rfl (br_f hgt (br_t ht0 ⟨rfl, gl_rel hn hok⟩)))))))
    · exact gl_xpo hq (br_f gl_1n0 (br_f hgt (br_t ht0 (gl_yuo hg (br_t rfl (gl_yuo ht (br_t rfl (br_f hgt (br_t ht0 ⟨rfl, gl_rel hn hok⟩)))))))))
  rcases gl_prv v3 with b3 | ⟨q, hq, rfl⟩
  · exact gl_xpb b3 (br_t rfl (gl_yuo hg (br_t rfl (gl_yuo ht (br_t rfl (br_f hgt (br_f ht0 (gl_ypb b3 (br_f gl_1n0 ⟨rfl, gl_rel hn hok⟩)))))))))
  rcases Nat.lt_or_ge n 48 with h48 | h48
  · have c1 : nI n < 48 := by rw [← gl_48]; exact nI_lt h48 (by omega)
    have c2 : ¬ nI n = 48 := by
      intro z
      rw [← gl_48, nI_eq (by omega) (by omega)] at z
      omega
    have hin : vp_in (nI n) 48 := vp_in_nI h48 (by omega)
    have en : (nI n).toNatClampNeg = n := nI_clamp (by omega)
    refine gl_xpo hq (br_f gl_1n0 (br_f hgt (br_f ht0 (br_t c1 (gl_xright hn ?_)))))
    cases hr : gl_rt tk pv op (nI g) (nI q) n
    · refine br_t rfl (gl_yuo hg (br_t rfl (gl_yuo ht (br_t rfl (br_f hgt (br_f ht0 (gl_ypo hq (br_t rfl (br_f c2 (gl_ymayo hg hq hn ?_))))))))))
      rw [hr]
      exact br_t rfl ⟨rfl, gl_rel hn hok⟩
    · rw [en]
      refine br_f gl_1n0 ⟨hin, nm_e ⟨hin, nm_e ⟨hin, nm_e ⟨hin, nm_e ⟨hin, nm_e (nm_e (nm_e ?_))⟩⟩⟩⟩⟩
      refine gl_yuo hg (br_t rfl (gl_yuo ht (br_t rfl (br_f hgt (br_f ht0 (gl_ypo hq (br_t rfl (br_f c2 (gl_ymayo hg hq hn ?_)))))))))
      rw [hr]
      refine br_f gl_1n0 ⟨hin, nm_e ⟨hin, nm_e ⟨hin, nm_e ⟨hin, nm_e ⟨hin, nm_e (nm_e (nm_e ⟨gl_p1 x, ?_⟩))⟩⟩⟩⟩⟩
      rw [nI_1 n, en]
      exact gl_rel (by omega) (gl_okg hok hg ht hq)
  · have e : n = 48 := by omega
    subst e
    have c1 : ¬ nI 48 < 48 := by rw [gl_48]; decide
    exact gl_xpo hq (br_f gl_1n0 (br_f hgt (br_f ht0 (br_f c1 (gl_yuo hg (br_t rfl (gl_yuo ht (br_t rfl (br_f hgt (br_f ht0 (gl_ypo hq (br_t rfl (br_t gl_48 ⟨rfl, gl_rel hn hok⟩)))))))))))))
/-! reach, revoke, expel -/
theorem gl_yr1 {post : Int32 → SY → Prop} {u : SY} {v1 v2 v3 : Int32} (b1 : v1 < 0 ∨ (¬ v1 < 0 ∧ 8 ≤ v1 ∧ ¬ v1 ≤ 7)) (hp : post (-1) u) : wpY_reach post u v1 v2 v3 := by
  obtain ⟨c, x, tm, gv, tk, pv, op, kp⟩ := u
  unfold wpY_reach
  exact gl_yub b1 (br_f gl_1n0 hp)
theorem gl_yr2 {post : Int32 → SY → Prop} {u : SY} {v2 v3 : Int32} {g : Nat} (hg : g < 8) (b2 : v2 < 0 ∨ (¬ v2 < 0 ∧ 8 ≤ v2 ∧ ¬ v2 ≤ 7)) (hp : post (-1) u) : wpY_reach post u (nI g) v2 v3 := by
  obtain ⟨c, x, tm, gv, tk, pv, op, kp⟩ := u
  unfold wpY_reach
  exact gl_yuo hg (br_t rfl (gl_yub b2 (br_f gl_1n0 hp)))
theorem gl_yr3 {post : Int32 → SY → Prop} {u : SY} {v3 : Int32} {g t : Nat} (hg : g < 8) (ht : t < 8) (b3 : v3 < 0 ∨ (¬ v3 < 0 ∧ 3 ≤ v3 ∧ ¬ v3 ≤ 2)) (hp : post (-1) u) : wpY_reach post u (nI g) (nI t) v3 := by
  obtain ⟨c, x, tm, gv, tk, pv, op, kp⟩ := u
  unfold wpY_reach
  exact gl_yuo hg (br_t rfl (gl_yuo ht (br_t rfl (gl_ypb b3 (br_f gl_1n0 hp)))))
theorem gl_yreach {post : Int32 → SY → Prop} {x : Int32} {tm gv tk pv op kp : Nat → Int32} {n g t q : Nat} {K : Nat → Bool} (hn : n ≤ 48) (hg : g < 8) (ht : t < 8) (hq : q < 3) (hK : K = gl_kk gv tk pv op (fun j => !(gl_mb gv tk pv (nI g) (nI t) (nI q) j)) n) (hp : ∀ kp, (∀ j, j < n → kp j = gl_01 (K j)) → post (nI (gl_cn (fun j => !(K j)) n)) (nI n, x, tm, gv, tk, pv, op, kp)) : wpY_reach post (nI n, x, tm, gv, tk, pv, op, kp) (nI g) (nI t) (nI q) := by
  subst hK
  unfold wpY_reach
  refine gl_yuo hg (br_t rfl (gl_yuo ht (br_t rfl (gl_ypo hq (br_t rfl ⟨n + 1, ?_⟩)))))
  exact gl_yre hn (fun kp' hk' => gl_ysettle hn hk' hp) n 0 kp (by omega) (fun j hj => absurd hj (by omega))
theorem i_vc_reach {k : Nat} {u : SX} {v : SY} (I : i_Rel k u v) (hk : k + 5 ≤ 2560) (v1 : Int32) (v2 : Int32) (v3 : Int32) : wpX_reach (fun r => wpY_reach (fun r' v' => r' = r ∧ i_Rel (k + 5) u v') v v1 v2 v3) u v1 v2 v3 := by
  obtain ⟨n, x, gv, tk, pv, op, tm, kp, hn, hok, rfl, rfl⟩ := I
  rcases gl_usr v1 with b1 | ⟨g, hg, rfl⟩
  · unfold wpX_reach
    refine gl_xub b1 (br_t rfl ?_)
    exact gl_yr1 b1 ⟨rfl, gl_rel hn hok⟩
  rcases gl_usr v2 with b2 | ⟨t, ht, rfl⟩
  · unfold wpX_reach
    refine gl_xuo hg (br_f gl_1n0 (gl_xub b2 (br_t rfl ?_)))
    exact gl_yr2 hg b2 ⟨rfl, gl_rel hn hok⟩
  rcases gl_prv v3 with b3 | ⟨q, hq, rfl⟩
  · unfold wpX_reach
    refine gl_xuo hg (br_f gl_1n0 (gl_xuo ht (br_f gl_1n0 (gl_xpb b3 (br_t rfl ?_)))))
    exact gl_yr3 hg ht b3 ⟨rfl, gl_rel hn hok⟩
  unfold wpX_reach
  refine gl_xuo hg (br_f gl_1n0 (gl_xuo ht (br_f gl_1n0 (gl_xpo hq (br_f gl_1n0 (gl_xbetween hn (fun w hw => gl_xfallen hn hok hw (fun w' hw' => gl_xsize hn hw' ?_))))))))
  exact gl_yreach hn hg ht hq rfl (fun kp' _ => ⟨rfl, gl_rel hn hok⟩)
theorem gl_m1 : (-1 : Int32) < 0 := by decide
theorem gl_yv {post : Int32 → SY → Prop} {u : SY} {v1 v2 v3 : Int32} (h : wpY_reach (fun r u' => (r < 0 → post r u') ∧ (¬ r < 0 → wpY_drop (fun u'' => post r u'') u')) u v1 v2 v3) : wpY_revoke post u v1 v2 v3 := by
  obtain ⟨c, x, tm, gv, tk, pv, op, kp⟩ := u
  unfold wpY_revoke
  exact h
theorem i_vc_revoke {k : Nat} {u : SX} {v : SY} (I : i_Rel k u v) (hk : k + 5 ≤ 2560) (v1 : Int32) (v2 : Int32) (v3 : Int32) : wpX_revoke (fun r u' => wpY_revoke (fun r' v' => r' = r ∧ i_Rel (k + 5) u' v') v v1 v2 v3) u v1 v2 v3 := by
  obtain ⟨n, x, gv, tk, pv, op, tm, kp, hn, hok, rfl, rfl⟩ := I
  rcases gl_usr v1 with b1 | ⟨g, hg, rfl⟩
  · unfold wpX_revoke
    refine gl_xub b1 (br_t rfl ?_)
    exact gl_yv (gl_yr1 b1 (br_t gl_m1 ⟨rfl, gl_rel hn hok⟩))
  rcases gl_usr v2 with b2 | ⟨t, ht, rfl⟩
  · unfold wpX_revoke
    refine gl_xuo hg (br_f gl_1n0 (gl_xub b2 (br_t rfl ?_)))
    exact gl_yv (gl_yr2 hg b2 (br_t gl_m1 ⟨rfl, gl_rel hn hok⟩))
  rcases gl_prv v3 with b3 | ⟨q, hq, rfl⟩
  · unfold wpX_revoke
    refine gl_xuo hg (br_f gl_1n0 (gl_xuo ht (br_f gl_1n0 (gl_xpb b3 (br_t rfl ?_)))))
    exact gl_yv (gl_yr3 hg ht b3 (br_t gl_m1 ⟨rfl, gl_rel hn hok⟩))
  have hc : ∀ P : Nat → Bool, ¬ nI (gl_cn P n) < 0 := fun P => nI_pos (by have := gl_cn_le P n; omega)
  unfold wpX_revoke
  refine gl_xuo hg (br_f gl_1n0 (gl_xuo ht (br_f gl_1n0 (gl_xpo hq (br_f gl_1n0 (gl_xbetween hn (fun w hw => gl_xtake hn hok hw rfl ?_)))))))
  refine gl_yv (gl_yreach hn hg ht hq rfl (fun kp' hk' => br_f (hc _) (gl_ydrop hn hk' ⟨rfl, ?_⟩)))
  exact gl_rel (Nat.le_trans (gl_dl_le _ n) hn) (gl_ok_da _ hok)
theorem i_vc_expel {k : Nat} {u : SX} {v : SY} (I : i_Rel k u v) (hk : k + 5 ≤ 2560) (v1 : Int32) : wpX_expel (fun r u' => wpY_expel (fun r' v' => r' = r ∧ i_Rel (k + 5) u' v') v v1) u v1 := by
  obtain ⟨n, x, gv, tk, pv, op, tm, kp, hn, hok, rfl, rfl⟩ := I
  rcases gl_usr v1 with b1 | ⟨g, hg, rfl⟩
  · unfold wpX_expel
    refine gl_xub b1 (br_t rfl ?_)
    unfold wpY_expel
    rcases b1 with b1 | ⟨b0, b8, b7⟩
    · exact br_t (Int32.lt_trans b1 (by decide)) ⟨rfl, gl_rel hn hok⟩
    · refine br_f ?_ (br_f b7 ⟨rfl, gl_rel hn hok⟩)
      intro z
      exact b7 (Int32.le_of_lt (Int32.lt_trans z (by decide)))
  rcases Nat.eq_zero_or_pos g with z | z
  · subst z
    unfold wpX_expel
    refine gl_xuo hg (br_f gl_1n0 (br_t nI_0 ?_))
    unfold wpY_expel
    exact br_t (by rw [nI_0]; decide) ⟨rfl, gl_rel hn hok⟩
  unfold wpX_expel
  refine gl_xuo hg (br_f gl_1n0 (br_f (nI_ne0 z (by omega)) (gl_xtouching hn (fun w hw => gl_xtake hn hok hw rfl ?_))))
  unfold wpY_expel
  have c1 : ¬ nI g < 1 := by
    rw [show (1 : Int32) = nI 1 from rfl]
    exact nI_nlt z (by omega)
  have c7 : nI g ≤ 7 := by rw [← gl_7]; exact nI_le (by omega) (by omega)
  refine br_f c1 (br_t c7 ⟨n + 1, ?_⟩)
  refine gl_yex hn (fun kp' hk' => gl_ysettle hn hk' (fun kp'' hk'' => gl_ydrop hn hk'' ⟨rfl, ?_⟩)) n 0 kp (by omega) (fun j hj => absurd hj (by omega))
  exact gl_rel (Nat.le_trans (gl_dl_le _ n) hn) (gl_ok_da _ hok)
end
