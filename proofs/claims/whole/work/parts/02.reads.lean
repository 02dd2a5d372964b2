/-! part 2: the guards, and the loops that only read -/
theorem gl_br (a : Nat → Int32) {A B : Prop} {i : Nat} {y : Int32} (hi : i < 48) (f : a i = y → A) (g : ¬ a i = y → B) : (a (nI i).toNatClampNeg = y → A) ∧ (¬ a (nI i).toNatClampNeg = y → B) := by
  rw [nI_clamp (by omega)]
  exact ⟨f, g⟩
theorem gl_nx {P : Int32 → Prop} {i : Nat} (h : P (nI (i + 1))) : ∀ y : Int32, y = nI i + 1 → P y := nm_r (nI_1 i) h
theorem gl_8 : nI 8 = 8 := by decide +kernel
theorem gl_3 : nI 3 = 3 := by decide +kernel
theorem gl_7 : nI 7 = 7 := by decide +kernel
theorem gl_2 : nI 2 = 2 := by decide +kernel
theorem gl_48 : nI 48 = 48 := by decide +kernel
theorem gl_usr (x : Int32) : (x < 0 ∨ (¬ x < 0 ∧ 8 ≤ x ∧ ¬ x ≤ 7)) ∨ ∃ g : Nat, g < 8 ∧ x = nI g := by
  by_cases h0 : x < 0
  · exact Or.inl (Or.inl h0)
  · obtain ⟨j, hj, rfl⟩ := nI_of h0
    rcases Nat.lt_or_ge j 8 with h | h
    · exact Or.inr ⟨j, h, rfl⟩
    · refine Or.inl (Or.inr ⟨h0, ?_, ?_⟩)
      · rw [← gl_8]; exact nI_le h hj
      · rw [← gl_7]; exact nI_ge (by omega) hj
theorem gl_prv (x : Int32) : (x < 0 ∨ (¬ x < 0 ∧ 3 ≤ x ∧ ¬ x ≤ 2)) ∨ ∃ g : Nat, g < 3 ∧ x = nI g := by
  by_cases h0 : x < 0
  · exact Or.inl (Or.inl h0)
  · obtain ⟨j, hj, rfl⟩ := nI_of h0
    rcases Nat.lt_or_ge j 3 with h | h
    · exact Or.inr ⟨j, h, rfl⟩
    · refine Or.inl (Or.inr ⟨h0, ?_, ?_⟩)
      · rw [← gl_3]; exact nI_le h hj
      · rw [← gl_2]; exact nI_ge (by omega) hj
theorem gl_xub {post : Int32 → Prop} {x : Int32} (h : x < 0 ∨ (¬ x < 0 ∧ 8 ≤ x ∧ ¬ x ≤ 7)) (hp : post 0) : wpX_isUser post x := by
  rcases h with h | h
  · exact br_t h hp
  · exact br_f h.1 (br_t h.2.1 hp)
theorem gl_xuo {post : Int32 → Prop} {g : Nat} (h : g < 8) (hp : post 1) : wpX_isUser post (nI g) := by
  refine br_f (nI_pos (by omega)) (br_f ?_ hp)
  rw [← gl_8]
  exact nI_ge h (by omega)
theorem gl_xpb {post : Int32 → Prop} {x : Int32} (h : x < 0 ∨ (¬ x < 0 ∧ 3 ≤ x ∧ ¬ x ≤ 2)) (hp : post 0) : wpX_isPrivilege post x := by
  rcases h with h | h
  · exact br_t h hp
  · exact br_f h.1 (br_t h.2.1 hp)
theorem gl_xpo {post : Int32 → Prop} {g : Nat} (h : g < 3) (hp : post 1) : wpX_isPrivilege post (nI g) := by
  refine br_f (nI_pos (by omega)) (br_f ?_ hp)
  rw [← gl_3]
  exact nI_ge h (by omega)
theorem gl_yub {post : Int32 → Prop} {x : Int32} (h : x < 0 ∨ (¬ x < 0 ∧ 8 ≤ x ∧ ¬ x ≤ 7)) (hp : post 1) : wpY_bad post x := by
  rcases h with h | h
  · exact br_t h hp
  · exact br_f h.1 (br_f h.2.2 hp)
theorem gl_yuo {post : Int32 → Prop} {g : Nat} (h : g < 8) (hp : post 0) : wpY_bad post (nI g) := by
  refine br_f (nI_pos (by omega)) (br_t ?_ hp)
  rw [← gl_7]
  exact nI_le (by omega) (by omega)
theorem gl_ypb {post : Int32 → Prop} {x : Int32} (h : x < 0 ∨ (¬ x < 0 ∧ 3 ≤ x ∧ ¬ x ≤ 2)) (hp : post 1) : wpY_badPrivilege post x := by
  rcases h with h | h
  · exact br_t h hp
  · exact br_f h.1 (br_f h.2.2 hp)
theorem gl_ypo {post : Int32 → Prop} {g : Nat} (h : g < 3) (hp : post 0) : wpY_badPrivilege post (nI g) := by
  refine br_f (nI_pos (by omega)) (br_t ?_ hp)
  rw [← gl_2]
  exact nI_le (by omega) (by omega)
theorem gl_1n0 : ¬ (1 : Int32) = 0 := by decide
/-! may, hasRight -/
def gl_rt (tk pv op : Nat → Int32) (u p : Int32) (n : Nat) : Bool := u == 0 || gl_ex (fun _ => true) tk pv op u p n
theorem gl_xhr {post : Int32 → Prop} {u p x : Int32} {gv tk pv op tm : Nat → Int32} {n : Nat} (hn : n ≤ 48) (hp : post (gl_01 (gl_ex (fun _ => true) tk pv op u p n))) : ∀ d i, i + d = n → gl_ex (fun _ => true) tk pv op u p i = false → wX_hasRight_8 post u p (nI n) x gv tk pv op tm (d + 1) (nI i) := by
  intro d
  induction d with
  | zero =>
    intro i hi he
    have e : i = n := by omega
    subst e
    rw [he] at hp
    exact br_t (nI_le (Nat.le_refl i) (by omega)) hp
  | succ d ih =>
    intro i hi he
    have hin : vp_in (nI i) 48 := vp_in_nI (by omega) (by omega)
    have nx : gl_ex (fun _ => true) tk pv op u p (i + 1) = false → wX_hasRight_8 post u p (nI n) x gv tk pv op tm (d + 1) (nI (i + 1)) := fun h => ih (i + 1) (by omega) h
    refine br_f (nI_ge (by omega) (by omega)) ⟨hin, gl_br tk (by omega) (fun h1 => ⟨hin, gl_br pv (by omega) (fun h2 => ⟨hin, gl_br op (by omega) (fun h3 => gl_nx (nx ?_)) (fun h3 => ?_)⟩) (fun h2 => gl_nx (nx ?_))⟩) (fun h1 => gl_nx (nx ?_))⟩
    · simp [gl_ex_s, he, h3]
    · have t : gl_ex (fun _ => true) tk pv op u p (i + 1) = true := by simp [gl_ex_s, h1, h2, h3]
      have t2 := gl_ex_up t (n - (i + 1))
      rw [show i + 1 + (n - (i + 1)) = n by omega] at t2
      rw [t2] at hp
      exact hp
    · simp [gl_ex_s, he, h2]
    · simp [gl_ex_s, he, h1]
theorem gl_yma {post : Int32 → Prop} {u p x : Int32} {gv tk pv op tm kp : Nat → Int32} {n : Nat} (hn : n ≤ 48) (hp : post (gl_01 (gl_rt tk pv op u p n))) : ∀ d i, i + d = n → gl_ex (fun _ => true) tk pv op u p i = false → wY_may_18 post u p (nI n) x tm gv tk pv op kp (d + 1) (nI i) := by
  intro d
  induction d with
  | zero =>
    intro i hi he
    have e : i = n := by omega
    subst e
    unfold gl_rt at hp
    rw [he, Bool.or_false] at hp
    refine br_t (nI_le (Nat.le_refl i) (by omega)) ?_
    by_cases h : u = 0
    · subst h; exact br_t rfl hp
    · rw [beq_false_of_ne h] at hp; exact br_f h hp
  | succ d ih =>
    intro i hi he
    have hin : vp_in (nI i) 48 := vp_in_nI (by omega) (by omega)
    have nx : gl_ex (fun _ => true) tk pv op u p (i + 1) = false → wY_may_18 post u p (nI n) x tm gv tk pv op kp (d + 1) (nI (i + 1)) := fun h => ih (i + 1) (by omega) h
    refine br_f (nI_ge (by omega) (by omega)) ⟨hin, gl_br tk (by omega) (fun h1 => ⟨hin, gl_br pv (by omega) (fun h2 => ⟨hin, gl_br op (by omega) (fun h3 => gl_nx (nx ?_)) (fun h3 => ?_)⟩) (fun h2 => gl_nx (nx ?_))⟩) (fun h1 => gl_nx (nx ?_))⟩
    · simp [gl_ex_s, he, h3]
    · have t : gl_ex (fun _ => true) tk pv op u p (i + 1) = true := by simp [gl_ex_s, h1, h2, h3]
      have t2 := gl_ex_up t (n - (i + 1))
      rw [show i + 1 + (n - (i + 1)) = n by omega] at t2
      unfold gl_rt at hp
      rw [t2, Bool.or_true] at hp
      exact hp
    · simp [gl_ex_s, he, h2]
    · simp [gl_ex_s, he, h1]
theorem gl_xright {post : Int32 → Prop} {u p x : Int32} {gv tk pv op tm : Nat → Int32} {n : Nat} (hn : n ≤ 48) (hp : post (gl_01 (gl_rt tk pv op u p n))) : wpX_hasRight post (nI n, x, gv, tk, pv, op, tm) u p := by
  unfold wpX_hasRight
  unfold gl_rt at hp
  by_cases h : u = 0
  · subst h; exact br_t rfl hp
  · rw [beq_false_of_ne h, Bool.false_or] at hp
    refine br_f h ⟨n + 1, ?_⟩
    exact gl_xhr hn hp n 0 (by omega) rfl
theorem gl_ymayo {post : Int32 → Prop} {u p : Nat} {x : Int32} {gv tk pv op tm kp : Nat → Int32} {n : Nat} (hu : u < 8) (hq : p < 3) (hn : n ≤ 48) (hp : post (gl_01 (gl_rt tk pv op (nI u) (nI p) n))) : wpY_may post (nI n, x, tm, gv, tk, pv, op, kp) (nI u) (nI p) := by
  unfold wpY_may
  refine gl_yuo hu (br_t rfl (gl_ypo hq (br_t rfl ⟨n + 1, ?_⟩)))
  exact gl_yma hn hp n 0 (by omega) rfl
/-! received, given -/
theorem gl_xrc {post : Int32 → Prop} {u p x : Int32} {gv tk pv op tm : Nat → Int32} {n : Nat} (hn : n ≤ 48) (hp : post (nI (gl_cn (fun j => tk j == u && pv j == p) n))) : ∀ d i, i + d = n → wX_countReceived_5 post u p (nI n) x gv tk pv op tm (d + 1) (nI (gl_cn (fun j => tk j == u && pv j == p) i)) (nI i) := by
  intro d
  induction d with
  | zero =>
    intro i hi
    have e : i = n := by omega
    subst e
    exact br_t (nI_le (Nat.le_refl i) (by omega)) hp
  | succ d ih =>
    intro i hi
    have hin : vp_in (nI i) 48 := vp_in_nI (by omega) (by omega)
    have nx := ih (i + 1) (by omega)
    have nf : ((fun j => tk j == u && pv j == p) : Nat → Bool) i = false → wX_countReceived_5 post u p (nI n) x gv tk pv op tm (d + 1) (nI (gl_cn (fun j => tk j == u && pv j == p) i)) (nI (i + 1)) := fun h => by rw [gl_cn_f h] at nx; exact nx
    refine br_f (nI_ge (by omega) (by omega)) ⟨hin, gl_br tk (by omega) (fun h1 => ⟨hin, gl_br pv (by omega) (fun h2 => ?_) (fun h2 => gl_nx (nf ?_))⟩) (fun h1 => gl_nx (nf ?_))⟩
    · rw [gl_cn_t (P := (fun j => tk j == u && pv j == p)) (by simp [h1, h2])] at nx
      exact nm_r (nI_1 _) (gl_nx nx)
    · simp [h2]
    · simp [h1]
theorem gl_yrc {post : Int32 → Prop} {u p x : Int32} {gv tk pv op tm kp : Nat → Int32} {n : Nat} (hn : n ≤ 48) (hp : post (nI (gl_cn (fun j => tk j == u && pv j == p) n))) : ∀ d i, i + d = n → wY_received_21 post u p (nI n) x tm gv tk pv op kp (d + 1) (nI (gl_cn (fun j => tk j == u && pv j == p) i)) (nI i) := by
  intro d
  induction d with
  | zero =>
    intro i hi
    have e : i = n := by omega
    subst e
    exact br_t (nI_le (Nat.le_refl i) (by omega)) hp
  | succ d ih =>
    intro i hi
    have hin : vp_in (nI i) 48 := vp_in_nI (by omega) (by omega)
    have nx := ih (i + 1) (by omega)
    have nf : ((fun j => tk j == u && pv j == p) : Nat → Bool) i = false → wY_received_21 post u p (nI n) x tm gv tk pv op kp (d + 1) (nI (gl_cn (fun j => tk j == u && pv j == p) i)) (nI (i + 1)) := fun h => by rw [gl_cn_f h] at nx; exact nx
    refine br_f (nI_ge (by omega) (by omega)) ⟨hin, gl_br tk (by omega) (fun h1 => ⟨hin, gl_br pv (by omega) (fun h2 => ?_) (fun h2 => gl_nx (nf ?_))⟩) (fun h1 => gl_nx (nf ?_))⟩
    · rw [gl_cn_t (P := (fun j => tk j == u && pv j == p)) (by simp [h1, h2])] at nx
      exact nm_r (nI_1 _) (gl_nx nx)
    · simp [h2]
    · simp [h1]
theorem gl_xgi {post : Int32 → Prop} {u p x : Int32} {gv tk pv op tm : Nat → Int32} {n : Nat} (hn : n ≤ 48) (hp : post (nI (gl_cn (fun j => gv j == u && pv j == p) n))) : ∀ d i, i + d = n → wX_given_21 post u p (nI n) x gv tk pv op tm (d + 1) (nI (gl_cn (fun j => gv j == u && pv j == p) i)) (nI i) := by
  intro d
  induction d with
  | zero =>
    intro i hi
    have e : i = n := by omega
    subst e
    exact br_t (nI_le (Nat.le_refl i) (by omega)) hp
  | succ d ih =>
    intro i hi
    have hin : vp_in (nI i) 48 := vp_in_nI (by omega) (by omega)
    have nx := ih (i + 1) (by omega)
    have nf : ((fun j => gv j == u && pv j == p) : Nat → Bool) i = false → wX_given_21 post u p (nI n) x gv tk pv op tm (d + 1) (nI (gl_cn (fun j => gv j == u && pv j == p) i)) (nI (i + 1)) := fun h => by rw [gl_cn_f h] at nx; exact nx
    refine br_f (nI_ge (by omega) (by omega)) ⟨hin, gl_br gv (by omega) (fun h1 => ⟨hin, gl_br pv (by omega) (fun h2 => ?_) (fun h2 => gl_nx (nf ?_))⟩) (fun h1 => gl_nx (nf ?_))⟩
    · rw [gl_cn_t (P := (fun j => gv j == u && pv j == p)) (by simp [h1, h2])] at nx
      exact nm_r (nI_1 _) (gl_nx nx)
    · simp [h2]
    · simp [h1]
theorem gl_ygi {post : Int32 → Prop} {u p x : Int32} {gv tk pv op tm kp : Nat → Int32} {n : Nat} (hn : n ≤ 48) (hp : post (nI (gl_cn (fun j => gv j == u && pv j == p) n))) : ∀ d i, i + d = n → wY_given_21 post u p (nI n) x tm gv tk pv op kp (d + 1) (nI (gl_cn (fun j => gv j == u && pv j == p) i)) (nI i) := by
  intro d
  induction d with
  | zero =>
    intro i hi
    have e : i = n := by omega
    subst e
    exact br_t (nI_le (Nat.le_refl i) (by omega)) hp
  | succ d ih =>
    intro i hi
    have hin : vp_in (nI i) 48 := vp_in_nI (by omega) (by omega)
    have nx := ih (i + 1) (by omega)
    have nf : ((fun j => gv j == u && pv j == p) : Nat → Bool) i = false → wY_given_21 post u p (nI n) x tm gv tk pv op kp (d + 1) (nI (gl_cn (fun j => gv j == u && pv j == p) i)) (nI (i + 1)) := fun h => by rw [gl_cn_f h] at nx; exact nx
    refine br_f (nI_ge (by omega) (by omega)) ⟨hin, gl_br gv (by omega) (fun h1 => ⟨hin, gl_br pv (by omega) (fun h2 => ?_) (fun h2 => gl_nx (nf ?_))⟩) (fun h1 => gl_nx (nf ?_))⟩
    · rw [gl_cn_t (P := (fun j => gv j == u && pv j == p)) (by simp [h1, h2])] at nx
      exact nm_r (nI_1 _) (gl_nx nx)
    · simp [h2]
    · simp [h1]
/-! stands -/
def gl_an (P : Nat → Bool) : Nat → Bool
  | 0 => false
  | i + 1 => gl_an P i || P i
theorem gl_an_s (P : Nat → Bool) (i : Nat) : gl_an P (i + 1) = (gl_an P i || P i) := rfl
theorem gl_an_up {P : Nat → Bool} {i : Nat} (h : gl_an P i = true) : ∀ m, gl_an P (i + m) = true := by
  intro m
  induction m with
  | zero => exact h
  | succ m ih =>
    show gl_an P ((i + m) + 1) = true
    rw [gl_an_s, ih, Bool.true_or]
theorem gl_xst {post : Int32 → Prop} {t x : Int32} {gv tk pv op tm : Nat → Int32} {n : Nat} (hn : n ≤ 48) (hp : post (gl_01 (gl_an (fun j => tm j == t) n))) : ∀ d i, i + d = n → gl_an (fun j => tm j == t) i = false → wX_stands_2 post t (nI n) x gv tk pv op tm (d + 1) (nI i) := by
  intro d
  induction d with
  | zero =>
    intro i hi he
    have e : i = n := by omega
    subst e
    rw [he] at hp
    exact br_t (nI_le (Nat.le_refl i) (by omega)) hp
  | succ d ih =>
    intro i hi he
    have hin : vp_in (nI i) 48 := vp_in_nI (by omega) (by omega)
    refine br_f (nI_ge (by omega) (by omega)) ⟨hin, gl_br tm (by omega) (fun h1 => ?_) (fun h1 => gl_nx (ih (i + 1) (by omega) ?_))⟩
    · have t1 : gl_an (fun j => tm j == t) (i + 1) = true := by simp [gl_an_s, h1]
      have t2 := gl_an_up t1 (n - (i + 1))
      rw [show i + 1 + (n - (i + 1)) = n by omega] at t2
      rw [t2] at hp
      exact hp
    · simp [gl_an_s, he, h1]
theorem gl_yst {post : Int32 → Prop} {t x : Int32} {gv tk pv op tm kp : Nat → Int32} {n : Nat} (hn : n ≤ 48) (hp : post (gl_01 (gl_an (fun j => tm j == t) n))) : ∀ d i, i + d = n → gl_an (fun j => tm j == t) i = false → wY_stands_2 post t (nI n) x tm gv tk pv op kp (d + 1) (nI i) := by
  intro d
  induction d with
  | zero =>
    intro i hi he
    have e : i = n := by omega
    subst e
    rw [he] at hp
    exact br_t (nI_le (Nat.le_refl i) (by omega)) hp
  | succ d ih =>
    intro i hi he
    have hin : vp_in (nI i) 48 := vp_in_nI (by omega) (by omega)
    refine br_f (nI_ge (by omega) (by omega)) ⟨hin, gl_br tm (by omega) (fun h1 => ?_) (fun h1 => gl_nx (ih (i + 1) (by omega) ?_))⟩
    · have t1 : gl_an (fun j => tm j == t) (i + 1) = true := by simp [gl_an_s, h1]
      have t2 := gl_an_up t1 (n - (i + 1))
      rw [show i + 1 + (n - (i + 1)) = n by omega] at t2
      rw [t2] at hp
      exact hp
    · simp [gl_an_s, he, h1]
