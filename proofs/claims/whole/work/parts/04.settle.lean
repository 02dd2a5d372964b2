/-! part 4: the reference's pass and its drop -/
theorem gl_tf {b : Bool} (h : ¬ b = false) : b = true := by
  cases b
  · exact absurd rfl h
  · rfl
theorem gl_vb0 : vp_nar .boolean 0 = 0 := rfl
theorem gl_vb1 : vp_nar .boolean 1 = 1 := rfl
theorem gl_vb (b : Bool) : vp_nar .boolean (gl_01 b) = gl_01 b := by cases b <;> rfl
theorem gl_br2 (a b : Nat → Int32) {A B : Prop} {i g : Nat} (hi : i < 48) (hg : g < 48) (f : a i = b g → A) (h : ¬ a i = b g → B) : (a (nI i).toNatClampNeg = b (nI g).toNatClampNeg → A) ∧ (¬ a (nI i).toNatClampNeg = b (nI g).toNatClampNeg → B) := by
  rw [nI_clamp (by omega), nI_clamp (by omega)]
  exact ⟨f, h⟩
theorem gl_yfo {post : Int32 → Prop} {x : Int32} {tm gv tk pv op kp : Nat → Int32} {K : Nat → Bool} {n g : Nat} (hg : g < 48) (hk : ∀ j, j < g → kp j = gl_01 (K j)) (hp : post (gl_01 (gl_ex K tk pv op (gv g) (pv g) g))) : ∀ d i, i + d = g → gl_ex K tk pv op (gv g) (pv g) i = false → wY_founded_13 post (nI g) (nI n) x tm gv tk pv op kp (d + 1) (nI i) := by
  intro d
  induction d with
  | zero =>
    intro i hi he
    have e : i = g := by omega
    subst e
    rw [he] at hp
    exact br_t (nI_le (Nat.le_refl i) (by omega)) hp
  | succ d ih =>
    intro i hi he
    have hin : vp_in (nI i) 48 := vp_in_nI (by omega) (by omega)
    have hgn : vp_in (nI g) 48 := vp_in_nI (by omega) (by omega)
    have nx : gl_ex K tk pv op (gv g) (pv g) (i + 1) = false → wY_founded_13 post (nI g) (nI n) x tm gv tk pv op kp (d + 1) (nI (i + 1)) := fun h => ih (i + 1) (by omega) h
    have hki := hk i (by omega)
    refine br_f (nI_ge (by omega) (by omega)) ⟨hin, gl_br kp (by omega) (fun h0 => gl_nx (nx ?_)) (fun h0 => ⟨hin, gl_br op (by omega) (fun h1 => gl_nx (nx ?_)) (fun h1 => ⟨hin, hgn, gl_br2 tk gv (by omega) hg (fun h2 => ⟨hin, hgn, gl_br2 pv pv (by omega) hg (fun h3 => ?_) (fun h3 => gl_nx (nx ?_))⟩) (fun h2 => gl_nx (nx ?_))⟩)⟩)⟩
    · rw [hki, gl_01z] at h0
      simp [gl_ex_s, he, h0]
    · simp [gl_ex_s, he, h1]
    · rw [hki, gl_01z] at h0
      have t : gl_ex K tk pv op (gv g) (pv g) (i + 1) = true := by simp [gl_ex_s, h0, h1, h2, h3]
      have t2 := gl_ex_up t (g - (i + 1))
      rw [show i + 1 + (g - (i + 1)) = g by omega] at t2
      rw [t2] at hp
      exact hp
    · simp [gl_ex_s, he, h3]
    · simp [gl_ex_s, he, h2]
theorem gl_yfounded {post : Int32 → Prop} {x : Int32} {tm gv tk pv op kp : Nat → Int32} {K : Nat → Bool} {n g : Nat} (hg : g < 48) (hk : ∀ j, j < g → kp j = gl_01 (K j)) (hp : post (gl_01 (gv g == 0 || gl_ex K tk pv op (gv g) (pv g) g))) : wpY_founded post (nI n, x, tm, gv, tk, pv, op, kp) (nI g) := by
  unfold wpY_founded
  refine ⟨vp_in_nI hg (by omega), gl_br gv hg (fun h => ?_) (fun h => ⟨g + 1, ?_⟩)⟩
  · rw [h] at hp; exact hp
  · rw [beq_false_of_ne h, Bool.false_or] at hp
    exact gl_yfo hg hk hp g 0 (by omega) rfl
theorem gl_ys39 {post : Int32 → SY → Prop} {J : Int32 → Int32 → (Nat → Int32) → (Nat → Int32) → (Nat → Int32) → (Nat → Int32) → (Nat → Int32) → (Nat → Int32) → Prop} {c x : Int32} {tm gv tk pv op kp : Nat → Int32} {m i : Nat} (b : Bool) {z : Int32} (hz : z = gl_01 b) (hi : i < 48) (h : J (nI (m + (if b = false then 1 else 0))) (nI (i + 1)) tm gv tk pv op (upd kp i (gl_01 b))) : wY_settle_39 post J (nI m) (nI i) z (nI i) c x tm gv tk pv op kp := by
  have hin : vp_in (nI i) 48 := vp_in_nI hi (by omega)
  have e1 : (nI i).toNatClampNeg = i := nI_clamp (by omega)
  have e2 : upd kp i (gl_01 b) i = gl_01 b := if_pos rfl
  subst hz
  unfold wY_settle_39
  rw [gl_vb, e1]
  refine ⟨hin, nm_e ⟨hin, ?_⟩⟩
  rw [e2]
  cases b
  · exact br_t rfl (nm_r (nI_1 _) (gl_nx h))
  · exact br_f gl_1n0 (gl_nx h)
theorem gl_yse {post : Int32 → SY → Prop} {x : Int32} {tm gv tk pv op : Nat → Int32} {K : Nat → Bool} {n : Nat} (hn : n ≤ 48) (hp : ∀ kp, (∀ j, j < n → kp j = gl_01 (gl_kk gv tk pv op K n j)) → post (nI (gl_cn (fun j => !(gl_kk gv tk pv op K n j)) n)) (nI n, x, tm, gv, tk, pv, op, kp)) : ∀ d i kp, i + d = n → (∀ j, j < n → kp j = gl_01 (gl_kk gv tk pv op K i j)) → wY_settle_4 post (nI n) x (d + 1) (nI (gl_cn (fun j => !(gl_kk gv tk pv op K i j)) i)) (nI i) tm gv tk pv op kp := by
  intro d
  induction d with
  | zero =>
    intro i kp hi hk
    have e : i = n := by omega
    subst e
    exact br_t (nI_le (Nat.le_refl i) (by omega)) (hp kp hk)
  | succ d ih =>
    intro i kp hi hk
    have hin : vp_in (nI i) 48 := vp_in_nI (by omega) (by omega)
    have hki := hk i (by omega)
    have ks := gl_kk_s (gv := gv) (tk := tk) (pv := pv) (op := op) (K := K) i
    have nx : ∀ b : Bool, gl_kk gv tk pv op K (i + 1) i = b → wY_settle_4 post (nI n) x (d + 1) (nI (gl_cn (fun j => !(gl_kk gv tk pv op K i j)) i + (if b = false then 1 else 0))) (nI (i + 1)) tm gv tk pv op (upd kp i (gl_01 b)) := by
      intro b hb
      have t := ih (i + 1) (upd kp i (gl_01 b)) (by omega) (fun j hj => by
        show (if j = i then _ else _) = _
        by_cases z : j = i
        · subst z; rw [if_pos rfl, hb]
        · rw [if_neg z, gl_kk_n z]; exact hk j hj)
      have ec : gl_cn (fun j => !(gl_kk gv tk pv op K (i + 1) j)) (i + 1) = gl_cn (fun j => !(gl_kk gv tk pv op K i j)) i + (if b = false then 1 else 0) := by
        show gl_cn (fun j => !(gl_kk gv tk pv op K (i + 1) j)) i + (if (!(gl_kk gv tk pv op K (i + 1) i)) = true then 1 else 0) = _
        rw [hb, gl_cn_cg (P := fun j => !(gl_kk gv tk pv op K (i + 1) j)) (Q := fun j => !(gl_kk gv tk pv op K i j)) i (fun j hj => by rw [gl_kk_n (by omega)])]
        cases b <;> rfl
      rw [ec] at t
      exact t
    refine br_f (nI_ge (by omega) (by omega)) ⟨hin, gl_br kp (by omega) (fun h => ?_) (fun h => ?_)⟩
    · rw [hki, gl_01z] at h
      rw [h, Bool.false_and] at ks
      exact gl_ys39 false rfl (by omega) (nx false ks)
    · rw [hki, gl_01z] at h
      have h' : gl_kk gv tk pv op K i i = true := gl_tf h
      rw [h', Bool.true_and] at ks
      refine gl_yfounded (K := gl_kk gv tk pv op K i) (by omega) (fun j hj => hk j (by omega)) ?_
      cases hb : (gv i == 0 || gl_ex (gl_kk gv tk pv op K i) tk pv op (gv i) (pv i) i)
      · rw [hb] at ks
        exact br_t rfl (gl_ys39 false rfl (by omega) (nx false ks))
      · rw [hb] at ks
        exact br_f gl_1n0 (gl_ys39 true rfl (by omega) (nx true ks))
theorem gl_ysettle {post : Int32 → SY → Prop} {x : Int32} {tm gv tk pv op kp : Nat → Int32} {K : Nat → Bool} {n : Nat} (hn : n ≤ 48) (hk : ∀ j, j < n → kp j = gl_01 (K j)) (hp : ∀ kp, (∀ j, j < n → kp j = gl_01 (gl_kk gv tk pv op K n j)) → post (nI (gl_cn (fun j => !(gl_kk gv tk pv op K n j)) n)) (nI n, x, tm, gv, tk, pv, op, kp)) : wpY_settle post (nI n, x, tm, gv, tk, pv, op, kp) := by
  unfold wpY_settle
  refine ⟨n + 1, ?_⟩
  exact gl_yse hn hp n 0 kp (by omega) hk
/-! its drop -/
theorem gl_ydr {post : SY → Prop} {gv tk pv op tm kp : Nat → Int32} {K : Nat → Bool} {n : Nat} {x : Int32} (hn : n ≤ 48) (hk : ∀ j, j < n → kp j = gl_01 (K j)) (hp : post (nI (gl_dl K n), x, gl_da (fun y => y) K tm n, gl_da (fun y => y) K gv n, gl_da (fun y => y) K tk n, gl_da (fun y => y) K pv n, gl_da (fun y => vp_nar .boolean y) K op n, kp)) : ∀ d i, i + d = n → wY_drop_4 post (nI n) x (d + 1) (nI (gl_dl K i)) (nI i) (gl_da (fun y => y) K tm i) (gl_da (fun y => y) K gv i) (gl_da (fun y => y) K tk i) (gl_da (fun y => y) K pv i) (gl_da (fun y => vp_nar .boolean y) K op i) kp := by
  intro d
  induction d with
  | zero =>
    intro i hi
    have e : i = n := by omega
    subst e
    exact br_t (nI_le (Nat.le_refl i) (by omega)) hp
  | succ d ih =>
    intro i hi
    have nx := ih (i + 1) (by omega)
    have hl := gl_dl_le K i
    have hki := hk i (by omega)
    have h1 : vp_in (nI i) 48 := vp_in_nI (by omega) (by omega)
    have h2 : vp_in (nI (gl_dl K i)) 48 := vp_in_nI (by omega) (by omega)
    have e1 : (nI i).toNatClampNeg = i := nI_clamp (by omega)
    have e2 : (nI (gl_dl K i)).toNatClampNeg = gl_dl K i := nI_clamp (by omega)
    refine br_f (nI_ge (by omega) (by omega)) ⟨h1, gl_br kp (by omega) (fun h => gl_nx ?_) (fun h => ?_)⟩
    · rw [hki, gl_01z] at h
      rw [gl_dl_f h, gl_da_f h, gl_da_f h, gl_da_f h, gl_da_f h, gl_da_f h] at nx
      exact nx
    · rw [hki, gl_01z] at h
      have h' : K i = true := gl_tf h
      rw [gl_dl_t h', gl_da_t h', gl_da_t h', gl_da_t h', gl_da_t h', gl_da_t h'] at nx
      rw [e1, e2]
      exact ⟨h1, h2, nm_e ⟨h1, h2, nm_e ⟨h1, h2, nm_e ⟨h1, h2, nm_e ⟨h1, h2, nm_e (nm_r (nI_1 _) (gl_nx nx))⟩⟩⟩⟩⟩
theorem gl_ydrop {post : SY → Prop} {gv tk pv op tm kp : Nat → Int32} {K : Nat → Bool} {n : Nat} {x : Int32} (hn : n ≤ 48) (hk : ∀ j, j < n → kp j = gl_01 (K j)) (hp : post (nI (gl_dl K n), x, gl_da (fun y => y) K tm n, gl_da (fun y => y) K gv n, gl_da (fun y => y) K tk n, gl_da (fun y => y) K pv n, gl_da (fun y => vp_nar .boolean y) K op n, kp)) : wpY_drop post (nI n, x, tm, gv, tk, pv, op, kp) := by
  unfold wpY_drop
  refine ⟨n + 1, ?_⟩
  exact gl_ydr hn hk hp n 0 (by omega)
/-! the loops that begin reach and expel -/
theorem gl_kpu {kp : Nat → Int32} {i : Nat} {K : Nat → Bool} {b : Bool} (hk : ∀ j, j < i → kp j = gl_01 (K j)) (hb : K i = b) : ∀ j, j < i + 1 → upd kp i (gl_01 b) j = gl_01 (K j) := by
  intro j hj
  show (if j = i then _ else _) = _
  by_cases z : j = i
  · subst z; rw [if_pos rfl, hb]
  · rw [if_neg z]; exact hk j (by omega)
theorem gl_st {P : (Nat → Int32) → Prop} {kp : Nat → Int32} {i : Nat} {z : Int32} (b : Bool) (hz : z = gl_01 b) (hi : i < 48) (h : P (upd kp i (gl_01 b))) : vp_in (nI i) 48 ∧ ∀ y : Nat → Int32, y = upd kp (nI i).toNatClampNeg (vp_nar .boolean z) → P y := by
  subst hz
  rw [gl_vb, nI_clamp (by omega)]
  exact ⟨vp_in_nI hi (by omega), nm_e h⟩
theorem gl_yre {post : Int32 → SY → Prop} {a b p x : Int32} {tm gv tk pv op : Nat → Int32} {n : Nat} (hn : n ≤ 48) (hp : ∀ kp, (∀ j, j < n → kp j = gl_01 (!(gl_mb gv tk pv a b p j))) → wpY_settle post (nI n, x, tm, gv, tk, pv, op, kp)) : ∀ d i kp, i + d = n → (∀ j, j < i → kp j = gl_01 (!(gl_mb gv tk pv a b p j))) → wY_reach_26 post a b p (nI n) x (d + 1) (nI i) tm gv tk pv op kp := by
  intro d
  induction d with
  | zero =>
    intro i kp hi hk
    have e : i = n := by omega
    subst e
    exact br_t (nI_le (Nat.le_refl i) (by omega)) (hp kp hk)
  | succ d ih =>
    intro i kp hi hk
    have hin : vp_in (nI i) 48 := vp_in_nI (by omega) (by omega)
    have nx : ∀ c : Bool, (!(gl_mb gv tk pv a b p i)) = c → wY_reach_26 post a b p (nI n) x (d + 1) (nI (i + 1)) tm gv tk pv op (upd kp i (gl_01 c)) := fun c hc => ih (i + 1) _ (by omega) (gl_kpu (K := fun j => !(gl_mb gv tk pv a b p j)) hk hc)
    refine br_f (nI_ge (by omega) (by omega)) ⟨hin, gl_br gv (by omega) (fun h1 => ⟨hin, gl_br tk (by omega) (fun h2 => ⟨hin, gl_br pv (by omega) (fun h3 => gl_st false rfl (by omega) (gl_nx (nx false ?_))) (fun h3 => gl_st true rfl (by omega) (gl_nx (nx true ?_)))⟩) (fun h2 => gl_st true rfl (by omega) (gl_nx (nx true ?_)))⟩) (fun h1 => gl_st true rfl (by omega) (gl_nx (nx true ?_)))⟩
    · simp [gl_mb, h1, h2, h3]
    · simp [gl_mb, h3]
    · simp [gl_mb, h2]
    · simp [gl_mb, h1]
theorem gl_yex {post : Int32 → SY → Prop} {a x : Int32} {tm gv tk pv op : Nat → Int32} {n : Nat} (hn : n ≤ 48) (hp : ∀ kp, (∀ j, j < n → kp j = gl_01 (!(gl_mt gv tk a j))) → wpY_settle (fun r u => wpY_drop (fun u' => post r u') u) (nI n, x, tm, gv, tk, pv, op, kp)) : ∀ d i kp, i + d = n → (∀ j, j < i → kp j = gl_01 (!(gl_mt gv tk a j))) → wY_expel_15 post a (nI n) x (d + 1) (nI i) tm gv tk pv op kp := by
  intro d
  induction d with
  | zero =>
    intro i kp hi hk
    have e : i = n := by omega
    subst e
    exact br_t (nI_le (Nat.le_refl i) (by omega)) (hp kp hk)
  | succ d ih =>
    intro i kp hi hk
    have hin : vp_in (nI i) 48 := vp_in_nI (by omega) (by omega)
    have nx : ∀ c : Bool, (!(gl_mt gv tk a i)) = c → wY_expel_15 post a (nI n) x (d + 1) (nI (i + 1)) tm gv tk pv op (upd kp i (gl_01 c)) := fun c hc => ih (i + 1) _ (by omega) (gl_kpu (K := fun j => !(gl_mt gv tk a j)) hk hc)
    refine br_f (nI_ge (by omega) (by omega)) ⟨hin, gl_br gv (by omega) (fun h1 => gl_st false rfl (by omega) (gl_nx (nx false ?_))) (fun h1 => ⟨hin, gl_br tk (by omega) (fun h2 => gl_st false rfl (by omega) (gl_nx (nx false ?_))) (fun h2 => gl_st true rfl (by omega) (gl_nx (nx true ?_)))⟩)⟩
    · simp [gl_mt, h1]
    · simp [gl_mt, h2]
    · simp [gl_mt, h1, h2]
