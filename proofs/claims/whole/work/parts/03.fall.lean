/-! part 3: the component's sets of slots, its pass, its drop -/
theorem gl_isin {post : Int32 → Prop} {w : Int64} {i : Nat} (hi : i < 64) (f : gl_b w i = false → post 0) (g : gl_b w i = true → post 1) : wpX_isIn post (nI i) w := by
  cases h : gl_b w i
  · exact br_t ((gl_bt w hi).mpr h) (f h)
  · exact br_f (fun z => by rw [(gl_bt w hi).mp z] at h; exact absurd h (by decide)) (g h)
/-- w holds just the slots below i of which M says true -/
def gl_set (w : Int64) (i : Nat) (M : Nat → Bool) : Prop := ∀ j, gl_b w j = (decide (j < i) && M j)
theorem gl_set_0 (M : Nat → Bool) : gl_set 0 0 M := fun j => by rw [gl_b0]; simp
theorem gl_set_t {w : Int64} {i : Nat} {M : Nat → Bool} (h : gl_set w i M) (hi : i < 64) (hM : M i = true) : gl_set (w ||| ((1 : Int64) <<< ((nI i).toInt64 &&& 63))) (i + 1) M := by
  intro j
  rw [gl_bor w hi, h j]
  rcases Nat.lt_trichotomy j i with z | z | z
  · simp [z, show j < i + 1 by omega, show ¬ i = j by omega]
  · subst z; simp [hM]
  · simp [show ¬ j < i by omega, show ¬ j < i + 1 by omega, show ¬ i = j by omega]
theorem gl_set_f {w : Int64} {i : Nat} {M : Nat → Bool} (h : gl_set w i M) (hM : M i = false) : gl_set w (i + 1) M := by
  intro j
  rw [h j]
  rcases Nat.lt_trichotomy j i with z | z | z
  · simp [z, show j < i + 1 by omega]
  · subst z; simp [hM]
  · simp [show ¬ j < i by omega, show ¬ j < i + 1 by omega]
def gl_mb (gv tk pv : Nat → Int32) (a b p : Int32) : Nat → Bool := fun j => gv j == a && (tk j == b && pv j == p)
def gl_mt (gv tk : Nat → Int32) (a : Int32) : Nat → Bool := fun j => gv j == a || tk j == a
theorem gl_xsb {post : Int64 → Prop} {a b p x : Int32} {gv tk pv op tm : Nat → Int32} {n : Nat} (hn : n ≤ 48) (hp : ∀ w, gl_set w n (gl_mb gv tk pv a b p) → post w) : ∀ d i w, i + d = n → gl_set w i (gl_mb gv tk pv a b p) → wX_slotsBetween_6 post a b p (nI n) x gv tk pv op tm (d + 1) w (nI i) := by
  intro d
  induction d with
  | zero =>
    intro i w hi hw
    have e : i = n := by omega
    subst e
    exact br_t (nI_le (Nat.le_refl i) (by omega)) (hp w hw)
  | succ d ih =>
    intro i w hi hw
    have hin : vp_in (nI i) 48 := vp_in_nI (by omega) (by omega)
    have nf : gl_mb gv tk pv a b p i = false → wX_slotsBetween_6 post a b p (nI n) x gv tk pv op tm (d + 1) w (nI (i + 1)) := fun h => ih (i + 1) w (by omega) (gl_set_f hw h)
    refine br_f (nI_ge (by omega) (by omega)) ⟨hin, gl_br gv (by omega) (fun h1 => ⟨hin, gl_br tk (by omega) (fun h2 => ⟨hin, gl_br pv (by omega) (fun h3 => nm_e (gl_nx (ih (i + 1) _ (by omega) (gl_set_t hw (by omega) ?_)))) (fun h3 => gl_nx (nf ?_))⟩) (fun h2 => gl_nx (nf ?_))⟩) (fun h1 => gl_nx (nf ?_))⟩
    · simp [gl_mb, h1, h2, h3]
    · simp [gl_mb, h3]
    · simp [gl_mb, h2]
    · simp [gl_mb, h1]
theorem gl_xbetween {post : Int64 → Prop} {a b p x : Int32} {gv tk pv op tm : Nat → Int32} {n : Nat} (hn : n ≤ 48) (hp : ∀ w, gl_set w n (gl_mb gv tk pv a b p) → post w) : wpX_slotsBetween post (nI n, x, gv, tk, pv, op, tm) a b p := by
  unfold wpX_slotsBetween
  refine ⟨n + 1, ?_⟩
  exact gl_xsb hn hp n 0 0 (by omega) (gl_set_0 _)
theorem gl_xst36 {post : Int64 → Prop} {J : Int64 → Int32 → Prop} {a x : Int32} {w : Int64} {gv tk pv op tm : Nat → Int32} {n i : Nat} (h : J (w ||| ((1 : Int64) <<< ((nI i).toInt64 &&& 63))) (nI (i + 1))) : wX_slotsTouching_36 post J a w (nI i) (nI n) x gv tk pv op tm := by
  unfold wX_slotsTouching_36
  exact nm_e (gl_nx h)
theorem gl_xto {post : Int64 → Prop} {a x : Int32} {gv tk pv op tm : Nat → Int32} {n : Nat} (hn : n ≤ 48) (hp : ∀ w, gl_set w n (gl_mt gv tk a) → post w) : ∀ d i w, i + d = n → gl_set w i (gl_mt gv tk a) → wX_slotsTouching_5 post a (nI n) x gv tk pv op tm (d + 1) w (nI i) := by
  intro d
  induction d with
  | zero =>
    intro i w hi hw
    have e : i = n := by omega
    subst e
    exact br_t (nI_le (Nat.le_refl i) (by omega)) (hp w hw)
  | succ d ih =>
    intro i w hi hw
    have hin : vp_in (nI i) 48 := vp_in_nI (by omega) (by omega)
    refine br_f (nI_ge (by omega) (by omega)) ⟨hin, gl_br gv (by omega) (fun h1 => gl_xst36 (ih (i + 1) _ (by omega) (gl_set_t hw (by omega) ?_))) (fun h1 => ⟨hin, gl_br tk (by omega) (fun h2 => gl_xst36 (ih (i + 1) _ (by omega) (gl_set_t hw (by omega) ?_))) (fun h2 => gl_nx (ih (i + 1) w (by omega) (gl_set_f hw ?_)))⟩)⟩
    · simp [gl_mt, h1]
    · simp [gl_mt, h2]
    · simp [gl_mt, h1, h2]
theorem gl_xtouching {post : Int64 → Prop} {a x : Int32} {gv tk pv op tm : Nat → Int32} {n : Nat} (hn : n ≤ 48) (hp : ∀ w, gl_set w n (gl_mt gv tk a) → post w) : wpX_slotsTouching post (nI n, x, gv, tk, pv, op, tm) a := by
  unfold wpX_slotsTouching
  refine ⟨n + 1, ?_⟩
  exact gl_xto hn hp n 0 0 (by omega) (gl_set_0 _)
/-! the pass -/
theorem gl_n1 {b : Bool} (h : false = !b) : b = true := by
  cases b
  · exact absurd h (by decide)
  · rfl
theorem gl_n2 {b : Bool} (h : true = !b) : b = false := by
  cases b
  · rfl
  · exact absurd h (by decide)
theorem gl_ro {post : Int32 → Prop} {a b : Int32} {g q : Nat} (ha : a = nI g) (hb : b = nI q) (h : post ((1 : Int32) <<< (nI (g * 3 + q) &&& 31))) : wpX_rightOf post a b := by
  subst ha hb
  have e : nI g * 3 + nI q = nI (g * 3 + q) := by rw [← nI_add, ← pk_mul, gl_3]
  unfold wpX_rightOf
  rw [e]
  exact h
/-- the bits of r are the rights that the kept ones below i give -/
def gl_rts (r : Int32) (K : Nat → Bool) (tk pv op : Nat → Int32) (i : Nat) : Prop := ∀ u p : Nat, u < 8 → p < 3 → bt r (u * 3 + p) = gl_ex K tk pv op (nI u) (nI p) i
theorem gl_rts_0 (K : Nat → Bool) (tk pv op : Nat → Int32) : gl_rts 0 K tk pv op 0 := fun u p _ _ => b_0 _
section
variable {gv tk pv op tm : Nat → Int32} {K : Nat → Bool} {n i : Nat} {w : Int64} {r x : Int32}
theorem gl_st_same (h : gl_kk gv tk pv op K (i + 1) i = gl_kk gv tk pv op K i i) (hw : gl_set w n (fun j => !(gl_kk gv tk pv op K i j))) : gl_set w n (fun j => !(gl_kk gv tk pv op K (i + 1) j)) := by
  intro j
  rw [hw j]
  dsimp only
  by_cases z : j = i
  · subst z; rw [h]
  · rw [gl_kk_n z]
theorem gl_st_fall (hi : i < n) (hn : n ≤ 48) (h1 : gl_kk gv tk pv op K (i + 1) i = false) (hw : gl_set w n (fun j => !(gl_kk gv tk pv op K i j))) : gl_set (w ||| ((1 : Int64) <<< ((nI i).toInt64 &&& 63))) n (fun j => !(gl_kk gv tk pv op K (i + 1) j)) := by
  intro j
  rw [gl_bor w (by omega), hw j]
  dsimp only
  by_cases z : j = i
  · subst z; simp [h1, hi]
  · rw [gl_kk_n z]; simp [show ¬ i = j by omega]
theorem gl_rt_same (h : gl_kk gv tk pv op K (i + 1) i = false ∨ op i = 0) (hr : gl_rts r (gl_kk gv tk pv op K i) tk pv op i) : gl_rts r (gl_kk gv tk pv op K (i + 1)) tk pv op (i + 1) := by
  intro u p hu hp
  rw [hr u p hu hp, gl_ex_k]
  rcases h with h | h
  · rw [h]; simp
  · simp [h]
theorem gl_rt_grow {t q : Nat} (ht : t < 8) (hq : q < 3) (et : tk i = nI t) (eq : pv i = nI q) (h : gl_kk gv tk pv op K (i + 1) i = true) (ho : ¬ op i = 0) (hr : gl_rts r (gl_kk gv tk pv op K i) tk pv op i) : gl_rts (r ||| ((1 : Int32) <<< (nI (t * 3 + q) &&& 31))) (gl_kk gv tk pv op K (i + 1)) tk pv op (i + 1) := by
  intro u p hu hp
  have e1 : (nI t == nI u) = decide (t = u) := by
    by_cases z : t = u
    · subst z; simp
    · rw [decide_eq_false z]; exact beq_false_of_ne (fun y => z ((nI_eq (by omega) (by omega)).mp y))
  have e2 : (nI q == nI p) = decide (q = p) := by
    by_cases z : q = p
    · subst z; simp
    · rw [decide_eq_false z]; exact beq_false_of_ne (fun y => z ((nI_eq (by omega) (by omega)).mp y))
  have e3 : decide (t * 3 + q = u * 3 + p) = (decide (t = u) && decide (q = p)) := by
    rw [← Bool.decide_and]
    exact decide_eq_decide.mpr ⟨fun y => by omega, fun y => by omega⟩
  rw [gl_ror r (by omega), hr u p hu hp, gl_ex_k, h, et, eq, e1, e2, e3, beq_false_of_ne ho]
  rfl
theorem gl_xwf76 {post : Int64 → Prop} {J : Int64 → Int32 → Int32 → Prop} (hn : n ≤ 48) (hi : i < n) (hok : gl_ok n gv tk pv) (h : gl_kk gv tk pv op K (i + 1) i = true) (hr : gl_rts r (gl_kk gv tk pv op K i) tk pv op i) (hJ : ∀ r', gl_rts r' (gl_kk gv tk pv op K (i + 1)) tk pv op (i + 1) → J w r' (nI (i + 1))) : wX_withFallen_76 post J w r (nI i) (nI n) x gv tk pv op tm := by
  have hin : vp_in (nI i) 48 := vp_in_nI (by omega) (by omega)
  obtain ⟨t, ht, et⟩ := hok.2.1 i hi
  obtain ⟨q, hq, eq⟩ := hok.2.2 i hi
  unfold wX_withFallen_76
  refine ⟨hin, gl_br op (by omega) (fun h3 => gl_nx (hJ r (gl_rt_same (Or.inr h3) hr))) (fun h3 => ⟨hin, hin, gl_ro (g := t) (q := q) ?_ ?_ (nm_e (gl_nx (hJ _ (gl_rt_grow ht hq et eq h h3 hr))))⟩)⟩
  · rw [nI_clamp (by omega)]; exact et
  · rw [nI_clamp (by omega)]; exact eq
end
theorem gl_xwf {post : Int64 → Prop} {gv tk pv op tm : Nat → Int32} {K : Nat → Bool} {n : Nat} {x : Int32} (hn : n ≤ 48) (hok : gl_ok n gv tk pv) (hp : ∀ w, gl_set w n (fun j => !(gl_kk gv tk pv op K n j)) → post w) : ∀ d i w r, i + d = n → gl_set w n (fun j => !(gl_kk gv tk pv op K i j)) → gl_rts r (gl_kk gv tk pv op K i) tk pv op i → wX_withFallen_8 post (nI n) x gv tk pv op tm (d + 1) w r (nI i) := by
  intro d
  induction d with
  | zero =>
    intro i w r hi hw hr
    have e : i = n := by omega
    subst e
    exact br_t (nI_le (Nat.le_refl i) (by omega)) (hp w hw)
  | succ d ih =>
    intro i w r hi hw hr
    have hin : vp_in (nI i) 48 := vp_in_nI (by omega) (by omega)
    have hlt : i < n := by omega
    obtain ⟨g, hg, eg⟩ := hok.1 i hlt
    obtain ⟨q, hq, eq⟩ := hok.2.2 i hlt
    have hb : gl_b w i = !(gl_kk gv tk pv op K i i) := by rw [hw i]; simp [hlt]
    have ks := gl_kk_s (gv := gv) (tk := tk) (pv := pv) (op := op) (K := K) i
    have hbit : bt r (g * 3 + q) = gl_ex (gl_kk gv tk pv op K i) tk pv op (gv i) (pv i) i := by rw [eg, eq]; exact hr g q hg hq
    refine br_f (nI_ge hlt (by omega)) (gl_isin (by omega) (fun h => br_t rfl ⟨hin, hin, gl_ro (g := g) (q := q) ?_ ?_ ⟨hin, gl_br gv (by omega) (fun h1 => ?_) (fun h1 => ?_)⟩⟩) (fun h => br_f gl_1n0 (gl_nx ?_)))
    · rw [nI_clamp (by omega)]; exact eg
    · rw [nI_clamp (by omega)]; exact eq
    · have k1 : gl_kk gv tk pv op K i i = true := gl_n1 (h.symm.trans hb)
      have k2 : gl_kk gv tk pv op K (i + 1) i = true := by rw [ks, k1, h1]; rfl
      exact gl_xwf76 hn hlt hok k2 hr (fun r' hr' => ih (i + 1) w r' (by omega) (gl_st_same (k2.trans k1.symm) hw) hr')
    · have k1 : gl_kk gv tk pv op K i i = true := gl_n1 (h.symm.trans hb)
      rw [k1, beq_false_of_ne h1, Bool.true_and, Bool.false_or, ← hbit] at ks
      cases hB : bt r (g * 3 + q)
      · rw [hB] at ks
        exact br_t ((gl_rand r (by omega)).mpr hB) (nm_e (gl_nx (ih (i + 1) _ r (by omega) (gl_st_fall hlt hn ks hw) (gl_rt_same (Or.inl ks) hr))))
      · rw [hB] at ks
        exact br_f (fun z => by rw [(gl_rand r (by omega)).mp z] at hB; exact absurd hB (by decide)) (gl_xwf76 hn hlt hok ks hr (fun r' hr' => ih (i + 1) w r' (by omega) (gl_st_same (ks.trans k1.symm) hw) hr'))
    · have k1 : gl_kk gv tk pv op K i i = false := gl_n2 (h.symm.trans hb)
      have k2 : gl_kk gv tk pv op K (i + 1) i = false := by rw [ks, k1, Bool.false_and]
      exact ih (i + 1) w r (by omega) (gl_st_same (k2.trans k1.symm) hw) (gl_rt_same (Or.inl k2) hr)
theorem gl_xfallen {post : Int64 → Prop} {gv tk pv op tm : Nat → Int32} {M : Nat → Bool} {n : Nat} {x : Int32} {w : Int64} (hn : n ≤ 48) (hok : gl_ok n gv tk pv) (hw : gl_set w n M) (hp : ∀ w', gl_set w' n (fun j => !(gl_kk gv tk pv op (fun j => !(M j)) n j)) → post w') : wpX_withFallen post (nI n, x, gv, tk, pv, op, tm) w := by
  unfold wpX_withFallen
  refine ⟨n + 1, ?_⟩
  refine gl_xwf (K := fun j => !(M j)) hn hok hp n 0 w 0 (by omega) ?_ (gl_rts_0 _ _ _ _)
  intro j
  rw [hw j]
  show _ = (decide (j < n) && !(!(M j)))
  rw [Bool.not_not]
/-! its size -/
theorem gl_xsz {post : Int32 → Prop} {w : Int64} (hp : post (nI (gl_cn (gl_b w) 48))) : ∀ d i, i + d = 48 → wX_sizeOf_4 post w (d + 1) (nI (gl_cn (gl_b w) i)) (nI i) := by
  intro d
  induction d with
  | zero =>
    intro i hi
    have e : i = 48 := by omega
    subst e
    refine br_t ?_ hp
    rw [← gl_48]
    exact nI_le (Nat.le_refl 48) (by omega)
  | succ d ih =>
    intro i hi
    have nx := ih (i + 1) (by omega)
    refine br_f ?_ (gl_isin (by omega) (fun h => br_t rfl (gl_nx ?_)) (fun h => br_f gl_1n0 (nm_r (nI_1 _) (gl_nx ?_))))
    · rw [← gl_48]; exact nI_ge (by omega) (by omega)
    · rw [gl_cn_f h] at nx; exact nx
    · rw [gl_cn_t h] at nx; exact nx
theorem gl_xsize {post : Int32 → Prop} {w : Int64} {n : Nat} {M : Nat → Bool} (hn : n ≤ 48) (hw : gl_set w n M) (hp : post (nI (gl_cn M n))) : wpX_sizeOf post w := by
  have e : gl_cn (gl_b w) 48 = gl_cn M n := by
    have t := gl_cn_tl (P := gl_b w) (n := n) (fun j hj => by rw [hw j]; simp [show ¬ j < n by omega]) (48 - n)
    rw [show n + (48 - n) = 48 by omega] at t
    rw [t]
    exact gl_cn_cg n (fun j hj => by rw [hw j]; simp [hj])
  unfold wpX_sizeOf
  refine ⟨49, ?_⟩
  rw [← e] at hp
  exact gl_xsz hp 48 0 (by omega)
/-! its drop -/
theorem gl_xmv {post : SX → Prop} {c x : Int32} {gv tk pv op tm : Nat → Int32} {i l : Nat} (hi : i < 48) (hl : l < 48) (hp : post (c, x, upd gv l (gv i), upd tk l (tk i), upd pv l (pv i), upd op l (vp_nar .boolean (op i)), upd tm l (tm i))) : wpX_move post (c, x, gv, tk, pv, op, tm) (nI i) (nI l) := by
  have h1 : vp_in (nI i) 48 := vp_in_nI hi (by omega)
  have h2 : vp_in (nI l) 48 := vp_in_nI hl (by omega)
  have e1 : (nI i).toNatClampNeg = i := nI_clamp (by omega)
  have e2 : (nI l).toNatClampNeg = l := nI_clamp (by omega)
  unfold wpX_move
  dsimp only
  rw [e1, e2]
  exact ⟨h1, h2, nm_e ⟨h1, h2, nm_e ⟨h1, h2, nm_e ⟨h1, h2, nm_e ⟨h1, h2, nm_e hp⟩⟩⟩⟩⟩
theorem gl_xdr {post : SX → Prop} {gv tk pv op tm : Nat → Int32} {K : Nat → Bool} {n : Nat} {x : Int32} {w : Int64} (hn : n ≤ 48) (hw : ∀ j, j < n → gl_b w j = !(K j)) (hp : post (nI (gl_dl K n), x, gl_da (fun y => y) K gv n, gl_da (fun y => y) K tk n, gl_da (fun y => y) K pv n, gl_da (fun y => vp_nar .boolean y) K op n, gl_da (fun y => y) K tm n)) : ∀ d i, i + d = n → wX_drop_5 post w (d + 1) (nI (gl_dl K i)) (nI i) (nI n) x (gl_da (fun y => y) K gv i) (gl_da (fun y => y) K tk i) (gl_da (fun y => y) K pv i) (gl_da (fun y => vp_nar .boolean y) K op i) (gl_da (fun y => y) K tm i) := by
  intro d
  induction d with
  | zero =>
    intro i hi
    have e : i = n := by omega
    subst e
    exact br_t (nI_le (Nat.le_refl i) (by omega)) hp
  | succ d ih =>
    intro i hi
    have nx := ih (i + 1) (by omega)
    have hl := gl_dl_le K i
    have hb := hw i (by omega)
    refine br_f (nI_ge (by omega) (by omega)) (gl_isin (by omega) (fun h => br_t rfl (gl_xmv (by omega) (by omega) ?_)) (fun h => br_f gl_1n0 (gl_nx ?_)))
    · have k1 : K i = true := gl_n1 (h.symm.trans hb)
      rw [gl_dl_t k1, gl_da_t k1, gl_da_t k1, gl_da_t k1, gl_da_t k1, gl_da_t k1] at nx
      exact nm_r (nI_1 _) (gl_nx nx)
    · have k1 : K i = false := gl_n2 (h.symm.trans hb)
      rw [gl_dl_f k1, gl_da_f k1, gl_da_f k1, gl_da_f k1, gl_da_f k1, gl_da_f k1] at nx
      exact nx
theorem gl_xdrop {post : SX → Prop} {gv tk pv op tm : Nat → Int32} {K : Nat → Bool} {n : Nat} {x : Int32} {w : Int64} (hn : n ≤ 48) (hw : ∀ j, j < n → gl_b w j = !(K j)) (hp : post (nI (gl_dl K n), x, gl_da (fun y => y) K gv n, gl_da (fun y => y) K tk n, gl_da (fun y => y) K pv n, gl_da (fun y => vp_nar .boolean y) K op n, gl_da (fun y => y) K tm n)) : wpX_drop post (nI n, x, gv, tk, pv, op, tm) w := by
  unfold wpX_drop
  refine ⟨n + 1, ?_⟩
  exact gl_xdr hn hw hp n 0 (by omega)
theorem gl_xtake {post : Int32 → SX → Prop} {gv tk pv op tm : Nat → Int32} {M K : Nat → Bool} {n : Nat} {x : Int32} {w : Int64} (hn : n ≤ 48) (hok : gl_ok n gv tk pv) (hw : gl_set w n M) (hK : K = gl_kk gv tk pv op (fun j => !(M j)) n) (hp : post (nI (gl_cn (fun j => !(K j)) n)) (nI (gl_dl K n), x, gl_da (fun y => y) K gv n, gl_da (fun y => y) K tk n, gl_da (fun y => y) K pv n, gl_da (fun y => vp_nar .boolean y) K op n, gl_da (fun y => y) K tm n)) : wpX_takeBack post (nI n, x, gv, tk, pv, op, tm) w := by
  subst hK
  unfold wpX_takeBack
  dsimp only
  refine gl_xfallen hn hok hw (fun w' hw' => ?_)
  refine gl_xdrop (K := gl_kk gv tk pv op (fun j => !(M j)) n) hn (fun j hj => by rw [hw' j]; simp [hj]) ?_
  exact gl_xsize hn hw' hp
