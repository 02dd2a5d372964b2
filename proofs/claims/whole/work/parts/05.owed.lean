/-! part 5: the relation and what is owed -/
/-- the same grants in the same slots; the first n slots name users and privileges; the reference's array kept is free -/
def i_Rel (_ : Nat) (u : SX) (v : SY) : Prop := ∃ (n : Nat) (x : Int32) (gv tk pv op tm kp : Nat → Int32), n ≤ 48 ∧ gl_ok n gv tk pv ∧ u = (nI n, x, gv, tk, pv, op, tm) ∧ v = (nI n, x, tm, gv, tk, pv, op, kp)
theorem gl_rel {k n : Nat} {x : Int32} {gv tk pv op tm kp : Nat → Int32} (hn : n ≤ 48) (hok : gl_ok n gv tk pv) : i_Rel k (nI n, x, gv, tk, pv, op, tm) (nI n, x, tm, gv, tk, pv, op, kp) := ⟨n, x, gv, tk, pv, op, tm, kp, hn, hok, rfl, rfl⟩
theorem i_up {k : Nat} {u : SX} {v : SY} (h : i_Rel k u v) : i_Rel (k + 5) u v := by
  exact h
theorem i_vc0 : wpX_init (fun u => wpY_init (fun v => i_Rel 0 u v)) := by
  unfold wpX_init wpY_init
  rw [← nI_0]
  exact gl_rel (n := 0) (by omega) ⟨fun j hj => absurd hj (by omega), fun j hj => absurd hj (by omega), fun j hj => absurd hj (by omega)⟩
/-! the readers -/
theorem gl_xcr {post : Int32 → Prop} {u p x : Int32} {gv tk pv op tm : Nat → Int32} {n : Nat} (hn : n ≤ 48) (hp : post (nI (gl_cn (fun j => tk j == u && pv j == p) n))) : wpX_countReceived post (nI n, x, gv, tk, pv, op, tm) u p := by
  unfold wpX_countReceived
  refine ⟨n + 1, ?_⟩
  exact gl_xrc hn hp n 0 (by omega)
theorem gl_yreceived {post : Int32 → Prop} {u p : Nat} {x : Int32} {gv tk pv op tm kp : Nat → Int32} {n : Nat} (hu : u < 8) (hq : p < 3) (hn : n ≤ 48) (hp : post (nI (gl_cn (fun j => tk j == nI u && pv j == nI p) n))) : wpY_received post (nI n, x, tm, gv, tk, pv, op, kp) (nI u) (nI p) := by
  unfold wpY_received
  refine gl_yuo hu (br_t rfl (gl_ypo hq (br_t rfl ⟨n + 1, ?_⟩)))
  exact gl_yrc hn hp n 0 (by omega)
theorem i_vc_holds {k : Nat} {u : SX} {v : SY} (I : i_Rel k u v) (hk : k + 5 ≤ 2560) (v1 : Int32) (v2 : Int32) : wpX_holds (fun r => wpY_holds (fun r' => r' = r ∧ i_Rel (k + 5) u v) v v1 v2) u v1 v2 := by
  obtain ⟨n, x, gv, tk, pv, op, tm, kp, hn, hok, rfl, rfl⟩ := I
  rcases gl_usr v1 with b1 | ⟨g, hg, rfl⟩
  · unfold wpX_holds
    refine gl_xub b1 (br_t rfl ?_)
    unfold wpY_holds
    exact gl_yub b1 (br_f gl_1n0 ⟨rfl, gl_rel hn hok⟩)
  rcases gl_prv v2 with b2 | ⟨q, hq, rfl⟩
  · unfold wpX_holds
    refine gl_xuo hg (br_f gl_1n0 (gl_xpb b2 (br_t rfl ?_)))
    unfold wpY_holds
    exact gl_yuo hg (br_t rfl (gl_ypb b2 (br_f gl_1n0 ⟨rfl, gl_rel hn hok⟩)))
  unfold wpX_holds
  refine gl_xuo hg (br_f gl_1n0 (gl_xpo hq (br_f gl_1n0 ?_)))
  by_cases h0 : nI g = 0
  · refine br_t h0 ?_
    unfold wpY_holds
    exact gl_yuo hg (br_t rfl (gl_ypo hq (br_t rfl (br_t h0 ⟨rfl, gl_rel hn hok⟩))))
  · refine br_f h0 (gl_xcr hn ?_)
    by_cases hc : nI (gl_cn (fun j => tk j == nI g && pv j == nI q) n) ≤ 0
    · refine br_t hc ?_
      unfold wpY_holds
      exact gl_yuo hg (br_t rfl (gl_ypo hq (br_t rfl (br_f h0 (gl_yreceived hg hq hn (br_t hc ⟨rfl, gl_rel hn hok⟩))))))
    · refine br_f hc ?_
      unfold wpY_holds
      exact gl_yuo hg (br_t rfl (gl_ypo hq (br_t rfl (br_f h0 (gl_yreceived hg hq hn (br_f hc ⟨rfl, gl_rel hn hok⟩))))))
theorem i_vc_may {k : Nat} {u : SX} {v : SY} (I : i_Rel k u v) (hk : k + 5 ≤ 2560) (v1 : Int32) (v2 : Int32) : wpX_may (fun r => wpY_may (fun r' => r' = r ∧ i_Rel (k + 5) u v) v v1 v2) u v1 v2 := by
  obtain ⟨n, x, gv, tk, pv, op, tm, kp, hn, hok, rfl, rfl⟩ := I
  rcases gl_usr v1 with b1 | ⟨g, hg, rfl⟩
  · unfold wpX_may
    refine gl_xub b1 (br_t rfl ?_)
    unfold wpY_may
    exact gl_yub b1 (br_f gl_1n0 ⟨rfl, gl_rel hn hok⟩)
  rcases gl_prv v2 with b2 | ⟨q, hq, rfl⟩
  · unfold wpX_may
    refine gl_xuo hg (br_f gl_1n0 (gl_xpb b2 (br_t rfl ?_)))
    unfold wpY_may
    exact gl_yuo hg (br_t rfl (gl_ypb b2 (br_f gl_1n0 ⟨rfl, gl_rel hn hok⟩)))
  unfold wpX_may
  refine gl_xuo hg (br_f gl_1n0 (gl_xpo hq (br_f gl_1n0 (gl_xright hn ?_))))
  cases hr : gl_rt tk pv op (nI g) (nI q) n
  · refine br_t rfl (gl_ymayo hg hq hn ?_)
    rw [hr]
    exact ⟨rfl, gl_rel hn hok⟩
  · refine br_f gl_1n0 (gl_ymayo hg hq hn ?_)
    rw [hr]
    exact ⟨rfl, gl_rel hn hok⟩
theorem i_vc_received {k : Nat} {u : SX} {v : SY} (I : i_Rel k u v) (hk : k + 5 ≤ 2560) (v1 : Int32) (v2 : Int32) : wpX_received (fun r => wpY_received (fun r' => r' = r ∧ i_Rel (k + 5) u v) v v1 v2) u v1 v2 := by
  obtain ⟨n, x, gv, tk, pv, op, tm, kp, hn, hok, rfl, rfl⟩ := I
  rcases gl_usr v1 with b1 | ⟨g, hg, rfl⟩
  · unfold wpX_received
    refine gl_xub b1 (br_t rfl ?_)
    unfold wpY_received
    exact gl_yub b1 (br_f gl_1n0 ⟨rfl, gl_rel hn hok⟩)
  rcases gl_prv v2 with b2 | ⟨q, hq, rfl⟩
  · unfold wpX_received
    refine gl_xuo hg (br_f gl_1n0 (gl_xpb b2 (br_t rfl ?_)))
    unfold wpY_received
    exact gl_yuo hg (br_t rfl (gl_ypb b2 (br_f gl_1n0 ⟨rfl, gl_rel hn hok⟩)))
  unfold wpX_received
  exact gl_xuo hg (br_f gl_1n0 (gl_xpo hq (br_f gl_1n0 (gl_xcr hn (gl_yreceived hg hq hn ⟨rfl, gl_rel hn hok⟩)))))
theorem i_vc_given {k : Nat} {u : SX} {v : SY} (I : i_Rel k u v) (hk : k + 5 ≤ 2560) (v1 : Int32) (v2 : Int32) : wpX_given (fun r => wpY_given (fun r' => r' = r ∧ i_Rel (k + 5) u v) v v1 v2) u v1 v2 := by
  obtain ⟨n, x, gv, tk, pv, op, tm, kp, hn, hok, rfl, rfl⟩ := I
  rcases gl_usr v1 with b1 | ⟨g, hg, rfl⟩
  · unfold wpX_given
    refine gl_xub b1 (br_t rfl ?_)
    unfold wpY_given
    exact gl_yub b1 (br_f gl_1n0 ⟨rfl, gl_rel hn hok⟩)
  rcases gl_prv v2 with b2 | ⟨q, hq, rfl⟩
  · unfold wpX_given
    refine gl_xuo hg (br_f gl_1n0 (gl_xpb b2 (br_t rfl ?_)))
    unfold wpY_given
    exact gl_yuo hg (br_t rfl (gl_ypb b2 (br_f gl_1n0 ⟨rfl, gl_rel hn hok⟩)))
  unfold wpX_given
  refine gl_xuo hg (br_f gl_1n0 (gl_xpo hq (br_f gl_1n0 ⟨n + 1, gl_xgi hn ?_ n 0 (by omega)⟩)))
  unfold wpY_given
  exact gl_yuo hg (br_t rfl (gl_ypo hq (br_t rfl ⟨n + 1, gl_ygi hn ⟨rfl, gl_rel hn hok⟩ n 0 (by omega)⟩)))
theorem i_vc_stands {k : Nat} {u : SX} {v : SY} (I : i_Rel k u v) (hk : k + 5 ≤ 2560) (v1 : Int32) : wpX_stands (fun r => wpY_stands (fun r' => r' = r ∧ i_Rel (k + 5) u v) v v1) u v1 := by
  obtain ⟨n, x, gv, tk, pv, op, tm, kp, hn, hok, rfl, rfl⟩ := I
  unfold wpX_stands
  refine ⟨n + 1, gl_xst hn ?_ n 0 (by omega) rfl⟩
  unfold wpY_stands
  exact ⟨n + 1, gl_yst hn ⟨rfl, gl_rel hn hok⟩ n 0 (by omega) rfl⟩
theorem i_vc_standing {k : Nat} {u : SX} {v : SY} (I : i_Rel k u v) (hk : k + 5 ≤ 2560) : wpX_standing (fun r => wpY_standing (fun r' => r' = r ∧ i_Rel (k + 5) u v) v) u := by
  obtain ⟨n, x, gv, tk, pv, op, tm, kp, hn, hok, rfl, rfl⟩ := I
  unfold wpX_standing wpY_standing
  exact ⟨rfl, gl_rel hn hok⟩
/-! grant -/
theorem gl_okg {n g t q : Nat} {gv tk pv : Nat → Int32} (hok : gl_ok n gv tk pv) (hg : g < 8) (ht : t < 8) (hq : q < 3) : gl_ok (n + 1) (upd gv n (nI g)) (upd tk n (nI t)) (upd pv n (nI q)) := by
  have s : ∀ (a : Nat → Int32) (m v : Nat), (∀ j, j < n → ∃ y : Nat, y < m ∧ a j = nI y) → v < m → ∀ j, j < n + 1 → ∃ y : Nat, y < m ∧ upd a n (nI v) j = nI y := by
    intro a m v h hv j hj
    by_cases z : j = n
    · exact ⟨v, hv, if_pos z⟩
    · obtain ⟨y, hy, ey⟩ := h j (by omega)
      exact ⟨y, hy, (if_neg z).trans ey⟩
  exact ⟨s gv 8 g hok.1 hg, s tk 8 t hok.2.1 ht, s pv 3 q hok.2.2 hq⟩
theorem gl_p1 (x : Int32) : x + 1 - 1 = x := by
  apply Int32.toBitVec_inj.mp
  rw [Int32.toBitVec_sub, Int32.toBitVec_add]
  exact BitVec.add_sub_cancel _ _
theorem i_vc_grant {k : Nat} {u : SX} {v : SY} (I : i_Rel k u v) (hk : k + 5 ≤ 2560) (v1 : Int32) (v2 : Int32) (v3 : Int32) (v4 : Int32) : wpX_grant (fun r u' => wpY_grant (fun r' v' => r' = r ∧ i_Rel (k + 5) u' v') v v1 v2 v3 (lw_bz v4)) u v1 v2 v3 (lw_bz v4) := by
  obtain ⟨n, x, gv, tk, pv, op, tm, kp, hn, hok, rfl, rfl⟩ := I
  rcases gl_usr v1 with b1 | ⟨g, hg, rfl⟩
  · unfold wpX_grant
    refine gl_xub b1 (br_t rfl ?_)
    unfold wpY_grant
    exact gl_yub b1 (br_f gl_1n0 ⟨rfl, gl_rel hn hok⟩)
  rcases gl_usr v2 with b2 | ⟨t, ht, rfl⟩
  · unfold wpX_grant
    refine gl_xuo hg (br_f gl_1n0 (gl_xub b2 (br_t rfl ?_)))
    unfold wpY_grant
    exact gl_yuo hg (br_t rfl (gl_yub b2 (br_f gl_1n0 ⟨rfl, gl_rel hn hok⟩)))
  unfold wpX_grant
  refine gl_xuo hg (br_f gl_1n0 (gl_xuo ht (br_f gl_1n0 ?_)))
  unfold wpY_grant
  by_cases hgt : nI g = nI t
  · rcases gl_prv v3 with b3 | ⟨q, hq, rfl⟩
    · exact gl_xpb b3 (br_t rfl (gl_yuo hg (br_t rfl (gl_yuo ht (br_t rfl (br_t hgt ⟨rfl, gl_rel hn hok⟩))))))
    · exact gl_xpo hq (br_f gl_1n0 (br_t hgt (gl_yuo hg (br_t rfl (gl_yuo ht (br_t rfl (br_t hgt ⟨rfl, gl_rel hn hok⟩)))))))
  by_cases ht0 : nI t = 0
  · rcases gl_prv v3 with b3 | ⟨q, hq, rfl⟩
    · exact gl_xpb b3 (br_t rfl (gl_yuo hg (br_t rfl (gl_yuo ht (br_t rfl (br_f hgt (br_t ht0 ⟨rfl, gl_rel hn hok⟩)))))))
    · exact gl_xpo hq (br_f gl_1n0 (br_f hgt (br_t ht0 (gl_yuo hg (br_t rfl (gl_yuo ht (br_t rfl (br_f hgt (br_t ht0 ⟨rfl, gl_rel hn hok⟩)))))))))
  rcases gl_prv v3 with b3 | ⟨q, hq, rfl⟩
  · exact gl_xpb b3 (br_t rfl (gl_yuo hg (br_t rfl (gl_yuo ht (br_t rfl (br_f hgt (br_f ht0 (gl_ypb b3 (br_f gl_1n0 ⟨rfl, gl_rel hn hok⟩)))))))))
  rcases Nat.lt_or_ge n 48 with h48 | h48
  · have c1 : nI n < 48 := by rw [← gl_48]; exact nI_lt h48 (by omega)
    have c2 : ¬ nI n = 48 := by
      intro z
      rw [← gl_48, nI_eq (by omega) (by omega)] at z
      omega
    have hin : vp_in (nI n) 48 := vp_in_nI h48 (by omega)
    have en : (nI n).toNatClampNeg = n := nI_clamp (by omega)
    refine gl_xpo hq (br_f gl_1n0 (br_f hgt (br_f ht0 (br_t c1 (gl_xright hn ?_)))))
    cases hr : gl_rt tk pv op (nI g) (nI q) n
    · refine br_t rfl (gl_yuo hg (br_t rfl (gl_yuo ht (br_t rfl (br_f hgt (br_f ht0 (gl_ypo hq (br_t rfl (br_f c2 (gl_ymayo hg hq hn ?_))))))))))
      rw [hr]
      exact br_t rfl ⟨rfl, gl_rel hn hok⟩
    · rw [en]
      refine br_f gl_1n0 ⟨hin, nm_e ⟨hin, nm_e ⟨hin, nm_e ⟨hin, nm_e ⟨hin, nm_e (nm_e (nm_e ?_))⟩⟩⟩⟩⟩
      refine gl_yuo hg (br_t rfl (gl_yuo ht (br_t rfl (br_f hgt (br_f ht0 (gl_ypo hq (br_t rfl (br_f c2 (gl_ymayo hg hq hn ?_)))))))))
      rw [hr]
      refine br_f gl_1n0 ⟨hin, nm_e ⟨hin, nm_e ⟨hin, nm_e ⟨hin, nm_e ⟨hin, nm_e (nm_e (nm_e ⟨gl_p1 x, ?_⟩))⟩⟩⟩⟩⟩
      rw [nI_1 n, en]
      exact gl_rel (by omega) (gl_okg hok hg ht hq)
  · have e : n = 48 := by omega
    subst e
    have c1 : ¬ nI 48 < 48 := by rw [gl_48]; decide
    exact gl_xpo hq (br_f gl_1n0 (br_f hgt (br_f ht0 (br_f c1 (gl_yuo hg (br_t rfl (gl_yuo ht (br_t rfl (br_f hgt (br_f ht0 (gl_ypo hq (br_t rfl (br_t gl_48 ⟨rfl, gl_rel hn hok⟩)))))))))))))
/-! reach, revoke, expel -/
theorem gl_yr1 {post : Int32 → SY → Prop} {u : SY} {v1 v2 v3 : Int32} (b1 : v1 < 0 ∨ (¬ v1 < 0 ∧ 8 ≤ v1 ∧ ¬ v1 ≤ 7)) (hp : post (-1) u) : wpY_reach post u v1 v2 v3 := by
  obtain ⟨c, x, tm, gv, tk, pv, op, kp⟩ := u
  unfold wpY_reach
  exact gl_yub b1 (br_f gl_1n0 hp)
theorem gl_yr2 {post : Int32 → SY → Prop} {u : SY} {v2 v3 : Int32} {g : Nat} (hg : g < 8) (b2 : v2 < 0 ∨ (¬ v2 < 0 ∧ 8 ≤ v2 ∧ ¬ v2 ≤ 7)) (hp : post (-1) u) : wpY_reach post u (nI g) v2 v3 := by
  obtain ⟨c, x, tm, gv, tk, pv, op, kp⟩ := u
  unfold wpY_reach
  exact gl_yuo hg (br_t rfl (gl_yub b2 (br_f gl_1n0 hp)))
theorem gl_yr3 {post : Int32 → SY → Prop} {u : SY} {v3 : Int32} {g t : Nat} (hg : g < 8) (ht : t < 8) (b3 : v3 < 0 ∨ (¬ v3 < 0 ∧ 3 ≤ v3 ∧ ¬ v3 ≤ 2)) (hp : post (-1) u) : wpY_reach post u (nI g) (nI t) v3 := by
  obtain ⟨c, x, tm, gv, tk, pv, op, kp⟩ := u
  unfold wpY_reach
  exact gl_yuo hg (br_t rfl (gl_yuo ht (br_t rfl (gl_ypb b3 (br_f gl_1n0 hp)))))
theorem gl_yreach {post : Int32 → SY → Prop} {x : Int32} {tm gv tk pv op kp : Nat → Int32} {n g t q : Nat} {K : Nat → Bool} (hn : n ≤ 48) (hg : g < 8) (ht : t < 8) (hq : q < 3) (hK : K = gl_kk gv tk pv op (fun j => !(gl_mb gv tk pv (nI g) (nI t) (nI q) j)) n) (hp : ∀ kp, (∀ j, j < n → kp j = gl_01 (K j)) → post (nI (gl_cn (fun j => !(K j)) n)) (nI n, x, tm, gv, tk, pv, op, kp)) : wpY_reach post (nI n, x, tm, gv, tk, pv, op, kp) (nI g) (nI t) (nI q) := by
  subst hK
  unfold wpY_reach
  refine gl_yuo hg (br_t rfl (gl_yuo ht (br_t rfl (gl_ypo hq (br_t rfl ⟨n + 1, ?_⟩)))))
  exact gl_yre hn (fun kp' hk' => gl_ysettle hn hk' hp) n 0 kp (by omega) (fun j hj => absurd hj (by omega))
theorem i_vc_reach {k : Nat} {u : SX} {v : SY} (I : i_Rel k u v) (hk : k + 5 ≤ 2560) (v1 : Int32) (v2 : Int32) (v3 : Int32) : wpX_reach (fun r => wpY_reach (fun r' v' => r' = r ∧ i_Rel (k + 5) u v') v v1 v2 v3) u v1 v2 v3 := by
  obtain ⟨n, x, gv, tk, pv, op, tm, kp, hn, hok, rfl, rfl⟩ := I
  rcases gl_usr v1 with b1 | ⟨g, hg, rfl⟩
  · unfold wpX_reach
    refine gl_xub b1 (br_t rfl ?_)
    exact gl_yr1 b1 ⟨rfl, gl_rel hn hok⟩
  rcases gl_usr v2 with b2 | ⟨t, ht, rfl⟩
  · unfold wpX_reach
    refine gl_xuo hg (br_f gl_1n0 (gl_xub b2 (br_t rfl ?_)))
    exact gl_yr2 hg b2 ⟨rfl, gl_rel hn hok⟩
  rcases gl_prv v3 with b3 | ⟨q, hq, rfl⟩
  · unfold wpX_reach
    refine gl_xuo hg (br_f gl_1n0 (gl_xuo ht (br_f gl_1n0 (gl_xpb b3 (br_t rfl ?_)))))
    exact gl_yr3 hg ht b3 ⟨rfl, gl_rel hn hok⟩
  unfold wpX_reach
  refine gl_xuo hg (br_f gl_1n0 (gl_xuo ht (br_f gl_1n0 (gl_xpo hq (br_f gl_1n0 (gl_xbetween hn (fun w hw => gl_xfallen hn hok hw (fun w' hw' => gl_xsize hn hw' ?_))))))))
  exact gl_yreach hn hg ht hq rfl (fun kp' _ => ⟨rfl, gl_rel hn hok⟩)
theorem gl_m1 : (-1 : Int32) < 0 := by decide
theorem gl_yv {post : Int32 → SY → Prop} {u : SY} {v1 v2 v3 : Int32} (h : wpY_reach (fun r u' => (r < 0 → post r u') ∧ (¬ r < 0 → wpY_drop (fun u'' => post r u'') u')) u v1 v2 v3) : wpY_revoke post u v1 v2 v3 := by
  obtain ⟨c, x, tm, gv, tk, pv, op, kp⟩ := u
  unfold wpY_revoke
  exact h
theorem i_vc_revoke {k : Nat} {u : SX} {v : SY} (I : i_Rel k u v) (hk : k + 5 ≤ 2560) (v1 : Int32) (v2 : Int32) (v3 : Int32) : wpX_revoke (fun r u' => wpY_revoke (fun r' v' => r' = r ∧ i_Rel (k + 5) u' v') v v1 v2 v3) u v1 v2 v3 := by
  obtain ⟨n, x, gv, tk, pv, op, tm, kp, hn, hok, rfl, rfl⟩ := I
  rcases gl_usr v1 with b1 | ⟨g, hg, rfl⟩
  · unfold wpX_revoke
    refine gl_xub b1 (br_t rfl ?_)
    exact gl_yv (gl_yr1 b1 (br_t gl_m1 ⟨rfl, gl_rel hn hok⟩))
  rcases gl_usr v2 with b2 | ⟨t, ht, rfl⟩
  · unfold wpX_revoke
    refine gl_xuo hg (br_f gl_1n0 (gl_xub b2 (br_t rfl ?_)))
    exact gl_yv (gl_yr2 hg b2 (br_t gl_m1 ⟨rfl, gl_rel hn hok⟩))
  rcases gl_prv v3 with b3 | ⟨q, hq, rfl⟩
  · unfold wpX_revoke
    refine gl_xuo hg (br_f gl_1n0 (gl_xuo ht (br_f gl_1n0 (gl_xpb b3 (br_t rfl ?_)))))
    exact gl_yv (gl_yr3 hg ht b3 (br_t gl_m1 ⟨rfl, gl_rel hn hok⟩))
  have hc : ∀ P : Nat → Bool, ¬ nI (gl_cn P n) < 0 := fun P => nI_pos (by have := gl_cn_le P n; omega)
  unfold wpX_revoke
  refine gl_xuo hg (br_f gl_1n0 (gl_xuo ht (br_f gl_1n0 (gl_xpo hq (br_f gl_1n0 (gl_xbetween hn (fun w hw => gl_xtake hn hok hw rfl ?_)))))))
  refine gl_yv (gl_yreach hn hg ht hq rfl (fun kp' hk' => br_f (hc _) (gl_ydrop hn hk' ⟨rfl, ?_⟩)))
  exact gl_rel (Nat.le_trans (gl_dl_le _ n) hn) (gl_ok_da _ hok)
theorem i_vc_expel {k : Nat} {u : SX} {v : SY} (I : i_Rel k u v) (hk : k + 5 ≤ 2560) (v1 : Int32) : wpX_expel (fun r u' => wpY_expel (fun r' v' => r' = r ∧ i_Rel (k + 5) u' v') v v1) u v1 := by
  obtain ⟨n, x, gv, tk, pv, op, tm, kp, hn, hok, rfl, rfl⟩ := I
  rcases gl_usr v1 with b1 | ⟨g, hg, rfl⟩
  · unfold wpX_expel
    refine gl_xub b1 (br_t rfl ?_)
    unfold wpY_expel
    rcases b1 with b1 | ⟨b0, b8, b7⟩
    · exact br_t (Int32.lt_trans b1 (by decide)) ⟨rfl, gl_rel hn hok⟩
    · refine br_f ?_ (br_f b7 ⟨rfl, gl_rel hn hok⟩)
      intro z
      exact b7 (Int32.le_of_lt (Int32.lt_trans z (by decide)))
  rcases Nat.eq_zero_or_pos g with z | z
  · subst z
    unfold wpX_expel
    refine gl_xuo hg (br_f gl_1n0 (br_t nI_0 ?_))
    unfold wpY_expel
    exact br_t (by rw [nI_0]; decide) ⟨rfl, gl_rel hn hok⟩
  unfold wpX_expel
  refine gl_xuo hg (br_f gl_1n0 (br_f (nI_ne0 z (by omega)) (gl_xtouching hn (fun w hw => gl_xtake hn hok hw rfl ?_))))
  unfold wpY_expel
  have c1 : ¬ nI g < 1 := by
    rw [show (1 : Int32) = nI 1 from rfl]
    exact nI_nlt z (by omega)
  have c7 : nI g ≤ 7 := by rw [← gl_7]; exact nI_le (by omega) (by omega)
  refine br_f c1 (br_t c7 ⟨n + 1, ?_⟩)
  refine gl_yex hn (fun kp' hk' => gl_ysettle hn hk' (fun kp'' hk'' => gl_ydrop hn hk'' ⟨rfl, ?_⟩)) n 0 kp (by omega) (fun j hj => absurd hj (by omega))
  exact gl_rel (Nat.le_trans (gl_dl_le _ n) hn) (gl_ok_da _ hok)
