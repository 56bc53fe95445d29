def i_Rel (k : Nat) (u : SX) (v : SY) : Prop := ∃ (j p : Nat) (e A B : Nat → Nat), u = (nI j, nI p, fun k => nI (e k)) ∧ v = (nI j, fun k => nI (p.testBit k).toNat, fun k => nI (A k), fun k => nI (B k)) ∧ ff_Ok j p e A B
theorem i_up {k : Nat} {u : SX} {v : SY} (h : i_Rel k u v) : i_Rel (k + 3) u v := h
theorem ff_rel0 {j : Nat} (h2 : 2 ≤ j) (h6 : j ≤ 6) : i_Rel 1 (nI j, 0, fun _ => 0) (nI j, fun _ => 0, fun _ => 0, fun _ => 0) := by
  refine ⟨j, 0, fun _ => 0, fun _ => 0, fun _ => 0, rfl, ?_, h2, h6, by decide, fun _ => Nat.zero_lt_succ 63, fun _ => Nat.zero_lt_succ 5, fun _ => Nat.zero_lt_succ 5, fun k hk => ?_⟩
  · have q : (fun k : Nat => nI ((0 : Nat).testBit k).toNat) = fun _ => 0 := by
      funext k
      rw [Nat.zero_testBit]
      rfl
    rw [q]
    rfl
  · rw [Nat.zero_testBit] at hk
    exact absurd hk (by decide)
theorem i_vc0 (k0 : Int32) : wpX_init (fun u => wpY_init (fun v => i_Rel 1 u v) k0) k0 := by
  unfold wpX_init wpX_clampJoints wpY_init
  by_cases h2 : 2 ≤ k0
  · by_cases h6 : k0 ≤ 6
    · have h0 : ¬ k0 < 0 := by
        rw [Int32.lt_iff_toInt_lt]
        rw [Int32.le_iff_toInt_le] at h2
        have a1 : (2 : Int32).toInt = 2 := by decide
        have a2 : (0 : Int32).toInt = 0 := by decide
        omega
      obtain ⟨j, hj, rfl⟩ := nI_of2 (n := 6) (by decide) h0 h6
      have h2' : 2 ≤ j := (nI_leI (a := 2) (by decide) (by omega)).mp h2
      exact br_t h2 (br_t h6 (br_t h2 (br_t h6 (ff_rel0 h2' hj))))
    · exact br_t h2 (br_f h6 (br_t h2 (br_f h6 (ff_rel0 (j := 6) (by decide) (by decide)))))
  · exact br_f h2 (br_f h2 (ff_rel0 (j := 2) (by decide) (by decide)))
theorem i_vc_add {k : Nat} {u : SX} {v : SY} (I : i_Rel k u v) (hk : k + 3 ≤ 1537) (v1 : Int32) (v2 : Int32) : wpX_add (fun r u' => wpY_add (fun r' v' => r' = r ∧ i_Rel (k + 3) u' v') v v1 v2) u v1 v2 := by
  obtain ⟨j, p, e, A, B, rfl, rfl, O⟩ := I
  have hj := O.2.1
  have hp := O.2.2.1
  have he := O.2.2.2.1
  unfold wpX_add
  dsimp only
  rcases ff_case j hj v1 v2 with hx | ⟨a, b, ha, hb, hab, rfl, rfl⟩
  · refine xw_pair0 hj hx ?_
    refine br_t rfl ?_
    exact yw_add0 hj hx ⟨rfl, j, p, e, A, B, rfl, rfl, O⟩
  · refine xw_pair1 hj ha hb hab ?_
    refine br_f (by decide) ?_
    rcases ff_scan p.testBit 12 with hf | ⟨k, hk, hf, hl⟩
    · refine xw_addF hp hf ?_
      refine yw_add1 hj ha hb hab ?_
      exact yw_addF hf ⟨rfl, j, p, e, A, B, rfl, rfl, O⟩
    · refine xw_addK hp (by omega) (by omega) hk hf hl ?_
      refine yw_add1 hj ha hb hab ?_
      exact yw_addK hk hf hl ⟨rfl, j, p ||| 2 ^ k, ff_up e k (2 ^ a ||| 2 ^ b), ff_up A k a, ff_up B k b, rfl, rfl, ff_OkA O ha hb hab hk⟩
theorem i_vc_remove {k : Nat} {u : SX} {v : SY} (I : i_Rel k u v) (hk : k + 3 ≤ 1537) (v1 : Int32) : wpX_remove (fun r u' => wpY_remove (fun r' v' => r' = r ∧ i_Rel (k + 3) u' v') v v1) u v1 := by
  obtain ⟨j, p, e, A, B, rfl, rfl, O⟩ := I
  have hj := O.2.1
  have hp := O.2.2.1
  have he := O.2.2.2.1
  unfold wpX_remove
  dsimp only
  rcases ff_barcase p v1 with hx | ⟨k, hk, rfl, hb⟩
  · refine xw_bar0 hp hx ?_
    refine br_t rfl ?_
    exact yw_remove0 hx ⟨rfl, j, p, e, A, B, rfl, rfl, O⟩
  · refine xw_bar1 hp hk hb ?_
    refine br_f (by decide) ?_
    intro q hq
    rw [ff_shl k (by omega), ff_rmI] at hq
    subst hq
    exact yw_remove1 hp hk hb ⟨rfl, j, ff_rm p k, e, A, B, rfl, rfl, ff_OkR O k⟩
theorem i_vc_bars {k : Nat} {u : SX} {v : SY} (I : i_Rel k u v) (hk : k + 3 ≤ 1537) : wpX_bars (fun r => wpY_bars (fun r' => r' = r ∧ i_Rel (k + 3) u v) v) u := by
  obtain ⟨j, p, e, A, B, rfl, rfl, O⟩ := I
  have hj := O.2.1
  have hp := O.2.2.1
  have he := O.2.2.2.1
  exact yw_bars hp ⟨rfl, j, p, e, A, B, rfl, rfl, O⟩
theorem ff_and_sub {w p i : Nat} (h : (w &&& p).testBit i = true) : p.testBit i = true := by
  rw [Nat.testBit_and, Bool.and_eq_true] at h
  exact h.2
theorem i_vc_free {k : Nat} {u : SX} {v : SY} (I : i_Rel k u v) (hk : k + 3 ≤ 1537) (v1 : Int32) : wpX_free (fun r => wpY_free (fun r' => r' = r ∧ i_Rel (k + 3) u v) v v1) u v1 := by
  obtain ⟨j, p, e, A, B, rfl, rfl, O⟩ := I
  have hj := O.2.1
  have hp := O.2.2.1
  have he := O.2.2.2.1
  obtain ⟨w, hw, rfl⟩ := wb_of32 v1
  have hs : w &&& p ≤ p := Nat.and_le_right
  have hl := ff_fr_lt j e (w &&& p) 12
  unfold wpX_free wpY_free
  dsimp only
  intro s es
  rw [nx_and] at es
  subst es
  refine xw_frameOf hj he (by omega) ?_
  have F := ff_free O (s := w &&& p) (fun i hi => ff_and_sub hi)
  refine pk_eq (ff_fr j e (w &&& p) 12) (w &&& p) (fun z => ?_) (fun z => ?_) rfl rfl (by omega) (by omega)
  · refine yw_bars hp ?_
    rw [nx_and]
    refine yw_loose hj O.2.2.2.2.1 O.2.2.2.2.2.1 (by omega) ⟨ff_nb _, ?_, j, p, e, A, B, rfl, rfl, O⟩
    rw [F.mpr z]
    rfl
  · refine yw_bars hp ?_
    rw [nx_and]
    refine yw_loose hj O.2.2.2.2.1 O.2.2.2.2.2.1 (by omega) ⟨ff_nb _, ?_, j, p, e, A, B, rfl, rfl, O⟩
    cases q : ff_lo j A B (w &&& p) with
    | false => rfl
    | true => exact absurd (F.mp q) z
theorem i_vc_rank {k : Nat} {u : SX} {v : SY} (I : i_Rel k u v) (hk : k + 3 ≤ 1537) (v1 : Int32) : wpX_rank (fun r => wpY_rank (fun r' => r' = r ∧ i_Rel (k + 3) u v) v v1) u v1 := by
  obtain ⟨j, p, e, A, B, rfl, rfl, O⟩ := I
  have hj := O.2.1
  have hp := O.2.2.1
  have he := O.2.2.2.1
  obtain ⟨w, hw, rfl⟩ := wb_of32 v1
  have hs : w &&& p ≤ p := Nat.and_le_right
  unfold wpX_rank wpY_rank
  dsimp only
  rw [nx_and]
  refine xw_rankOf hj he (by omega) ?_
  refine yw_bars hp ?_
  rw [nx_and]
  exact yw_rankIn O (fun i hi => ff_and_sub hi) ⟨rfl, j, p, e, A, B, rfl, rfl, O⟩
theorem i_vc_frame {k : Nat} {u : SX} {v : SY} (I : i_Rel k u v) (hk : k + 3 ≤ 1537) : wpX_frame (fun r => wpY_frame (fun r' => r' = r ∧ i_Rel (k + 3) u v) v) u := by
  obtain ⟨j, p, e, A, B, rfl, rfl, O⟩ := I
  have hj := O.2.1
  have hp := O.2.2.1
  have he := O.2.2.2.1
  unfold wpX_frame
  dsimp only
  refine xw_frameOf hj he (by omega) ?_
  exact yw_frame O ⟨rfl, j, p, e, A, B, rfl, rfl, O⟩
theorem i_vc_rigid {k : Nat} {u : SX} {v : SY} (I : i_Rel k u v) (hk : k + 3 ≤ 1537) : wpX_rigid (fun r => wpY_rigid (fun r' => r' = r ∧ i_Rel (k + 3) u v) v) u := by
  obtain ⟨j, p, e, A, B, rfl, rfl, O⟩ := I
  have hj := O.2.1
  have hp := O.2.2.1
  have he := O.2.2.2.1
  unfold wpX_rigid
  dsimp only
  refine xw_rankOf hj he (by omega) ?_
  by_cases h : nI (ff_rk j e p) = 2 * nI j - 3
  · refine br_t h ?_
    exact yw_rigid O (fun _ => ⟨rfl, j, p, e, A, B, rfl, rfl, O⟩) (fun z => absurd h z)
  · refine br_f h ?_
    exact yw_rigid O (fun z => absurd z h) (fun _ => ⟨rfl, j, p, e, A, B, rfl, rfl, O⟩)
theorem i_vc_freedom {k : Nat} {u : SX} {v : SY} (I : i_Rel k u v) (hk : k + 3 ≤ 1537) : wpX_freedom (fun r => wpY_freedom (fun r' => r' = r ∧ i_Rel (k + 3) u v) v) u := by
  obtain ⟨j, p, e, A, B, rfl, rfl, O⟩ := I
  have hj := O.2.1
  have hp := O.2.2.1
  have he := O.2.2.2.1
  unfold wpX_freedom wpX_rigidRank
  dsimp only
  refine xw_rankOf hj he (by omega) ?_
  exact yw_freedom O ⟨rfl, j, p, e, A, B, rfl, rfl, O⟩
theorem i_vc_held {k : Nat} {u : SX} {v : SY} (I : i_Rel k u v) (hk : k + 3 ≤ 1537) (v1 : Int32) (v2 : Int32) : wpX_held (fun r => wpY_held (fun r' v' => r' = r ∧ i_Rel (k + 3) u v') v v1 v2) u v1 v2 := by
  obtain ⟨j, p, e, A, B, rfl, rfl, O⟩ := I
  have hj := O.2.1
  have hp := O.2.2.1
  have he := O.2.2.2.1
  have hl := ff_fr_lt j e p 12
  unfold wpX_held
  dsimp only
  rcases ff_case j hj v1 v2 with hx | ⟨a, b, ha, hb, hab, rfl, rfl⟩
  · refine xw_pair0 hj hx ?_
    refine br_t rfl ?_
    exact yw_held0 hj hx ⟨rfl, j, p, e, A, B, rfl, rfl, O⟩
  · have h64 := ff_pr64 (a := a) (b := b) (by omega) (by omega)
    have hd := ff_hd_ne (j := j) (e := e) (F := ff_fr j e p 12) ha hb hab
    refine xw_pair1 hj ha hb hab ?_
    refine br_f (by decide) ?_
    refine xw_frameOf hj he (by omega) ?_
    refine xw_pairOf (by omega) (by omega) ?_
    refine xw_staysFree hj he (by omega) (by omega) ?_
    refine ff_br0 (fun hc => ?_) (fun hc => ?_)
    · refine yw_heldA O ha hb (fun A2 B2 O2 => ⟨?_, j, p, e, A2, B2, rfl, rfl, O2⟩)
      rw [hd, hc]
      rfl
    · refine yw_heldA O ha hb (fun A2 B2 O2 => ⟨?_, j, p, e, A2, B2, rfl, rfl, O2⟩)
      rw [hd, hc]
      rfl
theorem i_vc_redundant {k : Nat} {u : SX} {v : SY} (I : i_Rel k u v) (hk : k + 3 ≤ 1537) (v1 : Int32) : wpX_redundant (fun r => wpY_redundant (fun r' => r' = r ∧ i_Rel (k + 3) u v) v v1) u v1 := by
  obtain ⟨j, p, e, A, B, rfl, rfl, O⟩ := I
  have hj := O.2.1
  have hp := O.2.2.1
  have he := O.2.2.2.1
  rcases ff_barcase p v1 with hx | ⟨k, hk, rfl, hb⟩
  · unfold wpX_redundant
    dsimp only
    refine xw_bar0 hp hx ?_
    refine br_t rfl ?_
    exact yw_redundant0 hp hx ⟨rfl, j, p, e, A, B, rfl, rfl, O⟩
  · refine xw_redundant1 O hk hb ?_
    exact yw_redundant1 O hk hb ⟨rfl, j, p, e, A, B, rfl, rfl, O⟩
theorem i_vc_ring {k : Nat} {u : SX} {v : SY} (I : i_Rel k u v) (hk : k + 3 ≤ 1537) (v1 : Int32) : wpX_ring (fun r => wpY_ring (fun r' => r' = r ∧ i_Rel (k + 3) u v) v v1) u v1 := by
  obtain ⟨j, p, e, A, B, rfl, rfl, O⟩ := I
  have hj := O.2.1
  have hp := O.2.2.1
  have he := O.2.2.2.1
  rcases ff_barcase p v1 with hx | ⟨k, hk, rfl, hb⟩
  · refine xw_ring0 hj he hp hx ?_
    exact yw_ring0 O hx ⟨rfl, j, p, e, A, B, rfl, rfl, O⟩
  · refine xw_ring1 hj he hp hk hb (fun h => ?_) (fun h => ?_)
    · refine yw_ring1 O hk hb (fun _ => ⟨rfl, j, p, e, A, B, rfl, rfl, O⟩) (fun z => ?_)
      rw [h] at z
      exact absurd z (by decide)
    · refine yw_ring1 O hk hb (fun z => ?_) (fun _ => ⟨rfl, j, p, e, A, B, rfl, rfl, O⟩)
      rw [h] at z
      exact absurd z (by decide)
theorem yw_heldTo0 {post : Int32 → SY → Prop} {j : Nat} {T E H : Nat → Int32} {x : Int32} (hj : 2 ≤ j) (hj6 : j ≤ 6) (hx : x < 0 ∨ nI j ≤ x) (h : post 0 (nI j, T, E, H)) : wpY_heldTo post (nI j, T, E, H) x := by
  unfold wpY_heldTo
  dsimp only
  refine yw_joint0 hx ?_
  refine br_t rfl ⟨1, ?_⟩
  refine br_f (nI_ge (a := 0) (b := j) (by omega) (by omega)) ?_
  refine yw_joint0 hx ?_
  exact br_t rfl h
theorem i_vc_heldTo {k : Nat} {u : SX} {v : SY} (I : i_Rel k u v) (hk : k + 3 ≤ 1537) (v1 : Int32) : wpX_heldTo (fun r => wpY_heldTo (fun r' v' => r' = r ∧ i_Rel (k + 3) u v') v v1) u v1 := by
  obtain ⟨j, p, e, A, B, rfl, rfl, O⟩ := I
  have hj := O.2.1
  have hp := O.2.2.1
  have he := O.2.2.2.1
  have hl := ff_fr_lt j e p 12
  unfold wpX_heldTo
  dsimp only
  by_cases hx : v1 < 0 ∨ nI j ≤ v1
  · refine xw_joint0 hx ?_
    refine br_t rfl ?_
    exact yw_heldTo0 O.1 hj hx ⟨rfl, j, p, e, A, B, rfl, rfl, O⟩
  · rcases pk_ix v1 (n := j) (by omega) with z | z | ⟨a, ha, rfl⟩
    · exact absurd (Or.inl z) hx
    · exact absurd (Or.inr z) hx
    · refine xw_joint1 hj ha ?_
      refine br_f (by decide) ?_
      refine xw_frameOf hj he (by omega) ?_
      refine xw_jointsHeldTo hj he (by omega) ha ?_
      exact yw_heldTo O ha (fun A2 B2 O2 => ⟨rfl, j, p, e, A2, B2, rfl, rfl, O2⟩)
theorem i_vc_bodies {k : Nat} {u : SX} {v : SY} (I : i_Rel k u v) (hk : k + 3 ≤ 1537) : wpX_bodies (fun r => wpY_bodies (fun r' v' => r' = r ∧ i_Rel (k + 3) u v') v) u := by
  obtain ⟨j, p, e, A, B, rfl, rfl, O⟩ := I
  have hj := O.2.1
  have hp := O.2.2.1
  have he := O.2.2.2.1
  refine xw_bodies hj he hp ?_
  refine yw_bodies O (fun A2 B2 O2 => ⟨?_, j, p, e, A2, B2, rfl, rfl, O2⟩)
  rw [ff_bodies_eq e _ hj]
theorem yw_doublyHeld {post : Int32 → Prop} {j p : Nat} {e A B : Nat → Nat} (O : ff_Ok j p e A B) (h1 : nI (ff_rk j e p) = 2 * nI j - 3 → post (nI (ff_all (ff_dp j e p) 12).toNat)) (h2 : ¬ nI (ff_rk j e p) = 2 * nI j - 3 → post 0) : wpY_doublyHeld post (nI j, fun k => nI (p.testBit k).toNat, fun k => nI (A k), fun k => nI (B k)) := by
  unfold wpY_doublyHeld
  dsimp only
  refine yw_rigid O (fun z => ?_) (fun z => ?_)
  · exact yw_doubly (b := true) O (h1 z)
  · exact yw_doubly (b := false) O (h2 z)
theorem i_vc_doublyHeld {k : Nat} {u : SX} {v : SY} (I : i_Rel k u v) (hk : k + 3 ≤ 1537) : wpX_doublyHeld (fun r => wpY_doublyHeld (fun r' => r' = r ∧ i_Rel (k + 3) u v) v) u := by
  obtain ⟨j, p, e, A, B, rfl, rfl, O⟩ := I
  have hj := O.2.1
  have hp := O.2.2.1
  have he := O.2.2.2.1
  unfold wpX_doublyHeld
  dsimp only
  refine xw_rankOf hj he (by omega) ?_
  by_cases h : nI (ff_rk j e p) = 2 * nI j - 3
  · refine br_t h ?_
    refine xw_doubly O ?_
    exact yw_doublyHeld O (fun _ => ⟨rfl, j, p, e, A, B, rfl, rfl, O⟩) (fun z => absurd h z)
  · refine br_f h ?_
    exact yw_doublyHeld O (fun z => absurd z h) (fun _ => ⟨rfl, j, p, e, A, B, rfl, rfl, O⟩)
