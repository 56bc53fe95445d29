theorem yw_joint1 {post : Int32 → Prop} {j a : Nat} {T E H : Nat → Int32} (hj : j ≤ 6) (ha : a < j) (h : post 1) : wpY_joint post (nI j, T, E, H) (nI a) := br_f (nI_pos (by omega)) (br_f (nI_ge ha (by omega)) h)
theorem yw_joint0 {post : Int32 → Prop} {j : Nat} {T E H : Nat → Int32} {x : Int32} (hx : x < 0 ∨ nI j ≤ x) (h : post 0) : wpY_joint post (nI j, T, E, H) x := by
  by_cases h0 : x < 0
  · exact br_t h0 h
  · rcases hx with hx | hx
    · exact absurd hx h0
    · exact br_f h0 (br_t hx h)
def ff_lb (p : Nat) : Nat → Nat
  | 0 => 0
  | i + 1 => if p.testBit i = true then ff_lb p i ||| 2 ^ i else ff_lb p i
theorem ff_lb_s (p i : Nat) : ff_lb p (i + 1) = if p.testBit i = true then ff_lb p i ||| 2 ^ i else ff_lb p i := rfl
theorem ff_lb_tb (p n i : Nat) : (ff_lb p n).testBit i = true ↔ i < n ∧ p.testBit i = true := by
  induction n with
  | zero =>
    rw [show ff_lb p 0 = 0 from rfl, Nat.zero_testBit]
    exact ⟨fun z => absurd z (by decide), fun z => absurd z.1 (Nat.not_lt_zero _)⟩
  | succ n ih =>
    rw [ff_lb_s]
    cases hb : p.testBit n with
    | false =>
      rw [if_neg (by decide), ih]
      constructor
      · exact fun z => ⟨by omega, z.2⟩
      · intro z
        rcases Nat.lt_or_ge i n with w | w
        · exact ⟨w, z.2⟩
        · have e : i = n := by omega
          rw [e, hb] at z
          exact absurd z.2 (by decide)
    | true =>
      rw [if_pos rfl, ff_or_tb, Bool.or_eq_true, decide_eq_true_eq, ih]
      constructor
      · intro z
        rcases z with z | z
        · exact ⟨by omega, z.2⟩
        · exact ⟨by omega, by rw [← z]; exact hb⟩
      · intro z
        rcases Nat.lt_or_ge i n with w | w
        · exact Or.inl ⟨w, z.2⟩
        · exact Or.inr (by omega)
theorem ff_lb_p {p : Nat} (hp : p < 4096) : ff_lb p 12 = p := by
  apply Nat.eq_of_testBit_eq
  intro i
  rw [Bool.eq_iff_iff, ff_lb_tb]
  constructor
  · exact fun z => z.2
  · intro z
    refine ⟨?_, z⟩
    rcases Nat.lt_or_ge i 12 with w | w
    · exact w
    · rw [ff_tb (n := 12) hp w] at z
      exact absurd z (by decide)
theorem yw_bars {post : Int32 → Prop} {j p : Nat} {E H : Nat → Int32} (hp : p < 4096) (h : post (nI p)) : wpY_bars post (nI j, fun k => nI (p.testBit k).toNat, E, H) := by
  refine loop_0 (fun n i t => wY_bars_4 post (nI j) (fun k => nI (p.testBit k).toNat) E H n t (nI i)) (fun i t => t = nI (ff_lb p i)) 12 0 rfl ?_ ?_
  · intro n t ht
    subst ht
    rw [ff_lb_p hp]
    exact br_t (by decide) h
  · intro n i t hi ht k
    subst ht
    have hi2 : (nI i).toNatClampNeg = i := nI_clamp (by omega)
    refine br_f (nI_ge (b := 12) hi (by decide)) ⟨vp_in_nI (by omega) (by decide), ?_⟩
    rw [hi2]
    refine ff_br0 (fun hb => ?_) (fun hb => ?_)
    · intro y ey
      rw [ey, nI_1]
      refine k _ ?_
      rw [ff_lb_s, hb, if_neg (by decide)]
    · intro x ex y ey
      rw [ex, ey, nI_1, ff_shl i (by omega), nx_or]
      refine k _ ?_
      rw [ff_lb_s, hb, if_pos rfl]
theorem yw_count {post : Int32 → Prop} {j : Nat} {T E H : Nat → Int32} {s : Nat} (hs : s < 2 ^ 31) (h : post (nI (ff_cn s.testBit 13))) : wpY_count post (nI j, T, E, H) (nI s) := by
  refine loop_0 (fun n i t => wY_count_4 post (nI s) (nI j) T E H n t (nI i)) (fun i t => t = nI (ff_cn s.testBit i)) 13 0 rfl ?_ ?_
  · intro n t ht
    subst ht
    exact br_t (by decide) h
  · intro n i t hi ht k
    subst ht
    refine br_f (nI_ge (b := 13) hi (by decide)) ?_
    intro x ex y ey
    rw [ex, ey, ff_bit hs (by omega), nI_add, nI_1]
    exact k _ rfl
theorem yw_inside {post : Int32 → Prop} {j : Nat} {T : Nat → Int32} {A B : Nat → Nat} {s g : Nat} (hA : ∀ k, A k < 6) (hB : ∀ k, B k < 6) (hs : s < 2 ^ 31) (hg : g < 2 ^ 31) (h : post (nI (ff_inY A B s g))) : wpY_inside post (nI j, T, fun k => nI (A k), fun k => nI (B k)) (nI s) (nI g) := by
  refine loop_0 (fun n i t => wY_inside_5 post (nI s) (nI g) (nI j) T (fun k => nI (A k)) (fun k => nI (B k)) n t (nI i)) (fun i t => t = nI (ff_cn (fun k => s.testBit k && (g.testBit (A k) && g.testBit (B k))) i)) 13 0 rfl ?_ ?_
  · intro n t ht
    subst ht
    exact br_t (by decide) h
  · intro n i t hi ht k
    subst ht
    have hi2 : (nI i).toNatClampNeg = i := nI_clamp (by omega)
    have a6 := hA i
    have b6 := hB i
    have no : (s.testBit i && (g.testBit (A i) && g.testBit (B i))) = false → wY_inside_56 post (wY_inside_5 post (nI s) (nI g) (nI j) T (fun k => nI (A k)) (fun k => nI (B k)) n) (nI s) (nI g) (nI (ff_cn (fun k => s.testBit k && (g.testBit (A k) && g.testBit (B k))) i)) (nI i) (nI j) T (fun k => nI (A k)) (fun k => nI (B k)) := by
      intro hb
      refine br_t rfl ?_
      intro y ey
      rw [ey, nI_1]
      refine k _ ?_
      rw [ff_cn_s, hb]
      rfl
    refine br_f (nI_ge (b := 13) hi (by decide)) ?_
    rw [ff_bit hs (by omega)]
    refine ff_br1 (fun hb => ⟨vp_in_nI hi (by decide), ?_⟩) (fun hb => no (by rw [hb, Bool.false_and]))
    rw [hi2, ff_bit hg (by omega)]
    refine ff_br1 (fun hc => ⟨vp_in_nI hi (by decide), ?_⟩) (fun hc => no (by rw [hc, Bool.false_and, Bool.and_false]))
    rw [ff_bit hg (by omega)]
    refine ff_br1 (fun hd => ?_) (fun hd => no (by rw [hd, Bool.and_false, Bool.and_false]))
    refine br_f (by decide) ?_
    intro x ex y ey
    rw [ex, ey, nI_1, nI_1]
    refine k _ ?_
    rw [ff_cn_s (n := i), hb, hc, hd]
    rfl
theorem ff_nb (b : Bool) : narrow .boolean (.int (nI b.toNat)) = .int (nI b.toNat) := by cases b <;> rfl
theorem ff_all_le {p : Nat → Bool} {i n : Nat} (h : i ≤ n) (hf : ff_all p i = false) : ff_all p n = false := by
  cases z : ff_all p n with
  | false => rfl
  | true =>
    have y := (ff_all_iff i).mpr (fun k hk => (ff_all_iff n).mp z k (by omega))
    rw [y] at hf
    exact absurd hf (by decide)
theorem yw_loose {post : Int32 → Prop} {j : Nat} {T : Nat → Int32} {A B : Nat → Nat} {s : Nat} (hj : j ≤ 6) (hA : ∀ k, A k < 6) (hB : ∀ k, B k < 6) (hs : s < 2 ^ 31) (h : post (nI (ff_lo j A B s).toNat)) : wpY_loose post (nI j, T, fun k => nI (A k), fun k => nI (B k)) (nI s) := by
  have h31 := ff_j31 hj
  refine loop_0 (fun n i t => wY_loose_4 post (nI s) (nI j) T (fun k => nI (A k)) (fun k => nI (B k)) n t (nI i)) (fun i t => t = nI (ff_all (ff_okY A B s) i).toNat) (2 ^ j) 1 rfl ?_ ?_
  · intro n t ht
    subst ht
    exact br_t (ff_end hj) ⟨ff_nb _, h⟩
  · intro n i t hi ht k
    subst ht
    have c13 := ff_cn_le i.testBit 13
    have cin := ff_cn_le (fun k => s.testBit k && (i.testBit (A k) && i.testBit (B k))) 13
    refine br_f (ff_nend hj hi) (ff_br0 (fun hb => ⟨ff_nb _, ?_⟩) (fun hb => yw_count (by omega) (pk_lt (ff_cn i.testBit 13) 2 (fun z => ?_) (fun z => ?_) rfl rfl (by omega) (by decide))))
    · have e1 : ff_lo j A B s = false := ff_all_le (Nat.le_of_lt hi) hb
      rw [e1] at h
      rw [hb]
      exact h
    · intro y ey
      rw [ey, nI_1]
      refine k _ ?_
      rw [ff_all_s, hb]
      unfold ff_okY
      rw [decide_eq_true z]
      rfl
    · refine yw_inside hA hB hs (by omega) (ff_brB (ff_cmpY (x := ff_inY A B s i) (by unfold ff_inY; omega) (by omega)) (fun hc => ?_) (fun hc => ?_))
      · intro y ey
        rw [ey, nI_1]
        refine k _ ?_
        rw [Bool.not_eq_true'] at hc
        rw [ff_all_s, hb]
        unfold ff_okY
        rw [decide_eq_false (by omega), hc]
        rfl
      · intro y ey
        rw [ey, nI_1]
        refine k _ ?_
        rw [Bool.not_eq_false'] at hc
        rw [ff_all_s, hb]
        unfold ff_okY
        rw [hc, Bool.or_true]
        rfl
theorem yw_taken {post : Int32 → Prop} {j : Nat} {T : Nat → Int32} {A B : Nat → Nat} {s : Nat} (hj : j ≤ 6) (hA : ∀ k, A k < 6) (hB : ∀ k, B k < 6) (hs : s < 2 ^ 31) (h : post (nI (ff_tk j A B s 13))) : wpY_taken post (nI j, T, fun k => nI (A k), fun k => nI (B k)) (nI s) := by
  refine loop_0 (fun n i t => wY_taken_4 post (nI s) (nI j) T (fun k => nI (A k)) (fun k => nI (B k)) n t (nI i)) (fun i t => t = nI (ff_tk j A B s i)) 13 0 rfl ?_ ?_
  · intro n t ht
    subst ht
    exact br_t (by decide) h
  · intro n i t hi ht k
    subst ht
    have no : (s.testBit i && ff_lo j A B (ff_tk j A B s i ||| 2 ^ i)) = false → wY_taken_35 post (wY_taken_4 post (nI s) (nI j) T (fun k => nI (A k)) (fun k => nI (B k)) n) (nI s) (nI (ff_tk j A B s i)) (nI i) (nI j) T (fun k => nI (A k)) (fun k => nI (B k)) := by
      intro hb
      refine br_t rfl ?_
      intro y ey
      rw [ey, nI_1]
      refine k _ ?_
      rw [ff_tk_s, hb, if_neg (by decide)]
    have hlt : ff_tk j A B s i ||| 2 ^ i < 2 ^ 13 := Nat.or_lt_two_pow (Nat.lt_of_lt_of_le (ff_tk_lt j A B s i) (Nat.pow_le_pow_right (by decide) (by omega))) (Nat.pow_lt_pow_right (by decide) hi)
    refine br_f (nI_ge (b := 13) hi (by decide)) ?_
    rw [ff_bit hs (by omega)]
    refine ff_br1 (fun hb => ?_) (fun hb => no (by rw [hb, Bool.false_and]))
    rw [ff_shl i (by omega), nx_or]
    refine yw_loose hj hA hB (by omega) (ff_br0 (fun hc => no (by rw [hc, Bool.and_false])) (fun hc => ?_))
    refine br_f (by decide) ?_
    intro x ex y ey
    rw [ex, ey, nI_1, ff_shl i (by omega), nx_or]
    refine k _ ?_
    rw [ff_tk_s, hb, hc, Bool.true_and, if_pos rfl]
theorem yw_rankOf {post : Int32 → Prop} {j : Nat} {T : Nat → Int32} {A B : Nat → Nat} {s : Nat} (hj : j ≤ 6) (hA : ∀ k, A k < 6) (hB : ∀ k, B k < 6) (hs : s < 2 ^ 31) (h : post (nI (ff_cn (ff_tk j A B s 13).testBit 13))) : wpY_rankOf post (nI j, T, fun k => nI (A k), fun k => nI (B k)) (nI s) := by
  have hlt := ff_tk_lt j A B s 13
  unfold wpY_rankOf
  exact yw_taken hj hA hB hs (yw_count (by omega) h)
theorem yw_rankIn {post : Int32 → Prop} {j p : Nat} {T : Nat → Int32} {e A B : Nat → Nat} {s : Nat} (O : ff_Ok j p e A B) (hs : ∀ i, s.testBit i = true → p.testBit i = true) (h : post (nI (ff_sz (ff_fr j e s 12)))) : wpY_rankOf post (nI j, T, fun k => nI (A k), fun k => nI (B k)) (nI s) := by
  have hlt : s < 2 ^ 12 := ff_lt_of (fun i hi => (ff_sub O (hs i hi)).1)
  refine yw_rankOf O.2.1 O.2.2.2.2.1 O.2.2.2.2.2.1 (by omega) ?_
  rw [ff_tk13 O hs, ff_sz13 (ff_fr_lt j e s 12)]
  exact h
