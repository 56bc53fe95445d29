theorem ff_brB {c A B : Prop} {b : Bool} (hc : c ↔ b = true) (t : b = true → A) (f : b = false → B) : (c → A) ∧ (¬ c → B) := by
  refine ⟨fun h => t (hc.mp h), fun h => f ?_⟩
  cases hb : b with
  | false => rfl
  | true => exact absurd (hc.mpr hb) h
theorem ff_br0 {A B : Prop} {b : Bool} (f : b = false → A) (t : b = true → B) : (nI b.toNat = 0 → A) ∧ (¬ nI b.toNat = 0 → B) := by
  cases b with
  | false => exact br_t rfl (f rfl)
  | true => exact br_f (by decide) (t rfl)
theorem ff_br1 {A B : Prop} {b : Bool} (t : b = true → A) (f : b = false → B) : (nI b.toNat = 1 → A) ∧ (¬ nI b.toNat = 1 → B) := ff_brB (ff_b1 b) t f
theorem ff_cmpX {x z : Nat} (hx : x < 1000) (hz : z < 1000) : (nI x + 1 ≤ 2 * nI z - 3) ↔ decide (x + 4 ≤ 2 * z) = true := by
  rw [decide_eq_true_eq, nI_1, show (2 : Int32) = nI 2 from rfl, show (3 : Int32) = nI 3 from rfl, pk_mul, Int32.le_iff_toInt_le, nI_toInt (by omega), pk_sub_toInt (by omega) (by omega)]
  omega
theorem ff_cmpY {x z : Nat} (hx : x < 1000) (hz : z < 1000) : (2 * nI z - 3 < nI x) ↔ (!decide (x + 3 ≤ 2 * z)) = true := by
  rw [Bool.not_eq_true', decide_eq_false_iff_not, show (2 : Int32) = nI 2 from rfl, show (3 : Int32) = nI 3 from rfl, pk_mul, Int32.lt_iff_toInt_lt, nI_toInt (by omega), pk_sub_toInt (by omega) (by omega)]
  omega
theorem ff_andq {x q : Nat} (hx : x < 2 ^ 31) (hq : q < 2 ^ 31) : (nI x &&& nI q = nI q) ↔ (x &&& q == q) = true := by
  have h : x &&& q ≤ q := Nat.and_le_right
  rw [nx_and, nI_eq (by omega) hq, beq_iff_eq]
theorem ff_andq2 {x q : Nat} (hx : x < 2 ^ 31) (hq : q < 2 ^ 31) : (nI q &&& nI x = nI q) ↔ (q &&& x == q) = true := by
  have h : q &&& x ≤ q := Nat.and_le_left
  rw [nx_and, nI_eq (by omega) hq, beq_iff_eq]
theorem ff_j31 {j : Nat} (h : j ≤ 6) : 2 ^ j < 2 ^ 31 := Nat.pow_lt_pow_right (by decide) (by omega)
theorem ff_end {j : Nat} (h : j ≤ 6) : (1 : Int32) <<< (nI j &&& 31) ≤ nI (2 ^ j) := by
  rw [ff_shl j (by omega)]
  exact Int32.le_refl _
theorem ff_nend {j i : Nat} (h : j ≤ 6) (hi : i < 2 ^ j) : ¬ (1 : Int32) <<< (nI j &&& 31) ≤ nI i := by
  rw [ff_shl j (by omega)]
  exact nI_ge hi (ff_j31 h)
theorem ff_szlt (s : Nat) : ff_sz s < 1000 := by
  have := ff_cn_le s.testBit 12
  unfold ff_sz
  omega
theorem xw_has {post : Int32 → Prop} {s k : Nat} (hs : s < 2 ^ 31) (hk : k < 32) (h : post (nI (s.testBit k).toNat)) : wpX_has post (nI s) (nI k) := by
  unfold wpX_has
  rw [ff_bit hs hk]
  cases hb : s.testBit k with
  | false =>
    rw [hb] at h
    exact br_f (by decide) h
  | true =>
    rw [hb] at h
    exact br_t rfl h
theorem xw_sizeOf {post : Int32 → Prop} {s : Nat} (hs : s < 2 ^ 31) (h : post (nI (ff_sz s))) : wpX_sizeOf post (nI s) := by
  refine loop_0 (fun n i t => wX_sizeOf_4 post (nI s) n t (nI i)) (fun i t => t = nI (ff_cn s.testBit i)) 12 0 rfl ?_ ?_
  · intro n t ht
    subst ht
    exact br_t (by decide) h
  · intro n i t hi ht k
    subst ht
    refine br_f (nI_ge (b := 12) hi (by decide)) ?_
    intro x ex y ey
    rw [ex, ey, ff_bit hs (by omega), nI_add, nI_1]
    exact k _ rfl
theorem xw_barsInside {post : Int32 → Prop} {j p : Nat} {e : Nat → Nat} {s g : Nat} (he : ∀ k, e k < 64) (hs : s < 2 ^ 31) (hg : g < 2 ^ 31) (h : post (nI (ff_inX e s g))) : wpX_barsInside post (nI j, nI p, fun k => nI (e k)) (nI s) (nI g) := by
  refine loop_0 (fun n i t => wX_barsInside_5 post (nI s) (nI g) (nI j) (nI p) (fun k => nI (e k)) n t (nI i)) (fun i t => t = nI (ff_cn (fun k => s.testBit k && (e k &&& g == e k)) i)) 12 0 rfl ?_ ?_
  · intro n t ht
    subst ht
    exact br_t (by decide) h
  · intro n i t hi ht k
    subst ht
    refine br_f (nI_ge (b := 12) hi (by decide)) (xw_has hs (by omega) (ff_br0 (fun hb => ?_) (fun hb => ⟨vp_in_nI hi (by decide), vp_in_nI hi (by decide), ?_⟩)))
    · intro y ey
      rw [ey, nI_1]
      refine k _ ?_
      rw [ff_cn_s, hb, Bool.false_and]
      rfl
    · have hi2 : (nI i).toNatClampNeg = i := nI_clamp (by omega)
      have hei := he i
      rw [hi2]
      refine ff_brB (ff_andq2 hg (by omega)) (fun hc => ?_) (fun hc => ?_)
      · intro x ex y ey
        rw [ex, ey, nI_1, nI_1]
        refine k _ ?_
        rw [ff_cn_s, hb, hc]
        rfl
      · intro y ey
        rw [ey, nI_1]
        refine k _ ?_
        rw [ff_cn_s, hb, hc]
        rfl
theorem xw_staysFree {post : Int32 → Prop} {j p : Nat} {e : Nat → Nat} {s q : Nat} (hj : j ≤ 6) (he : ∀ k, e k < 64) (hs : s < 2 ^ 31) (hq : q < 2 ^ 31) (h : post (nI (ff_st j e s q).toNat)) : wpX_staysFree post (nI j, nI p, fun k => nI (e k)) (nI s) (nI q) := by
  have h31 := ff_j31 hj
  refine loop_0 (fun n i (_ : Unit) => wX_staysFree_2 post (nI s) (nI q) (nI j) (nI p) (fun k => nI (e k)) n (nI i)) (fun i _ => ff_all (ff_okX e s q) i = true) (2 ^ j) () rfl ?_ ?_
  · intro n _ ht
    refine br_t (ff_end hj) ?_
    have e1 : ff_st j e s q = true := ht
    rw [e1] at h
    exact h
  · intro n i _ hi ht k
    have hin := ff_cn_le (fun k => s.testBit k && (e k &&& i == e k)) 12
    refine br_f (ff_nend hj hi) (ff_brB (ff_andq (by omega) hq) (fun hc => ?_) (fun hc => ?_))
    · refine xw_barsInside he hs (by omega) (xw_sizeOf (by omega) (ff_brB (ff_cmpX (x := ff_inX e s i) (by unfold ff_inX; omega) (ff_szlt i)) (fun hd => ?_) (fun hd => ?_)))
      · intro y ey
        rw [ey, nI_1]
        refine k () ?_
        rw [ff_all_s, ht]
        unfold ff_okX
        rw [hd, Bool.or_true]
        rfl
      · have e1 : ff_st j e s q = false := ff_all_f hi (by
          unfold ff_okX
          rw [hd, hc]
          rfl)
        rw [e1] at h
        exact h
    · intro y ey
      rw [ey, nI_1]
      refine k () ?_
      rw [ff_all_s, ht]
      unfold ff_okX
      rw [hc]
      rfl
theorem xw_frameOf {post : Int32 → Prop} {j p : Nat} {e : Nat → Nat} {s : Nat} (hj : j ≤ 6) (he : ∀ k, e k < 64) (hs : s < 2 ^ 31) (h : post (nI (ff_fr j e s 12))) : wpX_frameOf post (nI j, nI p, fun k => nI (e k)) (nI s) := by
  refine loop_0 (fun n i t => wX_frameOf_4 post (nI s) (nI j) (nI p) (fun k => nI (e k)) n t (nI i)) (fun i t => t = nI (ff_fr j e s i)) 12 0 rfl ?_ ?_
  · intro n t ht
    subst ht
    exact br_t (by decide) h
  · intro n i t hi ht k
    subst ht
    refine br_f (nI_ge (b := 12) hi (by decide)) (xw_has hs (by omega) (ff_br0 (fun hb => ?_) (fun hb => ⟨vp_in_nI hi (by decide), ?_⟩)))
    · intro y ey
      rw [ey, nI_1]
      refine k _ ?_
      rw [ff_fr_s, hb, Bool.false_and, if_neg (by decide)]
    · have hi2 : (nI i).toNatClampNeg = i := nI_clamp (by omega)
      have hei := he i
      have hlt := ff_fr_lt j e s i
      have h2 := ff_p2 (k := i) (by omega)
      rw [hi2]
      refine xw_staysFree hj he (by omega) (by omega) (ff_br0 (fun hc => ?_) (fun hc => ?_))
      · intro y ey
        rw [ey, nI_1]
        refine k _ ?_
        rw [ff_fr_s, hb, hc, Bool.true_and, if_neg (by decide)]
      · intro x ex y ey
        rw [ex, ey, nI_1, ff_shl i (by omega), nx_or]
        refine k _ ?_
        rw [ff_fr_s, hb, hc, Bool.true_and, if_pos rfl]
theorem xw_rankOf {post : Int32 → Prop} {j p : Nat} {e : Nat → Nat} {s : Nat} (hj : j ≤ 6) (he : ∀ k, e k < 64) (hs : s < 2 ^ 31) (h : post (nI (ff_sz (ff_fr j e s 12)))) : wpX_rankOf post (nI j, nI p, fun k => nI (e k)) (nI s) := by
  unfold wpX_rankOf
  have hlt := ff_fr_lt j e s 12
  exact xw_frameOf hj he hs (xw_sizeOf (by omega) h)
