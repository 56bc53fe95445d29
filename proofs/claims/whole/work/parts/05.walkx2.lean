theorem xw_joint1 {post : Int32 → Prop} {j p a : Nat} {E : Nat → Int32} (hj : j ≤ 6) (ha : a < j) (h : post 1) : wpX_isJoint post (nI j, nI p, E) (nI a) := br_f (nI_pos (by omega)) (br_f (nI_ge ha (by omega)) h)
theorem xw_joint0 {post : Int32 → Prop} {j p : Nat} {E : Nat → Int32} {x : Int32} (hx : x < 0 ∨ nI j ≤ x) (h : post 0) : wpX_isJoint post (nI j, nI p, E) x := by
  by_cases h0 : x < 0
  · exact br_t h0 h
  · rcases hx with hx | hx
    · exact absurd hx h0
    · exact br_f h0 (br_t hx h)
def ff_bad (j : Nat) (x y : Int32) : Prop := x = y ∨ (x < 0 ∨ nI j ≤ x) ∨ (y < 0 ∨ nI j ≤ y)
theorem ff_case (j : Nat) (hj : j ≤ 6) (x y : Int32) : ff_bad j x y ∨ ∃ a b : Nat, a < j ∧ b < j ∧ a ≠ b ∧ x = nI a ∧ y = nI b := by
  by_cases hxy : x = y
  · exact Or.inl (Or.inl hxy)
  · rcases pk_ix x (n := j) (by omega) with h | h | ⟨a, ha, rfl⟩
    · exact Or.inl (Or.inr (Or.inl (Or.inl h)))
    · exact Or.inl (Or.inr (Or.inl (Or.inr h)))
    · rcases pk_ix y (n := j) (by omega) with h | h | ⟨b, hb, rfl⟩
      · exact Or.inl (Or.inr (Or.inr (Or.inl h)))
      · exact Or.inl (Or.inr (Or.inr (Or.inr h)))
      · exact Or.inr ⟨a, b, ha, hb, fun z => hxy (congrArg nI z), rfl, rfl⟩
theorem xw_pair1 {post : Int32 → Prop} {j p a b : Nat} {E : Nat → Int32} (hj : j ≤ 6) (ha : a < j) (hb : b < j) (hab : a ≠ b) (h : post 1) : wpX_isPair post (nI j, nI p, E) (nI a) (nI b) := by
  refine br_f (fun z => hab ((nI_eq (by omega) (by omega)).mp z)) ?_
  exact xw_joint1 hj ha (br_f (by decide) (xw_joint1 hj hb (br_f (by decide) h)))
theorem xw_pair0 {post : Int32 → Prop} {j p : Nat} {E : Nat → Int32} {x y : Int32} (hj : j ≤ 6) (hx : ff_bad j x y) (h : post 0) : wpX_isPair post (nI j, nI p, E) x y := by
  by_cases hxy : x = y
  · exact br_t hxy h
  · refine br_f hxy ?_
    by_cases h1 : x < 0 ∨ nI j ≤ x
    · exact xw_joint0 h1 (br_t rfl h)
    · rcases pk_ix x (n := j) (by omega) with z | z | ⟨a, ha, rfl⟩
      · exact absurd (Or.inl z) h1
      · exact absurd (Or.inr z) h1
      · refine xw_joint1 hj ha (br_f (by decide) ?_)
        rcases hx with hx | hx | hx
        · exact absurd hx hxy
        · exact absurd hx h1
        · exact xw_joint0 hx (br_t rfl h)
def ff_nobar (p : Nat) (x : Int32) : Prop := x < 0 ∨ nI 12 ≤ x ∨ ∃ k : Nat, k < 12 ∧ x = nI k ∧ p.testBit k = false
theorem ff_barcase (p : Nat) (x : Int32) : ff_nobar p x ∨ ∃ k : Nat, k < 12 ∧ x = nI k ∧ p.testBit k = true := by
  rcases pk_ix x (n := 12) (by omega) with h | h | ⟨k, hk, rfl⟩
  · exact Or.inl (Or.inl h)
  · exact Or.inl (Or.inr (Or.inl h))
  · cases hb : p.testBit k with
    | false => exact Or.inl (Or.inr (Or.inr ⟨k, hk, rfl, hb⟩))
    | true => exact Or.inr ⟨k, hk, rfl, hb⟩
theorem xw_bar1 {post : Int32 → Prop} {j p k : Nat} {E : Nat → Int32} (hp : p < 4096) (hk : k < 12) (hb : p.testBit k = true) (h : post 1) : wpX_isBar post (nI j, nI p, E) (nI k) := by
  refine br_f (nI_pos (by omega)) (br_f (nI_ge (b := 12) hk (by decide)) (xw_has (by omega) (by omega) ?_))
  rw [hb]
  exact br_f (by decide) h
theorem xw_bar0 {post : Int32 → Prop} {j p : Nat} {E : Nat → Int32} {x : Int32} (hp : p < 4096) (hx : ff_nobar p x) (h : post 0) : wpX_isBar post (nI j, nI p, E) x := by
  by_cases h0 : x < 0
  · exact br_t h0 h
  · rcases hx with hx | hx | ⟨k, hk, rfl, hb⟩
    · exact absurd hx h0
    · exact br_f h0 (br_t hx h)
    · refine br_f h0 (br_f (nI_ge (b := 12) hk (by decide)) (xw_has (by omega) (by omega) ?_))
      rw [hb]
      exact br_t rfl h
theorem xw_pairOf {post : Int32 → Prop} {a b : Nat} (ha : a < 31) (hb : b < 31) (h : post (nI (2 ^ a ||| 2 ^ b))) : wpX_pairOf post (nI a) (nI b) := by
  unfold wpX_pairOf
  rw [ff_shl a ha, ff_shl b hb, nx_or]
  exact h
theorem ff_pr64 {a b : Nat} (ha : a < 6) (hb : b < 6) : 2 ^ a ||| 2 ^ b < 64 := Nat.or_lt_two_pow (n := 6) (Nat.pow_lt_pow_right (by decide) ha) (Nat.pow_lt_pow_right (by decide) hb)
theorem ff_hd_ne {j : Nat} {e : Nat → Nat} {F a b : Nat} (ha : a < j) (hb : b < j) (hab : a ≠ b) : ff_hd j e F a b = !ff_st j e F (2 ^ a ||| 2 ^ b) := by
  unfold ff_hd
  rw [decide_eq_true ha, decide_eq_true hb, decide_eq_false hab]
  rfl
theorem ff_hd_self {j : Nat} {e : Nat → Nat} {F a : Nat} : ff_hd j e F a a = false := by
  unfold ff_hd
  rw [decide_eq_true (rfl : a = a)]
  cases decide (a < j) <;> rfl
theorem xw_jointsHeldTo {post : Int32 → Prop} {j p : Nat} {e : Nat → Nat} {F a : Nat} (hj : j ≤ 6) (he : ∀ k, e k < 64) (hF : F < 2 ^ 31) (ha : a < j) (h : post (nI (ff_ht (ff_hd j e F) a j))) : wpX_jointsHeldTo post (nI j, nI p, fun k => nI (e k)) (nI F) (nI a) := by
  intro x ex
  rw [ex, ff_shl a (by omega)]
  refine loop_0 (fun n i t => wX_jointsHeldTo_7 post (nI F) (nI a) (nI j) (nI p) (fun k => nI (e k)) n t (nI i)) (fun i t => t = nI (ff_ht (ff_hd j e F) a i)) j _ rfl ?_ ?_
  · intro n t ht
    subst ht
    exact br_t (Int32.le_refl _) h
  · intro n i t hi ht k
    subst ht
    have h64 := ff_pr64 (a := a) (b := i) (by omega) (by omega)
    refine br_f (nI_ge hi (by omega)) (xw_pairOf (by omega) (by omega) (pk_eq i a (fun z => ?_) (fun z => ?_)))
    · intro y ey
      rw [ey, nI_1]
      refine k _ ?_
      rw [ff_ht_s, z, ff_hd_self, if_neg (by decide)]
    · have hd := ff_hd_ne (j := j) (e := e) (F := F) ha hi (fun w => z w.symm)
      refine xw_staysFree hj he hF (by omega) (ff_br0 (fun hc => ?_) (fun hc => ?_))
      · intro x ex y ey
        rw [ex, ey, nI_1, ff_shl i (by omega), nx_or]
        refine k _ ?_
        rw [ff_ht_s, hd, hc, if_pos (by decide)]
      · intro y ey
        rw [ey, nI_1]
        refine k _ ?_
        rw [ff_ht_s, hd, hc, if_neg (by decide)]
theorem xw_jointsHeldToAll {post : Int32 → Prop} {j p : Nat} {e : Nat → Nat} {F g : Nat} (hj : j ≤ 6) (he : ∀ k, e k < 64) (hF : F < 2 ^ 31) (hg : g < 2 ^ 31) (h : post (nI (ff_ha (ff_hd j e F) j g j))) : wpX_jointsHeldToAll post (nI j, nI p, fun k => nI (e k)) (nI F) (nI g) := by
  intro x ex
  have h1 : (1 : Nat) ≤ 2 ^ j := Nat.one_le_two_pow
  rw [ex, ff_shl j (by omega), show (1 : Int32) = nI 1 from rfl, pk_sub h1]
  refine loop_0 (fun n i t => wX_jointsHeldToAll_12 post (nI F) (nI g) (nI j) (nI p) (fun k => nI (e k)) n t (nI i)) (fun i t => t = nI (ff_ha (ff_hd j e F) j g i)) j _ rfl ?_ ?_
  · intro n t ht
    subst ht
    exact br_t (Int32.le_refl _) h
  · intro n i t hi ht k
    subst ht
    refine br_f (nI_ge hi (by omega)) (xw_has hg (by omega) (ff_br0 (fun hb => ?_) (fun hb => ?_)))
    · intro y ey
      rw [ey, nI_1]
      refine k _ ?_
      rw [ff_ha_s, hb, if_neg (by decide)]
    · refine xw_jointsHeldTo hj he hF hi ?_
      intro x ex y ey
      rw [ex, ey, nI_1, nx_and]
      refine k _ ?_
      rw [ff_ha_s, hb, if_pos rfl]
def ff_bX (h : Nat → Nat → Bool) (j g : Nat) : Bool := decide (3 ≤ ff_sz g) && (ff_ha h j g j == g)
theorem xw_bodies {post : Int32 → Prop} {j p : Nat} {e : Nat → Nat} (hj : j ≤ 6) (he : ∀ k, e k < 64) (hp : p < 4096) (h : post (nI (ff_cn (ff_bX (ff_hd j e (ff_fr j e p 12)) j) (2 ^ j)))) : wpX_bodies post (nI j, nI p, fun k => nI (e k)) := by
  have h31 := ff_j31 hj
  have hlt := ff_fr_lt j e p 12
  unfold wpX_bodies
  refine xw_frameOf hj he (by omega) ?_
  refine loop_0 (fun n i t => wX_bodies_13 post (nI (ff_fr j e p 12)) (nI j) (nI p) (fun k => nI (e k)) n t (nI i)) (fun i t => t = nI (ff_cn (ff_bX (ff_hd j e (ff_fr j e p 12)) j) i)) (2 ^ j) _ rfl ?_ ?_
  · intro n t ht
    subst ht
    exact br_t (ff_end hj) h
  · intro n i t hi ht k
    subst ht
    refine br_f (ff_nend hj hi) (xw_sizeOf (by omega) (pk_lt (ff_sz i) 3 (fun z => ?_) (fun z => ?_) rfl rfl (by have := ff_szlt i; omega) (by decide)))
    · intro y ey
      rw [ey, nI_1]
      refine k _ ?_
      rw [ff_cn_s]
      unfold ff_bX
      rw [decide_eq_false (by omega)]
      rfl
    · have hl := ff_ha_lt (ff_hd j e (ff_fr j e p 12)) j i j
      refine xw_jointsHeldToAll hj he (by omega) (by omega) (pk_eq (ff_ha (ff_hd j e (ff_fr j e p 12)) j i j) i (fun y => ?_) (fun y => ?_) rfl rfl (by omega) (by omega))
      · intro x ex w ew
        rw [ex, ew, nI_1, nI_1]
        refine k _ ?_
        rw [ff_cn_s (n := i)]
        unfold ff_bX
        rw [decide_eq_true z, beq_iff_eq.mpr y]
        rfl
      · intro w ew
        rw [ew, nI_1]
        refine k _ ?_
        rw [ff_cn_s (n := i)]
        have y2 : (ff_ha (ff_hd j e (ff_fr j e p 12)) j i j == i) = false := by
          cases q : (ff_ha (ff_hd j e (ff_fr j e p 12)) j i j == i) with
          | false => rfl
          | true => exact absurd (beq_iff_eq.mp q) y
        have b2 : ff_bX (ff_hd j e (ff_fr j e p 12)) j i = false := by
          unfold ff_bX
          rw [y2, Bool.and_false]
        rw [b2]
        rfl
def ff_rg (q : Nat → Bool) (k : Nat) : Nat → Nat
  | 0 => 2 ^ k
  | f + 1 => if q f = true then ff_rg q k f ||| 2 ^ f else ff_rg q k f
theorem ff_rg_s (q : Nat → Bool) (k f : Nat) : ff_rg q k (f + 1) = if q f = true then ff_rg q k f ||| 2 ^ f else ff_rg q k f := rfl
def ff_rq (j : Nat) (e : Nat → Nat) (F k f : Nat) : Bool := F.testBit f && ff_st j e (ff_rm F f) (e k)
theorem xw_ring {post : Int32 → Prop} {j p : Nat} {e : Nat → Nat} {F k : Nat} (hj : j ≤ 6) (he : ∀ k, e k < 64) (hF : F < 4096) (hk : k < 12) (h : post (nI (ff_rg (ff_rq j e F k) k 12))) : ∃ n, wX_ring_34 post (nI k) (nI F) (nI j) (nI p) (fun k => nI (e k)) n (nI (2 ^ k)) 0 := by
  refine loop_0 (fun n i t => wX_ring_34 post (nI k) (nI F) (nI j) (nI p) (fun k => nI (e k)) n t (nI i)) (fun i t => t = nI (ff_rg (ff_rq j e F k) k i)) 12 _ rfl ?_ ?_
  · intro n t ht
    subst ht
    exact br_t (by decide) h
  · intro n i t hi ht K
    subst ht
    refine br_f (nI_ge (b := 12) hi (by decide)) (xw_has (by omega) (by omega) (ff_br0 (fun hb => ?_) (fun hb => ⟨vp_in_nI hk (by decide), ?_⟩)))
    · intro y ey
      rw [ey, nI_1]
      refine K _ ?_
      have q : ff_rq j e F k i = false := by
        unfold ff_rq
        rw [hb, Bool.false_and]
      rw [ff_rg_s, q, if_neg (by decide)]
    · have hi2 : (nI k).toNatClampNeg = k := nI_clamp (by omega)
      have hek := he k
      have hle := ff_rm_le F i
      rw [hi2, ff_shl i (by omega), ff_rmI]
      refine xw_staysFree hj he (by omega) (by omega) (ff_br0 (fun hc => ?_) (fun hc => ?_))
      · intro y ey
        rw [ey, nI_1]
        refine K _ ?_
        have q : ff_rq j e F k i = false := by
          unfold ff_rq
          rw [hb, hc, Bool.true_and]
        rw [ff_rg_s, q, if_neg (by decide)]
      · intro x ex y ey
        rw [ex, ey, nI_1, nx_or]
        refine K _ ?_
        have q : ff_rq j e F k i = true := by
          unfold ff_rq
          rw [hb, hc, Bool.true_and]
        rw [ff_rg_s, q, if_pos rfl]
