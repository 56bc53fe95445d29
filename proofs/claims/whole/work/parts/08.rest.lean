theorem ff_rm_sub {p : Nat} (hp : p < 4096) (k i : Nat) (h : (ff_rm p k).testBit i = true) : p.testBit i = true := by
  rw [ff_rm_tb hp, Bool.and_eq_true] at h
  exact h.1
def ff_rd (j : Nat) (e : Nat → Nat) (p k : Nat) : Bool := ff_sz (ff_fr j e (ff_rm p k) 12) == ff_sz (ff_fr j e p 12)
theorem xw_redundant1 {post : Int32 → Prop} {j p k : Nat} {e A B : Nat → Nat} (O : ff_Ok j p e A B) (hk : k < 12) (hb : p.testBit k = true) (h : post (nI (ff_rd j e p k).toNat)) : wpX_redundant post (nI j, nI p, fun k => nI (e k)) (nI k) := by
  have hp := O.2.2.1
  have hle := ff_rm_le p k
  have s1 := ff_szlt (ff_fr j e (ff_rm p k) 12)
  have s2 := ff_szlt (ff_fr j e p 12)
  unfold wpX_redundant
  dsimp only
  refine xw_bar1 hp hk hb ?_
  refine br_f (by decide) ?_
  rw [ff_shl k (by omega), ff_rmI]
  refine xw_rankOf O.2.1 O.2.2.2.1 (by omega) (xw_rankOf O.2.1 O.2.2.2.1 (by omega) ?_)
  unfold ff_rd at h
  refine pk_eq _ _ (fun z => ?_) (fun z => ?_) rfl rfl (by omega) (by omega)
  · rw [beq_iff_eq.mpr z] at h
    exact h
  · rw [beq_eq_false_iff_ne.mpr z] at h
    exact h
theorem yw_redundant1 {post : Int32 → Prop} {j p k : Nat} {e A B : Nat → Nat} (O : ff_Ok j p e A B) (hk : k < 12) (hb : p.testBit k = true) (h : post (nI (ff_rd j e p k).toNat)) : wpY_redundant post (nI j, fun k => nI (p.testBit k).toNat, fun k => nI (A k), fun k => nI (B k)) (nI k) := by
  have hp := O.2.2.1
  have s1 := ff_szlt (ff_fr j e (ff_rm p k) 12)
  have s2 := ff_szlt (ff_fr j e p 12)
  have hi2 : (nI k).toNatClampNeg = k := nI_clamp (by omega)
  unfold wpY_redundant
  dsimp only
  refine yw_bars hp ?_
  refine br_f (nI_pos (by omega)) (br_f (nI_ge (b := 12) hk (by decide)) ⟨vp_in_nI (by omega) (by decide), ?_⟩)
  rw [hi2, hb]
  refine br_f (by decide) ?_
  rw [ff_shl k (by omega), ff_rmI]
  refine yw_rankIn O (fun i hi => ff_rm_sub hp k i hi) (yw_rankIn O (fun _ hi => hi) ?_)
  unfold ff_rd at h
  refine pk_eq _ _ (fun z => ?_) (fun z => ?_) rfl rfl (by omega) (by omega)
  · rw [beq_iff_eq.mpr z] at h
    exact h
  · rw [beq_eq_false_iff_ne.mpr z] at h
    exact h
theorem yw_redundant0 {post : Int32 → Prop} {j p : Nat} {E H : Nat → Int32} {x : Int32} (hp : p < 4096) (hx : ff_nobar p x) (h : post 0) : wpY_redundant post (nI j, fun k => nI (p.testBit k).toNat, E, H) x := by
  unfold wpY_redundant
  dsimp only
  refine yw_bars hp ?_
  by_cases h0 : x < 0
  · exact br_t h0 h
  · rcases hx with hx | hx | ⟨k, hk, rfl, hb⟩
    · exact absurd hx h0
    · exact br_f h0 (br_t hx h)
    · refine br_f h0 (br_f (nI_ge (b := 12) hk (by decide)) ⟨vp_in_nI (by omega) (by decide), ?_⟩)
      rw [show (nI k).toNatClampNeg = k from nI_clamp (by omega), hb]
      exact br_t rfl h
def ff_rqY (j : Nat) (A B : Nat → Nat) (F k f : Nat) : Bool := F.testBit f && ff_lo j A B (ff_rm F f ||| 2 ^ k)
theorem yw_ringL {post : Int32 → Prop} {j : Nat} {T : Nat → Int32} {A B : Nat → Nat} {F k : Nat} (hj : j ≤ 6) (hA : ∀ k, A k < 6) (hB : ∀ k, B k < 6) (hF : F < 4096) (hk : k < 12) (h : post (nI (ff_rg (ff_rqY j A B F k) k 12))) : ∃ n, wY_ring_42 post (nI k) (nI F) (nI j) T (fun k => nI (A k)) (fun k => nI (B k)) n (nI (2 ^ k)) 0 := by
  refine loop_0 (fun n i t => wY_ring_42 post (nI k) (nI F) (nI j) T (fun k => nI (A k)) (fun k => nI (B k)) n t (nI i)) (fun i t => t = nI (ff_rg (ff_rqY j A B F k) k i)) 12 _ rfl ?_ ?_
  · intro n t ht
    subst ht
    exact br_t (by decide) h
  · intro n i t hi ht K
    subst ht
    have no : ff_rqY j A B F k i = false → wY_ring_82 post (wY_ring_42 post (nI k) (nI F) (nI j) T (fun k => nI (A k)) (fun k => nI (B k)) n) (nI k) (nI F) (nI (ff_rg (ff_rqY j A B F k) k i)) (nI i) (nI j) T (fun k => nI (A k)) (fun k => nI (B k)) := by
      intro hq
      refine br_t rfl ?_
      intro y ey
      rw [ey, nI_1]
      refine K _ ?_
      rw [ff_rg_s, hq, if_neg (by decide)]
    have hle := ff_rm_le F i
    have hlt : ff_rm F i ||| 2 ^ k < 2 ^ 12 := ff_or_lt (by omega) hk
    refine br_f (nI_ge (b := 12) hi (by decide)) ?_
    rw [ff_bit (by omega) (by omega)]
    refine ff_br1 (fun hb => ?_) (fun hb => no (by unfold ff_rqY; rw [hb, Bool.false_and]))
    rw [ff_shl i (by omega), ff_shl k (by omega), ff_rmI, nx_or]
    refine yw_loose hj hA hB (by omega) (ff_br0 (fun hc => no (by unfold ff_rqY; rw [hc, Bool.and_false])) (fun hc => ?_))
    refine br_f (by decide) ?_
    intro x ex y ey
    rw [ex, ey, nI_1, ff_shl i (by omega), nx_or]
    refine K _ ?_
    have q : ff_rqY j A B F k i = true := by
      unfold ff_rqY
      rw [hb, hc, Bool.true_and]
    rw [ff_rg_s, q, if_pos rfl]
theorem ff_rg_congr {q r : Nat → Bool} (k n : Nat) (h : ∀ f, f < n → q f = r f) : ff_rg q k n = ff_rg r k n := by
  induction n with
  | zero => rfl
  | succ n ih => rw [ff_rg_s, ff_rg_s, ih (fun f hf => h f (by omega)), h n (by omega)]
theorem yw_frame {post : Int32 → Prop} {j p : Nat} {e A B : Nat → Nat} (O : ff_Ok j p e A B) (h : post (nI (ff_fr j e p 12))) : wpY_frame post (nI j, fun k => nI (p.testBit k).toNat, fun k => nI (A k), fun k => nI (B k)) := by
  have hp := O.2.2.1
  unfold wpY_frame
  dsimp only
  refine yw_bars hp (yw_taken O.2.1 O.2.2.2.2.1 O.2.2.2.2.2.1 (by omega) ?_)
  rw [ff_tk13 O (fun _ hi => hi)]
  exact h
theorem yw_ring0 {post : Int32 → Prop} {j p : Nat} {e A B : Nat → Nat} {x : Int32} (O : ff_Ok j p e A B) (hx : ff_nobar p x) (h : post 0) : wpY_ring post (nI j, fun k => nI (p.testBit k).toNat, fun k => nI (A k), fun k => nI (B k)) x := by
  unfold wpY_ring
  dsimp only
  refine yw_frame O ?_
  by_cases h0 : x < 0
  · exact br_t h0 h
  · rcases hx with hx | hx | ⟨k, hk, rfl, hb⟩
    · exact absurd hx h0
    · have h11 : (11 : Int32) < x := by
        rw [Int32.lt_iff_toInt_lt]
        rw [Int32.le_iff_toInt_le, nI_toInt (by decide)] at hx
        have : (11 : Int32).toInt = 11 := by decide
        omega
      exact br_f h0 (br_t h11 h)
    · refine br_f h0 (br_f (nI_nlt (a := 11) (b := k) (by omega) (by decide)) ⟨vp_in_nI (by omega) (by decide), ?_⟩)
      rw [show (nI k).toNatClampNeg = k from nI_clamp (by omega), hb]
      exact br_t rfl h
theorem yw_ring1 {post : Int32 → Prop} {j p k : Nat} {e A B : Nat → Nat} (O : ff_Ok j p e A B) (hk : k < 12) (hb : p.testBit k = true) (h1 : (ff_fr j e p 12).testBit k = true → post 0) (h2 : (ff_fr j e p 12).testBit k = false → post (nI (ff_rg (ff_rq j e (ff_fr j e p 12) k) k 12))) : wpY_ring post (nI j, fun k => nI (p.testBit k).toNat, fun k => nI (A k), fun k => nI (B k)) (nI k) := by
  have hlt := ff_fr_lt j e p 12
  unfold wpY_ring
  dsimp only
  refine yw_frame O ?_
  refine br_f (nI_pos (by omega)) (br_f (nI_nlt (a := 11) (b := k) (by omega) (by decide)) ⟨vp_in_nI (by omega) (by decide), ?_⟩)
  rw [show (nI k).toNatClampNeg = k from nI_clamp (by omega), hb]
  refine br_f (by decide) ?_
  rw [ff_bit (by omega) (by omega)]
  refine ff_br1 h1 (fun hc => ?_)
  intro x ex
  rw [ex, ff_shl k (by omega)]
  refine yw_ringL O.2.1 O.2.2.2.2.1 O.2.2.2.2.2.1 hlt hk ?_
  have q : ff_rg (ff_rqY j A B (ff_fr j e p 12) k) k 12 = ff_rg (ff_rq j e (ff_fr j e p 12) k) k 12 := by
    apply ff_rg_congr
    intro f _
    unfold ff_rqY ff_rq
    rw [ff_ring O hb hc]
  rw [q]
  exact h2 hc
theorem xw_ring0 {post : Int32 → Prop} {j p : Nat} {e : Nat → Nat} {x : Int32} (hj : j ≤ 6) (he : ∀ k, e k < 64) (hp : p < 4096) (hx : ff_nobar p x) (h : post 0) : wpX_ring post (nI j, nI p, fun k => nI (e k)) x := by
  unfold wpX_ring
  dsimp only
  refine xw_frameOf hj he (by omega) ?_
  refine xw_bar0 hp hx ?_
  exact br_t rfl h
theorem xw_ring1 {post : Int32 → Prop} {j p k : Nat} {e : Nat → Nat} (hj : j ≤ 6) (he : ∀ k, e k < 64) (hp : p < 4096) (hk : k < 12) (hb : p.testBit k = true) (h1 : (ff_fr j e p 12).testBit k = true → post 0) (h2 : (ff_fr j e p 12).testBit k = false → post (nI (ff_rg (ff_rq j e (ff_fr j e p 12) k) k 12))) : wpX_ring post (nI j, nI p, fun k => nI (e k)) (nI k) := by
  have hlt := ff_fr_lt j e p 12
  unfold wpX_ring
  dsimp only
  refine xw_frameOf hj he (by omega) ?_
  refine xw_bar1 hp hk hb ?_
  refine br_f (by decide) ?_
  refine xw_has (by omega) (by omega) ?_
  refine ff_br0 (fun hc => ?_) h1
  intro x ex
  rw [ex, ff_shl k (by omega)]
  exact xw_ring hj he hlt hk (h2 hc)
theorem ff_sub0 {x y : Int32} : x - y = 0 ↔ y = x := by
  constructor
  · intro h
    have q : x - y + y = x := Int32.sub_add_cancel x y
    rw [h, Int32.zero_add] at q
    exact q
  · intro h
    rw [h]
    exact Int32.sub_self _
def ff_rk (j : Nat) (e : Nat → Nat) (p : Nat) : Nat := ff_sz (ff_fr j e p 12)
theorem yw_freedom {post : Int32 → Prop} {j p : Nat} {e A B : Nat → Nat} (O : ff_Ok j p e A B) (h : post (2 * nI j - 3 - nI (ff_rk j e p))) : wpY_freedom post (nI j, fun k => nI (p.testBit k).toNat, fun k => nI (A k), fun k => nI (B k)) := by
  unfold wpY_freedom
  dsimp only
  exact yw_bars O.2.2.1 (yw_rankIn O (fun _ hi => hi) h)
theorem yw_rigid {post : Int32 → Prop} {j p : Nat} {e A B : Nat → Nat} (O : ff_Ok j p e A B) (h1 : nI (ff_rk j e p) = 2 * nI j - 3 → post 1) (h2 : ¬ nI (ff_rk j e p) = 2 * nI j - 3 → post 0) : wpY_rigid post (nI j, fun k => nI (p.testBit k).toNat, fun k => nI (A k), fun k => nI (B k)) := by
  unfold wpY_rigid
  dsimp only
  refine yw_freedom O ?_
  rw [ff_sub0]
  exact ⟨h1, h2⟩
def ff_dp (j : Nat) (e : Nat → Nat) (p k : Nat) : Bool := !p.testBit k || ff_rd j e p k
theorem yw_doubly {post : Int32 → Prop} {j p : Nat} {e A B : Nat → Nat} {b : Bool} (O : ff_Ok j p e A B) (h : post (nI (b && ff_all (ff_dp j e p) 12).toNat)) : ∃ n, wY_doublyHeld_7 post (nI j) (fun k => nI (p.testBit k).toNat) (fun k => nI (A k)) (fun k => nI (B k)) n (nI b.toNat) 0 := by
  refine loop_0 (fun n i t => wY_doublyHeld_7 post (nI j) (fun k => nI (p.testBit k).toNat) (fun k => nI (A k)) (fun k => nI (B k)) n t (nI i)) (fun i t => t = nI (b && ff_all (ff_dp j e p) i).toNat) 12 _ (by rw [show ff_all (ff_dp j e p) 0 = true from rfl, Bool.and_true]) ?_ ?_
  · intro n t ht
    subst ht
    exact br_t (by decide) ⟨ff_nb _, h⟩
  · intro n i t hi ht k
    subst ht
    refine br_f (nI_ge (b := 12) hi (by decide)) (ff_br0 (fun hb => ?_) (fun hb => ⟨vp_in_nI (by omega) (by decide), ?_⟩))
    · intro y ey
      rw [ey, nI_1]
      refine k _ ?_
      rw [ff_all_s, ← Bool.and_assoc, hb]
      rfl
    · rw [show (nI i).toNatClampNeg = i from nI_clamp (by omega)]
      refine ff_br0 (fun hc => ?_) (fun hc => ?_)
      · intro y ey
        rw [ey, nI_1]
        refine k _ ?_
        rw [ff_all_s, ← Bool.and_assoc, hb]
        unfold ff_dp
        rw [hc]
        rfl
      · refine yw_redundant1 O hi hc (ff_br0 (fun hd => ?_) (fun hd => ?_))
        · intro y ey
          rw [ey, nI_1]
          refine k _ ?_
          rw [ff_all_s, ← Bool.and_assoc, hb]
          unfold ff_dp
          rw [hc, hd]
          rfl
        · intro y ey
          rw [ey, nI_1]
          refine k _ ?_
          rw [ff_all_s, ← Bool.and_assoc, hb]
          unfold ff_dp
          rw [hc, hd]
          rfl
theorem xw_doubly {post : Int32 → Prop} {j p : Nat} {e A B : Nat → Nat} (O : ff_Ok j p e A B) (h : post (nI (ff_all (ff_dp j e p) 12).toNat)) : ∃ n, wX_doublyHeld_21 post (nI (ff_rk j e p)) (nI j) (nI p) (fun k => nI (e k)) n 0 := by
  have hp := O.2.2.1
  have s2 := ff_szlt (ff_fr j e p 12)
  refine loop_0 (fun n i (_ : Unit) => wX_doublyHeld_21 post (nI (ff_rk j e p)) (nI j) (nI p) (fun k => nI (e k)) n (nI i)) (fun i _ => ff_all (ff_dp j e p) i = true) 12 () rfl ?_ ?_
  · intro n _ ht
    rw [ht] at h
    exact br_t (by decide) h
  · intro n i _ hi ht k
    have hle := ff_rm_le p i
    have s1 := ff_szlt (ff_fr j e (ff_rm p i) 12)
    refine br_f (nI_ge (b := 12) hi (by decide)) (xw_has (by omega) (by omega) (ff_br0 (fun hb => ?_) (fun hb => ?_)))
    · intro y ey
      rw [ey, nI_1]
      refine k () ?_
      rw [ff_all_s, ht]
      unfold ff_dp
      rw [hb]
      rfl
    · rw [ff_shl i (by omega), ff_rmI]
      refine xw_rankOf O.2.1 O.2.2.2.1 (by omega) ?_
      refine pk_eq (ff_sz (ff_fr j e (ff_rm p i) 12)) (ff_sz (ff_fr j e p 12)) (fun z => ?_) (fun z => ?_) rfl rfl (by omega) (by omega)
      · intro y ey
        rw [ey, nI_1]
        refine k () ?_
        rw [ff_all_s, ht]
        unfold ff_dp ff_rd
        rw [beq_iff_eq.mpr z, Bool.or_true]
        rfl
      · have q : ff_all (ff_dp j e p) 12 = false := ff_all_f hi (by
          unfold ff_dp ff_rd
          rw [hb, beq_eq_false_iff_ne.mpr z]
          rfl)
        rw [q] at h
        exact h
