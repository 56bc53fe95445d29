theorem ff_scan (q : Nat → Bool) (n : Nat) : (∀ k, k < n → q k = true) ∨ ∃ k, k < n ∧ q k = false ∧ ∀ i, i < k → q i = true := by
  induction n with
  | zero => exact Or.inl (fun k hk => absurd hk (Nat.not_lt_zero _))
  | succ n ih =>
    rcases ih with h | ⟨k, hk, h1, h2⟩
    · cases hb : q n with
      | false => exact Or.inr ⟨n, by omega, hb, h⟩
      | true =>
        refine Or.inl (fun k hk => ?_)
        rcases Nat.lt_or_ge k n with w | w
        · exact h k w
        · have e : k = n := by omega
          rw [e]
          exact hb
    · exact Or.inr ⟨k, by omega, h1, h2⟩
theorem ff_updT (p k : Nat) : upd (fun i => nI (p.testBit i).toNat) k 1 = fun i => nI ((p ||| 2 ^ k).testBit i).toNat := by
  funext i
  rw [ff_or_tb]
  unfold upd
  by_cases h : i = k
  · rw [if_pos h, decide_eq_true h.symm, Bool.or_true]
    rfl
  · rw [if_neg h, decide_eq_false (show ¬ k = i from fun z => h z.symm), Bool.or_false]
theorem ff_updT0 {p : Nat} (hp : p < 4096) (k : Nat) : upd (fun i => nI (p.testBit i).toNat) k 0 = fun i => nI ((ff_rm p k).testBit i).toNat := by
  funext i
  rw [ff_rm_tb hp]
  unfold upd
  by_cases h : i = k
  · rw [if_pos h, decide_eq_true h.symm, Bool.not_true, Bool.and_false]
    rfl
  · rw [if_neg h, decide_eq_false (show ¬ k = i from fun z => h z.symm), Bool.not_false, Bool.and_true]
theorem ff_OkA {j p : Nat} {e A B : Nat → Nat} (O : ff_Ok j p e A B) {a b k : Nat} (ha : a < j) (hb : b < j) (hab : a ≠ b) (hk : k < 12) : ff_Ok j (p ||| 2 ^ k) (ff_up e k (2 ^ a ||| 2 ^ b)) (ff_up A k a) (ff_up B k b) := by
  obtain ⟨h1, h2, h3, h4, h5, h6, h7⟩ := O
  refine ⟨h1, h2, ff_or_lt (n := 12) h3 hk, fun i => ?_, fun i => ?_, fun i => ?_, fun i hi => ?_⟩
  · unfold ff_up
    split
    · exact ff_pr64 (by omega) (by omega)
    · exact h4 i
  · unfold ff_up
    split
    · omega
    · exact h5 i
  · unfold ff_up
    split
    · omega
    · exact h6 i
  · unfold ff_up
    by_cases h : i = k
    · rw [if_pos h, if_pos h, if_pos h]
      exact ⟨ha, hb, hab, rfl⟩
    · rw [if_neg h, if_neg h, if_neg h]
      rw [ff_or_tb, decide_eq_false (show ¬ k = i from fun z => h z.symm), Bool.or_false] at hi
      exact h7 i hi
theorem ff_OkR {j p : Nat} {e A B : Nat → Nat} (O : ff_Ok j p e A B) (k : Nat) : ff_Ok j (ff_rm p k) e A B := by
  obtain ⟨h1, h2, h3, h4, h5, h6, h7⟩ := O
  exact ⟨h1, h2, Nat.lt_of_le_of_lt (ff_rm_le p k) h3, h4, h5, h6, fun i hi => h7 i (ff_rm_sub h3 k i hi)⟩
theorem xw_addF {post : Int32 → SX → Prop} {j p : Nat} {x y : Int32} {E : Nat → Int32} (hp : p < 4096) (ha : ∀ k, k < 12 → p.testBit k = true) (h : post (-2) (nI j, nI p, E)) : ∃ n, wX_add_13 post x y (nI j) (nI p) E n 0 := by
  refine loop_0 (fun n i (_ : Unit) => wX_add_13 post x y (nI j) (nI p) E n (nI i)) (fun _ _ => True) 12 () trivial ?_ ?_
  · intro n _ _
    exact br_t (by decide) h
  · intro n i _ hi _ k
    refine br_f (nI_ge (b := 12) hi (by decide)) (xw_has (by omega) (by omega) ?_)
    rw [ha i hi]
    refine br_f (by decide) ?_
    intro w ew
    rw [ew, nI_1]
    exact k () trivial
theorem xw_addK {post : Int32 → SX → Prop} {j p a b k : Nat} {e : Nat → Nat} (hp : p < 4096) (ha : a < 6) (hb : b < 6) (hk : k < 12) (hf : p.testBit k = false) (hl : ∀ i, i < k → p.testBit i = true) (h : post (nI k) (nI j, nI (p ||| 2 ^ k), fun i => nI (ff_up e k (2 ^ a ||| 2 ^ b) i))) : ∃ n, wX_add_13 post (nI a) (nI b) (nI j) (nI p) (fun i => nI (e i)) n 0 := by
  refine loop_0 (fun n i (_ : Unit) => wX_add_13 post (nI a) (nI b) (nI j) (nI p) (fun i => nI (e i)) n (nI i)) (fun _ _ => True) k () trivial ?_ ?_
  · intro n _ _
    refine br_f (nI_ge (b := 12) hk (by decide)) (xw_has (by omega) (by omega) ?_)
    rw [hf]
    refine br_t rfl (xw_pairOf (by omega) (by omega) ⟨vp_in_nI hk (by decide), ?_⟩)
    intro E2 hE q hq
    rw [show (nI k).toNatClampNeg = k from nI_clamp (by omega), ff_updI] at hE
    rw [ff_shl k (by omega), nx_or] at hq
    subst hE hq
    exact h
  · intro n i _ hi _ K
    refine br_f (nI_ge (b := 12) (by omega) (by decide)) (xw_has (by omega) (by omega) ?_)
    rw [hl i hi]
    refine br_f (by decide) ?_
    intro w ew
    rw [ew, nI_1]
    exact K () trivial
theorem yw_addF {post : Int32 → SY → Prop} {j p : Nat} {x y : Int32} {E H : Nat → Int32} (ha : ∀ k, k < 12 → p.testBit k = true) (h : post (-2) (nI j, fun k => nI (p.testBit k).toNat, E, H)) : ∃ n, wY_add_25 post x y (nI j) (fun k => nI (p.testBit k).toNat) E H n 0 := by
  refine loop_0 (fun n i (_ : Unit) => wY_add_25 post x y (nI j) (fun k => nI (p.testBit k).toNat) E H n (nI i)) (fun _ _ => True) 12 () trivial ?_ ?_
  · intro n _ _
    exact br_t (by decide) h
  · intro n i _ hi _ k
    refine br_f (nI_ge (b := 12) hi (by decide)) ⟨vp_in_nI (by omega) (by decide), ?_⟩
    rw [show (nI i).toNatClampNeg = i from nI_clamp (by omega)]
    dsimp only
    rw [ha i hi]
    refine br_f (by decide) ?_
    intro w ew
    rw [ew, nI_1]
    exact k () trivial
theorem ff_n1 : vp_nar .boolean 1 = 1 := by decide
theorem ff_n0 : vp_nar .boolean 0 = 0 := by decide
theorem yw_addK {post : Int32 → SY → Prop} {j p a b k : Nat} {A B : Nat → Nat} (hk : k < 12) (hf : p.testBit k = false) (hl : ∀ i, i < k → p.testBit i = true) (h : post (nI k) (nI j, fun i => nI ((p ||| 2 ^ k).testBit i).toNat, fun i => nI (ff_up A k a i), fun i => nI (ff_up B k b i))) : ∃ n, wY_add_25 post (nI a) (nI b) (nI j) (fun i => nI (p.testBit i).toNat) (fun i => nI (A i)) (fun i => nI (B i)) n 0 := by
  refine loop_0 (fun n i (_ : Unit) => wY_add_25 post (nI a) (nI b) (nI j) (fun i => nI (p.testBit i).toNat) (fun i => nI (A i)) (fun i => nI (B i)) n (nI i)) (fun _ _ => True) k () trivial ?_ ?_
  · intro n _ _
    have hv : vp_in (nI k) 13 := vp_in_nI (by omega) (by decide)
    refine br_f (nI_ge (b := 12) hk (by decide)) ⟨hv, ?_⟩
    rw [show (nI k).toNatClampNeg = k from nI_clamp (by omega)]
    dsimp only
    rw [hf]
    refine br_t rfl ⟨hv, ?_⟩
    intro T2 hT
    refine ⟨hv, ?_⟩
    intro A2 hA
    refine ⟨hv, ?_⟩
    intro B2 hB
    rw [ff_n1, ff_updT] at hT
    rw [ff_updI] at hA hB
    subst hT hA hB
    exact h
  · intro n i _ hi _ K
    refine br_f (nI_ge (b := 12) (by omega) (by decide)) ⟨vp_in_nI (by omega) (by decide), ?_⟩
    rw [show (nI i).toNatClampNeg = i from nI_clamp (by omega)]
    dsimp only
    rw [hl i hi]
    refine br_f (by decide) ?_
    intro w ew
    rw [ew, nI_1]
    exact K () trivial
theorem yw_add0 {post : Int32 → SY → Prop} {j : Nat} {T E H : Nat → Int32} {x y : Int32} (hj : j ≤ 6) (hx : ff_bad j x y) (h : post (-1) (nI j, T, E, H)) : wpY_add post (nI j, T, E, H) x y := by
  by_cases hxy : x = y
  · exact br_t hxy h
  · refine br_f hxy ?_
    by_cases h1 : x < 0 ∨ nI j ≤ x
    · exact yw_joint0 h1 (br_t rfl h)
    · rcases pk_ix x (n := j) (by omega) with z | z | ⟨a, ha, rfl⟩
      · exact absurd (Or.inl z) h1
      · exact absurd (Or.inr z) h1
      · refine yw_joint1 hj ha (br_f (by decide) ?_)
        rcases hx with hx | hx | hx
        · exact absurd hx hxy
        · exact absurd hx h1
        · exact yw_joint0 hx (br_t rfl h)
theorem yw_add1 {post : Int32 → SY → Prop} {j a b : Nat} {T E H : Nat → Int32} (hj : j ≤ 6) (ha : a < j) (hb : b < j) (hab : a ≠ b) (h : ∃ n, wY_add_25 post (nI a) (nI b) (nI j) T E H n 0) : wpY_add post (nI j, T, E, H) (nI a) (nI b) := by
  refine br_f (fun z => hab ((nI_eq (by omega) (by omega)).mp z)) ?_
  exact yw_joint1 hj ha (br_f (by decide) (yw_joint1 hj hb (br_f (by decide) h)))
theorem yw_remove0 {post : Int32 → SY → Prop} {j p : Nat} {E H : Nat → Int32} {x : Int32} (hx : ff_nobar p x) (h : post 0 (nI j, fun k => nI (p.testBit k).toNat, E, H)) : wpY_remove post (nI j, fun k => nI (p.testBit k).toNat, E, H) x := by
  by_cases h0 : x < 0
  · exact br_t h0 h
  · rcases hx with hx | hx | ⟨k, hk, rfl, hb⟩
    · exact absurd hx h0
    · have h11 : (11 : Int32) < x := by
        rw [Int32.lt_iff_toInt_lt]
        rw [Int32.le_iff_toInt_le, nI_toInt (by decide)] at hx
        have : (11 : Int32).toInt = 11 := by decide
        omega
      exact br_f h0 (br_t h11 h)
    · refine br_f h0 (br_f (nI_nlt (a := 11) (b := k) (by omega) (by decide)) ⟨vp_in_nI (by omega) (by decide), ?_⟩)
      rw [show (nI k).toNatClampNeg = k from nI_clamp (by omega)]
      dsimp only
      rw [hb]
      exact br_t rfl h
theorem yw_remove1 {post : Int32 → SY → Prop} {j p k : Nat} {E H : Nat → Int32} (hp : p < 4096) (hk : k < 12) (hb : p.testBit k = true) (h : post 1 (nI j, fun i => nI ((ff_rm p k).testBit i).toNat, E, H)) : wpY_remove post (nI j, fun i => nI (p.testBit i).toNat, E, H) (nI k) := by
  have hv : vp_in (nI k) 13 := vp_in_nI (by omega) (by decide)
  refine br_f (nI_pos (by omega)) (br_f (nI_nlt (a := 11) (b := k) (by omega) (by decide)) ⟨hv, ?_⟩)
  rw [show (nI k).toNatClampNeg = k from nI_clamp (by omega)]
  dsimp only
  rw [hb]
  refine br_f (by decide) ⟨hv, ?_⟩
  intro T2 hT
  rw [ff_n0, ff_updT0 hp] at hT
  subst hT
  exact h
