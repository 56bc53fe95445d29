def ff_up (A : Nat → Nat) (i x : Nat) : Nat → Nat := fun k => if k = i then x else A k
theorem ff_updI (A : Nat → Nat) (i x : Nat) : upd (fun k => nI (A k)) i (nI x) = fun k => nI (ff_up A i x k) := by
  funext k
  unfold upd ff_up
  by_cases h : k = i
  · rw [if_pos h, if_pos h]
  · rw [if_neg h, if_neg h]
theorem ff_OkU {j p : Nat} {e A B : Nat → Nat} (O : ff_Ok j p e A B) {a b : Nat} (ha : a < 6) (hb : b < 6) : ff_Ok j p e (ff_up A 12 a) (ff_up B 12 b) := by
  have O' := O
  obtain ⟨h1, h2, h3, h4, h5, h6, h7⟩ := O
  refine ⟨h1, h2, h3, h4, fun k => ?_, fun k => ?_, fun k hk => ?_⟩
  · unfold ff_up
    split
    · exact ha
    · exact h5 k
  · unfold ff_up
    split
    · exact hb
    · exact h6 k
  · have hk2 := (ff_sub O' hk).1
    unfold ff_up
    rw [if_neg (by omega), if_neg (by omega)]
    exact h7 k hk
theorem yw_held0 {post : Int32 → SY → Prop} {j : Nat} {T E H : Nat → Int32} {x y : Int32} (hj : j ≤ 6) (hx : ff_bad j x y) (h : post 0 (nI j, T, E, H)) : wpY_held post (nI j, T, E, H) x y := by
  by_cases hxy : x = y
  · exact br_t hxy h
  · refine br_f hxy ?_
    by_cases h1 : x < 0 ∨ nI j ≤ x
    · exact yw_joint0 h1 (br_t rfl h)
    · rcases pk_ix x (n := j) (by omega) with z | z | ⟨a, ha, rfl⟩
      · exact absurd (Or.inl z) h1
      · exact absurd (Or.inr z) h1
      · refine yw_joint1 hj ha (br_f (by decide) ?_)
        rcases hx with hx | hx | hx
        · exact absurd hx hxy
        · exact absurd hx h1
        · exact yw_joint0 hx (br_t rfl h)
theorem yw_held1 {post : Int32 → SY → Prop} {j p : Nat} {e A B : Nat → Nat} {a b : Nat} (O : ff_Ok j p e A B) (ha : a < j) (hb : b < j) (hab : a ≠ b) (h : post (nI (ff_hd j e (ff_fr j e p 12) a b).toNat) (nI j, fun k => nI (p.testBit k).toNat, fun k => nI (ff_up A 12 a k), fun k => nI (ff_up B 12 b k))) : wpY_held post (nI j, fun k => nI (p.testBit k).toNat, fun k => nI (A k), fun k => nI (B k)) (nI a) (nI b) := by
  have hj := O.2.1
  have hp := O.2.2.1
  have O2 := ff_OkU O (a := a) (b := b) (by omega) (by omega)
  have hn : ff_up A 12 a 12 = a := if_pos rfl
  have hm : ff_up B 12 b 12 = b := if_pos rfl
  have H := ff_held O2 (by rw [hn, hm]; exact hab)
  rw [hn, hm] at H
  rw [ff_hd_ne ha hb hab] at h
  have c1 := ff_cn_le (ff_tk j (ff_up A 12 a) (ff_up B 12 b) (p ||| 4096) 13).testBit 13
  have c2 := ff_cn_le (ff_tk j (ff_up A 12 a) (ff_up B 12 b) p 13).testBit 13
  have hor : p ||| 4096 < 2 ^ 13 := Nat.or_lt_two_pow (by omega) (by decide)
  refine br_f (fun z => hab ((nI_eq (by omega) (by omega)).mp z)) ?_
  refine yw_joint1 hj ha (br_f (by decide) (yw_joint1 hj hb (br_f (by decide) ?_)))
  intro as' eas bs' ebs
  rw [ff_updI] at eas ebs
  subst eas ebs
  refine yw_bars hp ?_
  rw [show (4096 : Int32) = nI 4096 from rfl, nx_or]
  refine yw_rankOf hj O2.2.2.2.2.1 O2.2.2.2.2.2.1 (by omega) (yw_rankOf hj O2.2.2.2.2.1 O2.2.2.2.2.2.1 (by omega) ?_)
  refine pk_eq _ _ (fun z => ?_) (fun z => ?_) rfl rfl (by omega) (by omega)
  · rw [H.mp z] at h
    exact h
  · cases q : ff_st j e (ff_fr j e p 12) (2 ^ a ||| 2 ^ b) with
    | false => exact absurd (H.mpr q) z
    | true =>
      rw [q] at h
      exact h
theorem yw_heldA {post : Int32 → SY → Prop} {j p : Nat} {e A B : Nat → Nat} {a b : Nat} (O : ff_Ok j p e A B) (ha : a < j) (hb : b < j) (h : ∀ A' B' : Nat → Nat, ff_Ok j p e A' B' → post (nI (ff_hd j e (ff_fr j e p 12) a b).toNat) (nI j, fun k => nI (p.testBit k).toNat, fun k => nI (A' k), fun k => nI (B' k))) : wpY_held post (nI j, fun k => nI (p.testBit k).toNat, fun k => nI (A k), fun k => nI (B k)) (nI a) (nI b) := by
  have hj := O.2.1
  by_cases hab : a = b
  · subst hab
    refine yw_held0 hj (Or.inl rfl) ?_
    have q := h A B O
    rw [ff_hd_self] at q
    exact q
  · exact yw_held1 O ha hb hab (h _ _ (ff_OkU O (by omega) (by omega)))
theorem yw_heldTo {post : Int32 → SY → Prop} {j p : Nat} {e A B : Nat → Nat} {a : Nat} (O : ff_Ok j p e A B) (ha : a < j) (h : ∀ A' B' : Nat → Nat, ff_Ok j p e A' B' → post (nI (ff_ht (ff_hd j e (ff_fr j e p 12)) a j)) (nI j, fun k => nI (p.testBit k).toNat, fun k => nI (A' k), fun k => nI (B' k))) : wpY_heldTo post (nI j, fun k => nI (p.testBit k).toNat, fun k => nI (A k), fun k => nI (B k)) (nI a) := by
  have hj := O.2.1
  unfold wpY_heldTo
  dsimp only
  refine yw_joint1 hj ha ?_
  refine br_f (by decide) ?_
  intro x ex
  rw [ex, ff_shl a (by omega)]
  refine loop_0 (fun n i (t : Int32 × (Nat → Nat) × (Nat → Nat)) => wY_heldTo_18 post (nI a) n t.1 (nI i) (nI j) (fun k => nI (p.testBit k).toNat) (fun k => nI (t.2.1 k)) (fun k => nI (t.2.2 k))) (fun i t => t.1 = nI (ff_ht (ff_hd j e (ff_fr j e p 12)) a i) ∧ ff_Ok j p e t.2.1 t.2.2) j (nI (2 ^ a), A, B) ⟨rfl, O⟩ ?_ ?_
  · intro n t ht
    obtain ⟨t1, A', B'⟩ := t
    obtain ⟨h1, h2⟩ := ht
    dsimp only at h1 h2
    subst h1
    exact br_t (Int32.le_refl _) (h _ _ h2)
  · intro n i t hi ht k
    obtain ⟨t1, A', B'⟩ := t
    obtain ⟨h1, h2⟩ := ht
    dsimp only at h1 h2
    subst h1
    refine br_f (nI_ge hi (by omega)) (yw_joint1 hj ha (br_f (by decide) ?_))
    refine yw_heldA h2 ha hi (fun A2 B2 O2 => ff_br0 (fun hb => ?_) (fun hb => ?_))
    · intro y ey
      rw [ey, nI_1]
      refine k (_, A2, B2) ⟨?_, O2⟩
      rw [ff_ht_s, hb, if_neg (by decide)]
    · intro x ex y ey
      rw [ex, ey, nI_1, ff_shl i (by omega), nx_or]
      refine k (_, A2, B2) ⟨?_, O2⟩
      rw [ff_ht_s, hb, if_pos rfl]
      rfl
theorem ff_tblt {g j a : Nat} (hg : g < 2 ^ j) (h : g.testBit a = true) : a < j := by
  rcases Nat.lt_or_ge a j with w | w
  · exact w
  · rw [ff_tb hg w] at h
    exact absurd h (by decide)
theorem yw_body {post : Int32 → SY → Prop} {j p : Nat} {e A B : Nat → Nat} {g : Nat} (O : ff_Ok j p e A B) (hg : g < 2 ^ j) (h : ∀ A' B' : Nat → Nat, ff_Ok j p e A' B' → post (nI (ff_bd (ff_hd j e (ff_fr j e p 12)) j g).toNat) (nI j, fun k => nI (p.testBit k).toNat, fun k => nI (A' k), fun k => nI (B' k))) : wpY_body post (nI j, fun k => nI (p.testBit k).toNat, fun k => nI (A k), fun k => nI (B k)) (nI g) := by
  have hj := O.2.1
  have h31 := ff_j31 hj
  have hbd : ff_bd (ff_hd j e (ff_fr j e p 12)) j g = ff_all (ff_bp (ff_hd j e (ff_fr j e p 12)) g) 36 := by
    unfold ff_bd
    rw [decide_eq_true hg, Bool.true_and]
  rw [hbd] at h
  refine br_f (ff_nend hj hg) ?_
  refine loop_0 (fun n i (t : Int32 × (Nat → Nat) × (Nat → Nat)) => wY_body_18 post (nI g) n t.1 (nI i) (nI j) (fun k => nI (p.testBit k).toNat) (fun k => nI (t.2.1 k)) (fun k => nI (t.2.2 k))) (fun i t => t.1 = nI (ff_all (ff_bp (ff_hd j e (ff_fr j e p 12)) g) i).toNat ∧ ff_Ok j p e t.2.1 t.2.2) 36 (1, A, B) ⟨rfl, O⟩ ?_ ?_
  · intro n t ht
    obtain ⟨t1, A', B'⟩ := t
    obtain ⟨h1, h2⟩ := ht
    dsimp only at h1 h2
    subst h1
    exact br_t (by decide) ⟨ff_nb _, h _ _ h2⟩
  · intro n i t hi ht k
    obtain ⟨t1, A', B'⟩ := t
    obtain ⟨h1, h2⟩ := ht
    dsimp only at h1 h2
    subst h1
    refine br_f (nI_ge (b := 36) hi (by decide)) (ff_br0 (fun hb => ⟨ff_nb _, ?_⟩) (fun hb => ⟨by decide, ?_⟩))
    · have e1 := ff_all_le (n := 36) (by omega) hb
      have q := h _ _ h2
      rw [e1] at q
      rw [hb]
      exact q
    · intro x4 ex4
      refine ⟨by decide, ?_⟩
      intro x5 ex5
      rw [show (6 : Int32) = nI 6 from rfl, pk_div (by omega) (by decide) (by decide)] at ex4
      rw [show (6 : Int32) = nI 6 from rfl, pk_rem (by omega) (by decide) (by decide)] at ex5
      subst ex4 ex5
      have no : ff_bp (ff_hd j e (ff_fr j e p 12)) g i = true → wY_body_71 post (wY_body_18 post (nI g) n) (nI g) (nI i) (nI (i / 6)) (nI (i % 6)) (nI j) (fun k => nI (p.testBit k).toNat) (fun k => nI (A' k)) (fun k => nI (B' k)) := by
        intro hq
        refine br_t rfl ?_
        intro y ey
        rw [ey, nI_1]
        refine k (_, A', B') ⟨?_, h2⟩
        rw [ff_all_s, hb, hq]
        rfl
      refine pk_le (i % 6) (i / 6) (fun z => no ?_) (fun z => ?_)
      · unfold ff_bp
        rw [decide_eq_false (by omega), Bool.false_and]
        rfl
      · rw [ff_bit (by omega) (by omega)]
        refine ff_br1 (fun hc => ?_) (fun hc => no ?_)
        · rw [ff_bit (by omega) (by omega)]
          refine ff_br1 (fun hd => ?_) (fun hd => no ?_)
          · refine br_f (by decide) (yw_heldA h2 (ff_tblt hg hc) (ff_tblt hg hd) (fun A2 B2 O2 => ff_br0 (fun hh => ?_) (fun hh => ?_)))
            · intro y ey
              rw [ey, nI_1]
              refine k (_, A2, B2) ⟨?_, O2⟩
              rw [ff_all_s, hb]
              unfold ff_bp
              rw [decide_eq_true z, hc, hd, hh]
              rfl
            · intro y ey
              rw [ey, nI_1]
              refine k (_, A2, B2) ⟨?_, O2⟩
              rw [ff_all_s, hb]
              unfold ff_bp
              rw [hh, Bool.or_true]
              rfl
          · unfold ff_bp
            rw [hd, Bool.and_false, Bool.and_false]
            rfl
        · unfold ff_bp
          rw [hc, Bool.false_and, Bool.and_false]
          rfl
def ff_mx (h : Nat → Nat → Bool) (j g a : Nat) : Bool := g.testBit a || !ff_bd h j (g ||| 2 ^ a)
theorem yw_top {post : Int32 → SY → Prop} {J : Int32 → Int32 → Int32 → (Nat → Int32) → (Nat → Int32) → (Nat → Int32) → Prop} {j p : Nat} {e A B : Nat → Nat} {g : Nat} {c : Int32} (O : ff_Ok j p e A B) (hg : g < 2 ^ j) (h : ∀ A' B' : Nat → Nat, ff_Ok j p e A' B' → wY_bodies_88 post J c (nI g) (nI (ff_all (ff_mx (ff_hd j e (ff_fr j e p 12)) j g) j).toNat) (nI j) (fun k => nI (p.testBit k).toNat) (fun k => nI (A' k)) (fun k => nI (B' k))) : ∃ n, wY_bodies_40 post J c (nI g) n 1 0 (nI j) (fun k => nI (p.testBit k).toNat) (fun k => nI (A k)) (fun k => nI (B k)) := by
  have hj := O.2.1
  have h31 := ff_j31 hj
  refine loop_0 (fun n i (t : Int32 × (Nat → Nat) × (Nat → Nat)) => wY_bodies_40 post J c (nI g) n t.1 (nI i) (nI j) (fun k => nI (p.testBit k).toNat) (fun k => nI (t.2.1 k)) (fun k => nI (t.2.2 k))) (fun i t => t.1 = nI (ff_all (ff_mx (ff_hd j e (ff_fr j e p 12)) j g) i).toNat ∧ ff_Ok j p e t.2.1 t.2.2) j (1, A, B) ⟨rfl, O⟩ ?_ ?_
  · intro n t ht
    obtain ⟨t1, A', B'⟩ := t
    obtain ⟨h1, h2⟩ := ht
    dsimp only at h1 h2
    subst h1
    exact br_t (Int32.le_refl _) (h _ _ h2)
  · intro n i t hi ht k
    obtain ⟨t1, A', B'⟩ := t
    obtain ⟨h1, h2⟩ := ht
    dsimp only at h1 h2
    subst h1
    refine br_f (nI_ge hi (by omega)) (ff_br0 (fun hb => ?_) (fun hb => ?_))
    · have e1 := ff_all_le (Nat.le_of_lt hi) hb
      have q := h _ _ h2
      rw [e1] at q
      rw [hb]
      exact q
    · rw [ff_bit (by omega) (by omega)]
      refine ff_br1 (fun hc => ?_) (fun hc => ?_)
      · intro y ey
        rw [ey, nI_1]
        refine k (_, A', B') ⟨?_, h2⟩
        rw [ff_all_s, hb]
        unfold ff_mx
        rw [hc]
        rfl
      · rw [ff_shl i (by omega), nx_or]
        refine yw_body h2 (ff_or_lt hg hi) (fun A2 B2 O2 => ff_br0 (fun hh => ?_) (fun hh => ?_))
        · intro y ey
          rw [ey, nI_1]
          refine k (_, A2, B2) ⟨?_, O2⟩
          rw [ff_all_s, hb]
          unfold ff_mx
          rw [hc, hh]
          rfl
        · intro y ey
          rw [ey, nI_1]
          refine k (_, A2, B2) ⟨?_, O2⟩
          rw [ff_all_s, hb]
          unfold ff_mx
          rw [hc, hh]
          rfl
def ff_bY (h : Nat → Nat → Bool) (j g : Nat) : Bool := decide (3 ≤ ff_cn g.testBit 13) && ff_tp h j g
theorem yw_bodies {post : Int32 → SY → Prop} {j p : Nat} {e A B : Nat → Nat} (O : ff_Ok j p e A B) (h : ∀ A' B' : Nat → Nat, ff_Ok j p e A' B' → post (nI (ff_cn (ff_bY (ff_hd j e (ff_fr j e p 12)) j) (2 ^ j))) (nI j, fun k => nI (p.testBit k).toNat, fun k => nI (A' k), fun k => nI (B' k))) : wpY_bodies post (nI j, fun k => nI (p.testBit k).toNat, fun k => nI (A k), fun k => nI (B k)) := by
  have hj2 := O.1
  have hj := O.2.1
  have h31 := ff_j31 hj
  refine loop_0 (fun n i (t : Int32 × (Nat → Nat) × (Nat → Nat)) => wY_bodies_4 post n t.1 (nI i) (nI j) (fun k => nI (p.testBit k).toNat) (fun k => nI (t.2.1 k)) (fun k => nI (t.2.2 k))) (fun i t => t.1 = nI (ff_cn (ff_bY (ff_hd j e (ff_fr j e p 12)) j) i) ∧ ff_Ok j p e t.2.1 t.2.2) (2 ^ j) (0, A, B) ⟨rfl, O⟩ ?_ ?_
  · intro n t ht
    obtain ⟨t1, A', B'⟩ := t
    obtain ⟨h1, h2⟩ := ht
    dsimp only at h1 h2
    subst h1
    exact br_t (ff_end hj) (h _ _ h2)
  · intro n i t hi ht k
    obtain ⟨t1, A', B'⟩ := t
    obtain ⟨h1, h2⟩ := ht
    dsimp only at h1 h2
    subst h1
    have c13 := ff_cn_le i.testBit 13
    have no : ∀ A2 B2 : Nat → Nat, ff_Ok j p e A2 B2 → ff_bY (ff_hd j e (ff_fr j e p 12)) j i = false → ∃ n40, wY_bodies_40 post (wY_bodies_4 post n) (nI (ff_cn (ff_bY (ff_hd j e (ff_fr j e p 12)) j) i)) (nI i) n40 0 0 (nI j) (fun k => nI (p.testBit k).toNat) (fun k => nI (A2 k)) (fun k => nI (B2 k)) := by
      intro A2 B2 O2 hq
      refine ⟨1, br_f (nI_ge (a := 0) (b := j) (by omega) (by omega)) (br_t rfl (br_t rfl ?_))⟩
      intro y ey
      rw [ey, nI_1]
      refine k (_, A2, B2) ⟨?_, O2⟩
      rw [ff_cn_s, hq]
      rfl
    refine br_f (ff_nend hj hi) (yw_count (by omega) (pk_lt (ff_cn i.testBit 13) 3 (fun z => no A' B' h2 ?_) (fun z => ?_) rfl rfl (by omega) (by decide)))
    · unfold ff_bY
      rw [decide_eq_false (by omega), Bool.false_and]
    · refine yw_body h2 hi (fun A2 B2 O2 => ff_br0 (fun hb => no A2 B2 O2 ?_) (fun hb => yw_top O2 hi (fun A3 B3 O3 => ff_br0 (fun hc => ?_) (fun hc => ?_))))
      · unfold ff_bY ff_tp
        rw [hb, Bool.false_and, Bool.and_false]
      · intro y ey
        rw [ey, nI_1]
        refine k (_, A3, B3) ⟨?_, O3⟩
        have q : ff_bY (ff_hd j e (ff_fr j e p 12)) j i = false := by
          have q2 : ff_tp (ff_hd j e (ff_fr j e p 12)) j i = (ff_bd (ff_hd j e (ff_fr j e p 12)) j i && ff_all (ff_mx (ff_hd j e (ff_fr j e p 12)) j i) j) := rfl
          unfold ff_bY
          rw [q2, hc, Bool.and_false, Bool.and_false]
        rw [ff_cn_s, q]
        rfl
      · intro x ex y ey
        rw [ex, ey, nI_1, nI_1]
        refine k (_, A3, B3) ⟨?_, O3⟩
        have q : ff_bY (ff_hd j e (ff_fr j e p 12)) j i = true := by
          have q2 : ff_tp (ff_hd j e (ff_fr j e p 12)) j i = (ff_bd (ff_hd j e (ff_fr j e p 12)) j i && ff_all (ff_mx (ff_hd j e (ff_fr j e p 12)) j i) j) := rfl
          unfold ff_bY
          rw [q2, hb, hc, decide_eq_true z]
          rfl
        rw [ff_cn_s, q]
        rfl
theorem ff_bodies_eq {j : Nat} (e : Nat → Nat) (F : Nat) (hj : j ≤ 6) : ff_cn (ff_bY (ff_hd j e F) j) (2 ^ j) = ff_cn (ff_bX (ff_hd j e F) j) (2 ^ j) := by
  have h64 := ff_j64 hj
  apply ff_cn_congr
  intro g hg
  unfold ff_bY ff_bX
  rw [ff_sz13 (g := g) (by omega)]
  have q : ff_tp (ff_hd j e F) j g = (ff_ha (ff_hd j e F) j g j == g) := by
    rw [Bool.eq_iff_iff, beq_iff_eq]
    exact (ff_tp_eq hj (ff_hd_sym j e F) hg).symm
  rw [q]
