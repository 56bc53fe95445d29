def ff_hd (j : Nat) (e : Nat → Nat) (F a b : Nat) : Bool := decide (a < j) && (decide (b < j) && (!decide (a = b) && !ff_st j e F (2 ^ a ||| 2 ^ b)))
theorem ff_hd_sym (j : Nat) (e : Nat → Nat) (F a b : Nat) : ff_hd j e F a b = ff_hd j e F b a := by
  unfold ff_hd
  rw [Nat.or_comm (2 ^ a) (2 ^ b)]
  by_cases h : a = b
  · subst h; rfl
  · rw [decide_eq_false h, decide_eq_false (show ¬ b = a from fun z => h z.symm)]
    cases decide (a < j) <;> cases decide (b < j) <;> rfl
def ff_ht (h : Nat → Nat → Bool) (a : Nat) : Nat → Nat
  | 0 => 2 ^ a
  | b + 1 => if h a b = true then ff_ht h a b ||| 2 ^ b else ff_ht h a b
theorem ff_ht_s (h : Nat → Nat → Bool) (a b : Nat) : ff_ht h a (b + 1) = if h a b = true then ff_ht h a b ||| 2 ^ b else ff_ht h a b := rfl
theorem ff_ht_tb (h : Nat → Nat → Bool) (a n i : Nat) : (ff_ht h a n).testBit i = true ↔ a = i ∨ (i < n ∧ h a i = true) := by
  induction n with
  | zero =>
    show (2 ^ a).testBit i = true ↔ _
    rw [Nat.testBit_two_pow, decide_eq_true_eq]
    constructor
    · exact fun z => Or.inl z
    · intro z
      rcases z with z | z
      · exact z
      · omega
  | succ n ih =>
    rw [ff_ht_s]
    cases hb : h a n with
    | false =>
      rw [if_neg (by decide), ih]
      constructor
      · intro z
        rcases z with z | z
        · exact Or.inl z
        · exact Or.inr ⟨by omega, z.2⟩
      · intro z
        rcases z with z | ⟨z, y⟩
        · exact Or.inl z
        · rcases Nat.lt_or_ge i n with w | w
          · exact Or.inr ⟨w, y⟩
          · have e : i = n := by omega
            rw [e, hb] at y
            exact absurd y (by decide)
    | true =>
      rw [if_pos rfl, ff_or_tb, Bool.or_eq_true, decide_eq_true_eq, ih]
      constructor
      · intro z
        rcases z with (z | z) | z
        · exact Or.inl z
        · exact Or.inr ⟨by omega, z.2⟩
        · exact Or.inr ⟨by omega, by rw [← z]; exact hb⟩
      · intro z
        rcases z with z | ⟨z, y⟩
        · exact Or.inl (Or.inl z)
        · rcases Nat.lt_or_ge i n with w | w
          · exact Or.inl (Or.inr ⟨w, y⟩)
          · exact Or.inr (by omega)
theorem ff_ht_lt {h : Nat → Nat → Bool} {a n m : Nat} (ha : a < m) (hn : n ≤ m) : ff_ht h a n < 2 ^ m := ff_lt_of (fun i hi => by
  rw [ff_ht_tb] at hi
  omega)
def ff_ha (h : Nat → Nat → Bool) (j g : Nat) : Nat → Nat
  | 0 => 2 ^ j - 1
  | a + 1 => if g.testBit a = true then ff_ha h j g a &&& ff_ht h a j else ff_ha h j g a
theorem ff_ha_s (h : Nat → Nat → Bool) (j g a : Nat) : ff_ha h j g (a + 1) = if g.testBit a = true then ff_ha h j g a &&& ff_ht h a j else ff_ha h j g a := rfl
theorem ff_ha_tb (h : Nat → Nat → Bool) (j g n b : Nat) : (ff_ha h j g n).testBit b = true ↔ b < j ∧ ∀ a, a < n → g.testBit a = true → (a = b ∨ h a b = true) := by
  induction n with
  | zero =>
    show (2 ^ j - 1).testBit b = true ↔ _
    rw [Nat.testBit_two_pow_sub_one, decide_eq_true_eq]
    exact ⟨fun z => ⟨z, fun a ha => absurd ha (Nat.not_lt_zero _)⟩, fun z => z.1⟩
  | succ n ih =>
    rw [ff_ha_s]
    cases hb : g.testBit n with
    | false =>
      rw [if_neg (by decide), ih]
      constructor
      · intro ⟨z, y⟩
        refine ⟨z, fun a ha hg => ?_⟩
        rcases Nat.lt_or_ge a n with w | w
        · exact y a w hg
        · have e : a = n := by omega
          rw [e, hb] at hg
          exact absurd hg (by decide)
      · intro ⟨z, y⟩
        exact ⟨z, fun a ha hg => y a (by omega) hg⟩
    | true =>
      rw [if_pos rfl, Nat.testBit_and, Bool.and_eq_true, ih, ff_ht_tb]
      constructor
      · intro ⟨⟨z, y⟩, w⟩
        refine ⟨z, fun a ha hg => ?_⟩
        rcases Nat.lt_or_ge a n with x | x
        · exact y a x hg
        · have e : a = n := by omega
          rw [e]
          rcases w with w | w
          · exact Or.inl w
          · exact Or.inr w.2
      · intro ⟨z, y⟩
        refine ⟨⟨z, fun a ha hg => y a (by omega) hg⟩, ?_⟩
        rcases y n (by omega) hb with w | w
        · exact Or.inl w
        · exact Or.inr ⟨z, w⟩
theorem ff_ha_lt (h : Nat → Nat → Bool) (j g n : Nat) : ff_ha h j g n < 2 ^ j := ff_lt_of (fun i hi => by
  rw [ff_ha_tb] at hi
  exact hi.1)
def ff_bp (h : Nat → Nat → Bool) (g c : Nat) : Bool := !(decide (c / 6 < c % 6) && (g.testBit (c / 6) && g.testBit (c % 6))) || h (c / 6) (c % 6)
def ff_bd (h : Nat → Nat → Bool) (j g : Nat) : Bool := decide (g < 2 ^ j) && ff_all (ff_bp h g) 36
theorem ff_bd_iff {h : Nat → Nat → Bool} {j : Nat} (hj : j ≤ 6) (hs : ∀ a b, h a b = h b a) (g : Nat) : ff_bd h j g = true ↔ g < 2 ^ j ∧ ∀ a b, a ≠ b → g.testBit a = true → g.testBit b = true → h a b = true := by
  unfold ff_bd
  rw [Bool.and_eq_true, decide_eq_true_eq, ff_all_iff]
  constructor
  · intro ⟨z, y⟩
    refine ⟨z, ?_⟩
    have lt : ∀ a, g.testBit a = true → a < 6 := by
      intro a ha
      rcases Nat.lt_or_ge a j with w | w
      · omega
      · rw [ff_tb z w] at ha
        exact absurd ha (by decide)
    have k : ∀ a b, a < b → g.testBit a = true → g.testBit b = true → h a b = true := by
      intro a b hab ha hb
      have a6 := lt a ha
      have b6 := lt b hb
      have q := y (a * 6 + b) (by omega)
      have e1 : (a * 6 + b) / 6 = a := by omega
      have e2 : (a * 6 + b) % 6 = b := by omega
      unfold ff_bp at q
      rw [e1, e2, decide_eq_true hab, ha, hb] at q
      exact q
    intro a b hab ha hb
    rcases Nat.lt_or_ge a b with w | w
    · exact k a b w ha hb
    · rw [hs]
      exact k b a (by omega) hb ha
  · intro ⟨z, y⟩
    refine ⟨z, fun c hc => ?_⟩
    unfold ff_bp
    by_cases h1 : c / 6 < c % 6
    · cases h2 : g.testBit (c / 6) with
      | false => rw [Bool.false_and, Bool.and_false]; rfl
      | true =>
        cases h3 : g.testBit (c % 6) with
        | false => rw [Bool.and_false, Bool.and_false]; rfl
        | true => rw [y _ _ (by omega) h2 h3, Bool.or_true]
    · rw [decide_eq_false h1, Bool.false_and]; rfl
def ff_tp (h : Nat → Nat → Bool) (j g : Nat) : Bool := ff_bd h j g && ff_all (fun a => g.testBit a || !ff_bd h j (g ||| 2 ^ a)) j
theorem ff_tp_eq {h : Nat → Nat → Bool} {j : Nat} (hj : j ≤ 6) (hs : ∀ a b, h a b = h b a) {g : Nat} (hg : g < 2 ^ j) : ff_ha h j g j = g ↔ ff_tp h j g = true := by
  have lt : ∀ a, g.testBit a = true → a < j := by
    intro a ha
    rcases Nat.lt_or_ge a j with w | w
    · exact w
    · rw [ff_tb hg w] at ha
      exact absurd ha (by decide)
  unfold ff_tp
  rw [Bool.and_eq_true, ff_all_iff, ff_bd_iff hj hs]
  constructor
  · intro H
    have key : ∀ b, g.testBit b = true ↔ b < j ∧ ∀ a, a < j → g.testBit a = true → (a = b ∨ h a b = true) := by
      intro b
      rw [← ff_ha_tb, H]
    refine ⟨⟨hg, fun a b hab ha hb => ?_⟩, fun b hb => ?_⟩
    · rcases ((key b).mp hb).2 a (lt a ha) ha with z | z
      · exact absurd z hab
      · exact z
    · cases z : g.testBit b with
      | true => rfl
      | false =>
        rw [Bool.false_or]
        cases y : ff_bd h j (g ||| 2 ^ b) with
        | false => rfl
        | true =>
          rw [ff_bd_iff hj hs] at y
          have w : g.testBit b = true := (key b).mpr ⟨hb, fun a ha hga => by
            by_cases hab : a = b
            · exact Or.inl hab
            · refine Or.inr (y.2 a b hab ?_ ?_)
              · rw [ff_or_tb, hga, Bool.true_or]
              · rw [ff_or_tb, decide_eq_true (rfl : b = b), Bool.or_true]⟩
          rw [w] at z
          exact absurd z (by decide)
  · intro ⟨⟨_, H1⟩, H2⟩
    apply Nat.eq_of_testBit_eq
    intro b
    rw [Bool.eq_iff_iff, ff_ha_tb]
    constructor
    · intro ⟨hb, H3⟩
      cases z : g.testBit b with
      | true => rfl
      | false =>
        have y := H2 b hb
        rw [z, Bool.false_or, Bool.not_eq_true'] at y
        have w : ff_bd h j (g ||| 2 ^ b) = true := by
          rw [ff_bd_iff hj hs]
          refine ⟨ff_or_lt hg hb, fun c d hcd hc hd => ?_⟩
          rw [ff_or_tb, Bool.or_eq_true, decide_eq_true_eq] at hc hd
          rcases hc with hc | hc
          · rcases hd with hd | hd
            · exact H1 c d hcd hc hd
            · rw [← hd]
              rcases H3 c (lt c hc) hc with x | x
              · omega
              · exact x
          · rcases hd with hd | hd
            · rw [← hc, hs]
              rcases H3 d (lt d hd) hd with x | x
              · omega
              · exact x
            · omega
        rw [w] at y
        exact absurd y (by decide)
    · intro hb
      refine ⟨lt b hb, fun a ha hga => ?_⟩
      by_cases hab : a = b
      · exact Or.inl hab
      · exact Or.inr (H1 a b hab hga hb)
