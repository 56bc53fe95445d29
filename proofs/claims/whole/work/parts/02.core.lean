def ff_cn (p : Nat → Bool) : Nat → Nat
  | 0 => 0
  | n + 1 => ff_cn p n + (p n).toNat
theorem ff_cn_s (p : Nat → Bool) (n : Nat) : ff_cn p (n + 1) = ff_cn p n + (p n).toNat := rfl
theorem ff_cn_le (p : Nat → Bool) (n : Nat) : ff_cn p n ≤ n := by
  induction n with
  | zero => exact Nat.le_refl 0
  | succ n ih =>
    have h : (p n).toNat ≤ 1 := Bool.toNat_le _
    rw [ff_cn_s]
    omega
theorem ff_cn_congr {p q : Nat → Bool} (n : Nat) (h : ∀ k, k < n → p k = q k) : ff_cn p n = ff_cn q n := by
  induction n with
  | zero => rfl
  | succ n ih => rw [ff_cn_s, ff_cn_s, ih (fun k hk => h k (by omega)), h n (by omega)]
theorem ff_cn_mono {p q : Nat → Bool} (n : Nat) (h : ∀ k, k < n → p k = true → q k = true) : ff_cn p n ≤ ff_cn q n := by
  induction n with
  | zero => exact Nat.le_refl _
  | succ n ih =>
    rw [ff_cn_s, ff_cn_s]
    have h1 := ih (fun k hk => h k (by omega))
    have h2 : (p n).toNat ≤ (q n).toNat := by
      cases hp : p n with
      | false => exact Nat.zero_le _
      | true => rw [h n (by omega) hp]; exact Nat.le_refl _
    omega
theorem ff_cn_zero {p : Nat → Bool} (n : Nat) (h : ∀ k, k < n → p k = false) : ff_cn p n = 0 := by
  induction n with
  | zero => rfl
  | succ n ih => rw [ff_cn_s, ih (fun k hk => h k (by omega)), h n (by omega)]; rfl
theorem ff_cn_ins {p q : Nat → Bool} {i : Nat} (b : Bool) (hp : p i = false) (hq : q i = b) (h : ∀ k, k ≠ i → q k = p k) (n : Nat) (hi : i < n) : ff_cn q n = ff_cn p n + b.toNat := by
  induction n with
  | zero => omega
  | succ n ih =>
    rw [ff_cn_s, ff_cn_s]
    rcases Nat.lt_or_ge i n with z | z
    · rw [ih z, h n (by omega)]
      omega
    · have e : i = n := by omega
      subst e
      rw [ff_cn_congr i (fun k hk => h k (by omega)), hp, hq]
      rfl
def ff_all (p : Nat → Bool) : Nat → Bool
  | 0 => true
  | n + 1 => ff_all p n && p n
theorem ff_all_s (p : Nat → Bool) (n : Nat) : ff_all p (n + 1) = (ff_all p n && p n) := rfl
theorem ff_all_iff {p : Nat → Bool} (n : Nat) : ff_all p n = true ↔ ∀ i, i < n → p i = true := by
  induction n with
  | zero => exact ⟨fun _ _ h => absurd h (Nat.not_lt_zero _), fun _ => rfl⟩
  | succ n ih =>
    rw [ff_all_s, Bool.and_eq_true, ih]
    constructor
    · intro ⟨a, b⟩ i hi
      rcases Nat.lt_or_ge i n with h | h
      · exact a i h
      · have e : i = n := by omega
        rw [e]
        exact b
    · intro h
      exact ⟨fun i hi => h i (by omega), h n (by omega)⟩
theorem ff_all_f {p : Nat → Bool} {n i : Nat} (hi : i < n) (h : p i = false) : ff_all p n = false := by
  cases z : ff_all p n with
  | false => rfl
  | true => exact absurd ((ff_all_iff n).mp z i hi) (by rw [h]; decide)
theorem ff_all_congr {p q : Nat → Bool} (n : Nat) (h : ∀ k, k < n → p k = q k) : ff_all p n = ff_all q n := by
  induction n with
  | zero => rfl
  | succ n ih => rw [ff_all_s, ff_all_s, ih (fun k hk => h k (by omega)), h n (by omega)]
def ff_sz (g : Nat) : Nat := ff_cn g.testBit 12
theorem ff_sz13 {g : Nat} (h : g < 4096) : ff_cn g.testBit 13 = ff_sz g := by
  rw [ff_cn_s, ff_tb (n := 12) h (Nat.le_refl _)]
  rfl
def ff_inX (e : Nat → Nat) (s g : Nat) : Nat := ff_cn (fun k => s.testBit k && (e k &&& g == e k)) 12
def ff_inY (A B : Nat → Nat) (s g : Nat) : Nat := ff_cn (fun k => s.testBit k && (g.testBit (A k) && g.testBit (B k))) 13
def ff_okX (e : Nat → Nat) (s q g : Nat) : Bool := !(g &&& q == q) || decide (ff_inX e s g + 4 ≤ 2 * ff_sz g)
def ff_st (j : Nat) (e : Nat → Nat) (s q : Nat) : Bool := ff_all (ff_okX e s q) (2 ^ j)
def ff_okY (A B : Nat → Nat) (s g : Nat) : Bool := decide (ff_cn g.testBit 13 < 2) || decide (ff_inY A B s g + 3 ≤ 2 * ff_cn g.testBit 13)
def ff_lo (j : Nat) (A B : Nat → Nat) (s : Nat) : Bool := ff_all (ff_okY A B s) (2 ^ j)
def ff_fr (j : Nat) (e : Nat → Nat) (s : Nat) : Nat → Nat
  | 0 => 0
  | k + 1 => if (s.testBit k && ff_st j e (ff_fr j e s k) (e k)) = true then ff_fr j e s k ||| 2 ^ k else ff_fr j e s k
theorem ff_fr_s (j : Nat) (e : Nat → Nat) (s k : Nat) : ff_fr j e s (k + 1) = if (s.testBit k && ff_st j e (ff_fr j e s k) (e k)) = true then ff_fr j e s k ||| 2 ^ k else ff_fr j e s k := rfl
def ff_tk (j : Nat) (A B : Nat → Nat) (s : Nat) : Nat → Nat
  | 0 => 0
  | k + 1 => if (s.testBit k && ff_lo j A B (ff_tk j A B s k ||| 2 ^ k)) = true then ff_tk j A B s k ||| 2 ^ k else ff_tk j A B s k
theorem ff_tk_s (j : Nat) (A B : Nat → Nat) (s k : Nat) : ff_tk j A B s (k + 1) = if (s.testBit k && ff_lo j A B (ff_tk j A B s k ||| 2 ^ k)) = true then ff_tk j A B s k ||| 2 ^ k else ff_tk j A B s k := rfl
def ff_Ok (j p : Nat) (e A B : Nat → Nat) : Prop := 2 ≤ j ∧ j ≤ 6 ∧ p < 4096 ∧ (∀ k, e k < 64) ∧ (∀ k, A k < 6) ∧ (∀ k, B k < 6) ∧ (∀ k, p.testBit k = true → A k < j ∧ B k < j ∧ A k ≠ B k ∧ e k = 2 ^ A k ||| 2 ^ B k)
theorem ff_pair : ∀ a, a < 6 → ∀ b, b < 6 → ∀ g, g < 64 → (g &&& (2 ^ a ||| 2 ^ b) == (2 ^ a ||| 2 ^ b)) = (g.testBit a && g.testBit b) := by decide +kernel
theorem ff_two0 : ∀ a, a < 6 → ∀ b, b < 6 → ∀ g, g < 64 → (decide (a = b) || (!(g.testBit a && g.testBit b) || decide (2 ≤ ff_sz g))) = true := by decide +kernel
theorem ff_two (a : Nat) (ha : a < 6) (b : Nat) (hb : b < 6) (g : Nat) (hg : g < 64) (hab : a ≠ b) (h1 : g.testBit a = true) (h2 : g.testBit b = true) : 2 ≤ ff_sz g := by
  have h := ff_two0 a ha b hb g hg
  rw [decide_eq_false hab, h1, h2] at h
  exact of_decide_eq_true h
theorem ff_j64 {j : Nat} (h : j ≤ 6) : 2 ^ j ≤ 64 := Nat.pow_le_pow_right (n := 2) (by decide) h
theorem ff_in {j p : Nat} {e A B : Nat → Nat} (O : ff_Ok j p e A B) {s : Nat} (hs : ∀ k, k < 12 → s.testBit k = true → p.testBit k = true) (h12 : s.testBit 12 = false) {g : Nat} (hg : g < 64) : ff_inY A B s g = ff_inX e s g := by
  obtain ⟨_, _, _, _, hA, hB, hp⟩ := O
  unfold ff_inY ff_inX
  rw [ff_cn_s, h12, Bool.false_and]
  show ff_cn _ 12 + 0 = _
  rw [Nat.add_zero]
  apply ff_cn_congr
  intro k hk
  cases hb : s.testBit k with
  | false => rfl
  | true =>
    obtain ⟨_, _, _, he⟩ := hp k (hs k hk hb)
    rw [Bool.true_and, Bool.true_and, he, Nat.and_comm (2 ^ A k ||| 2 ^ B k) g, ff_pair _ (hA k) _ (hB k) g hg]
theorem ff_inAdd (A B : Nat → Nat) {s k : Nat} (hk : k < 13) (hs : s.testBit k = false) (g : Nat) : ff_inY A B (s ||| 2 ^ k) g = ff_inY A B s g + (g.testBit (A k) && g.testBit (B k)).toNat := by
  unfold ff_inY
  refine ff_cn_ins (i := k) _ ?_ ?_ ?_ 13 hk
  · rw [hs, Bool.false_and]
  · rw [ff_or_tb, hs, decide_eq_true (rfl : k = k), Bool.false_or, Bool.true_and]
  · intro i hi
    rw [ff_or_tb, decide_eq_false (fun z => hi z.symm), Bool.or_false]
theorem ff_lo_mono {j : Nat} {A B : Nat → Nat} {s t : Nat} (h : ∀ i, s.testBit i = true → t.testBit i = true) (ht : ff_lo j A B t = true) : ff_lo j A B s = true := by
  unfold ff_lo at ht ⊢
  rw [ff_all_iff] at ht ⊢
  intro g hg
  have h1 := ht g hg
  have h2 : ff_inY A B s g ≤ ff_inY A B t g := by
    unfold ff_inY
    apply ff_cn_mono
    intro k hk hb
    rw [Bool.and_eq_true] at hb ⊢
    exact ⟨h k hb.1, hb.2⟩
  unfold ff_okY at h1 ⊢
  simp only [Bool.or_eq_true, decide_eq_true_eq] at h1 ⊢
  omega
theorem ff_step {j p : Nat} {e A B : Nat → Nat} (O : ff_Ok j p e A B) {s k : Nat} (hs : ∀ i, s.testBit i = true → i < 12 ∧ p.testBit i = true) (hl : ff_lo j A B s = true) (hk : k < 13) (hn : s.testBit k = false) (hab : A k ≠ B k) : ff_lo j A B (s ||| 2 ^ k) = ff_st j e s (2 ^ A k ||| 2 ^ B k) := by
  have h12 : s.testBit 12 = false := by
    cases hb : s.testBit 12 with
    | false => rfl
    | true => exact absurd (hs 12 hb).1 (by omega)
  have hA := O.2.2.2.2.1 k
  have hB := O.2.2.2.2.2.1 k
  have hj := ff_j64 O.2.1
  unfold ff_lo at hl ⊢
  unfold ff_st
  rw [ff_all_iff] at hl
  apply ff_all_congr
  intro g hg
  have h1 := hl g hg
  have hg6 : g < 64 := by omega
  have hin := ff_in O (s := s) (fun i _ hi => (hs i hi).2) h12 hg6
  have hz := ff_sz13 (g := g) (by omega)
  unfold ff_okY at h1 ⊢
  unfold ff_okX
  rw [hz, hin] at h1
  rw [ff_inAdd A B hk hn, ff_pair _ hA _ hB g hg6, hz, hin]
  cases hb : (g.testBit (A k) && g.testBit (B k)) with
  | false =>
    rw [Bool.not_false, Bool.true_or]
    exact h1
  | true =>
    rw [Bool.and_eq_true] at hb
    have h2 := ff_two _ hA _ hB g hg6 hab hb.1 hb.2
    rw [Bool.not_true, Bool.false_or, decide_eq_false (by omega), Bool.false_or]
    show decide (ff_inX e s g + 1 + 3 ≤ 2 * ff_sz g) = _
    rfl
theorem ff_lo0 (j : Nat) (A B : Nat → Nat) : ff_lo j A B 0 = true := by
  unfold ff_lo
  rw [ff_all_iff]
  intro g _
  have h : ff_inY A B 0 g = 0 := by
    unfold ff_inY
    apply ff_cn_zero
    intro k _
    rw [Nat.zero_testBit, Bool.false_and]
  unfold ff_okY
  rw [h]
  simp only [Bool.or_eq_true, decide_eq_true_eq]
  omega
theorem ff_greedy {j p : Nat} {e A B : Nat → Nat} (O : ff_Ok j p e A B) {s t : Nat} (ht : ∀ i, t.testBit i = true → i < 12 ∧ p.testBit i = true) (hst : ∀ i, i < 12 → s.testBit i = t.testBit i) (k : Nat) (hk : k ≤ 12) : ff_tk j A B s k = ff_fr j e t k ∧ ff_lo j A B (ff_fr j e t k) = true ∧ (∀ i, (ff_fr j e t k).testBit i = true → i < k ∧ t.testBit i = true) := by
  induction k with
  | zero => exact ⟨rfl, ff_lo0 j A B, fun i hi => absurd hi (by rw [show ff_fr j e t 0 = 0 from rfl, Nat.zero_testBit]; decide)⟩
  | succ k ih =>
    obtain ⟨h1, h2, h3⟩ := ih (by omega)
    rw [ff_tk_s, ff_fr_s, h1, hst k (by omega)]
    cases hb : t.testBit k with
    | false =>
      rw [Bool.false_and, Bool.false_and, if_neg (by decide)]
      exact ⟨rfl, h2, fun i hi => ⟨by have := (h3 i hi).1; omega, (h3 i hi).2⟩⟩
    | true =>
      have hn : (ff_fr j e t k).testBit k = false := by
        cases hz : (ff_fr j e t k).testBit k with
        | false => rfl
        | true => exact absurd (h3 k hz).1 (by omega)
      obtain ⟨_, _, hab, he⟩ := O.2.2.2.2.2.2 k (ht k hb).2
      have h4 := ff_step O (s := ff_fr j e t k) (k := k) (fun i hi => ht i (h3 i hi).2) h2 (by omega) hn hab
      rw [← he] at h4
      rw [Bool.true_and, Bool.true_and, h4]
      cases hz : ff_st j e (ff_fr j e t k) (e k) with
      | false =>
        rw [if_neg (by decide)]
        exact ⟨rfl, h2, fun i hi => ⟨by have := (h3 i hi).1; omega, (h3 i hi).2⟩⟩
      | true =>
        rw [if_pos rfl]
        refine ⟨rfl, by rw [h4]; exact hz, fun i hi => ?_⟩
        rw [ff_or_tb, Bool.or_eq_true, decide_eq_true_eq] at hi
        rcases hi with hi | hi
        · exact ⟨by have := (h3 i hi).1; omega, (h3 i hi).2⟩
        · exact ⟨by omega, by rw [← hi]; exact hb⟩
theorem ff_sub {j p : Nat} {e A B : Nat → Nat} (O : ff_Ok j p e A B) {i : Nat} (h : p.testBit i = true) : i < 12 ∧ p.testBit i = true := by
  refine ⟨?_, h⟩
  rcases Nat.lt_or_ge i 12 with z | z
  · exact z
  · rw [ff_tb (n := 12) O.2.2.1 z] at h
    exact absurd h (by decide)
theorem ff_tk13 {j p : Nat} {e A B : Nat → Nat} (O : ff_Ok j p e A B) {s : Nat} (hs : ∀ i, s.testBit i = true → p.testBit i = true) : ff_tk j A B s 13 = ff_fr j e s 12 := by
  have h := (ff_greedy O (s := s) (t := s) (fun i hi => ff_sub O (hs i hi)) (fun _ _ => rfl) 12 (Nat.le_refl _)).1
  have h12 : s.testBit 12 = false := by
    cases hb : s.testBit 12 with
    | false => rfl
    | true => exact absurd (ff_sub O (hs 12 hb)).1 (by omega)
  rw [ff_tk_s, h12, Bool.false_and, if_neg (by decide), h]
theorem ff_fr_sub (j : Nat) (e : Nat → Nat) (s k : Nat) : ∀ i, (ff_fr j e s k).testBit i = true → i < k ∧ s.testBit i = true := by
  induction k with
  | zero => exact fun i hi => absurd hi (by rw [show ff_fr j e s 0 = 0 from rfl, Nat.zero_testBit]; decide)
  | succ k ih =>
    intro i hi
    rw [ff_fr_s] at hi
    split at hi
    · rename_i hc
      rw [ff_or_tb, Bool.or_eq_true, decide_eq_true_eq] at hi
      rw [Bool.and_eq_true] at hc
      rcases hi with hi | hi
      · exact ⟨by have := (ih i hi).1; omega, (ih i hi).2⟩
      · exact ⟨by omega, by rw [← hi]; exact hc.1⟩
    · exact ⟨by have := (ih i hi).1; omega, (ih i hi).2⟩
theorem ff_fr_lt (j : Nat) (e : Nat → Nat) (s k : Nat) : ff_fr j e s k < 2 ^ k := ff_lt_of (fun i hi => (ff_fr_sub j e s k i hi).1)
theorem ff_tk_sub (j : Nat) (A B : Nat → Nat) (s k : Nat) : ∀ i, (ff_tk j A B s k).testBit i = true → i < k ∧ s.testBit i = true := by
  induction k with
  | zero => exact fun i hi => absurd hi (by rw [show ff_tk j A B s 0 = 0 from rfl, Nat.zero_testBit]; decide)
  | succ k ih =>
    intro i hi
    rw [ff_tk_s] at hi
    split at hi
    · rename_i hc
      rw [ff_or_tb, Bool.or_eq_true, decide_eq_true_eq] at hi
      rw [Bool.and_eq_true] at hc
      rcases hi with hi | hi
      · exact ⟨by have := (ih i hi).1; omega, (ih i hi).2⟩
      · exact ⟨by omega, by rw [← hi]; exact hc.1⟩
    · exact ⟨by have := (ih i hi).1; omega, (ih i hi).2⟩
theorem ff_tk_lt (j : Nat) (A B : Nat → Nat) (s k : Nat) : ff_tk j A B s k < 2 ^ k := ff_lt_of (fun i hi => (ff_tk_sub j A B s k i hi).1)
theorem ff_free {j p : Nat} {e A B : Nat → Nat} (O : ff_Ok j p e A B) {s : Nat} (hs : ∀ i, s.testBit i = true → p.testBit i = true) : ff_lo j A B s = true ↔ ff_fr j e s 12 = s := by
  have hs2 : ∀ i, s.testBit i = true → i < 12 ∧ p.testBit i = true := fun i hi => ff_sub O (hs i hi)
  constructor
  · intro hl
    have h : ∀ k, k ≤ 12 → ∀ i, i < k → s.testBit i = true → (ff_fr j e s k).testBit i = true := by
      intro k
      induction k with
      | zero => exact fun _ i hi => absurd hi (Nat.not_lt_zero _)
      | succ k ih =>
        intro hk i hi hb
        rw [ff_fr_s]
        cases hz : s.testBit k with
        | false =>
          rw [Bool.false_and, if_neg (by decide)]
          refine ih (by omega) i ?_ hb
          rcases Nat.lt_or_ge i k with z | z
          · exact z
          · have e2 : i = k := by omega
            rw [e2, hz] at hb
            exact absurd hb (by decide)
        | true =>
          obtain ⟨_, h2, h3⟩ := ff_greedy O (s := s) (t := s) hs2 (fun _ _ => rfl) k (by omega)
          have hn : (ff_fr j e s k).testBit k = false := by
            cases hy : (ff_fr j e s k).testBit k with
            | false => rfl
            | true => exact absurd (h3 k hy).1 (by omega)
          obtain ⟨_, _, hab, he⟩ := O.2.2.2.2.2.2 k (hs k hz)
          have h4 := ff_step O (s := ff_fr j e s k) (k := k) (fun i hi => hs2 i (h3 i hi).2) h2 (by omega) hn hab
          have h5 : ff_lo j A B (ff_fr j e s k ||| 2 ^ k) = true := by
            refine ff_lo_mono (t := s) (fun i hi => ?_) hl
            rw [ff_or_tb, Bool.or_eq_true, decide_eq_true_eq] at hi
            rcases hi with hi | hi
            · exact (h3 i hi).2
            · rw [← hi]; exact hz
          rw [h4, ← he] at h5
          rw [h5, Bool.true_and, if_pos rfl, ff_or_tb, Bool.or_eq_true, decide_eq_true_eq]
          rcases Nat.lt_or_ge i k with z | z
          · exact Or.inl (ih (by omega) i z hb)
          · exact Or.inr (by omega)
    apply Nat.eq_of_testBit_eq
    intro i
    cases hb : s.testBit i with
    | true => exact h 12 (Nat.le_refl _) i (hs2 i hb).1 hb
    | false =>
      cases hz : (ff_fr j e s 12).testBit i with
      | false => rfl
      | true =>
        rw [(ff_fr_sub j e s 12 i hz).2] at hb
        exact absurd hb (by decide)
  · intro h
    have h2 := (ff_greedy O (s := s) (t := s) hs2 (fun _ _ => rfl) 12 (Nat.le_refl _)).2.1
    rw [h] at h2
    exact h2
theorem ff_held {j p : Nat} {e A B : Nat → Nat} (O : ff_Ok j p e A B) (hab : A 12 ≠ B 12) : (ff_cn (ff_tk j A B (p ||| 4096) 13).testBit 13 = ff_cn (ff_tk j A B p 13).testBit 13) ↔ ff_st j e (ff_fr j e p 12) (2 ^ A 12 ||| 2 ^ B 12) = false := by
  have hs2 : ∀ i, p.testBit i = true → i < 12 ∧ p.testBit i = true := fun i hi => ff_sub O hi
  obtain ⟨h1, h2, h3⟩ := ff_greedy O (s := p ||| 4096) (t := p) hs2 (fun i hi => by
    rw [show (4096 : Nat) = 2 ^ 12 from rfl, ff_or_tb, decide_eq_false (by omega), Bool.or_false]) 12 (Nat.le_refl _)
  have hn : (ff_fr j e p 12).testBit 12 = false := ff_tb (ff_fr_lt j e p 12) (Nat.le_refl _)
  have h4 := ff_step O (s := ff_fr j e p 12) (k := 12) (fun i hi => hs2 i (h3 i hi).2) h2 (by omega) hn hab
  have h5 : (p ||| 4096).testBit 12 = true := by
    rw [show (4096 : Nat) = 2 ^ 12 from rfl, ff_or_tb, decide_eq_true (rfl : 12 = 12), Bool.or_true]
  rw [ff_tk13 O (fun _ h => h), ff_tk_s, h1, h5, Bool.true_and, h4]
  cases hz : ff_st j e (ff_fr j e p 12) (2 ^ A 12 ||| 2 ^ B 12) with
  | false =>
    rw [if_neg (by decide)]
    exact ⟨fun _ => rfl, fun _ => rfl⟩
  | true =>
    rw [if_pos rfl]
    have h6 : ff_cn (ff_fr j e p 12 ||| 2 ^ 12).testBit 13 = ff_cn (ff_fr j e p 12).testBit 13 + true.toNat := ff_cn_ins (i := 12) true hn (by rw [ff_or_tb, decide_eq_true (rfl : 12 = 12), Bool.or_true]) (fun i hi => by rw [ff_or_tb, decide_eq_false (fun z => hi z.symm), Bool.or_false]) 13 (by decide)
    rw [h6]
    constructor
    · intro z
      have z2 : true.toNat = 1 := rfl
      omega
    · intro z
      exact absurd z (by decide)
theorem ff_ring {j p : Nat} {e A B : Nat → Nat} (O : ff_Ok j p e A B) {k f : Nat} (hk : p.testBit k = true) (hn : (ff_fr j e p 12).testBit k = false) : ff_lo j A B (ff_rm (ff_fr j e p 12) f ||| 2 ^ k) = ff_st j e (ff_rm (ff_fr j e p 12) f) (e k) := by
  have hs2 : ∀ i, p.testBit i = true → i < 12 ∧ p.testBit i = true := fun i hi => ff_sub O hi
  obtain ⟨_, h2, h3⟩ := ff_greedy O (s := p) (t := p) hs2 (fun _ _ => rfl) 12 (Nat.le_refl _)
  have hlt := ff_fr_lt j e p 12
  have hr : ∀ i, (ff_rm (ff_fr j e p 12) f).testBit i = true → (ff_fr j e p 12).testBit i = true := by
    intro i hi
    rw [ff_rm_tb hlt, Bool.and_eq_true] at hi
    exact hi.1
  obtain ⟨_, _, hab, he⟩ := O.2.2.2.2.2.2 k hk
  rw [he]
  refine ff_step O (fun i hi => hs2 i (h3 i (hr i hi)).2) (ff_lo_mono hr h2) (by have := (hs2 k hk).1; omega) ?_ hab
  cases hz : (ff_rm (ff_fr j e p 12) f).testBit k with
  | false => rfl
  | true =>
    rw [hr k hz] at hn
    exact absurd hn (by decide)
