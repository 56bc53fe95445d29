section
theorem pk_us {f : Nat → Int32} {k : Nat} {x : Int32} : upd f k x k = x := if_pos rfl
theorem pk_un {f : Nat → Int32} {k j : Nat} {x : Int32} (h : j ≠ k) : upd f k x j = f j := if_neg h
theorem pk_sub {a b : Nat} (h : b ≤ a) : nI a - nI b = nI (a - b) := by
  obtain ⟨c, rfl⟩ : ∃ c, a = c + b := ⟨a - b, by omega⟩
  rw [← nI_add, Int32.add_sub_cancel, Nat.add_sub_cancel]
theorem pk_m1 (n : Nat) : nI (n + 1) + (-1) = nI n := by
  rw [← nI_1, Int32.add_assoc, show (1 : Int32) + (-1) = 0 from rfl, Int32.add_zero]
theorem pk_mul (a b : Nat) : nI a * nI b = nI (a * b) := (Int32.ofNat_mul a b).symm
theorem pk_div {a d : Nat} (ha : a < 2 ^ 31) (h0 : 0 < d) (hd : d < 2 ^ 31) : nI a / nI d = nI (a / d) := by
  apply Int32.toInt_inj.mp
  rw [lg_idiv_nonneg (by rw [nI_toInt ha]; omega) (by rw [nI_toInt hd]; omega), nI_toInt ha, nI_toInt hd, nI_toInt (Nat.lt_of_le_of_lt (Nat.div_le_self a d) ha)]
  first | rfl | exact (Int.natCast_ediv _ _).symm
theorem pk_rem {a d : Nat} (ha : a < 2 ^ 31) (h0 : 0 < d) (hd : d < 2 ^ 31) : nI a - nI a / nI d * nI d = nI (a % d) := by
  rw [pk_div ha h0 hd, pk_mul, pk_sub (Nat.div_mul_le_self a d)]
  exact congrArg nI (by have := Nat.div_add_mod' a d; omega)
theorem pk_sub_toInt {a b : Nat} (ha : a < 2 ^ 30) (hb : b < 2 ^ 30) : (nI a - nI b).toInt = (a : Int) - b := by
  rw [Int32.toInt_sub, nI_toInt (by omega), nI_toInt (by omega)]
  exact Int.bmod_eq_of_le (by omega) (by omega)
theorem pk_sneg {a b : Nat} (hb : b < 2 ^ 30) (h : a < b) : nI a - nI b < 0 := by
  rw [Int32.lt_iff_toInt_lt, pk_sub_toInt (by omega) hb, show (0 : Int32).toInt = 0 from by decide]
  omega
theorem pk_ix (x : Int32) {n : Nat} (hn : n < 2 ^ 31) : x < 0 ∨ nI n ≤ x ∨ ∃ j : Nat, j < n ∧ x = nI j := by
  by_cases h : x < 0
  · exact Or.inl h
  · obtain ⟨j, hj, rfl⟩ := nI_of h
    by_cases h2 : j < n
    · exact Or.inr (Or.inr ⟨j, h2, rfl⟩)
    · exact Or.inr (Or.inl (nI_le (by omega) hj))
theorem pk_le {x y : Int32} {A B : Prop} (a b : Nat) (f : a ≤ b → A) (g : b < a → B) (hx : x = nI a := by rfl) (hy : y = nI b := by rfl) (ha : a < 2 ^ 31 := by omega) (hb : b < 2 ^ 31 := by omega) : (x ≤ y → A) ∧ (¬ x ≤ y → B) := by
  subst hx hy
  rw [nI_leI ha hb]
  exact ⟨f, fun z => g (by omega)⟩
theorem pk_lt {x y : Int32} {A B : Prop} (a b : Nat) (f : a < b → A) (g : b ≤ a → B) (hx : x = nI a := by rfl) (hy : y = nI b := by rfl) (ha : a < 2 ^ 31 := by omega) (hb : b < 2 ^ 31 := by omega) : (x < y → A) ∧ (¬ x < y → B) := by
  subst hx hy
  rw [nI_ltI ha hb]
  exact ⟨f, fun z => g (by omega)⟩
theorem pk_eq {x y : Int32} {A B : Prop} (a b : Nat) (f : a = b → A) (g : a ≠ b → B) (hx : x = nI a := by rfl) (hy : y = nI b := by rfl) (ha : a < 2 ^ 31 := by omega) (hb : b < 2 ^ 31 := by omega) : (x = y → A) ∧ (¬ x = y → B) := by
  subst hx hy
  rw [nI_eq ha hb]
  exact ⟨f, g⟩
theorem pk_in {x : Int32} (n N : Nat) (h : n < N) (hx : x = nI n := by rfl) (hN : N < 2 ^ 31 := by omega) : vp_in x N := by
  subst hx
  exact vp_in_nI h hN
theorem pk_cl {x : Int32} (n : Nat) (hx : x = nI n := by rfl) (h : n < 2 ^ 31 := by omega) : x.toNatClampNeg = n := by
  subst hx
  exact nI_clamp h
theorem pk_tn {n : Nat} (h : n < 2 ^ 32) : (nI n).toBitVec.toNat = n := Nat.mod_eq_of_lt h
theorem pk_shl (a s : Int32) (k : Nat) (hs : (s.toBitVec.smod 32).toNat = k) : (a <<< s).toBitVec.toNat = a.toBitVec.toNat * 2 ^ k % 2 ^ 32 := by
  show (a.toBitVec <<< (s.toBitVec.smod 32).toNat).toNat = _
  rw [hs, BitVec.toNat_shiftLeft, Nat.shiftLeft_eq]
theorem pk_shlN {n : Nat} (s : Int32) (k : Nat) (hs : (s.toBitVec.smod 32).toNat = k) (h : n * 2 ^ k < 2 ^ 32) : nI n <<< s = nI (n * 2 ^ k) := by
  apply Int32.toBitVec_inj.mp
  apply BitVec.eq_of_toNat_eq
  have hn : n < 2 ^ 32 := Nat.lt_of_le_of_lt (Nat.le_mul_of_pos_right n (Nat.two_pow_pos k)) h
  rw [pk_shl _ _ k hs, pk_tn hn, pk_tn h, Nat.mod_eq_of_lt h]
theorem pk_shr (a s : Int32) (k : Nat) (hs : (s.toBitVec.smod 32).toNat = k) : (a >>> s).toInt = a.toInt >>> k := by
  show (a.toBitVec.sshiftRight (s.toBitVec.smod 32).toNat).toInt = _
  rw [hs, BitVec.toInt_sshiftRight]
  rfl
theorem pk_shrN {n : Nat} (h : n < 2 ^ 31) (s : Int32) (k : Nat) (hs : (s.toBitVec.smod 32).toNat = k) : nI n >>> s = nI (n / 2 ^ k) := by
  apply Int32.toInt_inj.mp
  have h2 : n / 2 ^ k ≤ n := Nat.div_le_self _ _
  rw [pk_shr _ _ k hs, nI_toInt h, nI_toInt (by omega), Int.shiftRight_eq_div_pow]
  rfl
theorem s_l : ∀ n, n < 32 → ((nI n &&& 31).toBitVec.smod 32).toNat = n := by decide +kernel
theorem nx_and (a b : Nat) : nI a &&& nI b = nI (a &&& b) := by
  apply Int32.toBitVec_inj.1
  show BitVec.ofNat 32 a &&& BitVec.ofNat 32 b = BitVec.ofNat 32 (a &&& b)
  apply BitVec.eq_of_getLsbD_eq
  intro i hi
  simp [hi]
theorem nx_xor (a b : Nat) : nI a ^^^ nI b = nI (a ^^^ b) := by
  apply Int32.toBitVec_inj.1
  show BitVec.ofNat 32 a ^^^ BitVec.ofNat 32 b = BitVec.ofNat 32 (a ^^^ b)
  apply BitVec.eq_of_getLsbD_eq
  intro i hi
  simp [hi]
theorem wb_of32 (x : Int32) : ∃ n, n < 2 ^ 32 ∧ x = nI n := ⟨x.toBitVec.toNat, x.toBitVec.isLt, Int32.toBitVec_inj.mp (by show _ = BitVec.ofNat 32 _; simp)⟩
theorem nx_or (a b : Nat) : nI a ||| nI b = nI (a ||| b) := by
  apply Int32.toBitVec_inj.1
  show BitVec.ofNat 32 a ||| BitVec.ofNat 32 b = BitVec.ofNat 32 (a ||| b)
  apply BitVec.eq_of_getLsbD_eq
  intro i hi
  simp [hi]
theorem ff_bit {s k : Nat} (hs : s < 2 ^ 31) (hk : k < 32) : (nI s >>> (nI k &&& 31)) &&& 1 = nI (s.testBit k).toNat := by
  rw [pk_shrN hs _ k (s_l k hk), show (1 : Int32) = nI 1 from rfl, nx_and, Nat.and_one_is_mod, Nat.toNat_testBit]
theorem ff_shl : ∀ k, k < 31 → (1 : Int32) <<< (nI k &&& 31) = nI (2 ^ k) := by decide +kernel
theorem ff_b1 (b : Bool) : nI b.toNat = 1 ↔ b = true := by cases b <;> decide
theorem ff_b0 (b : Bool) : nI b.toNat = 0 ↔ b = false := by cases b <;> decide
theorem ff_p2 {k : Nat} (h : k < 31) : 2 ^ k < 2 ^ 31 := Nat.pow_lt_pow_right (by decide) h
def ff_rm (p k : Nat) : Nat := p &&& (2 ^ k ^^^ 4294967295)
theorem ff_rmI (p k : Nat) : nI p &&& (nI (2 ^ k) ^^^ (-1)) = nI (ff_rm p k) := by
  rw [show (-1 : Int32) = nI 4294967295 from by decide +kernel, nx_xor, nx_and]
  rfl
theorem ff_rm_le (p k : Nat) : ff_rm p k ≤ p := Nat.and_le_left
theorem ff_tb {p i n : Nat} (hp : p < 2 ^ n) (hi : n ≤ i) : p.testBit i = false := Nat.testBit_lt_two_pow (Nat.lt_of_lt_of_le hp (Nat.pow_le_pow_right (by decide) hi))
theorem ff_rm_tb {p : Nat} (hp : p < 4096) (k i : Nat) : (ff_rm p k).testBit i = (p.testBit i && !decide (k = i)) := by
  unfold ff_rm
  rw [Nat.testBit_and, Nat.testBit_xor, Nat.testBit_two_pow, show (4294967295 : Nat) = 2 ^ 32 - 1 from rfl, Nat.testBit_two_pow_sub_one]
  rcases Nat.lt_or_ge i 12 with h | h
  · rw [decide_eq_true (show i < 32 by omega), Bool.xor_true]
  · rw [ff_tb (n := 12) hp h]; simp
theorem ff_or_tb (s k i : Nat) : (s ||| 2 ^ k).testBit i = (s.testBit i || decide (k = i)) := by
  rw [Nat.testBit_or, Nat.testBit_two_pow]
theorem ff_lt_of {s n : Nat} (h : ∀ i, s.testBit i = true → i < n) : s < 2 ^ n := Nat.lt_pow_two_of_testBit s (fun i hi => by
  cases hb : s.testBit i with
  | false => rfl
  | true => exact absurd (h i hb) (by omega))
theorem ff_or_lt {s k n : Nat} (hs : s < 2 ^ n) (hk : k < n) : s ||| 2 ^ k < 2 ^ n := Nat.or_lt_two_pow hs (Nat.pow_lt_pow_right (by decide) hk)
end
section
def ff_cn (p : Nat → Bool) : Nat → Nat
  | 0 => 0
  | n + 1 => ff_cn p n + (p n).toNat
theorem ff_cn_s (p : Nat → Bool) (n : Nat) : ff_cn p (n + 1) = ff_cn p n + (p n).toNat := rfl
theorem ff_cn_le (p : Nat → Bool) (n : Nat) : ff_cn p n ≤ n := by
  induction n with
  | zero => exact Nat.le_refl 0
  | succ n ih =>
    have h : (p n).toNat ≤ 1 := Bool.toNat_le _
    rw [ff_cn_s]
    omega
theorem ff_cn_congr {p q : Nat → Bool} (n : Nat) (h : ∀ k, k < n → p k = q k) : ff_cn p n = ff_cn q n := by
  induction n with
  | zero => rfl
  | succ n ih => rw [ff_cn_s, ff_cn_s, ih (fun k hk => h k (by omega)), h n (by omega)]
theorem ff_cn_mono {p q : Nat → Bool} (n : Nat) (h : ∀ k, k < n → p k = true → q k = true) : ff_cn p n ≤ ff_cn q n := by
  induction n with
  | zero => exact Nat.le_refl _
  | succ n ih =>
    rw [ff_cn_s, ff_cn_s]
    have h1 := ih (fun k hk => h k (by omega))
    have h2 : (p n).toNat ≤ (q n).toNat := by
      cases hp : p n with
      | false => exact Nat.zero_le _
      | true => rw [h n (by omega) hp]; exact Nat.le_refl _
    omega
theorem ff_cn_zero {p : Nat → Bool} (n : Nat) (h : ∀ k, k < n → p k = false) : ff_cn p n = 0 := by
  induction n with
  | zero => rfl
  | succ n ih => rw [ff_cn_s, ih (fun k hk => h k (by omega)), h n (by omega)]; rfl
theorem ff_cn_ins {p q : Nat → Bool} {i : Nat} (b : Bool) (hp : p i = false) (hq : q i = b) (h : ∀ k, k ≠ i → q k = p k) (n : Nat) (hi : i < n) : ff_cn q n = ff_cn p n + b.toNat := by
  induction n with
  | zero => omega
  | succ n ih =>
    rw [ff_cn_s, ff_cn_s]
    rcases Nat.lt_or_ge i n with z | z
    · rw [ih z, h n (by omega)]
      omega
    · have e : i = n := by omega
      subst e
      rw [ff_cn_congr i (fun k hk => h k (by omega)), hp, hq]
      rfl
def ff_all (p : Nat → Bool) : Nat → Bool
  | 0 => true
  | n + 1 => ff_all p n && p n
theorem ff_all_s (p : Nat → Bool) (n : Nat) : ff_all p (n + 1) = (ff_all p n && p n) := rfl
theorem ff_all_iff {p : Nat → Bool} (n : Nat) : ff_all p n = true ↔ ∀ i, i < n → p i = true := by
  induction n with
  | zero => exact ⟨fun _ _ h => absurd h (Nat.not_lt_zero _), fun _ => rfl⟩
  | succ n ih =>
    rw [ff_all_s, Bool.and_eq_true, ih]
    constructor
    · intro ⟨a, b⟩ i hi
      rcases Nat.lt_or_ge i n with h | h
      · exact a i h
      · have e : i = n := by omega
        rw [e]
        exact b
    · intro h
      exact ⟨fun i hi => h i (by omega), h n (by omega)⟩
theorem ff_all_f {p : Nat → Bool} {n i : Nat} (hi : i < n) (h : p i = false) : ff_all p n = false := by
  cases z : ff_all p n with
  | false => rfl
  | true => exact absurd ((ff_all_iff n).mp z i hi) (by rw [h]; decide)
theorem ff_all_congr {p q : Nat → Bool} (n : Nat) (h : ∀ k, k < n → p k = q k) : ff_all p n = ff_all q n := by
  induction n with
  | zero => rfl
  | succ n ih => rw [ff_all_s, ff_all_s, ih (fun k hk => h k (by omega)), h n (by omega)]
def ff_sz (g : Nat) : Nat := ff_cn g.testBit 12
theorem ff_sz13 {g : Nat} (h : g < 4096) : ff_cn g.testBit 13 = ff_sz g := by
  rw [ff_cn_s, ff_tb (n := 12) h (Nat.le_refl _)]
  rfl
def ff_inX (e : Nat → Nat) (s g : Nat) : Nat := ff_cn (fun k => s.testBit k && (e k &&& g == e k)) 12
def ff_inY (A B : Nat → Nat) (s g : Nat) : Nat := ff_cn (fun k => s.testBit k && (g.testBit (A k) && g.testBit (B k))) 13
def ff_okX (e : Nat → Nat) (s q g : Nat) : Bool := !(g &&& q == q) || decide (ff_inX e s g + 4 ≤ 2 * ff_sz g)
def ff_st (j : Nat) (e : Nat → Nat) (s q : Nat) : Bool := ff_all (ff_okX e s q) (2 ^ j)
def ff_okY (A B : Nat → Nat) (s g : Nat) : Bool := decide (ff_cn g.testBit 13 < 2) || decide (ff_inY A B s g + 3 ≤ 2 * ff_cn g.testBit 13)
def ff_lo (j : Nat) (A B : Nat → Nat) (s : Nat) : Bool := ff_all (ff_okY A B s) (2 ^ j)
def ff_fr (j : Nat) (e : Nat → Nat) (s : Nat) : Nat → Nat
  | 0 => 0
  | k + 1 => if (s.testBit k && ff_st j e (ff_fr j e s k) (e k)) = true then ff_fr j e s k ||| 2 ^ k else ff_fr j e s k
theorem ff_fr_s (j : Nat) (e : Nat → Nat) (s k : Nat) : ff_fr j e s (k + 1) = if (s.testBit k && ff_st j e (ff_fr j e s k) (e k)) = true then ff_fr j e s k ||| 2 ^ k else ff_fr j e s k := rfl
def ff_tk (j : Nat) (A B : Nat → Nat) (s : Nat) : Nat → Nat
  | 0 => 0
  | k + 1 => if (s.testBit k && ff_lo j A B (ff_tk j A B s k ||| 2 ^ k)) = true then ff_tk j A B s k ||| 2 ^ k else ff_tk j A B s k
theorem ff_tk_s (j : Nat) (A B : Nat → Nat) (s k : Nat) : ff_tk j A B s (k + 1) = if (s.testBit k && ff_lo j A B (ff_tk j A B s k ||| 2 ^ k)) = true then ff_tk j A B s k ||| 2 ^ k else ff_tk j A B s k := rfl
def ff_Ok (j p : Nat) (e A B : Nat → Nat) : Prop := 2 ≤ j ∧ j ≤ 6 ∧ p < 4096 ∧ (∀ k, e k < 64) ∧ (∀ k, A k < 6) ∧ (∀ k, B k < 6) ∧ (∀ k, p.testBit k = true → A k < j ∧ B k < j ∧ A k ≠ B k ∧ e k = 2 ^ A k ||| 2 ^ B k)
theorem ff_pair : ∀ a, a < 6 → ∀ b, b < 6 → ∀ g, g < 64 → (g &&& (2 ^ a ||| 2 ^ b) == (2 ^ a ||| 2 ^ b)) = (g.testBit a && g.testBit b) := by decide +kernel
theorem ff_two0 : ∀ a, a < 6 → ∀ b, b < 6 → ∀ g, g < 64 → (decide (a = b) || (!(g.testBit a && g.testBit b) || decide (2 ≤ ff_sz g))) = true := by decide +kernel
theorem ff_two (a : Nat) (ha : a < 6) (b : Nat) (hb : b < 6) (g : Nat) (hg : g < 64) (hab : a ≠ b) (h1 : g.testBit a = true) (h2 : g.testBit b = true) : 2 ≤ ff_sz g := by
  have h := ff_two0 a ha b hb g hg
  rw [decide_eq_false hab, h1, h2] at h
  exact of_decide_eq_true h
theorem ff_j64 {j : Nat} (h : j ≤ 6) : 2 ^ j ≤ 64 := Nat.pow_le_pow_right (n := 2) (by decide) h
theorem ff_in {j p : Nat} {e A B : Nat → Nat} (O : ff_Ok j p e A B) {s : Nat} (hs : ∀ k, k < 12 → s.testBit k = true → p.testBit k = true) (h12 : s.testBit 12 = false) {g : Nat} (hg : g < 64) : ff_inY A B s g = ff_inX e s g := by
  obtain ⟨_, _, _, _, hA, hB, hp⟩ := O
  unfold ff_inY ff_inX
  rw [ff_cn_s, h12, Bool.false_and]
  show ff_cn _ 12 + 0 = _
  rw [Nat.add_zero]
  apply ff_cn_congr
  intro k hk
  cases hb : s.testBit k with
  | false => rfl
  | true =>
    obtain ⟨_, _, _, he⟩ := hp k (hs k hk hb)
    rw [Bool.true_and, Bool.true_and, he, Nat.and_comm (2 ^ A k ||| 2 ^ B k) g, ff_pair _ (hA k) _ (hB k) g hg]
theorem ff_inAdd (A B : Nat → Nat) {s k : Nat} (hk : k < 13) (hs : s.testBit k = false) (g : Nat) : ff_inY A B (s ||| 2 ^ k) g = ff_inY A B s g + (g.testBit (A k) && g.testBit (B k)).toNat := by
  unfold ff_inY
  refine ff_cn_ins (i := k) _ ?_ ?_ ?_ 13 hk
  · rw [hs, Bool.false_and]
  · rw [ff_or_tb, hs, decide_eq_true (rfl : k = k), Bool.false_or, Bool.true_and]
  · intro i hi
    rw [ff_or_tb, decide_eq_false (fun z => hi z.symm), Bool.or_false]
theorem ff_lo_mono {j : Nat} {A B : Nat → Nat} {s t : Nat} (h : ∀ i, s.testBit i = true → t.testBit i = true) (ht : ff_lo j A B t = true) : ff_lo j A B s = true := by
  unfold ff_lo at ht ⊢
  rw [ff_all_iff] at ht ⊢
  intro g hg
  have h1 := ht g hg
  have h2 : ff_inY A B s g ≤ ff_inY A B t g := by
    unfold ff_inY
    apply ff_cn_mono
    intro k hk hb
    rw [Bool.and_eq_true] at hb ⊢
    exact ⟨h k hb.1, hb.2⟩
  unfold ff_okY at h1 ⊢
  simp only [Bool.or_eq_true, decide_eq_true_eq] at h1 ⊢
  omega
theorem ff_step {j p : Nat} {e A B : Nat → Nat} (O : ff_Ok j p e A B) {s k : Nat} (hs : ∀ i, s.testBit i = true → i < 12 ∧ p.testBit i = true) (hl : ff_lo j A B s = true) (hk : k < 13) (hn : s.testBit k = false) (hab : A k ≠ B k) : ff_lo j A B (s ||| 2 ^ k) = ff_st j e s (2 ^ A k ||| 2 ^ B k) := by
  have h12 : s.testBit 12 = false := by
    cases hb : s.testBit 12 with
    | false => rfl
    | true => exact absurd (hs 12 hb).1 (by omega)
  have hA := O.2.2.2.2.1 k
  have hB := O.2.2.2.2.2.1 k
  have hj := ff_j64 O.2.1
  unfold ff_lo at hl ⊢
  unfold ff_st
  rw [ff_all_iff] at hl
  apply ff_all_congr
  intro g hg
  have h1 := hl g hg
  have hg6 : g < 64 := by omega
  have hin := ff_in O (s := s) (fun i _ hi => (hs i hi).2) h12 hg6
  have hz := ff_sz13 (g := g) (by omega)
  unfold ff_okY at h1 ⊢
  unfold ff_okX
  rw [hz, hin] at h1
  rw [ff_inAdd A B hk hn, ff_pair _ hA _ hB g hg6, hz, hin]
  cases hb : (g.testBit (A k) && g.testBit (B k)) with
  | false =>
    rw [Bool.not_false, Bool.true_or]
    exact h1
  | true =>
    rw [Bool.and_eq_true] at hb
    have h2 := ff_two _ hA _ hB g hg6 hab hb.1 hb.2
    rw [Bool.not_true, Bool.false_or, decide_eq_false (by omega), Bool.false_or]
    show decide (ff_inX e s g + 1 + 3 ≤ 2 * ff_sz g) = _
    rfl
theorem ff_lo0 (j : Nat) (A B : Nat → Nat) : ff_lo j A B 0 = true := by
  unfold ff_lo
  rw [ff_all_iff]
  intro g _
  have h : ff_inY A B 0 g = 0 := by
    unfold ff_inY
    apply ff_cn_zero
    intro k _
    rw [Nat.zero_testBit, Bool.false_and]
  unfold ff_okY
  rw [h]
  simp only [Bool.or_eq_true, decide_eq_true_eq]
  omega
theorem ff_greedy {j p : Nat} {e A B : Nat → Nat} (O : ff_Ok j p e A B) {s t : Nat} (ht : ∀ i, t.testBit i = true → i < 12 ∧ p.testBit i = true) (hst : ∀ i, i < 12 → s.testBit i = t.testBit i) (k : Nat) (hk : k ≤ 12) : ff_tk j A B s k = ff_fr j e t k ∧ ff_lo j A B (ff_fr j e t k) = true ∧ (∀ i, (ff_fr j e t k).testBit i = true → i < k ∧ t.testBit i = true) := by
  induction k with
  | zero => exact ⟨rfl, ff_lo0 j A B, fun i hi => absurd hi (by rw [show ff_fr j e t 0 = 0 from rfl, Nat.zero_testBit]; decide)⟩
  | succ k ih =>
    obtain ⟨h1, h2, h3⟩ := ih (by omega)
    rw [ff_tk_s, ff_fr_s, h1, hst k (by omega)]
    cases hb : t.testBit k with
    | false =>
      rw [Bool.false_and, Bool.false_and, if_neg (by decide)]
      exact ⟨rfl, h2, fun i hi => ⟨by have := (h3 i hi).1; omega, (h3 i hi).2⟩⟩
    | true =>
      have hn : (ff_fr j e t k).testBit k = false := by
        cases hz : (ff_fr j e t k).testBit k with
        | false => rfl
        | true => exact absurd (h3 k hz).1 (by omega)
      obtain ⟨_, _, hab, he⟩ := O.2.2.2.2.2.2 k (ht k hb).2
      have h4 := ff_step O (s := ff_fr j e t k) (k := k) (fun i hi => ht i (h3 i hi).2) h2 (by omega) hn hab
      rw [← he] at h4
      rw [Bool.true_and, Bool.true_and, h4]
      cases hz : ff_st j e (ff_fr j e t k) (e k) with
      | false =>
        rw [if_neg (by decide)]
        exact ⟨rfl, h2, fun i hi => ⟨by have := (h3 i hi).1; omega, (h3 i hi).2⟩⟩
      | true =>
        rw [if_pos rfl]
        refine ⟨rfl, by rw [h4]; exact hz, fun i hi => ?_⟩
        rw [ff_or_tb, Bool.or_eq_true, decide_eq_true_eq] at hi
        rcases hi with hi | hi
        · exact ⟨by have := (h3 i hi).1; omega, (h3 i hi).2⟩
        · exact ⟨by omega, by rw [← hi]; exact hb⟩
theorem ff_sub {j p : Nat} {e A B : Nat → Nat} (O : ff_Ok j p e A B) {i : Nat} (h : p.testBit i = true) : i < 12 ∧ p.testBit i = true := by
  refine ⟨?_, h⟩
  rcases Nat.lt_or_ge i 12 with z | z
  · exact z
  · rw [ff_tb (n := 12) O.2.2.1 z] at h
    exact absurd h (by decide)
theorem ff_tk13 {j p : Nat} {e A B : Nat → Nat} (O : ff_Ok j p e A B) {s : Nat} (hs : ∀ i, s.testBit i = true → p.testBit i = true) : ff_tk j A B s 13 = ff_fr j e s 12 := by
  have h := (ff_greedy O (s := s) (t := s) (fun i hi => ff_sub O (hs i hi)) (fun _ _ => rfl) 12 (Nat.le_refl _)).1
  have h12 : s.testBit 12 = false := by
    cases hb : s.testBit 12 with
    | false => rfl
    | true => exact absurd (ff_sub O (hs 12 hb)).1 (by omega)
  rw [ff_tk_s, h12, Bool.false_and, if_neg (by decide), h]
theorem ff_fr_sub (j : Nat) (e : Nat → Nat) (s k : Nat) : ∀ i, (ff_fr j e s k).testBit i = true → i < k ∧ s.testBit i = true := by
  induction k with
  | zero => exact fun i hi => absurd hi (by rw [show ff_fr j e s 0 = 0 from rfl, Nat.zero_testBit]; decide)
  | succ k ih =>
    intro i hi
    rw [ff_fr_s] at hi
    split at hi
    · rename_i hc
      rw [ff_or_tb, Bool.or_eq_true, decide_eq_true_eq] at hi
      rw [Bool.and_eq_true] at hc
      rcases hi with hi | hi
      · exact ⟨by have := (ih i hi).1; omega, (ih i hi).2⟩
      · exact ⟨by omega, by rw [← hi]; exact hc.1⟩
    · exact ⟨by have := (ih i hi).1; omega, (ih i hi).2⟩
theorem ff_fr_lt (j : Nat) (e : Nat → Nat) (s k : Nat) : ff_fr j e s k < 2 ^ k := ff_lt_of (fun i hi => (ff_fr_sub j e s k i hi).1)
theorem ff_tk_sub (j : Nat) (A B : Nat → Nat) (s k : Nat) : ∀ i, (ff_tk j A B s k).testBit i = true → i < k ∧ s.testBit i = true := by
  induction k with
  | zero => exact fun i hi => absurd hi (by rw [show ff_tk j A B s 0 = 0 from rfl, Nat.zero_testBit]; decide)
  | succ k ih =>
    intro i hi
    rw [ff_tk_s] at hi
    split at hi
    · rename_i hc
      rw [ff_or_tb, Bool.or_eq_true, decide_eq_true_eq] at hi
      rw [Bool.and_eq_true] at hc
      rcases hi with hi | hi
      · exact ⟨by have := (ih i hi).1; omega, (ih i hi).2⟩
      · exact ⟨by omega, by rw [← hi]; exact hc.1⟩
    · exact ⟨by have := (ih i hi).1; omega, (ih i hi).2⟩
theorem ff_tk_lt (j : Nat) (A B : Nat → Nat) (s k : Nat) : ff_tk j A B s k < 2 ^ k := ff_lt_of (fun i hi => (ff_tk_sub j A B s k i hi).1)
theorem ff_free {j p : Nat} {e A B : Nat → Nat} (O : ff_Ok j p e A B) {s : Nat} (hs : ∀ i, s.testBit i = true → p.testBit i = true) : ff_lo j A B s = true ↔ ff_fr j e s 12 = s := by
  have hs2 : ∀ i, s.testBit i = true → i < 12 ∧ p.testBit i = true := fun i hi => ff_sub O (hs i hi)
  constructor
  · intro hl
    have h : ∀ k, k ≤ 12 → ∀ i, i < k → s.testBit i = true → (ff_fr j e s k).testBit i = true := by
      intro k
      induction k with
      | zero => exact fun _ i hi => absurd hi (Nat.not_lt_zero _)
      | succ k ih =>
        intro hk i hi hb
        rw [ff_fr_s]
        cases hz : s.testBit k with
        | false =>
          rw [Bool.false_and, if_neg (by decide)]
          refine ih (by omega) i ?_ hb
          rcases Nat.lt_or_ge i k with z | z
          · exact z
          · have e2 : i = k := by omega
            rw [e2, hz] at hb
            exact absurd hb (by decide)
        | true =>
          obtain ⟨_, h2, h3⟩ := ff_greedy O (s := s) (t := s) hs2 (fun _ _ => rfl) k (by omega)
          have hn : (ff_fr j e s k).testBit k = false := by
            cases hy : (ff_fr j e s k).testBit k with
            | false => rfl
            | true => exact absurd (h3 k hy).1 (by omega)
          obtain ⟨_, _, hab, he⟩ := O.2.2.2.2.2.2 k (hs k hz)
          have h4 := ff_step O (s := ff_fr j e s k) (k := k) (fun i hi => hs2 i (h3 i hi).2) h2 (by omega) hn hab
          have h5 : ff_lo j A B (ff_fr j e s k ||| 2 ^ k) = true := by
            refine ff_lo_mono (t := s) (fun i hi => ?_) hl
            rw [ff_or_tb, Bool.or_eq_true, decide_eq_true_eq] at hi
            rcases hi with hi | hi
            · exact (h3 i hi).2
            · rw [← hi]; exact hz
          rw [h4, ← he] at h5
          rw [h5, Bool.true_and, if_pos rfl, ff_or_tb, Bool.or_eq_true, decide_eq_true_eq]
          rcases Nat.lt_or_ge i k with z | z
          · exact Or.inl (ih (by omega) i z hb)
          · exact Or.inr (by omega)
    apply Nat.eq_of_testBit_eq
    intro i
    cases hb : s.testBit i with
    | true => exact h 12 (Nat.le_refl _) i (hs2 i hb).1 hb
    | false =>
      cases hz : (ff_fr j e s 12).testBit i with
      | false => rfl
      | true =>
        rw [(ff_fr_sub j e s 12 i hz).2] at hb
        exact absurd hb (by decide)
  · intro h
    have h2 := (ff_greedy O (s := s) (t := s) hs2 (fun _ _ => rfl) 12 (Nat.le_refl _)).2.1
    rw [h] at h2
    exact h2
theorem ff_held {j p : Nat} {e A B : Nat → Nat} (O : ff_Ok j p e A B) (hab : A 12 ≠ B 12) : (ff_cn (ff_tk j A B (p ||| 4096) 13).testBit 13 = ff_cn (ff_tk j A B p 13).testBit 13) ↔ ff_st j e (ff_fr j e p 12) (2 ^ A 12 ||| 2 ^ B 12) = false := by
  have hs2 : ∀ i, p.testBit i = true → i < 12 ∧ p.testBit i = true := fun i hi => ff_sub O hi
  obtain ⟨h1, h2, h3⟩ := ff_greedy O (s := p ||| 4096) (t := p) hs2 (fun i hi => by
    rw [show (4096 : Nat) = 2 ^ 12 from rfl, ff_or_tb, decide_eq_false (by omega), Bool.or_false]) 12 (Nat.le_refl _)
  have hn : (ff_fr j e p 12).testBit 12 = false := ff_tb (ff_fr_lt j e p 12) (Nat.le_refl _)
  have h4 := ff_step O (s := ff_fr j e p 12) (k := 12) (fun i hi => hs2 i (h3 i hi).2) h2 (by omega) hn hab
  have h5 : (p ||| 4096).testBit 12 = true := by
    rw [show (4096 : Nat) = 2 ^ 12 from rfl, ff_or_tb, decide_eq_true (rfl : 12 = 12), Bool.or_true]
  rw [ff_tk13 O (fun _ h => h), ff_tk_s, h1, h5, Bool.true_and, h4]
  cases hz : ff_st j e (ff_fr j e p 12) (2 ^ A 12 ||| 2 ^ B 12) with
  | false =>
    rw [if_neg (by decide)]
    exact ⟨fun _ => rfl, fun _ => rfl⟩
  | true =>
    rw [if_pos rfl]
    have h6 : ff_cn (ff_fr j e p 12 ||| 2 ^ 12).testBit 13 = ff_cn (ff_fr j e p 12).testBit 13 + true.toNat := ff_cn_ins (i := 12) true hn (by rw [ff_or_tb, decide_eq_true (rfl : 12 = 12), Bool.or_true]) (fun i hi => by rw [ff_or_tb, decide_eq_false (fun z => hi z.symm), Bool.or_false]) 13 (by decide)
    rw [h6]
    constructor
    · intro z
      have z2 : true.toNat = 1 := rfl
      omega
    · intro z
      exact absurd z (by decide)
theorem ff_ring {j p : Nat} {e A B : Nat → Nat} (O : ff_Ok j p e A B) {k f : Nat} (hk : p.testBit k = true) (hn : (ff_fr j e p 12).testBit k = false) : ff_lo j A B (ff_rm (ff_fr j e p 12) f ||| 2 ^ k) = ff_st j e (ff_rm (ff_fr j e p 12) f) (e k) := by
  have hs2 : ∀ i, p.testBit i = true → i < 12 ∧ p.testBit i = true := fun i hi => ff_sub O hi
  obtain ⟨_, h2, h3⟩ := ff_greedy O (s := p) (t := p) hs2 (fun _ _ => rfl) 12 (Nat.le_refl _)
  have hlt := ff_fr_lt j e p 12
  have hr : ∀ i, (ff_rm (ff_fr j e p 12) f).testBit i = true → (ff_fr j e p 12).testBit i = true := by
    intro i hi
    rw [ff_rm_tb hlt, Bool.and_eq_true] at hi
    exact hi.1
  obtain ⟨_, _, hab, he⟩ := O.2.2.2.2.2.2 k hk
  rw [he]
  refine ff_step O (fun i hi => hs2 i (h3 i (hr i hi)).2) (ff_lo_mono hr h2) (by have := (hs2 k hk).1; omega) ?_ hab
  cases hz : (ff_rm (ff_fr j e p 12) f).testBit k with
  | false => rfl
  | true =>
    rw [hr k hz] at hn
    exact absurd hn (by decide)
end
section
def ff_hd (j : Nat) (e : Nat → Nat) (F a b : Nat) : Bool := decide (a < j) && (decide (b < j) && (!decide (a = b) && !ff_st j e F (2 ^ a ||| 2 ^ b)))
theorem ff_hd_sym (j : Nat) (e : Nat → Nat) (F a b : Nat) : ff_hd j e F a b = ff_hd j e F b a := by
  unfold ff_hd
  rw [Nat.or_comm (2 ^ a) (2 ^ b)]
  by_cases h : a = b
  · subst h; rfl
  · rw [decide_eq_false h, decide_eq_false (show ¬ b = a from fun z => h z.symm)]
    cases decide (a < j) <;> cases decide (b < j) <;> rfl
def ff_ht (h : Nat → Nat → Bool) (a : Nat) : Nat → Nat
  | 0 => 2 ^ a
  | b + 1 => if h a b = true then ff_ht h a b ||| 2 ^ b else ff_ht h a b
theorem ff_ht_s (h : Nat → Nat → Bool) (a b : Nat) : ff_ht h a (b + 1) = if h a b = true then ff_ht h a b ||| 2 ^ b else ff_ht h a b := rfl
theorem ff_ht_tb (h : Nat → Nat → Bool) (a n i : Nat) : (ff_ht h a n).testBit i = true ↔ a = i ∨ (i < n ∧ h a i = true) := by
  induction n with
  | zero =>
    show (2 ^ a).testBit i = true ↔ _
    rw [Nat.testBit_two_pow, decide_eq_true_eq]
    constructor
    · exact fun z => Or.inl z
    · intro z
      rcases z with z | z
      · exact z
      · omega
  | succ n ih =>
    rw [ff_ht_s]
    cases hb : h a n with
    | false =>
      rw [if_neg (by decide), ih]
      constructor
      · intro z
        rcases z with z | z
        · exact Or.inl z
        · exact Or.inr ⟨by omega, z.2⟩
      · intro z
        rcases z with z | ⟨z, y⟩
        · exact Or.inl z
        · rcases Nat.lt_or_ge i n with w | w
          · exact Or.inr ⟨w, y⟩
          · have e : i = n := by omega
            rw [e, hb] at y
            exact absurd y (by decide)
    | true =>
      rw [if_pos rfl, ff_or_tb, Bool.or_eq_true, decide_eq_true_eq, ih]
      constructor
      · intro z
        rcases z with (z | z) | z
        · exact Or.inl z
        · exact Or.inr ⟨by omega, z.2⟩
        · exact Or.inr ⟨by omega, by rw [← z]; exact hb⟩
      · intro z
        rcases z with z | ⟨z, y⟩
        · exact Or.inl (Or.inl z)
        · rcases Nat.lt_or_ge i n with w | w
          · exact Or.inl (Or.inr ⟨w, y⟩)
          · exact Or.inr (by omega)
theorem ff_ht_lt {h : Nat → Nat → Bool} {a n m : Nat} (ha : a < m) (hn : n ≤ m) : ff_ht h a n < 2 ^ m := ff_lt_of (fun i hi => by
  rw [ff_ht_tb] at hi
  omega)
def ff_ha (h : Nat → Nat → Bool) (j g : Nat) : Nat → Nat
  | 0 => 2 ^ j - 1
  | a + 1 => if g.testBit a = true then ff_ha h j g a &&& ff_ht h a j else ff_ha h j g a
theorem ff_ha_s (h : Nat → Nat → Bool) (j g a : Nat) : ff_ha h j g (a + 1) = if g.testBit a = true then ff_ha h j g a &&& ff_ht h a j else ff_ha h j g a := rfl
theorem ff_ha_tb (h : Nat → Nat → Bool) (j g n b : Nat) : (ff_ha h j g n).testBit b = true ↔ b < j ∧ ∀ a, a < n → g.testBit a = true → (a = b ∨ h a b = true) := by
  induction n with
  | zero =>
    show (2 ^ j - 1).testBit b = true ↔ _
    rw [Nat.testBit_two_pow_sub_one, decide_eq_true_eq]
    exact ⟨fun z => ⟨z, fun a ha => absurd ha (Nat.not_lt_zero _)⟩, fun z => z.1⟩
  | succ n ih =>
    rw [ff_ha_s]
    cases hb : g.testBit n with
    | false =>
      rw [if_neg (by decide), ih]
      constructor
      · intro ⟨z, y⟩
        refine ⟨z, fun a ha hg => ?_⟩
        rcases Nat.lt_or_ge a n with w | w
        · exact y a w hg
        · have e : a = n := by omega
          rw [e, hb] at hg
          exact absurd hg (by decide)
      · intro ⟨z, y⟩
        exact ⟨z, fun a ha hg => y a (by omega) hg⟩
    | true =>
      rw [if_pos rfl, Nat.testBit_and, Bool.and_eq_true, ih, ff_ht_tb]
      constructor
      · intro ⟨⟨z, y⟩, w⟩
        refine ⟨z, fun a ha hg => ?_⟩
        rcases Nat.lt_or_ge a n with x | x
        · exact y a x hg
        · have e : a = n := by omega
          rw [e]
          rcases w with w | w
          · exact Or.inl w
          · exact Or.inr w.2
      · intro ⟨z, y⟩
        refine ⟨⟨z, fun a ha hg => y a (by omega) hg⟩, ?_⟩
        rcases y n (by omega) hb with w | w
        · exact Or.inl w
        · exact Or.inr ⟨z, w⟩
theorem ff_ha_lt (h : Nat → Nat → Bool) (j g n : Nat) : ff_ha h j g n < 2 ^ j := ff_lt_of (fun i hi => by
  rw [ff_ha_tb] at hi
  exact hi.1)
def ff_bp (h : Nat → Nat → Bool) (g c : Nat) : Bool := !(decide (c / 6 < c % 6) && (g.testBit (c / 6) && g.testBit (c % 6))) || h (c / 6) (c % 6)
def ff_bd (h : Nat → Nat → Bool) (j g : Nat) : Bool := decide (g < 2 ^ j) && ff_all (ff_bp h g) 36
theorem ff_bd_iff {h : Nat → Nat → Bool} {j : Nat} (hj : j ≤ 6) (hs : ∀ a b, h a b = h b a) (g : Nat) : ff_bd h j g = true ↔ g < 2 ^ j ∧ ∀ a b, a ≠ b → g.testBit a = true → g.testBit b = true → h a b = true := by
  unfold ff_bd
  rw [Bool.and_eq_true, decide_eq_true_eq, ff_all_iff]
  constructor
  · intro ⟨z, y⟩
    refine ⟨z, ?_⟩
    have lt : ∀ a, g.testBit a = true → a < 6 := by
      intro a ha
      rcases Nat.lt_or_ge a j with w | w
      · omega
      · rw [ff_tb z w] at ha
        exact absurd ha (by decide)
    have k : ∀ a b, a < b → g.testBit a = true → g.testBit b = true → h a b = true := by
      intro a b hab ha hb
      have a6 := lt a ha
      have b6 := lt b hb
      have q := y (a * 6 + b) (by omega)
      have e1 : (a * 6 + b) / 6 = a := by omega
      have e2 : (a * 6 + b) % 6 = b := by omega
      unfold ff_bp at q
      rw [e1, e2, decide_eq_true hab, ha, hb] at q
      exact q
    intro a b hab ha hb
    rcases Nat.lt_or_ge a b with w | w
    · exact k a b w ha hb
    · rw [hs]
      exact k b a (by omega) hb ha
  · intro ⟨z, y⟩
    refine ⟨z, fun c hc => ?_⟩
    unfold ff_bp
    by_cases h1 : c / 6 < c % 6
    · cases h2 : g.testBit (c / 6) with
      | false => rw [Bool.false_and, Bool.and_false]; rfl
      | true =>
        cases h3 : g.testBit (c % 6) with
        | false => rw [Bool.and_false, Bool.and_false]; rfl
        | true => rw [y _ _ (by omega) h2 h3, Bool.or_true]
    · rw [decide_eq_false h1, Bool.false_and]; rfl
def ff_tp (h : Nat → Nat → Bool) (j g : Nat) : Bool := ff_bd h j g && ff_all (fun a => g.testBit a || !ff_bd h j (g ||| 2 ^ a)) j
theorem ff_tp_eq {h : Nat → Nat → Bool} {j : Nat} (hj : j ≤ 6) (hs : ∀ a b, h a b = h b a) {g : Nat} (hg : g < 2 ^ j) : ff_ha h j g j = g ↔ ff_tp h j g = true := by
  have lt : ∀ a, g.testBit a = true → a < j := by
    intro a ha
    rcases Nat.lt_or_ge a j with w | w
    · exact w
    · rw [ff_tb hg w] at ha
      exact absurd ha (by decide)
  unfold ff_tp
  rw [Bool.and_eq_true, ff_all_iff, ff_bd_iff hj hs]
  constructor
  · intro H
    have key : ∀ b, g.testBit b = true ↔ b < j ∧ ∀ a, a < j → g.testBit a = true → (a = b ∨ h a b = true) := by
      intro b
      rw [← ff_ha_tb, H]
    refine ⟨⟨hg, fun a b hab ha hb => ?_⟩, fun b hb => ?_⟩
    · rcases ((key b).mp hb).2 a (lt a ha) ha with z | z
      · exact absurd z hab
      · exact z
    · cases z : g.testBit b with
      | true => rfl
      | false =>
        rw [Bool.false_or]
        cases y : ff_bd h j (g ||| 2 ^ b) with
        | false => rfl
        | true =>
          rw [ff_bd_iff hj hs] at y
          have w : g.testBit b = true := (key b).mpr ⟨hb, fun a ha hga => by
            by_cases hab : a = b
            · exact Or.inl hab
            · refine Or.inr (y.2 a b hab ?_ ?_)
              · rw [ff_or_tb, hga, Bool.true_or]
              · rw [ff_or_tb, decide_eq_true (rfl : b = b), Bool.or_true]⟩
          rw [w] at z
          exact absurd z (by decide)
  · intro ⟨⟨_, H1⟩, H2⟩
    apply Nat.eq_of_testBit_eq
    intro b
    rw [Bool.eq_iff_iff, ff_ha_tb]
    constructor
    · intro ⟨hb, H3⟩
      cases z : g.testBit b with
      | true => rfl
      | false =>
        have y := H2 b hb
        rw [z, Bool.false_or, Bool.not_eq_true'] at y
        have w : ff_bd h j (g ||| 2 ^ b) = true := by
          rw [ff_bd_iff hj hs]
          refine ⟨ff_or_lt hg hb, fun c d hcd hc hd => ?_⟩
          rw [ff_or_tb, Bool.or_eq_true, decide_eq_true_eq] at hc hd
          rcases hc with hc | hc
          · rcases hd with hd | hd
            · exact H1 c d hcd hc hd
            · rw [← hd]
              rcases H3 c (lt c hc) hc with x | x
              · omega
              · exact x
          · rcases hd with hd | hd
            · rw [← hc, hs]
              rcases H3 d (lt d hd) hd with x | x
              · omega
              · exact x
            · omega
        rw [w] at y
        exact absurd y (by decide)
    · intro hb
      refine ⟨lt b hb, fun a ha hga => ?_⟩
      by_cases hab : a = b
      · exact Or.inl hab
      · exact Or.inr (H1 a b hab hga hb)
end
section
theorem ff_brB {c A B : Prop} {b : Bool} (hc : c ↔ b = true) (t : b = true → A) (f : b = false → B) : (c → A) ∧ (¬ c → B) := by
  refine ⟨fun h => t (hc.mp h), fun h => f ?_⟩
  cases hb : b with
  | false => rfl
  | true => exact absurd (hc.mpr hb) h
theorem ff_br0 {A B : Prop} {b : Bool} (f : b = false → A) (t : b = true → B) : (nI b.toNat = 0 → A) ∧ (¬ nI b.toNat = 0 → B) := by
  cases b with
  | false => exact br_t rfl (f rfl)
  | true => exact br_f (by decide) (t rfl)
theorem ff_br1 {A B : Prop} {b : Bool} (t : b = true → A) (f : b = false → B) : (nI b.toNat = 1 → A) ∧ (¬ nI b.toNat = 1 → B) := ff_brB (ff_b1 b) t f
theorem ff_cmpX {x z : Nat} (hx : x < 1000) (hz : z < 1000) : (nI x + 1 ≤ 2 * nI z - 3) ↔ decide (x + 4 ≤ 2 * z) = true := by
  rw [decide_eq_true_eq, nI_1, show (2 : Int32) = nI 2 from rfl, show (3 : Int32) = nI 3 from rfl, pk_mul, Int32.le_iff_toInt_le, nI_toInt (by omega), pk_sub_toInt (by omega) (by omega)]
  omega
theorem ff_cmpY {x z : Nat} (hx : x < 1000) (hz : z < 1000) : (2 * nI z - 3 < nI x) ↔ (!decide (x + 3 ≤ 2 * z)) = true := by
  rw [Bool.not_eq_true', decide_eq_false_iff_not, show (2 : Int32) = nI 2 from rfl, show (3 : Int32) = nI 3 from rfl, pk_mul, Int32.lt_iff_toInt_lt, nI_toInt (by omega), pk_sub_toInt (by omega) (by omega)]
  omega
theorem ff_andq {x q : Nat} (hx : x < 2 ^ 31) (hq : q < 2 ^ 31) : (nI x &&& nI q = nI q) ↔ (x &&& q == q) = true := by
  have h : x &&& q ≤ q := Nat.and_le_right
  rw [nx_and, nI_eq (by omega) hq, beq_iff_eq]
theorem ff_andq2 {x q : Nat} (hx : x < 2 ^ 31) (hq : q < 2 ^ 31) : (nI q &&& nI x = nI q) ↔ (q &&& x == q) = true := by
  have h : q &&& x ≤ q := Nat.and_le_left
  rw [nx_and, nI_eq (by omega) hq, beq_iff_eq]
theorem ff_j31 {j : Nat} (h : j ≤ 6) : 2 ^ j < 2 ^ 31 := Nat.pow_lt_pow_right (by decide) (by omega)
theorem ff_end {j : Nat} (h : j ≤ 6) : (1 : Int32) <<< (nI j &&& 31) ≤ nI (2 ^ j) := by
  rw [ff_shl j (by omega)]
  exact Int32.le_refl _
theorem ff_nend {j i : Nat} (h : j ≤ 6) (hi : i < 2 ^ j) : ¬ (1 : Int32) <<< (nI j &&& 31) ≤ nI i := by
  rw [ff_shl j (by omega)]
  exact nI_ge hi (ff_j31 h)
theorem ff_szlt (s : Nat) : ff_sz s < 1000 := by
  have := ff_cn_le s.testBit 12
  unfold ff_sz
  omega
theorem xw_has {post : Int32 → Prop} {s k : Nat} (hs : s < 2 ^ 31) (hk : k < 32) (h : post (nI (s.testBit k).toNat)) : wpX_has post (nI s) (nI k) := by
  unfold wpX_has
  rw [ff_bit hs hk]
  cases hb : s.testBit k with
  | false =>
    rw [hb] at h
    exact br_f (by decide) h
  | true =>
    rw [hb] at h
    exact br_t rfl h
theorem xw_sizeOf {post : Int32 → Prop} {s : Nat} (hs : s < 2 ^ 31) (h : post (nI (ff_sz s))) : wpX_sizeOf post (nI s) := by
  refine loop_0 (fun n i t => wX_sizeOf_4 post (nI s) n t (nI i)) (fun i t => t = nI (ff_cn s.testBit i)) 12 0 rfl ?_ ?_
  · intro n t ht
    subst ht
    exact br_t (by decide) h
  · intro n i t hi ht k
    subst ht
    refine br_f (nI_ge (b := 12) hi (by decide)) ?_
    intro x ex y ey
    rw [ex, ey, ff_bit hs (by omega), nI_add, nI_1]
    exact k _ rfl
theorem xw_barsInside {post : Int32 → Prop} {j p : Nat} {e : Nat → Nat} {s g : Nat} (he : ∀ k, e k < 64) (hs : s < 2 ^ 31) (hg : g < 2 ^ 31) (h : post (nI (ff_inX e s g))) : wpX_barsInside post (nI j, nI p, fun k => nI (e k)) (nI s) (nI g) := by
  refine loop_0 (fun n i t => wX_barsInside_5 post (nI s) (nI g) (nI j) (nI p) (fun k => nI (e k)) n t (nI i)) (fun i t => t = nI (ff_cn (fun k => s.testBit k && (e k &&& g == e k)) i)) 12 0 rfl ?_ ?_
  · intro n t ht
    subst ht
    exact br_t (by decide) h
  · intro n i t hi ht k
    subst ht
    refine br_f (nI_ge (b := 12) hi (by decide)) (xw_has hs (by omega) (ff_br0 (fun hb => ?_) (fun hb => ⟨vp_in_nI hi (by decide), vp_in_nI hi (by decide), ?_⟩)))
    · intro y ey
      rw [ey, nI_1]
      refine k _ ?_
      rw [ff_cn_s, hb, Bool.false_and]
      rfl
    · have hi2 : (nI i).toNatClampNeg = i := nI_clamp (by omega)
      have hei := he i
      rw [hi2]
      refine ff_brB (ff_andq2 hg (by omega)) (fun hc => ?_) (fun hc => ?_)
      · intro x ex y ey
        rw [ex, ey, nI_1, nI_1]
        refine k _ ?_
        rw [ff_cn_s, hb, hc]
        rfl
      · intro y ey
        rw [ey, nI_1]
        refine k _ ?_
        rw [ff_cn_s, hb, hc]
        rfl
theorem xw_staysFree {post : Int32 → Prop} {j p : Nat} {e : Nat → Nat} {s q : Nat} (hj : j ≤ 6) (he : ∀ k, e k < 64) (hs : s < 2 ^ 31) (hq : q < 2 ^ 31) (h : post (nI (ff_st j e s q).toNat)) : wpX_staysFree post (nI j, nI p, fun k => nI (e k)) (nI s) (nI q) := by
  have h31 := ff_j31 hj
  refine loop_0 (fun n i (_ : Unit) => wX_staysFree_2 post (nI s) (nI q) (nI j) (nI p) (fun k => nI (e k)) n (nI i)) (fun i _ => ff_all (ff_okX e s q) i = true) (2 ^ j) () rfl ?_ ?_
  · intro n _ ht
    refine br_t (ff_end hj) ?_
    have e1 : ff_st j e s q = true := ht
    rw [e1] at h
    exact h
  · intro n i _ hi ht k
    have hin := ff_cn_le (fun k => s.testBit k && (e k &&& i == e k)) 12
    refine br_f (ff_nend hj hi) (ff_brB (ff_andq (by omega) hq) (fun hc => ?_) (fun hc => ?_))
    · refine xw_barsInside he hs (by omega) (xw_sizeOf (by omega) (ff_brB (ff_cmpX (x := ff_inX e s i) (by unfold ff_inX; omega) (ff_szlt i)) (fun hd => ?_) (fun hd => ?_)))
      · intro y ey
        rw [ey, nI_1]
        refine k () ?_
        rw [ff_all_s, ht]
        unfold ff_okX
        rw [hd, Bool.or_true]
        rfl
      · have e1 : ff_st j e s q = false := ff_all_f hi (by
          unfold ff_okX
          rw [hd, hc]
          rfl)
        rw [e1] at h
        exact h
    · intro y ey
      rw [ey, nI_1]
      refine k () ?_
      rw [ff_all_s, ht]
      unfold ff_okX
      rw [hc]
      rfl
theorem xw_frameOf {post : Int32 → Prop} {j p : Nat} {e : Nat → Nat} {s : Nat} (hj : j ≤ 6) (he : ∀ k, e k < 64) (hs : s < 2 ^ 31) (h : post (nI (ff_fr j e s 12))) : wpX_frameOf post (nI j, nI p, fun k => nI (e k)) (nI s) := by
  refine loop_0 (fun n i t => wX_frameOf_4 post (nI s) (nI j) (nI p) (fun k => nI (e k)) n t (nI i)) (fun i t => t = nI (ff_fr j e s i)) 12 0 rfl ?_ ?_
  · intro n t ht
    subst ht
    exact br_t (by decide) h
  · intro n i t hi ht k
    subst ht
    refine br_f (nI_ge (b := 12) hi (by decide)) (xw_has hs (by omega) (ff_br0 (fun hb => ?_) (fun hb => ⟨vp_in_nI hi (by decide), ?_⟩)))
    · intro y ey
      rw [ey, nI_1]
      refine k _ ?_
      rw [ff_fr_s, hb, Bool.false_and, if_neg (by decide)]
    · have hi2 : (nI i).toNatClampNeg = i := nI_clamp (by omega)
      have hei := he i
      have hlt := ff_fr_lt j e s i
      have h2 := ff_p2 (k := i) (by omega)
      rw [hi2]
      refine xw_staysFree hj he (by omega) (by omega) (ff_br0 (fun hc => ?_) (fun hc => ?_))
      · intro y ey
        rw [ey, nI_1]
        refine k _ ?_
        rw [ff_fr_s, hb, hc, Bool.true_and, if_neg (by decide)]
      · intro x ex y ey
        rw [ex, ey, nI_1, ff_shl i (by omega), nx_or]
        refine k _ ?_
        rw [ff_fr_s, hb, hc, Bool.true_and, if_pos rfl]
theorem xw_rankOf {post : Int32 → Prop} {j p : Nat} {e : Nat → Nat} {s : Nat} (hj : j ≤ 6) (he : ∀ k, e k < 64) (hs : s < 2 ^ 31) (h : post (nI (ff_sz (ff_fr j e s 12)))) : wpX_rankOf post (nI j, nI p, fun k => nI (e k)) (nI s) := by
  unfold wpX_rankOf
  have hlt := ff_fr_lt j e s 12
  exact xw_frameOf hj he hs (xw_sizeOf (by omega) h)
end
section
theorem xw_joint1 {post : Int32 → Prop} {j p a : Nat} {E : Nat → Int32} (hj : j ≤ 6) (ha : a < j) (h : post 1) : wpX_isJoint post (nI j, nI p, E) (nI a) := br_f (nI_pos (by omega)) (br_f (nI_ge ha (by omega)) h)
theorem xw_joint0 {post : Int32 → Prop} {j p : Nat} {E : Nat → Int32} {x : Int32} (hx : x < 0 ∨ nI j ≤ x) (h : post 0) : wpX_isJoint post (nI j, nI p, E) x := by
  by_cases h0 : x < 0
  · exact br_t h0 h
  · rcases hx with hx | hx
    · exact absurd hx h0
    · exact br_f h0 (br_t hx h)
def ff_bad (j : Nat) (x y : Int32) : Prop := x = y ∨ (x < 0 ∨ nI j ≤ x) ∨ (y < 0 ∨ nI j ≤ y)
theorem ff_case (j : Nat) (hj : j ≤ 6) (x y : Int32) : ff_bad j x y ∨ ∃ a b : Nat, a < j ∧ b < j ∧ a ≠ b ∧ x = nI a ∧ y = nI b := by
  by_cases hxy : x = y
  · exact Or.inl (Or.inl hxy)
  · rcases pk_ix x (n := j) (by omega) with h | h | ⟨a, ha, rfl⟩
    · exact Or.inl (Or.inr (Or.inl (Or.inl h)))
    · exact Or.inl (Or.inr (Or.inl (Or.inr h)))
    · rcases pk_ix y (n := j) (by omega) with h | h | ⟨b, hb, rfl⟩
      · exact Or.inl (Or.inr (Or.inr (Or.inl h)))
      · exact Or.inl (Or.inr (Or.inr (Or.inr h)))
      · exact Or.inr ⟨a, b, ha, hb, fun z => hxy (congrArg nI z), rfl, rfl⟩
theorem xw_pair1 {post : Int32 → Prop} {j p a b : Nat} {E : Nat → Int32} (hj : j ≤ 6) (ha : a < j) (hb : b < j) (hab : a ≠ b) (h : post 1) : wpX_isPair post (nI j, nI p, E) (nI a) (nI b) := by
  refine br_f (fun z => hab ((nI_eq (by omega) (by omega)).mp z)) ?_
  exact xw_joint1 hj ha (br_f (by decide) (xw_joint1 hj hb (br_f (by decide) h)))
theorem xw_pair0 {post : Int32 → Prop} {j p : Nat} {E : Nat → Int32} {x y : Int32} (hj : j ≤ 6) (hx : ff_bad j x y) (h : post 0) : wpX_isPair post (nI j, nI p, E) x y := by
  by_cases hxy : x = y
  · exact br_t hxy h
  · refine br_f hxy ?_
    by_cases h1 : x < 0 ∨ nI j ≤ x
    · exact xw_joint0 h1 (br_t rfl h)
    · rcases pk_ix x (n := j) (by omega) with z | z | ⟨a, ha, rfl⟩
      · exact absurd (Or.inl z) h1
      · exact absurd (Or.inr z) h1
      · refine xw_joint1 hj ha (br_f (by decide) ?_)
        rcases hx with hx | hx | hx
        · exact absurd hx hxy
        · exact absurd hx h1
        · exact xw_joint0 hx (br_t rfl h)
def ff_nobar (p : Nat) (x : Int32) : Prop := x < 0 ∨ nI 12 ≤ x ∨ ∃ k : Nat, k < 12 ∧ x = nI k ∧ p.testBit k = false
theorem ff_barcase (p : Nat) (x : Int32) : ff_nobar p x ∨ ∃ k : Nat, k < 12 ∧ x = nI k ∧ p.testBit k = true := by
  rcases pk_ix x (n := 12) (by omega) with h | h | ⟨k, hk, rfl⟩
  · exact Or.inl (Or.inl h)
  · exact Or.inl (Or.inr (Or.inl h))
  · cases hb : p.testBit k with
    | false => exact Or.inl (Or.inr (Or.inr ⟨k, hk, rfl, hb⟩))
    | true => exact Or.inr ⟨k, hk, rfl, hb⟩
theorem xw_bar1 {post : Int32 → Prop} {j p k : Nat} {E : Nat → Int32} (hp : p < 4096) (hk : k < 12) (hb : p.testBit k = true) (h : post 1) : wpX_isBar post (nI j, nI p, E) (nI k) := by
  refine br_f (nI_pos (by omega)) (br_f (nI_ge (b := 12) hk (by decide)) (xw_has (by omega) (by omega) ?_))
  rw [hb]
  exact br_f (by decide) h
theorem xw_bar0 {post : Int32 → Prop} {j p : Nat} {E : Nat → Int32} {x : Int32} (hp : p < 4096) (hx : ff_nobar p x) (h : post 0) : wpX_isBar post (nI j, nI p, E) x := by
  by_cases h0 : x < 0
  · exact br_t h0 h
  · rcases hx with hx | hx | ⟨k, hk, rfl, hb⟩
    · exact absurd hx h0
    · exact br_f h0 (br_t hx h)
    · refine br_f h0 (br_f (nI_ge (b := 12) hk (by decide)) (xw_has (by omega) (by omega) ?_))
      rw [hb]
      exact br_t rfl h
theorem xw_pairOf {post : Int32 → Prop} {a b : Nat} (ha : a < 31) (hb : b < 31) (h : post (nI (2 ^ a ||| 2 ^ b))) : wpX_pairOf post (nI a) (nI b) := by
  unfold wpX_pairOf
  rw [ff_shl a ha, ff_shl b hb, nx_or]
  exact h
theorem ff_pr64 {a b : Nat} (ha : a < 6) (hb : b < 6) : 2 ^ a ||| 2 ^ b < 64 := Nat.or_lt_two_pow (n := 6) (Nat.pow_lt_pow_right (by decide) ha) (Nat.pow_lt_pow_right (by decide) hb)
theorem ff_hd_ne {j : Nat} {e : Nat → Nat} {F a b : Nat} (ha : a < j) (hb : b < j) (hab : a ≠ b) : ff_hd j e F a b = !ff_st j e F (2 ^ a ||| 2 ^ b) := by
  unfold ff_hd
  rw [decide_eq_true ha, decide_eq_true hb, decide_eq_false hab]
  rfl
theorem ff_hd_self {j : Nat} {e : Nat → Nat} {F a : Nat} : ff_hd j e F a a = false := by
  unfold ff_hd
  rw [decide_eq_true (rfl : a = a)]
  cases decide (a < j) <;> rfl
theorem xw_jointsHeldTo {post : Int32 → Prop} {j p : Nat} {e : Nat → Nat} {F a : Nat} (hj : j ≤ 6) (he : ∀ k, e k < 64) (hF : F < 2 ^ 31) (ha : a < j) (h : post (nI (ff_ht (ff_hd j e F) a j))) : wpX_jointsHeldTo post (nI j, nI p, fun k => nI (e k)) (nI F) (nI a) := by
  intro x ex
  rw [ex, ff_shl a (by omega)]
  refine loop_0 (fun n i t => wX_jointsHeldTo_7 post (nI F) (nI a) (nI j) (nI p) (fun k => nI (e k)) n t (nI i)) (fun i t => t = nI (ff_ht (ff_hd j e F) a i)) j _ rfl ?_ ?_
  · intro n t ht
    subst ht
    exact br_t (Int32.le_refl _) h
  · intro n i t hi ht k
    subst ht
    have h64 := ff_pr64 (a := a) (b := i) (by omega) (by omega)
    refine br_f (nI_ge hi (by omega)) (xw_pairOf (by omega) (by omega) (pk_eq i a (fun z => ?_) (fun z => ?_)))
    · intro y ey
      rw [ey, nI_1]
      refine k _ ?_
      rw [ff_ht_s, z, ff_hd_self, if_neg (by decide)]
    · have hd := ff_hd_ne (j := j) (e := e) (F := F) ha hi (fun w => z w.symm)
      refine xw_staysFree hj he hF (by omega) (ff_br0 (fun hc => ?_) (fun hc => ?_))
      · intro x ex y ey
        rw [ex, ey, nI_1, ff_shl i (by omega), nx_or]
        refine k _ ?_
        rw [ff_ht_s, hd, hc, if_pos (by decide)]
      · intro y ey
        rw [ey, nI_1]
        refine k _ ?_
        rw [ff_ht_s, hd, hc, if_neg (by decide)]
theorem xw_jointsHeldToAll {post : Int32 → Prop} {j p : Nat} {e : Nat → Nat} {F g : Nat} (hj : j ≤ 6) (he : ∀ k, e k < 64) (hF : F < 2 ^ 31) (hg : g < 2 ^ 31) (h : post (nI (ff_ha (ff_hd j e F) j g j))) : wpX_jointsHeldToAll post (nI j, nI p, fun k => nI (e k)) (nI F) (nI g) := by
  intro x ex
  have h1 : (1 : Nat) ≤ 2 ^ j := Nat.one_le_two_pow
  rw [ex, ff_shl j (by omega), show (1 : Int32) = nI 1 from rfl, pk_sub h1]
  refine loop_0 (fun n i t => wX_jointsHeldToAll_12 post (nI F) (nI g) (nI j) (nI p) (fun k => nI (e k)) n t (nI i)) (fun i t => t = nI (ff_ha (ff_hd j e F) j g i)) j _ rfl ?_ ?_
  · intro n t ht
    subst ht
    exact br_t (Int32.le_refl _) h
  · intro n i t hi ht k
    subst ht
    refine br_f (nI_ge hi (by omega)) (xw_has hg (by omega) (ff_br0 (fun hb => ?_) (fun hb => ?_)))
    · intro y ey
      rw [ey, nI_1]
      refine k _ ?_
      rw [ff_ha_s, hb, if_neg (by decide)]
    · refine xw_jointsHeldTo hj he hF hi ?_
      intro x ex y ey
      rw [ex, ey, nI_1, nx_and]
      refine k _ ?_
      rw [ff_ha_s, hb, if_pos rfl]
def ff_bX (h : Nat → Nat → Bool) (j g : Nat) : Bool := decide (3 ≤ ff_sz g) && (ff_ha h j g j == g)
theorem xw_bodies {post : Int32 → Prop} {j p : Nat} {e : Nat → Nat} (hj : j ≤ 6) (he : ∀ k, e k < 64) (hp : p < 4096) (h : post (nI (ff_cn (ff_bX (ff_hd j e (ff_fr j e p 12)) j) (2 ^ j)))) : wpX_bodies post (nI j, nI p, fun k => nI (e k)) := by
  have h31 := ff_j31 hj
  have hlt := ff_fr_lt j e p 12
  unfold wpX_bodies
  refine xw_frameOf hj he (by omega) ?_
  refine loop_0 (fun n i t => wX_bodies_13 post (nI (ff_fr j e p 12)) (nI j) (nI p) (fun k => nI (e k)) n t (nI i)) (fun i t => t = nI (ff_cn (ff_bX (ff_hd j e (ff_fr j e p 12)) j) i)) (2 ^ j) _ rfl ?_ ?_
  · intro n t ht
    subst ht
    exact br_t (ff_end hj) h
  · intro n i t hi ht k
    subst ht
    refine br_f (ff_nend hj hi) (xw_sizeOf (by omega) (pk_lt (ff_sz i) 3 (fun z => ?_) (fun z => ?_) rfl rfl (by have := ff_szlt i; omega) (by decide)))
    · intro y ey
      rw [ey, nI_1]
      refine k _ ?_
      rw [ff_cn_s]
      unfold ff_bX
      rw [decide_eq_false (by omega)]
      rfl
    · have hl := ff_ha_lt (ff_hd j e (ff_fr j e p 12)) j i j
      refine xw_jointsHeldToAll hj he (by omega) (by omega) (pk_eq (ff_ha (ff_hd j e (ff_fr j e p 12)) j i j) i (fun y => ?_) (fun y => ?_) rfl rfl (by omega) (by omega))
      · intro x ex w ew
        rw [ex, ew, nI_1, nI_1]
        refine k _ ?_
        rw [ff_cn_s (n := i)]
        unfold ff_bX
        rw [decide_eq_true z, beq_iff_eq.mpr y]
        rfl
      · intro w ew
        rw [ew, nI_1]
        refine k _ ?_
        rw [ff_cn_s (n := i)]
        have y2 : (ff_ha (ff_hd j e (ff_fr j e p 12)) j i j == i) = false := by
          cases q : (ff_ha (ff_hd j e (ff_fr j e p 12)) j i j == i) with
          | false => rfl
          | true => exact absurd (beq_iff_eq.mp q) y
        have b2 : ff_bX (ff_hd j e (ff_fr j e p 12)) j i = false := by
          unfold ff_bX
          rw [y2, Bool.and_false]
        rw [b2]
        rfl
def ff_rg (q : Nat → Bool) (k : Nat) : Nat → Nat
  | 0 => 2 ^ k
  | f + 1 => if q f = true then ff_rg q k f ||| 2 ^ f else ff_rg q k f
theorem ff_rg_s (q : Nat → Bool) (k f : Nat) : ff_rg q k (f + 1) = if q f = true then ff_rg q k f ||| 2 ^ f else ff_rg q k f := rfl
def ff_rq (j : Nat) (e : Nat → Nat) (F k f : Nat) : Bool := F.testBit f && ff_st j e (ff_rm F f) (e k)
theorem xw_ring {post : Int32 → Prop} {j p : Nat} {e : Nat → Nat} {F k : Nat} (hj : j ≤ 6) (he : ∀ k, e k < 64) (hF : F < 4096) (hk : k < 12) (h : post (nI (ff_rg (ff_rq j e F k) k 12))) : ∃ n, wX_ring_34 post (nI k) (nI F) (nI j) (nI p) (fun k => nI (e k)) n (nI (2 ^ k)) 0 := by
  refine loop_0 (fun n i t => wX_ring_34 post (nI k) (nI F) (nI j) (nI p) (fun k => nI (e k)) n t (nI i)) (fun i t => t = nI (ff_rg (ff_rq j e F k) k i)) 12 _ rfl ?_ ?_
  · intro n t ht
    subst ht
    exact br_t (by decide) h
  · intro n i t hi ht K
    subst ht
    refine br_f (nI_ge (b := 12) hi (by decide)) (xw_has (by omega) (by omega) (ff_br0 (fun hb => ?_) (fun hb => ⟨vp_in_nI hk (by decide), ?_⟩)))
    · intro y ey
      rw [ey, nI_1]
      refine K _ ?_
      have q : ff_rq j e F k i = false := by
        unfold ff_rq
        rw [hb, Bool.false_and]
      rw [ff_rg_s, q, if_neg (by decide)]
    · have hi2 : (nI k).toNatClampNeg = k := nI_clamp (by omega)
      have hek := he k
      have hle := ff_rm_le F i
      rw [hi2, ff_shl i (by omega), ff_rmI]
      refine xw_staysFree hj he (by omega) (by omega) (ff_br0 (fun hc => ?_) (fun hc => ?_))
      · intro y ey
        rw [ey, nI_1]
        refine K _ ?_
        have q : ff_rq j e F k i = false := by
          unfold ff_rq
          rw [hb, hc, Bool.true_and]
        rw [ff_rg_s, q, if_neg (by decide)]
      · intro x ex y ey
        rw [ex, ey, nI_1, nx_or]
        refine K _ ?_
        have q : ff_rq j e F k i = true := by
          unfold ff_rq
          rw [hb, hc, Bool.true_and]
        rw [ff_rg_s, q, if_pos rfl]
end
section
theorem yw_joint1 {post : Int32 → Prop} {j a : Nat} {T E H : Nat → Int32} (hj : j ≤ 6) (ha : a < j) (h : post 1) : wpY_joint post (nI j, T, E, H) (nI a) := br_f (nI_pos (by omega)) (br_f (nI_ge ha (by omega)) h)
theorem yw_joint0 {post : Int32 → Prop} {j : Nat} {T E H : Nat → Int32} {x : Int32} (hx : x < 0 ∨ nI j ≤ x) (h : post 0) : wpY_joint post (nI j, T, E, H) x := by
  by_cases h0 : x < 0
  · exact br_t h0 h
  · rcases hx with hx | hx
    · exact absurd hx h0
    · exact br_f h0 (br_t hx h)
def ff_lb (p : Nat) : Nat → Nat
  | 0 => 0
  | i + 1 => if p.testBit i = true then ff_lb p i ||| 2 ^ i else ff_lb p i
theorem ff_lb_s (p i : Nat) : ff_lb p (i + 1) = if p.testBit i = true then ff_lb p i ||| 2 ^ i else ff_lb p i := rfl
theorem ff_lb_tb (p n i : Nat) : (ff_lb p n).testBit i = true ↔ i < n ∧ p.testBit i = true := by
  induction n with
  | zero =>
    rw [show ff_lb p 0 = 0 from rfl, Nat.zero_testBit]
    exact ⟨fun z => absurd z (by decide), fun z => absurd z.1 (Nat.not_lt_zero _)⟩
  | succ n ih =>
    rw [ff_lb_s]
    cases hb : p.testBit n with
    | false =>
      rw [if_neg (by decide), ih]
      constructor
      · exact fun z => ⟨by omega, z.2⟩
      · intro z
        rcases Nat.lt_or_ge i n with w | w
        · exact ⟨w, z.2⟩
        · have e : i = n := by omega
          rw [e, hb] at z
          exact absurd z.2 (by decide)
    | true =>
      rw [if_pos rfl, ff_or_tb, Bool.or_eq_true, decide_eq_true_eq, ih]
      constructor
      · intro z
        rcases z with z | z
        · exact ⟨by omega, z.2⟩
        · exact ⟨by omega, by rw [← z]; exact hb⟩
      · intro z
        rcases Nat.lt_or_ge i n with w | w
        · exact Or.inl ⟨w, z.2⟩
        · exact Or.inr (by omega)
theorem ff_lb_p {p : Nat} (hp : p < 4096) : ff_lb p 12 = p := by
  apply Nat.eq_of_testBit_eq
  intro i
  rw [Bool.eq_iff_iff, ff_lb_tb]
  constructor
  · exact fun z => z.2
  · intro z
    refine ⟨?_, z⟩
    rcases Nat.lt_or_ge i 12 with w | w
    · exact w
    · rw [ff_tb (n := 12) hp w] at z
      exact absurd z (by decide)
theorem yw_bars {post : Int32 → Prop} {j p : Nat} {E H : Nat → Int32} (hp : p < 4096) (h : post (nI p)) : wpY_bars post (nI j, fun k => nI (p.testBit k).toNat, E, H) := by
  refine loop_0 (fun n i t => wY_bars_4 post (nI j) (fun k => nI (p.testBit k).toNat) E H n t (nI i)) (fun i t => t = nI (ff_lb p i)) 12 0 rfl ?_ ?_
  · intro n t ht
    subst ht
    rw [ff_lb_p hp]
    exact br_t (by decide) h
  · intro n i t hi ht k
    subst ht
    have hi2 : (nI i).toNatClampNeg = i := nI_clamp (by omega)
    refine br_f (nI_ge (b := 12) hi (by decide)) ⟨vp_in_nI (by omega) (by decide), ?_⟩
    rw [hi2]
    refine ff_br0 (fun hb => ?_) (fun hb => ?_)
    · intro y ey
      rw [ey, nI_1]
      refine k _ ?_
      rw [ff_lb_s, hb, if_neg (by decide)]
    · intro x ex y ey
      rw [ex, ey, nI_1, ff_shl i (by omega), nx_or]
      refine k _ ?_
      rw [ff_lb_s, hb, if_pos rfl]
theorem yw_count {post : Int32 → Prop} {j : Nat} {T E H : Nat → Int32} {s : Nat} (hs : s < 2 ^ 31) (h : post (nI (ff_cn s.testBit 13))) : wpY_count post (nI j, T, E, H) (nI s) := by
  refine loop_0 (fun n i t => wY_count_4 post (nI s) (nI j) T E H n t (nI i)) (fun i t => t = nI (ff_cn s.testBit i)) 13 0 rfl ?_ ?_
  · intro n t ht
    subst ht
    exact br_t (by decide) h
  · intro n i t hi ht k
    subst ht
    refine br_f (nI_ge (b := 13) hi (by decide)) ?_
    intro x ex y ey
    rw [ex, ey, ff_bit hs (by omega), nI_add, nI_1]
    exact k _ rfl
theorem yw_inside {post : Int32 → Prop} {j : Nat} {T : Nat → Int32} {A B : Nat → Nat} {s g : Nat} (hA : ∀ k, A k < 6) (hB : ∀ k, B k < 6) (hs : s < 2 ^ 31) (hg : g < 2 ^ 31) (h : post (nI (ff_inY A B s g))) : wpY_inside post (nI j, T, fun k => nI (A k), fun k => nI (B k)) (nI s) (nI g) := by
  refine loop_0 (fun n i t => wY_inside_5 post (nI s) (nI g) (nI j) T (fun k => nI (A k)) (fun k => nI (B k)) n t (nI i)) (fun i t => t = nI (ff_cn (fun k => s.testBit k && (g.testBit (A k) && g.testBit (B k))) i)) 13 0 rfl ?_ ?_
  · intro n t ht
    subst ht
    exact br_t (by decide) h
  · intro n i t hi ht k
    subst ht
    have hi2 : (nI i).toNatClampNeg = i := nI_clamp (by omega)
    have a6 := hA i
    have b6 := hB i
    have no : (s.testBit i && (g.testBit (A i) && g.testBit (B i))) = false → wY_inside_56 post (wY_inside_5 post (nI s) (nI g) (nI j) T (fun k => nI (A k)) (fun k => nI (B k)) n) (nI s) (nI g) (nI (ff_cn (fun k => s.testBit k && (g.testBit (A k) && g.testBit (B k))) i)) (nI i) (nI j) T (fun k => nI (A k)) (fun k => nI (B k)) := by
      intro hb
      refine br_t rfl ?_
      intro y ey
      rw [ey, nI_1]
      refine k _ ?_
      rw [ff_cn_s, hb]
      rfl
    refine br_f (nI_ge (b := 13) hi (by decide)) ?_
    rw [ff_bit hs (by omega)]
    refine ff_br1 (fun hb => ⟨vp_in_nI hi (by decide), ?_⟩) (fun hb => no (by rw [hb, Bool.false_and]))
    rw [hi2, ff_bit hg (by omega)]
    refine ff_br1 (fun hc => ⟨vp_in_nI hi (by decide), ?_⟩) (fun hc => no (by rw [hc, Bool.false_and, Bool.and_false]))
    rw [ff_bit hg (by omega)]
    refine ff_br1 (fun hd => ?_) (fun hd => no (by rw [hd, Bool.and_false, Bool.and_false]))
    refine br_f (by decide) ?_
    intro x ex y ey
    rw [ex, ey, nI_1, nI_1]
    refine k _ ?_
    rw [ff_cn_s (n := i), hb, hc, hd]
    rfl
theorem ff_nb (b : Bool) : narrow .boolean (.int (nI b.toNat)) = .int (nI b.toNat) := by cases b <;> rfl
theorem ff_all_le {p : Nat → Bool} {i n : Nat} (h : i ≤ n) (hf : ff_all p i = false) : ff_all p n = false := by
  cases z : ff_all p n with
  | false => rfl
  | true =>
    have y := (ff_all_iff i).mpr (fun k hk => (ff_all_iff n).mp z k (by omega))
    rw [y] at hf
    exact absurd hf (by decide)
theorem yw_loose {post : Int32 → Prop} {j : Nat} {T : Nat → Int32} {A B : Nat → Nat} {s : Nat} (hj : j ≤ 6) (hA : ∀ k, A k < 6) (hB : ∀ k, B k < 6) (hs : s < 2 ^ 31) (h : post (nI (ff_lo j A B s).toNat)) : wpY_loose post (nI j, T, fun k => nI (A k), fun k => nI (B k)) (nI s) := by
  have h31 := ff_j31 hj
  refine loop_0 (fun n i t => wY_loose_4 post (nI s) (nI j) T (fun k => nI (A k)) (fun k => nI (B k)) n t (nI i)) (fun i t => t = nI (ff_all (ff_okY A B s) i).toNat) (2 ^ j) 1 rfl ?_ ?_
  · intro n t ht
    subst ht
    exact br_t (ff_end hj) ⟨ff_nb _, h⟩
  · intro n i t hi ht k
    subst ht
    have c13 := ff_cn_le i.testBit 13
    have cin := ff_cn_le (fun k => s.testBit k && (i.testBit (A k) && i.testBit (B k))) 13
    refine br_f (ff_nend hj hi) (ff_br0 (fun hb => ⟨ff_nb _, ?_⟩) (fun hb => yw_count (by omega) (pk_lt (ff_cn i.testBit 13) 2 (fun z => ?_) (fun z => ?_) rfl rfl (by omega) (by decide))))
    · have e1 : ff_lo j A B s = false := ff_all_le (Nat.le_of_lt hi) hb
      rw [e1] at h
      rw [hb]
      exact h
    · intro y ey
      rw [ey, nI_1]
      refine k _ ?_
      rw [ff_all_s, hb]
      unfold ff_okY
      rw [decide_eq_true z]
      rfl
    · refine yw_inside hA hB hs (by omega) (ff_brB (ff_cmpY (x := ff_inY A B s i) (by unfold ff_inY; omega) (by omega)) (fun hc => ?_) (fun hc => ?_))
      · intro y ey
        rw [ey, nI_1]
        refine k _ ?_
        rw [Bool.not_eq_true'] at hc
        rw [ff_all_s, hb]
        unfold ff_okY
        rw [decide_eq_false (by omega), hc]
        rfl
      · intro y ey
        rw [ey, nI_1]
        refine k _ ?_
        rw [Bool.not_eq_false'] at hc
        rw [ff_all_s, hb]
        unfold ff_okY
        rw [hc, Bool.or_true]
        rfl
theorem yw_taken {post : Int32 → Prop} {j : Nat} {T : Nat → Int32} {A B : Nat → Nat} {s : Nat} (hj : j ≤ 6) (hA : ∀ k, A k < 6) (hB : ∀ k, B k < 6) (hs : s < 2 ^ 31) (h : post (nI (ff_tk j A B s 13))) : wpY_taken post (nI j, T, fun k => nI (A k), fun k => nI (B k)) (nI s) := by
  refine loop_0 (fun n i t => wY_taken_4 post (nI s) (nI j) T (fun k => nI (A k)) (fun k => nI (B k)) n t (nI i)) (fun i t => t = nI (ff_tk j A B s i)) 13 0 rfl ?_ ?_
  · intro n t ht
    subst ht
    exact br_t (by decide) h
  · intro n i t hi ht k
    subst ht
    have no : (s.testBit i && ff_lo j A B (ff_tk j A B s i ||| 2 ^ i)) = false → wY_taken_35 post (wY_taken_4 post (nI s) (nI j) T (fun k => nI (A k)) (fun k => nI (B k)) n) (nI s) (nI (ff_tk j A B s i)) (nI i) (nI j) T (fun k => nI (A k)) (fun k => nI (B k)) := by
      intro hb
      refine br_t rfl ?_
      intro y ey
      rw [ey, nI_1]
      refine k _ ?_
      rw [ff_tk_s, hb, if_neg (by decide)]
    have hlt : ff_tk j A B s i ||| 2 ^ i < 2 ^ 13 := Nat.or_lt_two_pow (Nat.lt_of_lt_of_le (ff_tk_lt j A B s i) (Nat.pow_le_pow_right (by decide) (by omega))) (Nat.pow_lt_pow_right (by decide) hi)
    refine br_f (nI_ge (b := 13) hi (by decide)) ?_
    rw [ff_bit hs (by omega)]
    refine ff_br1 (fun hb => ?_) (fun hb => no (by rw [hb, Bool.false_and]))
    rw [ff_shl i (by omega), nx_or]
    refine yw_loose hj hA hB (by omega) (ff_br0 (fun hc => no (by rw [hc, Bool.and_false])) (fun hc => ?_))
    refine br_f (by decide) ?_
    intro x ex y ey
    rw [ex, ey, nI_1, ff_shl i (by omega), nx_or]
    refine k _ ?_
    rw [ff_tk_s, hb, hc, Bool.true_and, if_pos rfl]
theorem yw_rankOf {post : Int32 → Prop} {j : Nat} {T : Nat → Int32} {A B : Nat → Nat} {s : Nat} (hj : j ≤ 6) (hA : ∀ k, A k < 6) (hB : ∀ k, B k < 6) (hs : s < 2 ^ 31) (h : post (nI (ff_cn (ff_tk j A B s 13).testBit 13))) : wpY_rankOf post (nI j, T, fun k => nI (A k), fun k => nI (B k)) (nI s) := by
  have hlt := ff_tk_lt j A B s 13
  unfold wpY_rankOf
  exact yw_taken hj hA hB hs (yw_count (by omega) h)
theorem yw_rankIn {post : Int32 → Prop} {j p : Nat} {T : Nat → Int32} {e A B : Nat → Nat} {s : Nat} (O : ff_Ok j p e A B) (hs : ∀ i, s.testBit i = true → p.testBit i = true) (h : post (nI (ff_sz (ff_fr j e s 12)))) : wpY_rankOf post (nI j, T, fun k => nI (A k), fun k => nI (B k)) (nI s) := by
  have hlt : s < 2 ^ 12 := ff_lt_of (fun i hi => (ff_sub O (hs i hi)).1)
  refine yw_rankOf O.2.1 O.2.2.2.2.1 O.2.2.2.2.2.1 (by omega) ?_
  rw [ff_tk13 O hs, ff_sz13 (ff_fr_lt j e s 12)]
  exact h
end
section
def ff_up (A : Nat → Nat) (i x : Nat) : Nat → Nat := fun k => if k = i then x else A k
theorem ff_updI (A : Nat → Nat) (i x : Nat) : upd (fun k => nI (A k)) i (nI x) = fun k => nI (ff_up A i x k) := by
  funext k
  unfold upd ff_up
  by_cases h : k = i
  · rw [if_pos h, if_pos h]
  · rw [if_neg h, if_neg h]
theorem ff_OkU {j p : Nat} {e A B : Nat → Nat} (O : ff_Ok j p e A B) {a b : Nat} (ha : a < 6) (hb : b < 6) : ff_Ok j p e (ff_up A 12 a) (ff_up B 12 b) := by
  have O' := O
  obtain ⟨h1, h2, h3, h4, h5, h6, h7⟩ := O
  refine ⟨h1, h2, h3, h4, fun k => ?_, fun k => ?_, fun k hk => ?_⟩
  · unfold ff_up
    split
    · exact ha
    · exact h5 k
  · unfold ff_up
    split
    · exact hb
    · exact h6 k
  · have hk2 := (ff_sub O' hk).1
    unfold ff_up
    rw [if_neg (by omega), if_neg (by omega)]
    exact h7 k hk
theorem yw_held0 {post : Int32 → SY → Prop} {j : Nat} {T E H : Nat → Int32} {x y : Int32} (hj : j ≤ 6) (hx : ff_bad j x y) (h : post 0 (nI j, T, E, H)) : wpY_held post (nI j, T, E, H) x y := by
  by_cases hxy : x = y
  · exact br_t hxy h
  · refine br_f hxy ?_
    by_cases h1 : x < 0 ∨ nI j ≤ x
    · exact yw_joint0 h1 (br_t rfl h)
    · rcases pk_ix x (n := j) (by omega) with z | z | ⟨a, ha, rfl⟩
      · exact absurd (Or.inl z) h1
      · exact absurd (Or.inr z) h1
      · refine yw_joint1 hj ha (br_f (by decide) ?_)
        rcases hx with hx | hx | hx
        · exact absurd hx hxy
        · exact absurd hx h1
        · exact yw_joint0 hx (br_t rfl h)
theorem yw_held1 {post : Int32 → SY → Prop} {j p : Nat} {e A B : Nat → Nat} {a b : Nat} (O : ff_Ok j p e A B) (ha : a < j) (hb : b < j) (hab : a ≠ b) (h : post (nI (ff_hd j e (ff_fr j e p 12) a b).toNat) (nI j, fun k => nI (p.testBit k).toNat, fun k => nI (ff_up A 12 a k), fun k => nI (ff_up B 12 b k))) : wpY_held post (nI j, fun k => nI (p.testBit k).toNat, fun k => nI (A k), fun k => nI (B k)) (nI a) (nI b) := by
  have hj := O.2.1
  have hp := O.2.2.1
  have O2 := ff_OkU O (a := a) (b := b) (by omega) (by omega)
  have hn : ff_up A 12 a 12 = a := if_pos rfl
  have hm : ff_up B 12 b 12 = b := if_pos rfl
  have H := ff_held O2 (by rw [hn, hm]; exact hab)
  rw [hn, hm] at H
  rw [ff_hd_ne ha hb hab] at h
  have c1 := ff_cn_le (ff_tk j (ff_up A 12 a) (ff_up B 12 b) (p ||| 4096) 13).testBit 13
  have c2 := ff_cn_le (ff_tk j (ff_up A 12 a) (ff_up B 12 b) p 13).testBit 13
  have hor : p ||| 4096 < 2 ^ 13 := Nat.or_lt_two_pow (by omega) (by decide)
  refine br_f (fun z => hab ((nI_eq (by omega) (by omega)).mp z)) ?_
  refine yw_joint1 hj ha (br_f (by decide) (yw_joint1 hj hb (br_f (by decide) ?_)))
  intro as' eas bs' ebs
  rw [ff_updI] at eas ebs
  subst eas ebs
  refine yw_bars hp ?_
  rw [show (4096 : Int32) = nI 4096 from rfl, nx_or]
  refine yw_rankOf hj O2.2.2.2.2.1 O2.2.2.2.2.2.1 (by omega) (yw_rankOf hj O2.2.2.2.2.1 O2.2.2.2.2.2.1 (by omega) ?_)
  refine pk_eq _ _ (fun z => ?_) (fun z => ?_) rfl rfl (by omega) (by omega)
  · rw [H.mp z] at h
    exact h
  · cases q : ff_st j e (ff_fr j e p 12) (2 ^ a ||| 2 ^ b) with
    | false => exact absurd (H.mpr q) z
    | true =>
      rw [q] at h
      exact h
theorem yw_heldA {post : Int32 → SY → Prop} {j p : Nat} {e A B : Nat → Nat} {a b : Nat} (O : ff_Ok j p e A B) (ha : a < j) (hb : b < j) (h : ∀ A' B' : Nat → Nat, ff_Ok j p e A' B' → post (nI (ff_hd j e (ff_fr j e p 12) a b).toNat) (nI j, fun k => nI (p.testBit k).toNat, fun k => nI (A' k), fun k => nI (B' k))) : wpY_held post (nI j, fun k => nI (p.testBit k).toNat, fun k => nI (A k), fun k => nI (B k)) (nI a) (nI b) := by
  have hj := O.2.1
  by_cases hab : a = b
  · subst hab
    refine yw_held0 hj (Or.inl rfl) ?_
    have q := h A B O
    rw [ff_hd_self] at q
    exact q
  · exact yw_held1 O ha hb hab (h _ _ (ff_OkU O (by omega) (by omega)))
theorem yw_heldTo {post : Int32 → SY → Prop} {j p : Nat} {e A B : Nat → Nat} {a : Nat} (O : ff_Ok j p e A B) (ha : a < j) (h : ∀ A' B' : Nat → Nat, ff_Ok j p e A' B' → post (nI (ff_ht (ff_hd j e (ff_fr j e p 12)) a j)) (nI j, fun k => nI (p.testBit k).toNat, fun k => nI (A' k), fun k => nI (B' k))) : wpY_heldTo post (nI j, fun k => nI (p.testBit k).toNat, fun k => nI (A k), fun k => nI (B k)) (nI a) := by
  have hj := O.2.1
  unfold wpY_heldTo
  dsimp only
  refine yw_joint1 hj ha ?_
  refine br_f (by decide) ?_
  intro x ex
  rw [ex, ff_shl a (by omega)]
  refine loop_0 (fun n i (t : Int32 × (Nat → Nat) × (Nat → Nat)) => wY_heldTo_18 post (nI a) n t.1 (nI i) (nI j) (fun k => nI (p.testBit k).toNat) (fun k => nI (t.2.1 k)) (fun k => nI (t.2.2 k))) (fun i t => t.1 = nI (ff_ht (ff_hd j e (ff_fr j e p 12)) a i) ∧ ff_Ok j p e t.2.1 t.2.2) j (nI (2 ^ a), A, B) ⟨rfl, O⟩ ?_ ?_
  · intro n t ht
    obtain ⟨t1, A', B'⟩ := t
    obtain ⟨h1, h2⟩ := ht
    dsimp only at h1 h2
    subst h1
    exact br_t (Int32.le_refl _) (h _ _ h2)
  · intro n i t hi ht k
    obtain ⟨t1, A', B'⟩ := t
    obtain ⟨h1, h2⟩ := ht
    dsimp only at h1 h2
    subst h1
    refine br_f (nI_ge hi (by omega)) (yw_joint1 hj ha (br_f (by decide) ?_))
    refine yw_heldA h2 ha hi (fun A2 B2 O2 => ff_br0 (fun hb => ?_) (fun hb => ?_))
    · intro y ey
      rw [ey, nI_1]
      refine k (_, A2, B2) ⟨?_, O2⟩
      rw [ff_ht_s, hb, if_neg (by decide)]
    · intro x ex y ey
      rw [ex, ey, nI_1, ff_shl i (by omega), nx_or]
      refine k (_, A2, B2) ⟨?_, O2⟩
      rw [ff_ht_s, hb, if_pos rfl]
      rfl
theorem ff_tblt {g j a : Nat} (hg : g < 2 ^ j) (h : g.testBit a = true) : a < j := by
  rcases Nat.lt_or_ge a j with w | w
  · exact w
  · rw [ff_tb hg w] at h
    exact absurd h (by decide)
theorem yw_body {post : Int32 → SY → Prop} {j p : Nat} {e A B : Nat → Nat} {g : Nat} (O : ff_Ok j p e A B) (hg : g < 2 ^ j) (h : ∀ A' B' : Nat → Nat, ff_Ok j p e A' B' → post (nI (ff_bd (ff_hd j e (ff_fr j e p 12)) j g).toNat) (nI j, fun k => nI (p.testBit k).toNat, fun k => nI (A' k), fun k => nI (B' k))) : wpY_body post (nI j, fun k => nI (p.testBit k).toNat, fun k => nI (A k), fun k => nI (B k)) (nI g) := by
  have hj := O.2.1
  have h31 := ff_j31 hj
  have hbd : ff_bd (ff_hd j e (ff_fr j e p 12)) j g = ff_all (ff_bp (ff_hd j e (ff_fr j e p 12)) g) 36 := by
    unfold ff_bd
    rw [decide_eq_true hg, Bool.true_and]
  rw [hbd] at h
  refine br_f (ff_nend hj hg) ?_
  refine loop_0 (fun n i (t : Int32 × (Nat → Nat) × (Nat → Nat)) => wY_body_18 post (nI g) n t.1 (nI i) (nI j) (fun k => nI (p.testBit k).toNat) (fun k => nI (t.2.1 k)) (fun k => nI (t.2.2 k))) (fun i t => t.1 = nI (ff_all (ff_bp (ff_hd j e (ff_fr j e p 12)) g) i).toNat ∧ ff_Ok j p e t.2.1 t.2.2) 36 (1, A, B) ⟨rfl, O⟩ ?_ ?_
  · intro n t ht
    obtain ⟨t1, A', B'⟩ := t
    obtain ⟨h1, h2⟩ := ht
    dsimp only at h1 h2
    subst h1
    exact br_t (by decide) ⟨ff_nb _, h _ _ h2⟩
  · intro n i t hi ht k
    obtain ⟨t1, A', B'⟩ := t
    obtain ⟨h1, h2⟩ := ht
    dsimp only at h1 h2
    subst h1
    refine br_f (nI_ge (b := 36) hi (by decide)) (ff_br0 (fun hb => ⟨ff_nb _, ?_⟩) (fun hb => ⟨by decide, ?_⟩))
    · have e1 := ff_all_le (n := 36) (by omega) hb
      have q := h _ _ h2
      rw [e1] at q
      rw [hb]
      exact q
    · intro x4 ex4
      refine ⟨by decide, ?_⟩
      intro x5 ex5
      rw [show (6 : Int32) = nI 6 from rfl, pk_div (by omega) (by decide) (by decide)] at ex4
      rw [show (6 : Int32) = nI 6 from rfl, pk_rem (by omega) (by decide) (by decide)] at ex5
      subst ex4 ex5
      have no : ff_bp (ff_hd j e (ff_fr j e p 12)) g i = true → wY_body_71 post (wY_body_18 post (nI g) n) (nI g) (nI i) (nI (i / 6)) (nI (i % 6)) (nI j) (fun k => nI (p.testBit k).toNat) (fun k => nI (A' k)) (fun k => nI (B' k)) := by
        intro hq
        refine br_t rfl ?_
        intro y ey
        rw [ey, nI_1]
        refine k (_, A', B') ⟨?_, h2⟩
        rw [ff_all_s, hb, hq]
        rfl
      refine pk_le (i % 6) (i / 6) (fun z => no ?_) (fun z => ?_)
      · unfold ff_bp
        rw [decide_eq_false (by omega), Bool.false_and]
        rfl
      · rw [ff_bit (by omega) (by omega)]
        refine ff_br1 (fun hc => ?_) (fun hc => no ?_)
        · rw [ff_bit (by omega) (by omega)]
          refine ff_br1 (fun hd => ?_) (fun hd => no ?_)
          · refine br_f (by decide) (yw_heldA h2 (ff_tblt hg hc) (ff_tblt hg hd) (fun A2 B2 O2 => ff_br0 (fun hh => ?_) (fun hh => ?_)))
            · intro y ey
              rw [ey, nI_1]
              refine k (_, A2, B2) ⟨?_, O2⟩
              rw [ff_all_s, hb]
              unfold ff_bp
              rw [decide_eq_true z, hc, hd, hh]
              rfl
            · intro y ey
              rw [ey, nI_1]
              refine k (_, A2, B2) ⟨?_, O2⟩
              rw [ff_all_s, hb]
              unfold ff_bp
              rw [hh, Bool.or_true]
              rfl
          · unfold ff_bp
            rw [hd, Bool.and_false, Bool.and_false]
            rfl
        · unfold ff_bp
          rw [hc, Bool.false_and, Bool.and_false]
          rfl
def ff_mx (h : Nat → Nat → Bool) (j g a : Nat) : Bool := g.testBit a || !ff_bd h j (g ||| 2 ^ a)
theorem yw_top {post : Int32 → SY → Prop} {J : Int32 → Int32 → Int32 → (Nat → Int32) → (Nat → Int32) → (Nat → Int32) → Prop} {j p : Nat} {e A B : Nat → Nat} {g : Nat} {c : Int32} (O : ff_Ok j p e A B) (hg : g < 2 ^ j) (h : ∀ A' B' : Nat → Nat, ff_Ok j p e A' B' → wY_bodies_88 post J c (nI g) (nI (ff_all (ff_mx (ff_hd j e (ff_fr j e p 12)) j g) j).toNat) (nI j) (fun k => nI (p.testBit k).toNat) (fun k => nI (A' k)) (fun k => nI (B' k))) : ∃ n, wY_bodies_40 post J c (nI g) n 1 0 (nI j) (fun k => nI (p.testBit k).toNat) (fun k => nI (A k)) (fun k => nI (B k)) := by
  have hj := O.2.1
  have h31 := ff_j31 hj
  refine loop_0 (fun n i (t : Int32 × (Nat → Nat) × (Nat → Nat)) => wY_bodies_40 post J c (nI g) n t.1 (nI i) (nI j) (fun k => nI (p.testBit k).toNat) (fun k => nI (t.2.1 k)) (fun k => nI (t.2.2 k))) (fun i t => t.1 = nI (ff_all (ff_mx (ff_hd j e (ff_fr j e p 12)) j g) i).toNat ∧ ff_Ok j p e t.2.1 t.2.2) j (1, A, B) ⟨rfl, O⟩ ?_ ?_
  · intro n t ht
    obtain ⟨t1, A', B'⟩ := t
    obtain ⟨h1, h2⟩ := ht
    dsimp only at h1 h2
    subst h1
    exact br_t (Int32.le_refl _) (h _ _ h2)
  · intro n i t hi ht k
    obtain ⟨t1, A', B'⟩ := t
    obtain ⟨h1, h2⟩ := ht
    dsimp only at h1 h2
    subst h1
    refine br_f (nI_ge hi (by omega)) (ff_br0 (fun hb => ?_) (fun hb => ?_))
    · have e1 := ff_all_le (Nat.le_of_lt hi) hb
      have q := h _ _ h2
      rw [e1] at q
      rw [hb]
      exact q
    · rw [ff_bit (by omega) (by omega)]
      refine ff_br1 (fun hc => ?_) (fun hc => ?_)
      · intro y ey
        rw [ey, nI_1]
        refine k (_, A', B') ⟨?_, h2⟩
        rw [ff_all_s, hb]
        unfold ff_mx
        rw [hc]
        rfl
      · rw [ff_shl i (by omega), nx_or]
        refine yw_body h2 (ff_or_lt hg hi) (fun A2 B2 O2 => ff_br0 (fun hh => ?_) (fun hh => ?_))
        · intro y ey
          rw [ey, nI_1]
          refine k (_, A2, B2) ⟨?_, O2⟩
          rw [ff_all_s, hb]
          unfold ff_mx
          rw [hc, hh]
          rfl
        · intro y ey
          rw [ey, nI_1]
          refine k (_, A2, B2) ⟨?_, O2⟩
          rw [ff_all_s, hb]
          unfold ff_mx
          rw [hc, hh]
          rfl
def ff_bY (h : Nat → Nat → Bool) (j g : Nat) : Bool := decide (3 ≤ ff_cn g.testBit 13) && ff_tp h j g
theorem yw_bodies {post : Int32 → SY → Prop} {j p : Nat} {e A B : Nat → Nat} (O : ff_Ok j p e A B) (h : ∀ A' B' : Nat → Nat, ff_Ok j p e A' B' → post (nI (ff_cn (ff_bY (ff_hd j e (ff_fr j e p 12)) j) (2 ^ j))) (nI j, fun k => nI (p.testBit k).toNat, fun k => nI (A' k), fun k => nI (B' k))) : wpY_bodies post (nI j, fun k => nI (p.testBit k).toNat, fun k => nI (A k), fun k => nI (B k)) := by
  have hj2 := O.1
  have hj := O.2.1
  have h31 := ff_j31 hj
  refine loop_0 (fun n i (t : Int32 × (Nat → Nat) × (Nat → Nat)) => wY_bodies_4 post n t.1 (nI i) (nI j) (fun k => nI (p.testBit k).toNat) (fun k => nI (t.2.1 k)) (fun k => nI (t.2.2 k))) (fun i t => t.1 = nI (ff_cn (ff_bY (ff_hd j e (ff_fr j e p 12)) j) i) ∧ ff_Ok j p e t.2.1 t.2.2) (2 ^ j) (0, A, B) ⟨rfl, O⟩ ?_ ?_
  · intro n t ht
    obtain ⟨t1, A', B'⟩ := t
    obtain ⟨h1, h2⟩ := ht
    dsimp only at h1 h2
    subst h1
    exact br_t (ff_end hj) (h _ _ h2)
  · intro n i t hi ht k
    obtain ⟨t1, A', B'⟩ := t
    obtain ⟨h1, h2⟩ := ht
    dsimp only at h1 h2
    subst h1
    have c13 := ff_cn_le i.testBit 13
    have no : ∀ A2 B2 : Nat → Nat, ff_Ok j p e A2 B2 → ff_bY (ff_hd j e (ff_fr j e p 12)) j i = false → ∃ n40, wY_bodies_40 post (wY_bodies_4 post n) (nI (ff_cn (ff_bY (ff_hd j e (ff_fr j e p 12)) j) i)) (nI i) n40 0 0 (nI j) (fun k => nI (p.testBit k).toNat) (fun k => nI (A2 k)) (fun k => nI (B2 k)) := by
      intro A2 B2 O2 hq
      refine ⟨1, br_f (nI_ge (a := 0) (b := j) (by omega) (by omega)) (br_t rfl (br_t rfl ?_))⟩
      intro y ey
      rw [ey, nI_1]
      refine k (_, A2, B2) ⟨?_, O2⟩
      rw [ff_cn_s, hq]
      rfl
    refine br_f (ff_nend hj hi) (yw_count (by omega) (pk_lt (ff_cn i.testBit 13) 3 (fun z => no A' B' h2 ?_) (fun z => ?_) rfl rfl (by omega) (by decide)))
    · unfold ff_bY
      rw [decide_eq_false (by omega), Bool.false_and]
    · refine yw_body h2 hi (fun A2 B2 O2 => ff_br0 (fun hb => no A2 B2 O2 ?_) (fun hb => yw_top O2 hi (fun A3 B3 O3 => ff_br0 (fun hc => ?_) (fun hc => ?_))))
      · unfold ff_bY ff_tp
        rw [hb, Bool.false_and, Bool.and_false]
      · intro y ey
        rw [ey, nI_1]
        refine k (_, A3, B3) ⟨?_, O3⟩
        have q : ff_bY (ff_hd j e (ff_fr j e p 12)) j i = false := by
          have q2 : ff_tp (ff_hd j e (ff_fr j e p 12)) j i = (ff_bd (ff_hd j e (ff_fr j e p 12)) j i && ff_all (ff_mx (ff_hd j e (ff_fr j e p 12)) j i) j) := rfl
          unfold ff_bY
          rw [q2, hc, Bool.and_false, Bool.and_false]
        rw [ff_cn_s, q]
        rfl
      · intro x ex y ey
        rw [ex, ey, nI_1, nI_1]
        refine k (_, A3, B3) ⟨?_, O3⟩
        have q : ff_bY (ff_hd j e (ff_fr j e p 12)) j i = true := by
          have q2 : ff_tp (ff_hd j e (ff_fr j e p 12)) j i = (ff_bd (ff_hd j e (ff_fr j e p 12)) j i && ff_all (ff_mx (ff_hd j e (ff_fr j e p 12)) j i) j) := rfl
          unfold ff_bY
          rw [q2, hb, hc, decide_eq_true z]
          rfl
        rw [ff_cn_s, q]
        rfl
theorem ff_bodies_eq {j : Nat} (e : Nat → Nat) (F : Nat) (hj : j ≤ 6) : ff_cn (ff_bY (ff_hd j e F) j) (2 ^ j) = ff_cn (ff_bX (ff_hd j e F) j) (2 ^ j) := by
  have h64 := ff_j64 hj
  apply ff_cn_congr
  intro g hg
  unfold ff_bY ff_bX
  rw [ff_sz13 (g := g) (by omega)]
  have q : ff_tp (ff_hd j e F) j g = (ff_ha (ff_hd j e F) j g j == g) := by
    rw [Bool.eq_iff_iff, beq_iff_eq]
    exact (ff_tp_eq hj (ff_hd_sym j e F) hg).symm
  rw [q]
end
section
theorem ff_rm_sub {p : Nat} (hp : p < 4096) (k i : Nat) (h : (ff_rm p k).testBit i = true) : p.testBit i = true := by
  rw [ff_rm_tb hp, Bool.and_eq_true] at h
  exact h.1
def ff_rd (j : Nat) (e : Nat → Nat) (p k : Nat) : Bool := ff_sz (ff_fr j e (ff_rm p k) 12) == ff_sz (ff_fr j e p 12)
theorem xw_redundant1 {post : Int32 → Prop} {j p k : Nat} {e A B : Nat → Nat} (O : ff_Ok j p e A B) (hk : k < 12) (hb : p.testBit k = true) (h : post (nI (ff_rd j e p k).toNat)) : wpX_redundant post (nI j, nI p, fun k => nI (e k)) (nI k) := by
  have hp := O.2.2.1
  have hle := ff_rm_le p k
  have s1 := ff_szlt (ff_fr j e (ff_rm p k) 12)
  have s2 := ff_szlt (ff_fr j e p 12)
  unfold wpX_redundant
  dsimp only
  refine xw_bar1 hp hk hb ?_
  refine br_f (by decide) ?_
  rw [ff_shl k (by omega), ff_rmI]
  refine xw_rankOf O.2.1 O.2.2.2.1 (by omega) (xw_rankOf O.2.1 O.2.2.2.1 (by omega) ?_)
  unfold ff_rd at h
  refine pk_eq _ _ (fun z => ?_) (fun z => ?_) rfl rfl (by omega) (by omega)
  · rw [beq_iff_eq.mpr z] at h
    exact h
  · rw [beq_eq_false_iff_ne.mpr z] at h
    exact h
theorem yw_redundant1 {post : Int32 → Prop} {j p k : Nat} {e A B : Nat → Nat} (O : ff_Ok j p e A B) (hk : k < 12) (hb : p.testBit k = true) (h : post (nI (ff_rd j e p k).toNat)) : wpY_redundant post (nI j, fun k => nI (p.testBit k).toNat, fun k => nI (A k), fun k => nI (B k)) (nI k) := by
  have hp := O.2.2.1
  have s1 := ff_szlt (ff_fr j e (ff_rm p k) 12)
  have s2 := ff_szlt (ff_fr j e p 12)
  have hi2 : (nI k).toNatClampNeg = k := nI_clamp (by omega)
  unfold wpY_redundant
  dsimp only
  refine yw_bars hp ?_
  refine br_f (nI_pos (by omega)) (br_f (nI_ge (b := 12) hk (by decide)) ⟨vp_in_nI (by omega) (by decide), ?_⟩)
  rw [hi2, hb]
  refine br_f (by decide) ?_
  rw [ff_shl k (by omega), ff_rmI]
  refine yw_rankIn O (fun i hi => ff_rm_sub hp k i hi) (yw_rankIn O (fun _ hi => hi) ?_)
  unfold ff_rd at h
  refine pk_eq _ _ (fun z => ?_) (fun z => ?_) rfl rfl (by omega) (by omega)
  · rw [beq_iff_eq.mpr z] at h
    exact h
  · rw [beq_eq_false_iff_ne.mpr z] at h
    exact h
theorem yw_redundant0 {post : Int32 → Prop} {j p : Nat} {E H : Nat → Int32} {x : Int32} (hp : p < 4096) (hx : ff_nobar p x) (h : post 0) : wpY_redundant post (nI j, fun k => nI (p.testBit k).toNat, E, H) x := by
  unfold wpY_redundant
  dsimp only
  refine yw_bars hp ?_
  by_cases h0 : x < 0
  · exact br_t h0 h
  · rcases hx with hx | hx | ⟨k, hk, rfl, hb⟩
    · exact absurd hx h0
    · exact br_f h0 (br_t hx h)
    · refine br_f h0 (br_f (nI_ge (b := 12) hk (by decide)) ⟨vp_in_nI (by omega) (by decide), ?_⟩)
      rw [show (nI k).toNatClampNeg = k from nI_clamp (by omega), hb]
      exact br_t rfl h
def ff_rqY (j : Nat) (A B : Nat → Nat) (F k f : Nat) : Bool := F.testBit f && ff_lo j A B (ff_rm F f ||| 2 ^ k)
theorem yw_ringL {post : Int32 → Prop} {j : Nat} {T : Nat → Int32} {A B : Nat → Nat} {F k : Nat} (hj : j ≤ 6) (hA : ∀ k, A k < 6) (hB : ∀ k, B k < 6) (hF : F < 4096) (hk : k < 12) (h : post (nI (ff_rg (ff_rqY j A B F k) k 12))) : ∃ n, wY_ring_42 post (nI k) (nI F) (nI j) T (fun k => nI (A k)) (fun k => nI (B k)) n (nI (2 ^ k)) 0 := by
  refine loop_0 (fun n i t => wY_ring_42 post (nI k) (nI F) (nI j) T (fun k => nI (A k)) (fun k => nI (B k)) n t (nI i)) (fun i t => t = nI (ff_rg (ff_rqY j A B F k) k i)) 12 _ rfl ?_ ?_
  · intro n t ht
    subst ht
    exact br_t (by decide) h
  · intro n i t hi ht K
    subst ht
    have no : ff_rqY j A B F k i = false → wY_ring_82 post (wY_ring_42 post (nI k) (nI F) (nI j) T (fun k => nI (A k)) (fun k => nI (B k)) n) (nI k) (nI F) (nI (ff_rg (ff_rqY j A B F k) k i)) (nI i) (nI j) T (fun k => nI (A k)) (fun k => nI (B k)) := by
      intro hq
      refine br_t rfl ?_
      intro y ey
      rw [ey, nI_1]
      refine K _ ?_
      rw [ff_rg_s, hq, if_neg (by decide)]
    have hle := ff_rm_le F i
    have hlt : ff_rm F i ||| 2 ^ k < 2 ^ 12 := ff_or_lt (by omega) hk
    refine br_f (nI_ge (b := 12) hi (by decide)) ?_
    rw [ff_bit (by omega) (by omega)]
    refine ff_br1 (fun hb => ?_) (fun hb => no (by unfold ff_rqY; rw [hb, Bool.false_and]))
    rw [ff_shl i (by omega), ff_shl k (by omega), ff_rmI, nx_or]
    refine yw_loose hj hA hB (by omega) (ff_br0 (fun hc => no (by unfold ff_rqY; rw [hc, Bool.and_false])) (fun hc => ?_))
    refine br_f (by decide) ?_
    intro x ex y ey
    rw [ex, ey, nI_1, ff_shl i (by omega), nx_or]
    refine K _ ?_
    have q : ff_rqY j A B F k i = true := by
      unfold ff_rqY
      rw [hb, hc, Bool.true_and]
    rw [ff_rg_s, q, if_pos rfl]
theorem ff_rg_congr {q r : Nat → Bool} (k n : Nat) (h : ∀ f, f < n → q f = r f) : ff_rg q k n = ff_rg r k n := by
  induction n with
  | zero => rfl
  | succ n ih => rw [ff_rg_s, ff_rg_s, ih (fun f hf => h f (by omega)), h n (by omega)]
theorem yw_frame {post : Int32 → Prop} {j p : Nat} {e A B : Nat → Nat} (O : ff_Ok j p e A B) (h : post (nI (ff_fr j e p 12))) : wpY_frame post (nI j, fun k => nI (p.testBit k).toNat, fun k => nI (A k), fun k => nI (B k)) := by
  have hp := O.2.2.1
  unfold wpY_frame
  dsimp only
  refine yw_bars hp (yw_taken O.2.1 O.2.2.2.2.1 O.2.2.2.2.2.1 (by omega) ?_)
  rw [ff_tk13 O (fun _ hi => hi)]
  exact h
theorem yw_ring0 {post : Int32 → Prop} {j p : Nat} {e A B : Nat → Nat} {x : Int32} (O : ff_Ok j p e A B) (hx : ff_nobar p x) (h : post 0) : wpY_ring post (nI j, fun k => nI (p.testBit k).toNat, fun k => nI (A k), fun k => nI (B k)) x := by
  unfold wpY_ring
  dsimp only
  refine yw_frame O ?_
  by_cases h0 : x < 0
  · exact br_t h0 h
  · rcases hx with hx | hx | ⟨k, hk, rfl, hb⟩
    · exact absurd hx h0
    · have h11 : (11 : Int32) < x := by
        rw [Int32.lt_iff_toInt_lt]
        rw [Int32.le_iff_toInt_le, nI_toInt (by decide)] at hx
        have : (11 : Int32).toInt = 11 := by decide
        omega
      exact br_f h0 (br_t h11 h)
    · refine br_f h0 (br_f (nI_nlt (a := 11) (b := k) (by omega) (by decide)) ⟨vp_in_nI (by omega) (by decide), ?_⟩)
      rw [show (nI k).toNatClampNeg = k from nI_clamp (by omega), hb]
      exact br_t rfl h
theorem yw_ring1 {post : Int32 → Prop} {j p k : Nat} {e A B : Nat → Nat} (O : ff_Ok j p e A B) (hk : k < 12) (hb : p.testBit k = true) (h1 : (ff_fr j e p 12).testBit k = true → post 0) (h2 : (ff_fr j e p 12).testBit k = false → post (nI (ff_rg (ff_rq j e (ff_fr j e p 12) k) k 12))) : wpY_ring post (nI j, fun k => nI (p.testBit k).toNat, fun k => nI (A k), fun k => nI (B k)) (nI k) := by
  have hlt := ff_fr_lt j e p 12
  unfold wpY_ring
  dsimp only
  refine yw_frame O ?_
  refine br_f (nI_pos (by omega)) (br_f (nI_nlt (a := 11) (b := k) (by omega) (by decide)) ⟨vp_in_nI (by omega) (by decide), ?_⟩)
  rw [show (nI k).toNatClampNeg = k from nI_clamp (by omega), hb]
  refine br_f (by decide) ?_
  rw [ff_bit (by omega) (by omega)]
  refine ff_br1 h1 (fun hc => ?_)
  intro x ex
  rw [ex, ff_shl k (by omega)]
  refine yw_ringL O.2.1 O.2.2.2.2.1 O.2.2.2.2.2.1 hlt hk ?_
  have q : ff_rg (ff_rqY j A B (ff_fr j e p 12) k) k 12 = ff_rg (ff_rq j e (ff_fr j e p 12) k) k 12 := by
    apply ff_rg_congr
    intro f _
    unfold ff_rqY ff_rq
    rw [ff_ring O hb hc]
  rw [q]
  exact h2 hc
theorem xw_ring0 {post : Int32 → Prop} {j p : Nat} {e : Nat → Nat} {x : Int32} (hj : j ≤ 6) (he : ∀ k, e k < 64) (hp : p < 4096) (hx : ff_nobar p x) (h : post 0) : wpX_ring post (nI j, nI p, fun k => nI (e k)) x := by
  unfold wpX_ring
  dsimp only
  refine xw_frameOf hj he (by omega) ?_
  refine xw_bar0 hp hx ?_
  exact br_t rfl h
theorem xw_ring1 {post : Int32 → Prop} {j p k : Nat} {e : Nat → Nat} (hj : j ≤ 6) (he : ∀ k, e k < 64) (hp : p < 4096) (hk : k < 12) (hb : p.testBit k = true) (h1 : (ff_fr j e p 12).testBit k = true → post 0) (h2 : (ff_fr j e p 12).testBit k = false → post (nI (ff_rg (ff_rq j e (ff_fr j e p 12) k) k 12))) : wpX_ring post (nI j, nI p, fun k => nI (e k)) (nI k) := by
  have hlt := ff_fr_lt j e p 12
  unfold wpX_ring
  dsimp only
  refine xw_frameOf hj he (by omega) ?_
  refine xw_bar1 hp hk hb ?_
  refine br_f (by decide) ?_
  refine xw_has (by omega) (by omega) ?_
  refine ff_br0 (fun hc => ?_) h1
  intro x ex
  rw [ex, ff_shl k (by omega)]
  exact xw_ring hj he hlt hk (h2 hc)
theorem ff_sub0 {x y : Int32} : x - y = 0 ↔ y = x := by
  constructor
  · intro h
    have q : x - y + y = x := Int32.sub_add_cancel x y
    rw [h, Int32.zero_add] at q
    exact q
  · intro h
    rw [h]
    exact Int32.sub_self _
def ff_rk (j : Nat) (e : Nat → Nat) (p : Nat) : Nat := ff_sz (ff_fr j e p 12)
theorem yw_freedom {post : Int32 → Prop} {j p : Nat} {e A B : Nat → Nat} (O : ff_Ok j p e A B) (h : post (2 * nI j - 3 - nI (ff_rk j e p))) : wpY_freedom post (nI j, fun k => nI (p.testBit k).toNat, fun k => nI (A k), fun k => nI (B k)) := by
  unfold wpY_freedom
  dsimp only
  exact yw_bars O.2.2.1 (yw_rankIn O (fun _ hi => hi) h)
theorem yw_rigid {post : Int32 → Prop} {j p : Nat} {e A B : Nat → Nat} (O : ff_Ok j p e A B) (h1 : nI (ff_rk j e p) = 2 * nI j - 3 → post 1) (h2 : ¬ nI (ff_rk j e p) = 2 * nI j - 3 → post 0) : wpY_rigid post (nI j, fun k => nI (p.testBit k).toNat, fun k => nI (A k), fun k => nI (B k)) := by
  unfold wpY_rigid
  dsimp only
  refine yw_freedom O ?_
  rw [ff_sub0]
  exact ⟨h1, h2⟩
def ff_dp (j : Nat) (e : Nat → Nat) (p k : Nat) : Bool := !p.testBit k || ff_rd j e p k
theorem yw_doubly {post : Int32 → Prop} {j p : Nat} {e A B : Nat → Nat} {b : Bool} (O : ff_Ok j p e A B) (h : post (nI (b && ff_all (ff_dp j e p) 12).toNat)) : ∃ n, wY_doublyHeld_7 post (nI j) (fun k => nI (p.testBit k).toNat) (fun k => nI (A k)) (fun k => nI (B k)) n (nI b.toNat) 0 := by
  refine loop_0 (fun n i t => wY_doublyHeld_7 post (nI j) (fun k => nI (p.testBit k).toNat) (fun k => nI (A k)) (fun k => nI (B k)) n t (nI i)) (fun i t => t = nI (b && ff_all (ff_dp j e p) i).toNat) 12 _ (by rw [show ff_all (ff_dp j e p) 0 = true from rfl, Bool.and_true]) ?_ ?_
  · intro n t ht
    subst ht
    exact br_t (by decide) ⟨ff_nb _, h⟩
  · intro n i t hi ht k
    subst ht
    refine br_f (nI_ge (b := 12) hi (by decide)) (ff_br0 (fun hb => ?_) (fun hb => ⟨vp_in_nI (by omega) (by decide), ?_⟩))
    · intro y ey
      rw [ey, nI_1]
      refine k _ ?_
      rw [ff_all_s, ← Bool.and_assoc, hb]
      rfl
    · rw [show (nI i).toNatClampNeg = i from nI_clamp (by omega)]
      refine ff_br0 (fun hc => ?_) (fun hc => ?_)
      · intro y ey
        rw [ey, nI_1]
        refine k _ ?_
        rw [ff_all_s, ← Bool.and_assoc, hb]
        unfold ff_dp
        rw [hc]
        rfl
      · refine yw_redundant1 O hi hc (ff_br0 (fun hd => ?_) (fun hd => ?_))
        · intro y ey
          rw [ey, nI_1]
          refine k _ ?_
          rw [ff_all_s, ← Bool.and_assoc, hb]
          unfold ff_dp
          rw [hc, hd]
          rfl
        · intro y ey
          rw [ey, nI_1]
          refine k _ ?_
          rw [ff_all_s, ← Bool.and_assoc, hb]
          unfold ff_dp
          rw [hc, hd]
          rfl
theorem xw_doubly {post : Int32 → Prop} {j p : Nat} {e A B : Nat → Nat} (O : ff_Ok j p e A B) (h : post (nI (ff_all (ff_dp j e p) 12).toNat)) : ∃ n, wX_doublyHeld_21 post (nI (ff_rk j e p)) (nI j) (nI p) (fun k => nI (e k)) n 0 := by
  have hp := O.2.2.1
  have s2 := ff_szlt (ff_fr j e p 12)
  refine loop_0 (fun n i (_ : Unit) => wX_doublyHeld_21 post (nI (ff_rk j e p)) (nI j) (nI p) (fun k => nI (e k)) n (nI i)) (fun i _ => ff_all (ff_dp j e p) i = true) 12 () rfl ?_ ?_
  · intro n _ ht
    rw [ht] at h
    exact br_t (by decide) h
  · intro n i _ hi ht k
    have hle := ff_rm_le p i
    have s1 := ff_szlt (ff_fr j e (ff_rm p i) 12)
    refine br_f (nI_ge (b := 12) hi (by decide)) (xw_has (by omega) (by omega) (ff_br0 (fun hb => ?_) (fun hb => ?_)))
    · intro y ey
      rw [ey, nI_1]
      refine k () ?_
      rw [ff_all_s, ht]
      unfold ff_dp
      rw [hb]
      rfl
    · rw [ff_shl i (by omega), ff_rmI]
      refine xw_rankOf O.2.1 O.2.2.2.1 (by omega) ?_
      refine pk_eq (ff_sz (ff_fr j e (ff_rm p i) 12)) (ff_sz (ff_fr j e p 12)) (fun z => ?_) (fun z => ?_) rfl rfl (by omega) (by omega)
      · intro y ey
        rw [ey, nI_1]
        refine k () ?_
        rw [ff_all_s, ht]
        unfold ff_dp ff_rd
        rw [beq_iff_eq.mpr z, Bool.or_true]
        rfl
      · have q : ff_all (ff_dp j e p) 12 = false := ff_all_f hi (by
          unfold ff_dp ff_rd
          rw [hb, beq_eq_false_iff_ne.mpr z]
          rfl)
        rw [q] at h
        exact h
end
section
theorem ff_scan (q : Nat → Bool) (n : Nat) : (∀ k, k < n → q k = true) ∨ ∃ k, k < n ∧ q k = false ∧ ∀ i, i < k → q i = true := by
  induction n with
  | zero => exact Or.inl (fun k hk => absurd hk (Nat.not_lt_zero _))
  | succ n ih =>
    rcases ih with h | ⟨k, hk, h1, h2⟩
    · cases hb : q n with
      | false => exact Or.inr ⟨n, by omega, hb, h⟩
      | true =>
        refine Or.inl (fun k hk => ?_)
        rcases Nat.lt_or_ge k n with w | w
        · exact h k w
        · have e : k = n := by omega
          rw [e]
          exact hb
    · exact Or.inr ⟨k, by omega, h1, h2⟩
theorem ff_updT (p k : Nat) : upd (fun i => nI (p.testBit i).toNat) k 1 = fun i => nI ((p ||| 2 ^ k).testBit i).toNat := by
  funext i
  rw [ff_or_tb]
  unfold upd
  by_cases h : i = k
  · rw [if_pos h, decide_eq_true h.symm, Bool.or_true]
    rfl
  · rw [if_neg h, decide_eq_false (show ¬ k = i from fun z => h z.symm), Bool.or_false]
theorem ff_updT0 {p : Nat} (hp : p < 4096) (k : Nat) : upd (fun i => nI (p.testBit i).toNat) k 0 = fun i => nI ((ff_rm p k).testBit i).toNat := by
  funext i
  rw [ff_rm_tb hp]
  unfold upd
  by_cases h : i = k
  · rw [if_pos h, decide_eq_true h.symm, Bool.not_true, Bool.and_false]
    rfl
  · rw [if_neg h, decide_eq_false (show ¬ k = i from fun z => h z.symm), Bool.not_false, Bool.and_true]
theorem ff_OkA {j p : Nat} {e A B : Nat → Nat} (O : ff_Ok j p e A B) {a b k : Nat} (ha : a < j) (hb : b < j) (hab : a ≠ b) (hk : k < 12) : ff_Ok j (p ||| 2 ^ k) (ff_up e k (2 ^ a ||| 2 ^ b)) (ff_up A k a) (ff_up B k b) := by
  obtain ⟨h1, h2, h3, h4, h5, h6, h7⟩ := O
  refine ⟨h1, h2, ff_or_lt (n := 12) h3 hk, fun i => ?_, fun i => ?_, fun i => ?_, fun i hi => ?_⟩
  · unfold ff_up
    split
    · exact ff_pr64 (by omega) (by omega)
    · exact h4 i
  · unfold ff_up
    split
    · omega
    · exact h5 i
  · unfold ff_up
    split
    · omega
    · exact h6 i
  · unfold ff_up
    by_cases h : i = k
    · rw [if_pos h, if_pos h, if_pos h]
      exact ⟨ha, hb, hab, rfl⟩
    · rw [if_neg h, if_neg h, if_neg h]
      rw [ff_or_tb, decide_eq_false (show ¬ k = i from fun z => h z.symm), Bool.or_false] at hi
      exact h7 i hi
theorem ff_OkR {j p : Nat} {e A B : Nat → Nat} (O : ff_Ok j p e A B) (k : Nat) : ff_Ok j (ff_rm p k) e A B := by
  obtain ⟨h1, h2, h3, h4, h5, h6, h7⟩ := O
  exact ⟨h1, h2, Nat.lt_of_le_of_lt (ff_rm_le p k) h3, h4, h5, h6, fun i hi => h7 i (ff_rm_sub h3 k i hi)⟩
theorem xw_addF {post : Int32 → SX → Prop} {j p : Nat} {x y : Int32} {E : Nat → Int32} (hp : p < 4096) (ha : ∀ k, k < 12 → p.testBit k = true) (h : post (-2) (nI j, nI p, E)) : ∃ n, wX_add_13 post x y (nI j) (nI p) E n 0 := by
  refine loop_0 (fun n i (_ : Unit) => wX_add_13 post x y (nI j) (nI p) E n (nI i)) (fun _ _ => True) 12 () trivial ?_ ?_
  · intro n _ _
    exact br_t (by decide) h
  · intro n i _ hi _ k
    refine br_f (nI_ge (b := 12) hi (by decide)) (xw_has (by omega) (by omega) ?_)
    rw [ha i hi]
    refine br_f (by decide) ?_
    intro w ew
    rw [ew, nI_1]
    exact k () trivial
theorem xw_addK {post : Int32 → SX → Prop} {j p a b k : Nat} {e : Nat → Nat} (hp : p < 4096) (ha : a < 6) (hb : b < 6) (hk : k < 12) (hf : p.testBit k = false) (hl : ∀ i, i < k → p.testBit i = true) (h : post (nI k) (nI j, nI (p ||| 2 ^ k), fun i => nI (ff_up e k (2 ^ a ||| 2 ^ b) i))) : ∃ n, wX_add_13 post (nI a) (nI b) (nI j) (nI p) (fun i => nI (e i)) n 0 := by
  refine loop_0 (fun n i (_ : Unit) => wX_add_13 post (nI a) (nI b) (nI j) (nI p) (fun i => nI (e i)) n (nI i)) (fun _ _ => True) k () trivial ?_ ?_
  · intro n _ _
    refine br_f (nI_ge (b := 12) hk (by decide)) (xw_has (by omega) (by omega) ?_)
    rw [hf]
    refine br_t rfl (xw_pairOf (by omega) (by omega) ⟨vp_in_nI hk (by decide), ?_⟩)
    intro E2 hE q hq
    rw [show (nI k).toNatClampNeg = k from nI_clamp (by omega), ff_updI] at hE
    rw [ff_shl k (by omega), nx_or] at hq
    subst hE hq
    exact h
  · intro n i _ hi _ K
    refine br_f (nI_ge (b := 12) (by omega) (by decide)) (xw_has (by omega) (by omega) ?_)
    rw [hl i hi]
    refine br_f (by decide) ?_
    intro w ew
    rw [ew, nI_1]
    exact K () trivial
theorem yw_addF {post : Int32 → SY → Prop} {j p : Nat} {x y : Int32} {E H : Nat → Int32} (ha : ∀ k, k < 12 → p.testBit k = true) (h : post (-2) (nI j, fun k => nI (p.testBit k).toNat, E, H)) : ∃ n, wY_add_25 post x y (nI j) (fun k => nI (p.testBit k).toNat) E H n 0 := by
  refine loop_0 (fun n i (_ : Unit) => wY_add_25 post x y (nI j) (fun k => nI (p.testBit k).toNat) E H n (nI i)) (fun _ _ => True) 12 () trivial ?_ ?_
  · intro n _ _
    exact br_t (by decide) h
  · intro n i _ hi _ k
    refine br_f (nI_ge (b := 12) hi (by decide)) ⟨vp_in_nI (by omega) (by decide), ?_⟩
    rw [show (nI i).toNatClampNeg = i from nI_clamp (by omega)]
    dsimp only
    rw [ha i hi]
    refine br_f (by decide) ?_
    intro w ew
    rw [ew, nI_1]
    exact k () trivial
theorem ff_n1 : vp_nar .boolean 1 = 1 := by decide
theorem ff_n0 : vp_nar .boolean 0 = 0 := by decide
theorem yw_addK {post : Int32 → SY → Prop} {j p a b k : Nat} {A B : Nat → Nat} (hk : k < 12) (hf : p.testBit k = false) (hl : ∀ i, i < k → p.testBit i = true) (h : post (nI k) (nI j, fun i => nI ((p ||| 2 ^ k).testBit i).toNat, fun i => nI (ff_up A k a i), fun i => nI (ff_up B k b i))) : ∃ n, wY_add_25 post (nI a) (nI b) (nI j) (fun i => nI (p.testBit i).toNat) (fun i => nI (A i)) (fun i => nI (B i)) n 0 := by
  refine loop_0 (fun n i (_ : Unit) => wY_add_25 post (nI a) (nI b) (nI j) (fun i => nI (p.testBit i).toNat) (fun i => nI (A i)) (fun i => nI (B i)) n (nI i)) (fun _ _ => True) k () trivial ?_ ?_
  · intro n _ _
    have hv : vp_in (nI k) 13 := vp_in_nI (by omega) (by decide)
    refine br_f (nI_ge (b := 12) hk (by decide)) ⟨hv, ?_⟩
    rw [show (nI k).toNatClampNeg = k from nI_clamp (by omega)]
    dsimp only
    rw [hf]
    refine br_t rfl ⟨hv, ?_⟩
    intro T2 hT
    refine ⟨hv, ?_⟩
    intro A2 hA
    refine ⟨hv, ?_⟩
    intro B2 hB
    rw [ff_n1, ff_updT] at hT
    rw [ff_updI] at hA hB
    subst hT hA hB
    exact h
  · intro n i _ hi _ K
    refine br_f (nI_ge (b := 12) (by omega) (by decide)) ⟨vp_in_nI (by omega) (by decide), ?_⟩
    rw [show (nI i).toNatClampNeg = i from nI_clamp (by omega)]
    dsimp only
    rw [hl i hi]
    refine br_f (by decide) ?_
    intro w ew
    rw [ew, nI_1]
    exact K () trivial
theorem yw_add0 {post : Int32 → SY → Prop} {j : Nat} {T E H : Nat → Int32} {x y : Int32} (hj : j ≤ 6) (hx : ff_bad j x y) (h : post (-1) (nI j, T, E, H)) : wpY_add post (nI j, T, E, H) x y := by
  by_cases hxy : x = y
  · exact br_t hxy h
  · refine br_f hxy ?_
    by_cases h1 : x < 0 ∨ nI j ≤ x
    · exact yw_joint0 h1 (br_t rfl h)
    · rcases pk_ix x (n := j) (by omega) with z | z | ⟨a, ha, rfl⟩
      · exact absurd (Or.inl z) h1
      · exact absurd (Or.inr z) h1
      · refine yw_joint1 hj ha (br_f (by decide) ?_)
        rcases hx with hx | hx | hx
        · exact absurd hx hxy
        · exact absurd hx h1
        · exact yw_joint0 hx (br_t rfl h)
theorem yw_add1 {post : Int32 → SY → Prop} {j a b : Nat} {T E H : Nat → Int32} (hj : j ≤ 6) (ha : a < j) (hb : b < j) (hab : a ≠ b) (h : ∃ n, wY_add_25 post (nI a) (nI b) (nI j) T E H n 0) : wpY_add post (nI j, T, E, H) (nI a) (nI b) := by
  refine br_f (fun z => hab ((nI_eq (by omega) (by omega)).mp z)) ?_
  exact yw_joint1 hj ha (br_f (by decide) (yw_joint1 hj hb (br_f (by decide) h)))
theorem yw_remove0 {post : Int32 → SY → Prop} {j p : Nat} {E H : Nat → Int32} {x : Int32} (hx : ff_nobar p x) (h : post 0 (nI j, fun k => nI (p.testBit k).toNat, E, H)) : wpY_remove post (nI j, fun k => nI (p.testBit k).toNat, E, H) x := by
  by_cases h0 : x < 0
  · exact br_t h0 h
  · rcases hx with hx | hx | ⟨k, hk, rfl, hb⟩
    · exact absurd hx h0
    · have h11 : (11 : Int32) < x := by
        rw [Int32.lt_iff_toInt_lt]
        rw [Int32.le_iff_toInt_le, nI_toInt (by decide)] at hx
        have : (11 : Int32).toInt = 11 := by decide
        omega
      exact br_f h0 (br_t h11 h)
    · refine br_f h0 (br_f (nI_nlt (a := 11) (b := k) (by omega) (by decide)) ⟨vp_in_nI (by omega) (by decide), ?_⟩)
      rw [show (nI k).toNatClampNeg = k from nI_clamp (by omega)]
      dsimp only
      rw [hb]
      exact br_t rfl h
theorem yw_remove1 {post : Int32 → SY → Prop} {j p k : Nat} {E H : Nat → Int32} (hp : p < 4096) (hk : k < 12) (hb : p.testBit k = true) (h : post 1 (nI j, fun i => nI ((ff_rm p k).testBit i).toNat, E, H)) : wpY_remove post (nI j, fun i => nI (p.testBit i).toNat, E, H) (nI k) := by
  have hv : vp_in (nI k) 13 := vp_in_nI (by omega) (by decide)
  refine br_f (nI_pos (by omega)) (br_f (nI_nlt (a := 11) (b := k) (by omega) (by decide)) ⟨hv, ?_⟩)
  rw [show (nI k).toNatClampNeg = k from nI_clamp (by omega)]
  dsimp only
  rw [hb]
  refine br_f (by decide) ⟨hv, ?_⟩
  intro T2 hT
  rw [ff_n0, ff_updT0 hp] at hT
  subst hT
  exact h
end
section
def i_Rel (k : Nat) (u : SX) (v : SY) : Prop := ∃ (j p : Nat) (e A B : Nat → Nat), u = (nI j, nI p, fun k => nI (e k)) ∧ v = (nI j, fun k => nI (p.testBit k).toNat, fun k => nI (A k), fun k => nI (B k)) ∧ ff_Ok j p e A B
theorem i_up {k : Nat} {u : SX} {v : SY} (h : i_Rel k u v) : i_Rel (k + 3) u v := h
theorem ff_rel0 {j : Nat} (h2 : 2 ≤ j) (h6 : j ≤ 6) : i_Rel 1 (nI j, 0, fun _ => 0) (nI j, fun _ => 0, fun _ => 0, fun _ => 0) := by
  refine ⟨j, 0, fun _ => 0, fun _ => 0, fun _ => 0, rfl, ?_, h2, h6, by decide, fun _ => Nat.zero_lt_succ 63, fun _ => Nat.zero_lt_succ 5, fun _ => Nat.zero_lt_succ 5, fun k hk => ?_⟩
  · have q : (fun k : Nat => nI ((0 : Nat).testBit k).toNat) = fun _ => 0 := by
      funext k
      rw [Nat.zero_testBit]
      rfl
    rw [q]
    rfl
  · rw [Nat.zero_testBit] at hk
    exact absurd hk (by decide)
theorem i_vc0 (k0 : Int32) : wpX_init (fun u => wpY_init (fun v => i_Rel 1 u v) k0) k0 := by
  unfold wpX_init wpX_clampJoints wpY_init
  by_cases h2 : 2 ≤ k0
  · by_cases h6 : k0 ≤ 6
    · have h0 : ¬ k0 < 0 := by
        rw [Int32.lt_iff_toInt_lt]
        rw [Int32.le_iff_toInt_le] at h2
        have a1 : (2 : Int32).toInt = 2 := by decide
        have a2 : (0 : Int32).toInt = 0 := by decide
        omega
      obtain ⟨j, hj, rfl⟩ := nI_of2 (n := 6) (by decide) h0 h6
      have h2' : 2 ≤ j := (nI_leI (a := 2) (by decide) (by omega)).mp h2
      exact br_t h2 (br_t h6 (br_t h2 (br_t h6 (ff_rel0 h2' hj))))
    · exact br_t h2 (br_f h6 (br_t h2 (br_f h6 (ff_rel0 (j := 6) (by decide) (by decide)))))
  · exact br_f h2 (br_f h2 (ff_rel0 (j := 2) (by decide) (by decide)))
theorem i_vc_add {k : Nat} {u : SX} {v : SY} (I : i_Rel k u v) (hk : k + 3 ≤ 1537) (v1 : Int32) (v2 : Int32) : wpX_add (fun r u' => wpY_add (fun r' v' => r' = r ∧ i_Rel (k + 3) u' v') v v1 v2) u v1 v2 := by
  obtain ⟨j, p, e, A, B, rfl, rfl, O⟩ := I
  have hj := O.2.1
  have hp := O.2.2.1
  have he := O.2.2.2.1
  unfold wpX_add
  dsimp only
  rcases ff_case j hj v1 v2 with hx | ⟨a, b, ha, hb, hab, rfl, rfl⟩
  · refine xw_pair0 hj hx ?_
    refine br_t rfl ?_
    exact yw_add0 hj hx ⟨rfl, j, p, e, A, B, rfl, rfl, O⟩
  · refine xw_pair1 hj ha hb hab ?_
    refine br_f (by decide) ?_
    rcases ff_scan p.testBit 12 with hf | ⟨k, hk, hf, hl⟩
    · refine xw_addF hp hf ?_
      refine yw_add1 hj ha hb hab ?_
      exact yw_addF hf ⟨rfl, j, p, e, A, B, rfl, rfl, O⟩
    · refine xw_addK hp (by omega) (by omega) hk hf hl ?_
      refine yw_add1 hj ha hb hab ?_
      exact yw_addK hk hf hl ⟨rfl, j, p ||| 2 ^ k, ff_up e k (2 ^ a ||| 2 ^ b), ff_up A k a, ff_up B k b, rfl, rfl, ff_OkA O ha hb hab hk⟩
theorem i_vc_remove {k : Nat} {u : SX} {v : SY} (I : i_Rel k u v) (hk : k + 3 ≤ 1537) (v1 : Int32) : wpX_remove (fun r u' => wpY_remove (fun r' v' => r' = r ∧ i_Rel (k + 3) u' v') v v1) u v1 := by
  obtain ⟨j, p, e, A, B, rfl, rfl, O⟩ := I
  have hj := O.2.1
  have hp := O.2.2.1
  have he := O.2.2.2.1
  unfold wpX_remove
  dsimp only
  rcases ff_barcase p v1 with hx | ⟨k, hk, rfl, hb⟩
  · refine xw_bar0 hp hx ?_
    refine br_t rfl ?_
    exact yw_remove0 hx ⟨rfl, j, p, e, A, B, rfl, rfl, O⟩
  · refine xw_bar1 hp hk hb ?_
    refine br_f (by decide) ?_
    intro q hq
    rw [ff_shl k (by omega), ff_rmI] at hq
    subst hq
    exact yw_remove1 hp hk hb ⟨rfl, j, ff_rm p k, e, A, B, rfl, rfl, ff_OkR O k⟩
theorem i_vc_bars {k : Nat} {u : SX} {v : SY} (I : i_Rel k u v) (hk : k + 3 ≤ 1537) : wpX_bars (fun r => wpY_bars (fun r' => r' = r ∧ i_Rel (k + 3) u v) v) u := by
  obtain ⟨j, p, e, A, B, rfl, rfl, O⟩ := I
  have hj := O.2.1
  have hp := O.2.2.1
  have he := O.2.2.2.1
  exact yw_bars hp ⟨rfl, j, p, e, A, B, rfl, rfl, O⟩
theorem ff_and_sub {w p i : Nat} (h : (w &&& p).testBit i = true) : p.testBit i = true := by
  rw [Nat.testBit_and, Bool.and_eq_true] at h
  exact h.2
theorem i_vc_free {k : Nat} {u : SX} {v : SY} (I : i_Rel k u v) (hk : k + 3 ≤ 1537) (v1 : Int32) : wpX_free (fun r => wpY_free (fun r' => r' = r ∧ i_Rel (k + 3) u v) v v1) u v1 := by
  obtain ⟨j, p, e, A, B, rfl, rfl, O⟩ := I
  have hj := O.2.1
  have hp := O.2.2.1
  have he := O.2.2.2.1
  obtain ⟨w, hw, rfl⟩ := wb_of32 v1
  have hs : w &&& p ≤ p := Nat.and_le_right
  have hl := ff_fr_lt j e (w &&& p) 12
  unfold wpX_free wpY_free
  dsimp only
  intro s es
  rw [nx_and] at es
  subst es
  refine xw_frameOf hj he (by omega) ?_
  have F := ff_free O (s := w &&& p) (fun i hi => ff_and_sub hi)
  refine pk_eq (ff_fr j e (w &&& p) 12) (w &&& p) (fun z => ?_) (fun z => ?_) rfl rfl (by omega) (by omega)
  · refine yw_bars hp ?_
    rw [nx_and]
    refine yw_loose hj O.2.2.2.2.1 O.2.2.2.2.2.1 (by omega) ⟨ff_nb _, ?_, j, p, e, A, B, rfl, rfl, O⟩
    rw [F.mpr z]
    rfl
  · refine yw_bars hp ?_
    rw [nx_and]
    refine yw_loose hj O.2.2.2.2.1 O.2.2.2.2.2.1 (by omega) ⟨ff_nb _, ?_, j, p, e, A, B, rfl, rfl, O⟩
    cases q : ff_lo j A B (w &&& p) with
    | false => rfl
    | true => exact absurd (F.mp q) z
theorem i_vc_rank {k : Nat} {u : SX} {v : SY} (I : i_Rel k u v) (hk : k + 3 ≤ 1537) (v1 : Int32) : wpX_rank (fun r => wpY_rank (fun r' => r' = r ∧ i_Rel (k + 3) u v) v v1) u v1 := by
  obtain ⟨j, p, e, A, B, rfl, rfl, O⟩ := I
  have hj := O.2.1
  have hp := O.2.2.1
  have he := O.2.2.2.1
  obtain ⟨w, hw, rfl⟩ := wb_of32 v1
  have hs : w &&& p ≤ p := Nat.and_le_right
  unfold wpX_rank wpY_rank
  dsimp only
  rw [nx_and]
  refine xw_rankOf hj he (by omega) ?_
  refine yw_bars hp ?_
  rw [nx_and]
  exact yw_rankIn O (fun i hi => ff_and_sub hi) ⟨rfl, j, p, e, A, B, rfl, rfl, O⟩
theorem i_vc_frame {k : Nat} {u : SX} {v : SY} (I : i_Rel k u v) (hk : k + 3 ≤ 1537) : wpX_frame (fun r => wpY_frame (fun r' => r' = r ∧ i_Rel (k + 3) u v) v) u := by
  obtain ⟨j, p, e, A, B, rfl, rfl, O⟩ := I
  have hj := O.2.1
  have hp := O.2.2.1
  have he := O.2.2.2.1
  unfold wpX_frame
  dsimp only
  refine xw_frameOf hj he (by omega) ?_
  exact yw_frame O ⟨rfl, j, p, e, A, B, rfl, rfl, O⟩
theorem i_vc_rigid {k : Nat} {u : SX} {v : SY} (I : i_Rel k u v) (hk : k + 3 ≤ 1537) : wpX_rigid (fun r => wpY_rigid (fun r' => r' = r ∧ i_Rel (k + 3) u v) v) u := by
  obtain ⟨j, p, e, A, B, rfl, rfl, O⟩ := I
  have hj := O.2.1
  have hp := O.2.2.1
  have he := O.2.2.2.1
  unfold wpX_rigid
  dsimp only
  refine xw_rankOf hj he (by omega) ?_
  by_cases h : nI (ff_rk j e p) = 2 * nI j - 3
  · refine br_t h ?_
    exact yw_rigid O (fun _ => ⟨rfl, j, p, e, A, B, rfl, rfl, O⟩) (fun z => absurd h z)
  · refine br_f h ?_
    exact yw_rigid O (fun z => absurd z h) (fun _ => ⟨rfl, j, p, e, A, B, rfl, rfl, O⟩)
theorem i_vc_freedom {k : Nat} {u : SX} {v : SY} (I : i_Rel k u v) (hk : k + 3 ≤ 1537) : wpX_freedom (fun r => wpY_freedom (fun r' => r' = r ∧ i_Rel (k + 3) u v) v) u := by
  obtain ⟨j, p, e, A, B, rfl, rfl, O⟩ := I
  have hj := O.2.1
  have hp := O.2.2.1
  have he := O.2.2.2.1
  unfold wpX_freedom wpX_rigidRank
  dsimp only
  refine xw_rankOf hj he (by omega) ?_
  exact yw_freedom O ⟨rfl, j, p, e, A, B, rfl, rfl, O⟩
theorem i_vc_held {k : Nat} {u : SX} {v : SY} (I : i_Rel k u v) (hk : k + 3 ≤ 1537) (v1 : Int32) (v2 : Int32) : wpX_held (fun r => wpY_held (fun r' v' => r' = r ∧ i_Rel (k + 3) u v') v v1 v2) u v1 v2 := by
  obtain ⟨j, p, e, A, B, rfl, rfl, O⟩ := I
  have hj := O.2.1
  have hp := O.2.2.1
  have he := O.2.2.2.1
  have hl := ff_fr_lt j e p 12
  unfold wpX_held
  dsimp only
  rcases ff_case j hj v1 v2 with hx | ⟨a, b, ha, hb, hab, rfl, rfl⟩
  · refine xw_pair0 hj hx ?_
    refine br_t rfl ?_
    exact yw_held0 hj hx ⟨rfl, j, p, e, A, B, rfl, rfl, O⟩
  · have h64 := ff_pr64 (a := a) (b := b) (by omega) (by omega)
    have hd := ff_hd_ne (j := j) (e := e) (F := ff_fr j e p 12) ha hb hab
    refine xw_pair1 hj ha hb hab ?_
    refine br_f (by decide) ?_
    refine xw_frameOf hj he (by omega) ?_
    refine xw_pairOf (by omega) (by omega) ?_
    refine xw_staysFree hj he (by omega) (by omega) ?_
    refine ff_br0 (fun hc => ?_) (fun hc => ?_)
    · refine yw_heldA O ha hb (fun A2 B2 O2 => ⟨?_, j, p, e, A2, B2, rfl, rfl, O2⟩)
      rw [hd, hc]
      rfl
    · refine yw_heldA O ha hb (fun A2 B2 O2 => ⟨?_, j, p, e, A2, B2, rfl, rfl, O2⟩)
      rw [hd, hc]
      rfl
theorem i_vc_redundant {k : Nat} {u : SX} {v : SY} (I : i_Rel k u v) (hk : k + 3 ≤ 1537) (v1 : Int32) : wpX_redundant (fun r => wpY_redundant (fun r' => r' = r ∧ i_Rel (k + 3) u v) v v1) u v1 := by
  obtain ⟨j, p, e, A, B, rfl, rfl, O⟩ := I
  have hj := O.2.1
  have hp := O.2.2.1
  have he := O.2.2.2.1
  rcases ff_barcase p v1 with hx | ⟨k, hk, rfl, hb⟩
  · unfold wpX_redundant
    dsimp only
    refine xw_bar0 hp hx ?_
    refine br_t rfl ?_
    exact yw_redundant0 hp hx ⟨rfl, j, p, e, A, B, rfl, rfl, O⟩
  · refine xw_redundant1 O hk hb ?_
    exact yw_redundant1 O hk hb ⟨rfl, j, p, e, A, B, rfl, rfl, O⟩
theorem i_vc_ring {k : Nat} {u : SX} {v : SY} (I : i_Rel k u v) (hk : k + 3 ≤ 1537) (v1 : Int32) : wpX_ring (fun r => wpY_ring (fun r' => r' = r ∧ i_Rel (k + 3) u v) v v1) u v1 := by
  obtain ⟨j, p, e, A, B, rfl, rfl, O⟩ := I
  have hj := O.2.1
  have hp := O.2.2.1
  have he := O.2.2.2.1
  rcases ff_barcase p v1 with hx | ⟨k, hk, rfl, hb⟩
  · refine xw_ring0 hj he hp hx ?_
    exact yw_ring0 O hx ⟨rfl, j, p, e, A, B, rfl, rfl, O⟩
  · refine xw_ring1 hj he hp hk hb (fun h => ?_) (fun h => ?_)
    · refine yw_ring1 O hk hb (fun _ => ⟨rfl, j, p, e, A, B, rfl, rfl, O⟩) (fun z => ?_)
      rw [h] at z
      exact absurd z (by decide)
    · refine yw_ring1 O hk hb (fun z => ?_) (fun _ => ⟨rfl, j, p, e, A, B, rfl, rfl, O⟩)
      rw [h] at z
      exact absurd z (by decide)
theorem yw_heldTo0 {post : Int32 → SY → Prop} {j : Nat} {T E H : Nat → Int32} {x : Int32} (hj : 2 ≤ j) (hj6 : j ≤ 6) (hx : x < 0 ∨ nI j ≤ x) (h : post 0 (nI j, T, E, H)) : wpY_heldTo post (nI j, T, E, H) x := by
  unfold wpY_heldTo
  dsimp only
  refine yw_joint0 hx ?_
  refine br_t rfl ⟨1, ?_⟩
  refine br_f (nI_ge (a := 0) (b := j) (by omega) (by omega)) ?_
  refine yw_joint0 hx ?_
  exact br_t rfl h
theorem i_vc_heldTo {k : Nat} {u : SX} {v : SY} (I : i_Rel k u v) (hk : k + 3 ≤ 1537) (v1 : Int32) : wpX_heldTo (fun r => wpY_heldTo (fun r' v' => r' = r ∧ i_Rel (k + 3) u v') v v1) u v1 := by
  obtain ⟨j, p, e, A, B, rfl, rfl, O⟩ := I
  have hj := O.2.1
  have hp := O.2.2.1
  have he := O.2.2.2.1
  have hl := ff_fr_lt j e p 12
  unfold wpX_heldTo
  dsimp only
  by_cases hx : v1 < 0 ∨ nI j ≤ v1
  · refine xw_joint0 hx ?_
    refine br_t rfl ?_
    exact yw_heldTo0 O.1 hj hx ⟨rfl, j, p, e, A, B, rfl, rfl, O⟩
  · rcases pk_ix v1 (n := j) (by omega) with z | z | ⟨a, ha, rfl⟩
    · exact absurd (Or.inl z) hx
    · exact absurd (Or.inr z) hx
    · refine xw_joint1 hj ha ?_
      refine br_f (by decide) ?_
      refine xw_frameOf hj he (by omega) ?_
      refine xw_jointsHeldTo hj he (by omega) ha ?_
      exact yw_heldTo O ha (fun A2 B2 O2 => ⟨rfl, j, p, e, A2, B2, rfl, rfl, O2⟩)
theorem i_vc_bodies {k : Nat} {u : SX} {v : SY} (I : i_Rel k u v) (hk : k + 3 ≤ 1537) : wpX_bodies (fun r => wpY_bodies (fun r' v' => r' = r ∧ i_Rel (k + 3) u v') v) u := by
  obtain ⟨j, p, e, A, B, rfl, rfl, O⟩ := I
  have hj := O.2.1
  have hp := O.2.2.1
  have he := O.2.2.2.1
  refine xw_bodies hj he hp ?_
  refine yw_bodies O (fun A2 B2 O2 => ⟨?_, j, p, e, A2, B2, rfl, rfl, O2⟩)
  rw [ff_bodies_eq e _ hj]
theorem yw_doublyHeld {post : Int32 → Prop} {j p : Nat} {e A B : Nat → Nat} (O : ff_Ok j p e A B) (h1 : nI (ff_rk j e p) = 2 * nI j - 3 → post (nI (ff_all (ff_dp j e p) 12).toNat)) (h2 : ¬ nI (ff_rk j e p) = 2 * nI j - 3 → post 0) : wpY_doublyHeld post (nI j, fun k => nI (p.testBit k).toNat, fun k => nI (A k), fun k => nI (B k)) := by
  unfold wpY_doublyHeld
  dsimp only
  refine yw_rigid O (fun z => ?_) (fun z => ?_)
  · exact yw_doubly (b := true) O (h1 z)
  · exact yw_doubly (b := false) O (h2 z)
theorem i_vc_doublyHeld {k : Nat} {u : SX} {v : SY} (I : i_Rel k u v) (hk : k + 3 ≤ 1537) : wpX_doublyHeld (fun r => wpY_doublyHeld (fun r' => r' = r ∧ i_Rel (k + 3) u v) v) u := by
  obtain ⟨j, p, e, A, B, rfl, rfl, O⟩ := I
  have hj := O.2.1
  have hp := O.2.2.1
  have he := O.2.2.2.1
  unfold wpX_doublyHeld
  dsimp only
  refine xw_rankOf hj he (by omega) ?_
  by_cases h : nI (ff_rk j e p) = 2 * nI j - 3
  · refine br_t h ?_
    refine xw_doubly O ?_
    exact yw_doublyHeld O (fun _ => ⟨rfl, j, p, e, A, B, rfl, rfl, O⟩) (fun z => absurd h z)
  · refine br_f h ?_
    exact yw_doublyHeld O (fun z => absurd z h) (fun _ => ⟨rfl, j, p, e, A, B, rfl, rfl, O⟩)
end
