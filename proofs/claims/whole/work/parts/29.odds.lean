/-! odds: the model sums over all winds, the class has the product -/
def sm_ (f : Nat → Nat) : Nat → Nat
  | 0 => 0
  | n + 1 => sm_ f n + f n
def pr_ (f : Nat → Nat) : Nat → Nat
  | 0 => 1
  | n + 1 => pr_ f n * f n
def cn_ (p : Nat → Bool) : Nat → Nat
  | 0 => 0
  | n + 1 => if p n = true then cn_ p n + 1 else cn_ p n
theorem sm_congr {f g : Nat → Nat} : ∀ {n : Nat}, (∀ k, k < n → f k = g k) → sm_ f n = sm_ g n
  | 0, _ => rfl
  | n + 1, h => by rw [sm_, sm_, sm_congr (fun k hk => h k (by omega)), h n (by omega)]
theorem pr_congr {f g : Nat → Nat} : ∀ {n : Nat}, (∀ k, k < n → f k = g k) → pr_ f n = pr_ g n
  | 0, _ => rfl
  | n + 1, h => by rw [pr_, pr_, pr_congr (fun k hk => h k (by omega)), h n (by omega)]
theorem sm_add (f : Nat → Nat) (m : Nat) : ∀ n, sm_ f (m + n) = sm_ f m + sm_ (fun k => f (m + k)) n
  | 0 => rfl
  | n + 1 => by rw [← Nat.add_assoc, sm_, sm_add f m n, sm_, Nat.add_assoc]
theorem sm_mul (f : Nat → Nat) (c : Nat) : ∀ n, sm_ (fun k => f k * c) n = sm_ f n * c
  | 0 => (Nat.zero_mul c).symm
  | n + 1 => by rw [sm_, sm_, sm_mul f c n, Nat.add_mul]
theorem pr_zero {f : Nat → Nat} : ∀ {n k : Nat}, k < n → f k = 0 → pr_ f n = 0
  | 0, k, h, _ => absurd h (Nat.not_lt_zero k)
  | n + 1, k, h, e => by
    rw [pr_]
    by_cases q : k = n
    · rw [← q, e, Nat.mul_zero]
    · rw [pr_zero (show k < n by omega) e, Nat.zero_mul]
theorem sum_prod (G : Nat → Bool → Nat) : ∀ n : Nat, sm_ (fun s => pr_ (fun k => G k (s.testBit k)) n) (2 ^ n) = pr_ (fun k => G k false + G k true) n
  | 0 => rfl
  | n + 1 => by
    have ih := sum_prod G n
    have e1 : sm_ (fun s => pr_ (fun k => G k (s.testBit k)) (n + 1)) (2 ^ n) = sm_ (fun s => pr_ (fun k => G k (s.testBit k)) n) (2 ^ n) * G n false := by
      rw [← sm_mul]
      refine sm_congr (fun s hs => ?_)
      rw [pr_, Nat.testBit_lt_two_pow hs]
    have e2 : sm_ (fun s => pr_ (fun k => G k ((2 ^ n + s).testBit k)) (n + 1)) (2 ^ n) = sm_ (fun s => pr_ (fun k => G k (s.testBit k)) n) (2 ^ n) * G n true := by
      rw [← sm_mul]
      refine sm_congr (fun s hs => ?_)
      rw [pr_, pr_congr (g := fun k => G k (s.testBit k)) (fun k hk => by rw [Nat.testBit_two_pow_add_gt hk])]
      rw [show (2 ^ n + s).testBit n = true from by rw [Nat.testBit_two_pow_add_eq, Nat.testBit_lt_two_pow hs]; rfl]
    rw [show 2 ^ (n + 1) = 2 ^ n + 2 ^ n by omega, sm_add, e1, e2, ih, pr_, Nat.mul_add]
/-- who must be blown away ahead of oven o -/
def rv (σ : Nat → Int32) (sh o : Nat) : Nat → Bool := fun k => decide (¬ k = o ∧ sh.testBit k = false ∧ (σ o < σ k ∨ (σ k = σ o ∧ k < o)))
def oth (σ : Nat → Int32) (sh o : Nat) : Nat → Bool := fun k => decide (¬ k = o ∧ sh.testBit k = false ∧ rv σ sh o k = false)
def GG_ (σ : Nat → Int32) (sh o xx k : Nat) (bit : Bool) : Nat := if sh.testBit k then (if bit then 0 else if k = o then 0 else 1) else if k = o then (if bit then 0 else 10 - xx) else if rv σ sh o k then (if bit then xx else 0) else (if bit then xx else 10 - xx)
def wt (sh xx s k : Nat) : Nat := if sh.testBit k then 1 else if s.testBit k then xx else 10 - xx
def tm (σ : Nat → Int32) (a sh o xx s : Nat) : Nat := if s &&& sh = 0 then (if nose σ (opn (sh ||| s)) a = nI o then pr_ (wt sh xx s) a else 0) else 0
theorem and_0 {s sh a : Nat} (hs : s < 2 ^ a) : s &&& sh = 0 ↔ ∀ k, k < a → ¬ (s.testBit k = true ∧ sh.testBit k = true) := by
  constructor
  · intro h k _ ⟨h1, h2⟩
    have := congrArg (fun z => z.testBit k) h
    simp only [Nat.testBit_and, h1, h2, Nat.zero_testBit] at this
    cases this
  · intro h
    apply Nat.eq_of_testBit_eq
    intro k
    rw [Nat.testBit_and, Nat.zero_testBit]
    by_cases hk : k < a
    · have := h k hk
      cases h1 : s.testBit k
      · rfl
      · cases h2 : sh.testBit k
        · rfl
        · exact absurd ⟨h1, h2⟩ this
    · rw [Nat.testBit_lt_two_pow (Nat.lt_of_lt_of_le hs (Nat.pow_le_pow_right (by decide) (by omega)))]; rfl
theorem opn_or (sh s k : Nat) : opn (sh ||| s) k = true ↔ sh.testBit k = false ∧ s.testBit k = false := by
  unfold opn; rw [Nat.testBit_or]; cases sh.testBit k <;> cases s.testBit k <;> simp
theorem beats {x y : Int32} {p o : Nat} (hne : ¬ p = o) : ¬ (x < y ∨ (x = y ∧ o < p)) ↔ (y < x ∨ (x = y ∧ p < o)) := by
  simp only [t_lt, t_eq]; omega
theorem tm_eq {σ : Nat → Int32} {a sh o xx s : Nat} (ha : a ≤ 5) (hσ : ∀ o, o < a → (-1000000 : Int32) < σ o) (ho : o < a) (hs : s < 2 ^ a) : tm σ a sh o xx s = pr_ (fun k => GG_ σ sh o xx k (s.testBit k)) a := by
  unfold tm
  by_cases c : s &&& sh = 0
  · rw [if_pos c]
    have hc := (and_0 hs).mp c
    by_cases cn : nose σ (opn (sh ||| s)) a = nI o
    · rw [if_pos cn]
      have hB := (nose_iff ha hσ (show o < 2147483648 by omega)).mp cn
      have hoo := (opn_or sh s o).mp hB.2.1
      refine pr_congr (fun k hk => ?_)
      unfold wt GG_
      by_cases h1 : sh.testBit k = true
      · have e : ¬ k = o := fun z => by rw [z, hoo.1] at h1; cases h1
        have h3 : ¬ s.testBit k = true := fun z => hc k hk ⟨z, h1⟩
        simp [h1, e, h3]
      · by_cases e : k = o
        · subst e; simp [h1, hoo.2]
        · by_cases h2 : rv σ sh o k = true
          · have h3 : s.testBit k = true := by
              refine Classical.byContradiction fun z => ?_
              have hr := of_decide_eq_true h2
              exact (beats e).mpr hr.2.2 (hB.2.2 k hk ((opn_or sh s k).mpr ⟨by simpa using h1, by simpa using z⟩) e)
            simp [h1, e, h2, h3]
          · simp [h1, e, h2]
    · rw [if_neg cn]
      symm
      by_cases h1 : sh.testBit o = true
      · refine pr_zero ho ?_
        unfold GG_; rw [if_pos h1]; split <;> simp
      · have h1' : sh.testBit o = false := by simpa using h1
        by_cases h2 : s.testBit o = true
        · refine pr_zero ho ?_
          unfold GG_; rw [if_neg h1, if_pos rfl, if_pos h2]
        · have h2' : s.testBit o = false := by simpa using h2
          have : ∃ p, p < a ∧ rv σ sh o p = true ∧ s.testBit p = false := by
            refine Classical.byContradiction fun hno => cn ((nose_iff ha hσ (show o < 2147483648 by omega)).mpr ⟨ho, (opn_or sh s o).mpr ⟨h1', h2'⟩, fun p hp hop hne => ?_⟩)
            refine Classical.byContradiction fun hnb => hno ⟨p, hp, ?_, ((opn_or sh s p).mp hop).2⟩
            exact decide_eq_true ⟨hne, ((opn_or sh s p).mp hop).1, (beats hne).mp hnb⟩
          obtain ⟨p, hp, hr, hsp⟩ := this
          have hr2 := of_decide_eq_true hr
          refine pr_zero hp ?_
          unfold GG_
          rw [hr2.2.1, if_neg (by decide), if_neg hr2.1, if_pos hr, hsp]; rfl
  · rw [if_neg c]
    have : ∃ k, k < a ∧ s.testBit k = true ∧ sh.testBit k = true := Classical.byContradiction fun hno => c ((and_0 hs).mpr (fun k hk z => hno ⟨k, hk, z⟩))
    obtain ⟨k, hk, h1, h2⟩ := this
    symm
    refine pr_zero hk ?_
    unfold GG_; rw [if_pos h2, if_pos h1]
theorem above_eq {σ : Nat → Int32} {a sh o xx : Nat} (ha : a ≤ 5) (hσ : ∀ o, o < a → (-1000000 : Int32) < σ o) (ho : o < a) : sm_ (tm σ a sh o xx) (2 ^ a) = pr_ (fun k => GG_ σ sh o xx k false + GG_ σ sh o xx k true) a := by
  rw [← sum_prod]
  exact sm_congr (fun s hs => tm_eq ha hσ ho hs)
theorem H_o {σ : Nat → Int32} {sh o xx : Nat} (hop : sh.testBit o = false) (hx : xx ≤ 10) : ∀ n, pr_ (fun k => GG_ σ sh o xx k false + GG_ σ sh o xx k true) n = (if o < n then 10 - xx else 1) * xx ^ cn_ (rv σ sh o) n * 10 ^ cn_ (oth σ sh o) n ∧ pr_ (fun k => if sh.testBit k then 1 else 10) n = (if o < n then 10 else 1) * 10 ^ cn_ (rv σ sh o) n * 10 ^ cn_ (oth σ sh o) n
  | 0 => by simp [pr_, cn_]
  | n + 1 => by
    obtain ⟨h1, h2⟩ := H_o (σ := σ) hop hx n
    have A1 : cn_ (rv σ sh o) (n + 1) = cn_ (rv σ sh o) n + (if rv σ sh o n = true then 1 else 0) := by rw [cn_]; split <;> rfl
    have A2 : cn_ (oth σ sh o) (n + 1) = cn_ (oth σ sh o) n + (if oth σ sh o n = true then 1 else 0) := by rw [cn_]; split <;> rfl
    rw [pr_, h1, pr_, h2]
    by_cases e : n = o
    · subst e
      have r0 : rv σ sh n n = false := decide_eq_false (fun z => z.1 rfl)
      have t0 : oth σ sh n n = false := decide_eq_false (fun z => z.1 rfl)
      have e1 : GG_ σ sh n xx n false + GG_ σ sh n xx n true = 10 - xx := by unfold GG_; rw [hop]; simp
      rw [r0] at A1
      rw [t0] at A2
      simp only [Bool.false_eq_true, if_false, Nat.add_zero] at A1 A2
      rw [A1, A2, if_neg (show ¬ n < n by omega), if_pos (show n < n + 1 by omega), if_neg (show ¬ n < n by omega), if_pos (show n < n + 1 by omega), e1, hop]
      constructor
      · rw [Nat.one_mul, Nat.mul_comm, Nat.mul_assoc]
      · rw [if_neg (by decide), Nat.one_mul, Nat.mul_comm, Nat.mul_assoc]
    · have ho : (o < n + 1) = (o < n) := by apply propext; omega
      simp only [ho]
      cases hs : sh.testBit n
      · cases hr : rv σ sh o n
        · have t1 : oth σ sh o n = true := decide_eq_true ⟨e, hs, hr⟩
          rw [hr] at A1
          rw [t1] at A2
          simp only [Bool.false_eq_true, if_false, Nat.add_zero, if_true] at A1 A2
          have e1 : GG_ σ sh o xx n false + GG_ σ sh o xx n true = 10 := by unfold GG_; simp [hs, hr, e]; omega
          rw [A1, A2, e1, Nat.pow_succ]
          exact ⟨by simp only [Nat.mul_assoc], by simp only [Bool.false_eq_true, if_false, Nat.mul_assoc]⟩
        · have t1 : oth σ sh o n = false := decide_eq_false (fun z => by rw [hr] at z; cases z.2.2)
          rw [hr] at A1
          rw [t1] at A2
          simp only [Bool.false_eq_true, if_false, Nat.add_zero, if_true] at A1 A2
          have e1 : GG_ σ sh o xx n false + GG_ σ sh o xx n true = xx := by unfold GG_; simp [hs, hr, e]
          rw [A1, A2, e1, Nat.pow_succ, Nat.pow_succ]
          constructor
          · simp only [Nat.mul_assoc, Nat.mul_comm, Nat.mul_left_comm]
          · simp only [Bool.false_eq_true, if_false, Nat.mul_assoc, Nat.mul_comm, Nat.mul_left_comm]
      · have r0 : rv σ sh o n = false := decide_eq_false (fun z => by rw [hs] at z; cases z.2.1)
        have t0 : oth σ sh o n = false := decide_eq_false (fun z => by rw [hs] at z; cases z.2.1)
        rw [r0] at A1
        rw [t0] at A2
        simp only [Bool.false_eq_true, if_false, Nat.add_zero] at A1 A2
        have e1 : GG_ σ sh o xx n false + GG_ σ sh o xx n true = 1 := by unfold GG_; simp [hs, e]
        rw [A1, A2, e1, Nat.mul_one, if_pos rfl, Nat.mul_one]
        exact ⟨rfl, rfl⟩
theorem H_c {σ : Nat → Int32} {sh o xx a : Nat} (hcl : sh.testBit o = true) (ho : o < a) : pr_ (fun k => GG_ σ sh o xx k false + GG_ σ sh o xx k true) a = 0 := pr_zero ho (by unfold GG_; rw [if_pos hcl, if_pos hcl]; simp)
theorem cn_le (p : Nat → Bool) : ∀ n, cn_ p n ≤ n
  | 0 => Nat.le_refl 0
  | n + 1 => by have := cn_le p n; rw [cn_]; split <;> omega
theorem rv_le {σ : Nat → Int32} {sh o : Nat} : ∀ {n : Nat}, o < n → cn_ (rv σ sh o) n + 1 ≤ n
  | 0, h => absurd h (Nat.not_lt_zero o)
  | n + 1, h => by
    rw [cn_]
    by_cases e : o = n
    · have : rv σ sh o n = false := decide_eq_false (fun z => z.1 e.symm)
      rw [this, if_neg (by decide)]
      have := cn_le (rv σ sh o) n; omega
    · have := rv_le (σ := σ) (sh := sh) (show o < n by omega); split <;> omega
/-! the greatest common divisor -/
theorem n_ne0 {q : Nat} (h : ¬ q = 0) (hq : q < 2147483648) : ¬ nI q = 0 := fun z => h ((neq hq (by omega : 0 < 2147483648)).mp z)
theorem md_n {p q : Nat} (hp : p < 2147483648) (hq : 0 < q) (hq2 : q < 2147483648) : nI p - nI p / nI q * nI q = nI (p % q) := pk_rem hp hq hq2
theorem half {p q : Nat} (hq : 0 < q) (hr : 0 < p % q) : 2 * (q % (p % q)) < q := by
  have h1 := Nat.mod_lt p hq
  have h2 := Nat.mod_lt q hr
  by_cases c : 2 * (p % q) ≤ q
  · omega
  · have : q % (p % q) = q - p % q := by
      rw [Nat.mod_eq_sub_mod (by omega), Nat.mod_eq_of_lt (by omega)]
    omega
theorem c_gcd : ∀ (k p q i fuel : Nat), q < 2 ^ k → p < 2147483648 → q < 2147483648 → i + 2 * k < 64 → 2 * k < fuel → f_X4_commonDivisor_7 fuel (nI p) (nI q) (nI i) = some (nI (Nat.gcd p q))
  | 0, p, q, i, fuel, h, hp, hq, hi, hf => by
    obtain ⟨n, rfl⟩ : ∃ n, fuel = n + 1 := ⟨fuel - 1, by omega⟩
    have : q = 0 := by simpa using h
    subst this
    rw [f_X4_commonDivisor_7, i_nLle (by omega) (by omega), i_leL (by omega) (by omega), Nat.gcd_zero_right]
  | k + 1, p, q, i, fuel, h, hp, hq, hi, hf => by
    obtain ⟨n, rfl⟩ : ∃ n, fuel = n + 2 := ⟨fuel - 2, by omega⟩
    rw [f_X4_commonDivisor_7, i_nLle (by omega) (by omega)]
    by_cases c : q = 0
    · subst c; rw [i_leL (by omega) (by omega), Nat.gcd_zero_right]
    · have hmod := Nat.mod_lt p (show q > 0 by omega)
      rw [i_nleL (by omega) (by omega), if_pos (n_ne0 c hq), md_n hp (by omega) hq, nI_1, f_X4_commonDivisor_7, i_nLle (by omega) (by omega)]
      have eg : Nat.gcd p q = Nat.gcd q (p % q) := by rw [Nat.gcd_comm p q, Nat.gcd_rec q p, Nat.gcd_comm]
      by_cases c2 : p % q = 0
      · rw [c2, i_leL (by omega) (by omega), eg, c2, Nat.gcd_zero_right]
      · have hmod2 := Nat.mod_lt q (show p % q > 0 by omega)
        have hh := half (p := p) (q := q) (by omega) (by omega)
        rw [i_nleL (by omega) (by omega), if_pos (n_ne0 c2 (by omega)), md_n hq (by omega) (by omega), nI_1, c_gcd k (p % q) (q % (p % q)) (i + 1 + 1) n (by rw [Nat.pow_succ] at h; omega) (by omega) (by omega) (by omega) (by omega)]
        rw [eg, Nat.gcd_comm q (p % q), Nat.gcd_rec (p % q) q, Nat.gcd_comm (q % (p % q))]
theorem m_gcd (T S : Nat → Int32) (van x4 x5 x6 : Int32) : ∀ (k p q fuel : Nat), q < 2 ^ k → 0 < p + q → p < 2147483648 → q < 2147483648 → 2 * k < fuel → f_X5_odds_228 van T S fuel x4 x5 x6 (nI p) (nI q) = some (if x4 = 0 then x5 / nI (Nat.gcd p q) else x6 / nI (Nat.gcd p q))
  | 0, p, q, fuel, h, h0, hp, hq, hf => by
    obtain ⟨n, rfl⟩ : ∃ n, fuel = n + 1 := ⟨fuel - 1, by omega⟩
    have : q = 0 := by simpa using h
    subst this
    rw [f_X5_odds_228, i_leL (by omega) (by omega), Nat.gcd_zero_right, if_pos (n_ne0 (show ¬ p = 0 by omega) hp), if_pos (n_ne0 (show ¬ p = 0 by omega) hp)]
    split <;> rfl
  | k + 1, p, q, fuel, h, h0, hp, hq, hf => by
    obtain ⟨n, rfl⟩ : ∃ n, fuel = n + 2 := ⟨fuel - 2, by omega⟩
    rw [f_X5_odds_228]
    by_cases c : q = 0
    · subst c
      rw [i_leL (by omega) (by omega), Nat.gcd_zero_right, if_pos (n_ne0 (show ¬ p = 0 by omega) hp), if_pos (n_ne0 (show ¬ p = 0 by omega) hp)]
      split <;> rfl
    · have hmod := Nat.mod_lt p (show q > 0 by omega)
      have eg : Nat.gcd p q = Nat.gcd q (p % q) := by rw [Nat.gcd_comm p q, Nat.gcd_rec q p, Nat.gcd_comm]
      rw [i_nleL (by omega) (by omega), if_pos (n_ne0 c hq), md_n hp (by omega) hq, f_X5_odds_228]
      by_cases c2 : p % q = 0
      · rw [c2, i_leL (by omega) (by omega), eg, c2, Nat.gcd_zero_right, if_pos (n_ne0 c hq), if_pos (n_ne0 c hq)]
        split <;> rfl
      · have hmod2 := Nat.mod_lt q (show p % q > 0 by omega)
        have hh := half (p := p) (q := q) (by omega) (by omega)
        rw [i_nleL (by omega) (by omega), if_pos (n_ne0 c2 (by omega)), md_n hq (by omega) (by omega), m_gcd T S van x4 x5 x6 k (p % q) (q % (p % q)) n (by rw [Nat.pow_succ] at h; omega) (by omega) (by omega) (by omega) (by omega)]
        rw [eg, Nat.gcd_comm q (p % q), Nat.gcd_rec (p % q) q, Nat.gcd_comm (q % (p % q))]
