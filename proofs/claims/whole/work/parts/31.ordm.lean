/-! order: the mathematics. A step puts dough d behind the one that is done at f -/
def dn (b r t : Nat) (out : Nat → Bool) (ris late need : Nat → Nat) (d f : Nat) : Option Nat :=
  if d < b ∧ out d = true ∧ 0 < r ∧ max f (ris d) ≤ late d ∧ max f (ris d) + (need d + r - 1) / r ≤ t then some (max f (ris d) + (need d + r - 1) / r) else none
theorem dn_mono {b r t : Nat} {out : Nat → Bool} {ris late need : Nat → Nat} {d f f' e' : Nat} (hf : f ≤ f') (h : dn b r t out ris late need d f' = some e') : ∃ e, e ≤ e' ∧ dn b r t out ris late need d f = some e := by
  unfold dn at h ⊢
  by_cases c : d < b ∧ out d = true ∧ 0 < r ∧ max f' (ris d) ≤ late d ∧ max f' (ris d) + (need d + r - 1) / r ≤ t
  · rw [if_pos c] at h
    have hm : max f (ris d) ≤ max f' (ris d) := by omega
    cases h
    refine ⟨max f (ris d) + (need d + r - 1) / r, by omega, if_pos ⟨c.1, c.2.1, c.2.2.1, by omega, by omega⟩⟩
  · rw [if_neg c] at h; cases h
theorem dn_ge {b r t : Nat} {out : Nat → Bool} {ris late need : Nat → Nat} {d f e : Nat} (h : dn b r t out ris late need d f = some e) : f ≤ e ∧ e ≤ t ∧ d < b ∧ out d = true := by
  unfold dn at h
  split at h
  · rename_i c
    cases h
    exact ⟨Nat.le_trans (Nat.le_max_left _ _) (Nat.le_add_right _ _), c.2.2.2.2, c.1, c.2.1⟩
  · cases h
section O
variable (D : Nat → Nat → Option Nat)
/-- a row of doughs, from a set s at minute f -/
def rn : Nat → Nat → List Nat → Option (Nat × Nat)
  | s, f, [] => some (s, f)
  | s, f, d :: l => if s.testBit d then none else (D d f).bind fun e => rn (s ||| 2 ^ d) e l
theorem rn_snoc : ∀ (l : List Nat) (s f d : Nat), rn D s f (l ++ [d]) = (rn D s f l).bind fun p => if p.1.testBit d then none else (D d p.2).bind fun e => some (p.1 ||| 2 ^ d, e)
  | [], s, f, d => by
    show rn D s f [d] = (some (s, f)).bind _
    rw [rn, Option.bind_some]; rfl
  | c :: l, s, f, d => by
    show rn D s f (c :: (l ++ [d])) = _
    rw [rn, rn]
    by_cases h : s.testBit c = true
    · rw [if_pos h, if_pos h]; rfl
    · rw [if_neg h, if_neg h]
      cases D c f with
      | none => rfl
      | some e => rw [Option.bind_some, Option.bind_some]; exact rn_snoc l _ e d
abbrev Tr : Type := Nat × Nat × List Nat
def comb (st x : Tr) : Tr := if st.1 < x.1 ∨ (x.1 = st.1 ∧ x.2.1 < st.2.1) then x else st
def fo (g : Nat → Option Tr) (z : Tr) : Nat → Tr
  | 0 => z
  | d + 1 => match g d with
    | none => fo g z d
    | some c => comb (fo g z d) c
def bst : Nat → Nat → Nat → Tr
  | 0, _, f => (0, f, [])
  | n + 1, s, f => fo (fun d => if s.testBit d then none else (D d f).map (fun e => ((bst n (s ||| 2 ^ d) e).1 + 1, (bst n (s ||| 2 ^ d) e).2.1, d :: (bst n (s ||| 2 ^ d) e).2.2))) (0, f, []) 6
def gB (n s f : Nat) : Nat → Option Tr := fun d => if s.testBit d then none else (D d f).map (fun e => ((bst D n (s ||| 2 ^ d) e).1 + 1, (bst D n (s ||| 2 ^ d) e).2.1, d :: (bst D n (s ||| 2 ^ d) e).2.2))
theorem bst_s (n s f : Nat) : bst D (n + 1) s f = fo (gB D n s f) (0, f, []) 6 := rfl
end O
theorem fo_none {g : Nat → Option Tr} {z : Tr} {n : Nat} (h : g n = none) : fo g z (n + 1) = fo g z n := by rw [fo, h]
theorem fo_some {g : Nat → Option Tr} {z c : Tr} {n : Nat} (h : g n = some c) : fo g z (n + 1) = comb (fo g z n) c := by rw [fo, h]
theorem gB_some {D : Nat → Nat → Option Nat} {n s f d : Nat} {c : Tr} (h : gB D n s f d = some c) : s.testBit d = false ∧ ∃ e, D d f = some e ∧ c = ((bst D n (s ||| 2 ^ d) e).1 + 1, (bst D n (s ||| 2 ^ d) e).2.1, d :: (bst D n (s ||| 2 ^ d) e).2.2) := by
  unfold gB at h
  by_cases c1 : s.testBit d = true
  · rw [if_pos c1] at h; cases h
  · rw [if_neg c1] at h
    cases e : D d f with
    | none => rw [e] at h; cases h
    | some e1 => rw [e] at h; exact ⟨by simpa using c1, e1, rfl, (Option.some.inj h).symm⟩
theorem gB_of {D : Nat → Nat → Option Nat} {n s f d e : Nat} (h1 : s.testBit d = false) (h2 : D d f = some e) : gB D n s f d = some ((bst D n (s ||| 2 ^ d) e).1 + 1, (bst D n (s ||| 2 ^ d) e).2.1, d :: (bst D n (s ||| 2 ^ d) e).2.2) := by
  unfold gB; rw [if_neg (by rw [h1]; decide), h2]; rfl
theorem comb_pos {st x : Tr} (h : st.1 < x.1 ∨ (x.1 = st.1 ∧ x.2.1 < st.2.1)) : comb st x = x := if_pos h
theorem comb_neg {st x : Tr} (h : ¬ (st.1 < x.1 ∨ (x.1 = st.1 ∧ x.2.1 < st.2.1))) : comb st x = st := if_neg h
theorem comb_assoc (x y z : Tr) : comb (comb x y) z = comb x (comb y z) := by
  by_cases h1 : x.1 < y.1 ∨ (y.1 = x.1 ∧ y.2.1 < x.2.1)
  · rw [comb_pos h1]
    by_cases h2 : y.1 < z.1 ∨ (z.1 = y.1 ∧ z.2.1 < y.2.1)
    · rw [comb_pos h2, comb_pos (show x.1 < z.1 ∨ (z.1 = x.1 ∧ z.2.1 < x.2.1) by omega)]
    · rw [comb_neg h2, comb_pos h1]
  · rw [comb_neg h1]
    by_cases h2 : y.1 < z.1 ∨ (z.1 = y.1 ∧ z.2.1 < y.2.1)
    · rw [comb_pos h2]
    · rw [comb_neg h2, comb_neg h1, comb_neg (show ¬ (x.1 < z.1 ∨ (z.1 = x.1 ∧ z.2.1 < x.2.1)) by omega)]
theorem comb_self (x : Tr) : comb x x = x := comb_neg (by omega)
theorem comb_fo (g : Nat → Option Tr) (z : Tr) : ∀ n, comb z (fo g z n) = fo g z n
  | 0 => comb_self z
  | n + 1 => by
    cases hg : g n with
    | none => rw [fo_none hg]; exact comb_fo g z n
    | some c => rw [fo_some hg, ← comb_assoc, comb_fo g z n]
/-- what a fold of the first best has -/
theorem fo_spec (g : Nat → Option Tr) (z : Tr) : ∀ n, (fo g z n = z ∨ ∃ d c, d < n ∧ g d = some c ∧ fo g z n = c ∧ (z.1 < c.1 ∨ (c.1 = z.1 ∧ c.2.1 < z.2.1)) ∧ ∀ d' c', d' < d → g d' = some c' → c'.1 < c.1 ∨ (c'.1 = c.1 ∧ c.2.1 < c'.2.1)) ∧ ∀ d c, d < n → g d = some c → c.1 < (fo g z n).1 ∨ (c.1 = (fo g z n).1 ∧ (fo g z n).2.1 ≤ c.2.1)
  | 0 => ⟨Or.inl rfl, fun d c h => absurd h (Nat.not_lt_zero d)⟩
  | n + 1 => by
    obtain ⟨h1, h2⟩ := fo_spec g z n
    cases hg : g n with
    | none =>
      rw [fo_none hg]
      refine ⟨?_, fun d c hd hc => ?_⟩
      · rcases h1 with h1 | ⟨d, c, q1, q2, q3, q4, q5⟩
        · exact Or.inl h1
        · exact Or.inr ⟨d, c, by omega, q2, q3, q4, q5⟩
      · by_cases e : d = n
        · rw [e, hg] at hc; cases hc
        · exact h2 d c (by omega) hc
    | some c0 =>
      rw [fo_some hg]
      by_cases hb : (fo g z n).1 < c0.1 ∨ (c0.1 = (fo g z n).1 ∧ c0.2.1 < (fo g z n).2.1)
      · rw [comb_pos hb]
        refine ⟨Or.inr ⟨n, c0, by omega, hg, rfl, ?_, fun d' c' hd' hc' => ?_⟩, fun d c hd hc => ?_⟩
        · rcases h1 with h1 | ⟨d, c, -, -, q3, q4, -⟩
          · rw [h1] at hb; exact hb
          · rw [q3] at hb; omega
        · have := h2 d' c' hd' hc'; omega
        · by_cases e : d = n
          · rw [e, hg] at hc; cases hc; omega
          · have := h2 d c (by omega) hc; omega
      · rw [comb_neg hb]
        refine ⟨?_, fun d c hd hc => ?_⟩
        · rcases h1 with h1 | ⟨d, c, q1, q2, q3, q4, q5⟩
          · exact Or.inl h1
          · exact Or.inr ⟨d, c, by omega, q2, q3, q4, q5⟩
        · by_cases e : d = n
          · rw [e, hg] at hc; cases hc; omega
          · exact h2 d c (by omega) hc
/-- so many of the six are not in the set -/
def fr (s : Nat) : Nat := cn_ (fun k => !s.testBit k) 6
theorem fr_or : ∀ s d : Nat, s < 64 → d < 6 → s.testBit d = false → fr (s ||| 2 ^ d) + 1 = fr s := by
  have h : ∀ s : Fin 64, ∀ d : Fin 6, s.val.testBit d.val = false → fr (s.val ||| 2 ^ d.val) + 1 = fr s.val := by decide +kernel
  exact fun s d h1 h2 => h ⟨s, h1⟩ ⟨d, h2⟩
theorem or_64 {s d : Nat} (hs : s < 64) (hd : d < 6) : s ||| 2 ^ d < 64 := Nat.or_lt_two_pow (n := 6) hs (Nat.pow_lt_pow_right (by decide) hd)
section B
variable {D : Nat → Nat → Option Nat}
/-- the best row: it is one, and none is better -/
theorem bst_spec (hD : ∀ d f e, D d f = some e → d < 6) : ∀ (n s f : Nat), s < 64 → fr s ≤ n → (∃ s', rn D s f (bst D n s f).2.2 = some (s', (bst D n s f).2.1)) ∧ (bst D n s f).2.2.length = (bst D n s f).1 ∧ ∀ l p, rn D s f l = some p → l.length < (bst D n s f).1 ∨ (l.length = (bst D n s f).1 ∧ (bst D n s f).2.1 ≤ p.2)
  | 0, s, f, hs, hn => by
    refine ⟨⟨s, rfl⟩, rfl, fun l p h => ?_⟩
    cases l with
    | nil => cases h; exact Or.inr ⟨rfl, Nat.le_refl _⟩
    | cons d l =>
      exfalso
      rw [rn] at h
      by_cases c : s.testBit d = true
      · rw [if_pos c] at h; cases h
      · rw [if_neg c] at h
        cases e : D d f with
        | none => rw [e] at h; cases h
        | some e1 =>
          have := fr_or s d hs (hD d f e1 e) (by simpa using c)
          omega
  | n + 1, s, f, hs, hn => by
    obtain ⟨h1, h2⟩ := fo_spec (gB D n s f) (0, f, []) 6
    rw [← bst_s] at h1 h2
    have sub : ∀ d e, s.testBit d = false → D d f = some e → fr (s ||| 2 ^ d) ≤ n ∧ (s ||| 2 ^ d) < 64 := fun d e q1 q2 => by
      have := fr_or s d hs (hD d f e q2) q1
      exact ⟨by omega, or_64 hs (hD d f e q2)⟩
    have low : ∀ l p, rn D s f l = some p → l.length < (bst D (n + 1) s f).1 ∨ (l.length = (bst D (n + 1) s f).1 ∧ (bst D (n + 1) s f).2.1 ≤ p.2) := by
      intro l p h
      cases l with
      | nil =>
        cases h
        rcases h1 with h1 | ⟨d, c, -, -, q3, q4, -⟩
        · rw [h1]; exact Or.inr ⟨rfl, Nat.le_refl _⟩
        · rw [q3]
          show 0 < c.1 ∨ (0 = c.1 ∧ c.2.1 ≤ f)
          have : 0 < c.1 ∨ (c.1 = 0 ∧ c.2.1 < f) := q4
          omega
      | cons d l =>
        rw [rn] at h
        by_cases c : s.testBit d = true
        · rw [if_pos c] at h; cases h
        · rw [if_neg c] at h
          cases e : D d f with
          | none => rw [e] at h; cases h
          | some e1 =>
            rw [e, Option.bind_some] at h
            obtain ⟨g1, g2⟩ := sub d e1 (by simpa using c) e
            have ih := (bst_spec hD n (s ||| 2 ^ d) e1 g2 g1).2.2 l p h
            have := h2 d ((bst D n (s ||| 2 ^ d) e1).1 + 1, (bst D n (s ||| 2 ^ d) e1).2.1, d :: (bst D n (s ||| 2 ^ d) e1).2.2) (hD d f e1 e) (gB_of (by simpa using c) e)
            rw [List.length_cons]
            dsimp only at this
            omega
    refine ⟨?_, ?_, low⟩
    · rcases h1 with h1 | ⟨d, c, q1, q2, q3, -, -⟩
      · rw [h1]; exact ⟨s, rfl⟩
      · rw [q3]
        obtain ⟨cb, e1, e, q2'⟩ := gB_some q2
        obtain ⟨g1, g2⟩ := sub d e1 cb e
        obtain ⟨s', hs'⟩ := (bst_spec hD n (s ||| 2 ^ d) e1 g2 g1).1
        rw [q2']
        refine ⟨s', ?_⟩
        show rn D s f (d :: _) = _
        rw [rn, if_neg (by rw [cb]; decide), e, Option.bind_some]; exact hs'
    · rcases h1 with h1 | ⟨d, c, q1, q2, q3, -, -⟩
      · rw [h1]; rfl
      · rw [q3]
        obtain ⟨cb, e1, e, q2'⟩ := gB_some q2
        obtain ⟨g1, g2⟩ := sub d e1 cb e
        have hl := (bst_spec hD n (s ||| 2 ^ d) e1 g2 g1).2.1
        rw [q2']
        show (d :: _).length = _
        rw [List.length_cons, hl]
/-- the best row's first dough: the first from which the rest is as good -/
theorem bst_head (hD : ∀ d f e, D d f = some e → d < 6) {n s f : Nat} (hs : s < 64) (hn : fr s ≤ n + 1) (hL : 0 < (bst D (n + 1) s f).1) : ∃ d e, d < 6 ∧ s.testBit d = false ∧ D d f = some e ∧ (bst D (n + 1) s f).2.2 = d :: (bst D n (s ||| 2 ^ d) e).2.2 ∧ (bst D (n + 1) s f).1 = (bst D n (s ||| 2 ^ d) e).1 + 1 ∧ (bst D (n + 1) s f).2.1 = (bst D n (s ||| 2 ^ d) e).2.1 ∧ ∀ d' e', d' < d → s.testBit d' = false → D d' f = some e' → ¬ ((bst D n (s ||| 2 ^ d') e').1 + 1 = (bst D (n + 1) s f).1 ∧ (bst D n (s ||| 2 ^ d') e').2.1 = (bst D (n + 1) s f).2.1) := by
  obtain ⟨h1, h2⟩ := fo_spec (gB D n s f) (0, f, []) 6
  rw [← bst_s] at h1 h2
  rcases h1 with h1 | ⟨d, c, q1, q2, q3, q4, q5⟩
  · rw [h1] at hL; exact absurd hL (Nat.lt_irrefl 0)
  · obtain ⟨cb, e1, e, q2'⟩ := gB_some q2
    refine ⟨d, e1, q1, cb, e, by rw [q3, q2'], by rw [q3, q2'], by rw [q3, q2'], fun d' e' hd' hs' he' => ?_⟩
    have := q5 d' _ hd' (gB_of hs' he')
    rw [q3]
    dsimp only at this
    omega
end B
