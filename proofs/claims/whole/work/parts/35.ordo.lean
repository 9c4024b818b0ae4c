/-! order: the model's answers; both are alike -/
section V
variable {a b : Nat} {T N S : Nat → Int32}
theorem m_soon_l (hV : TV a b T) {D : Nat → Nat → Option Nat} (hR : DR D b) {u f : Nat} (hu : u < 2 ^ b) (hf : f ≤ 999) {A : Nat → Int32} {O : Nat → Option Nat} (hA : ∀ y, y < 64 → A y = en (O y)) (hO : ∀ y, MO (Rch D u f y) (O y)) {many : Nat} (hm : many ≤ 6) : ∀ (m x fuel : Nat) (q : Option Nat), x + m = 2 ^ b → m < fuel → MO (fun e => ∃ y, y < x ∧ 6 - fr y = many ∧ Rch D u f y e) q → ∃ q', f_X5_soonestOf_5 T A fuel (nI many) (en q) (nI x) = some (en q') ∧ MO (fun e => ∃ y, y < 2 ^ b ∧ 6 - fr y = many ∧ Rch D u f y e) q' := by
  have hb := hV.2.1
  have h64 : 2 ^ b ≤ 64 := Nat.pow_le_pow_right (n := 2) (by decide) hb
  have bd : ∀ y e, Rch D u f y e → e ≤ 999 := fun y e ⟨l, hl⟩ => (rn_bd hR l u f y e hu hf hl).2.2.1
  intro m
  induction m with
  | zero =>
    intro x fuel q hx hfu hq
    obtain ⟨n, rfl⟩ : ∃ n, fuel = n + 1 := ⟨fuel - 1, by omega⟩
    rw [f_X5_soonestOf_5, hV.2.2.2.1, pow_b b hb, i_le (by omega) (by omega)]
    rw [show x = 2 ^ b by omega] at hq
    exact ⟨q, rfl, hq⟩
  | succ m ih =>
    intro x fuel q hx hfu hq
    obtain ⟨n, rfl⟩ : ∃ n, fuel = n + 1 := ⟨fuel - 1, by omega⟩
    have hx64 : x < 64 := by omega
    have hq9 : ∀ e, q = some e → e ≤ 999 := fun e he => by
      rw [he] at hq; obtain ⟨y, -, -, h3⟩ := hq.1; exact bd y e h3
    rw [f_X5_soonestOf_5, hV.2.2.2.1, pow_b b hb, i_nle (by omega) (by omega), m_ones, Option.bind_some, (fr_bd x hx64).2]
    have skip : (∀ e, ¬ (6 - fr x = many ∧ Rch D u f x e)) → ∃ q', f_X5_soonestOf_40 T A (f_X5_soonestOf_5 T A n) (nI many) (en q) (nI x) = some (en q') ∧ MO (fun e => ∃ y, y < 2 ^ b ∧ 6 - fr y = many ∧ Rch D u f y e) q' := by
      intro hn
      rw [f_X5_soonestOf_40, f_X5_soonestOf_41, if_pos rfl, f_X5_soonestOf_73, f_X5_soonestOf_74, nI_1]
      refine ih (x + 1) n q (by omega) (by omega) ?_
      have iff : ∀ e, (∃ y, y < x + 1 ∧ 6 - fr y = many ∧ Rch D u f y e) → ∃ y, y < x ∧ 6 - fr y = many ∧ Rch D u f y e := fun e ⟨y, h1, h2, h3⟩ => by
        by_cases c : y = x
        · rw [c] at h2 h3; exact absurd ⟨h2, h3⟩ (hn e)
        · exact ⟨y, by omega, h2, h3⟩
      cases q with
      | none => exact fun e he => hq e (iff e he)
      | some e0 =>
        refine ⟨?_, fun e he => hq.2 e (iff e he)⟩
        obtain ⟨y, h1, h2, h3⟩ := hq.1
        exact ⟨y, by omega, h2, h3⟩
    have hOx := hO x
    by_cases c1 : 6 - fr x = many
    · rw [i_eq c1, i_in hx64 (by omega)]
      simp only [ncl (show x < 2147483648 by omega), hA x hx64]
      cases hc : O x with
      | none =>
        rw [hc] at hOx
        rw [if_pos (show en none = -9 from rfl)]
        exact skip (fun e z => hOx e z.2)
      | some e =>
        rw [hc] at hOx
        have he := bd x e hOx.1
        rw [if_neg (show ¬ en (some e) = -9 from m9_n (by omega)), f_X5_soonestOf_41, if_neg ne10]
        have take : (∀ e0, q = some e0 → e ≤ e0) → ∃ q', f_X5_soonestOf_64 T A (f_X5_soonestOf_5 T A n) (nI many) (nI x) = some (en q') ∧ MO (fun e => ∃ y, y < 2 ^ b ∧ 6 - fr y = many ∧ Rch D u f y e) q' := by
          intro hle
          rw [f_X5_soonestOf_64, i_in hx64 (by omega), ncl (by omega), hA x hx64, hc, f_X5_soonestOf_74, nI_1]
          refine ih (x + 1) n (some e) (by omega) (by omega) ⟨⟨x, by omega, c1, hOx.1⟩, fun e' ⟨y, h1, h2, h3⟩ => ?_⟩
          by_cases c : y = x
          · rw [c] at h3; exact hOx.2 e' h3
          · cases q with
            | none => exact absurd ⟨y, by omega, h2, h3⟩ (hq e')
            | some e0 => exact Nat.le_trans (hle e0 rfl) (hq.2 e' ⟨y, by omega, h2, h3⟩)
        cases hqc : q with
        | none =>
          rw [if_pos (show en none = -9 from rfl)]
          exact take (fun e0 z => by rw [hqc] at z; cases z)
        | some e0 =>
          have he0 := hq9 e0 hqc
          rw [if_neg (show ¬ en (some e0) = -9 from m9_n (by omega)), i_in hx64 (by omega)]
          simp only [ncl (show x < 2147483648 by omega), hA x hx64, hc]
          by_cases c : e0 ≤ e
          · rw [if_pos (show en (some e0) ≤ en (some e) from (nle (by omega) (by omega)).mpr c), f_X5_soonestOf_73, f_X5_soonestOf_74, nI_1]
            refine ih (x + 1) n (some e0) (by omega) (by omega) ?_
            rw [hqc] at hq
            obtain ⟨y, h1, h2, h3⟩ := hq.1
            refine ⟨⟨y, by omega, h2, h3⟩, fun e' ⟨y, h1, h2, h3⟩ => ?_⟩
            by_cases c2 : y = x
            · rw [c2] at h3; exact Nat.le_trans c (hOx.2 e' h3)
            · exact hq.2 e' ⟨y, by omega, h2, h3⟩
          · rw [if_neg (show ¬ en (some e0) ≤ en (some e) from fun z => c ((nle (by omega) (by omega)).mp z))]
            exact take (fun e1 z => by rw [hqc] at z; cases z; omega)
    · have := (fr_bd x hx64).1
      rw [i_ne c1 (by omega) (by omega)]
      exact skip (fun e z => c1 z.1)
theorem m_soon (hV : TV a b T) {D : Nat → Nat → Option Nat} (hR : DR D b) {u f : Nat} (hu : u < 2 ^ b) (hf : f ≤ 999) {A : Nat → Int32} {O : Nat → Option Nat} (hA : ∀ y, y < 64 → A y = en (O y)) (hO : ∀ y, MO (Rch D u f y) (O y)) {many : Nat} (hm : many ≤ 6) : ∃ q, f_X5_soonestOf T A (nI many) = some (en q) ∧ MO (fun e => ∃ l y, rn D u f l = some (y, e) ∧ l.length + (6 - fr u) = many) q := by
  have hb := hV.2.1
  have h64 : 2 ^ b ≤ 64 := Nat.pow_le_pow_right (n := 2) (by decide) hb
  obtain ⟨q, e1, g1⟩ := m_soon_l hV hR hu hf hA hO hm (2 ^ b) 0 FU none (by omega) (by rw [FU_v]; omega) (fun e ⟨y, h, _⟩ => absurd h (Nat.not_lt_zero y))
  refine ⟨q, e1, ?_⟩
  have f6 := (fr_bd u (p64 hb hu)).1
  have iff : ∀ e, (∃ l y, rn D u f l = some (y, e) ∧ l.length + (6 - fr u) = many) ↔ ∃ y, y < 2 ^ b ∧ 6 - fr y = many ∧ Rch D u f y e := fun e => by
    constructor
    · rintro ⟨l, y, h1, h2⟩
      have := rn_bd hR l u f y e hu hf h1
      exact ⟨y, this.2.1, by omega, l, h1⟩
    · rintro ⟨y, h1, h2, l, h3⟩
      have := rn_bd hR l u f y e hu hf h3
      exact ⟨l, y, h3, by omega⟩
  cases q with
  | none => exact fun e he => g1 e ((iff e).mp he)
  | some e => exact ⟨(iff e).mpr g1.1, fun e' he => g1.2 e' ((iff e').mp he)⟩
/-- what so many come to, by the best row -/
theorem MO_best {D : Nat → Nat → Option Nat} (hR : DR D b) {n u f many : Nat} (hu : u < 2 ^ b) (hn : fr u ≤ n) {q : Option Nat} (hq : MO (fun e => ∃ l y, rn D u f l = some (y, e) ∧ l.length + (6 - fr u) = many) q) : ((bst D n u f).1 + (6 - fr u) < many → q = none) ∧ ((bst D n u f).1 + (6 - fr u) = many → q = some (bst D n u f).2.1) := by
  have hb := hR.1
  obtain ⟨⟨s', b1⟩, b2, b3⟩ := bst_spec (D := D) (fun d f e h => by have := (hR.2.1 d f e h).1; omega) n u f (p64 hb hu) hn
  refine ⟨fun h => ?_, fun h => ?_⟩
  · cases q with
    | none => rfl
    | some e =>
      obtain ⟨l, y, h1, h2⟩ := hq.1
      have := b3 l (y, e) h1
      omega
  · cases q with
    | none => exact absurd ⟨_, s', b1, by rw [b2]; exact h⟩ (hq _)
    | some e =>
      obtain ⟨l, y, h1, h2⟩ := hq.1
      have g := b3 l (y, e) h1
      dsimp only at g
      have := hq.2 _ ⟨_, s', b1, by rw [b2]; exact h⟩
      rw [show e = (bst D n u f).2.1 by omega]
variable {o t : Nat}
/-- one step of the row: the first dough from which the rest is as good -/
theorem m_order_129 (hV : TV a b T) (hS : ∀ j, j < 14 → S j = N j) (ho : o < a) (ht : t ≤ 999) {k u f L E i : Nat} (hk : k < L) (hL6 : L ≤ 6) (hE : E ≤ 999) (hu : u < 2 ^ b) (hfu : fr u + k = 6) (hf : f ≤ 999) (h1 : (bst (DO T N b o t) (6 - k) u f).1 + k = L) (h2 : (bst (DO T N b o t) (6 - k) u f).2.1 = E) (K : (Nat → Int32) → Int32 → Int32 → Int32 → Int32 → Int32 → Int32 → Int32 → Int32 → Int32 → Option (Int32 × (Nat → Int32))) (A : Nat → Int32) : ∃ d e A', d < b ∧ u.testBit d = false ∧ DO T N b o t d f = some e ∧ (bst (DO T N b o t) (6 - k) u f).2.2 = d :: (bst (DO T N b o t) (6 - (k + 1)) (u ||| 2 ^ d) e).2.2 ∧ (bst (DO T N b o t) (6 - (k + 1)) (u ||| 2 ^ d) e).1 + (k + 1) = L ∧ (bst (DO T N b o t) (6 - (k + 1)) (u ||| 2 ^ d) e).2.1 = E ∧ f_X5_order_129 T S K FU A (nI o) (nI t) (nI i) (nI f) (nI L) (nI E) (nI u) (-9) (nI k) (-9) 0 = K A' (nI o) (nI t) (nI i) (nI e) (nI L) (nI E) (nI (u ||| 2 ^ d)) (nI d) (nI (k + 1)) := by
  have ha := hV.1
  have hb := hV.2.1
  have h64 : 2 ^ b ≤ 64 := Nat.pow_le_pow_right (n := 2) (by decide) hb
  have hu64 := p64 hb hu
  have hR := DO_R (T := T) (N := N) (o := o) hb ht
  have hT1 := hV.2.2.2.1
  obtain ⟨n, hn⟩ : ∃ n, 6 - k = n + 1 := ⟨5 - k, by omega⟩
  have hn2 : 6 - (k + 1) = n := by omega
  rw [hn] at h1 h2 ⊢
  rw [hn2]
  obtain ⟨d, e, d6, q1, q2, q3, q4, q5, q6⟩ := bst_head (D := DO T N b o t) (DO_6 hb) (n := n) (s := u) (f := f) hu64 (by omega) (by omega)
  obtain ⟨hdb, he⟩ := hR.2.1 d f e q2
  have lp : ∀ (m x fuel : Nat) (A : Nat → Int32) (x10 : Int32), x + m = d → m + 2 < fuel → ∃ A', f_X5_order_129 T S K fuel A (nI o) (nI t) (nI i) (nI f) (nI L) (nI E) (nI u) (-9) (nI k) x10 (nI x) = K A' (nI o) (nI t) (nI i) (nI e) (nI L) (nI E) (nI (u ||| 2 ^ d)) (nI d) (nI (k + 1)) := by
    intro m
    induction m with
    | zero =>
      intro x fuel A x10 hx hfu
      obtain ⟨n', rfl⟩ : ∃ n', fuel = n' + 1 + 1 := ⟨fuel - 2, by omega⟩
      have e1 : x = d := by omega
      subst e1
      rw [f_X5_order_129, hT1, i_nle (by omega) (by omega), if_pos rfl, sh_m u x hu64 (by omega), if_neg (show ¬ (if u.testBit x = true then (1 : Int32) else 0) = 1 by rw [q1]; decide), m_done hV hS hdb ho hf ht, Option.bind_some, q2, f_X5_order_173, if_neg (show ¬ en (some e) = -9 from m9_n (by omega)), bit_n x (by omega), n_or]
      have hu2 : u ||| 2 ^ x < 2 ^ b := or_b hu hdb
      have hfr := fr_or u x hu64 (by omega) q1
      obtain ⟨A1, O1, r1, r2, r3⟩ := m_reck hV hS ho ht hu2 he A
      rw [show f_X5_reckons T S A (nI o) (nI (u ||| 2 ^ x)) (en (some e)) (nI t) = _ from r1, Option.bind_some]
      obtain ⟨q, s1, s2⟩ := m_soon hV hR hu2 he r2 r3 hL6
      rw [s1, Option.bind_some]
      have := (MO_best (n := n) hR hu2 (by omega) s2).2 (by omega)
      rw [this, if_pos (show en (some (bst (DO T N b o t) n (u ||| 2 ^ x) e).2.1) = nI E by rw [← h2, q5]; rfl), f_X5_order_215]
      have h9 : ¬ nI x = -9 := m9_n (by omega)
      by_cases c : b ≤ x + 1
      · rw [f_X5_order_129, hT1, nI_1, i_le c (by omega), f_X5_order_223, bit_n x (by omega), n_or, nI_1]
        exact ⟨A1, rfl⟩
      · rw [f_X5_order_129, hT1, nI_1, i_nle (by omega) (by omega), if_neg h9, f_X5_order_223, bit_n x (by omega), n_or, nI_1]
        exact ⟨A1, rfl⟩
    | succ m ih =>
      intro x fuel A x10 hx hfu
      obtain ⟨n', rfl⟩ : ∃ n', fuel = n' + 1 := ⟨fuel - 1, by omega⟩
      have hxb : x < b := by omega
      rw [f_X5_order_129, hT1, i_nle (by omega) (by omega), if_pos rfl, sh_m u x hu64 (by omega)]
      by_cases cb : u.testBit x = true
      · rw [if_pos (show (if u.testBit x = true then (1 : Int32) else 0) = 1 by rw [cb]; rfl), f_X5_order_173, if_pos rfl, nI_1]
        exact ih (x + 1) n' A _ (by omega) (by omega)
      · have cb' : u.testBit x = false := by simpa using cb
        rw [if_neg (show ¬ (if u.testBit x = true then (1 : Int32) else 0) = 1 by rw [cb']; decide), m_done hV hS hxb ho hf ht, Option.bind_some, f_X5_order_173]
        cases hD : DO T N b o t x f with
        | none =>
          rw [if_pos (show en none = -9 from rfl), nI_1]
          exact ih (x + 1) n' A _ (by omega) (by omega)
        | some e' =>
          obtain ⟨-, he'⟩ := hR.2.1 x f e' hD
          rw [if_neg (show ¬ en (some e') = -9 from m9_n (by omega)), bit_n x (by omega), n_or]
          have hu2 : u ||| 2 ^ x < 2 ^ b := or_b hu hxb
          have hfr := fr_or u x hu64 (by omega) cb'
          obtain ⟨A1, O1, r1, r2, r3⟩ := m_reck hV hS ho ht hu2 he' A
          rw [show f_X5_reckons T S A (nI o) (nI (u ||| 2 ^ x)) (en (some e')) (nI t) = _ from r1, Option.bind_some]
          obtain ⟨q, s1, s2⟩ := m_soon hV hR hu2 he' r2 r3 hL6
          rw [s1, Option.bind_some]
          have hM := MO_best (n := n) hR hu2 (by omega) s2
          have q6' := q6 x e' (by omega) cb' hD
          -- none is better
          have nb := (bst_spec (D := DO T N b o t) (DO_6 hb) (n + 1) u f hu64 (by omega)).2.2
          obtain ⟨⟨s', b1⟩, b2, -⟩ := bst_spec (D := DO T N b o t) (DO_6 hb) n (u ||| 2 ^ x) e' (p64 hb hu2) (by omega)
          have nb2 := nb (x :: (bst (DO T N b o t) n (u ||| 2 ^ x) e').2.2) (s', (bst (DO T N b o t) n (u ||| 2 ^ x) e').2.1) (by rw [rn, if_neg cb, hD, Option.bind_some]; exact b1)
          rw [List.length_cons, b2] at nb2
          have ne : ¬ en q = nI E := by
            by_cases c : (bst (DO T N b o t) n (u ||| 2 ^ x) e').1 + 1 = (bst (DO T N b o t) (n + 1) u f).1
            · rw [hM.2 (by omega)]
              have b4 := (rn_bd hR _ _ _ _ _ hu2 he' b1).2.2.1
              intro z
              have : (bst (DO T N b o t) n (u ||| 2 ^ x) e').2.1 = E := (neq (by omega) (by omega)).mp z
              omega
            · rw [hM.1 (by omega)]
              exact m9_n' (by omega)
          rw [if_neg ne, f_X5_order_215, nI_1]
          exact ih (x + 1) n' A1 _ (by omega) (by omega)
  obtain ⟨A', e1⟩ := lp d 0 FU A (-9) (by omega) (by rw [FU_v]; omega)
  exact ⟨d, e, A', hdb, q1, q2, q3, by omega, by omega, e1⟩
theorem m_order_105 (hV : TV a b T) (hS : ∀ j, j < 14 → S j = N j) (ho : o < a) (ht : t ≤ 999) {L E i : Nat} (hL6 : L ≤ 6) (hE : E ≤ 999) (hi : i < 6) (P : List Nat) : ∀ (m k fuel u f : Nat) (A : Nat → Int32) (x8 : Int32), k + m = L → m < fuel → k ≤ i + 1 → u < 2 ^ b → fr u + k = 6 → f ≤ 999 → (bst (DO T N b o t) (6 - k) u f).1 + k = L → (bst (DO T N b o t) (6 - k) u f).2.1 = E → (bst (DO T N b o t) (6 - k) u f).2.2 = P.drop k → (0 < k → x8 = nI (P.getD (k - 1) 0)) → ∃ A', f_X5_order_105 T S fuel A (nI o) (nI t) (nI i) (nI f) (nI L) (nI E) (nI u) x8 (nI k) = some (if i < L then nI (P.getD i 0) else -9, A') := by
  have hb := hV.2.1
  intro m
  induction m with
  | zero =>
    intro k fuel u f A x8 hk hfu hki hu hfr hf h1 h2 h3 h8
    obtain ⟨n, rfl⟩ : ∃ n, fuel = n + 1 := ⟨fuel - 1, by omega⟩
    rw [f_X5_order_105]
    by_cases c : i < k
    · rw [i_lt c (by omega), f_X5_order_242, i_nle (by omega) (by omega), if_pos (by omega), h8 (by omega), show k - 1 = i by omega]
      exact ⟨A, rfl⟩
    · rw [i_nlt (by omega) (by omega), i_le (by omega) (by omega), f_X5_order_242, i_le (by omega) (by omega), if_neg (by omega)]
      exact ⟨A, rfl⟩
  | succ m ih =>
    intro k fuel u f A x8 hk hfu hki hu hfr hf h1 h2 h3 h8
    obtain ⟨n, rfl⟩ : ∃ n, fuel = n + 1 := ⟨fuel - 1, by omega⟩
    rw [f_X5_order_105]
    by_cases c : i < k
    · rw [i_lt c (by omega), f_X5_order_242, i_nle (by omega) (by omega), if_pos (by omega), h8 (by omega), show k - 1 = i by omega]
      exact ⟨A, rfl⟩
    · rw [i_nlt (by omega) (by omega), i_nle (by omega) (by omega)]
      obtain ⟨d, e, A', q1, q2, q3, q4, q5, q6, q7⟩ := m_order_129 (i := i) hV hS ho ht (show k < L by omega) hL6 hE hu hfr hf h1 h2 (f_X5_order_105 T S n) A
      rw [q7]
      have hR := DO_R (T := T) (N := N) (o := o) hb ht
      have hf2 := fr_or u d (p64 hb hu) (by omega) q2
      rw [q4] at h3
      refine ih (k + 1) n (u ||| 2 ^ d) e A' (nI d) (by omega) (by omega) (by omega) (or_b hu q1) (by omega) (hR.2.1 d f e q3).2 q5 q6 ?_ (fun _ => ?_)
      · rw [show P.drop (k + 1) = (P.drop k).drop 1 from by rw [List.drop_drop], ← h3]; rfl
      · have : P.getD k 0 = d := by
          rw [List.getD_eq_getElem?_getD, show P[k]? = (P.drop k)[0]? from by rw [List.getElem?_drop, Nat.add_zero], ← h3]; rfl
        rw [show k + 1 - 1 = k by omega, this]
theorem m_order (hV : TV a b T) (hS : ∀ j, j < 14 → S j = N j) (ho : o < a) (ht : t ≤ 999) {mn : Nat} (hmn : mn ≤ 999) (e13 : N 13 = nI mn) (A : Nat → Int32) {x3 : Int32} (h1 : ¬ x3 < -2) (h2 : x3 < 6) : ∃ A', f_X5_order T S A (nI o) (nI t) x3 = some (oA (bst (DO T N b o t) 6 0 mn) x3, A') := by
  have ha := hV.1
  have hb := hV.2.1
  have hR := DO_R (T := T) (N := N) (o := o) hb ht
  have h0 : 0 < 2 ^ b := Nat.pow_pos (by decide)
  have f0 : fr 0 = 6 := by decide
  have hB := bst_bd (b := b) (r := nv T (3 + o) * 9 / 10) (out := fun d => decide (N d = -9)) (ris := fun d => nv T (31 + d)) (late := fun d => nv T (37 + d)) (need := fun d => nv T (25 + d)) ht 6 0 mn hmn
  have hB1 : (bst (DO T N b o t) 6 0 mn).1 ≤ 6 := hB.1
  have hB2 : (bst (DO T N b o t) 6 0 mn).2.1 ≤ 999 := hB.2
  unfold f_X5_order
  rw [m_hasO_y hV.2.2.1 ha ho, Option.bind_some, if_neg ne10, in_1 (n_nneg (by omega)) (by rw [show (999 : Int32) = nI 999 from rfl, nlt (by omega) (by omega)]; omega), Option.bind_some, if_neg ne10, in_1 h1 (fun z => by
    rw [t_lt] at z h2
    have f1 : (5 : Int32).toInt = 5 := by decide
    have f2 : (6 : Int32).toInt = 6 := by decide
    omega), Option.bind_some, if_neg ne10, hS 13 (by omega), e13]
  obtain ⟨A1, O1, r1, r2, r3⟩ := m_reck hV hS ho ht h0 hmn A
  rw [show f_X5_reckons T S A (nI o) 0 (nI mn) (nI t) = _ from r1, Option.bind_some]
  have lp : ∀ (m many fuel : Nat), many = (bst (DO T N b o t) 6 0 mn).1 + m → many ≤ 6 → m < fuel → ∃ A', f_X5_order_53 T S fuel A1 (nI o) (nI t) x3 (nI mn) (nI many) = some (oA (bst (DO T N b o t) 6 0 mn) x3, A') := by
    intro m
    induction m with
    | zero =>
      intro many fuel hm h6 hfu
      obtain ⟨n, rfl⟩ : ∃ n, fuel = n + 1 := ⟨fuel - 1, by omega⟩
      obtain ⟨q, s1, s2⟩ := m_soon hV hR h0 hmn r2 r3 h6
      have hq := (MO_best (n := 6) hR h0 (by omega) s2).2 (by omega)
      rw [f_X5_order_53, s1, Option.bind_some, hq, if_neg (show ¬ en (some _) = -9 from m9_n (by omega)), Option.bind_some]
      have em : many = (bst (DO T N b o t) 6 0 mn).1 := by omega
      unfold oA
      by_cases c1 : x3 = -1
      · rw [if_neg (by rw [c1]; decide), if_pos c1, if_pos c1, em]; exact ⟨_, rfl⟩
      · by_cases c2 : x3 = -2
        · rw [if_neg (by rw [c2]; decide), if_neg c1, if_neg c1, if_pos c2]; exact ⟨_, rfl⟩
        · have hz : ¬ x3 < 0 := fun z => by
            rw [t_lt] at z h1
            have e1 : ¬ x3.toInt = (-1 : Int32).toInt := fun q => c1 (t_eq.mpr q)
            have e2 : ¬ x3.toInt = (-2 : Int32).toInt := fun q => c2 (t_eq.mpr q)
            have f1 : (-1 : Int32).toInt = -1 := by decide
            have f2 : (-2 : Int32).toInt = -2 := by decide
            have f0 : (0 : Int32).toInt = 0 := by decide
            omega
          obtain ⟨i, hi, rfl⟩ := nI_of hz
          have hi6 : i < 6 := (nlt hi (by omega : 6 < 2147483648)).mp h2
          rw [if_pos (n_ge0 hi), if_neg c1, if_neg c2]
          simp only [ncl hi]
          rw [em]
          exact m_order_105 (i := i) hV hS ho ht hB1 hB2 hi6 (bst (DO T N b o t) 6 0 mn).2.2 (bst (DO T N b o t) 6 0 mn).1 0 FU 0 mn A1 (-9) (by omega) (by rw [FU_v]; omega) (by omega) h0 (by omega) hmn rfl rfl rfl (fun z => absurd z (by omega))
    | succ m ih =>
      intro many fuel hm h6 hfu
      obtain ⟨n, rfl⟩ : ∃ n, fuel = n + 1 := ⟨fuel - 1, by omega⟩
      obtain ⟨q, s1, s2⟩ := m_soon hV hR h0 hmn r2 r3 h6
      have hq := (MO_best (n := 6) hR h0 (by omega) s2).1 (by omega)
      rw [f_X5_order_53, s1, Option.bind_some, hq, if_pos (show en none = -9 from rfl)]
      have e : nI many + -1 = nI (many - 1) := by
        rw [show nI many + -1 = nI many - 1 from by grind]
        exact nsL (n := 1) (show 1 ≤ many by omega)
      rw [e]
      exact ih (many - 1) n (by omega) (by omega) (by omega)
  exact lp (6 - (bst (DO T N b o t) 6 0 mn).1) 6 FU (by omega) (by omega) (by rw [FU_v]; omega)
variable {fO fD cr : Nat → Int32} {nO nD ck : Int32}
theorem s_order (h : RV a b T N nO nD ck fO fD cr S) (v1 v2 v3 : Int32) (bt row best A : Nat → Int32) (x1 x2 x3 : Int32) : ∃ r w1 w2 w3 bt' row' best' A', f_X4_order nO nD ck cr fO fD v1 v2 v3 bt row best x1 x2 x3 = some (r, w1, w2, w3, bt', row', best') ∧ f_X5_order T S A x1 x2 x3 = some (r, A') := by
  obtain ⟨hV, rfl, rfl, hO, hD, ⟨kk, rfl, hN⟩, hS, hR⟩ := h
  have ha := hO.1
  have hb := hD.1
  obtain ⟨mn, hmn, e13⟩ := hR.2.2.1
  rcases isN_dec a x1 with ⟨o, ho, rfl⟩ | q
  · rcases isN_dec 1000 x2 with ⟨t, ht, rfl⟩ | q
    · by_cases c1 : x3 < -2
      · unfold f_X4_order f_X5_order
        rw [c_hasO_y ha ho, m_hasO_y hV.2.2.1 ha ho, Option.bind_some, Option.bind_some, if_neg ne10, if_neg ne10, if_neg (n_nneg (by omega)), i_nLlt (by omega) (by omega), if_pos c1, in_1 (n_nneg (by omega)) (by rw [show (999 : Int32) = nI 999 from rfl, nlt (by omega) (by omega)]; omega), Option.bind_some, if_neg ne10, in_0 (Or.inl c1), Option.bind_some, if_pos rfl]
        exact ⟨_, _, _, _, _, _, _, _, rfl, rfl⟩
      · by_cases c2 : x3 < 6
        · obtain ⟨w1, w2, w3, bt', row', best', e1⟩ := c_order hV hO hD hN hmn e13 ho (show t ≤ 999 by omega) v1 v2 v3 bt row best c1 c2
          obtain ⟨A', e2⟩ := m_order hV hS ho (show t ≤ 999 by omega) hmn e13 A c1 c2
          exact ⟨_, w1, w2, w3, bt', row', best', A', e1, e2⟩
        · unfold f_X4_order f_X5_order
          rw [c_hasO_y ha ho, m_hasO_y hV.2.2.1 ha ho, Option.bind_some, Option.bind_some, if_neg ne10, if_neg ne10, if_neg (n_nneg (by omega)), i_nLlt (by omega) (by omega), if_neg c1, if_neg c2, in_1 (n_nneg (by omega)) (by rw [show (999 : Int32) = nI 999 from rfl, nlt (by omega) (by omega)]; omega), Option.bind_some, if_neg ne10, in_0 (Or.inr (by
            rw [t_lt] at c2 ⊢
            have f1 : (5 : Int32).toInt = 5 := by decide
            have f2 : (6 : Int32).toInt = 6 := by decide
            omega)), Option.bind_some, if_pos rfl]
          exact ⟨_, _, _, _, _, _, _, _, rfl, rfl⟩
    · unfold f_X4_order f_X5_order
      rw [c_hasO_y ha ho, m_hasO_y hV.2.2.1 ha ho, Option.bind_some, Option.bind_some, if_neg ne10, if_neg ne10]
      rcases notN q with w | ⟨n, h1, h2, rfl⟩
      · rw [if_pos w, in_0 (Or.inl w), Option.bind_some, if_pos rfl]; exact ⟨_, _, _, _, _, _, _, _, rfl, rfl⟩
      · rw [if_neg (n_nneg h1), i_Llt (by omega) h1, in_0 (Or.inr (by rw [show (999 : Int32) = nI 999 from rfl, nlt (by omega) h1]; omega)), Option.bind_some, if_pos rfl]; exact ⟨_, _, _, _, _, _, _, _, rfl, rfl⟩
  · unfold f_X4_order f_X5_order
    rw [c_hasO_n ha q, m_hasO_n hV.2.2.1 ha q, Option.bind_some, Option.bind_some, if_pos rfl, if_pos rfl]
    exact ⟨_, _, _, _, _, _, _, _, rfl, rfl⟩
end V
