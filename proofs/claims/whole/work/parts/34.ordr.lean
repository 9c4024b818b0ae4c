/-! order: the model's table of sets -/
def en : Option Nat → Int32
  | none => -9
  | some e => nI e
def MO (P : Nat → Prop) : Option Nat → Prop
  | none => ∀ e, ¬ P e
  | some e => P e ∧ ∀ e', P e' → e ≤ e'
theorem snoc_cases : ∀ l : List Nat, l = [] ∨ ∃ l' d, l = l' ++ [d]
  | [] => Or.inl rfl
  | c :: l => by
    rcases snoc_cases l with h | ⟨l', d, h⟩
    · exact Or.inr ⟨[], c, by rw [h]; rfl⟩
    · exact Or.inr ⟨c :: l', d, by rw [h]; rfl⟩
theorem fr_bd : ∀ s : Nat, s < 64 → fr s ≤ 6 ∧ on (nI s) 6 = nI (6 - fr s) := by
  have h : ∀ s : Fin 64, fr s.val ≤ 6 ∧ on (nI s.val) 6 = nI (6 - fr s.val) := by decide +kernel
  exact fun s hs => h ⟨s, hs⟩
theorem or_gt : ∀ s d : Nat, s < 64 → d < 6 → s.testBit d = false → s < s ||| 2 ^ d := by
  have h : ∀ s : Fin 64, ∀ d : Fin 6, s.val.testBit d.val = false → s.val < s.val ||| 2 ^ d.val := by decide +kernel
  exact fun s d h1 h2 => h ⟨s, h1⟩ ⟨d, h2⟩
theorem or_b {s d b : Nat} (hs : s < 2 ^ b) (hd : d < b) : s ||| 2 ^ d < 2 ^ b := Nat.or_lt_two_pow hs (Nat.pow_lt_pow_right (by decide) hd)
theorem p64 {s b : Nat} (hb : b ≤ 6) (hs : s < 2 ^ b) : s < 64 := Nat.lt_of_lt_of_le hs (Nat.pow_le_pow_right (n := 2) (by decide) hb)
section D
variable {D : Nat → Nat → Option Nat} {b : Nat}
/-- a step's rules -/
def DR (D : Nat → Nat → Option Nat) (b : Nat) : Prop := b ≤ 6 ∧ (∀ d f e, D d f = some e → d < b ∧ e ≤ 999) ∧ ∀ d f f' e', f ≤ f' → D d f' = some e' → ∃ e, e ≤ e' ∧ D d f = some e
theorem rn_bd (h : DR D b) : ∀ (l : List Nat) (u f y e : Nat), u < 2 ^ b → f ≤ 999 → rn D u f l = some (y, e) → u ≤ y ∧ y < 2 ^ b ∧ e ≤ 999 ∧ fr y + l.length = fr u
  | [], u, f, y, e, hu, hf, hr => by
    rw [rn] at hr; cases hr; exact ⟨Nat.le_refl _, hu, hf, rfl⟩
  | d :: l, u, f, y, e, hu, hf, hr => by
    rw [rn] at hr
    by_cases c : u.testBit d = true
    · rw [if_pos c] at hr; cases hr
    · rw [if_neg c] at hr
      have c' : u.testBit d = false := by simpa using c
      cases hd : D d f with
      | none => rw [hd] at hr; cases hr
      | some e1 =>
        rw [hd, Option.bind_some] at hr
        obtain ⟨q1, q2⟩ := h.2.1 d f e1 hd
        have hb := h.1
        obtain ⟨g1, g2, g3, g4⟩ := rn_bd h l (u ||| 2 ^ d) e1 y e (or_b hu q1) q2 hr
        have := or_gt u d (p64 hb hu) (by omega) c'
        have := fr_or u d (p64 hb hu) (by omega) c'
        exact ⟨by omega, g2, g3, by rw [List.length_cons]; omega⟩
def Rch (D : Nat → Nat → Option Nat) (u f y e : Nat) : Prop := ∃ l, rn D u f l = some (y, e)
/-- the last dough of a row came from a set before (x, d) -/
def inr_ (D : Nat → Nat → Option Nat) (u f x d : Nat) (l : List Nat) : Prop := l = [] ∨ ∃ l' d' s f', l = l' ++ [d'] ∧ rn D u f l' = some (s, f') ∧ (s < x ∨ (s = x ∧ d' < d))
def IV (D : Nat → Nat → Option Nat) (u f x d : Nat) (O : Nat → Option Nat) : Prop := (∀ y e, O y = some e → Rch D u f y e) ∧ ∀ y l e, rn D u f l = some (y, e) → inr_ D u f x d l → ∃ e0, O y = some e0 ∧ e0 ≤ e
theorem snoc_of {u f y e d : Nat} {l : List Nat} (h : rn D u f (l ++ [d]) = some (y, e)) : ∃ s f', rn D u f l = some (s, f') ∧ s.testBit d = false ∧ D d f' = some e ∧ y = s ||| 2 ^ d := by
  rw [rn_snoc] at h
  cases hr : rn D u f l with
  | none => rw [hr] at h; cases h
  | some p =>
    rw [hr, Option.bind_some] at h
    by_cases c : p.1.testBit d = true
    · rw [if_pos c] at h; cases h
    · rw [if_neg c] at h
      cases hd : D d p.2 with
      | none => rw [hd] at h; cases h
      | some e1 =>
        rw [hd, Option.bind_some] at h
        cases h
        exact ⟨p.1, p.2, rfl, by simpa using c, hd, rfl⟩
theorem of_snoc {u f s f' d e : Nat} {l : List Nat} (h1 : rn D u f l = some (s, f')) (h2 : s.testBit d = false) (h3 : D d f' = some e) : rn D u f (l ++ [d]) = some (s ||| 2 ^ d, e) := by
  rw [rn_snoc, h1, Option.bind_some, if_neg (by rw [h2]; decide), h3]; rfl
variable {u f : Nat}
theorem comp_x (h : DR D b) (hu : u < 2 ^ b) (hf : f ≤ 999) {x d : Nat} {O : Nat → Option Nat} (hI : IV D u f x d O) {l : List Nat} {f' : Nat} (hl : rn D u f l = some (x, f')) : ∃ e0, O x = some e0 ∧ e0 ≤ f' := by
  refine hI.2 x l f' hl ?_
  rcases snoc_cases l with e | ⟨l', d', e⟩
  · exact Or.inl e
  · refine Or.inr ⟨l', d', ?_⟩
    rw [e] at hl
    obtain ⟨s, f2, g1, g2, g3, g4⟩ := snoc_of hl
    refine ⟨s, f2, e, g1, Or.inl ?_⟩
    have hb := h.1
    have q := rn_bd h l' u f s f2 hu hf g1
    have q2 := (h.2.1 d' f2 f' g3).1
    have := or_gt s d' (p64 hb q.2.1) (by omega) g2
    omega
theorem iv_same {x d : Nat} {O : Nat → Option Nat} (hI : IV D u f x d O) (hn : ∀ l f' e', rn D u f l = some (x, f') → x.testBit d = false → D d f' = some e' → ∃ e0, O (x ||| 2 ^ d) = some e0 ∧ e0 ≤ e') : IV D u f x (d + 1) O := by
  refine ⟨hI.1, fun y l e hl hi => ?_⟩
  rcases hi with hi | ⟨l', d', s, f', q1, q2, q3⟩
  · exact hI.2 y l e hl (Or.inl hi)
  · by_cases c : s = x ∧ d' = d
    · rw [q1] at hl
      obtain ⟨s2, f2, g1, g2, g3, g4⟩ := snoc_of hl
      rw [q2] at g1
      cases g1
      rw [c.1, c.2] at g4
      rw [c.1, c.2] at g2
      rw [c.2] at g3
      rw [g4]
      exact hn l' f' e (by rw [q2, c.1]) g2 g3
    · exact hI.2 y l e hl (Or.inr ⟨l', d', s, f', q1, q2, by omega⟩)
def updO (O : Nat → Option Nat) (k e : Nat) : Nat → Option Nat := fun y => if y = k then some e else O y
theorem iv_upd {x d e : Nat} {O : Nat → Option Nat} (hI : IV D u f x d O) (hR : Rch D u f (x ||| 2 ^ d) e) (ho : ∀ e1, O (x ||| 2 ^ d) = some e1 → e ≤ e1) (hn : ∀ l f' e', rn D u f l = some (x, f') → x.testBit d = false → D d f' = some e' → e ≤ e') : IV D u f x (d + 1) (updO O (x ||| 2 ^ d) e) := by
  refine iv_same ⟨fun y e1 h1 => ?_, fun y l e1 hl hi => ?_⟩ (fun l f' e' h1 h2 h3 => ⟨e, if_pos rfl, hn l f' e' h1 h2 h3⟩)
  · unfold updO at h1
    by_cases c : y = x ||| 2 ^ d
    · rw [if_pos c] at h1; cases h1; rw [c]; exact hR
    · rw [if_neg c] at h1; exact hI.1 y e1 h1
  · obtain ⟨e0, g1, g2⟩ := hI.2 y l e1 hl hi
    unfold updO
    by_cases c : y = x ||| 2 ^ d
    · rw [if_pos c]; rw [c] at g1; exact ⟨e, rfl, Nat.le_trans (ho e0 g1) g2⟩
    · rw [if_neg c]; exact ⟨e0, g1, g2⟩
theorem iv_row (h : DR D b) {x : Nat} {O : Nat → Option Nat} (hI : IV D u f x b O) : IV D u f (x + 1) 0 O := by
  refine ⟨hI.1, fun y l e hl hi => hI.2 y l e hl ?_⟩
  rcases hi with hi | ⟨l', d', s, f', q1, q2, q3⟩
  · exact Or.inl hi
  · refine Or.inr ⟨l', d', s, f', q1, q2, ?_⟩
    rw [q1] at hl
    obtain ⟨s2, f2, -, -, g3, -⟩ := snoc_of hl
    have := (h.2.1 d' f2 e g3).1
    omega
theorem iv_init (h : DR D b) (hu : u < 2 ^ b) (hf : f ≤ 999) : IV D u f u 0 (fun y => if y = u then some f else none) := by
  refine ⟨fun y e h1 => ?_, fun y l e hl hi => ?_⟩
  · dsimp only at h1
    by_cases c : y = u
    · rw [if_pos c] at h1; cases h1; rw [c]; exact ⟨[], rfl⟩
    · rw [if_neg c] at h1; cases h1
  · rcases hi with hi | ⟨l', d', s, f', q1, q2, q3⟩
    · rw [hi, rn] at hl; cases hl; exact ⟨f, if_pos rfl, Nat.le_refl _⟩
    · have := (rn_bd h l' u f s f' hu hf q2).1; omega
theorem iv_end (h : DR D b) (hu : u < 2 ^ b) (hf : f ≤ 999) {O : Nat → Option Nat} (hI : IV D u f (2 ^ b) 0 O) (y : Nat) : MO (Rch D u f y) (O y) := by
  have cm : ∀ e, Rch D u f y e → ∃ e0, O y = some e0 ∧ e0 ≤ e := fun e ⟨l, hl⟩ => by
    refine hI.2 y l e hl ?_
    rcases snoc_cases l with q | ⟨l', d', q⟩
    · exact Or.inl q
    · rw [q] at hl
      obtain ⟨s, f2, g1, -, -, -⟩ := snoc_of hl
      exact Or.inr ⟨l', d', s, f2, q, g1, Or.inl (rn_bd h l' u f s f2 hu hf g1).2.1⟩
  cases hO : O y with
  | none => intro e he; obtain ⟨e0, q, -⟩ := cm e he; rw [hO] at q; cases q
  | some e =>
    refine ⟨hI.1 y e hO, fun e' he => ?_⟩
    obtain ⟨e0, q, q2⟩ := cm e' he
    rw [hO] at q; cases q; exact q2
end D
section V
variable {a b : Nat} {T N S : Nat → Int32}
theorem en_9 {o : Option Nat} (h : ∀ e, o = some e → e ≤ 999) : en o = -9 ↔ o = none := by
  cases o with
  | none => exact ⟨fun _ => rfl, fun _ => rfl⟩
  | some e => exact ⟨fun z => absurd z (m9_n (by have := h e rfl; omega)), fun z => by cases z⟩
theorem DO_R (hb : b ≤ 6) {o t : Nat} (ht : t ≤ 999) : DR (DO T N b o t) b := ⟨hb, fun d f e h => by have := dn_ge h; exact ⟨this.2.2.1, by omega⟩, fun d f f' e' h1 h2 => dn_mono h1 h2⟩
theorem m_done (hV : TV a b T) (hS : ∀ j, j < 14 → S j = N j) {d o f t : Nat} (hd : d < b) (ho : o < a) (hf : f ≤ 999) (ht : t ≤ 999) : f_X5_doneBy T S (nI d) (nI o) (nI f) (nI t) = some (en (DO T N b o t d f)) := by
  have ha := hV.1
  have hb := hV.2.1
  obtain ⟨t1, t2, t3, t4, t5, t6, t7⟩ := tvd hV hd
  have hr := rate_n hV ho
  have h36 : nv T (3 + o) * 9 / 10 ≤ 36 := by have := (tvo hV ho).2; omega
  have hDO : DO T N b o t d f = if d < b ∧ decide (N d = -9) = true ∧ 0 < nv T (3 + o) * 9 / 10 ∧ max f (nv T (31 + d)) ≤ nv T (37 + d) ∧ max f (nv T (31 + d)) + (nv T (25 + d) + nv T (3 + o) * 9 / 10 - 1) / (nv T (3 + o) * 9 / 10) ≤ t then some (max f (nv T (31 + d)) + (nv T (25 + d) + nv T (3 + o) * 9 / 10 - 1) / (nv T (3 + o) * 9 / 10)) else none := rfl
  unfold f_X5_doneBy f_X5_doneBy_42
  simp (disch := omega) only [Lan, i_in, ncl, m_isOut hS, Option.bind_some]
  rw [show T ((3 : Nat) + o) * 9 / 10 = _ from hr, show T ((31 : Nat) + d) = _ from t4, show T ((37 : Nat) + d) = _ from t6, show T ((25 : Nat) + d) = _ from t1]
  generalize nv T (3 + o) * 9 / 10 = r at *
  generalize nv T (31 + d) = ris at *
  generalize nv T (37 + d) = lat at *
  generalize nv T (25 + d) = need at *
  by_cases cr : r = 0
  · have e0 : DO T N b o t d f = none := by rw [hDO, if_neg (fun z => by have := z.2.2.1; omega)]
    rw [e0, cr]
    simp only [show nI 0 = 0 from rfl, if_true, ite_self]
    rfl
  · have er : ¬ nI r = 0 := n_ne0 cr (by omega)
    have hq : (need + r - 1) / r ≤ 200 := Nat.le_trans (Nat.div_le_self _ _) (by omega)
    have edv : (nI need + nI r - 1) / nI r = nI ((need + r - 1) / r) := by
      rw [nI_add, nsL (by omega), pk_div (by omega) (by omega) (by omega)]
    simp only [er, if_false, not_false_eq_true, if_true, edv]
    simp only [nI_add]
    by_cases co : N d = -9
    · simp only [co, if_true, ne10, if_false]
      have key : ∀ mx, mx = max f ris → (if nI mx ≤ nI lat then if nI (mx + (need + r - 1) / r) ≤ nI t then some (nI (mx + (need + r - 1) / r)) else some (-9) else some (-9)) = some (en (DO T N b o t d f)) := by
        intro mx hmx
        rw [hDO]
        by_cases c1 : mx ≤ lat
        · rw [i_le c1 (by omega)]
          by_cases c2 : mx + (need + r - 1) / r ≤ t
          · rw [i_le c2 (by omega), if_pos ⟨hd, decide_eq_true co, by omega, by omega, by omega⟩, ← hmx]; rfl
          · rw [i_nle (by omega) (by omega), if_neg (fun z => by omega)]; rfl
        · rw [i_nle (by omega) (by omega), if_neg (fun z => by omega)]; rfl
      by_cases c : f ≤ ris
      · rw [i_le c (by omega)]; exact key ris (by omega)
      · rw [i_nle (by omega) (by omega)]; exact key f (by omega)
    · have e0 : DO T N b o t d f = none := by rw [hDO, if_neg (fun z => by have := z.2.1; rw [decide_eq_true_eq] at this; exact co this)]
      rw [e0]
      simp only [co, if_false, if_true, ite_self]
      rfl
theorem upd_same (A : Nat → Int32) (k : Nat) : upd A k (A k) = A := funext fun y => by
  rw [upd_if]; by_cases c : y = k
  · rw [if_pos c, c]
  · rw [if_neg c]
theorem m_reck_54 (hV : TV a b T) (hS : ∀ j, j < 14 → S j = N j) {o t u f : Nat} (ho : o < a) (ht : t ≤ 999) (hu : u < 2 ^ b) (hf : f ≤ 999) (K : (Nat → Int32) → Int32 → Int32 → Int32 → Option (Nat → Int32)) {x : Nat} (hx : x < 2 ^ b) : ∀ (m d fuel : Nat) (A : Nat → Int32) (O : Nat → Option Nat), d + m = b → m < fuel → (∀ y, y < 64 → A y = en (O y)) → IV (DO T N b o t) u f x d O → ∃ A' O', f_X5_reckons_54 T S K fuel A (nI o) (nI t) (nI x) (nI d) = K A' (nI o) (nI t) (nI x + 1) ∧ (∀ y, y < 64 → A' y = en (O' y)) ∧ IV (DO T N b o t) u f x b O' := by
  have hb := hV.2.1
  have hR := DO_R (T := T) (N := N) (o := o) hb ht
  have hx64 := p64 hb hx
  intro m
  induction m with
  | zero =>
    intro d fuel A O hd hfu hA hI
    obtain ⟨n, rfl⟩ : ∃ n, fuel = n + 1 := ⟨fuel - 1, by omega⟩
    rw [f_X5_reckons_54, hV.2.2.2.1, i_le (by omega) (by omega)]
    exact ⟨A, O, rfl, hA, by rw [show b = d by omega] at hI ⊢; exact hI⟩
  | succ m ih =>
    intro d fuel A O hd hfu hA hI
    obtain ⟨n, rfl⟩ : ∃ n, fuel = n + 1 := ⟨fuel - 1, by omega⟩
    rw [f_X5_reckons_54, hV.2.2.2.1, i_nle (by omega) (by omega), i_in hx64 (by omega), nI_1]
    simp only [ncl (show x < 2147483648 by omega), hA x hx64]
    have ge : ∀ y e, O y = some e → e ≤ 999 := fun y e h => by
      obtain ⟨l, hl⟩ := hI.1 y e h
      exact (rn_bd hR l u f y e hu hf hl).2.2.1
    have same : IV (DO T N b o t) u f x (d + 1) O → ∃ A' O', f_X5_reckons_54 T S K n A (nI o) (nI t) (nI x) (nI (d + 1)) = K A' (nI o) (nI t) (nI x + 1) ∧ (∀ y, y < 64 → A' y = en (O' y)) ∧ IV (DO T N b o t) u f x b O' := fun h => ih (d + 1) n A O (by omega) (by omega) hA h
    cases hOx : O x with
    | none =>
      rw [if_pos (show en none = -9 from rfl)]
      refine same (iv_same hI (fun l f' e' h1 h2 h3 => ?_))
      obtain ⟨e0, q, -⟩ := comp_x hR hu hf hI h1
      rw [hOx] at q; cases q
    | some ex =>
      have hex := ge x ex hOx
      rw [if_neg (show ¬ en (some ex) = -9 from m9_n (by omega)), sh_m x d hx64 (by omega)]
      by_cases cb : x.testBit d = true
      · rw [if_pos cb, if_neg ne10]
        exact same (iv_same hI (fun l f' e' h1 h2 h3 => by rw [cb] at h2; cases h2))
      · have cb' : x.testBit d = false := by simpa using cb
        rw [if_neg cb, if_pos rfl, i_in hx64 (by omega), show en (some ex) = nI ex from rfl, m_done hV hS (by omega) ho hex ht, Option.bind_some, bit_n d (by omega), n_or]
        have hnx : x ||| 2 ^ d < 64 := or_64 hx64 (by omega)
        cases hD : DO T N b o t d ex with
        | none =>
          rw [if_pos (show en none = -9 from rfl), f_X5_reckons_149, f_X5_reckons_150, if_pos rfl, i_in hnx (by omega), f_X5_reckons_175, i_in hnx (by omega), upd_same, nI_1]
          refine same (iv_same hI (fun l f' e' h1 h2 h3 => ?_))
          obtain ⟨e0, q, q2⟩ := comp_x hR hu hf hI h1
          rw [hOx] at q; cases q
          obtain ⟨e2, -, z⟩ := hR.2.2 d ex f' e' q2 h3
          rw [hD] at z; cases z
        | some e =>
          have he := (hR.2.1 d ex e hD).2
          have mn : ∀ l f' e', rn (DO T N b o t) u f l = some (x, f') → x.testBit d = false → DO T N b o t d f' = some e' → e ≤ e' := fun l f' e' h1 h2 h3 => by
            obtain ⟨e0, q, q2⟩ := comp_x hR hu hf hI h1
            rw [hOx] at q; cases q
            obtain ⟨e2, z1, z⟩ := hR.2.2 d ex f' e' q2 h3
            rw [hD] at z; cases z; exact z1
          rw [if_neg (show ¬ en (some e) = -9 from m9_n (by omega)), i_in hnx (by omega)]
          simp only [ncl (show x ||| 2 ^ d < 2147483648 by omega), hA _ hnx]
          have new : (∀ e1, O (x ||| 2 ^ d) = some e1 → e ≤ e1) → ∃ A' O', f_X5_reckons_145 T S K (f_X5_reckons_54 T S K n) A (nI o) (nI t) (nI x) (nI d) (en (some e)) (nI (x ||| 2 ^ d)) = K A' (nI o) (nI t) (nI x + 1) ∧ (∀ y, y < 64 → A' y = en (O' y)) ∧ IV (DO T N b o t) u f x b O' := by
            intro hold
            rw [f_X5_reckons_145, f_X5_reckons_150, if_neg ne10, f_X5_reckons_175, i_in hnx (by omega), ncl (by omega), nI_1]
            refine ih (d + 1) n _ (updO O (x ||| 2 ^ d) e) (by omega) (by omega) (fun y hy => ?_) (iv_upd hI ?_ hold mn)
            · rw [upd_if]; unfold updO
              by_cases c : y = x ||| 2 ^ d
              · rw [if_pos c, if_pos c]
              · rw [if_neg c, if_neg c]; exact hA y hy
            · obtain ⟨l, hl⟩ := hI.1 x ex hOx
              exact ⟨l ++ [d], of_snoc hl cb' hD⟩
          cases hO2 : O (x ||| 2 ^ d) with
          | none =>
            rw [if_pos (show en none = -9 from rfl)]
            exact new (fun e1 z => by rw [hO2] at z; cases z)
          | some e1 =>
            have he1 := ge _ e1 hO2
            rw [if_neg (show ¬ en (some e1) = -9 from m9_n (by omega)), i_in hnx (by omega)]
            by_cases c : e1 ≤ e
            · rw [show (if en (some e1) ≤ en (some e) then f_X5_reckons_149 T S K (f_X5_reckons_54 T S K n) A (nI o) (nI t) (nI x) (nI d) (en (some e)) (nI (x ||| 2 ^ d)) else f_X5_reckons_145 T S K (f_X5_reckons_54 T S K n) A (nI o) (nI t) (nI x) (nI d) (en (some e)) (nI (x ||| 2 ^ d))) = f_X5_reckons_149 T S K (f_X5_reckons_54 T S K n) A (nI o) (nI t) (nI x) (nI d) (en (some e)) (nI (x ||| 2 ^ d)) from i_le c (by omega), f_X5_reckons_149, f_X5_reckons_150, if_pos rfl, i_in hnx (by omega), f_X5_reckons_175, i_in hnx (by omega), upd_same, nI_1]
              exact same (iv_same hI (fun l f' e' h1 h2 h3 => ⟨e1, hO2, Nat.le_trans c (mn l f' e' h1 h2 h3)⟩))
            · rw [show (if en (some e1) ≤ en (some e) then f_X5_reckons_149 T S K (f_X5_reckons_54 T S K n) A (nI o) (nI t) (nI x) (nI d) (en (some e)) (nI (x ||| 2 ^ d)) else f_X5_reckons_145 T S K (f_X5_reckons_54 T S K n) A (nI o) (nI t) (nI x) (nI d) (en (some e)) (nI (x ||| 2 ^ d))) = f_X5_reckons_145 T S K (f_X5_reckons_54 T S K n) A (nI o) (nI t) (nI x) (nI d) (en (some e)) (nI (x ||| 2 ^ d)) from i_nle (by omega) (by omega)]
              exact new (fun e2 z => by rw [hO2] at z; cases z; omega)
theorem pow_b : ∀ b : Nat, b ≤ 6 → (1 : Int32) <<< (nI b &&& 31) = nI (2 ^ b) := by decide +kernel
theorem m_reck_38 (hV : TV a b T) (hS : ∀ j, j < 14 → S j = N j) {o t u f : Nat} (ho : o < a) (ht : t ≤ 999) (hu : u < 2 ^ b) (hf : f ≤ 999) : ∀ (m x fuel : Nat) (A : Nat → Int32) (O : Nat → Option Nat), x + m = 2 ^ b → m < fuel → (∀ y, y < 64 → A y = en (O y)) → IV (DO T N b o t) u f x 0 O → ∃ A' O', f_X5_reckons_38 T S fuel A (nI o) (nI t) (nI x) = some A' ∧ (∀ y, y < 64 → A' y = en (O' y)) ∧ IV (DO T N b o t) u f (2 ^ b) 0 O' := by
  have hb := hV.2.1
  have h64 : 2 ^ b ≤ 64 := Nat.pow_le_pow_right (n := 2) (by decide) hb
  have hR := DO_R (T := T) (N := N) (o := o) hb ht
  intro m
  induction m with
  | zero =>
    intro x fuel A O hx hfu hA hI
    obtain ⟨n, rfl⟩ : ∃ n, fuel = n + 1 := ⟨fuel - 1, by omega⟩
    rw [f_X5_reckons_38, hV.2.2.2.1, pow_b b hb, i_le (by omega) (by omega)]
    exact ⟨A, O, rfl, hA, by rw [show 2 ^ b = x by omega]; exact hI⟩
  | succ m ih =>
    intro x fuel A O hx hfu hA hI
    obtain ⟨n, rfl⟩ : ∃ n, fuel = n + 1 := ⟨fuel - 1, by omega⟩
    rw [f_X5_reckons_38, hV.2.2.2.1, pow_b b hb, i_nle (by omega) (by omega)]
    obtain ⟨A1, O1, e1, g1, g2⟩ := m_reck_54 hV hS ho ht hu hf (f_X5_reckons_38 T S n) (show x < 2 ^ b by omega) b 0 FU A O (by omega) (by rw [FU_v]; omega) hA hI
    rw [show f_X5_reckons_54 T S (f_X5_reckons_38 T S n) FU A (nI o) (nI t) (nI x) 0 = _ from e1, nI_1]
    exact ih (x + 1) n A1 O1 (by omega) (by omega) g1 (iv_row hR g2)
theorem m_reck (hV : TV a b T) (hS : ∀ j, j < 14 → S j = N j) {o t u f : Nat} (ho : o < a) (ht : t ≤ 999) (hu : u < 2 ^ b) (hf : f ≤ 999) (A : Nat → Int32) : ∃ (A' : Nat → Int32) (O' : Nat → Option Nat), f_X5_reckons T S A (nI o) (nI u) (nI f) (nI t) = some A' ∧ (∀ y, y < 64 → A' y = en (O' y)) ∧ ∀ y, MO (Rch (DO T N b o t) u f y) (O' y) := by
  have hb := hV.2.1
  have h64 : 2 ^ b ≤ 64 := Nat.pow_le_pow_right (n := 2) (by decide) hb
  have hR := DO_R (T := T) (N := N) (o := o) hb ht
  have lp : ∀ (m x fuel : Nat) (A : Nat → Int32), x + m = 64 → m < fuel → (∀ y, y < x → A y = en (if y = u then some f else none)) → ∃ A' O', f_X5_reckons_3 T S fuel A (nI o) (nI u) (nI f) (nI t) (nI x) = some A' ∧ (∀ y, y < 64 → A' y = en (O' y)) ∧ IV (DO T N b o t) u f (2 ^ b) 0 O' := by
    intro m
    induction m with
    | zero =>
      intro x fuel A hx hfu hA
      obtain ⟨n, rfl⟩ : ∃ n, fuel = n + 1 := ⟨fuel - 1, by omega⟩
      rw [f_X5_reckons_3, i_Lle (by omega) (by omega)]
      exact m_reck_38 hV hS ho ht hu hf (2 ^ b - u) u FU A _ (by omega) (by rw [FU_v]; omega) (fun y hy => hA y (by omega)) (iv_init hR hu hf)
    | succ m ih =>
      intro x fuel A hx hfu hA
      obtain ⟨n, rfl⟩ : ∃ n, fuel = n + 1 := ⟨fuel - 1, by omega⟩
      rw [f_X5_reckons_3, i_nLle (by omega) (by omega)]
      by_cases c : x = u
      · rw [i_eq c, f_X5_reckons_28, i_in (by omega) (by omega), ncl (by omega), nI_1]
        refine ih (x + 1) n _ (by omega) (by omega) (fun y hy => ?_)
        rw [upd_if]
        by_cases e : y = x
        · rw [if_pos e, if_pos (e.trans c)]; rfl
        · rw [if_neg e]; exact hA y (by omega)
      · rw [i_ne c (by omega) (by omega), f_X5_reckons_28, i_in (by omega) (by omega), ncl (by omega), nI_1]
        refine ih (x + 1) n _ (by omega) (by omega) (fun y hy => ?_)
        rw [upd_if]
        by_cases e : y = x
        · rw [if_pos e, if_neg (by omega)]; rfl
        · rw [if_neg e]; exact hA y (by omega)
  obtain ⟨A', O', e1, g1, g2⟩ := lp 64 0 FU A (by omega) (by rw [FU_v]; omega) (fun y hy => absurd hy (Nat.not_lt_zero y))
  exact ⟨A', O', e1, g1, fun y => iv_end hR hu hf g2 y⟩
end V
