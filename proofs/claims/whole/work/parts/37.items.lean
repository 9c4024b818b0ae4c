/-! the text: a token, a number, an item -/
def TK (ck cv mk mv : Int32) : Prop := (ck = 0 ∧ mk = 0) ∨ (ck = 1 ∧ mk = 1 ∧ cv = mv) ∨ (∃ v, v ≤ 99 ∧ ck = 2 ∧ mk = 2 ∧ cv = nI v ∧ mv = nI v) ∨ (∃ v, 100 ≤ v ∧ v ≤ 1000 ∧ ck = 4 ∧ mk = 2 ∧ mv = nI v) ∨ (ck = 3 ∧ mk = 3) ∨ (ck = 4 ∧ mk = 4)
theorem TK.i0 {ck cv mk mv : Int32} (h : TK ck cv mk mv) : ck = 0 ↔ mk = 0 := by
  rcases h with ⟨rfl, rfl⟩ | ⟨rfl, rfl, -⟩ | ⟨v, -, rfl, rfl, -⟩ | ⟨v, -, -, rfl, rfl, -⟩ | ⟨rfl, rfl⟩ | ⟨rfl, rfl⟩ <;> decide
theorem TK.i3 {ck cv mk mv : Int32} (h : TK ck cv mk mv) : ck = 3 ↔ mk = 3 := by
  rcases h with ⟨rfl, rfl⟩ | ⟨rfl, rfl, -⟩ | ⟨v, -, rfl, rfl, -⟩ | ⟨v, -, -, rfl, rfl, -⟩ | ⟨rfl, rfl⟩ | ⟨rfl, rfl⟩ <;> decide
theorem TK.i1 {ck cv mk mv : Int32} (h : TK ck cv mk mv) : (ck = 1 ∧ mk = 1 ∧ cv = mv) ∨ (¬ ck = 1 ∧ ¬ mk = 1) := by
  rcases h with ⟨rfl, rfl⟩ | ⟨rfl, rfl, e⟩ | ⟨v, -, rfl, rfl, -⟩ | ⟨v, -, -, rfl, rfl, -⟩ | ⟨rfl, rfl⟩ | ⟨rfl, rfl⟩
  · exact Or.inr (by decide)
  · exact Or.inl ⟨rfl, rfl, e⟩
  all_goals exact Or.inr (by decide)
section X
variable {n : Nat} {by1 tx : Nat → Int32} {c : Nat → Nat}
theorem tok_l (h : TX n by1 tx c) : ∀ (m p f1 f2 : Nat) (x1 x2 x3 y1 y2 y3 : Int32), p + m = n → m < f1 → m < f2 → ∃ p' ts ck cv mk mv, p ≤ p' ∧ p' ≤ n ∧ ts ≤ n ∧ f_X2_nextToken_0 (nI n) by1 f1 (nI p) x1 x2 x3 = some (nI p', ck, nI ts, cv) ∧ f_X5_token_0 (nI n) tx f2 (nI p) y1 y2 y3 = some (nI p', mk, nI ts, mv) ∧ TK ck cv mk mv ∧ (¬ ck = 0 → p < p') := by
  have hn := h.1
  intro m
  induction m with
  | zero =>
    intro p f1 f2 x1 x2 x3 y1 y2 y3 hp hf1 hf2
    obtain ⟨f1, rfl⟩ : ∃ k, f1 = k + 1 := ⟨f1 - 1, by omega⟩
    obtain ⟨f2, rfl⟩ : ∃ k, f2 = k + 1 := ⟨f2 - 1, by omega⟩
    have e : p = n := by omega
    subst e
    rw [f_X2_nextToken_0, i_le (Nat.le_refl _) (by omega), f_X2_nextToken_38, i_nlt (Nat.le_refl _) (by omega), f_X5_token_0, lA_e h, Option.bind_some, if_neg (by decide), Option.bind_some, if_neg (by decide), f_X5_token_85, if_pos rfl, f_X5_token_110, add_0, show FU = 999 + 1 from rfl, f_X5_token_114, if_neg (by decide), f_X5_token_154, if_neg (by decide)]
    exact ⟨p, p, 0, 0, 0, -1, Nat.le_refl _, Nat.le_refl _, Nat.le_refl _, rfl, rfl, Or.inl ⟨rfl, rfl⟩, fun z => absurd rfl z⟩
  | succ m ih =>
    intro p f1 f2 x1 x2 x3 y1 y2 y3 hp hf1 hf2
    obtain ⟨f1, rfl⟩ : ∃ k, f1 = k + 1 := ⟨f1 - 1, by omega⟩
    obtain ⟨f2, rfl⟩ : ∃ k, f2 = k + 1 := ⟨f2 - 1, by omega⟩
    obtain ⟨g1, g2, g3⟩ := h.2 p (by omega)
    have eb : by1 (nI p).toNatClampNeg = nI (c p) := by rw [ncl (by omega), g1]
    rw [f_X2_nextToken_0, i_nle (by omega) (by omega), i_in (by omega) (by omega), eb, f_X5_token_0, lA h (by omega), Option.bind_some]
    by_cases c32 : c p = 32
    · rw [i_eqL c32, i_eqL c32, nI_1]
      obtain ⟨p', ts, ck, cv, mk, mv, a1, a2, a3, a4, a5, a6, a7⟩ := ih (p + 1) f1 f2 x1 x2 x3 y1 y2 y3 (by omega) (by omega) (by omega)
      exact ⟨p', ts, ck, cv, mk, mv, by omega, a2, a3, a4, a5, a6, fun z => by have := a7 z; omega⟩
    · rw [i_neL c32 (by omega) (by omega), i_neL c32 (by omega) (by omega), Option.bind_some, if_pos (n_ge0 (by omega)), f_X2_nextToken_38, i_lt (by omega) (by omega), i_in (by omega) (by omega), eb, (c_let _ g3).1, (c_let _ g3).2, Option.bind_some, Option.bind_some]
      by_cases cl : 97 ≤ c p ∧ c p ≤ 122
      · rw [if_pos cl, if_neg ne10, if_neg ne10, f_X5_token_85, if_neg ne10, f_X5_token_110, f_X2_takeLetters, show f_X2_takeLetters_5 (nI n) (nI p) by1 FU (nI p) 1 0 = f_X2_takeLetters_5 (nI n) (nI p) by1 999 (nI p + 1) 1 (nI (c p)) from by
          rw [show FU = 999 + 1 from rfl, f_X2_takeLetters_5, i_nle (by omega) (by omega), i_in (by omega) (by omega), eb, (c_let _ g3).1, Option.bind_some, if_pos cl, if_neg ne10, i_eq rfl, i_in (by omega) (by omega), f_X2_takeLetters_56], nI_1]
        obtain ⟨q', v', a1, a2, a3, a4⟩ := tl h (ts := p) (nI (c p)) m (p + 1) 999 FU (nI (c p)) (by omega) (by omega) (by omega) (by rw [FU_v]; omega)
        rw [a3, a4, Option.bind_some]
        exact ⟨q', p, 1, v', 1, v', by omega, a2, by omega, rfl, rfl, Or.inr (Or.inl ⟨rfl, rfl, rfl⟩), fun _ => by omega⟩
      · rw [if_neg cl, if_pos rfl, if_pos rfl, i_in (by omega) (by omega), (c_dig _ g3).1, (c_dig _ g3).2, Option.bind_some, Option.bind_some]
        by_cases cd : 48 ≤ c p ∧ c p ≤ 57
        · rw [if_pos cd, if_neg ne10, if_neg ne10, f_X5_token_85, if_neg (by decide), f_X5_token_110, show f_X5_token_114 (nI n) tx FU (nI p + 1) 2 (nI p) (nI (c p)) (nI (c p)) = f_X5_token_170 (nI n) tx FU (nI p + 1) 2 (nI p) (nI (c p) - 48) (nI (c p)) from by
            rw [show FU = 999 + 1 from rfl, f_X5_token_114, if_neg (by decide), f_X5_token_154, if_pos rfl, show FU = 999 + 1 from rfl], f_X2_takeNumber, show f_X2_takeNumber_0 (nI n) (nI p) by1 FU (nI p) x1 0 = f_X2_takeNumber_0 (nI n) (nI p) by1 999 (nI p + 1) x1 (nI (c p - 48)) from by
            rw [show FU = 999 + 1 from rfl, f_X2_takeNumber_0, i_nle (by omega) (by omega), i_in (by omega) (by omega), eb, (c_dig _ g3).1, Option.bind_some, if_pos cd, if_neg ne10, i_in (by omega) (by omega)]
            have e1 : (0 : Int32) * 10 + nI (c p) - 48 = nI (c p - 48) := by
              rw [show (0 : Int32) * 10 + nI (c p) = nI (c p) from by grind]
              exact nsL (n := 48) (show 48 ≤ c p by omega)
            rw [e1, i_nLlt (by omega) (by omega)], nI_1, nsL (by omega)]
          obtain ⟨q', cv', mv', a1, a2, a3, a4, a5⟩ := td h (ts := p) cd x1 m (p + 1) 999 FU (c p - 48) (c p - 48) (by omega) (by omega) (by omega) (by rw [FU_v]; omega) ⟨by omega, by omega, fun _ => Or.inl ⟨rfl, by omega⟩, fun z => by omega⟩
          rw [show f_X5_token_170 (nI n) tx FU (nI (p + 1)) 2 (nI p) (nI (c p - (OfNat.ofNat 48 : Nat))) (nI (c p)) = _ from a3]
          rcases a5 with ⟨b1, b2, b3⟩ | ⟨b1, b2⟩
          · rw [b3, Option.bind_some]
            exact ⟨q', p, 2, nI cv', 2, nI mv', by omega, a2, by omega, rfl, rfl, Or.inr (Or.inr (Or.inl ⟨mv', b1, rfl, rfl, by rw [b2], rfl⟩)), fun _ => by omega⟩
          · rw [b2, Option.bind_some]
            exact ⟨q', p, 4, nI cv', 2, nI mv', by omega, a2, by omega, rfl, rfl, Or.inr (Or.inr (Or.inr (Or.inl ⟨mv', b1, a4, rfl, rfl, rfl⟩))), fun _ => by omega⟩
        · rw [if_neg cd, if_pos rfl, if_pos rfl, i_in (by omega) (by omega)]
          by_cases c59 : c p = 59
          · rw [i_eqL c59, i_eqL c59, f_X5_token_85, if_neg (by decide), f_X5_token_110, show FU = 999 + 1 from rfl, f_X5_token_114, if_neg (by decide), f_X5_token_154, if_neg (by decide), f_X2_nextToken_134, nI_1]
            exact ⟨p + 1, p, 3, 0, 3, _, by omega, by omega, by omega, rfl, rfl, Or.inr (Or.inr (Or.inr (Or.inr (Or.inl ⟨rfl, rfl⟩)))), fun _ => by omega⟩
          · rw [i_neL c59 (by omega) (by omega), i_neL c59 (by omega) (by omega), f_X5_token_85, if_neg (by decide), f_X5_token_110, show FU = 999 + 1 from rfl, f_X5_token_114, if_neg (by decide), f_X5_token_154, if_neg (by decide), f_X2_nextToken_134, nI_1]
            exact ⟨p + 1, p, 4, 0, 4, _, by omega, by omega, by omega, rfl, rfl, Or.inr (Or.inr (Or.inr (Or.inr (Or.inr ⟨rfl, rfl⟩)))), fun _ => by omega⟩
theorem tok (h : TX n by1 tx c) {p : Nat} (hp : p ≤ n) (x1 x2 x3 y1 y2 y3 : Int32) : ∃ p' ts ck cv mk mv, p ≤ p' ∧ p' ≤ n ∧ ts ≤ n ∧ f_X2_nextToken (nI n) by1 (nI p) x1 x2 x3 = some (nI p', ck, nI ts, cv) ∧ f_X5_token (nI n) tx (nI p) y1 y2 y3 = some (nI p', mk, nI ts, mv) ∧ TK ck cv mk mv ∧ (¬ ck = 0 → p < p') := by
  have hn := h.1
  exact tok_l h (n - p) p FU FU x1 x2 x3 y1 y2 y3 (by omega) (by rw [FU_v]; omega) (by rw [FU_v]; omega)
theorem nbr (h : TX n by1 tx c) {p pl lo hi : Nat} (hp : p ≤ n) (hpl : pl < 43) (hlo : lo ≤ 99) (hhi : hi ≤ 99) (x1 x2 x3 y1 y2 y3 : Int32) (M : Nat → Int32) : ∃ p' ts ck cv mk mv, p ≤ p' ∧ p' ≤ n ∧ ts ≤ n ∧ f_X2_nextToken (nI n) by1 (nI p) x1 x2 x3 = some (nI p', ck, nI ts, cv) ∧ ((f_X2_isNumberWithin ck cv (nI lo) (nI hi) = some 0 ∧ f_X5_number (nI n) tx (nI p) y1 y2 y3 M (nI pl) (nI lo) (nI hi) = some (0, nI p', mk, nI ts, mv, upd M pl mv)) ∨ (∃ v, lo ≤ v ∧ v ≤ hi ∧ cv = nI v ∧ f_X2_isNumberWithin ck cv (nI lo) (nI hi) = some 1 ∧ f_X5_number (nI n) tx (nI p) y1 y2 y3 M (nI pl) (nI lo) (nI hi) = some (1, nI p', mk, nI ts, mv, upd M pl (nI v)))) := by
  obtain ⟨p', ts, ck, cv, mk, mv, a1, a2, a3, a4, a5, a6, a7⟩ := tok h hp x1 x2 x3 y1 y2 y3
  refine ⟨p', ts, ck, cv, mk, mv, a1, a2, a3, a4, ?_⟩
  unfold f_X5_number f_X2_isNumberWithin
  rw [a5, Option.bind_some, i_in hpl (by omega), ncl (by omega)]
  dsimp only
  have off : ¬ ck = 2 → ¬ mk = 2 → ((if ck = 2 then (if cv < nI lo then (some 0) else (if nI hi < cv then (some 0) else (some 1))) else (some 0)) = some (0 : Int32) ∧ (if mk = 2 then ((f_X5_in mv (nI lo) (nI hi)).bind fun u_4 => if u_4 = 0 then (some ((0 : Int32), nI p', mk, nI ts, mv, (upd M pl mv))) else (some (1, nI p', mk, nI ts, mv, (upd M pl mv)))) else (some (0, nI p', mk, nI ts, mv, (upd M pl mv)))) = some (0, nI p', mk, nI ts, mv, upd M pl mv)) := fun k1 k2 => ⟨by rw [if_neg k1], by rw [if_neg k2]⟩
  rcases a6 with ⟨k1, k2⟩ | ⟨k1, k2, -⟩ | ⟨v, hv, k1, k2, k3, k4⟩ | ⟨v, hv, hv2, k1, k2, k4⟩ | ⟨k1, k2⟩ | ⟨k1, k2⟩
  · exact Or.inl (off (by rw [k1]; decide) (by rw [k2]; decide))
  · exact Or.inl (off (by rw [k1]; decide) (by rw [k2]; decide))
  · rw [if_pos k1, if_pos k2, k3, k4]
    by_cases c1 : v < lo
    · rw [i_lt c1 (by omega), in_0 (Or.inl ((nlt (by omega) (by omega)).mpr c1)), Option.bind_some, if_pos rfl]
      exact Or.inl ⟨rfl, rfl⟩
    · by_cases c2 : hi < v
      · rw [i_nlt (by omega) (by omega), i_lt c2 (by omega), in_0 (Or.inr ((nlt (by omega) (by omega)).mpr c2)), Option.bind_some, if_pos rfl]
        exact Or.inl ⟨rfl, rfl⟩
      · rw [i_nlt (by omega) (by omega), i_nlt (by omega) (by omega), in_1 (fun z => c1 ((nlt (by omega) (by omega)).mp z)) (fun z => c2 ((nlt (by omega) (by omega)).mp z)), Option.bind_some, if_neg ne10]
        exact Or.inr ⟨v, by omega, by omega, rfl, rfl, rfl⟩
  · rw [if_neg (show ¬ ck = 2 by rw [k1]; decide), if_pos k2, k4, in_0 (Or.inr ((nlt (by omega) (by omega)).mpr (by omega))), Option.bind_some, if_pos rfl]
    exact Or.inl ⟨rfl, rfl⟩
  · exact Or.inl (off (by rw [k1]; decide) (by rw [k2]; decide))
  · exact Or.inl (off (by rw [k1]; decide) (by rw [k2]; decide))
theorem setO {a j : Nat} (ha : a < 5) (hj : j < 2) (fO : Nat → Int32) (v : Int32) : f_X3_setOfLastOven (nI (a + 1)) fO (nI j) v = some (upd fO (a * 2 + j) v) := by
  unfold f_X3_setOfLastOven
  rw [show nI (a + 1) - 1 = nI a from nsL (n := 1) (show 1 ≤ a + 1 by omega)]
  simp (disch := omega) only [nmL, nI_add, i_nltL, i_nLle, i_in, ncl]
theorem setD {a j : Nat} (ha : a < 6) (hj : j < 5) (fO : Nat → Int32) (v : Int32) : f_X3_setOfLastDough (nI (a + 1)) fO (nI j) v = some (upd fO (a * 5 + j) v) := by
  unfold f_X3_setOfLastDough
  rw [show nI (a + 1) - 1 = nI a from nsL (n := 1) (show 1 ≤ a + 1 by omega)]
  simp (disch := omega) only [nmL, nI_add, i_nltL, i_nLle, i_in, ncl]
end X
