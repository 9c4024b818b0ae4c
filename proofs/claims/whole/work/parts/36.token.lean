/-! the text: tokens, seen from both sides -/
def TX (n : Nat) (by1 tx : Nat → Int32) (c : Nat → Nat) : Prop := n ≤ 180 ∧ ∀ j, j < n → by1 j = nI (c j) ∧ tx j = nI (c j) ∧ c j < 256
theorem c_let : ∀ v : Nat, v < 256 → f_X2_isLetter (nI v) = some (if 97 ≤ v ∧ v ≤ 122 then 1 else 0) ∧ f_X5_isLetter (nI v) = some (if 97 ≤ v ∧ v ≤ 122 then 1 else 0) := by
  have h : ∀ v : Fin 256, f_X2_isLetter (nI v.val) = some (if 97 ≤ v.val ∧ v.val ≤ 122 then 1 else 0) ∧ f_X5_isLetter (nI v.val) = some (if 97 ≤ v.val ∧ v.val ≤ 122 then 1 else 0) := by decide +kernel
  exact fun v hv => h ⟨v, hv⟩
theorem c_dig : ∀ v : Nat, v < 256 → f_X2_isDigit (nI v) = some (if 48 ≤ v ∧ v ≤ 57 then 1 else 0) ∧ f_X5_isDigit (nI v) = some (if 48 ≤ v ∧ v ≤ 57 then 1 else 0) := by
  have h : ∀ v : Fin 256, f_X2_isDigit (nI v.val) = some (if 48 ≤ v.val ∧ v.val ≤ 57 then 1 else 0) ∧ f_X5_isDigit (nI v.val) = some (if 48 ≤ v.val ∧ v.val ≤ 57 then 1 else 0) := by decide +kernel
  exact fun v hv => h ⟨v, hv⟩
theorem m_let_1 : f_X5_isLetter (-1) = some 0 := by decide +kernel
theorem m_dig_1 : f_X5_isDigit (-1) = some 0 := by decide +kernel
section X
variable {n : Nat} {by1 tx : Nat → Int32} {c : Nat → Nat}
theorem lA (h : TX n by1 tx c) {p : Nat} (hp : p < n) : f_X5_letterAt (nI n) tx (nI p) = some (nI (c p)) := by
  have := h.1
  unfold f_X5_letterAt
  rw [i_nle (by omega) (by omega), i_in (by omega) (by omega), ncl (by omega), (h.2 p hp).2.1]
theorem lA_e (h : TX n by1 tx c) : f_X5_letterAt (nI n) tx (nI n) = some (-1) := by
  have := h.1
  unfold f_X5_letterAt
  rw [i_le (Nat.le_refl _) (by omega)]
theorem tl (h : TX n by1 tx c) {ts : Nat} (w : Int32) : ∀ (m q f1 f2 : Nat) (v : Int32), q + m = n → ts < q → m < f1 → m < f2 → ∃ q' v', q ≤ q' ∧ q' ≤ n ∧ f_X2_takeLetters_5 (nI n) (nI ts) by1 f1 (nI q) 1 v = some (nI q', 1, v') ∧ f_X5_token_114 (nI n) tx f2 (nI q) 1 (nI ts) v w = some (nI q', 1, nI ts, v') := by
  have hn := h.1
  intro m
  induction m with
  | zero =>
    intro q f1 f2 v hq hts hf1 hf2
    obtain ⟨f1, rfl⟩ : ∃ k, f1 = k + 1 := ⟨f1 - 1, by omega⟩
    obtain ⟨f2, rfl⟩ : ∃ k, f2 = k + 1 := ⟨f2 - 1, by omega⟩
    have e : q = n := by omega
    subst e
    rw [f_X2_takeLetters_5, i_le (Nat.le_refl _) (by omega), f_X5_token_114, if_pos rfl, lA_e h, Option.bind_some, m_let_1, Option.bind_some, if_pos rfl, f_X5_token_154, if_neg (by decide)]
    exact ⟨q, v, Nat.le_refl _, Nat.le_refl _, rfl, rfl⟩
  | succ m ih =>
    intro q f1 f2 v hq hts hf1 hf2
    obtain ⟨f1, rfl⟩ : ∃ k, f1 = k + 1 := ⟨f1 - 1, by omega⟩
    obtain ⟨f2, rfl⟩ : ∃ k, f2 = k + 1 := ⟨f2 - 1, by omega⟩
    obtain ⟨g1, g2, g3⟩ := h.2 q (by omega)
    have eb : by1 (nI q).toNatClampNeg = nI (c q) := by rw [ncl (by omega), g1]
    rw [f_X2_takeLetters_5, i_nle (by omega) (by omega), i_in (by omega) (by omega), eb, (c_let _ g3).1, Option.bind_some, f_X5_token_114, if_pos rfl, lA h (by omega), Option.bind_some, (c_let _ g3).2, Option.bind_some]
    by_cases cl : 97 ≤ c q ∧ c q ≤ 122
    · rw [if_pos cl, if_neg ne10, if_neg ne10, i_ne (by omega) (by omega) (by omega), f_X2_takeLetters_56, nI_1]
      obtain ⟨q', v', a1, a2, a3, a4⟩ := ih (q + 1) f1 f2 0 (by omega) (by omega) (by omega) (by omega)
      exact ⟨q', v', by omega, a2, a3, a4⟩
    · rw [if_neg cl, if_pos rfl, if_pos rfl, f_X5_token_154, if_neg (by decide)]
      exact ⟨q, v, Nat.le_refl _, by omega, rfl, rfl⟩
/-- a number, so far, on both sides -/
def JN (c0 ts q cv mv : Nat) : Prop := cv ≤ 100 ∧ mv ≤ 1000 ∧ ((c0 ≠ 48 ∨ q = ts + 1) → (cv = mv ∧ mv ≤ 99) ∨ (cv = 100 ∧ 100 ≤ mv)) ∧ ((c0 = 48 ∧ ts + 1 < q) → 100 ≤ mv)
theorem n_eL {p q : Nat} (hp : p < 2147483648) (hq : q < 2147483648) {α : Type} {x y : α} : (if nI p = nI q then x else y) = if p = q then x else y := by
  by_cases e : p = q
  · rw [i_eq e, if_pos e]
  · rw [i_ne e hp hq, if_neg e]
theorem td_end (h : TX n by1 tx c) {ts q cv mv : Nat} (tk : Int32) (hts : ts < q) (hq : q ≤ n) (hJ : JN (c ts) ts q cv mv) : (∃ v, v ≤ 99 ∧ cv = v ∧ mv = v ∧ f_X2_takeNumber_68 (nI n) (nI ts) by1 (nI q) tk (nI cv) = some (nI q, 2, nI cv)) ∨ (100 ≤ mv ∧ f_X2_takeNumber_68 (nI n) (nI ts) by1 (nI q) tk (nI cv) = some (nI q, 4, nI cv)) := by
  have hn := h.1
  obtain ⟨j1, j2, j3, j4⟩ := hJ
  obtain ⟨g1, g2, g3⟩ := h.2 ts (by omega)
  have e99 : f_X2_takeNumber_99 (nI n) (nI ts) by1 (nI q) tk (nI cv) = if cv ≤ 99 then some (nI q, 2, nI cv) else some (nI q, 4, nI cv) := by
    rw [f_X2_takeNumber_99, f_X2_takeNumber_100, if_pos rfl]
    by_cases k : cv ≤ 99
    · rw [i_leL k (by omega), if_pos k]; rfl
    · rw [i_nleL (by omega) (by omega), if_neg k]; rfl
  have both : (c ts ≠ 48 ∨ q = ts + 1) → (∃ v, v ≤ 99 ∧ cv = v ∧ mv = v ∧ f_X2_takeNumber_99 (nI n) (nI ts) by1 (nI q) tk (nI cv) = some (nI q, 2, nI cv)) ∨ (100 ≤ mv ∧ f_X2_takeNumber_99 (nI n) (nI ts) by1 (nI q) tk (nI cv) = some (nI q, 4, nI cv)) := by
    intro hc
    rw [e99]
    rcases j3 hc with ⟨k1, k2⟩ | ⟨k1, k2⟩
    · left; exact ⟨cv, by omega, rfl, k1.symm, if_pos (by omega)⟩
    · right; exact ⟨k2, if_neg (by omega)⟩
  unfold f_X2_takeNumber_68
  rw [pk_sub (by omega)]
  by_cases k : q - ts ≤ 1
  · rw [i_leL k (by omega)]
    exact both (Or.inr (by omega))
  · rw [i_nleL (by omega) (by omega), i_in (by omega) (by omega)]
    simp only [ncl (show ts < 2147483648 by omega), g1]
    by_cases k2 : c ts = 48
    · rw [i_eqL k2]
      right
      exact ⟨j4 ⟨k2, by omega⟩, rfl⟩
    · rw [i_neL k2 (by omega) (by omega)]
      exact both (Or.inl k2)
theorem td (h : TX n by1 tx c) {ts : Nat} (hd0 : 48 ≤ c ts ∧ c ts ≤ 57) (tk : Int32) : ∀ (m q f1 f2 cv mv : Nat), q + m = n → ts < q → m < f1 → m < f2 → JN (c ts) ts q cv mv → ∃ q' cv' mv', q ≤ q' ∧ q' ≤ n ∧ f_X5_token_170 (nI n) tx f2 (nI q) 2 (nI ts) (nI mv) (nI (c ts)) = some (nI q', 2, nI ts, nI mv') ∧ mv' ≤ 1000 ∧ ((mv' ≤ 99 ∧ cv' = mv' ∧ f_X2_takeNumber_0 (nI n) (nI ts) by1 f1 (nI q) tk (nI cv) = some (nI q', 2, nI cv')) ∨ (100 ≤ mv' ∧ f_X2_takeNumber_0 (nI n) (nI ts) by1 f1 (nI q) tk (nI cv) = some (nI q', 4, nI cv'))) := by
  have hn := h.1
  intro m
  induction m with
  | zero =>
    intro q f1 f2 cv mv hq hts hf1 hf2 hJ
    obtain ⟨f1, rfl⟩ : ∃ k, f1 = k + 1 := ⟨f1 - 1, by omega⟩
    obtain ⟨f2, rfl⟩ : ∃ k, f2 = k + 1 := ⟨f2 - 1, by omega⟩
    have e : q = n := by omega
    subst e
    rw [f_X2_takeNumber_0, i_le (Nat.le_refl _) (by omega), f_X5_token_170, lA_e h, Option.bind_some, m_dig_1, Option.bind_some, if_pos rfl]
    refine ⟨q, cv, mv, Nat.le_refl _, Nat.le_refl _, rfl, hJ.2.1, ?_⟩
    rcases td_end h tk hts (Nat.le_refl _) hJ with ⟨v, k1, k2, k3, k4⟩ | ⟨k1, k2⟩
    · exact Or.inl ⟨by omega, by omega, k4⟩
    · exact Or.inr ⟨k1, k2⟩
  | succ m ih =>
    intro q f1 f2 cv mv hq hts hf1 hf2 hJ
    obtain ⟨f1, rfl⟩ : ∃ k, f1 = k + 1 := ⟨f1 - 1, by omega⟩
    obtain ⟨f2, rfl⟩ : ∃ k, f2 = k + 1 := ⟨f2 - 1, by omega⟩
    obtain ⟨g1, g2, g3⟩ := h.2 q (by omega)
    have g4 : c ts < 256 := (h.2 ts (by omega)).2.2
    have eb : by1 (nI q).toNatClampNeg = nI (c q) := by rw [ncl (by omega), g1]
    rw [f_X2_takeNumber_0, i_nle (by omega) (by omega), i_in (by omega) (by omega), eb, (c_dig _ g3).1, Option.bind_some, f_X5_token_170, lA h (by omega), Option.bind_some, (c_dig _ g3).2, Option.bind_some]
    by_cases cl : 48 ≤ c q ∧ c q ≤ 57
    · have j := hJ
      obtain ⟨j1, j2, j3, j4⟩ := j
      have hin : inb (nI q) 180 := (inb_n (by omega)).mpr (by omega)
      rw [if_pos cl, if_neg ne10, if_neg ne10]
      rw [if_pos hin, if_pos hin]
      rw [nmL, nI_add, nsL (by omega), nI_1]
      have ecv : (if (100 : Int32) < nI (cv * 10 + c q - 48) then (100 : Int32) else nI (cv * 10 + c q - 48)) = nI (if 100 < cv * 10 + c q - 48 then 100 else cv * 10 + c q - 48) := by
        by_cases k : 100 < cv * 10 + c q - 48
        · rw [i_Llt k (by omega), if_pos k]; rfl
        · rw [i_nLlt (by omega) (by omega), if_neg k]
      rw [show (if (100 : Int32) < nI (cv * (OfNat.ofNat 10 : Nat) + c q - (OfNat.ofNat 48 : Nat)) then (100 : Int32) else nI (cv * (OfNat.ofNat 10 : Nat) + c q - (OfNat.ofNat 48 : Nat))) = _ from ecv]
      by_cases k48 : c ts = 48
      · rw [i_eqL k48, f_X5_token_200, f_X5_token_226, nI_1, show (1000 : Int32) = nI 1000 from rfl]
        obtain ⟨q', cv', mv', a1, a2, a3, a4, a5⟩ := ih (q + 1) f1 f2 (if 100 < cv * 10 + c q - 48 then 100 else cv * 10 + c q - 48) 1000 (by omega) (by omega) (by omega) (by omega) ⟨by split <;> omega, Nat.le_refl _, fun z => by omega, fun _ => by omega⟩
        exact ⟨q', cv', mv', by omega, a2, a3, a4, a5⟩
      · rw [i_neL k48 (by omega) (by omega)]
        by_cases k99 : mv ≤ 99
        · rw [i_leL k99 (by omega), f_X5_token_226, nI_1]
          have et : tx (nI q).toNatClampNeg = nI (c q) := by rw [ncl (by omega), g2]
          rw [show (10 : Int32) * nI mv + tx (nI q).toNatClampNeg - 48 = nI (10 * mv + c q - 48) from by rw [et, Lmn, nI_add]; exact nsL (n := 48) (show 48 ≤ 10 * mv + c q by omega)]
          obtain ⟨q', cv', mv', a1, a2, a3, a4, a5⟩ := ih (q + 1) f1 f2 (if 100 < cv * 10 + c q - 48 then 100 else cv * 10 + c q - 48) (10 * mv + c q - 48) (by omega) (by omega) (by omega) (by omega) ⟨by split <;> omega, by omega, fun z => by
            have e : cv = mv := by rcases j3 (Or.inl k48) with z | z <;> omega
            by_cases k : 100 < cv * 10 + c q - 48
            · rw [if_pos k]; omega
            · rw [if_neg k]; omega, fun z => absurd z.1 k48⟩
          exact ⟨q', cv', mv', by omega, a2, a3, a4, a5⟩
        · rw [i_nleL (by omega) (by omega), f_X5_token_200, f_X5_token_226, nI_1, show (1000 : Int32) = nI 1000 from rfl]
          obtain ⟨q', cv', mv', a1, a2, a3, a4, a5⟩ := ih (q + 1) f1 f2 (if 100 < cv * 10 + c q - 48 then 100 else cv * 10 + c q - 48) 1000 (by omega) (by omega) (by omega) (by omega) ⟨by split <;> omega, Nat.le_refl _, fun z => by
            have e : cv = 100 := by rcases j3 (Or.inl k48) with z | z <;> omega
            rw [if_pos (by omega)]; omega, fun _ => by omega⟩
          exact ⟨q', cv', mv', by omega, a2, a3, a4, a5⟩
    · rw [if_neg cl, if_pos rfl, if_pos rfl]
      refine ⟨q, cv, mv, Nat.le_refl _, by omega, rfl, hJ.2.1, ?_⟩
      rcases td_end h tk hts (show q ≤ n by omega) hJ with ⟨v, k1, k2, k3, k4⟩ | ⟨k1, k2⟩
      · exact Or.inl ⟨by omega, by omega, k4⟩
      · exact Or.inr ⟨k1, k2⟩
end X
