/-! order: the class finds the best row -/
def nv (T : Nat → Int32) (k : Nat) : Nat := (T k).toNatClampNeg
theorem nv_of {T : Nat → Int32} {k x : Nat} (h : T k = nI x) (hx : x < 2147483648) : nv T k = x := by unfold nv; rw [h, ncl hx]
def DO (T N : Nat → Int32) (b o t : Nat) : Nat → Nat → Option Nat := dn b (nv T (3 + o) * 9 / 10) t (fun d => decide (N d = -9)) (fun d => nv T (31 + d)) (fun d => nv T (37 + d)) (fun d => nv T (25 + d))
theorem wb_t (N : Nat → Int32) (pl : Int32) : ∀ b : Nat, b ≤ 6 → ∃ w : Nat, w < 2 ^ b ∧ wb N pl b = nI w ∧ ∀ d, w.testBit d = (decide (d < b) && decide (N d = pl))
  | 0, _ => ⟨0, by decide, rfl, fun d => by rw [Nat.zero_testBit, decide_eq_false (Nat.not_lt_zero d)]; rfl⟩
  | d + 1, h => by
    obtain ⟨w, h1, h2, h3⟩ := wb_t N pl d (by omega)
    rw [wb]
    by_cases c : N d = pl
    · rw [if_pos c, h2, bit_n d (by omega), n_or]
      refine ⟨_, Nat.or_lt_two_pow (Nat.lt_trans h1 ?_) ?_, rfl, fun k => ?_⟩
      · exact Nat.pow_lt_pow_right (by decide) (by omega)
      · exact Nat.pow_lt_pow_right (by decide) (by omega)
      · rw [sh_or, h3 k]
        by_cases e : k = d
        · subst e; rw [decide_eq_true c]; simp
        · rw [show decide (k < d + 1) = decide (k < d) from by by_cases q : k < d <;> simp [q] <;> omega]; simp [e]
    · rw [if_neg c]
      refine ⟨w, Nat.lt_trans h1 (Nat.pow_lt_pow_right (by decide) (by omega)), h2, fun k => ?_⟩
      rw [h3 k]
      by_cases e : k = d
      · subst e; rw [decide_eq_false c, Bool.and_false, Bool.and_false]
      · rw [show decide (k < d + 1) = decide (k < d) from by by_cases q : k < d <;> simp [q] <;> omega]
section V
variable {a b kk : Nat} {T N fO fD cr S : Nat → Int32}
theorem DO_6 (hb : b ≤ 6) {o t : Nat} : ∀ d f e, DO T N b o t d f = some e → d < 6 := fun d f e h => by have := dn_ge h; omega
theorem bst_0 {D : Nat → Nat → Option Nat} (h : ∀ d f, D d f = none) : ∀ n s f, bst D n s f = (0, f, [])
  | 0, _, _ => rfl
  | n + 1, s, f => by
    have g : ∀ d, gB D n s f d = none := fun d => by
      unfold gB; rw [h d f]; split <;> rfl
    have q : ∀ m, fo (gB D n s f) (0, f, []) m = (0, f, []) := fun m => by
      induction m with
      | zero => rfl
      | succ m ih => rw [fo_none (g m), ih]
    rw [bst_s, q]
theorem tvd (hV : TV a b T) {d : Nat} (hd : d < b) : T (25 + d) = nI (nv T (25 + d)) ∧ 1 ≤ nv T (25 + d) ∧ nv T (25 + d) ≤ 99 ∧ T (31 + d) = nI (nv T (31 + d)) ∧ nv T (31 + d) ≤ 60 ∧ T (37 + d) = nI (nv T (37 + d)) ∧ nv T (37 + d) ≤ 99 := by
  obtain ⟨-, -, ⟨x, x1, x2, x3⟩, ⟨y, y1, y2⟩, ⟨z, z1, z2⟩⟩ := hV.2.2.2.2.2 d hd
  rw [nv_of x1 (by omega), nv_of y1 (by omega), nv_of z1 (by omega)]
  exact ⟨x1, x2, x3, y1, y2, z1, z2⟩
theorem tvo (hV : TV a b T) {o : Nat} (ho : o < a) : T (3 + o) = nI (nv T (3 + o)) ∧ nv T (3 + o) ≤ 40 := by
  obtain ⟨x, x1, x2⟩ := (hV.2.2.2.2.1 o ho).1
  rw [nv_of x1 (by omega)]; exact ⟨x1, x2⟩
theorem hol_nil (A : Nat → Int32) : hol A [] 0 := ⟨rfl, fun j h => absurd h (Nat.not_lt_zero j)⟩
theorem rate_n (hV : TV a b T) {o : Nat} (ho : o < a) : T (3 + o) * 9 / 10 = nI (nv T (3 + o) * 9 / 10) := by
  obtain ⟨h1, h2⟩ := tvo hV ho
  have h3 : T (3 + o) * 9 = nI (nv T (3 + o) * 9) := by
    refine Eq.trans (congrArg (· * (9 : Int32)) h1) ?_
    exact nmL _ 9
  rw [h3, show (10 : Int32) = nI 10 from rfl, pk_div (by omega) (by omega) (by omega)]
theorem c_find_42 (hV : TV a b T) (hO : VO a T fO) (hD : VD b T fD) (v1 v2 v3 : Int32) (row best : Nat → Int32) {r : Nat} (hr0 : 0 < r) (hr : r ≤ 36) : ∀ (m d fuel : Nat) (bt : Nat → Int32), d + m = b → m < fuel → (∀ k, k < d → bt k = nI ((nv T (25 + k) + r - 1) / r)) → ∃ bt', f_X1_find_42 (nI kk) (nI a) (nI b) cr fO fD fuel v1 v2 v3 bt row best (nI r) (nI d) = f_X1_find_83 (nI kk) (nI a) (nI b) cr fO fD v1 v2 v3 bt' row best ∧ ∀ k, k < b → bt' k = nI ((nv T (25 + k) + r - 1) / r) := by
  have hb := hD.1
  intro m
  induction m with
  | zero =>
    intro d fuel bt hd hf h
    obtain ⟨n, rfl⟩ : ∃ n, fuel = n + 1 := ⟨fuel - 1, by omega⟩
    rw [f_X1_find_42, f_X3_doughs, Option.bind_some, i_le (by omega) (by omega)]
    exact ⟨bt, rfl, fun k hk => h k (by omega)⟩
  | succ m ih =>
    intro d fuel bt hd hf h
    obtain ⟨n, rfl⟩ : ∃ n, fuel = n + 1 := ⟨fuel - 1, by omega⟩
    obtain ⟨t1, t2, t3, -⟩ := tvd hV (show d < b by omega)
    rw [f_X1_find_42, f_X3_doughs, Option.bind_some, i_nle (by omega) (by omega), i_nLle (by omega) (by omega), ofD2 hD (by omega), Option.bind_some, t1]
    unfold f_X4_dividedUp
    rw [i_nleL (by omega) (by omega), if_pos (n_ne0 (by omega) (by omega)), Option.bind_some, i_in (by omega) (by omega), ncl (by omega), nI_add, nsL (by omega), pk_div (by omega) hr0 (by omega), nI_1]
    refine ih (d + 1) n _ (by omega) (by omega) (fun k hk => ?_)
    rw [upd_if]
    by_cases e : k = d
    · rw [if_pos e, e]
    · rw [if_neg e]; exact h k (by omega)
theorem c_find (hV : TV a b T) (hO : VO a T fO) (hD : VD b T fD) (hN : VN kk N cr) {mn o t : Nat} (hmn : mn ≤ 999) (e13 : N 13 = nI mn) (ho : o < a) (ht : t ≤ 999) (v1 v2 v3 : Int32) (bt row best : Nat → Int32) : ∃ bt' row' best', f_X1_find (nI kk) (nI a) (nI b) cr fO fD v1 v2 v3 bt row best (nI o) (nI t) = some (nI (bst (DO T N b o t) 6 0 mn).1, nI (bst (DO T N b o t) 6 0 mn).2.1, nI t, bt', row', best') ∧ hol best' (bst (DO T N b o t) 6 0 mn).2.2 (bst (DO T N b o t) 6 0 mn).1 := by
  have hb := hD.1
  unfold f_X1_find
  rw [c_minute hN, Option.bind_some, ofO0 hO ho, Option.bind_some, rate_n hV ho, e13]
  have h40 := (tvo hV ho).2
  by_cases c : 0 < nv T (3 + o) * 9 / 10
  · rw [i_Llt c (by omega)]
    obtain ⟨bt', e1, g1⟩ := c_find_42 (kk := kk) (cr := cr) hV hO hD 0 (nI mn) (nI t) row best c (by omega) b 0 FU bt (by omega) (by rw [FU_v]; omega) (fun k hk => absurd hk (Nat.not_lt_zero k))
    rw [show f_X1_find_42 (nI kk) (nI a) (nI b) cr fO fD FU 0 (nI mn) (nI t) bt row best (nI (nv T (3 + o) * 9 / 10)) 0 = _ from e1]
    unfold f_X1_find_83
    obtain ⟨w, hw, ew, tw⟩ := wb_t N (-9) b hb
    have hw64 : w < 64 := Nat.lt_of_lt_of_le hw (Nat.pow_le_pow_right (n := 2) (by decide) hb)
    rw [c_placedAt hN hb, Option.bind_some, c_minute hN, Option.bind_some, ew, e13]
    obtain ⟨row2, best2, e2, -, g2⟩ := c_ext (b := b) (r := nv T (3 + o) * 9 / 10) (t := t) (out := fun d => decide (N d = -9)) (ris := fun d => nv T (31 + d)) (late := fun d => nv T (37 + d)) (need := fun d => nv T (25 + d)) hD (fun d hd => by
      obtain ⟨t1, t2, t3, t4, t5, t6, t7⟩ := tvd hV hd
      refine ⟨t4, t5, t6, t7, g1 d hd, Nat.le_trans (Nat.div_le_self _ _) (by omega)⟩) c ht 6 0 8 0 mn w 0 mn [] [] row best (by omega) (by omega) (by omega) hw64 (fun d hd => by rw [tw d, Nat.zero_testBit]; simp) hmn (by omega) hmn (hol_nil row) (hol_nil best)
    have eB : comb (0, mn, []) (shf 0 [] (bst (DO T N b o t) 6 0 mn)) = bst (DO T N b o t) 6 0 mn := by
      have : shf 0 [] (bst (DO T N b o t) 6 0 mn) = bst (DO T N b o t) 6 0 mn := by
        show (0 + _, _, [] ++ _) = _
        rw [Nat.zero_add]; rfl
      rw [this, bst_s]; exact comb_fo _ _ 6
    have e2' : f_X1_extend 8 (nI t) (nI b) fD bt' 0 (nI mn) row best (nI w) 0 (nI mn) = some (nI (comb (0, mn, []) (shf 0 [] (bst (DO T N b o t) 6 0 mn))).1, nI (comb (0, mn, []) (shf 0 [] (bst (DO T N b o t) 6 0 mn))).2.1, row2, best2) := e2
    have g2' : hol best2 (comb (0, mn, []) (shf 0 [] (bst (DO T N b o t) 6 0 mn))).2.2 (comb (0, mn, []) (shf 0 [] (bst (DO T N b o t) 6 0 mn))).1 := g2
    rw [eB] at e2' g2'
    rw [e2', Option.bind_some]
    exact ⟨_, _, _, rfl, g2'⟩
  · have hz : nv T (3 + o) * 9 / 10 = 0 := by omega
    rw [i_nLlt (by omega) (by omega), bst_0 (D := DO T N b o t) (fun d f => if_neg (fun z => by have := z.2.2.1; omega))]
    exact ⟨_, _, _, rfl, hol_nil best⟩
/-- what order answers, once asked rightly -/
def oA (B : Tr) (x3 : Int32) : Int32 := if x3 = -1 then nI B.1 else if x3 = -2 then nI B.2.1 else if x3.toNatClampNeg < B.1 then nI (B.2.2.getD x3.toNatClampNeg 0) else -9
theorem c_order (hV : TV a b T) (hO : VO a T fO) (hD : VD b T fD) (hN : VN kk N cr) {mn o t : Nat} (hmn : mn ≤ 999) (e13 : N 13 = nI mn) (ho : o < a) (ht : t ≤ 999) (v1 v2 v3 : Int32) (bt row best : Nat → Int32) {x3 : Int32} (h1 : ¬ x3 < -2) (h2 : x3 < 6) : ∃ w1 w2 w3 bt' row' best', f_X4_order (nI a) (nI b) (nI kk) cr fO fD v1 v2 v3 bt row best (nI o) (nI t) x3 = some (oA (bst (DO T N b o t) 6 0 mn) x3, w1, w2, w3, bt', row', best') := by
  obtain ⟨bt', row', best', e1, g1⟩ := c_find hV hO hD hN hmn e13 ho ht v1 v2 v3 bt row best
  have hB := (bst_bd (b := b) (r := nv T (3 + o) * 9 / 10) (out := fun d => decide (N d = -9)) (ris := fun d => nv T (31 + d)) (late := fun d => nv T (37 + d)) (need := fun d => nv T (25 + d)) ht 6 0 mn hmn).1
  have hB' : (bst (DO T N b o t) 6 0 mn).1 ≤ 6 := hB
  unfold f_X4_order
  rw [c_hasO_y hO.1 ho, Option.bind_some, if_neg ne10, if_neg (n_nneg (by omega)), i_nLlt (by omega) (by omega), if_neg h1, if_pos h2, e1, Option.bind_some]
  unfold oA f_X1_bestCount f_X1_bestEnd f_X1_bestAt
  dsimp only [Option.bind_some]
  by_cases c1 : x3 = -1
  · rw [if_pos c1, if_pos c1]; exact ⟨_, _, _, _, _, _, rfl⟩
  · rw [if_neg c1, if_neg c1]
    by_cases c2 : x3 = -2
    · rw [if_pos c2, if_pos c2]; exact ⟨_, _, _, _, _, _, rfl⟩
    · rw [if_neg c2, if_neg c2]
      have h0 : ¬ x3 < 0 := fun z => by
        rw [t_lt] at z h1
        have e1 : ¬ x3.toInt = (-1 : Int32).toInt := fun q => c1 (t_eq.mpr q)
        have e2 : ¬ x3.toInt = (-2 : Int32).toInt := fun q => c2 (t_eq.mpr q)
        have f1 : (-1 : Int32).toInt = -1 := by decide
        have f2 : (-2 : Int32).toInt = -2 := by decide
        have f0 : (0 : Int32).toInt = 0 := by decide
        omega
      obtain ⟨i, hi, rfl⟩ := nI_of h0
      have hi6 : i < 6 := (nlt hi (by omega : 6 < 2147483648)).mp h2
      rw [if_neg h0]
      simp only [ncl hi]
      by_cases c3 : i < (bst (DO T N b o t) 6 0 mn).1
      · rw [i_nle c3 (by omega), i_nLle hi6 (by omega), i_in hi6 (by omega), if_pos c3, g1.2 i c3]
        exact ⟨_, _, _, _, _, _, rfl⟩
      · rw [i_le (by omega) hi, if_neg c3]
        exact ⟨_, _, _, _, _, _, rfl⟩
end V
