/-! order: the class's search -/
def shf (ln : Nat) (pre : List Nat) (x : Tr) : Tr := (ln + x.1, x.2.1, pre ++ x.2.2)
theorem shf_comb (ln : Nat) (pre : List Nat) (x y : Tr) : shf ln pre (comb x y) = comb (shf ln pre x) (shf ln pre y) := by
  by_cases h : x.1 < y.1 ∨ (y.1 = x.1 ∧ y.2.1 < x.2.1)
  · rw [comb_pos h, comb_pos (show ln + x.1 < ln + y.1 ∨ (ln + y.1 = ln + x.1 ∧ y.2.1 < x.2.1) by omega)]
  · rw [comb_neg h, comb_neg (show ¬ (ln + x.1 < ln + y.1 ∨ (ln + y.1 = ln + x.1 ∧ y.2.1 < x.2.1)) by omega)]
theorem bt_c : ∀ l d : Nat, l < 64 → d < 6 → ((nI l &&& ((1 : Int32) <<< (nI d &&& 31))) = 0 ↔ l.testBit d = false) := by
  have h : ∀ l : Fin 64, ∀ d : Fin 6, ((nI l.val &&& ((1 : Int32) <<< (nI d.val &&& 31))) = 0 ↔ l.val.testBit d.val = false) := by decide +kernel
  exact fun l d h1 h2 => h ⟨l, h1⟩ ⟨d, h2⟩
theorem clr_c : ∀ l d : Nat, l < 64 → d < 6 → ∃ l2, l2 < 64 ∧ nI l &&& (((1 : Int32) <<< (nI d &&& 31)) ^^^ -1) = nI l2 ∧ ∀ k, k < 6 → l2.testBit k = (l.testBit k && !decide (k = d)) := by
  have h : ∀ l : Fin 64, ∀ d : Fin 6, ∃ l2 : Fin 64, nI l.val &&& (((1 : Int32) <<< (nI d.val &&& 31)) ^^^ -1) = nI l2.val ∧ ∀ k : Fin 6, l2.val.testBit k.val = (l.val.testBit k.val && !decide (k.val = d.val)) := by decide +kernel
  intro l d h1 h2
  obtain ⟨l2, e1, e2⟩ := h ⟨l, h1⟩ ⟨d, h2⟩
  exact ⟨l2.val, l2.isLt, e1, fun k hk => e2 ⟨k, hk⟩⟩
section C
variable {b r t : Nat} {out : Nat → Bool} {ris late need : Nat → Nat}
theorem bst_bd (ht : t ≤ 999) : ∀ (n s f : Nat), f ≤ 999 → (bst (dn b r t out ris late need) n s f).1 ≤ n ∧ (bst (dn b r t out ris late need) n s f).2.1 ≤ 999
  | 0, s, f, hf => ⟨Nat.le_refl _, hf⟩
  | n + 1, s, f, hf => by
    rw [bst_s]
    rcases (fo_spec (gB (dn b r t out ris late need) n s f) (0, f, []) 6).1 with h | ⟨d, c, -, q2, q3, -⟩
    · rw [h]; exact ⟨Nat.zero_le _, hf⟩
    · rw [q3]
      obtain ⟨-, e, he, rfl⟩ := gB_some q2
      have h2 := dn_ge he
      have ih := bst_bd ht n (s ||| 2 ^ d) e (by omega)
      exact ⟨by dsimp only; omega, ih.2⟩
/-- the cells hold a row -/
def hol (A : Nat → Int32) (P : List Nat) (L : Nat) : Prop := P.length = L ∧ ∀ j, j < L → A j = nI (P.getD j 0)
theorem c_weigh {row best : Nat → Int32} {L0 e0 ln f : Nat} {P0 pre : List Nat} (hL : L0 ≤ 6) (he : e0 ≤ 999) (hl : ln ≤ 6) (hf : f ≤ 999) (hr : hol row pre ln) (hb : hol best P0 L0) : ∃ best', f_X1_weigh row (nI L0) (nI e0) best (nI ln) (nI f) = some (nI (comb (L0, e0, P0) (ln, f, pre)).1, nI (comb (L0, e0, P0) (ln, f, pre)).2.1, best') ∧ hol best' (comb (L0, e0, P0) (ln, f, pre)).2.2 (comb (L0, e0, P0) (ln, f, pre)).1 := by
  unfold f_X1_weigh
  have cp : ∃ best', f_X1_weigh_24 row (nI L0) (nI e0) best (nI ln) (nI f) = some (nI ln, nI f, best') ∧ hol best' pre ln := by
    unfold f_X1_weigh_24
    rw [ncl (by omega), show (0 : Int32).toNatClampNeg = 0 from by decide]
    refine ⟨va_cpy row best 0 0 ln, if_pos ⟨by decide, by decide, n_nneg (by omega), by omega, by omega⟩, hr.1, fun j hj => ?_⟩
    rw [pk_cpy_in (by omega) (by omega), show 0 + (j - 0) = j by omega]; exact hr.2 j hj
  by_cases c1 : L0 < ln
  · rw [i_lt c1 (by omega), comb_pos (show L0 < ln ∨ (ln = L0 ∧ f < e0) from Or.inl c1)]; exact cp
  · rw [i_nlt (by omega) (by omega)]
    by_cases c2 : ln = L0
    · rw [i_eq c2]
      by_cases c3 : f < e0
      · rw [i_nle c3 (by omega), comb_pos (show L0 < ln ∨ (ln = L0 ∧ f < e0) from Or.inr ⟨c2, c3⟩)]; exact cp
      · rw [i_le (by omega) (by omega), comb_neg (show ¬ (L0 < ln ∨ (ln = L0 ∧ f < e0)) by omega)]; exact ⟨best, rfl, hb⟩
    · rw [i_ne c2 (by omega) (by omega), comb_neg (show ¬ (L0 < ln ∨ (ln = L0 ∧ f < e0)) by omega)]; exact ⟨best, rfl, hb⟩
variable {T fD bt : Nat → Int32}
theorem c_ext (hD : VD b T fD) (hv : ∀ d, d < b → T (31 + d) = nI (ris d) ∧ ris d ≤ 60 ∧ T (37 + d) = nI (late d) ∧ late d ≤ 99 ∧ bt d = nI ((need d + r - 1) / r) ∧ (need d + r - 1) / r ≤ 200) (hr0 : 0 < r) (ht : t ≤ 999) : ∀ (m ln dd s f lft L0 e0 : Nat) (pre P0 : List Nat) (row best : Nat → Int32), ln + m = 6 → m < dd → s < 64 → lft < 64 → (∀ d, d < 6 → lft.testBit d = (decide (d < b) && out d && !s.testBit d)) → f ≤ 999 → L0 ≤ 6 → e0 ≤ 999 → hol row pre ln → hol best P0 L0 → ∃ row' best', f_X1_extend dd (nI t) (nI b) fD bt (nI L0) (nI e0) row best (nI lft) (nI ln) (nI f) = some (nI (comb (L0, e0, P0) (shf ln pre (bst (dn b r t out ris late need) m s f))).1, nI (comb (L0, e0, P0) (shf ln pre (bst (dn b r t out ris late need) m s f))).2.1, row', best') ∧ (∀ j, j < ln → row' j = row j) ∧ hol best' (comb (L0, e0, P0) (shf ln pre (bst (dn b r t out ris late need) m s f))).2.2 (comb (L0, e0, P0) (shf ln pre (bst (dn b r t out ris late need) m s f))).1 := by
  have hb := hD.1
  intro m
  induction m with
  | zero =>
    intro ln dd s f lft L0 e0 pre P0 row best hln hdd hs hlft hbits hf hL0 he0 hrow hbest
    obtain ⟨d', rfl⟩ : ∃ d', dd = d' + 1 := ⟨dd - 1, by omega⟩
    obtain ⟨best1, e1, g1⟩ := c_weigh hL0 he0 (show ln ≤ 6 by omega) hf hrow hbest
    rw [f_X1_extend, f_X1_extend_0, e1, Option.bind_some, i_nltL (by omega) (by omega)]
    have ez : shf ln pre (bst (dn b r t out ris late need) 0 s f) = (ln, f, pre) := by show (ln + 0, f, pre ++ []) = _; rw [List.append_nil]; rfl
    rw [ez]
    exact ⟨row, best1, rfl, fun _ _ => rfl, g1⟩
  | succ m ih =>
    intro ln dd s f lft L0 e0 pre P0 row best hln hdd hs hlft hbits hf hL0 he0 hrow hbest
    obtain ⟨d', rfl⟩ : ∃ d', dd = d' + 1 := ⟨dd - 1, by omega⟩
    obtain ⟨best1, e1, g1⟩ := c_weigh hL0 he0 (show ln ≤ 6 by omega) hf hrow hbest
    rw [f_X1_extend, f_X1_extend_0, e1, Option.bind_some, i_ltL (by omega) (by omega)]
    have loop : ∀ (q d fuel : Nat) (row1 best1 : Nat → Int32), d + q = 6 → q < fuel → (∀ j, j < ln → row1 j = row j) → hol best1 (comb (L0, e0, P0) (shf ln pre (fo (gB (dn b r t out ris late need) m s f) (0, f, []) d))).2.2 (comb (L0, e0, P0) (shf ln pre (fo (gB (dn b r t out ris late need) m s f) (0, f, []) d))).1 → ∃ row' best', f_X1_extend_17 (nI t) (nI b) fD bt (f_X1_extend d') fuel (nI (comb (L0, e0, P0) (shf ln pre (fo (gB (dn b r t out ris late need) m s f) (0, f, []) d))).1) (nI (comb (L0, e0, P0) (shf ln pre (fo (gB (dn b r t out ris late need) m s f) (0, f, []) d))).2.1) row1 best1 (nI lft) (nI ln) (nI f) (nI d) = some (nI (comb (L0, e0, P0) (shf ln pre (bst (dn b r t out ris late need) (m + 1) s f))).1, nI (comb (L0, e0, P0) (shf ln pre (bst (dn b r t out ris late need) (m + 1) s f))).2.1, row', best') ∧ (∀ j, j < ln → row' j = row j) ∧ hol best' (comb (L0, e0, P0) (shf ln pre (bst (dn b r t out ris late need) (m + 1) s f))).2.2 (comb (L0, e0, P0) (shf ln pre (bst (dn b r t out ris late need) (m + 1) s f))).1 := by
      intro q
      induction q with
      | zero =>
        intro d fuel row1 best1 hd hfu hr1 hb1
        obtain ⟨n, rfl⟩ : ∃ n, fuel = n + 1 := ⟨fuel - 1, by omega⟩
        have e : d = 6 := by omega
        subst e
        rw [f_X1_extend_17, i_Lle (by omega) (by omega), bst_s]
        exact ⟨row1, best1, rfl, hr1, hb1⟩
      | succ q ihq =>
        intro d fuel row1 best1 hd hfu hr1 hb1
        obtain ⟨n, rfl⟩ : ∃ n, fuel = n + 1 := ⟨fuel - 1, by omega⟩
        rw [f_X1_extend_17, i_nLle (by omega) (by omega)]
        have skip : gB (dn b r t out ris late need) m s f d = none → ∃ row' best', f_X1_extend_17 (nI t) (nI b) fD bt (f_X1_extend d') n (nI (comb (L0, e0, P0) (shf ln pre (fo (gB (dn b r t out ris late need) m s f) (0, f, []) d))).1) (nI (comb (L0, e0, P0) (shf ln pre (fo (gB (dn b r t out ris late need) m s f) (0, f, []) d))).2.1) row1 best1 (nI lft) (nI ln) (nI f) (nI d + 1) = some (nI (comb (L0, e0, P0) (shf ln pre (bst (dn b r t out ris late need) (m + 1) s f))).1, nI (comb (L0, e0, P0) (shf ln pre (bst (dn b r t out ris late need) (m + 1) s f))).2.1, row', best') ∧ (∀ j, j < ln → row' j = row j) ∧ hol best' (comb (L0, e0, P0) (shf ln pre (bst (dn b r t out ris late need) (m + 1) s f))).2.2 (comb (L0, e0, P0) (shf ln pre (bst (dn b r t out ris late need) (m + 1) s f))).1 := by
          intro hg
          have := ihq (d + 1) n row1 best1 (by omega) (by omega) hr1
          rw [fo_none hg, ← nI_1] at this
          exact this hb1
        by_cases cb : lft.testBit d = true
        · rw [if_neg (fun z => by rw [(bt_c lft d hlft (by omega)).mp z] at cb; cases cb)]
          have hbd := hbits d (by omega)
          rw [cb] at hbd
          simp only [Bool.true_eq, Bool.and_eq_true, decide_eq_true_eq, Bool.not_eq_true'] at hbd
          obtain ⟨⟨hdb, hod⟩, hsd⟩ := hbd
          obtain ⟨v1, v2, v3, v4, v5, v6⟩ := hv d hdb
          rw [ofD3 hD hdb, Option.bind_some, i_in (by omega) (by omega), ofD4 hD hdb, Option.bind_some, v1, v3]
          have emax : (if nI f < nI (ris d) then nI (ris d) else nI f) = nI (max f (ris d)) := by
            by_cases c : f < ris d
            · rw [i_lt c (by omega), Nat.max_eq_right (by omega)]
            · rw [i_nlt (by omega) (by omega), Nat.max_eq_left (by omega)]
          rw [emax, ncl (by omega), v5, nI_add]
          have hmx : max f (ris d) ≤ 999 := by omega
          by_cases c1 : late d < max f (ris d)
          · rw [i_lt c1 (by omega)]
            refine skip ?_
            unfold gB; rw [if_neg (by rw [hsd]; decide)]
            rw [show dn b r t out ris late need d f = none from if_neg (fun z => by omega)]; rfl
          · rw [i_nlt (by omega) (by omega)]
            by_cases c2 : t < max f (ris d) + (need d + r - 1) / r
            · rw [i_lt c2 (by omega)]
              refine skip ?_
              unfold gB; rw [if_neg (by rw [hsd]; decide)]
              rw [show dn b r t out ris late need d f = none from if_neg (fun z => by omega)]; rfl
            · rw [i_nlt (by omega) (by omega), i_in (by omega) (by omega), ncl (by omega), nI_1]
              have hdn : dn b r t out ris late need d f = some (max f (ris d) + (need d + r - 1) / r) := if_pos ⟨hdb, hod, hr0, by omega, by omega⟩
              generalize hev : max f (ris d) + (need d + r - 1) / r = ev at *
              obtain ⟨l2, hl2, el2, tl2⟩ := clr_c lft d hlft (by omega)
              rw [el2]
              have hbb := bst_bd (b := b) (r := r) (out := out) (ris := ris) (late := late) (need := need) ht
              have stb : (comb (L0, e0, P0) (shf ln pre (fo (gB (dn b r t out ris late need) m s f) (0, f, []) d))).1 ≤ 6 ∧ (comb (L0, e0, P0) (shf ln pre (fo (gB (dn b r t out ris late need) m s f) (0, f, []) d))).2.1 ≤ 999 := by
                have fb : (fo (gB (dn b r t out ris late need) m s f) (0, f, []) d).1 ≤ m + 1 ∧ (fo (gB (dn b r t out ris late need) m s f) (0, f, []) d).2.1 ≤ 999 := by
                  rcases (fo_spec (gB (dn b r t out ris late need) m s f) (0, f, []) d).1 with h | ⟨d2, c, -, q2, q3, -⟩
                  · rw [h]; exact ⟨Nat.zero_le _, hf⟩
                  · rw [q3]
                    obtain ⟨-, e, he, rfl⟩ := gB_some q2
                    have h2 := dn_ge he
                    have := hbb m (s ||| 2 ^ d2) e (by omega)
                    exact ⟨by dsimp only; omega, this.2⟩
                unfold comb
                split
                · exact ⟨by show ln + _ ≤ 6; omega, fb.2⟩
                · exact ⟨hL0, he0⟩
              have hrow1 : hol (upd row1 ln (nI d)) (pre ++ [d]) (ln + 1) := by
                refine ⟨by rw [List.length_append, hrow.1]; rfl, fun j hj => ?_⟩
                rw [upd_if]
                by_cases e : j = ln
                · rw [if_pos e, e, ← hrow.1]; simp
                · rw [if_neg e, hr1 j (by omega), hrow.2 j (by omega)]
                  rw [List.getD_eq_getElem?_getD, List.getD_eq_getElem?_getD, List.getElem?_append_left (by rw [hrow.1]; omega)]
              obtain ⟨row2, best2, e2, g2, g3⟩ := ih (ln + 1) d' (s ||| 2 ^ d) ev l2 _ _ (pre ++ [d]) _ (upd row1 ln (nI d)) best1 (by omega) (by omega) (or_64 hs (by omega)) hl2 (fun k hk => by
                rw [tl2 k hk, hbits k hk, sh_or]
                cases decide (k < b) <;> cases out k <;> cases s.testBit k <;> cases decide (k = d) <;> rfl) (by omega) stb.1 stb.2 hrow1 hb1
              rw [e2, Option.bind_some]
              have hg : gB (dn b r t out ris late need) m s f d = some ((bst (dn b r t out ris late need) m (s ||| 2 ^ d) ev).1 + 1, (bst (dn b r t out ris late need) m (s ||| 2 ^ d) ev).2.1, d :: (bst (dn b r t out ris late need) m (s ||| 2 ^ d) ev).2.2) := gB_of hsd hdn
              have est : comb (comb (L0, e0, P0) (shf ln pre (fo (gB (dn b r t out ris late need) m s f) (0, f, []) d))) (shf (ln + 1) (pre ++ [d]) (bst (dn b r t out ris late need) m (s ||| 2 ^ d) ev)) = comb (L0, e0, P0) (shf ln pre (fo (gB (dn b r t out ris late need) m s f) (0, f, []) (d + 1))) := by
                rw [fo_some hg, shf_comb, ← comb_assoc]
                congr 1
                show (ln + 1 + _, _, pre ++ [d] ++ _) = (ln + (_ + 1), _, pre ++ d :: _)
                rw [List.append_assoc]
                congr 1
                omega
              have nx := ihq (d + 1) n row2 best2 (by omega) (by omega) (fun j hj => by rw [g2 j (by omega), upd_n (by omega)]; exact hr1 j hj)
              rw [← est] at nx
              dsimp only
              rw [nI_1]
              exact nx g3
        · have cb' : lft.testBit d = false := by simpa using cb
          rw [if_pos ((bt_c lft d hlft (by omega)).mpr cb')]
          refine skip ?_
          unfold gB
          by_cases c1 : s.testBit d = true
          · rw [if_pos c1]
          · rw [if_neg c1]
            have hbd := hbits d (by omega)
            rw [cb'] at hbd
            rw [show dn b r t out ris late need d f = none from if_neg (fun z => by
              have c1' : s.testBit d = false := by simpa using c1
              rw [decide_eq_true z.1, z.2.1, c1'] at hbd; cases hbd)]; rfl
    have start := loop 6 0 FU row best1 (by omega) (by rw [FU_v]; omega) (fun _ _ => rfl)
    have ez : shf ln pre (fo (gB (dn b r t out ris late need) m s f) (0, f, []) 0) = (ln, f, pre) := by show (ln + 0, f, pre ++ []) = _; rw [List.append_nil]; rfl
    rw [ez] at start
    exact start g1
end C
