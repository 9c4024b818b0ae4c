/-! calls that read -/
theorem both {α : Type} {x y : Option α} (h : x = y) (h2 : ∃ r, x = some r) : ∃ r, x = some r ∧ y = some r := by
  obtain ⟨r, hr⟩ := h2
  exact ⟨r, hr, h.symm.trans hr⟩
def RO1 (a b : Nat) (N : Nat → Int32) : Prop := RP a b N ∧ (∀ d, d < b → N d = -9 → N (6 + d) = 0) ∧ (∃ mn, mn ≤ 999 ∧ N 13 = nI mn) ∧ ∃ sh, sh < 32 ∧ N 12 = nI sh
/-- what was told, and NOW, seen from both sides -/
def RV (a b : Nat) (T N : Nat → Int32) (nO nD ck : Int32) (fO fD cr S : Nat → Int32) : Prop := TV a b T ∧ nO = nI a ∧ nD = nI b ∧ VO a T fO ∧ VD b T fD ∧ (∃ kk, ck = nI kk ∧ VN kk N cr) ∧ (∀ j, j < 14 → S j = N j) ∧ RO1 a b N
theorem ne10 : ¬ (1 : Int32) = 0 := by decide
section V
variable {a b : Nat} {T N fO fD cr S : Nat → Int32} {nO nD ck : Int32}
theorem s_oven (h : RV a b T N nO nD ck fO fD cr S) (x1 x2 : Int32) : ∃ r, f_X4_oven nO nD ck cr fO x1 x2 = some r ∧ f_X5_oven T S x1 x2 = some r := by
  obtain ⟨hV, rfl, rfl, hO, hD, ⟨kk, rfl, hN⟩, hS, hR⟩ := h
  have ha := hO.1
  have hb := hD.1
  obtain ⟨sh, hsh, e12⟩ := hR.2.2.2
  unfold f_X4_oven f_X5_oven
  rcases isN_dec a x1 with ⟨o, ho, rfl⟩ | q
  · rw [c_hasO_y ha ho, m_hasO_y hV.2.2.1 ha ho, Option.bind_some, Option.bind_some, if_neg ne10, if_neg ne10, ofO0 hO ho, ofO1 hO ho, c_placedAt hN hb, c_hot hN hO hb ho, c_isShut hN hsh e12 (by omega), m_where hV.2.2.2.1 hS hb, m_hot hV.2.2.2.1 hS hb (by omega), m_isShut hsh ((hS 12 (by omega)).trans e12) (by omega)]
    simp (disch := omega) only [Lan, i_in, ncl, Option.bind_some]
    refine both rfl ?_
    repeat' split
    all_goals exact ⟨_, rfl⟩
  · rw [c_hasO_n ha q, m_hasO_n hV.2.2.1 ha q, Option.bind_some, Option.bind_some, if_pos rfl, if_pos rfl]
    exact ⟨_, rfl, rfl⟩
theorem no1 (ha : a ≤ 5) : ∀ o, o < a → ¬ (-1 : Int32) = nI o := fun o ho z => n_nneg (show o < 2147483648 by omega) (by rw [← z]; decide)
theorem no9 (ha : a ≤ 5) : ∀ o, o < a → ¬ (-9 : Int32) = nI o := fun o ho => m9_n' (by omega)
theorem s_smell (h : RV a b T N nO nD ck fO fD cr S) (x1 x2 : Int32) : ∃ r, f_X4_smell nO nD ck fO cr fD x1 x2 = some r ∧ f_X5_smell T S x1 x2 = some r := by
  obtain ⟨hV, rfl, rfl, hO, hD, ⟨kk, rfl, hN⟩, hS, hR⟩ := h
  have ha := hO.1
  have hb := hD.1
  unfold f_X4_smell f_X5_smell
  rcases isN_dec a x1 with ⟨o, ho, rfl⟩ | q
  · rw [c_hasO_y ha ho, m_hasO_y hV.2.2.1 ha ho, Option.bind_some, Option.bind_some, if_neg ne10, if_neg ne10]
    rcases isN_dec b x2 with ⟨d, hd, rfl⟩ | q
    · rw [c_hasD_y hb hd, m_hasD_y hV.2.2.2.1 hb hd, Option.bind_some, Option.bind_some, if_neg ne10, if_neg ne10, c_sml hN hO hD ho hd, m_sml hV.2.2.2.1 hS hb (by omega) hd, smV, if_neg (no1 ha o ho)]
      exact ⟨_, rfl, rfl⟩
    · rw [c_hasD_n hb q, m_hasD_n hV.2.2.2.1 hb q, Option.bind_some, Option.bind_some, if_pos rfl, if_pos rfl]
      exact ⟨_, rfl, rfl⟩
  · rw [c_hasO_n ha q, m_hasO_n hV.2.2.1 ha q, Option.bind_some, Option.bind_some, if_pos rfl, if_pos rfl]
    exact ⟨_, rfl, rfl⟩
theorem s_dough (h : RV a b T N nO nD ck fO fD cr S) (x1 x2 : Int32) : ∃ r, f_X4_dough nO nD ck cr fO fD x1 x2 = some r ∧ f_X5_dough (-9) T S x1 x2 = some r := by
  obtain ⟨hV, rfl, rfl, hO, hD, ⟨kk, rfl, hN⟩, hS, hR⟩ := h
  have ha := hO.1
  have hb := hD.1
  obtain ⟨sh, hsh, e12⟩ := hR.2.2.2
  unfold f_X4_dough f_X5_dough
  rcases isN_dec b x1 with ⟨d, hd, rfl⟩ | q
  · rw [c_hasD_y hb hd, m_hasD_y hV.2.2.2.1 hb hd, Option.bind_some, Option.bind_some, if_neg ne10, if_neg ne10, ofD0 hD hd, ofD1 hD hd, ofD2 hD hd, ofD3 hD hd, ofD4 hD hd, c_place hN (by omega), c_baked hN (by omega), c_isOut hN (by omega), m_isOut hS (by omega), c_nose hN hO hD hV hsh e12 hd, hS 12 (by omega), e12, m_nose hV hS (by omega) hd, nose_no (no1 ha) (no9 ha)]
    simp (maxSteps := 2000000) (disch := omega) only [Lan, i_in, ncl, Option.bind_some]
    rw [hS d (by omega), show S ((6 : Nat) + d) = N (6 + d) from hS (6 + d) (by omega)]
    refine both rfl ?_
    repeat' split
    all_goals exact ⟨_, rfl⟩
  · rw [c_hasD_n hb q, m_hasD_n hV.2.2.2.1 hb q, Option.bind_some, Option.bind_some, if_pos rfl, if_pos rfl]
    exact ⟨_, rfl, rfl⟩
theorem s_fire (h : RV a b T N nO nD ck fO fD cr S) (x1 x2 : Int32) : ∃ r, f_X4_fire nD fD x1 x2 = some r ∧ f_X5_fire T x1 x2 = some r := by
  obtain ⟨hV, rfl, rfl, hO, hD, ⟨kk, rfl, hN⟩, hS, hR⟩ := h
  have hb := hD.1
  unfold f_X4_fire f_X5_fire
  rcases isN_dec b x1 with ⟨d, hd, rfl⟩ | q
  · rw [c_hasD_y hb hd, m_hasD_y hV.2.2.2.1 hb hd, Option.bind_some, Option.bind_some, if_neg ne10, if_neg ne10]
    by_cases c1 : x2 < 1
    · rw [if_pos c1, in_0 (Or.inl c1), Option.bind_some, if_pos rfl]; exact ⟨_, rfl, rfl⟩
    · rw [if_neg c1]
      by_cases c2 : x2 ≤ 99
      · have c3 : ¬ (99 : Int32) < x2 := fun z => by rw [t_lt] at z; rw [t_le] at c2; omega
        have c4 : ¬ x2 ≤ 0 := fun z => c1 (by rw [t_lt]; rw [t_le] at z; have : (0 : Int32).toInt = 0 := by decide
                                              have : (1 : Int32).toInt = 1 := by decide
                                              omega)
        have c5 : ¬ x2 = 0 := fun z => c4 (by rw [z]; decide)
        rw [if_pos c2, in_1 c1 c3, Option.bind_some, if_neg ne10, ofD2 hD hd, Option.bind_some]
        simp (disch := omega) only [Lan, i_in, ncl]
        unfold f_X4_dividedUp
        rw [if_neg c4, if_pos c5, Option.bind_some, if_neg (show ¬ (9 : Int32) ≤ 0 by decide), if_pos (show ¬ (9 : Int32) = 0 by decide), Option.bind_some, if_pos c5]
        refine ⟨_, rfl, ?_⟩
        have e : ∀ z : Int32, z * 10 + 9 - 1 = 10 * z + 8 := fun z => by grind
        rw [e]
      · have c3 : (99 : Int32) < x2 := by rw [t_lt]; rw [t_le] at c2; omega
        rw [if_neg c2, in_0 (Or.inr c3), Option.bind_some, if_pos rfl]; exact ⟨_, rfl, rfl⟩
  · rw [c_hasD_n hb q, m_hasD_n hV.2.2.2.1 hb q, Option.bind_some, Option.bind_some, if_pos rfl, if_pos rfl]
    exact ⟨_, rfl, rfl⟩
theorem l_add (t : Int64) : t + LC_10 + 1 = t + LC_11 ∧ t + LC_100 + 1 = t + LC_101 ∧ t + LC_1000 + LC_10 + 1 = t + LC_1011 ∧ t + LC_10000 + LC_100 + 1 = t + LC_10101 ∧ t + LC_100000 + 1 = t + LC_100001 := by
  unfold LC_10 LC_11 LC_100 LC_101 LC_1000 LC_1011 LC_10000 LC_10101 LC_100000 LC_100001
  refine ⟨by grind, by grind, by grind, by grind, by grind⟩
theorem s_mark (h : RV a b T N nO nD ck fO fD cr S) (tr : Int64) (x1 x2 : Int32) : ∃ r, f_X4_mark nD ck fD cr tr x1 x2 = some r ∧ f_X5_mark T S tr x1 x2 = some r := by
  obtain ⟨hV, rfl, rfl, hO, hD, ⟨kk, rfl, hN⟩, hS, hR⟩ := h
  have hb := hD.1
  unfold f_X4_mark f_X5_mark
  by_cases hx : isN 6 x1
  · obtain ⟨k, hk, rfl⟩ := hx
    rw [in_1 (n_nneg (by omega)) (by rw [show (5 : Int32) = nI 5 from rfl, nlt (by omega) (by omega)]; omega), Option.bind_some, if_neg ne10]
    rcases isN_dec b x2 with ⟨d, hd, rfl⟩ | q
    · rw [c_hasD_y hb hd, m_hasD_y hV.2.2.2.1 hb hd, Option.bind_some, Option.bind_some, if_neg ne10, if_neg ne10]
      unfold f_X4_asWidow f_X4_asHerring f_X4_asSniff f_X4_asBride f_X4_asCake f_X4_asDough f_X5_mark_80
      rw [ofD0 hD hd, ofD1 hD hd, c_baked hN (by omega), c_minute hN]
      simp (maxSteps := 2000000) (disch := omega) only [Lan, i_in, ncl, Option.bind_some]
      rw [show S ((6 : Nat) + d) = N (6 + d) from hS (6 + d) (by omega), hS 13 (by omega), (l_add tr).1, (l_add tr).2.1, (l_add tr).2.2.1, (l_add tr).2.2.2.1, (l_add tr).2.2.2.2]
      have e2 : ∀ z : Int32, z * 2 = 2 * z := fun z => by grind
      rw [e2]
      have hk2 : k = 0 ∨ k = 1 ∨ k = 2 ∨ k = 3 ∨ k = 4 ∨ k = 5 := by omega
      rcases hk2 with rfl | rfl | rfl | rfl | rfl | rfl
      all_goals
        simp (disch := omega) only [i_eqL, i_neL]
        exact ⟨_, rfl, rfl⟩
    · rw [c_hasD_n hb q, m_hasD_n hV.2.2.2.1 hb q, Option.bind_some, Option.bind_some, if_pos rfl, if_pos rfl]
      exact ⟨_, rfl, rfl⟩
  · rw [in_0 (show x1 < 0 ∨ (5 : Int32) < x1 by
      rcases notN hx with q | ⟨n, h1, h2, rfl⟩
      · exact Or.inl q
      · right; rw [show (5 : Int32) = nI 5 from rfl, nlt (by omega) h1]; omega), Option.bind_some, if_pos rfl]
    rcases isN_dec b x2 with ⟨d, hd, rfl⟩ | q
    · rw [c_hasD_y hb hd, Option.bind_some, if_neg ne10, if_neg (show ¬ x1 = 0 from fun z => hx ⟨0, by omega, z⟩), if_neg (show ¬ x1 = 1 from fun z => hx ⟨1, by omega, z⟩), if_neg (show ¬ x1 = 2 from fun z => hx ⟨2, by omega, z⟩), if_neg (show ¬ x1 = 3 from fun z => hx ⟨3, by omega, z⟩), if_neg (show ¬ x1 = 4 from fun z => hx ⟨4, by omega, z⟩), if_neg (show ¬ x1 = 5 from fun z => hx ⟨5, by omega, z⟩)]
      exact ⟨_, rfl, rfl⟩
    · rw [c_hasD_n hb q, Option.bind_some, if_pos rfl]
      exact ⟨_, rfl, rfl⟩
/-! now: out and gone sour -/
def gs (T N : Nat → Int32) : Nat → Int32
  | 0 => 0
  | d + 1 => if N d = -9 ∧ ¬ N 13 ≤ T (37 + d) then gs T N d ||| ((1 : Int32) <<< (nI d &&& 31)) else gs T N d
theorem c_gs {kk : Nat} (hN : VN kk N cr) (hD : VD b T fD) : ∀ (m d fuel : Nat), d + m = b → m < fuel → f_X4_outAndGoneSour_4 (nI b) (nI kk) cr fD fuel (gs T N d) (nI d) = some (gs T N b) := by
  have hb := hD.1
  intro m
  induction m with
  | zero =>
    intro d fuel hd hf
    obtain ⟨n, rfl⟩ : ∃ n, fuel = n + 1 := ⟨fuel - 1, by omega⟩
    rw [f_X4_outAndGoneSour_4, f_X3_doughs, Option.bind_some, i_le (by omega) (by omega), show d = b by omega]
  | succ m ih =>
    intro d fuel hd hf
    obtain ⟨n, rfl⟩ : ∃ n, fuel = n + 1 := ⟨fuel - 1, by omega⟩
    have h2 := ih (d + 1) n (by omega) (by omega)
    rw [f_X4_outAndGoneSour_4, f_X3_doughs, Option.bind_some, i_nle (by omega) (by omega), c_isOut hN (by omega), Option.bind_some, c_minute hN, Option.bind_some, ofD4 hD (by omega), Option.bind_some, nI_1]
    by_cases c : N d = -9
    · rw [if_pos c, if_neg ne10]
      by_cases c2 : N 13 ≤ T (37 + d)
      · rw [if_pos c2]; rw [gs, if_neg (fun z => z.2 c2)] at h2; exact h2
      · rw [if_neg c2]; rw [gs, if_pos ⟨c, c2⟩] at h2; exact h2
    · rw [if_neg c, if_pos rfl]; rw [gs, if_neg (fun z => c z.1)] at h2; exact h2
theorem s_now (h : RV a b T N nO nD ck fO fD cr S) (x : Int32) : ∃ r, f_X4_now ck nD cr fD x = some r ∧ f_X5_now T S x = some r := by
  obtain ⟨hV, rfl, rfl, hO, hD, ⟨kk, rfl, hN⟩, hS, hR⟩ := h
  have hb := hD.1
  have hT1 := hV.2.2.2.1
  have hm : ∀ (m d fuel : Nat), d + m = b → m < fuel → f_X5_now_4 T S fuel x (gs T N d) (nI d) = (if x = 0 then some (N 13) else if x = 1 then some (wb N (-9) b) else if x = 2 then some (wb N (-5) b) else if x = 3 then some (gs T N b) else if x = 4 then some (N 12) else some (-1)) := by
    intro m
    induction m with
    | zero =>
      intro d fuel hd hf
      obtain ⟨n, rfl⟩ : ∃ n, fuel = n + 1 := ⟨fuel - 1, by omega⟩
      rw [f_X5_now_4, hT1, i_le (by omega) (by omega), show d = b by omega, m_where hT1 hS hb, m_where hT1 hS hb, Option.bind_some, Option.bind_some, hS 13 (by omega), hS 12 (by omega)]
    | succ m ih =>
      intro d fuel hd hf
      obtain ⟨n, rfl⟩ : ∃ n, fuel = n + 1 := ⟨fuel - 1, by omega⟩
      have h2 := ih (d + 1) n (by omega) (by omega)
      rw [f_X5_now_4, hT1, i_nle (by omega) (by omega), m_isOut hS (by omega), Option.bind_some]
      simp (disch := omega) only [Lan, i_in, ncl]
      rw [hS 13 (by omega), show T ((37 : Nat) + d) = T (37 + d) from rfl]
      by_cases c : N d = -9
      · rw [if_pos c, if_neg ne10]
        by_cases c2 : N 13 ≤ T (37 + d)
        · rw [if_pos c2, f_X5_now_48, f_X5_now_49, or_0, nI_1]; rw [gs, if_neg (fun z => z.2 c2)] at h2; exact h2
        · rw [if_neg c2, f_X5_now_49, nI_1]; rw [gs, if_pos ⟨c, c2⟩] at h2; exact h2
      · rw [if_neg c, if_pos rfl, f_X5_now_48, f_X5_now_49, or_0, nI_1]; rw [gs, if_neg (fun z => c z.1)] at h2; exact h2
  have hm2 := hm b 0 FU (by omega) (by rw [FU_v]; omega)
  unfold f_X4_now f_X5_now f_X4_outAndGoneSour
  rw [c_minute hN, c_placedAt hN hb, c_placedAt hN hb, c_shutB hN, show f_X4_outAndGoneSour_4 (nI b) (nI kk) cr fD FU 0 0 = some (gs T N b) from c_gs hN hD b 0 FU (by omega) (by rw [FU_v]; omega)]
  simp only [Option.bind_some]
  refine both hm2.symm ?_
  repeat' split
  all_goals exact ⟨_, rfl⟩
/-! moved -/
theorem sh_or : ∀ sh o p : Nat, (sh ||| 2 ^ o).testBit p = (sh.testBit p || decide (p = o)) := fun sh o p => by
  rw [Nat.testBit_or, Nat.testBit_two_pow]
  congr 1
  by_cases e : o = p <;> simp [e, eq_comm]
theorem moved_iff {σ : Nat → Int32} {sh n o : Nat} (hn : n ≤ 5) (hσ : ∀ o, o < n → (-1000000 : Int32) < σ o) (ho : o < n) (hop : opn sh o = true) : nose σ (opn sh) n = nI o ↔ ¬ nose σ (opn sh) n = nose σ (opn (sh ||| 2 ^ o)) n := by
  have hop2 : ∀ p, opn (sh ||| 2 ^ o) p = (opn sh p && !decide (p = o)) := fun p => by
    unfold opn; rw [sh_or]; cases sh.testBit p <;> simp
  constructor
  · intro h e
    have := (nose_iff hn hσ (show o < 2147483648 by omega)).mp (e.symm.trans h)
    have q := this.2.1
    rw [hop2 o] at q
    simp at q
  · intro h
    rcases nose_cases (op := opn sh) hn hσ with ⟨h1, h2⟩ | ⟨p, h1, h2⟩
    · rw [h2 o ho] at hop; cases hop
    · by_cases e : p = o
      · rw [h1, e]
      · exfalso
        apply h
        rw [h1, (nose_iff hn hσ (show p < 2147483648 by have := h2.1; omega)).mpr]
        refine ⟨h2.1, by rw [hop2, h2.2.1]; simp [e], fun q hq hoq hne => h2.2.2 q hq ?_ hne⟩
        rw [hop2] at hoq
        cases hz : opn sh q
        · rw [hz] at hoq; cases hoq
        · rfl
theorem sg_bd (hV : TV a b T) (van : Int32) {d : Nat} (hd : d < b) : ∀ o, o < a → (-1000000 : Int32) < smV T N b van d o := fun o ho => by
  rw [t_lt, show (-1000000 : Int32).toInt = -1000000 from by decide]; have := (smV_bd (N := N) hV van ho hd).1; omega
def mvB (T N : Nat → Int32) (a b sh o : Nat) : Nat → Int32
  | 0 => 0
  | d + 1 => if N d = -9 ∧ nose (smV T N b (-9) d) (opn sh) a = nI o then mvB T N a b sh o d ||| ((1 : Int32) <<< (nI d &&& 31)) else mvB T N a b sh o d
theorem s_moved (h : RV a b T N nO nD ck fO fD cr S) (x : Int32) : ∃ r, f_X4_moved nO nD ck cr fO fD x = some r ∧ f_X5_moved (-9) T S x = some r := by
  obtain ⟨hV, rfl, rfl, hO, hD, ⟨kk, rfl, hN⟩, hS, hR⟩ := h
  have ha := hO.1
  have hb := hD.1
  have hT1 := hV.2.2.2.1
  obtain ⟨sh, hsh, e12⟩ := hR.2.2.2
  unfold f_X4_moved f_X5_moved
  rcases isN_dec a x with ⟨o, ho, rfl⟩ | q
  · rw [c_hasO_y ha ho, m_hasO_y hV.2.2.1 ha ho, Option.bind_some, Option.bind_some, if_neg ne10, if_neg ne10, c_isShut hN hsh e12 (by omega), m_isShut hsh ((hS 12 (by omega)).trans e12) (by omega), Option.bind_some, Option.bind_some]
    by_cases c : sh.testBit o = true
    · rw [if_pos c, if_neg ne10, if_neg ne10]; exact ⟨_, rfl, rfl⟩
    · rw [if_neg c, if_pos rfl, if_pos rfl]
      have hop : opn sh o = true := by simpa [opn] using c
      have hc : ∀ (m d fuel : Nat), d + m = b → m < fuel → f_X4_moved_31 (nI a) (nI b) (nI kk) cr fO fD fuel (nI o) (mvB T N a b sh o d) (nI d) = some (mvB T N a b sh o b) := by
        intro m
        induction m with
        | zero =>
          intro d fuel hd hf
          obtain ⟨n, rfl⟩ : ∃ n, fuel = n + 1 := ⟨fuel - 1, by omega⟩
          rw [f_X4_moved_31, f_X3_doughs, Option.bind_some, i_le (by omega) (by omega), show d = b by omega]
        | succ m ih =>
          intro d fuel hd hf
          obtain ⟨n, rfl⟩ : ∃ n, fuel = n + 1 := ⟨fuel - 1, by omega⟩
          have h2 := ih (d + 1) n (by omega) (by omega)
          rw [f_X4_moved_31, f_X3_doughs, Option.bind_some, i_nle (by omega) (by omega), c_isOut hN (by omega), Option.bind_some, c_nose hN hO hD hV hsh e12 (by omega), Option.bind_some, nose_no (no1 ha) (no9 ha), nI_1]
          by_cases c9 : N d = -9
          · rw [if_pos c9, if_neg ne10]
            by_cases c2 : nose (smV T N b (-9) d) (opn sh) a = nI o
            · rw [if_pos c2]; rw [mvB, if_pos ⟨c9, c2⟩] at h2; exact h2
            · rw [if_neg c2]; rw [mvB, if_neg (fun z => c2 z.2)] at h2; exact h2
          · rw [if_neg c9, if_pos rfl]; rw [mvB, if_neg (fun z => c9 z.1)] at h2; exact h2
      have hm : ∀ (m d fuel : Nat), d + m = b → m < fuel → f_X5_moved_25 (-9) T S fuel (nI o) (mvB T N a b sh o d) (nI d) = some (mvB T N a b sh o b) := by
        intro m
        induction m with
        | zero =>
          intro d fuel hd hf
          obtain ⟨n, rfl⟩ : ∃ n, fuel = n + 1 := ⟨fuel - 1, by omega⟩
          rw [f_X5_moved_25, hT1, i_le (by omega) (by omega), show d = b by omega]
        | succ m ih =>
          intro d fuel hd hf
          obtain ⟨n, rfl⟩ : ∃ n, fuel = n + 1 := ⟨fuel - 1, by omega⟩
          have h2 := ih (d + 1) n (by omega) (by omega)
          have hor : sh ||| 2 ^ o < 64 := Nat.or_lt_two_pow (n := 6) (by omega) (Nat.pow_lt_pow_right (by decide) (by omega))
          rw [f_X5_moved_25, hT1, i_nle (by omega) (by omega), m_isOut hS (by omega), Option.bind_some, hS 12 (by omega), e12, bit_n o (by omega), n_or, m_nose hV hS (by omega) (by omega), Option.bind_some, m_nose hV hS hor (by omega), Option.bind_some]
          have key := moved_iff (σ := smV T N b (-9) d) (sh := sh) (n := a) (o := o) ha (sg_bd hV (-9) (by omega)) ho hop
          by_cases c9 : N d = -9
          · rw [if_pos c9, if_neg ne10]
            by_cases c2 : nose (smV T N b (-9) d) (opn sh) a = nose (smV T N b (-9) d) (opn (sh ||| 2 ^ o)) a
            · rw [if_pos c2, f_X5_moved_81, f_X5_moved_82, or_0, nI_1]; rw [mvB, if_neg (fun z => key.mp z.2 c2)] at h2; exact h2
            · rw [if_neg c2, f_X5_moved_82, nI_1]; rw [mvB, if_pos ⟨c9, key.mpr c2⟩] at h2; exact h2
          · rw [if_neg c9, if_pos rfl, f_X5_moved_81, f_X5_moved_82, or_0, nI_1]; rw [mvB, if_neg (fun z => c9 z.1)] at h2; exact h2
      exact ⟨_, hc b 0 FU (by omega) (by rw [FU_v]; omega), hm b 0 FU (by omega) (by rw [FU_v]; omega)⟩
  · rw [c_hasO_n ha q, m_hasO_n hV.2.2.1 ha q, Option.bind_some, Option.bind_some, if_pos rfl, if_pos rfl]
    exact ⟨_, rfl, rfl⟩
end V
