/-! odds: both sides -/
theorem Lsn {k n : Nat} (h : k ≤ (OfNat.ofNat n : Nat)) : (no_index (OfNat.ofNat n : Int32)) - nI k = nI ((OfNat.ofNat n : Nat) - k) := pk_sub h
theorem pr_below (sh : Nat) : ∀ n, pr_ (fun k => if sh.testBit k then 1 else 10) n ≤ 10 ^ n ∧ 0 < pr_ (fun k => if sh.testBit k then 1 else 10) n
  | 0 => ⟨Nat.le_refl 1, Nat.zero_lt_one⟩
  | n + 1 => by
    obtain ⟨h1, h2⟩ := pr_below sh n
    rw [pr_, Nat.pow_succ]
    by_cases c : sh.testBit n = true
    · simp only [c, if_true]; omega
    · simp only [c]; constructor
      · exact Nat.mul_le_mul_right 10 h1
      · exact Nat.mul_pos h2 (by decide)
section V
variable {a b kk : Nat} {T N fO fD cr S : Nat → Int32}
theorem c_riv (h : VN kk N cr) (hO : VO a T fO) (hD : VD b T fD) {sh d o : Nat} (hsh : sh < 32) (e12 : N 12 = nI sh) (hd : d < b) (ho : o < a) : f_X4_rivalsOf (nI a) (nI b) (nI kk) fO cr fD (nI o) (nI d) = some (nI (cn_ (rv (smV T N b (-9) d) sh o) a)) := by
  have ha := hO.1
  have hsg : ∀ k, k < a → smV T N b (-1) d k = smV T N b (-9) d k := smV_no (no1 ha) (no9 ha)
  unfold f_X4_rivalsOf
  rw [c_sml h hO hD ho hd, Option.bind_some, hsg o ho]
  have key : ∀ (m k fuel : Nat), k + m = a → m < fuel → f_X4_rivalsOf_14 (nI a) (nI b) (nI kk) fO cr fD fuel (nI o) (nI d) (smV T N b (-9) d o) (nI (cn_ (rv (smV T N b (-9) d) sh o) k)) (nI k) = some (nI (cn_ (rv (smV T N b (-9) d) sh o) a)) := by
    intro m
    induction m with
    | zero =>
      intro k fuel hm hf
      obtain ⟨n, rfl⟩ : ∃ n, fuel = n + 1 := ⟨fuel - 1, by omega⟩
      rw [f_X4_rivalsOf_14, f_X3_ovens, Option.bind_some, i_le (by omega) (by omega), show k = a by omega]
    | succ m ih =>
      intro k fuel hm hf
      obtain ⟨n, rfl⟩ : ∃ n, fuel = n + 1 := ⟨fuel - 1, by omega⟩
      have g := ih (k + 1) n (by omega) (by omega)
      rw [f_X4_rivalsOf_14, f_X3_ovens, Option.bind_some, i_nle (by omega) (by omega), c_isShut h hsh e12 (by omega), Option.bind_some, c_sml h hO hD (by omega) hd, Option.bind_some, hsg k (by omega), nI_1, nI_1]
      have yes : (¬ k = o ∧ sh.testBit k = false ∧ (smV T N b (-9) d o < smV T N b (-9) d k ∨ (smV T N b (-9) d k = smV T N b (-9) d o ∧ k < o))) → cn_ (rv (smV T N b (-9) d) sh o) (k + 1) = cn_ (rv (smV T N b (-9) d) sh o) k + 1 := fun z => by
        rw [cn_, show rv (smV T N b (-9) d) sh o k = true from decide_eq_true z, if_pos rfl]
      have no : ¬ (¬ k = o ∧ sh.testBit k = false ∧ (smV T N b (-9) d o < smV T N b (-9) d k ∨ (smV T N b (-9) d k = smV T N b (-9) d o ∧ k < o))) → cn_ (rv (smV T N b (-9) d) sh o) (k + 1) = cn_ (rv (smV T N b (-9) d) sh o) k := fun z => by
        rw [cn_, show rv (smV T N b (-9) d) sh o k = false from decide_eq_false z, if_neg (by decide)]
      by_cases e : k = o
      · rw [i_eq e]; rw [no (fun z => z.1 e)] at g; exact g
      · rw [i_ne e (by omega) (by omega)]
        by_cases q : sh.testBit k = true
        · rw [if_pos q, if_neg ne10]; rw [no (fun z => by rw [q] at z; cases z.2.1)] at g; exact g
        · have q' : sh.testBit k = false := by simpa using q
          rw [if_neg q, if_pos rfl]
          by_cases c1 : smV T N b (-9) d o < smV T N b (-9) d k
          · rw [if_pos c1]; rw [yes ⟨e, q', Or.inl c1⟩] at g; exact g
          · rw [if_neg c1]
            by_cases c2 : smV T N b (-9) d k = smV T N b (-9) d o
            · rw [if_pos c2]
              by_cases c3 : k < o
              · rw [i_nle (by omega) (by omega)]; rw [yes ⟨e, q', Or.inr ⟨c2, c3⟩⟩] at g; exact g
              · rw [i_le (by omega) (by omega)]; rw [no (fun z => z.2.2.elim c1 (fun w => c3 w.2))] at g; exact g
            · rw [if_neg c2]; rw [no (fun z => z.2.2.elim c1 (fun w => c2 w.1))] at g; exact g
  exact key a 0 FU (by omega) (by rw [FU_v]; omega)
theorem c_odds_91 (p1 p2 p3 : Int32) (q1 q2 q3 : Nat → Int32) (xx : Nat) (x4 : Int32) : ∀ (r fuel u l : Nat), r < fuel → r < 2147483648 → f_X4_odds_91 p1 p2 p3 q1 q2 q3 fuel (nI xx) x4 (nI u) (nI l) (nI r) = (if x4 = 0 then f_X4_odds_127 p1 p2 p3 q1 q2 q3 (nI (u * xx ^ r)) (nI (l * 10 ^ r)) (nI (u * xx ^ r)) else f_X4_odds_127 p1 p2 p3 q1 q2 q3 (nI (u * xx ^ r)) (nI (l * 10 ^ r)) (nI (l * 10 ^ r)))
  | 0, fuel, u, l, hf, hr => by
    obtain ⟨n, rfl⟩ : ∃ n, fuel = n + 1 := ⟨fuel - 1, by omega⟩
    rw [f_X4_odds_91, i_leL (by omega) (by omega), Nat.pow_zero, Nat.pow_zero, Nat.mul_one, Nat.mul_one]
  | r + 1, fuel, u, l, hf, hr => by
    obtain ⟨n, rfl⟩ : ∃ n, fuel = n + 1 := ⟨fuel - 1, by omega⟩
    rw [f_X4_odds_91, i_nleL (by omega) (by omega), pk_mul, nmL, pk_m1]
    have g := c_odds_91 p1 p2 p3 q1 q2 q3 xx x4 r n (u * xx) (l * 10) (by omega) (by omega)
    have e1 : u * xx * xx ^ r = u * xx ^ (r + 1) := by rw [Nat.pow_succ, Nat.mul_assoc, Nat.mul_comm xx]
    have e2 : l * 10 * 10 ^ r = l * 10 ^ (r + 1) := by rw [Nat.pow_succ, Nat.mul_assoc, Nat.mul_comm 10]
    rw [e1, e2] at g
    exact g
theorem c_odds_127 (p1 p2 p3 : Int32) (q1 q2 q3 : Nat → Int32) {u l k : Nat} (hu : u ≤ 100000) (hl : l ≤ 100000) (hl0 : 0 < l) (hk : k ≤ 100000) : f_X4_odds_127 p1 p2 p3 q1 q2 q3 (nI u) (nI l) (nI k) = some (nI (k / Nat.gcd l u)) := by
  unfold f_X4_odds_127 f_X4_commonDivisor
  have g := c_gcd 17 l u 0 FU (by omega) (by omega) (by omega) (by omega) (by rw [FU_v]; omega)
  have gp : 0 < Nat.gcd l u := Nat.gcd_pos_of_pos_left u hl0
  have gl : Nat.gcd l u ≤ l := Nat.le_of_dvd hl0 (Nat.gcd_dvd_left l u)
  rw [show f_X4_commonDivisor_7 FU (nI l) (nI u) 0 = some (nI (Nat.gcd l u)) from g, Option.bind_some, i_nleL (by omega) (by omega), if_pos (n_ne0 (by omega) (by omega)), pk_div (by omega) gp (by omega)]
theorem m_odds_58 (hV : TV a b T) {sh : Nat} (hsh : sh < 32) (e12 : S 12 = nI sh) (van x1 x2 x3 x4 x5 : Int32) : ∀ (m k fuel : Nat), k + m = a → m < fuel → f_X5_odds_58 van T S fuel x1 x2 x3 x4 x5 (nI (pr_ (fun k => if sh.testBit k then 1 else 10) k)) (nI k) = f_X5_odds_98 van T S FU x1 x2 x3 x4 x5 (nI (pr_ (fun k => if sh.testBit k then 1 else 10) a)) 0 := by
  have ha := hV.1
  intro m
  induction m with
  | zero =>
    intro k fuel hm hf
    obtain ⟨n, rfl⟩ : ∃ n, fuel = n + 1 := ⟨fuel - 1, by omega⟩
    rw [f_X5_odds_58, hV.2.2.1, i_le (by omega) (by omega), show k = a by omega]
  | succ m ih =>
    intro k fuel hm hf
    obtain ⟨n, rfl⟩ : ∃ n, fuel = n + 1 := ⟨fuel - 1, by omega⟩
    have g := ih (k + 1) n (by omega) (by omega)
    rw [pr_] at g
    rw [f_X5_odds_58, hV.2.2.1, i_nle (by omega) (by omega), m_isShut hsh e12 (by omega), Option.bind_some]
    unfold f_X5_odds_86
    rw [nmL, nmL, nI_1]
    by_cases c : sh.testBit k = true
    · rw [if_pos c, if_neg ne10]
      simp only [c, if_true] at g; exact g
    · rw [if_neg c, if_pos rfl]
      have c' : sh.testBit k = false := by simpa using c
      simp only [c', Bool.false_eq_true, if_false] at g; exact g
theorem m_odds_130 (hV : TV a b T) (hS : ∀ j, j < 14 → S j = N j) {sh d o xx s : Nat} (hsh : sh < 32) (e12 : N 12 = nI sh) (hd : d < b) (hx : xx ≤ 10) (hs : s < 32) (K : Int32 → Int32 → Int32 → Int32 → Int32 → Int32 → Int32 → Option Int32) (x4 x5 x6 : Int32) : ∀ (m k fuel : Nat), k + m = a → m < fuel → f_X5_odds_130 (-9) T S K fuel (nI d) (nI o) (nI xx) x4 x5 x6 (nI s) (nI (pr_ (wt sh xx s) k)) (nI k) = K (nI d) (nI o) (nI xx) x4 (x5 + nI (if nose (smV T N b (-9) d) (opn (sh ||| s)) a = nI o then pr_ (wt sh xx s) a else 0)) x6 (nI (s + 1)) := by
  have ha := hV.1
  intro m
  induction m with
  | zero =>
    intro k fuel hm hf
    obtain ⟨n, rfl⟩ : ∃ n, fuel = n + 1 := ⟨fuel - 1, by omega⟩
    have hor : sh ||| s < 64 := Nat.or_lt_two_pow (n := 6) (by omega) (by omega)
    rw [f_X5_odds_130, hV.2.2.1, i_le (by omega) (by omega), hS 12 (by omega), e12, n_or, m_nose hV hS hor hd, Option.bind_some, show k = a by omega]
    unfold f_X5_odds_211
    rw [nI_1]
    by_cases c : nose (smV T N b (-9) d) (opn (sh ||| s)) a = nI o
    · rw [if_pos c, if_pos c]
    · rw [if_neg c, if_neg c]; rfl
  | succ m ih =>
    intro k fuel hm hf
    obtain ⟨n, rfl⟩ : ∃ n, fuel = n + 1 := ⟨fuel - 1, by omega⟩
    have g := ih (k + 1) n (by omega) (by omega)
    rw [pr_] at g
    rw [f_X5_odds_130, hV.2.2.1, i_nle (by omega) (by omega), m_isShut hsh ((hS 12 (by omega)).trans e12) (by omega), Option.bind_some, sh_m s k (by omega) (by omega), Lsn (by omega)]
    unfold f_X5_odds_175
    rw [pk_mul, pk_mul, nmL, nI_1]
    by_cases c : sh.testBit k = true
    · rw [if_pos c, if_neg ne10]
      rw [show wt sh xx s k = 1 from by unfold wt; rw [if_pos c]] at g; exact g
    · rw [if_neg c, if_pos rfl]
      by_cases c2 : s.testBit k = true
      · rw [if_pos c2, if_pos rfl]
        rw [show wt sh xx s k = xx from by unfold wt; rw [if_neg c, if_pos c2]] at g; exact g
      · rw [if_neg c2, if_neg (show ¬ (0 : Int32) = 1 by decide)]
        rw [show wt sh xx s k = 10 - xx from by unfold wt; rw [if_neg c, if_neg c2]] at g; exact g
theorem m_odds_98 (hV : TV a b T) (hS : ∀ j, j < 14 → S j = N j) {sh d o xx : Nat} (hsh : sh < 32) (e12 : N 12 = nI sh) (hd : d < b) (hx : xx ≤ 10) (x4 x6 : Int32) : ∀ (m s fuel : Nat), s + m = 2 ^ a → m < fuel → f_X5_odds_98 (-9) T S fuel (nI d) (nI o) (nI xx) x4 (nI (sm_ (tm (smV T N b (-9) d) a sh o xx) s)) x6 (nI s) = f_X5_odds_228 (-9) T S FU x4 (nI (sm_ (tm (smV T N b (-9) d) a sh o xx) (2 ^ a))) x6 (nI (sm_ (tm (smV T N b (-9) d) a sh o xx) (2 ^ a))) x6 := by
  have ha := hV.1
  have h32 : 2 ^ a ≤ 32 := Nat.pow_le_pow_right (by decide) ha
  intro m
  induction m with
  | zero =>
    intro s fuel hm hf
    obtain ⟨n, rfl⟩ : ∃ n, fuel = n + 1 := ⟨fuel - 1, by omega⟩
    rw [f_X5_odds_98, hV.2.2.1, bit_n a (by omega), i_le (by omega) (by omega), show s = 2 ^ a by omega]
  | succ m ih =>
    intro s fuel hm hf
    obtain ⟨n, rfl⟩ : ∃ n, fuel = n + 1 := ⟨fuel - 1, by omega⟩
    have g := ih (s + 1) n (by omega) (by omega)
    rw [sm_] at g
    rw [f_X5_odds_98, hV.2.2.1, bit_n a (by omega), i_nle (by omega) (by omega), hS 12 (by omega), e12, n_and]
    have hand : s &&& sh < 64 := Nat.lt_of_le_of_lt Nat.and_le_left (by omega)
    by_cases c : s &&& sh = 0
    · rw [c, if_pos (show nI 0 = 0 from rfl)]
      have g2 := m_odds_130 (o := o) hV hS hsh e12 hd hx (show s < 32 by omega) (f_X5_odds_98 (-9) T S n) x4 (nI (sm_ (tm (smV T N b (-9) d) a sh o xx) s)) x6 a 0 FU (by omega) (by rw [FU_v]; omega)
      refine Eq.trans g2 ?_
      rw [nI_add]
      rw [show tm (smV T N b (-9) d) a sh o xx s = (if nose (smV T N b (-9) d) (opn (sh ||| s)) a = nI o then pr_ (wt sh xx s) a else 0) from by unfold tm; rw [if_pos c]] at g
      exact g
    · rw [if_neg (n_ne0 c (by omega)), nI_1]
      rw [show tm (smV T N b (-9) d) a sh o xx s = 0 from by unfold tm; rw [if_neg c], Nat.add_zero] at g
      exact g
theorem s_odds {nO nD ck : Int32} (h : RV a b T N nO nD ck fO fD cr S) (x1 x2 x3 x4 : Int32) : ∃ r, f_X4_odds nO nD ck cr fO fD x1 x2 x3 x4 = some r ∧ f_X5_odds (-9) T S x1 x2 x3 x4 = some r := by
  obtain ⟨hV, rfl, rfl, hO, hD, ⟨kk, rfl, hN⟩, hS, hR⟩ := h
  have ha := hO.1
  have hb := hD.1
  obtain ⟨sh, hsh, e12⟩ := hR.2.2.2
  unfold f_X4_odds f_X5_odds
  rcases isN_dec b x1 with ⟨d, hd, rfl⟩ | q
  · rw [c_hasD_y hb hd, m_hasD_y hV.2.2.2.1 hb hd, Option.bind_some, Option.bind_some, if_neg ne10, if_neg ne10]
    rcases isN_dec a x2 with ⟨o, ho, rfl⟩ | q
    · rw [c_hasO_y ha ho, m_hasO_y hV.2.2.1 ha ho, Option.bind_some, Option.bind_some, if_neg ne10, if_neg ne10]
      rcases isN_dec 11 x3 with ⟨xx, hxx, rfl⟩ | q
      · rw [if_neg (n_nneg (by omega)), i_nLlt (by omega) (by omega), in_1 (n_nneg (by omega)) (by rw [show (10 : Int32) = nI 10 from rfl, nlt (by omega) (by omega)]; omega), Option.bind_some, if_neg ne10]
        have main : ∀ w : Nat, w < 2 → x4 = nI w → ∃ r, f_X4_odds_47 (nI a) (nI b) (nI kk) cr fO fD (nI d) (nI o) (nI xx) x4 = some r ∧ ((f_X5_isOut S (nI d)).bind fun u_9 => if u_9 = 0 then (some (-2 : Int32)) else (f_X5_odds_58 (-9) T S FU (nI d) (nI o) (nI xx) x4 0 1 0)) = some r := by
          intro w hw e4
          unfold f_X4_odds_47
          rw [c_isOut hN (by omega), m_isOut hS (by omega), Option.bind_some, Option.bind_some]
          by_cases c9 : N d = -9
          · rw [if_pos c9, if_neg ne10, if_neg ne10, c_isShut hN hsh e12 (by omega), Option.bind_some]
            unfold f_X4_odds_77
            rw [c_riv hN hO hD hsh e12 hd ho, Option.bind_some, Lsn (by omega)]
            have hr := rv_le (σ := smV T N b (-9) d) (sh := sh) ho
            obtain ⟨hB1, hB2⟩ := pr_below sh a
            have hB3 : pr_ (fun k => if sh.testBit k then 1 else 10) a ≤ 100000 := Nat.le_trans hB1 (Nat.pow_le_pow_right (n := 10) (by decide) ha)
            have hm : f_X5_odds_58 (-9) T S FU (nI d) (nI o) (nI xx) x4 0 1 0 = f_X5_odds_228 (-9) T S FU x4 (nI (sm_ (tm (smV T N b (-9) d) a sh o xx) (2 ^ a))) (nI (pr_ (fun k => if sh.testBit k then 1 else 10) a)) (nI (sm_ (tm (smV T N b (-9) d) a sh o xx) (2 ^ a))) (nI (pr_ (fun k => if sh.testBit k then 1 else 10) a)) := by
              have h32 : 2 ^ a ≤ 32 := Nat.pow_le_pow_right (by decide) ha
              refine Eq.trans (m_odds_58 hV hsh ((hS 12 (by omega)).trans e12) (-9) (nI d) (nI o) (nI xx) x4 0 a 0 FU (by omega) (by rw [FU_v]; omega)) ?_
              exact m_odds_98 (o := o) hV hS hsh e12 hd (by omega) x4 _ (2 ^ a) 0 FU (by omega) (by rw [FU_v]; omega)
            rw [hm, above_eq ha (sg_bd hV (-9) hd) ho]
            generalize hr' : cn_ (rv (smV T N b (-9) d) sh o) a = r at hr
            have hl5 : 10 * 10 ^ r ≤ 100000 := by
              rw [← Nat.pow_succ']
              exact Nat.pow_le_pow_right (n := 10) (by decide) (show r + 1 ≤ 5 by omega)
            have hl0 : 0 < 10 * 10 ^ r := Nat.mul_pos (by decide) (Nat.pow_pos (by decide))
            have hxr : xx ^ r ≤ 10 ^ r := Nat.pow_le_pow_left (by omega) r
            have fin : ∀ (u A : Nat), u ≤ 10 → A ≤ pr_ (fun k => if sh.testBit k then 1 else 10) a → (∀ k, k = u * xx ^ r ∨ k = 10 * 10 ^ r → True) → (u * xx ^ r) / Nat.gcd (10 * 10 ^ r) (u * xx ^ r) = A / Nat.gcd A (pr_ (fun k => if sh.testBit k then 1 else 10) a) → (10 * 10 ^ r) / Nat.gcd (10 * 10 ^ r) (u * xx ^ r) = pr_ (fun k => if sh.testBit k then 1 else 10) a / Nat.gcd A (pr_ (fun k => if sh.testBit k then 1 else 10) a) → ∃ r', f_X4_odds_91 (nI a) (nI b) (nI kk) cr fO fD FU (nI xx) x4 (nI u) 10 (nI r) = some r' ∧ f_X5_odds_228 (-9) T S FU x4 (nI A) (nI (pr_ (fun k => if sh.testBit k then 1 else 10) a)) (nI A) (nI (pr_ (fun k => if sh.testBit k then 1 else 10) a)) = some r' := by
              intro u A hu hA _ e1 e2
              have hur : u * xx ^ r ≤ 100000 := Nat.le_trans (Nat.mul_le_mul hu hxr) hl5
              rw [show f_X4_odds_91 (nI a) (nI b) (nI kk) cr fO fD FU (nI xx) x4 (nI u) 10 (nI r) = _ from c_odds_91 (nI a) (nI b) (nI kk) cr fO fD xx x4 r FU u 10 (by rw [FU_v]; omega) (by omega), c_odds_127 _ _ _ _ _ _ hur hl5 hl0 hur, c_odds_127 _ _ _ _ _ _ hur hl5 hl0 hl5, m_gcd T S (-9) x4 _ _ 17 A _ FU (by omega) (by omega) (by omega) (by omega) (by rw [FU_v]; omega)]
              have gp : 0 < Nat.gcd A (pr_ (fun k => if sh.testBit k then 1 else 10) a) := Nat.gcd_pos_of_pos_right A hB2
              have gl : Nat.gcd A (pr_ (fun k => if sh.testBit k then 1 else 10) a) ≤ pr_ (fun k => if sh.testBit k then 1 else 10) a := Nat.le_of_dvd hB2 (Nat.gcd_dvd_right _ _)
              rw [pk_div (by omega) gp (by omega), pk_div (by omega) gp (by omega), e1, e2]
              by_cases c : x4 = 0
              · rw [if_pos c, if_pos c]; exact ⟨_, rfl, rfl⟩
              · rw [if_neg c, if_neg c]; exact ⟨_, rfl, rfl⟩
            by_cases cs : sh.testBit o = true
            · rw [if_pos cs, if_neg ne10, H_c cs ho]
              refine fin 0 0 (by omega) (by omega) (fun _ _ => trivial) ?_ ?_
              · rw [Nat.zero_mul, Nat.zero_div, Nat.zero_div]
              · rw [Nat.zero_mul, Nat.gcd_zero_right, Nat.gcd_zero_left, Nat.div_self hl0, Nat.div_self hB2]
            · have cs' : sh.testBit o = false := by simpa using cs
              rw [if_neg cs, if_pos rfl]
              obtain ⟨g1, g2⟩ := H_o (σ := smV T N b (-9) d) cs' (show xx ≤ 10 by omega) a
              rw [if_pos ho, hr'] at g1 g2
              have hM : 0 < 10 ^ cn_ (oth (smV T N b (-9) d) sh o) a := Nat.pow_pos (by decide)
              rw [g1]
              refine fin (10 - xx) _ (by omega) ?_ (fun _ _ => trivial) ?_ ?_
              · rw [g2]; exact Nat.mul_le_mul_right _ (Nat.mul_le_mul (by omega) hxr)
              · rw [g2, Nat.gcd_mul_right, Nat.mul_div_mul_right _ _ hM, Nat.gcd_comm]
              · rw [g2, Nat.gcd_mul_right, Nat.mul_div_mul_right _ _ hM, Nat.gcd_comm]
          · rw [if_neg c9, if_pos rfl, if_pos rfl]; exact ⟨_, rfl, rfl⟩
        rcases isN_dec 2 x4 with ⟨w, hw, e4⟩ | q
        · have g := main w hw e4
          rw [in_1 (by rw [e4]; exact n_nneg (by omega)) (by rw [e4, show (1 : Int32) = nI 1 from rfl, nlt (by omega) (by omega)]; omega), Option.bind_some, if_neg ne10]
          by_cases c0 : x4 = 0
          · rw [if_pos c0]; exact g
          · rw [if_neg c0]
            have c1 : x4 = 1 := by
              have hw2 : w = 0 ∨ w = 1 := by omega
              rcases hw2 with rfl | rfl
              · exact absurd e4 c0
              · exact e4
            rw [if_pos c1]; exact g
        · rw [if_neg (show ¬ x4 = 0 from fun z => q ⟨0, by omega, z⟩), if_neg (show ¬ x4 = 1 from fun z => q ⟨1, by omega, z⟩), in_0 (show x4 < 0 ∨ (1 : Int32) < x4 by
            rcases notN q with w | ⟨n, h1, h2, rfl⟩
            · exact Or.inl w
            · right; rw [show (1 : Int32) = nI 1 from rfl, nlt (by omega) h1]; omega), Option.bind_some, if_pos rfl]
          exact ⟨_, rfl, rfl⟩
      · rcases notN q with w | ⟨n, h1, h2, rfl⟩
        · rw [if_pos w, in_0 (Or.inl w), Option.bind_some, if_pos rfl]; exact ⟨_, rfl, rfl⟩
        · rw [if_neg (n_nneg h1), i_Llt (by omega) h1, in_0 (Or.inr (by rw [show (10 : Int32) = nI 10 from rfl, nlt (by omega) h1]; omega)), Option.bind_some, if_pos rfl]; exact ⟨_, rfl, rfl⟩
    · rw [c_hasO_n ha q, m_hasO_n hV.2.2.1 ha q, Option.bind_some, Option.bind_some, if_pos rfl, if_pos rfl]
      exact ⟨_, rfl, rfl⟩
  · rw [c_hasD_n hb q, m_hasD_n hV.2.2.2.1 hb q, Option.bind_some, Option.bind_some, if_pos rfl, if_pos rfl]
    exact ⟨_, rfl, rfl⟩
end V
