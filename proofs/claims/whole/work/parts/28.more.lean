/-! when, images, led, vanilla -/
def wR (T : Nat → Int32) (b d : Nat) : Nat → (Nat → Int32) → Int32
  | 0, _ => -9
  | m + 1, N => if passN T N b d = -5 then passN T N b 13 else wR T b d m (passN T N b)
def ltS (h s : Nat → Int32) (x : Nat) : Nat → Int32 := fun j => if j < x then h j else s j
theorem ltS_s {h s : Nat → Int32} {x : Nat} : upd (ltS h s x) x (h x) = ltS h s (x + 1) := by
  funext j
  simp only [upd_if, ltS]
  by_cases e : j = x
  · subst e; rw [if_pos rfl, if_pos (by omega)]
  · rw [if_neg e]
    by_cases c : j < x
    · rw [if_pos c, if_pos (by omega)]
    · rw [if_neg c, if_neg (by omega)]
theorem ltS_0 {h s : Nat → Int32} : ltS h s 0 = s := by funext j; rw [ltS, if_neg (by omega)]
theorem m_holds (s h : Nat → Int32) : f_X5_holds s h = some (ltS s h 14) := by
  have key : ∀ (m x fuel : Nat), x + m = 14 → m < fuel → f_X5_holds_2 s fuel (ltS s h x) (nI x) = some (ltS s h 14) := by
    intro m
    induction m with
    | zero =>
      intro x fuel hx hf
      obtain ⟨n, rfl⟩ : ∃ n, fuel = n + 1 := ⟨fuel - 1, by omega⟩
      rw [f_X5_holds_2, i_Lle (by omega) (by omega), show x = 14 by omega]
    | succ m ih =>
      intro x fuel hx hf
      obtain ⟨n, rfl⟩ : ∃ n, fuel = n + 1 := ⟨fuel - 1, by omega⟩
      have h2 := ih (x + 1) n (by omega) (by omega)
      rw [f_X5_holds_2, i_nLle (by omega) (by omega)]
      simp (disch := omega) only [i_in, ncl, nI_1]
      rw [ltS_s]; exact h2
  have := key 14 0 FU (by omega) (by rw [FU_v]; omega)
  rw [ltS_0] at this
  exact this
theorem m_lets (h s : Nat → Int32) : f_X5_lets h s = some (ltS h s 14) := by
  have key : ∀ (m x fuel : Nat), x + m = 14 → m < fuel → f_X5_lets_2 h fuel (ltS h s x) (nI x) = some (ltS h s 14) := by
    intro m
    induction m with
    | zero =>
      intro x fuel hx hf
      obtain ⟨n, rfl⟩ : ∃ n, fuel = n + 1 := ⟨fuel - 1, by omega⟩
      rw [f_X5_lets_2, i_Lle (by omega) (by omega), show x = 14 by omega]
    | succ m ih =>
      intro x fuel hx hf
      obtain ⟨n, rfl⟩ : ∃ n, fuel = n + 1 := ⟨fuel - 1, by omega⟩
      have h2 := ih (x + 1) n (by omega) (by omega)
      rw [f_X5_lets_2, i_nLle (by omega) (by omega)]
      simp (disch := omega) only [i_in, ncl, nI_1]
      rw [ltS_s]; exact h2
  have := key 14 0 FU (by omega) (by rw [FU_v]; omega)
  rw [ltS_0] at this
  exact this
section V
variable {a b : Nat} {T fO fD cr S : Nat → Int32} {nO nD ck : Int32}
theorem c_when_l (hO : VO a T fO) (hD : VD b T fD) {d : Nat} (hd : d < b) (ck0 : Int32) (cr0 : Nat → Int32) : ∀ (m i fuel : Nat) (g N : Nat → Int32), i + m = 200 → m < fuel → VN 0 N g → RP a b N → ∃ k' g', f_X4_when_47 (nI a) (nI b) ck0 cr0 fO fD fuel (nI 0) g (nI d) (nI i) = some (wR T b d m N, k', g') := by
  have hb := hD.1
  intro m
  induction m with
  | zero =>
    intro i fuel g N hi hf h1 h2
    obtain ⟨n, rfl⟩ : ∃ n, fuel = n + 1 := ⟨fuel - 1, by omega⟩
    rw [f_X4_when_47, i_Lle (by omega) (by omega)]
    exact ⟨_, _, rfl⟩
  | succ m ih =>
    intro i fuel g N hi hf h1 h2
    obtain ⟨n, rfl⟩ : ∃ n, fuel = n + 1 := ⟨fuel - 1, by omega⟩
    obtain ⟨r1, e1, g1, -⟩ := c_pass h1 hO hD h2
    rw [f_X4_when_47, i_nLle (by omega) (by omega), e1, Option.bind_some, c_place g1 (by omega), Option.bind_some, wR, nI_1]
    by_cases c : passN T N b d = -5
    · rw [if_pos c, if_pos c, c_minute g1, Option.bind_some]
      exact ⟨_, _, rfl⟩
    · rw [if_neg c, if_neg c]
      exact ih (i + 1) n r1 (passN T N b) (by omega) (by omega) g1 (pass_RP hb h2)
theorem m_when_l (hV : TV a b T) {d : Nat} (hd : d < b) (held : Nat → Int32) : ∀ (m i fuel : Nat) (s N : Nat → Int32) (mn : Nat), i + m = 200 → m + 1 < fuel → (∀ j, j < 14 → s j = N j) → (∀ j, 14 ≤ j → s j = S j) → RP a b N → N 13 = nI mn → mn + m ≤ 2000 → ∃ s2, f_X5_when_31 T fuel s held (nI d) (-9) (nI i) = f_X5_when_79 T s2 held (wR T b d m N) ∧ ∀ j, 14 ≤ j → s2 j = S j := by
  have hb := hV.2.1
  intro m
  induction m with
  | zero =>
    intro i fuel s N mn hi hf h1 h2 h3 h4 h5
    obtain ⟨n, rfl⟩ : ∃ n, fuel = n + 1 := ⟨fuel - 1, by omega⟩
    rw [f_X5_when_31, i_Lle (by omega) (by omega)]
    exact ⟨s, rfl, h2⟩
  | succ m ih =>
    intro i fuel s N mn hi hf h1 h2 h3 h4 h5
    obtain ⟨n, rfl⟩ : ∃ n, fuel = n + 1 := ⟨fuel - 1, by omega⟩
    obtain ⟨s1, e1, g1, g2⟩ := m_passes hV h3 h1
    rw [f_X5_when_31, i_nLle (by omega) (by omega), if_pos rfl, e1, Option.bind_some, i_in (by omega) (by omega), ncl (by omega), wR]
    have gd := g1 d (by omega)
    have g13 := g1 13 (by omega)
    have hs1 : ∀ j, 14 ≤ j → s1 j = S j := fun j hj => (g2 j hj).trans (h2 j hj)
    by_cases c : passN T N b d = -5
    · rw [if_pos (gd.trans c), if_pos c, f_X5_when_72, nI_1, show (cnN T N b b, s1).2 13 = passN T N b 13 from g13]
      obtain ⟨n', rfl⟩ : ∃ n', n = n' + 1 := ⟨n - 1, by omega⟩
      rw [f_X5_when_31]
      have e13 : passN T N b 13 = nI (mn + 1) := by rw [pass_13, h4, nI_1]
      by_cases c2 : i + 1 < 200
      · rw [i_nLle (by omega) (by omega), if_neg (by rw [e13]; exact m9_n (by omega))]
        exact ⟨s1, rfl, hs1⟩
      · rw [i_Lle (by omega) (by omega)]
        exact ⟨s1, rfl, hs1⟩
    · rw [if_neg (fun z => c (gd.symm.trans z)), if_neg c, f_X5_when_72, nI_1]
      exact ih (i + 1) n s1 (passN T N b) (mn + 1) (by omega) (by omega) g1 hs1 (pass_RP hb h3) (by rw [pass_13, h4, nI_1]) (by omega)
theorem CM.ext {kk B : Nat} {S S' : Nat → Int32} {R : Nat → Nat → Int32} (h : CM kk S B R) (he : ∀ j, S' j = S j) : CM kk S' B R := by
  rw [show S' = S from funext he]; exact h
theorem s_when (h : RT a b T nO nD fO fD) (hc : RC a b ck cr S 0) (tk : Int32) (tr held : Nat → Int32) (x : Int32) : ∃ r tk' tr' S' held', f_X4_when nO nD ck cr fO fD tk tr x = some (r, tk', tr') ∧ f_X5_when T S held x = some (r, S', held') ∧ RC a b ck cr S' 0 := by
  obtain ⟨kk, R, rfl, h1, h2, h3⟩ := hc
  obtain ⟨hV, rfl, rfl, hO, hD⟩ := h
  have ha := hO.1
  have hb := hD.1
  have hR := h3 kk (Nat.le_refl _)
  obtain ⟨mn, hmn, e13⟩ := hR.2.2.1
  unfold f_X4_when f_X5_when
  rcases isN_dec b x with ⟨d, hd, rfl⟩ | q
  · rw [c_hasD_y hb hd, m_hasD_y hV.2.2.2.1 hb hd, Option.bind_some, Option.bind_some, if_neg ne10, if_neg ne10, c_place h1.vn (by omega), Option.bind_some, i_in (by omega) (by omega), ncl (by omega), h2.vs d (by omega)]
    rcases hR.1.cases ha hd with ⟨q, qn⟩ | ⟨o, ho, q⟩
    · rw [c_hasO_n ha qn, Option.bind_some, if_pos rfl, if_neg (fun z => by rw [t_le] at z; rw [t_lt] at q; omega)]
      exact ⟨_, _, _, _, _, rfl, rfl, kk, R, rfl, h1, h2, h3⟩
    · rw [q, c_hasO_y ha ho, Option.bind_some, if_neg ne10, if_pos (n_ge0 (by omega)), m_holds, Option.bind_some]
      obtain ⟨g', e1, g1⟩ := c_copyNow h1.vn tk tr
      rw [e1, Option.bind_some]
      obtain ⟨k', g2, e2⟩ := c_when_l hO hD hd (nI kk) cr 200 0 FU g' (R kk) (by omega) (by rw [FU_v]; omega) g1 hR.1
      obtain ⟨s2, e3, g3⟩ := m_when_l (S := S) hV hd (ltS S held 14) 200 0 FU S (R kk) mn (by omega) (by rw [FU_v]; omega) h2.vs (fun _ _ => rfl) hR.1 e13 (by omega)
      have e2' := e2
      have e3' := e3
      refine ⟨_, _, _, _, _, e2', e3'.trans (by unfold f_X5_when_79; rw [m_lets, Option.bind_some]), kk, R, rfl, h1, h2.ext (fun j => ?_), h3⟩
      unfold ltS
      by_cases c : j < 14
      · rw [if_pos c, if_pos c]
      · rw [if_neg c]; exact g3 j (by omega)
  · rw [c_hasD_n hb q, m_hasD_n hV.2.2.2.1 hb q, Option.bind_some, Option.bind_some, if_pos rfl, if_pos rfl]
    exact ⟨_, _, _, _, _, rfl, rfl, kk, R, rfl, h1, h2, h3⟩
/-! images -/
def RI (a b : Nat) (kept : Int32) (kp : Nat → Int32) (k0 k1 : Int32) (r0 r1 im : Nat → Int32) : Prop := ∃ kb, kb < 4 ∧ kept = nI kb ∧ kp 0 = (if kb.testBit 0 then 1 else 0) ∧ kp 1 = (if kb.testBit 1 then 1 else 0) ∧ (kb.testBit 0 = true → RC a b k0 r0 im 0) ∧ (kb.testBit 1 = true → RC a b k1 r1 im 155)
theorem RC.image {im : Nat → Int32} {B : Nat} (hc : RC a b ck cr S 0) {cr' : Nat → Int32} (he : ∀ j, j < 154 → cr' j = cr j) : RC a b ck cr' (imS im S B 155) B := by
  obtain ⟨kk, R, h0, h1, h2, h3⟩ := hc
  exact ⟨kk, R, h0, h1.copy he, h2.image h1.1, h3⟩
theorem RC.other {im : Nat → Int32} {B B2 : Nat} (hB : B + 155 ≤ B2 ∨ B2 + 155 ≤ B) (hc : RC a b ck cr im B2) : RC a b ck cr (imS im S B 155) B2 := by
  obtain ⟨kk, R, h0, h1, h2, h3⟩ := hc
  exact ⟨kk, R, h0, h1, h2.other h1.1 hB, h3⟩
theorem s_keep (hc : RC a b ck cr S 0) {kept k0 k1 : Int32} {kp r0 r1 im : Nat → Int32} (hi : RI a b kept kp k0 k1 r0 r1 im) (x : Int32) : ∃ r kept' k0' k1' r0' r1' im' kp', f_X4_keep ck cr kept k0 k1 r0 r1 x = some (r, kept', k0', k1', r0', r1') ∧ f_X5_keep S im kp x = some (r, im', kp') ∧ RI a b kept' kp' k0' k1' r0' r1' im' := by
  obtain ⟨kb, hkb, rfl, e0, e1, i0, i1⟩ := hi
  have hmin : f_X0_minute ck cr = some (S 13) := by
    obtain ⟨kk, R, rfl, h1, h2, h3⟩ := hc
    rw [c_minute h1.vn, h2.vs 13 (by omega)]
  unfold f_X4_keep
  by_cases hx : isN 2 x
  · obtain ⟨i, hi, rfl⟩ := hx
    rw [m_keep_y S im kp hi, if_neg (n_nneg (by omega)), i_ltL (by omega) (by omega), hmin, bit_n i (by omega), n_or]
    have hi2 : i = 0 ∨ i = 1 := by omega
    rcases hi2 with rfl | rfl
    · obtain ⟨g, e, hg⟩ := c_copyAll ck k0 cr r0
      rw [if_pos (show nI 0 = 0 from rfl), e, Option.bind_some, Option.bind_some]
      refine ⟨_, _, _, _, _, _, _, _, rfl, rfl, kb ||| 2 ^ 0, Nat.or_lt_two_pow (n := 2) (by omega) (by decide), rfl, ?_, ?_, fun _ => hc.image hg, fun z => (i1 ?_).other (Or.inl (by omega))⟩
      · rw [upd_s, sh_or]; simp
      · rw [upd_n (by omega), e1, sh_or]; simp
      · rw [sh_or] at z; simpa using z
    · obtain ⟨g, e, hg⟩ := c_copyAll ck k1 cr r1
      rw [if_neg (show ¬ nI 1 = 0 by decide), e, Option.bind_some, Option.bind_some]
      refine ⟨_, _, _, _, _, _, _, _, rfl, rfl, kb ||| 2 ^ 1, Nat.or_lt_two_pow (n := 2) (by omega) (by decide), rfl, ?_, ?_, fun z => (i0 ?_).other (Or.inr (by omega)), fun _ => hc.image hg⟩
      · rw [upd_n (by omega), e0, sh_or]; simp
      · rw [upd_s, sh_or]; simp
      · rw [sh_or] at z; simpa using z
  · rw [m_keep_n S im kp hx]
    have same : ∃ r kept' k0' k1' r0' r1' im' kp', (some (-1, nI kb, k0, k1, r0, r1) : Option (Int32 × Int32 × Int32 × Int32 × (Nat → Int32) × (Nat → Int32))) = some (r, kept', k0', k1', r0', r1') ∧ (some (-1, im, kp) : Option (Int32 × (Nat → Int32) × (Nat → Int32))) = some (r, im', kp') ∧ RI a b kept' kp' k0' k1' r0' r1' im' := ⟨_, _, _, _, _, _, _, _, rfl, rfl, kb, hkb, rfl, e0, e1, i0, i1⟩
    rcases notN hx with q | ⟨n, h1, h2, rfl⟩
    · rw [if_pos q]; exact same
    · rw [if_neg (n_nneg h1), i_nltL (by omega) h1]; exact same
theorem s_back (hc : RC a b ck cr S 0) {kept k0 k1 : Int32} {kp r0 r1 im : Nat → Int32} (hi : RI a b kept kp k0 k1 r0 r1 im) (x : Int32) : ∃ r ck' cr' S', f_X4_back kept k0 k1 r0 r1 ck cr x = some (r, ck', cr') ∧ f_X5_back kp im S x = some (r, S') ∧ RC a b ck' cr' S' 0 := by
  obtain ⟨kb, hkb, rfl, e0, e1, i0, i1⟩ := hi
  unfold f_X4_back f_X5_back
  by_cases hx : isN 2 x
  · obtain ⟨i, hi, rfl⟩ := hx
    rw [if_neg (n_nneg (by omega)), i_ltL (by omega) (by omega), in_1 (n_nneg (by omega)) (by rw [show (1 : Int32) = nI 1 from rfl, nlt (by omega) (by omega)]; omega), Option.bind_some, if_neg ne10, i_in (by omega) (by omega), ncl (by omega)]
    have go : ∀ (k : Int32) (r : Nat → Int32) (B : Nat), B = 155 * i → RC a b k r im B → ∃ r' ck' cr' S', ((f_X0_copyAll k r ck cr).bind fun u_6 => (f_X0_minute u_6.1 u_6.2).bind fun u_7 => some (u_7, u_6.1, u_6.2)) = some (r', ck', cr') ∧ f_X5_back_25 kp im FU S (nI i) 0 = some (r', S') ∧ RC a b ck' cr' S' 0 := by
      intro k r B hB hk
      obtain ⟨g, e, hg⟩ := c_copyAll k ck r cr
      have hb2 := m_back_l kp im S hi 155 0 FU (by omega) (by rw [FU_v]; omega)
      rw [show bkS S im (155 * i) 0 = S from by funext j; rw [bkS, if_neg (by omega)], ← hB] at hb2
      obtain ⟨kk, R, rfl, h1, h2, h3⟩ := hk
      have hm2 := (CM.backS (s := S) h1.1 h2)
      rw [e, Option.bind_some, c_minute (h1.copy hg).vn, Option.bind_some]
      exact ⟨_, _, _, _, rfl, by rw [← hm2.vs 13 (by omega)]; exact hb2, kk, R, rfl, h1.copy hg, hm2, h3⟩
    have stay : ∃ r' ck' cr' S', (some (-2, ck, cr) : Option (Int32 × Int32 × (Nat → Int32))) = some (r', ck', cr') ∧ (some (-2, S) : Option (Int32 × (Nat → Int32))) = some (r', S') ∧ RC a b ck' cr' S' 0 := ⟨_, _, _, _, rfl, rfl, hc⟩
    have hi2 : i = 0 ∨ i = 1 := by omega
    have hbit := sh_c kb i (by omega) (by omega)
    rcases hi2 with rfl | rfl
    · rw [e0, if_pos (show nI 0 = 0 from rfl)]
      by_cases c : kb.testBit 0 = true
      · rw [if_neg (fun z => by rw [hbit.mp z] at c; cases c), if_pos c, if_neg ne10]
        exact go k0 r0 0 rfl (i0 c)
      · rw [if_pos (hbit.mpr (by simpa using c)), if_neg c, if_pos rfl]; exact stay
    · rw [e1, if_neg (show ¬ nI 1 = 0 by decide)]
      by_cases c : kb.testBit 1 = true
      · rw [if_neg (fun z => by rw [hbit.mp z] at c; cases c), if_pos c, if_neg ne10]
        exact go k1 r1 155 rfl (i1 c)
      · rw [if_pos (hbit.mpr (by simpa using c)), if_neg c, if_pos rfl]; exact stay
  · have same : ∃ r' ck' cr' S', (some (-1, ck, cr) : Option (Int32 × Int32 × (Nat → Int32))) = some (r', ck', cr') ∧ (some (-1, S) : Option (Int32 × (Nat → Int32))) = some (r', S') ∧ RC a b ck' cr' S' 0 := ⟨_, _, _, _, rfl, rfl, hc⟩
    rcases notN hx with q | ⟨n, h1, h2, rfl⟩
    · rw [if_pos q, in_0 (Or.inl q), Option.bind_some, if_pos rfl]; exact same
    · rw [if_neg (n_nneg h1), i_nltL (by omega) h1, in_0 (Or.inr (by rw [show (1 : Int32) = nI 1 from rfl, nlt (by omega) h1]; omega)), Option.bind_some, if_pos rfl]; exact same
/-! led -/
def RL_ (a b : Nat) (lc : Int32) (ld lo : Nat → Int32) (noted : Int32) (nt : Nat → Int32) : Prop := ∃ (c : Nat) (dj oj : Nat → Nat), c ≤ 6 ∧ lc = nI c ∧ noted = nI c ∧ ∀ j, j < c → dj j < b ∧ oj j < a ∧ ld j = nI (dj j) ∧ lo j = nI (oj j) ∧ nt j = nI (10 * dj j + oj j)
theorem s_led (h : RT a b T nO nD fO fD) (hc : RC a b ck cr S 0) {lc noted : Int32} {ld lo nt : Nat → Int32} (hl : RL_ a b lc ld lo noted nt) (x y : Int32) : ∃ r lc' ld' lo' noted' nt', f_X4_led nO nD ck cr lc ld lo x y = some (r, lc', ld', lo') ∧ f_X5_led T S noted nt x y = some (r, noted', nt') ∧ RL_ a b lc' ld' lo' noted' nt' := by
  obtain ⟨kk, R, rfl, h1, h2, h3⟩ := hc
  obtain ⟨hV, rfl, rfl, hO, hD⟩ := h
  have ha := hO.1
  have hb := hD.1
  have hl0 := hl
  obtain ⟨c, dj, oj, hc6, rfl, rfl, hj⟩ := hl
  unfold f_X4_led f_X5_led
  have same : ∀ r, ∃ r' lc' ld' lo' noted' nt', (some (r, nI c, ld, lo) : Option (Int32 × Int32 × (Nat → Int32) × (Nat → Int32))) = some (r', lc', ld', lo') ∧ (some (r, nI c, nt) : Option (Int32 × Int32 × (Nat → Int32))) = some (r', noted', nt') ∧ RL_ a b lc' ld' lo' noted' nt' := fun r => ⟨_, _, _, _, _, _, rfl, rfl, hl0⟩
  rcases isN_dec b x with ⟨d, hd, rfl⟩ | q
  · rw [c_hasD_y hb hd, m_hasD_y hV.2.2.2.1 hb hd, Option.bind_some, Option.bind_some, if_neg ne10, if_neg ne10]
    rcases isN_dec a y with ⟨o, ho, rfl⟩ | q
    · rw [c_hasO_y ha ho, m_hasO_y hV.2.2.1 ha ho, Option.bind_some, Option.bind_some, if_neg ne10, if_neg ne10, c_isOut h1.vn (by omega), m_isOut h2.vs (by omega), Option.bind_some, Option.bind_some]
      by_cases c9 : R kk d = -9
      · rw [if_pos c9, if_neg ne10, if_neg ne10]
        by_cases c6 : c < 6
        · rw [i_ltL (by omega) (by omega), i_neL (by omega) (by omega) (by omega), i_in (by omega) (by omega), i_in (by omega) (by omega), i_in (by omega) (by omega), ncl (by omega), nI_1, Lmn, nI_add]
          refine ⟨_, _, _, _, _, _, rfl, rfl, c + 1, fun j => if j = c then d else dj j, fun j => if j = c then o else oj j, by omega, rfl, rfl, fun j hj2 => ?_⟩
          by_cases e : j = c
          · subst e; simp only [if_true, upd_s]; refine ⟨hd, ho, ?_, ?_, ?_⟩ <;> first | trivial | rfl
          · simp only [if_neg e, upd_n e]; exact hj j (by omega)
        · rw [i_nltL (by omega) (by omega), i_eqL (show c = 6 by omega)]; exact same _
      · rw [if_neg c9, if_pos rfl, if_pos rfl]; exact same _
    · rw [c_hasO_n ha q, m_hasO_n hV.2.2.1 ha q, Option.bind_some, Option.bind_some, if_pos rfl, if_pos rfl]; exact same _
  · rw [c_hasD_n hb q, m_hasD_n hV.2.2.2.1 hb q, Option.bind_some, Option.bind_some, if_pos rfl, if_pos rfl]; exact same _
/-! vanilla -/
def al (P : Nat → Bool) : Nat → Bool
  | 0 => true
  | j + 1 => al P j && P j
theorem al_le {P : Nat → Bool} : ∀ {m n : Nat}, al P n = true → m ≤ n → al P m = true
  | m, 0, _, hm => by rw [show m = 0 by omega]; rfl
  | m, n + 1, h, hm => by
    rw [al, Bool.and_eq_true] at h
    by_cases e : m = n + 1
    · rw [e, al, Bool.and_eq_true]; exact h
    · exact al_le h.1 (by omega)
def ledP (T N : Nat → Int32) (a b sh : Nat) (dj oj : Nat → Nat) (van : Int32) : Nat → Bool := fun j => decide (N (dj j) = -9 ∧ nose (smV T N b van (dj j)) (opn sh) a = nI (oj j))
def bI (p : Bool) : Int32 := if p then 1 else 0
theorem c_allLed {kk : Nat} {N : Nat → Int32} (hN : VN kk N cr) (hO : VO a T fO) (hD : VD b T fD) (hV : TV a b T) {sh : Nat} (hsh : sh < 32) (e12 : N 12 = nI sh) {c : Nat} {dj oj : Nat → Nat} {ld lo : Nat → Int32} (hc : c ≤ 6) (hj : ∀ j, j < c → dj j < b ∧ oj j < a ∧ ld j = nI (dj j) ∧ lo j = nI (oj j)) (van : Int32) : f_X4_allLedWith (nI c) (nI kk) (nI a) (nI b) ld cr fO fD lo van = some (bI (al (ledP T N a b sh dj oj van) c)) := by
  have hb := hD.1
  have key : ∀ (m j fuel : Nat), j + m = c → m < fuel → al (ledP T N a b sh dj oj van) j = true → f_X4_allLedWith_2 (nI c) (nI kk) (nI a) (nI b) ld cr fO fD lo fuel van (nI j) = some (bI (al (ledP T N a b sh dj oj van) c)) := by
    intro m
    induction m with
    | zero =>
      intro j fuel hm hf hal
      obtain ⟨n, rfl⟩ : ∃ n, fuel = n + 1 := ⟨fuel - 1, by omega⟩
      have e : j = c := by omega
      subst e
      rw [f_X4_allLedWith_2, i_le (by omega) (by omega), hal]; rfl
    | succ m ih =>
      intro j fuel hm hf hal
      obtain ⟨n, rfl⟩ : ∃ n, fuel = n + 1 := ⟨fuel - 1, by omega⟩
      obtain ⟨g1, g2, g3, g4⟩ := hj j (by omega)
      have eL : ld (nI j).toNatClampNeg = nI (dj j) := by rw [ncl (by omega)]; exact g3
      have eO : lo (nI j).toNatClampNeg = nI (oj j) := by rw [ncl (by omega)]; exact g4
      rw [f_X4_allLedWith_2, i_nle (by omega) (by omega), i_in (by omega) (by omega), eL, c_isOut hN (by omega), Option.bind_some, c_nose hN hO hD hV hsh e12 g1, Option.bind_some, i_in (by omega) (by omega), eO, nI_1]
      have no : ¬ (N (dj j) = -9 ∧ nose (smV T N b van (dj j)) (opn sh) a = nI (oj j)) → al (ledP T N a b sh dj oj van) c = false := fun z => by
        cases hz : al (ledP T N a b sh dj oj van) c
        · rfl
        · have := al_le hz (show j + 1 ≤ c by omega)
          rw [al, Bool.and_eq_true] at this
          exact absurd (of_decide_eq_true this.2) z
      by_cases c9 : N (dj j) = -9
      · rw [if_pos c9, if_neg ne10]
        by_cases cn : nose (smV T N b van (dj j)) (opn sh) a = nI (oj j)
        · rw [if_pos cn]
          exact ih (j + 1) n (by omega) (by omega) (by rw [al, hal, ledP, decide_eq_true ⟨c9, cn⟩]; rfl)
        · rw [if_neg cn, no (fun z => cn z.2)]; rfl
      · rw [if_neg c9, if_pos rfl, no (fun z => c9 z.1)]; rfl
  exact key c 0 FU (by omega) (by rw [FU_v]; omega) rfl
/-- the bits that vanilla() answers, as the class puts them together -/
def vaB (T N : Nat → Int32) (a b sh c : Nat) (dj oj : Nat → Nat) (z : Int32) : Nat → Int32
  | 0 => z
  | k + 1 => if al (ledP T N a b sh dj oj (nI k)) c = true then vaB T N a b sh c dj oj z k ||| ((1 : Int32) <<< (nI k &&& 31)) else vaB T N a b sh c dj oj z k
theorem vaB_or (T N : Nat → Int32) (a b sh c : Nat) (dj oj : Nat → Nat) (z : Int32) : ∀ k, vaB T N a b sh c dj oj z k = vaB T N a b sh c dj oj 0 k ||| z
  | 0 => by show z = 0 ||| z; apply Int32.toBitVec_inj.mp; show z.toBitVec = 0#32 ||| z.toBitVec; simp
  | k + 1 => by
    rw [vaB, vaB, vaB_or T N a b sh c dj oj z k]
    by_cases q : al (ledP T N a b sh dj oj (nI k)) c = true
    · rw [if_pos q, if_pos q]
      apply Int32.toBitVec_inj.mp
      show (_ ||| _) ||| _ = (_ ||| _) ||| _
      rw [BitVec.or_assoc, BitVec.or_assoc, BitVec.or_comm z.toBitVec]
    · rw [if_neg q, if_neg q]
theorem ledP_no {N : Nat → Int32} {sh : Nat} {dj oj : Nat → Nat} {van van' : Int32} (h : ∀ o, o < a → ¬ van = nI o) (h2 : ∀ o, o < a → ¬ van' = nI o) : ledP T N a b sh dj oj van = ledP T N a b sh dj oj van' := by
  funext j; unfold ledP; rw [nose_no h h2]
theorem note_d {d o : Nat} (hd : d < 6) (ho : o < 5) : nI (10 * d + o) / 10 = nI d := by
  rw [show (10 : Int32) = nI 10 from rfl, pk_div (by omega) (by omega) (by omega), show (10 * d + o) / 10 = d by omega]
theorem note_o {d o : Nat} (hd : d < 6) (ho : o < 5) : nI (10 * d + o) - nI (10 * d + o) / 10 * 10 = nI o := by
  rw [show (10 : Int32) = nI 10 from rfl, pk_rem (by omega) (by omega) (by omega), show (10 * d + o) % 10 = o by omega]
theorem m_van48 {N : Nat → Int32} (hV : TV a b T) (hS : ∀ j, j < 14 → S j = N j) {sh : Nat} (hsh : sh < 32) (e12 : N 12 = nI sh) {c : Nat} {dj oj : Nat → Nat} {nt : Nat → Int32} (hc : c ≤ 6) (hj : ∀ j, j < c → dj j < b ∧ oj j < a ∧ nt j = nI (10 * dj j + oj j)) (K : Int32 → Int32 → Int32 → Option (Int32 × Int32)) (van x1 x2 : Int32) (so : Bool) : ∀ (m j fuel : Nat), j + m = c → m < fuel → f_X5_vanilla_48 (nI c) T nt S K fuel van x1 x2 (bI (so && al (ledP T N a b sh dj oj van) j)) (nI j) = K van (if (so && al (ledP T N a b sh dj oj van) c) = true then x1 ||| ((1 : Int32) <<< (x2 &&& 31)) else x1) (x2 + 1) := by
  have ha := hV.1
  have hb := hV.2.1
  intro m
  induction m with
  | zero =>
    intro j fuel hm hf
    obtain ⟨n, rfl⟩ : ∃ n, fuel = n + 1 := ⟨fuel - 1, by omega⟩
    have e : j = c := by omega
    subst e
    rw [f_X5_vanilla_48, i_le (by omega) (by omega)]
    unfold f_X5_vanilla_132
    cases hz : (so && al (ledP T N a b sh dj oj van) j)
    · rw [show bI false = 0 from rfl, if_pos rfl, or_0]; rfl
    · rw [show bI true = 1 from rfl, if_neg ne10]; rfl
  | succ m ih =>
    intro j fuel hm hf
    obtain ⟨n, rfl⟩ : ∃ n, fuel = n + 1 := ⟨fuel - 1, by omega⟩
    obtain ⟨g1, g2, g3⟩ := hj j (by omega)
    have h2 := ih (j + 1) n (by omega) (by omega)
    have eN : nt (nI j).toNatClampNeg = nI (10 * dj j + oj j) := by rw [ncl (by omega)]; exact g3
    rw [f_X5_vanilla_48, i_nle (by omega) (by omega), i_in (by omega) (by omega), eN, note_o (d := dj j) (o := oj j) (by omega) (by omega), note_d (d := dj j) (o := oj j) (by omega) (by omega), m_isOut hS (by omega), Option.bind_some, hS 12 (by omega), e12, m_nose hV hS (by omega) g1, Option.bind_some, i_in (by omega) (by omega)]
    unfold f_X5_vanilla_112 f_X5_vanilla_113
    rw [nI_1]
    have hal : al (ledP T N a b sh dj oj van) (j + 1) = (al (ledP T N a b sh dj oj van) j && ledP T N a b sh dj oj van j) := rfl
    cases hz : (so && al (ledP T N a b sh dj oj van) j)
    · rw [show bI false = 0 from rfl, if_pos rfl]
      have : (so && al (ledP T N a b sh dj oj van) (j + 1)) = false := by rw [hal, ← Bool.and_assoc, hz]; rfl
      rw [this] at h2; exact h2
    · rw [show bI true = 1 from rfl, if_neg ne10]
      have e2 : (so && al (ledP T N a b sh dj oj van) (j + 1)) = ledP T N a b sh dj oj van j := by rw [hal, ← Bool.and_assoc, hz]; rfl
      rw [e2] at h2
      by_cases c9 : N (dj j) = -9
      · rw [if_pos c9, if_neg ne10]
        by_cases cn : nose (smV T N b van (dj j)) (opn sh) a = nI (oj j)
        · rw [if_pos cn]
          rw [show ledP T N a b sh dj oj van j = true from decide_eq_true ⟨c9, cn⟩] at h2; exact h2
        · rw [if_neg cn]
          rw [show ledP T N a b sh dj oj van j = false from decide_eq_false (fun z => cn z.2)] at h2; exact h2
      · rw [if_neg c9, if_pos rfl]
        rw [show ledP T N a b sh dj oj van j = false from decide_eq_false (fun z => c9 z.1)] at h2; exact h2
theorem s_vanilla (h : RT a b T nO nD fO fD) (hc : RC a b ck cr S 0) {lc noted : Int32} {ld lo nt : Nat → Int32} (hl : RL_ a b lc ld lo noted nt) : ∃ r, f_X4_vanilla lc ck nO nD ld cr fO fD lo = some r ∧ f_X5_vanilla noted T nt S (-9) = some (r, -9) := by
  obtain ⟨kk, R, rfl, h1, h2, h3⟩ := hc
  obtain ⟨hV, rfl, rfl, hO, hD⟩ := h
  have ha := hO.1
  have hb := hD.1
  obtain ⟨sh, hsh, e12⟩ := (h3 kk (Nat.le_refl _)).2.2.2
  obtain ⟨c, dj, oj, hc6, rfl, rfl, hj⟩ := hl
  have hjC : ∀ j, j < c → dj j < b ∧ oj j < a ∧ ld j = nI (dj j) ∧ lo j = nI (oj j) := fun j q => ⟨(hj j q).1, (hj j q).2.1, (hj j q).2.2.1, (hj j q).2.2.2.1⟩
  have hjM : ∀ j, j < c → dj j < b ∧ oj j < a ∧ nt j = nI (10 * dj j + oj j) := fun j q => ⟨(hj j q).1, (hj j q).2.1, (hj j q).2.2.2.2⟩
  have hal := fun van => c_allLed h1.vn hO hD hV hsh e12 hc6 hjC van
  have cl : ∀ (z : Int32) (m k fuel : Nat), k + m = a → m < fuel → f_X4_vanilla_17 (nI c) (nI kk) (nI a) (nI b) ld cr fO fD lo fuel (vaB T (R kk) a b sh c dj oj z k) (nI k) = some (vaB T (R kk) a b sh c dj oj z a) := by
    intro z m
    induction m with
    | zero =>
      intro k fuel hm hf
      obtain ⟨n, rfl⟩ : ∃ n, fuel = n + 1 := ⟨fuel - 1, by omega⟩
      rw [f_X4_vanilla_17, f_X3_ovens, Option.bind_some, i_le (by omega) (by omega), show k = a by omega]
    | succ m ih =>
      intro k fuel hm hf
      obtain ⟨n, rfl⟩ : ∃ n, fuel = n + 1 := ⟨fuel - 1, by omega⟩
      have g := ih (k + 1) n (by omega) (by omega)
      rw [f_X4_vanilla_17, f_X3_ovens, Option.bind_some, i_nle (by omega) (by omega), hal, Option.bind_some, nI_1]
      cases q : al (ledP T (R kk) a b sh dj oj (nI k)) c
      · rw [show bI false = 0 from rfl, if_pos rfl]; rw [vaB, q] at g; exact g
      · rw [show bI true = 1 from rfl, if_neg ne10]; rw [vaB, q] at g; exact g
  have ml : ∀ (m k fuel : Nat), k + m = 5 → m + 1 < fuel → (∀ v0, f_X5_vanilla_4 (nI c) T nt S fuel v0 (vaB T (R kk) a b sh c dj oj 0 (if k < a then k else a)) (nI k) = some (if al (ledP T (R kk) a b sh dj oj (-9)) c = true then vaB T (R kk) a b sh c dj oj 0 a ||| 32 else vaB T (R kk) a b sh c dj oj 0 a, -9)) := by
    intro m
    induction m with
    | zero =>
      intro k fuel hm hf v0
      obtain ⟨n, rfl⟩ : ∃ n, fuel = n + 2 := ⟨fuel - 2, by omega⟩
      have e : k = 5 := by omega
      subst e
      rw [f_X5_vanilla_4, i_nLlt (by omega) (by omega), if_pos (show nI 5 = 5 from rfl)]
      unfold f_X5_vanilla_21 f_X5_vanilla_39 f_X5_vanilla_44
      rw [if_pos (show nI 5 = 5 from rfl)]
      have g := m_van48 hV h2.vs hsh e12 hc6 hjM (f_X5_vanilla_4 (nI c) T nt S (n + 1)) (-9) (vaB T (R kk) a b sh c dj oj 0 (if 5 < a then 5 else a)) (nI 5) true c 0 FU (by omega) (by rw [FU_v]; omega)
      rw [show bI (true && al (ledP T (R kk) a b sh dj oj (-9)) 0) = 1 from rfl] at g
      refine Eq.trans g ?_
      rw [f_X5_vanilla_4, nI_1, i_Llt (by omega) (by omega), if_neg (show ¬ 5 < a by omega), Bool.true_and, show (1 : Int32) <<< (nI 5 &&& 31) = 32 from by decide]
    | succ m ih =>
      intro k fuel hm hf v0
      obtain ⟨n, rfl⟩ : ∃ n, fuel = n + 1 := ⟨fuel - 1, by omega⟩
      rw [f_X5_vanilla_4, i_nLlt (by omega) (by omega), i_neL (by omega) (by omega) (by omega)]
      unfold f_X5_vanilla_21 f_X5_vanilla_39 f_X5_vanilla_44
      rw [i_neL (by omega) (by omega) (by omega), hV.2.2.1]
      have g := fun so => m_van48 hV h2.vs hsh e12 hc6 hjM (f_X5_vanilla_4 (nI c) T nt S n) (nI k) (vaB T (R kk) a b sh c dj oj 0 (if k < a then k else a)) (nI k) so c 0 FU (by omega) (by rw [FU_v]; omega)
      have g2 := ih (k + 1) n (by omega) (by omega) (nI k)
      by_cases ck : k < a
      · rw [i_nle (by omega) (by omega)]
        have g1 := g true
        rw [show bI (true && al (ledP T (R kk) a b sh dj oj (nI k)) 0) = 1 from rfl, Bool.true_and, nI_1, if_pos ck] at g1
        rw [if_pos ck]
        refine Eq.trans g1 ?_
        have e3 : (if k + 1 < a then k + 1 else a) = k + 1 := by split <;> omega
        rw [e3, vaB] at g2; exact g2
      · rw [i_le (by omega) (by omega)]
        have g1 := g false
        rw [show bI (false && al (ledP T (R kk) a b sh dj oj (nI k)) 0) = 0 from rfl, Bool.false_and, nI_1, if_neg ck, if_neg (show ¬ false = true by decide)] at g1
        rw [if_neg ck]
        refine Eq.trans g1 ?_
        rw [if_neg (show ¬ k + 1 < a by omega)] at g2; exact g2
  have mres := ml 5 0 FU (by omega) (by rw [FU_v]; omega) (-9)
  rw [show vaB T (R kk) a b sh c dj oj 0 (if 0 < a then 0 else a) = 0 from by rw [show (if 0 < a then 0 else a) = 0 by split <;> omega]; rfl] at mres
  unfold f_X4_vanilla f_X5_vanilla f_X4_vanilla_14
  rw [hal, Option.bind_some, ledP_no (no1 ha) (no9 ha)]
  cases q : al (ledP T (R kk) a b sh dj oj (-9)) c
  · rw [q] at mres
    rw [show bI false = 0 from rfl, if_pos rfl]
    exact ⟨_, cl 0 a 0 FU (by omega) (by rw [FU_v]; omega), mres⟩
  · rw [q] at mres
    rw [show bI true = 1 from rfl, if_neg ne10]
    exact ⟨_, cl 32 a 0 FU (by omega) (by rw [FU_v]; omega), by rw [vaB_or T (R kk) a b sh c dj oj 32 a]; exact mres⟩
end V
