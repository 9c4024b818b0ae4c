/-! a quarter; the small calls -/
def bgR : Nat → Nat → Int32 := fun _ j => if j < 6 then -9 else 0
theorem c_begin_l (ks : Int32) : ∀ (m x fuel : Nat) (R : Nat → Int32), x + m = 6 → m < fuel → R 0 = 0 → R 1 = 0 → (∀ k, k < x → R (2 + k) = -9 ∧ R (8 + k) = 0) → ∃ R', f_X0_begin_21 fuel ks R (nI x) = some (ks, R') ∧ R' 0 = 0 ∧ R' 1 = 0 ∧ ∀ k, k < 6 → R' (2 + k) = -9 ∧ R' (8 + k) = 0 := by
  intro m
  induction m with
  | zero =>
    intro x fuel R hx hf h0 h1 hR
    obtain ⟨n, rfl⟩ : ∃ n, fuel = n + 1 := ⟨fuel - 1, by omega⟩
    rw [f_X0_begin_21, i_Lle (by omega) (by omega)]
    exact ⟨R, rfl, h0, h1, fun k hk => hR k (by omega)⟩
  | succ m ih =>
    intro x fuel R hx hf h0 h1 hR
    obtain ⟨n, rfl⟩ : ∃ n, fuel = n + 1 := ⟨fuel - 1, by omega⟩
    rw [f_X0_begin_21, i_nLle (by omega) (by omega)]
    simp (disch := omega) only [Lan, i_in, ncl]
    rw [nI_1]
    refine ih (x + 1) n _ (by omega) (by omega) ?_ ?_ (fun k hk => ?_)
    · rw [upd_n (by omega), upd_n (by omega)]; exact h0
    · rw [upd_n (by omega), upd_n (by omega)]; exact h1
    · simp only [upd_if]
      by_cases e : k = x
      · rw [if_neg (by omega), if_pos (by omega), if_pos (by omega)]; exact ⟨rfl, rfl⟩
      · rw [if_neg (by omega), if_neg (by omega), if_neg (by omega), if_neg (by omega)]; exact hR k (by omega)
theorem c_begin (ks : Int32) (R : Nat → Int32) : ∃ R', f_X0_begin ks R = some (0, R') ∧ CC 0 R' bgR := by
  obtain ⟨R', e, h0, h1, h2⟩ := c_begin_l 0 6 0 FU (upd (upd R 0 0) 1 0) (by omega) (by rw [FU_v]; omega) (by rw [upd_n (by omega), upd_s]) upd_s (fun k hk => absurd hk (Nat.not_lt_zero k))
  refine ⟨R', e, by omega, fun i hi j hj => ?_⟩
  have : i = 0 := by omega
  subst this
  rw [Nat.zero_mul, Nat.zero_add]
  unfold bgR pj
  by_cases c1 : j < 6
  · rw [if_pos c1, if_pos (by omega), Nat.add_comm]; exact (h2 j c1).1
  · rw [if_neg c1]
    by_cases c2 : j < 12
    · rw [if_pos c2, show j + 2 = 8 + (j - 6) by omega]; exact (h2 (j - 6) (by omega)).2
    · rw [if_neg c2]
      by_cases c3 : j = 12
      · rw [c3]; exact h1
      · rw [show 13 - j = 0 by omega]; exact h0
theorem m_begin_28 (dr T kp : Nat → Int32) (nt : Int32) : ∀ (m x fuel : Nat) (S : Nat → Int32), x + m = 15 → m < fuel → (∀ k, k < x → S k = if k < 6 then -9 else 0) → ∃ S' kp', f_X5_begins_28 dr fuel nt T S kp (nI x) = some (0, T, S', kp') ∧ (∀ k, k < 15 → S' k = if k < 6 then -9 else 0) ∧ kp' 0 = 0 ∧ kp' 1 = 0 := by
  intro m
  induction m with
  | zero =>
    intro x fuel S hx hf hS
    obtain ⟨n, rfl⟩ : ∃ n, fuel = n + 1 := ⟨fuel - 1, by omega⟩
    rw [f_X5_begins_28, i_Llt (by omega) (by omega)]
    refine ⟨S, _, rfl, fun k hk => hS k (by omega), ?_, ?_⟩
    · rw [upd_n (by omega), upd_s]; decide
    · rw [upd_s]; decide
  | succ m ih =>
    intro x fuel S hx hf hS
    obtain ⟨n, rfl⟩ : ∃ n, fuel = n + 1 := ⟨fuel - 1, by omega⟩
    rw [f_X5_begins_28, i_nLlt (by omega) (by omega)]
    by_cases c : 6 ≤ x
    · rw [i_Lle c (by omega), f_X5_begins_51, i_in (by omega) (by omega), ncl (by omega), nI_1]
      refine ih (x + 1) n _ (by omega) (by omega) (fun k hk => ?_)
      rw [upd_if]
      by_cases e : k = x
      · rw [if_pos e, if_neg (by omega)]
      · rw [if_neg e]; exact hS k (by omega)
    · rw [i_nLle (by omega) (by omega), f_X5_begins_51, i_in (by omega) (by omega), ncl (by omega), nI_1]
      refine ih (x + 1) n _ (by omega) (by omega) (fun k hk => ?_)
      rw [upd_if]
      by_cases e : k = x
      · rw [if_pos e, if_pos (by omega)]
      · rw [if_neg e]; exact hS k (by omega)
theorem m_begin (dr T S kp : Nat → Int32) (nt : Int32) : ∃ T' S' kp', f_X5_begins dr nt T S kp = some (0, T', S', kp') ∧ (∀ k, k < 43 → T' k = dr k) ∧ (∀ k, k < 15 → S' k = if k < 6 then -9 else 0) ∧ kp' 0 = 0 ∧ kp' 1 = 0 := by
  have lp : ∀ (m x fuel : Nat) (T : Nat → Int32), x + m = 43 → m < fuel → (∀ k, k < x → T k = dr k) → ∃ T' S' kp', f_X5_begins_2 dr fuel nt T S kp (nI x) = some (0, T', S', kp') ∧ (∀ k, k < 43 → T' k = dr k) ∧ (∀ k, k < 15 → S' k = if k < 6 then -9 else 0) ∧ kp' 0 = 0 ∧ kp' 1 = 0 := by
    intro m
    induction m with
    | zero =>
      intro x fuel T hx hf hT
      obtain ⟨n, rfl⟩ : ∃ n, fuel = n + 1 := ⟨fuel - 1, by omega⟩
      rw [f_X5_begins_2, i_Lle (by omega) (by omega)]
      obtain ⟨S', kp', e, g1, g2, g3⟩ := m_begin_28 dr T kp nt 15 0 FU S (by omega) (by rw [FU_v]; omega) (fun k hk => absurd hk (Nat.not_lt_zero k))
      exact ⟨T, S', kp', e, fun k hk => hT k (by omega), g1, g2, g3⟩
    | succ m ih =>
      intro x fuel T hx hf hT
      obtain ⟨n, rfl⟩ : ∃ n, fuel = n + 1 := ⟨fuel - 1, by omega⟩
      rw [f_X5_begins_2, i_nLle (by omega) (by omega), i_in (by omega) (by omega), i_in (by omega) (by omega), ncl (by omega), nI_1]
      refine ih (x + 1) n _ (by omega) (by omega) (fun k hk => ?_)
      rw [upd_if]
      by_cases e : k = x
      · rw [if_pos e, e]
      · rw [if_neg e]; exact hT k (by omega)
  exact lp 43 0 FU T (by omega) (by rw [FU_v]; omega) (fun k hk => absurd hk (Nat.not_lt_zero k))
theorem begun {a b : Nat} (hb : b ≤ 6) {cr S : Nat → Int32} (hc : CC 0 cr bgR) (hS : ∀ k, k < 15 → S k = if k < 6 then -9 else 0) : RC a b 0 cr S 0 := by
  refine ⟨0, bgR, rfl, hc, ⟨by rw [hS _ (by omega)]; rfl, fun j hj => by rw [Nat.zero_add, hS j (by omega)]; rfl, fun i hi => absurd hi (Nat.not_lt_zero i)⟩, fun i hi => ⟨fun d hd => Or.inl (if_pos (by omega)), fun d hd _ => if_neg (by omega), ⟨0, by omega, rfl⟩, 0, by omega, rfl⟩⟩
theorem RI_0 {a b : Nat} {kp : Nat → Int32} (h0 : kp 0 = 0) (h1 : kp 1 = 0) (k0 k1 : Int32) (r0 r1 im : Nat → Int32) : RI a b 0 kp k0 k1 r0 r1 im := by
  refine ⟨0, by omega, rfl, by rw [h0]; rfl, by rw [h1]; rfl, fun z => ?_, fun z => ?_⟩
  · exact absurd z (by decide)
  · exact absurd z (by decide)
theorem RL_0 {a b : Nat} (ld lo nt : Nat → Int32) : RL_ a b 0 ld lo 0 nt := ⟨0, fun _ => 0, fun _ => 0, by omega, rfl, rfl, fun j hj => absurd hj (Nat.not_lt_zero j)⟩
theorem TV.ext {a b : Nat} {T M : Nat → Int32} (h : TV a b M) (e : ∀ k, k < 43 → T k = M k) : TV a b T := by
  obtain ⟨q1, q2, q3, q4, q5, q6⟩ := h
  refine ⟨q1, q2, by rw [e 0 (by omega), q3], by rw [e 1 (by omega), q4], fun o ho => ?_, fun d hd => ?_⟩
  · rw [e _ (by omega), e _ (by omega)]; exact q5 o ho
  · rw [e _ (by omega), e _ (by omega), e _ (by omega), e _ (by omega), e _ (by omega)]; exact q6 d hd
theorem VO.ext {a : Nat} {T M fO : Nat → Int32} (h : VO a M fO) (e : ∀ k, k < 43 → T k = M k) : VO a T fO := ⟨h.1, fun o ho => by
  have := h.1
  rw [e _ (by omega), e _ (by omega)]; exact h.2 o ho⟩
theorem VD.ext {b : Nat} {T M fD : Nat → Int32} (h : VD b M fD) (e : ∀ k, k < 43 → T k = M k) : VD b T fD := ⟨h.1, fun d j hd hj => by
  have := h.1
  rw [e _ (by omega)]; exact h.2 d j hd hj⟩
section X
variable {n : Nat} {by1 tx : Nat → Int32} {c : Nat → Nat}
theorem m10 {ts : Nat} (h : ts ≤ 180) : ¬ (0 : Int32) ≤ -10 - nI ts := fun z => by
  rw [t_le, t_sub] at z
  all_goals rw [t_n (by omega)] at *
  all_goals (have : (-10 : Int32).toInt = -10 := by decide)
  all_goals (have : (0 : Int32).toInt = 0 := by decide)
  all_goals omega
theorem s_quarter (h : TX n by1 tx c) (rt rd' : Nat) (kept lc x1 x2 x3 x4 v1 v2 ck noted y1 y2 y3 y4 : Int32) (fO fD cr dr T S kp : Nat → Int32) : (∃ r j1 j2 j3 j4 nO' nD' fO' fD' k1 k2 k3 k4 dr', f_X4_quarter by1 rt rd' kept lc (nI n) x1 x2 x3 x4 v1 v2 ck fO fD cr = some (r, rt, rd', kept, lc, nI n, j1, j2, j3, j4, nO', nD', ck, fO', fD', cr) ∧ f_X5_quarter tx (nI n) noted y1 y2 y3 y4 dr T S kp = some (r, nI n, noted, k1, k2, k3, k4, dr', T, S, kp)) ∨ (∃ r j1 j2 j3 j4 a' b' fO' fD' cr' k1 k2 k3 k4 dr' T' S' kp', f_X4_quarter by1 rt rd' kept lc (nI n) x1 x2 x3 x4 v1 v2 ck fO fD cr = some (r, rd', rt, 0, 0, 0, j1, j2, j3, j4, nI a', nI b', 0, fO', fD', cr') ∧ f_X5_quarter tx (nI n) noted y1 y2 y3 y4 dr T S kp = some (r, 0, 0, k1, k2, k3, k4, dr', T', S', kp') ∧ RT a' b' T' (nI a') (nI b') fO' fD' ∧ RC a' b' 0 cr' S' 0 ∧ kp' 0 = 0 ∧ kp' 1 = 0) := by
  have hn := h.1
  unfold f_X4_quarter f_X5_quarter
  rcases rd h x1 x2 x3 x4 v1 v2 y1 y2 y3 y4 fO fD dr with ⟨ts', j1, j2, j3, j4, j5, j6, j7, j8, k1, k2, k3, M', g0, g1, g2⟩ | ⟨it', j1, j2, j3, j4, a', b', fO', fD', k1, k2, k3, k4, M', g0, g1, g2, g3, g4, g5, g6⟩
  · rw [g1, g2, Option.bind_some, Option.bind_some]
    dsimp only
    rw [if_neg (m10 (by omega)), if_pos rfl]
    exact Or.inl ⟨_, _, _, _, _, _, _, _, _, _, _, _, _, _, rfl, rfl⟩
  · obtain ⟨cr', e1, g7⟩ := c_begin ck cr
    obtain ⟨T', S', kp', e2, h1, h2, h3, h4⟩ := m_begin M' T S kp noted
    rw [g1, g2, Option.bind_some, Option.bind_some]
    dsimp only
    rw [if_pos (n_ge0 (by omega)), if_neg ne10, f_X2_empty, Option.bind_some, e1, Option.bind_some, e2, Option.bind_some]
    refine Or.inr ⟨nI it', j1, j2, j3, j4, a', b', fO', fD', cr', k1, k2, k3, k4, M', T', S', kp', rfl, ?_, ⟨g3.ext h1, rfl, rfl, g4.ext h1, g5.ext h1⟩, begun g3.2.1 g7 h2, h3, h4⟩
    dsimp only
    rw [h1 2 (by omega), g6]
theorem s_type (h : TX n by1 tx c) (x : Int32) : ∃ r n' by' tx' c', f_X4_type (nI n) by1 x = some (r, nI n', by') ∧ f_X5_type (nI n) tx x = some (r, nI n', tx') ∧ TX n' by' tx' c' := by
  have hn := h.1
  unfold f_X4_type f_X5_type f_X2_add
  rcases isN_dec 256 x with ⟨v, hv, rfl⟩ | q
  · rw [if_neg (n_nneg (by omega)), i_leL (by omega) (by omega), in_1 (n_nneg (by omega)) (by rw [show (255 : Int32) = nI 255 from rfl, nlt (by omega) (by omega)]; omega), Option.bind_some, if_neg ne10]
    by_cases c1 : n < 180
    · rw [i_ltL c1 (by omega), i_neL (by omega) (by omega) (by omega), i_in c1 (by omega), i_in c1 (by omega), Option.bind_some]
      dsimp only
      rw [if_neg ne10, f_X2_length, Option.bind_some, nI_1, ncl (by omega)]
      refine ⟨_, n + 1, _, _, fun j => if j = n then v else c j, rfl, rfl, by omega, fun j hj => ?_⟩
      simp only [upd_if]
      by_cases e : j = n
      · rw [if_pos e, if_pos e, if_pos e]; exact ⟨rfl, rfl, hv⟩
      · rw [if_neg e, if_neg e, if_neg e]; exact h.2 j (by omega)
    · rw [i_nltL (by omega) (by omega), i_eqL (show n = 180 by omega), Option.bind_some]
      dsimp only
      rw [if_pos rfl]
      exact ⟨_, n, by1, tx, c, rfl, rfl, h⟩
  · have e : f_X5_in x 0 255 = some 0 := in_0 (by
      rcases notN q with w | ⟨k, h1, h2, rfl⟩
      · exact Or.inl w
      · right; rw [show (255 : Int32) = nI 255 from rfl, nlt (by omega) h1]; omega)
    rw [e, Option.bind_some, if_pos rfl]
    rcases notN q with w | ⟨k, h1, h2, rfl⟩
    · rw [if_pos w]; exact ⟨_, n, by1, tx, c, rfl, rfl, h⟩
    · rw [if_neg (n_nneg h1), i_nleL (by omega) h1]; exact ⟨_, n, by1, tx, c, rfl, rfl, h⟩
theorem TX_0 (by1 tx : Nat → Int32) (c : Nat → Nat) : TX 0 by1 tx c := ⟨by omega, fun j hj => absurd hj (Nat.not_lt_zero j)⟩
theorem s_clear (n : Nat) : f_X4_clear (nI n) = some (nI n, 0) ∧ f_X5_clear (nI n) = some (nI n, 0) := ⟨rfl, rfl⟩
theorem s_count {a b : Nat} {T fO fD cr S ld lo nt : Nat → Int32} {nO nD ck lc noted : Int32} (h : RT a b T nO nD fO fD) (hc : RC a b ck cr S 0) (hl : RL_ a b lc ld lo noted nt) (n : Nat) (x : Int32) : ∃ r, f_X4_count lc (nI n) ck nO nD x = some r ∧ f_X5_count (nI n) noted S T x = some r := by
  obtain ⟨hV, rfl, rfl, -⟩ := h
  obtain ⟨kk, R, rfl, -, hS, -⟩ := hc
  obtain ⟨cc, -, -, -, rfl, rfl, -⟩ := hl
  unfold f_X4_count f_X5_count f_X3_ovens f_X3_doughs f_X0_known f_X2_length
  simp only [Option.bind_some]
  rw [hV.2.2.1, hV.2.2.2.1, show S 14 = nI kk from hS.1]
  refine both rfl ?_
  repeat' split
  all_goals exact ⟨_, rfl⟩
end X
