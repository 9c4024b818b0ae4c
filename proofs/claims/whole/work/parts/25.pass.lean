/-! a minute goes by -/
def b1 (T N : Nat → Int32) (b d : Nat) : Nat → Int32 := fun j => if 6 ≤ j ∧ j < 6 + d ∧ ¬ N (j - 6) < 0 then N j + hotI T N b (N (j - 6)).toNatClampNeg else N j
def b2 (T N : Nat → Int32) (b d : Nat) : Nat → Int32 := fun j => if j < d ∧ ¬ N j < 0 ∧ ¬ b1 T N b b (6 + j) < T (25 + j) then -5 else b1 T N b b j
def passN (T N : Nat → Int32) (b : Nat) : Nat → Int32 := fun j => if j = 13 then N 13 + 1 else b2 T N b b j
theorem hotI_congr {T N N' : Nat → Int32} {b o : Nat} (h : ∀ d, d < b → N d = N' d) : hotI T N b o = hotI T N' b o := by rw [hotI, hotI, wb_congr h]
theorem b1_lo {T N : Nat → Int32} {b d j : Nat} (h : j < 6) : b1 T N b d j = N j := if_neg (by omega)
theorem b1_0 {T N : Nat → Int32} {b j : Nat} : b1 T N b 0 j = N j := if_neg (by omega)
theorem b1_s {T N : Nat → Int32} {b d : Nat} (j : Nat) : b1 T N b (d + 1) j = if j = 6 + d then (if N d < 0 then N (6 + d) else N (6 + d) + hotI T N b (N d).toNatClampNeg) else b1 T N b d j := by
  unfold b1
  by_cases e : j = 6 + d
  · subst e
    rw [if_pos rfl, show 6 + d - 6 = d by omega]
    by_cases c : N d < 0
    · rw [if_pos c, if_neg (fun z => z.2.2 c)]
    · rw [if_neg c, if_pos ⟨by omega, by omega, c⟩]
  · rw [if_neg e]
    by_cases c : 6 ≤ j ∧ j < 6 + d ∧ ¬ N (j - 6) < 0
    · rw [if_pos c, if_pos ⟨c.1, by omega, c.2.2⟩]
    · rw [if_neg c, if_neg (fun z => c ⟨z.1, by omega, z.2.2⟩)]
theorem b1_at {T N : Nat → Int32} {b d : Nat} : b1 T N b d (6 + d) = N (6 + d) := if_neg (by omega)
theorem b2_0 {T N : Nat → Int32} {b j : Nat} : b2 T N b 0 j = b1 T N b b j := if_neg (by omega)
theorem b2_s {T N : Nat → Int32} {b d : Nat} (j : Nat) : b2 T N b (d + 1) j = if j = d then (if ¬ N d < 0 ∧ ¬ b1 T N b b (6 + d) < T (25 + d) then -5 else b1 T N b b d) else b2 T N b d j := by
  unfold b2
  by_cases e : j = d
  · subst e
    rw [if_pos rfl]
    by_cases c : ¬ N j < 0 ∧ ¬ b1 T N b b (6 + j) < T (25 + j)
    · rw [if_pos c, if_pos ⟨by omega, c⟩]
    · rw [if_neg c, if_neg (fun z => c z.2)]
  · rw [if_neg e]
    by_cases c : j < d ∧ ¬ N j < 0 ∧ ¬ b1 T N b b (6 + j) < T (25 + j)
    · rw [if_pos c, if_pos ⟨by omega, c.2⟩]
    · rw [if_neg c, if_neg (fun z => c ⟨by omega, z.2⟩)]
theorem b2_ge {T N : Nat → Int32} {b d j : Nat} (h : d ≤ j) : b2 T N b d j = b1 T N b b j := if_neg (by omega)
/-- how many are done in it -/
def cnN (T N : Nat → Int32) (b : Nat) : Nat → Int32
  | 0 => 0
  | d + 1 => if ¬ N d < 0 ∧ ¬ b1 T N b b (6 + d) < T (25 + d) then cnN T N b d + 1 else cnN T N b d
section V
variable {a b kk : Nat} {T N fO fD rows S : Nat → Int32}
theorem RP.cases (ha : a ≤ 5) (h : RP a b N) {d : Nat} (hd : d < b) : (N d < 0 ∧ ¬ isN a (N d)) ∨ ∃ o, o < a ∧ N d = nI o := by
  rcases h d hd with q | q | ⟨o, ho, q⟩
  · exact Or.inl ⟨by rw [q]; decide, fun ⟨o, ho, z⟩ => m9_n (show o < 2147483648 by omega) (z.symm.trans q)⟩
  · exact Or.inl ⟨by rw [q]; decide, fun ⟨o, ho, z⟩ => m5_n (show o < 2147483648 by omega) (z.symm.trans q)⟩
  · exact Or.inr ⟨o, ho, q⟩
/-! the model -/
theorem m_pass1 (hV : TV a b T) (hR : RP a b N) (x1 : Int32) : ∀ (m d fuel : Nat) (s : Nat → Int32), d + m = b → m < fuel → (∀ j, j < 14 → s j = b1 T N b d j) → (∀ j, 14 ≤ j → s j = S j) → ∃ s', f_X5_passes_4 T fuel s x1 (nI d) = f_X5_passes_57 T FU s' x1 0 ∧ (∀ j, j < 14 → s' j = b1 T N b b j) ∧ ∀ j, 14 ≤ j → s' j = S j := by
  have ha := hV.1
  have hb := hV.2.1
  have hT1 := hV.2.2.2.1
  intro m
  induction m with
  | zero =>
    intro d fuel s hd hf h1 h2
    obtain ⟨n, rfl⟩ : ∃ n, fuel = n + 1 := ⟨fuel - 1, by omega⟩
    refine ⟨s, ?_, ?_, h2⟩
    · rw [f_X5_passes_4, hT1, i_le (by omega) (by omega)]
    · rw [show d = b by omega] at h1; exact h1
  | succ m ih =>
    intro d fuel s hd hf h1 h2
    obtain ⟨n, rfl⟩ : ∃ n, fuel = n + 1 := ⟨fuel - 1, by omega⟩
    rw [f_X5_passes_4, hT1, i_nle (by omega) (by omega)]
    simp (disch := omega) only [Lan, i_in, ncl, nI_1]
    have e1 : s d = N d := by rw [h1 d (by omega), b1_lo (by omega)]
    have e2 : s (6 + d) = N (6 + d) := by rw [h1 (6 + d) (by omega), b1_at]
    rw [e1, show s ((6 : Nat) + d) = N (6 + d) from e2]
    have hot_e : ∀ o, hotI T (b1 T N b d) b o = hotI T N b o := fun o => hotI_congr (fun e he => b1_lo (by omega))
    rcases hR.cases ha (show d < b by omega) with ⟨q, -⟩ | ⟨o, ho, q⟩
    · rw [if_pos q, f_X5_passes_47, i_in (by omega) (by omega), ncl (by omega), add_0, nI_1]
      refine ih (d + 1) n _ (by omega) (by omega) (fun j hj => ?_) (fun j hj => ?_)
      · rw [upd_if, b1_s, if_pos q, h1 j hj]
      · rw [upd_n (by omega)]; exact h2 j hj
    · have hq : ¬ N d < 0 := by rw [q]; exact n_nneg (by omega)
      rw [if_neg hq, q, m_hot hT1 h1 hb (by omega), Option.bind_some, hot_e, f_X5_passes_47, i_in (by omega) (by omega), ncl (by omega), nI_1]
      refine ih (d + 1) n _ (by omega) (by omega) (fun j hj => ?_) (fun j hj => ?_)
      · rw [upd_if, b1_s, if_neg hq, q, ncl (by omega), h1 j hj]
      · rw [upd_n (by omega)]; exact h2 j hj
theorem m_pass2 (hV : TV a b T) (hR : RP a b N) : ∀ (m d fuel : Nat) (s : Nat → Int32), d + m = b → m < fuel → (∀ j, j < 14 → s j = b2 T N b d j) → (∀ j, 14 ≤ j → s j = S j) → ∃ s', f_X5_passes_57 T fuel s (cnN T N b d) (nI d) = some (cnN T N b b, s') ∧ (∀ j, j < 14 → s' j = passN T N b j) ∧ ∀ j, 14 ≤ j → s' j = S j := by
  have ha := hV.1
  have hb := hV.2.1
  have hT1 := hV.2.2.2.1
  intro m
  induction m with
  | zero =>
    intro d fuel s hd hf h1 h2
    obtain ⟨n, rfl⟩ : ∃ n, fuel = n + 1 := ⟨fuel - 1, by omega⟩
    have e : d = b := by omega
    subst e
    refine ⟨upd s 13 (s 13 + 1), ?_, fun j hj => ?_, fun j hj => ?_⟩
    · rw [f_X5_passes_57, hT1, i_le (by omega) (by omega)]
    · rw [upd_if, passN]
      by_cases c : j = 13
      · rw [if_pos c, if_pos c, h1 13 (by omega), b2_ge (by omega), b1, if_neg (by omega)]
      · rw [if_neg c, if_neg c, h1 j hj]
    · rw [upd_n (by omega)]; exact h2 j hj
  | succ m ih =>
    intro d fuel s hd hf h1 h2
    obtain ⟨n, rfl⟩ : ∃ n, fuel = n + 1 := ⟨fuel - 1, by omega⟩
    rw [f_X5_passes_57, hT1, i_nle (by omega) (by omega)]
    simp (disch := omega) only [Lan, i_in, ncl, nI_1]
    have e1 : s d = N d := by rw [h1 d (by omega), b2_ge (by omega), b1_lo (by omega)]
    have e2 : s (6 + d) = b1 T N b b (6 + d) := by rw [h1 (6 + d) (by omega), b2_ge (by omega)]
    rw [e1, show s ((6 : Nat) + d) = b1 T N b b (6 + d) from e2, show T ((25 : Nat) + d) = T (25 + d) from rfl]
    by_cases q : N d < 0
    · rw [if_pos q]
      have hc : ¬ (¬ N d < 0 ∧ ¬ b1 T N b b (6 + d) < T (25 + d)) := fun z => z.1 q
      have := ih (d + 1) n s (by omega) (by omega) (fun j hj => by
        rw [b2_s, if_neg hc]
        by_cases e : j = d
        · rw [if_pos e, e, e1, b1_lo (by omega)]
        · rw [if_neg e]; exact h1 j hj) h2
      rw [cnN, if_neg hc] at this; exact this
    · rw [if_neg q]
      by_cases q2 : b1 T N b b (6 + d) < T (25 + d)
      · rw [if_pos q2]
        have hc : ¬ (¬ N d < 0 ∧ ¬ b1 T N b b (6 + d) < T (25 + d)) := fun z => z.2 q2
        have := ih (d + 1) n s (by omega) (by omega) (fun j hj => by
          rw [b2_s, if_neg hc]
          by_cases e : j = d
          · rw [if_pos e, e, e1, b1_lo (by omega)]
          · rw [if_neg e]; exact h1 j hj) h2
        rw [cnN, if_neg hc] at this; exact this
      · rw [if_neg q2]
        have hc : ¬ N d < 0 ∧ ¬ b1 T N b b (6 + d) < T (25 + d) := ⟨q, q2⟩
        have := ih (d + 1) n (upd s d (-5)) (by omega) (by omega) (fun j hj => by
          rw [b2_s, if_pos hc, upd_if]
          by_cases e : j = d
          · rw [if_pos e, if_pos e]
          · rw [if_neg e, if_neg e]; exact h1 j hj) (fun j hj => by rw [upd_n (by omega)]; exact h2 j hj)
        rw [cnN, if_pos hc] at this; exact this
theorem m_passes (hV : TV a b T) (hR : RP a b N) (hS : ∀ j, j < 14 → S j = N j) : ∃ s', f_X5_passes T S = some (cnN T N b b, s') ∧ (∀ j, j < 14 → s' j = passN T N b j) ∧ ∀ j, 14 ≤ j → s' j = S j := by
  have hb := hV.2.1
  obtain ⟨s1, h1, h2, h3⟩ := m_pass1 (S := S) hV hR 0 b 0 FU S (by omega) (by rw [FU_v]; omega) (fun j hj => by rw [b1_0]; exact hS j hj) (fun _ _ => rfl)
  obtain ⟨s2, g1, g2, g3⟩ := m_pass2 (S := S) hV hR b 0 FU s1 (by omega) (by rw [FU_v]; omega) (fun j hj => by rw [b2_0]; exact h2 j hj) h3
  refine ⟨s2, ?_, g2, g3⟩
  unfold f_X5_passes
  exact h1.trans g1
/-! the class -/
theorem VN.of {N' rows' : Nat → Int32} (h : kk ≤ 10) (h2 : ∀ j, j < 14 → rows' (kk * 14 + pj j) = N' j) : VN kk N' rows' := ⟨h, h2⟩
theorem row_upd (h : VN kk N rows) {i : Nat} (hi : i < 14) (x : Int32) : VN kk (upd N i x) (upd rows (kk * 14 + pj i) x) := ⟨h.1, fun j hj => by
  rw [upd_if, upd_if]
  by_cases e : j = i
  · rw [if_pos e, e, if_pos rfl]
  · rw [if_neg e, if_neg (fun z => e (pj_inj hj hi (by omega)))]; exact h.2 j hj⟩
theorem VN.congr {N' : Nat → Int32} (h : VN kk N rows) (he : ∀ j, j < 14 → N j = N' j) : VN kk N' rows := ⟨h.1, fun j hj => (h.2 j hj).trans (he j hj)⟩
theorem c_pass1 (hO : VO a T fO) (hD : VD b T fD) (hR : RP a b N) : ∀ (m d fuel : Nat) (rw_ : Nat → Int32), d + m = b → m < fuel → VN kk (b1 T N b d) rw_ → (∀ q, q < kk * 14 → rw_ q = rows q) → ∃ r', f_X0_passMinute_17 (nI kk) (nI a) (nI b) fO fD fuel rw_ (nI d) = f_X0_passMinute_72 (nI kk) (nI a) (nI b) fO fD FU r' 0 ∧ VN kk (b1 T N b b) r' ∧ ∀ q, q < kk * 14 → r' q = rows q := by
  have ha := hO.1
  have hb := hD.1
  intro m
  induction m with
  | zero =>
    intro d fuel r hd hf h1 h2
    obtain ⟨n, rfl⟩ : ∃ n, fuel = n + 1 := ⟨fuel - 1, by omega⟩
    refine ⟨r, ?_, ?_, h2⟩
    · rw [f_X0_passMinute_17, f_X3_doughs, Option.bind_some, i_le (by omega) (by omega)]
    · rw [show d = b by omega] at h1; exact h1
  | succ m ih =>
    intro d fuel r hd hf h1 h2
    obtain ⟨n, rfl⟩ : ∃ n, fuel = n + 1 := ⟨fuel - 1, by omega⟩
    have hk := h1.1
    rw [f_X0_passMinute_17, f_X3_doughs, Option.bind_some, i_nle (by omega) (by omega), c_place h1 (by omega), Option.bind_some, b1_lo (by omega), nI_1]
    have hot_e : ∀ o, hotI T (b1 T N b d) b o = hotI T N b o := fun o => hotI_congr (fun e he => b1_lo (by omega))
    rcases hR.cases ha (show d < b by omega) with ⟨q, qn⟩ | ⟨o, ho, q⟩
    · rw [c_hasO_n ha qn, Option.bind_some, if_pos rfl]
      refine ih (d + 1) n r (by omega) (by omega) (h1.congr (fun j hj => ?_)) h2
      rw [b1_s, if_pos q]
      by_cases e : j = 6 + d
      · rw [if_pos e, e, b1_at]
      · rw [if_neg e]
    · have hq : ¬ N d < 0 := by rw [q]; exact n_nneg (by omega)
      rw [q, c_hasO_y ha ho, Option.bind_some, if_neg (by decide), f_X0_base, Option.bind_some, Option.bind_some, c_hot h1 hO hb ho, Option.bind_some, hot_e]
      simp (disch := omega) only [nmL, naL, nI_add, i_in, ncl]
      have e6 : r (kk * 14 + 8 + d) = N (6 + d) := by
        have := h1.2 (6 + d) (by omega)
        rw [pj_lo (by omega), b1_at] at this
        rw [← this]; exact ap _ (by omega)
      rw [e6, show kk * 14 + 8 + d = kk * 14 + pj (6 + d) by rw [pj_lo (by omega)]; omega]
      refine ih (d + 1) n _ (by omega) (by omega) ((row_upd h1 (by omega) _).congr (fun j hj => ?_)) (fun p hp => ?_)
      · rw [upd_if, b1_s, if_neg hq, q, ncl (by omega)]
      · rw [upd_n (by omega)]; exact h2 p hp
theorem c_pass2 (hO : VO a T fO) (hD : VD b T fD) (hR : RP a b N) : ∀ (m d fuel : Nat) (rw_ : Nat → Int32), d + m = b → m < fuel → VN kk (b2 T N b d) rw_ → (∀ q, q < kk * 14 → rw_ q = rows q) → ∃ r', f_X0_passMinute_72 (nI kk) (nI a) (nI b) fO fD fuel rw_ (nI d) = some r' ∧ VN kk (b2 T N b b) r' ∧ ∀ q, q < kk * 14 → r' q = rows q := by
  have ha := hO.1
  have hb := hD.1
  intro m
  induction m with
  | zero =>
    intro d fuel r hd hf h1 h2
    obtain ⟨n, rfl⟩ : ∃ n, fuel = n + 1 := ⟨fuel - 1, by omega⟩
    refine ⟨r, ?_, ?_, h2⟩
    · rw [f_X0_passMinute_72, f_X3_doughs, Option.bind_some, i_le (by omega) (by omega)]
    · rw [show d = b by omega] at h1; exact h1
  | succ m ih =>
    intro d fuel r hd hf h1 h2
    obtain ⟨n, rfl⟩ : ∃ n, fuel = n + 1 := ⟨fuel - 1, by omega⟩
    have hk := h1.1
    rw [f_X0_passMinute_72, f_X3_doughs, Option.bind_some, i_nle (by omega) (by omega), c_place h1 (by omega), Option.bind_some, b2_ge (by omega), b1_lo (by omega), nI_1]
    have same : ¬ (¬ N d < 0 ∧ ¬ b1 T N b b (6 + d) < T (25 + d)) → ∀ j, j < 14 → b2 T N b d j = b2 T N b (d + 1) j := fun hc j hj => by
      rw [b2_s, if_neg hc]
      by_cases e : j = d
      · rw [if_pos e, e, b2_ge (by omega)]
      · rw [if_neg e]
    rcases hR.cases ha (show d < b by omega) with ⟨q, qn⟩ | ⟨o, ho, q⟩
    · rw [c_hasO_n ha qn, Option.bind_some, if_pos rfl]
      exact ih (d + 1) n r (by omega) (by omega) (h1.congr (same (fun z => z.1 q))) h2
    · have hq : ¬ N d < 0 := by rw [q]; exact n_nneg (by omega)
      rw [q, c_hasO_y ha ho, Option.bind_some, if_neg (by decide), c_baked h1 (by omega), b2_ge (by omega), Option.bind_some, ofD2 hD (by omega), Option.bind_some]
      by_cases q2 : b1 T N b b (6 + d) < T (25 + d)
      · rw [if_pos q2]
        exact ih (d + 1) n r (by omega) (by omega) (h1.congr (same (fun z => z.2 q2))) h2
      · rw [if_neg q2, f_X0_base, Option.bind_some]
        simp (disch := omega) only [nmL, naL, nI_add, i_in, ncl]
        rw [show kk * 14 + 2 + d = kk * 14 + pj d by rw [pj_lo (by omega)]; omega]
        refine ih (d + 1) n _ (by omega) (by omega) ((row_upd h1 (by omega) _).congr (fun j hj => ?_)) (fun p hp => ?_)
        · rw [upd_if, b2_s]
          by_cases e : j = d
          · rw [if_pos e, if_pos e, if_pos ⟨hq, q2⟩]
          · rw [if_neg e, if_neg e]
        · rw [upd_n (by omega)]; exact h2 p hp
theorem pass_M {T N : Nat → Int32} {b : Nat} (hb : b ≤ 6) (x : Int32) (hx : x = N 13 + 1) : ∀ j, j < 14 → b2 T (upd N 13 x) b b j = passN T N b j := by
  have e6 : ∀ d, d < 13 → upd N 13 x d = N d := fun d hd => upd_n (by omega)
  have h1 : ∀ j, j < 13 → b1 T (upd N 13 x) b b j = b1 T N b b j := fun j hj => by
    unfold b1
    rw [e6 j hj]
    by_cases c : 6 ≤ j ∧ j < 6 + b
    · rw [e6 (j - 6) (by omega), hotI_congr (N' := N) (fun d hd => e6 d (by omega))]
    · rw [if_neg (fun z => c ⟨z.1, z.2.1⟩), if_neg (fun z => c ⟨z.1, z.2.1⟩)]
  intro j hj
  rw [passN]
  by_cases c : j = 13
  · rw [if_pos c, c, b2_ge (by omega), b1, if_neg (by omega), upd_s, hx]
  · rw [if_neg c]
    unfold b2
    by_cases c2 : j < b
    · rw [e6 j (by omega), h1 (6 + j) (by omega), h1 j (by omega)]
    · rw [if_neg (fun z => c2 z.1), if_neg (fun z => c2 z.1), h1 j (by omega)]
theorem c_pass (h : VN kk N rows) (hO : VO a T fO) (hD : VD b T fD) (hR : RP a b N) : ∃ r', f_X0_passMinute (nI kk) (nI a) (nI b) fO fD rows = some r' ∧ VN kk (passN T N b) r' ∧ ∀ q, q < kk * 14 → r' q = rows q := by
  have hb := hD.1
  have hk := h.1
  have e13 : rows (kk * 14 + 0) = N 13 := h.2 13 (by omega)
  have hM : VN kk (upd N 13 (N 13 + 1)) (upd rows (kk * 14 + 0) (rows (kk * 14 + 0) + 1)) := by
    rw [e13]; exact row_upd h (i := 13) (by omega) (N 13 + 1)
  have hR' : RP a b (upd N 13 (N 13 + 1)) := fun d hd => by rw [upd_n (by omega)]; exact hR d hd
  obtain ⟨r1, h1, h2, h3⟩ := c_pass1 (rows := rows) hO hD hR' b 0 FU _ (by omega) (by rw [FU_v]; omega) (hM.congr (fun j _ => b1_0.symm)) (fun q hq => upd_n (by omega))
  obtain ⟨r2, g1, g2, g3⟩ := c_pass2 (rows := rows) hO hD hR' b 0 FU r1 (by omega) (by rw [FU_v]; omega) (h2.congr (fun j _ => b2_0.symm)) h3
  refine ⟨r2, ?_, g2.congr (pass_M hb _ rfl), g3⟩
  unfold f_X0_passMinute f_X0_base
  rw [Option.bind_some]
  simp (disch := omega) only [nmL, naL, nI_add, i_in, ncl]
  exact h1.trans g1
/-! what stays true -/
theorem pass_lo {T N : Nat → Int32} {b d : Nat} (hd : d < b) (hb : b ≤ 6) : passN T N b d = if ¬ N d < 0 ∧ ¬ b1 T N b b (6 + d) < T (25 + d) then -5 else N d := by
  rw [passN, if_neg (by omega), b2, b1_lo (j := d) (by omega)]
  by_cases c : ¬ N d < 0 ∧ ¬ b1 T N b b (6 + d) < T (25 + d)
  · rw [if_pos c, if_pos ⟨hd, c⟩]
  · rw [if_neg c, if_neg (fun z => c z.2)]
theorem pass_RP (hb : b ≤ 6) (h : RP a b N) : RP a b (passN T N b) := fun d hd => by
  rw [pass_lo hd hb]
  by_cases c : ¬ N d < 0 ∧ ¬ b1 T N b b (6 + d) < T (25 + d)
  · rw [if_pos c]; exact Or.inr (Or.inl rfl)
  · rw [if_neg c]; exact h d hd
theorem pass_out (hb : b ≤ 6) {d : Nat} (hd : d < b) (h : passN T N b d = -9) : N d = -9 := by
  rw [pass_lo hd hb] at h
  by_cases c : ¬ N d < 0 ∧ ¬ b1 T N b b (6 + d) < T (25 + d)
  · rw [if_pos c] at h; exact absurd h (by decide)
  · rw [if_neg c] at h; exact h
theorem pass_bk (hb : b ≤ 6) {d : Nat} (hd : d < b) (h : N d < 0) : passN T N b (6 + d) = N (6 + d) := by
  rw [passN, if_neg (by omega), b2_ge (by omega), b1, show 6 + d - 6 = d by omega, if_neg (fun z => z.2.2 h)]
theorem pass_12 (hb : b ≤ 6) : passN T N b 12 = N 12 := by
  rw [passN, if_neg (by omega), b2_ge (by omega), b1, if_neg (by omega)]
theorem pass_13 : passN T N b 13 = N 13 + 1 := if_pos rfl
/-! counts -/
def ct (N : Nat → Int32) (pl : Int32) : Nat → Int32
  | 0 => 0
  | d + 1 => if N d = pl then ct N pl d + 1 else ct N pl d
theorem on_bit : ∀ d w : Nat, d < 6 → w < 2 ^ d → on (nI (w ||| 2 ^ d)) 6 = on (nI w) 6 + 1 := by
  have h : ∀ d : Fin 6, ∀ w : Fin 32, w.val < 2 ^ d.val → on (nI (w.val ||| 2 ^ d.val)) 6 = on (nI w.val) 6 + 1 := by decide +kernel
  exact fun d w hd hw => h ⟨d, hd⟩ ⟨w, Nat.lt_of_lt_of_le hw (Nat.pow_le_pow_right (by decide) (by omega : d ≤ 5))⟩ hw
theorem on_wb (N : Nat → Int32) (pl : Int32) : ∀ b : Nat, b ≤ 6 → on (wb N pl b) 6 = ct N pl b
  | 0, _ => by show on 0 6 = 0; decide
  | d + 1, h => by
    have ih := on_wb N pl d (by omega)
    obtain ⟨w, h1, h2⟩ := wb_n N pl d (by omega)
    rw [wb, ct]
    by_cases c : N d = pl
    · rw [if_pos c, if_pos c, h2, bit_n d (by omega), n_or, on_bit d w (by omega) h1, ← ih, h2]
    · rw [if_neg c, if_neg c]; exact ih
theorem ct_pass {T N : Nat → Int32} {b : Nat} (hb : b ≤ 6) : ∀ d : Nat, d ≤ b → ct (passN T N b) (-5) d = ct N (-5) d + cnN T N b d
  | 0, _ => by show (0 : Int32) = 0 + 0; decide
  | d + 1, h => by
    have ih := ct_pass (T := T) (N := N) hb d (by omega)
    rw [ct, ct, cnN, pass_lo (by omega) hb]
    by_cases c : ¬ N d < 0 ∧ ¬ b1 T N b b (6 + d) < T (25 + d)
    · have : ¬ N d = -5 := fun z => c.1 (by rw [z]; decide)
      rw [if_pos c, if_pos c, if_pos rfl, if_neg this, ih]; grind
    · rw [if_neg c, if_neg c]
      by_cases e : N d = -5
      · rw [if_pos e, if_pos e, ih]; grind
      · rw [if_neg e, if_neg e, ih]
end V
