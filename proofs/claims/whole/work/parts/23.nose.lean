/-! smells and noses -/
def by_ (T : Nat → Int32) (d e : Nat) : Int32 := (T (13 + d) - T (19 + d)) * (T (13 + e) - T (19 + e))
def sml (T N : Nat → Int32) (o d : Nat) : Nat → Int32
  | 0 => T (8 + o) - 9
  | e + 1 => if N e = nI o then sml T N o d e + by_ T d e else sml T N o d e
def smV (T N : Nat → Int32) (b : Nat) (van : Int32) (d o : Nat) : Int32 := if van = nI o then sml T N o d b + 9 * (T (13 + d) - T (19 + d)) else sml T N o d b
theorem ring1 (p q x y : Int32) : p * x + q * y - p * y - q * x = (p - q) * (x - y) := by grind
theorem ring2 (p q : Int32) : p * 9 + q * 0 - p * 0 - q * 9 = 9 * (p - q) := by grind
theorem add_0 (x : Int32) : x + 0 = x := by grind
/-- bounds of what was told -/
def TV (a b : Nat) (T : Nat → Int32) : Prop := a ≤ 5 ∧ b ≤ 6 ∧ T 0 = nI a ∧ T 1 = nI b ∧
  (∀ o, o < a → (∃ h, T (3 + o) = nI h ∧ h ≤ 40) ∧ ∃ g, T (8 + o) = nI g ∧ g ≤ 18) ∧
  ∀ d, d < b → (∃ x, T (13 + d) = nI x ∧ x ≤ 9) ∧ (∃ x, T (19 + d) = nI x ∧ x ≤ 9) ∧ (∃ x, T (25 + d) = nI x ∧ 1 ≤ x ∧ x ≤ 99) ∧ (∃ x, T (31 + d) = nI x ∧ x ≤ 60) ∧ ∃ x, T (37 + d) = nI x ∧ x ≤ 99
/-- places of the doughs NOW -/
def RP (a b : Nat) (N : Nat → Int32) : Prop := ∀ d, d < b → N d = -9 ∨ N d = -5 ∨ isN a (N d)
section V
variable {a b kk : Nat} {T N fO fD rows S : Nat → Int32}
theorem c_lik (hD : VD b T fD) {d : Nat} (hd : d < b) (x y : Int32) : f_X4_liking (nI b) fD (nI d) x y = some ((T (13 + d) - T (19 + d)) * (x - y)) := by
  unfold f_X4_liking
  rw [ofD0 hD hd, Option.bind_some, ofD1 hD hd, Option.bind_some, ring1]
theorem c_sml_l (h : VN kk N rows) (hD : VD b T fD) {o d : Nat} (hd : d < b) (van : Int32) : ∀ (m e fuel : Nat), e + m = b → m < fuel → f_X4_smellOf_17 (nI a) (nI b) (nI kk) fO rows fD fuel (nI o) (nI d) van (sml T N o d e) (nI e) = some (smV T N b van d o) := by
  have hb := hD.1
  intro m
  induction m with
  | zero =>
    intro e fuel hd2 hf
    obtain ⟨n, rfl⟩ : ∃ n, fuel = n + 1 := ⟨fuel - 1, by omega⟩
    rw [f_X4_smellOf_17, f_X3_doughs, Option.bind_some, i_le (by omega) (by omega), show e = b by omega, smV]
    by_cases q : van = nI o
    · rw [if_pos q, if_pos q, c_lik hD hd, Option.bind_some, show ∀ x : Int32, x * (9 - 0) = 9 * x from fun x => by grind]
    · rw [if_neg q, if_neg q]
  | succ m ih =>
    intro e fuel hd2 hf
    obtain ⟨n, rfl⟩ : ∃ n, fuel = n + 1 := ⟨fuel - 1, by omega⟩
    have h2 := ih (e + 1) n (by omega) (by omega)
    rw [f_X4_smellOf_17, f_X3_doughs, Option.bind_some, i_nle (by omega) (by omega), c_place h (by omega), Option.bind_some, nI_1]
    by_cases c : N e = nI o
    · rw [if_pos c, ofD0 hD (by omega), Option.bind_some, ofD1 hD (by omega), Option.bind_some, c_lik hD hd, Option.bind_some]; rw [sml, if_pos c] at h2; exact h2
    · rw [if_neg c]; rw [sml, if_neg c] at h2; exact h2
theorem c_sml (h : VN kk N rows) (hO : VO a T fO) (hD : VD b T fD) {o d : Nat} (ho : o < a) (hd : d < b) (van : Int32) : f_X4_smellOf (nI a) (nI b) (nI kk) fO rows fD (nI o) (nI d) van = some (smV T N b van d o) := by
  have hb := hD.1
  unfold f_X4_smellOf
  rw [ofO1 hO ho, Option.bind_some]
  exact c_sml_l h hD hd van b 0 FU (by omega) (by rw [FU_v]; omega)
theorem m_sml_l (hT : T 1 = nI b) (hS : ∀ j, j < 14 → S j = N j) (hb : b ≤ 6) {o d : Nat} (hd : d < b) : ∀ (m e fuel : Nat), e + m = b → m < fuel → f_X5_smellOf_16 T S fuel (nI o) (nI d) (sml T N o d e) (nI e) = some (sml T N o d b) := by
  intro m
  induction m with
  | zero =>
    intro e fuel hd2 hf
    obtain ⟨n, rfl⟩ : ∃ n, fuel = n + 1 := ⟨fuel - 1, by omega⟩
    rw [f_X5_smellOf_16, hT, i_le (by omega) (by omega), show e = b by omega]
  | succ m ih =>
    intro e fuel hd2 hf
    obtain ⟨n, rfl⟩ : ∃ n, fuel = n + 1 := ⟨fuel - 1, by omega⟩
    have h2 := ih (e + 1) n (by omega) (by omega)
    rw [f_X5_smellOf_16, hT, i_nle (by omega) (by omega)]
    simp (disch := omega) only [Lan, i_in, ncl]
    rw [hS e (by omega)]
    by_cases c : N e = nI o
    · rw [if_pos c, f_X5_smellOf_88, nI_1]; rw [sml, if_pos c] at h2; exact h2
    · rw [if_neg c, f_X5_smellOf_88, nI_1, add_0]; rw [sml, if_neg c] at h2; exact h2
theorem m_sml (hT : T 1 = nI b) (hS : ∀ j, j < 14 → S j = N j) (hb : b ≤ 6) {o d : Nat} (ho : o < 5) (hd : d < b) : f_X5_smellOf T S (nI o) (nI d) = some (sml T N o d b) := by
  unfold f_X5_smellOf
  simp (disch := omega) only [Lan, i_in, ncl]
  exact m_sml_l hT hS hb hd b 0 FU (by omega) (by rw [FU_v]; omega)
theorem c_isOut (h : VN kk N rows) {d : Nat} (hd : d < 6) : f_X4_isOut (nI kk) rows (nI d) = some (if N d = -9 then 1 else 0) := by
  unfold f_X4_isOut
  rw [c_place h hd, Option.bind_some]
  by_cases q : N d = -9
  · rw [if_pos q, if_pos q]
  · rw [if_neg q, if_neg q]
theorem m_isOut (hS : ∀ j, j < 14 → S j = N j) {d : Nat} (hd : d < 6) : f_X5_isOut S (nI d) = some (if N d = -9 then 1 else 0) := by
  unfold f_X5_isOut
  rw [i_in (by omega) (by omega), ncl (by omega), hS d (by omega)]
  by_cases q : N d = -9
  · rw [if_pos q, if_pos q]
  · rw [if_neg q, if_neg q]
/-! the bounds of a smell -/
theorem d_bd {x y : Nat} (hx : x ≤ 9) (hy : y ≤ 9) : (nI x - nI y).toInt = (x : Int) - y := by
  rw [t_sub] <;> rw [t_n (by omega), t_n (by omega)] <;> omega
theorem p_bd {u v : Int} (h1 : -9 ≤ u) (h2 : u ≤ 9) (h3 : -9 ≤ v) (h4 : v ≤ 9) : -81 ≤ u * v ∧ u * v ≤ 81 := by
  have key : ∀ u v : Fin 19, -81 ≤ ((u.val : Int) - 9) * ((v.val : Int) - 9) ∧ ((u.val : Int) - 9) * ((v.val : Int) - 9) ≤ 81 := by decide
  have := key ⟨(u + 9).toNat, by omega⟩ ⟨(v + 9).toNat, by omega⟩
  simp only [show (((u + 9).toNat : Nat) : Int) - 9 = u by omega, show (((v + 9).toNat : Nat) : Int) - 9 = v by omega] at this
  exact this
theorem by_bd (hV : TV a b T) {d e : Nat} (hd : d < b) (he : e < b) : -81 ≤ (by_ T d e).toInt ∧ (by_ T d e).toInt ≤ 81 := by
  obtain ⟨-, -, -, -, -, hV⟩ := hV
  obtain ⟨⟨x, hx, hx9⟩, ⟨y, hy, hy9⟩, -⟩ := hV d hd
  obtain ⟨⟨z, hz, hz9⟩, ⟨w, hw, hw9⟩, -⟩ := hV e he
  rw [by_, hx, hy, hz, hw]
  have h := p_bd (u := (x : Int) - y) (v := (z : Int) - w) (by omega) (by omega) (by omega) (by omega)
  rw [t_mul] <;> rw [d_bd hx9 hy9, d_bd hz9 hw9] <;> omega
theorem sml_bd (hV : TV a b T) {o d : Nat} (ho : o < a) (hd : d < b) : ∀ e : Nat, e ≤ b → -(9 + 81 * (e : Int)) ≤ (sml T N o d e).toInt ∧ (sml T N o d e).toInt ≤ 9 + 81 * (e : Int)
  | 0, _ => by
    obtain ⟨g, hg, hg2⟩ := (hV.2.2.2.2.1 o ho).2
    rw [sml, hg, t_sub] <;> rw [t_n (by omega), show (9 : Int32).toInt = 9 from by decide] <;> omega
  | e + 1, he => by
    have ih := sml_bd hV ho hd e (by omega)
    have hb := hV.2.1
    have h2 := by_bd hV hd (show e < b by omega)
    rw [sml]
    by_cases c : N e = nI o
    · rw [if_pos c, t_add] <;> omega
    · rw [if_neg c]; omega
theorem smV_bd (hV : TV a b T) (van : Int32) {o d : Nat} (ho : o < a) (hd : d < b) : -600 ≤ (smV T N b van d o).toInt ∧ (smV T N b van d o).toInt ≤ 600 := by
  have h := sml_bd (N := N) hV ho hd b (Nat.le_refl b)
  have hb := hV.2.1
  rw [smV]
  by_cases c : van = nI o
  · rw [if_pos c]
    obtain ⟨-, -, -, -, -, hV⟩ := hV
    obtain ⟨⟨x, hx, hx9⟩, ⟨y, hy, hy9⟩, -⟩ := hV d hd
    have h2 : ((9 : Int32) * (T (13 + d) - T (19 + d))).toInt = 9 * ((x : Int) - y) := by
      rw [hx, hy, t_mul] <;> rw [d_bd hx9 hy9, show (9 : Int32).toInt = 9 from by decide] <;> omega
    rw [t_add] <;> rw [h2] <;> omega
  · rw [if_neg c]; omega
end V
/-! the nose: the first of the greatest among the open ones -/
def nsF (σ : Nat → Int32) (op : Nat → Bool) : Nat → Int32 × Int32
  | 0 => (-9, -1000000)
  | o + 1 => if op o = true ∧ (nsF σ op o).2 < σ o then (nI o, σ o) else nsF σ op o
/-- the best of those below n -/
def IsB (σ : Nat → Int32) (op : Nat → Bool) (n o : Nat) : Prop := o < n ∧ op o = true ∧ ∀ p, p < n → op p = true → p ≠ o → σ p < σ o ∨ (σ p = σ o ∧ o < p)
theorem nsF_spec {σ : Nat → Int32} {op : Nat → Bool} : ∀ {n : Nat}, n ≤ 5 → (∀ o, o < n → (-1000000 : Int32) < σ o) → (nsF σ op n = (-9, -1000000) ∧ ∀ o, o < n → op o = false) ∨ ∃ o, nsF σ op n = (nI o, σ o) ∧ IsB σ op n o
  | 0, _, _ => Or.inl ⟨rfl, fun o h => absurd h (Nat.not_lt_zero o)⟩
  | n + 1, hn, hσ => by
    rcases nsF_spec (σ := σ) (op := op) (n := n) (by omega) (fun o ho => hσ o (by omega)) with ⟨h1, h2⟩ | ⟨o, h1, h2, h3, h4⟩
    · by_cases c : op n = true
      · refine Or.inr ⟨n, ?_, by omega, c, fun p hp hop hne => ?_⟩
        · rw [nsF, h1, if_pos ⟨c, hσ n (by omega)⟩]
        · rw [h2 p (by omega)] at hop; cases hop
      · refine Or.inl ⟨?_, fun o ho => ?_⟩
        · rw [nsF, if_neg (fun q => c q.1), h1]
        · by_cases e : o = n
          · rw [e]; simpa using c
          · exact h2 o (by omega)
    · by_cases c : op n = true ∧ σ o < σ n
      · refine Or.inr ⟨n, ?_, by omega, c.1, fun p hp hop hne => ?_⟩
        · rw [nsF, h1, if_pos c]
        · left
          by_cases e : p = o
          · rw [e]; exact c.2
          · rcases h4 p (by omega) hop e with q | ⟨q, -⟩
            · rw [t_lt] at q ⊢; have := c.2; rw [t_lt] at this; omega
            · rw [q]; exact c.2
      · refine Or.inr ⟨o, ?_, by omega, h3, fun p hp hop hne => ?_⟩
        · rw [nsF, h1, if_neg c]
        · by_cases e : p = n
          · subst e
            have hnl : ¬ σ o < σ p := fun q => c ⟨hop, q⟩
            rw [t_lt] at hnl
            rcases Int.lt_or_eq_of_le (Int.not_lt.mp hnl) with q | q
            · left; rw [t_lt]; exact q
            · right; exact ⟨t_eq.mpr q, by omega⟩
          · exact h4 p (by omega) hop hne
theorem IsB_one {σ : Nat → Int32} {op : Nat → Bool} {n o p : Nat} (h : IsB σ op n o) (h2 : IsB σ op n p) : o = p := by
  by_cases e : o = p
  · exact e
  · have q1 := h.2.2 p h2.1 h2.2.1 (fun z => e z.symm)
    have q2 := h2.2.2 o h.1 h.2.1 e
    simp only [t_lt, t_eq] at q1 q2
    omega
def nose (σ : Nat → Int32) (op : Nat → Bool) (n : Nat) : Int32 := (nsF σ op n).1
theorem nose_iff {σ : Nat → Int32} {op : Nat → Bool} {n o : Nat} (hn : n ≤ 5) (hσ : ∀ o, o < n → (-1000000 : Int32) < σ o) (ho : o < 2147483648) : nose σ op n = nI o ↔ IsB σ op n o := by
  rcases nsF_spec (σ := σ) (op := op) hn hσ with ⟨h1, h2⟩ | ⟨p, h1, h2⟩
  · rw [nose, h1]
    exact ⟨fun q => absurd q (m9_n' ho), fun q => by have := h2 o q.1; rw [q.2.1] at this; cases this⟩
  · rw [nose, h1]
    refine ⟨fun q => ?_, fun q => ?_⟩
    · have : p = o := (neq (Nat.lt_of_lt_of_le h2.1 (by omega)) ho).mp q
      rw [← this]; exact h2
    · rw [IsB_one q h2]
theorem nose_cases {σ : Nat → Int32} {op : Nat → Bool} {n : Nat} (hn : n ≤ 5) (hσ : ∀ o, o < n → (-1000000 : Int32) < σ o) : (nose σ op n = -9 ∧ ∀ o, o < n → op o = false) ∨ ∃ o, nose σ op n = nI o ∧ IsB σ op n o := by
  rcases nsF_spec (σ := σ) (op := op) hn hσ with ⟨h1, h2⟩ | ⟨o, h1, h2⟩
  · exact Or.inl ⟨by rw [nose, h1], h2⟩
  · exact Or.inr ⟨o, by rw [nose, h1], h2⟩
theorem nsF_congr {σ σ' : Nat → Int32} {op op' : Nat → Bool} : ∀ {n : Nat}, (∀ o, o < n → σ o = σ' o) → (∀ o, o < n → op o = op' o) → nsF σ op n = nsF σ' op' n
  | 0, _, _ => rfl
  | n + 1, h, h2 => by rw [nsF, nsF, h n (by omega), h2 n (by omega), nsF_congr (fun o ho => h o (by omega)) (fun o ho => h2 o (by omega))]
/-- which ovens are open, by the bits of what is shut -/
def opn (sh : Nat) : Nat → Bool := fun o => !sh.testBit o
section V
variable {a b kk : Nat} {T N fO fD rows S : Nat → Int32}
theorem m6 : ¬ (-1000000 : Int32) < -1000000 := by decide
theorem c_nose_l (h : VN kk N rows) (hO : VO a T fO) (hD : VD b T fD) (hV : TV a b T) {sh d : Nat} (hsh : sh < 32) (hN : N 12 = nI sh) (hd : d < b) (van : Int32) : ∀ (m o fuel : Nat) (x3 x4 : Int32), o + m = a → m < fuel → x3 = (nsF (smV T N b van d) (opn sh) o).1 → (¬ x3 = -9 → x4 = (nsF (smV T N b van d) (opn sh) o).2) → f_X4_noseOf_9 (nI a) (nI b) (nI kk) rows fO fD fuel (nI d) van x3 x4 (nI o) = some (nose (smV T N b van d) (opn sh) a) := by
  have ha := hO.1
  have hσ : ∀ o, o < a → (-1000000 : Int32) < smV T N b van d o := fun o ho => by
    rw [t_lt, show (-1000000 : Int32).toInt = -1000000 from by decide]; have := (smV_bd (N := N) hV van ho hd).1; omega
  intro m
  induction m with
  | zero =>
    intro o fuel x3 x4 hd2 hf e1 e2
    obtain ⟨n, rfl⟩ : ∃ n, fuel = n + 1 := ⟨fuel - 1, by omega⟩
    rw [f_X4_noseOf_9, f_X3_ovens, Option.bind_some, i_le (by omega) (by omega), e1, show o = a by omega]; rfl
  | succ m ih =>
    intro o fuel x3 x4 hd2 hf e1 e2
    obtain ⟨n, rfl⟩ : ∃ n, fuel = n + 1 := ⟨fuel - 1, by omega⟩
    rw [f_X4_noseOf_9, f_X3_ovens, Option.bind_some, i_nle (by omega) (by omega), c_isShut h hsh hN (by omega), Option.bind_some, nI_1]
    by_cases q : sh.testBit o = true
    · rw [if_pos q, if_neg (by decide)]
      have hop : ¬ (opn sh o = true ∧ (nsF (smV T N b van d) (opn sh) o).2 < smV T N b van d o) := fun z => by simp [opn, q] at z
      exact ih (o + 1) n x3 x4 (by omega) (by omega) (by rw [nsF, if_neg hop]; exact e1) (by rw [nsF, if_neg hop]; exact e2)
    · rw [if_neg q, if_pos rfl, c_sml h hO hD (by omega) hd van, Option.bind_some]
      have hop : opn sh o = true := by simpa [opn] using q
      by_cases c9 : x3 = -9
      · rw [if_pos c9, f_X4_noseOf_56, nI_1]
        have h0 : nsF (smV T N b van d) (opn sh) o = (-9, -1000000) := by
          rcases nsF_spec (σ := smV T N b van d) (op := opn sh) (n := o) (by omega) (fun p hp => hσ p (by omega)) with ⟨g, -⟩ | ⟨p, g, g2⟩
          · exact g
          · rw [g] at e1
            have := g2.1
            exact absurd (e1.symm.trans c9) (m9_n (by omega))
        have hc : opn sh o = true ∧ (nsF (smV T N b van d) (opn sh) o).2 < smV T N b van d o := ⟨hop, by rw [h0]; exact hσ o (by omega)⟩
        exact ih (o + 1) n _ _ (by omega) (by omega) (by rw [nsF, if_pos hc]) (fun _ => by rw [nsF, if_pos hc])
      · rw [if_neg c9]
        have e3 := e2 c9
        by_cases c : smV T N b van d o ≤ x4
        · rw [if_pos c]
          have hc : ¬ (opn sh o = true ∧ (nsF (smV T N b van d) (opn sh) o).2 < smV T N b van d o) := fun z => by
            have := z.2; rw [← e3, t_lt] at this; rw [t_le] at c; omega
          exact ih (o + 1) n x3 x4 (by omega) (by omega) (by rw [nsF, if_neg hc]; exact e1) (by rw [nsF, if_neg hc]; exact e2)
        · rw [if_neg c, f_X4_noseOf_56, nI_1]
          have hc : opn sh o = true ∧ (nsF (smV T N b van d) (opn sh) o).2 < smV T N b van d o := ⟨hop, by
            rw [← e3, t_lt]; rw [t_le] at c; omega⟩
          exact ih (o + 1) n _ _ (by omega) (by omega) (by rw [nsF, if_pos hc]) (fun _ => by rw [nsF, if_pos hc])
theorem c_nose (h : VN kk N rows) (hO : VO a T fO) (hD : VD b T fD) (hV : TV a b T) {sh d : Nat} (hsh : sh < 32) (hN : N 12 = nI sh) (hd : d < b) (van : Int32) : f_X4_noseOf (nI a) (nI b) (nI kk) rows fO fD (nI d) van = some (nose (smV T N b van d) (opn sh) a) := by
  have ha := hO.1
  unfold f_X4_noseOf
  exact c_nose_l h hO hD hV hsh hN hd van a 0 FU _ _ (by omega) (by rw [FU_v]; omega) rfl (fun q => absurd rfl q)
theorem m_nose_l (hV : TV a b T) (hS : ∀ j, j < 14 → S j = N j) {sh d : Nat} (hsh : sh < 64) (hd : d < b) (van : Int32) : ∀ (m o fuel : Nat), o + m = a → m < fuel → f_X5_noseOf_10 van T S fuel (nI d) (nI sh) (nsF (smV T N b van d) (opn sh) o).1 (nsF (smV T N b van d) (opn sh) o).2 (nI o) = some (nose (smV T N b van d) (opn sh) a) := by
  have ha := hV.1
  have hb := hV.2.1
  have hT0 := hV.2.2.1
  have hT1 := hV.2.2.2.1
  intro m
  induction m with
  | zero =>
    intro o fuel hd2 hf
    obtain ⟨n, rfl⟩ : ∃ n, fuel = n + 1 := ⟨fuel - 1, by omega⟩
    rw [f_X5_noseOf_10, hT0, i_le (by omega) (by omega), show o = a by omega]; rfl
  | succ m ih =>
    intro o fuel hd2 hf
    obtain ⟨n, rfl⟩ : ∃ n, fuel = n + 1 := ⟨fuel - 1, by omega⟩
    have h2 := ih (o + 1) n (by omega) (by omega)
    rw [f_X5_noseOf_10, hT0, i_nle (by omega) (by omega), m_sml hT1 hS hb (by omega) hd, Option.bind_some]
    have key : ∀ k0 : Int32, sml T N o d b + k0 = smV T N b van d o → f_X5_noseOf_63 van T S (f_X5_noseOf_10 van T S n) (nI d) (nI sh) (nsF (smV T N b van d) (opn sh) o).1 (nsF (smV T N b van d) (opn sh) o).2 (nI o) k0 (sml T N o d b) = some (nose (smV T N b van d) (opn sh) a) := by
      intro k0 e
      rw [f_X5_noseOf_63, e, sh_m sh o hsh (by omega), nI_1]
      by_cases q : sh.testBit o = true
      · rw [if_pos q, if_neg (by decide)]
        have hop : ¬ (opn sh o = true ∧ (nsF (smV T N b van d) (opn sh) o).2 < smV T N b van d o) := fun z => by simp [opn, q] at z
        rw [nsF, if_neg hop] at h2; exact h2
      · rw [if_neg q, if_pos rfl]
        have hop : opn sh o = true := by simpa [opn] using q
        by_cases c : smV T N b van d o ≤ (nsF (smV T N b van d) (opn sh) o).2
        · rw [if_pos c]
          have hc : ¬ (opn sh o = true ∧ (nsF (smV T N b van d) (opn sh) o).2 < smV T N b van d o) := fun z => by
            have := z.2; rw [t_lt] at this; rw [t_le] at c; omega
          rw [nsF, if_neg hc] at h2; exact h2
        · rw [if_neg c]
          have hc : opn sh o = true ∧ (nsF (smV T N b van d) (opn sh) o).2 < smV T N b van d o := ⟨hop, by rw [t_lt]; rw [t_le] at c; omega⟩
          rw [nsF, if_pos hc] at h2; exact h2
    by_cases c : nI o = van
    · rw [if_pos c]
      simp (disch := omega) only [Lan, i_in, ncl]
      exact key _ (by rw [smV, if_pos c.symm])
    · rw [if_neg c]
      exact key _ (by rw [smV, if_neg (fun z => c z.symm), add_0])
theorem m_nose (hV : TV a b T) (hS : ∀ j, j < 14 → S j = N j) {sh d : Nat} (hsh : sh < 64) (hd : d < b) (van : Int32) : f_X5_noseOf van T S (nI d) (nI sh) = some (nose (smV T N b van d) (opn sh) a) := by
  have ha := hV.1
  unfold f_X5_noseOf
  exact m_nose_l hV hS hsh hd van a 0 FU (by omega) (by rw [FU_v]; omega)
/-- a name that is no oven's: none has vanilla -/
theorem smV_no {van van' : Int32} {d : Nat} (h : ∀ o, o < a → ¬ van = nI o) (h2 : ∀ o, o < a → ¬ van' = nI o) : ∀ o, o < a → smV T N b van d o = smV T N b van' d o := fun o ho => by
  rw [smV, smV, if_neg (h o ho), if_neg (h2 o ho)]
theorem nose_no {van van' : Int32} {d : Nat} {op : Nat → Bool} (h : ∀ o, o < a → ¬ van = nI o) (h2 : ∀ o, o < a → ¬ van' = nI o) : nose (smV T N b van d) op a = nose (smV T N b van' d) op a := by
  rw [nose, nose, nsF_congr (smV_no h h2) (fun _ _ => rfl)]
end V
