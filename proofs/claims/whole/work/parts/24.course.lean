/-! NOW and what may be undone: rows R i (in the model's order), R kk is NOW -/
theorem ap (s : Nat → Int32) {i j : Nat} (h : i = j) : s i = s j := by rw [h]
def CC (kk : Nat) (rows : Nat → Int32) (R : Nat → Nat → Int32) : Prop := kk ≤ 10 ∧ ∀ i, i ≤ kk → ∀ j, j < 14 → rows (i * 14 + pj j) = R i j
def CM (kk : Nat) (S : Nat → Int32) (B : Nat) (R : Nat → Nat → Int32) : Prop := S (B + 14) = nI kk ∧ (∀ j, j < 14 → S (B + j) = R kk j) ∧ ∀ i, i < kk → ∀ j, j < 14 → S (B + 15 + 14 * i + j) = R i j
def remK (kk : Nat) : Nat := if kk < 10 then kk + 1 else 10
def remR (kk : Nat) (R : Nat → Nat → Int32) : Nat → Nat → Int32 := if kk < 10 then (fun i => if i = kk + 1 then R kk else R i) else (fun i => if i < 10 then R (i + 1) else R i)
def setR (kk : Nat) (R : Nat → Nat → Int32) (N : Nat → Int32) : Nat → Nat → Int32 := fun i => if i = kk then N else R i
theorem CC.vn {kk : Nat} {rows : Nat → Int32} {R : Nat → Nat → Int32} (h : CC kk rows R) : VN kk (R kk) rows := ⟨h.1, h.2 kk (Nat.le_refl kk)⟩
theorem CM.vs {kk : Nat} {S : Nat → Int32} {R : Nat → Nat → Int32} (h : CM kk S 0 R) : ∀ j, j < 14 → S j = R kk j := fun j hj => by
  have := h.2.1 j hj; rwa [Nat.zero_add] at this
theorem setR_now {kk : Nat} {R : Nat → Nat → Int32} {N : Nat → Int32} : setR kk R N kk = N := if_pos rfl
theorem remR_now {kk : Nat} {R : Nat → Nat → Int32} (h : kk ≤ 10) : remR kk R (remK kk) = R kk := by
  unfold remR remK
  by_cases c : kk < 10
  · rw [if_pos c, if_pos c, if_pos rfl]
  · rw [if_neg c, if_neg c, if_neg (by omega), show kk = 10 by omega]
theorem remK_le {kk : Nat} (h : kk ≤ 10) : remK kk ≤ 10 := by unfold remK; split <;> omega
theorem CC.set {kk : Nat} {rows rows' : Nat → Int32} {R : Nat → Nat → Int32} {N : Nat → Int32} (h : CC kk rows R) (h1 : ∀ j, j < 14 → rows' (kk * 14 + pj j) = N j) (h2 : ∀ q, q < kk * 14 → rows' q = rows q) : CC kk rows' (setR kk R N) := by
  refine ⟨h.1, fun i hi j hj => ?_⟩
  by_cases e : i = kk
  · rw [e, setR_now]; exact h1 j hj
  · rw [setR, if_neg e, h2 _ (by have := pj_lt hj; omega)]; exact h.2 i hi j hj
theorem CM.set {kk : Nat} {S S' : Nat → Int32} {R : Nat → Nat → Int32} {N : Nat → Int32} (h : CM kk S 0 R) (h1 : ∀ j, j < 14 → S' j = N j) (h2 : ∀ q, 14 ≤ q → S' q = S q) : CM kk S' 0 (setR kk R N) := by
  refine ⟨by rw [h2 _ (by omega)]; exact h.1, fun j hj => ?_, fun i hi j hj => ?_⟩
  · rw [Nat.zero_add, setR_now]; exact h1 j hj
  · rw [h2 _ (by omega), setR, if_neg (by omega)]; exact h.2.2 i hi j hj
/-! remember -/
theorem c_remember {kk : Nat} {rows : Nat → Int32} {R : Nat → Nat → Int32} (h : CC kk rows R) : ∃ rows', f_X0_remember (nI kk) rows = some (nI (remK kk), rows') ∧ CC (remK kk) rows' (remR kk R) := by
  have hk := h.1
  unfold f_X0_remember f_X0_base remK
  by_cases c : kk < 10
  · rw [i_nLle (by omega) (by omega), Option.bind_some, Option.bind_some, if_pos c]
    simp (disch := omega) only [nmL, naL, ncl]
    rw [show (14 : Int32).toNatClampNeg = 14 from by decide]
    refine ⟨va_cpy rows rows (kk * 14) (kk * 14 + 14) 14, ?_, ?_⟩
    · rw [if_pos]
      exact ⟨n_nneg (by omega), n_nneg (by omega), by decide, by omega, by omega⟩
    · refine ⟨by omega, fun i hi j hj => ?_⟩
      have hp := pj_lt hj
      rw [remR, if_pos c]
      by_cases e : i = kk + 1
      · rw [pk_cpy_in (by omega) (by omega)]
        simp only [if_pos e]
        rw [← h.2 kk (by omega) j hj]; exact ap _ (by omega)
      · rw [pk_cpy_out (by omega)]
        simp only [if_neg e]
        exact h.2 i (by omega) j hj
  · have e10 : kk = 10 := by omega
    subst e10
    rw [i_Lle (by omega) (by omega), if_neg c]
    refine ⟨_, if_pos (by decide), by omega, fun i hi j hj => ?_⟩
    have hp := pj_lt hj
    rw [show (14 : Int32).toNatClampNeg = 14 from by decide, show (0 : Int32).toNatClampNeg = 0 from by decide, show (140 : Int32).toNatClampNeg = 140 from by decide, remR, if_neg c]
    by_cases e : i < 10
    · rw [pk_cpy_in (by omega) (by omega)]
      simp only [if_pos e]
      rw [← h.2 (i + 1) (by omega) j hj]; exact ap _ (by omega)
    · rw [pk_cpy_out (by omega)]
      simp only [if_neg e]
      exact h.2 i (by omega) j hj
/-! the model's keeps -/
def shS (s : Nat → Int32) (x : Nat) : Nat → Int32 := fun j => if 15 ≤ j ∧ j < x then s (j + 14) else s j
def cpS (s : Nat → Int32) (p x : Nat) : Nat → Int32 := fun j => if p ≤ j ∧ j < p + x then s (j - p) else s j
theorem shS_s {s : Nat → Int32} {x : Nat} (h : 15 ≤ x) : upd (shS s x) x (shS s x (x + 14)) = shS s (x + 1) := by
  funext j
  simp only [upd_if, shS]
  repeat' split
  all_goals first | rfl | (exfalso; omega) | (exact ap _ (by omega))
theorem cpS_s {s : Nat → Int32} {p x : Nat} (h : x < p) : upd (cpS s p x) (p + x) (cpS s p x x) = cpS s p (x + 1) := by
  funext j
  simp only [upd_if, cpS]
  repeat' split
  all_goals first | rfl | (exfalso; omega) | (exact ap _ (by omega))
theorem cpS_0 {s : Nat → Int32} {p : Nat} : cpS s p 0 = s := by
  funext j; rw [cpS, if_neg (by omega)]
theorem shS_15 {s : Nat → Int32} : shS s 15 = s := by
  funext j; rw [shS, if_neg (by omega)]
theorem m_keeps_70 (s : Nat → Int32) {p : Nat} (hp : 15 ≤ p) (hp2 : p ≤ 141) : ∀ (m x fuel : Nat), x + m = 14 → m < fuel → f_X5_keeps_70 fuel (cpS s p x) (nI p) (nI x) = some (upd (cpS s p 14) 14 (cpS s p 14 14 + 1)) := by
  intro m
  induction m with
  | zero =>
    intro x fuel hx hf
    obtain ⟨n, rfl⟩ : ∃ n, fuel = n + 1 := ⟨fuel - 1, by omega⟩
    rw [f_X5_keeps_70, i_Lle (by omega) (by omega), show x = 14 by omega]
  | succ m ih =>
    intro x fuel hx hf
    obtain ⟨n, rfl⟩ : ∃ n, fuel = n + 1 := ⟨fuel - 1, by omega⟩
    have h2 := ih (x + 1) n (by omega) (by omega)
    rw [f_X5_keeps_70, i_nLle (by omega) (by omega)]
    simp (disch := omega) only [nI_add, i_in, ncl, nI_1]
    rw [cpS_s (by omega)]
    exact h2
theorem m_keeps_54 {s : Nat → Int32} {kk : Nat} (hk : kk ≤ 9) (h14 : s 14 = nI kk) : f_X5_keeps_54 s = some (upd (cpS s (15 + 14 * kk) 14) 14 (nI (kk + 1))) := by
  unfold f_X5_keeps_54
  rw [h14, Lmn, Lan]
  have h := m_keeps_70 s (p := 15 + 14 * kk) (by omega) (by omega) 14 0 FU (by omega) (by rw [FU_v]; omega)
  rw [cpS_0] at h
  rw [show (0 : Int32) = nI 0 from rfl, show nI ((15 : Nat) + (14 : Nat) * kk) = nI (15 + 14 * kk) from rfl, h]
  congr 2
  rw [cpS, if_neg (by omega), h14, nI_1]
theorem m_keeps_15 (s : Nat → Int32) : ∀ (m x fuel : Nat), x + m = 141 → 15 ≤ x → m < fuel → f_X5_keeps_15 fuel (shS s x) (nI x) = f_X5_keeps_54 (upd (shS s 141) 14 (shS s 141 14 - 1)) := by
  intro m
  induction m with
  | zero =>
    intro x fuel hx h15 hf
    obtain ⟨n, rfl⟩ : ∃ n, fuel = n + 1 := ⟨fuel - 1, by omega⟩
    rw [f_X5_keeps_15, i_Lle (by omega) (by omega), show x = 141 by omega]
  | succ m ih =>
    intro x fuel hx h15 hf
    obtain ⟨n, rfl⟩ : ∃ n, fuel = n + 1 := ⟨fuel - 1, by omega⟩
    have h2 := ih (x + 1) n (by omega) (by omega) (by omega)
    rw [f_X5_keeps_15, i_nLle (by omega) (by omega)]
    simp (disch := omega) only [naL, i_in, ncl]
    rw [show nI (x + (1 : Nat)) = nI (x + 1) from rfl, show shS s x (x + (14 : Nat)) = shS s x (x + 14) from rfl, shS_s h15]
    exact h2
theorem m_keeps {s : Nat → Int32} {kk : Nat} {R : Nat → Nat → Int32} (hk : kk ≤ 10) (h : CM kk s 0 R) : ∃ s', f_X5_keeps s = some s' ∧ CM (remK kk) s' 0 (remR kk R) := by
  have h14 : s 14 = nI kk := h.1
  have hN := h.vs
  unfold f_X5_keeps
  by_cases c : kk < 10
  · rw [h14, i_neL (by omega) (by omega) (by omega), m_keeps_54 (by omega) h14]
    refine ⟨_, rfl, ?_, fun j hj => ?_, fun i hi j hj => ?_⟩
    · rw [Nat.zero_add, upd_s, remK, if_pos c]
    · rw [Nat.zero_add, upd_n (by omega), cpS, if_neg (by omega), remR_now hk]; exact hN j hj
    · rw [remK, if_pos c] at hi
      rw [upd_n (by omega), cpS, remR, if_pos c]
      by_cases e : i = kk
      · subst e
        rw [if_pos (by omega)]
        simp only [if_neg (show ¬ i = i + 1 by omega)]
        rw [← hN j hj]; exact ap _ (by omega)
      · rw [if_neg (by omega)]
        simp only [if_neg (show ¬ i = kk + 1 by omega)]
        exact h.2.2 i (by omega) j hj
  · have e10 : kk = 10 := by omega
    subst e10
    rw [h14, i_eqL rfl]
    have h2 := m_keeps_15 s 126 15 FU (by omega) (by omega) (by rw [FU_v]; omega)
    rw [shS_15] at h2
    rw [show (15 : Int32) = nI 15 from rfl, h2]
    have e14 : shS s 141 14 - 1 = nI 9 := by rw [shS, if_neg (by omega), h14]; exact nI_pred 9
    rw [e14, m_keeps_54 (kk := 9) (by omega) upd_s]
    refine ⟨_, rfl, ?_, fun j hj => ?_, fun i hi j hj => ?_⟩
    · rw [Nat.zero_add, upd_s]; rfl
    · rw [Nat.zero_add, upd_n (by omega), cpS, if_neg (by omega), upd_n (by omega), shS, if_neg (by omega), remR_now hk]; exact hN j hj
    · rw [show remK 10 = 10 from rfl] at hi
      rw [upd_n (by omega), cpS, remR, if_neg c]
      simp only [if_pos hi]
      by_cases e : i = 9
      · subst e
        rw [if_pos (by omega), upd_n (by omega), shS, if_neg (by omega), ← hN j hj]; exact ap _ (by omega)
      · rw [if_neg (by omega), upd_n (by omega), shS, if_pos (by omega), ← h.2.2 (i + 1) (by omega) j hj]; exact ap _ (by omega)
/-! undo -/
def undS (s : Nat → Int32) (p x : Nat) : Nat → Int32 := fun j => if j < x then s (p + j) else s j
theorem undS_s {s : Nat → Int32} {p x : Nat} (h : x ≤ p) : upd (undS s p x) x (undS s p x (p + x)) = undS s p (x + 1) := by
  funext j
  simp only [upd_if, undS]
  repeat' split
  all_goals first | rfl | (exfalso; omega) | (exact ap _ (by omega))
theorem m_undo_40 (s : Nat → Int32) {p : Nat} (hp : 15 ≤ p) (hp2 : p ≤ 141) : ∀ (m x fuel : Nat), x + m = 14 → m < fuel → f_X5_undo_40 fuel (undS s p x) (nI p) (nI x) = some (undS s p 14 14, undS s p 14) := by
  intro m
  induction m with
  | zero =>
    intro x fuel hx hf
    obtain ⟨n, rfl⟩ : ∃ n, fuel = n + 1 := ⟨fuel - 1, by omega⟩
    rw [f_X5_undo_40, i_Lle (by omega) (by omega), show x = 14 by omega]
  | succ m ih =>
    intro x fuel hx hf
    obtain ⟨n, rfl⟩ : ∃ n, fuel = n + 1 := ⟨fuel - 1, by omega⟩
    have h2 := ih (x + 1) n (by omega) (by omega)
    rw [f_X5_undo_40, i_nLle (by omega) (by omega)]
    simp (disch := omega) only [nI_add, i_in, ncl, nI_1]
    rw [undS_s (by omega)]
    exact h2
theorem m_undo_0 {s : Nat → Int32} {R : Nat → Nat → Int32} (h : CM 0 s 0 R) : f_X5_undo s = some (-2, s) := by
  unfold f_X5_undo
  rw [show s 14 = nI 0 from h.1, if_pos (show nI 0 = 0 from rfl)]
theorem m_undo_s {s : Nat → Int32} {kk : Nat} {R : Nat → Nat → Int32} (hk : kk + 1 ≤ 10) (h : CM (kk + 1) s 0 R) : ∃ s', f_X5_undo s = some (nI kk, s') ∧ CM kk s' 0 R := by
  have h14 : s 14 = nI (kk + 1) := h.1
  unfold f_X5_undo
  rw [h14, i_neL (by omega) (by omega) (by omega), nI_pred, upd_s, Lmn, Lan]
  have h2 := m_undo_40 (upd s 14 (nI kk)) (p := 15 + 14 * kk) (by omega) (by omega) 14 0 FU (by omega) (by rw [FU_v]; omega)
  rw [show undS (upd s 14 (nI kk)) (15 + 14 * kk) 0 = upd s 14 (nI kk) from by funext j; rw [undS, if_neg (by omega)]] at h2
  rw [show (0 : Int32) = nI 0 from rfl, show nI ((15 : Nat) + (14 : Nat) * kk) = nI (15 + 14 * kk) from rfl, h2]
  refine ⟨undS (upd s 14 (nI kk)) (15 + 14 * kk) 14, ?_, ?_, fun j hj => ?_, fun i hi j hj => ?_⟩
  · rw [show undS (upd s 14 (nI kk)) (15 + 14 * kk) 14 14 = nI kk from by rw [undS, if_neg (by omega), upd_s]]
  · rw [Nat.zero_add, undS, if_neg (by omega), upd_s]
  · rw [Nat.zero_add, undS, if_pos hj, upd_n (by omega), ← h.2.2 kk (by omega) j hj]; first | done | exact ap _ (by omega)
  · rw [undS, if_neg (by omega), upd_n (by omega)]; exact h.2.2 i (by omega) j hj
theorem c_undo_0 : f_X4_undo (nI 0) = some (-2, nI 0) := by decide
theorem c_undo_s {kk : Nat} (hk : kk + 1 ≤ 10) : f_X4_undo (nI (kk + 1)) = some (nI kk, nI kk) := by
  unfold f_X4_undo f_X0_takeBack f_X0_known
  rw [i_Llt (by omega) (by omega), Option.bind_some, nI_pred, if_neg (show ¬ (1 : Int32) = 0 by decide), Option.bind_some]
theorem CC.undo {kk : Nat} {rows : Nat → Int32} {R : Nat → Nat → Int32} (h : CC (kk + 1) rows R) : CC kk rows R := ⟨by have := h.1; omega, fun i hi j hj => h.2 i (by omega) j hj⟩
/-! a dough goes in, a door is turned -/
theorem c_putIn {kk d : Nat} {rows : Nat → Int32} {R : Nat → Nat → Int32} (h : CC kk rows R) (hd : d < 6) (h0 : R kk (6 + d) = 0) (x : Int32) : ∃ rows', f_X0_putIn (nI kk) rows (nI d) x = some rows' ∧ CC kk rows' (setR kk R (upd (R kk) d x)) := by
  have hk := h.1
  unfold f_X0_putIn f_X0_base
  rw [isPl hd, Option.bind_some, if_neg (by decide), Option.bind_some, Option.bind_some]
  simp (disch := omega) only [nmL, naL, nI_add, i_in, ncl]
  refine ⟨_, rfl, h.set (fun j hj => ?_) (fun q hq => ?_)⟩
  · rw [upd_if, upd_if, upd_if]
    by_cases c : j < 12
    · rw [pj_lo c]
      by_cases e1 : j = 6 + d
      · rw [if_pos (by omega), if_neg (by omega), e1, h0]
      · rw [if_neg (by omega)]
        by_cases e2 : j = d
        · rw [if_pos (by omega), if_pos e2]
        · rw [if_neg (by omega), if_neg e2, ← h.2 kk (by omega) j hj, pj_lo c]
    · rw [if_neg (by unfold pj; rw [if_neg c]; omega), if_neg (by unfold pj; rw [if_neg c]; omega), if_neg (by omega)]
      exact h.2 kk (by omega) j hj
  · rw [upd_n (by omega), upd_n (by omega)]
theorem c_door {kk : Nat} {rows : Nat → Int32} {R : Nat → Nat → Int32} (h : CC kk rows R) (x : Int32) : ∃ rows', f_X0_turnDoor (nI kk) rows x = some rows' ∧ CC kk rows' (setR kk R (upd (R kk) 12 (R kk 12 ^^^ ((1 : Int32) <<< (x &&& 31))))) := by
  have hk := h.1
  unfold f_X0_turnDoor f_X0_base
  rw [Option.bind_some]
  simp (disch := omega) only [nmL, naL, nI_add, i_in, ncl]
  have e12 : rows (kk * 14 + 1) = R kk 12 := h.2 kk (by omega) 12 (by omega)
  refine ⟨_, rfl, h.set (fun j hj => ?_) (fun q hq => ?_)⟩
  · rw [upd_if, upd_if]
    by_cases e : j = 12
    · subst e; rw [if_pos rfl, if_pos (show kk * 14 + pj 12 = kk * 14 + 1 from rfl), e12]
    · rw [if_neg (fun z => e (pj_inj hj (by omega : (12 : Nat) < 14) (by show pj j = 1; omega))), if_neg e]
      exact h.2 kk (by omega) j hj
  · exact upd_n (by omega)
theorem m_upd {kk d : Nat} {S : Nat → Int32} {R : Nat → Nat → Int32} (h : CM kk S 0 R) (hd : d < 14) (x : Int32) : CM kk (upd S d x) 0 (setR kk R (upd (R kk) d x)) :=
  h.set (fun j hj => by
    rw [upd_if, upd_if]
    by_cases e : j = d
    · rw [if_pos e, if_pos e]
    · rw [if_neg e, if_neg e]; exact h.vs j hj) (fun q hq => upd_n (by omega))
/-! images -/
theorem c_copyAll (k k2 : Int32) (f g : Nat → Int32) : ∃ g', f_X0_copyAll k f k2 g = some (k, g') ∧ ∀ j, j < 154 → g' j = f j := by
  unfold f_X0_copyAll
  refine ⟨_, if_pos (by decide), fun j hj => ?_⟩
  rw [show (154 : Int32).toNatClampNeg = 154 from by decide, show (0 : Int32).toNatClampNeg = 0 from by decide, pk_cpy_in (by omega) (by omega)]
  exact ap _ (by omega)
theorem CC.copy {kk : Nat} {rows rows' : Nat → Int32} {R : Nat → Nat → Int32} (h : CC kk rows R) (he : ∀ j, j < 154 → rows' j = rows j) : CC kk rows' R := ⟨h.1, fun i hi j hj => by
  have := h.1; have := pj_lt hj
  rw [he _ (by omega)]; exact h.2 i hi j hj⟩
theorem c_copyNow {kk : Nat} {rows : Nat → Int32} {N : Nat → Int32} (h : VN kk N rows) (k2 : Int32) (g : Nat → Int32) : ∃ g', f_X0_copyNow (nI kk) rows k2 g = some (nI 0, g') ∧ VN 0 N g' := by
  have hk := h.1
  unfold f_X0_copyNow f_X0_base
  rw [Option.bind_some]
  simp (disch := omega) only [nmL, ncl]
  rw [show (14 : Int32).toNatClampNeg = 14 from by decide, show (0 : Int32).toNatClampNeg = 0 from by decide]
  refine ⟨va_cpy rows g (kk * 14) 0 14, ?_, by omega, fun j hj => ?_⟩
  · rw [if_pos]
    · rfl
    · exact ⟨n_nneg (by omega), by decide, by decide, by omega, by omega⟩
  · have hp := pj_lt hj
    rw [pk_cpy_in (by omega) (by omega), ← h.2 j hj]
    exact ap _ (by omega)
def imS (im s : Nat → Int32) (B x : Nat) : Nat → Int32 := fun j => if B ≤ j ∧ j < B + x then s (j - B) else im j
theorem imS_s {im s : Nat → Int32} {B x : Nat} : upd (imS im s B x) (B + x) (s x) = imS im s B (x + 1) := by
  funext j
  simp only [upd_if, imS]
  repeat' split
  all_goals first | rfl | (exfalso; omega) | (exact ap _ (by omega))
theorem m_keep_l (s im kp : Nat → Int32) {i : Nat} (hi : i < 2) : ∀ (m x fuel : Nat), x + m = 155 → m < fuel → f_X5_keep_13 s fuel (imS im s (155 * i) x) kp (nI i) (nI x) = some (s 13, imS im s (155 * i) 155, upd kp i 1) := by
  intro m
  induction m with
  | zero =>
    intro x fuel hx hf
    obtain ⟨n, rfl⟩ : ∃ n, fuel = n + 1 := ⟨fuel - 1, by omega⟩
    rw [f_X5_keep_13, i_Lle (by omega) (by omega), i_in (by omega) (by omega), ncl (by omega), show x = 155 by omega, show vp_nar .boolean 1 = 1 from by decide]
  | succ m ih =>
    intro x fuel hx hf
    obtain ⟨n, rfl⟩ : ∃ n, fuel = n + 1 := ⟨fuel - 1, by omega⟩
    have h2 := ih (x + 1) n (by omega) (by omega)
    rw [f_X5_keep_13, i_nLle (by omega) (by omega)]
    simp (disch := omega) only [Lmn, nI_add, i_in, ncl, nI_1]
    rw [show ((155 : Nat) * i + x) = 155 * i + x from rfl, imS_s]
    exact h2
theorem m_keep_y (s im kp : Nat → Int32) {i : Nat} (hi : i < 2) : f_X5_keep s im kp (nI i) = some (s 13, imS im s (155 * i) 155, upd kp i 1) := by
  unfold f_X5_keep
  rw [in_1 (n_nneg (by omega)) (by rw [show (1 : Int32) = nI 1 from rfl, nlt (by omega) (by omega)]; omega), Option.bind_some, if_neg (by decide)]
  have h := m_keep_l s im kp hi 155 0 FU (by omega) (by rw [FU_v]; omega)
  rw [show imS im s (155 * i) 0 = im from by funext j; rw [imS, if_neg (by omega)]] at h
  exact h
theorem m_keep_n (s im kp : Nat → Int32) {x : Int32} (hx : ¬ isN 2 x) : f_X5_keep s im kp x = some (-1, im, kp) := by
  unfold f_X5_keep
  rw [in_0, Option.bind_some, if_pos rfl]
  rcases notN hx with q | ⟨n, h1, h2, rfl⟩
  · exact Or.inl q
  · right; rw [show (1 : Int32) = nI 1 from rfl, nlt (by omega) h1]; omega
theorem CM.image {kk : Nat} {s im : Nat → Int32} {B : Nat} {R : Nat → Nat → Int32} (hk : kk ≤ 10) (h : CM kk s 0 R) : CM kk (imS im s B 155) B R := by
  refine ⟨?_, fun j hj => ?_, fun i hi j hj => ?_⟩
  · rw [imS, if_pos (by omega), show B + 14 - B = 14 by omega]; exact h.1
  · rw [imS, if_pos (by omega), show B + j - B = j by omega]; exact h.vs j hj
  · rw [imS, if_pos (by omega), show B + 15 + 14 * i + j - B = 0 + 15 + 14 * i + j by omega]; exact h.2.2 i hi j hj
theorem CM.other {kk : Nat} {s im : Nat → Int32} {B B2 : Nat} {R : Nat → Nat → Int32} (hk : kk ≤ 10) (hB : B + 155 ≤ B2 ∨ B2 + 155 ≤ B) (h : CM kk im B2 R) : CM kk (imS im s B 155) B2 R := by
  refine ⟨?_, fun j hj => ?_, fun i hi j hj => ?_⟩
  · rw [imS, if_neg (by omega)]; exact h.1
  · rw [imS, if_neg (by omega)]; exact h.2.1 j hj
  · rw [imS, if_neg (by omega)]; exact h.2.2 i hi j hj
def bkS (s im : Nat → Int32) (B x : Nat) : Nat → Int32 := fun j => if j < x then im (B + j) else s j
theorem m_back_l (kp im s : Nat → Int32) {i : Nat} (hi : i < 2) : ∀ (m x fuel : Nat), x + m = 155 → m < fuel → f_X5_back_25 kp im fuel (bkS s im (155 * i) x) (nI i) (nI x) = some (bkS s im (155 * i) 155 13, bkS s im (155 * i) 155) := by
  intro m
  induction m with
  | zero =>
    intro x fuel hx hf
    obtain ⟨n, rfl⟩ : ∃ n, fuel = n + 1 := ⟨fuel - 1, by omega⟩
    rw [f_X5_back_25, i_Lle (by omega) (by omega), show x = 155 by omega]
  | succ m ih =>
    intro x fuel hx hf
    obtain ⟨n, rfl⟩ : ∃ n, fuel = n + 1 := ⟨fuel - 1, by omega⟩
    have h2 := ih (x + 1) n (by omega) (by omega)
    rw [f_X5_back_25, i_nLle (by omega) (by omega)]
    simp (disch := omega) only [Lmn, nI_add, i_in, ncl, nI_1]
    rw [show upd (bkS s im (155 * i) x) x (im ((155 : Nat) * i + x)) = bkS s im (155 * i) (x + 1) from ?_]
    · exact h2
    · funext j
      simp only [upd_if, bkS]
      repeat' split
      all_goals first | rfl | (exfalso; omega) | (exact ap _ (by omega))
theorem CM.backS {kk : Nat} {s im : Nat → Int32} {B : Nat} {R : Nat → Nat → Int32} (hk : kk ≤ 10) (h : CM kk im B R) : CM kk (bkS s im B 155) 0 R := by
  refine ⟨?_, fun j hj => ?_, fun i hi j hj => ?_⟩
  · rw [bkS, if_pos (by omega), Nat.zero_add]; exact h.1
  · rw [bkS, if_pos (by omega), Nat.zero_add]; exact h.2.1 j hj
  · rw [bkS, if_pos (by omega), show B + (0 + 15 + 14 * i + j) = B + 15 + 14 * i + j by omega]; exact h.2.2 i hi j hj
