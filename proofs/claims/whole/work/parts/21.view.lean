/-! what the accessors of both sides answer, in the model's own cells: T (told), N (the row NOW, in the model's order) -/
def isN (a : Nat) (x : Int32) : Prop := ∃ o : Nat, o < a ∧ x = nI o
theorem isN_dec (a : Nat) (x : Int32) : isN a x ∨ ¬ isN a x := Classical.em _
theorem notN {a : Nat} {x : Int32} (h : ¬ isN a x) : x < 0 ∨ ∃ n : Nat, n < 2147483648 ∧ a ≤ n ∧ x = nI n := by
  rcases n_cases x with q | ⟨n, h1, rfl⟩
  · exact Or.inl q
  · exact Or.inr ⟨n, h1, Nat.not_lt.mp (fun q => h ⟨n, q, rfl⟩), rfl⟩
theorem c_hasO_y {a o : Nat} (ha : a ≤ 5) (h : o < a) : f_X3_hasOven (nI a) (nI o) = some 1 := by
  unfold f_X3_hasOven
  simp (disch := omega) only [i_nltL, i_nle]
theorem c_hasO_n {a : Nat} {x : Int32} (ha : a ≤ 5) (h : ¬ isN a x) : f_X3_hasOven (nI a) x = some 0 := by
  unfold f_X3_hasOven
  rcases notN h with q | ⟨n, h1, h2, rfl⟩
  · rw [if_pos q]
  · simp (disch := omega) only [i_nltL, i_le]
theorem c_hasD_y {a o : Nat} (ha : a ≤ 6) (h : o < a) : f_X3_hasDough (nI a) (nI o) = some 1 := by
  unfold f_X3_hasDough
  simp (disch := omega) only [i_nltL, i_nle]
theorem c_hasD_n {a : Nat} {x : Int32} (ha : a ≤ 6) (h : ¬ isN a x) : f_X3_hasDough (nI a) x = some 0 := by
  unfold f_X3_hasDough
  rcases notN h with q | ⟨n, h1, h2, rfl⟩
  · rw [if_pos q]
  · simp (disch := omega) only [i_nltL, i_le]
theorem t_pred {a : Nat} (ha : a ≤ 10) : (nI a - 1).toInt = (a : Int) - 1 := by
  rw [t_sub] <;> rw [t_n (by omega)] <;> rw [show (1 : Int32).toInt = 1 from by decide] <;> omega
theorem in_0 {x lo hi : Int32} (h : x < lo ∨ hi < x) : f_X5_in x lo hi = some 0 := by
  unfold f_X5_in
  by_cases q : x < lo
  · rw [if_pos q]
  · rw [if_neg q, if_pos (h.resolve_left q)]
theorem in_1 {x lo hi : Int32} (h : ¬ x < lo) (h2 : ¬ hi < x) : f_X5_in x lo hi = some 1 := by
  unfold f_X5_in
  rw [if_neg h, if_neg h2]
theorem nz0 : nz (0 : Int32) := Or.inl rfl
theorem nz1 : nz (1 : Int32) := Or.inr rfl
theorem m_isN_y {a o : Nat} (ha : a ≤ 10) (h : o < a) : f_X5_in (nI o) 0 (nI a - 1) = some 1 := by
  refine in_1 (n_nneg (by omega)) ?_
  rw [t_lt, t_pred ha, t_n (by omega)]; omega
theorem m_isN_n {a : Nat} {x : Int32} (ha : a ≤ 10) (h : ¬ isN a x) : f_X5_in x 0 (nI a - 1) = some 0 := by
  refine in_0 ?_
  rcases notN h with q | ⟨n, h1, h2, rfl⟩
  · exact Or.inl q
  · refine Or.inr ?_
    rw [t_lt, t_pred ha, t_n h1]; omega
section M
variable {T : Nat → Int32} {a : Nat}
theorem m_hasO_y {o : Nat} (hT : T 0 = nI a) (ha : a ≤ 5) (h : o < a) : f_X5_isOven T (nI o) = some 1 := by
  unfold f_X5_isOven
  rw [hT, m_isN_y (by omega) h, Option.bind_some, if_pos nz1]
theorem m_hasO_n {x : Int32} (hT : T 0 = nI a) (ha : a ≤ 5) (h : ¬ isN a x) : f_X5_isOven T x = some 0 := by
  unfold f_X5_isOven
  rw [hT, m_isN_n (by omega) h, Option.bind_some, if_pos nz0]
theorem m_hasD_y {o : Nat} (hT : T 1 = nI a) (ha : a ≤ 6) (h : o < a) : f_X5_isDough T (nI o) = some 1 := by
  unfold f_X5_isDough
  rw [hT, m_isN_y (by omega) h, Option.bind_some, if_pos nz1]
theorem m_hasD_n {x : Int32} (hT : T 1 = nI a) (ha : a ≤ 6) (h : ¬ isN a x) : f_X5_isDough T x = some 0 := by
  unfold f_X5_isDough
  rw [hT, m_isN_n (by omega) h, Option.bind_some, if_pos nz0]
end M
/-- a place in a row of the class, by the place in a row of the model -/
def pj (j : Nat) : Nat := if j < 12 then j + 2 else 13 - j
theorem pj_lt {j : Nat} (h : j < 14) : pj j < 14 := by unfold pj; split <;> omega
theorem pj_inj {i j : Nat} (hi : i < 14) (hj : j < 14) (h : pj i = pj j) : i = j := by
  unfold pj at h; split at h <;> split at h <;> omega
theorem pj_lo {j : Nat} (h : j < 12) : pj j = j + 2 := if_pos h
theorem c_ofO {a o j : Nat} {fO : Nat → Int32} (ha : a ≤ 5) (h : o < a) (hj : j < 2) : f_X3_ofOven (nI a) fO (nI o) (nI j) = some (fO (o * 2 + j)) := by
  unfold f_X3_ofOven
  rw [c_hasO_y ha h, Option.bind_some, if_neg (by decide)]
  simp (disch := omega) only [nmL, nI_add, i_nltL, i_nLle, i_in, ncl]
theorem c_ofD {a o j : Nat} {fO : Nat → Int32} (ha : a ≤ 6) (h : o < a) (hj : j < 5) : f_X3_ofDough (nI a) fO (nI o) (nI j) = some (fO (o * 5 + j)) := by
  unfold f_X3_ofDough
  rw [c_hasD_y ha h, Option.bind_some, if_neg (by decide)]
  simp (disch := omega) only [nmL, nI_add, i_nltL, i_nLle, i_in, ncl]
section V
variable {a b kk : Nat} {T N fO fD rows : Nat → Int32}
/-- the class's view of what was told, and of NOW -/
def VO (a : Nat) (T fO : Nat → Int32) : Prop := a ≤ 5 ∧ ∀ o, o < a → fO (o * 2) = T (3 + o) ∧ fO (o * 2 + 1) = T (8 + o)
def VD (b : Nat) (T fD : Nat → Int32) : Prop := b ≤ 6 ∧ ∀ d j, d < b → j < 5 → fD (d * 5 + j) = T (13 + 6 * j + d)
def VN (kk : Nat) (N rows : Nat → Int32) : Prop := kk ≤ 10 ∧ ∀ j, j < 14 → rows (kk * 14 + pj j) = N j
theorem ofO0 (h : VO a T fO) {o : Nat} (ho : o < a) : f_X3_ofOven (nI a) fO (nI o) 0 = some (T (3 + o)) := by
  rw [show (0 : Int32) = nI 0 from rfl, c_ofO h.1 ho (by omega), Nat.add_zero, (h.2 o ho).1]
theorem ofO1 (h : VO a T fO) {o : Nat} (ho : o < a) : f_X3_ofOven (nI a) fO (nI o) 1 = some (T (8 + o)) := by
  rw [show (1 : Int32) = nI 1 from rfl, c_ofO h.1 ho (by omega), (h.2 o ho).2]
theorem ofD0 (h : VD b T fD) {d : Nat} (hd : d < b) : f_X3_ofDough (nI b) fD (nI d) 0 = some (T (13 + d)) := by
  rw [show (0 : Int32) = nI 0 from rfl, c_ofD h.1 hd (by omega), h.2 d 0 hd (by omega)]
theorem ofD1 (h : VD b T fD) {d : Nat} (hd : d < b) : f_X3_ofDough (nI b) fD (nI d) 1 = some (T (19 + d)) := by
  rw [show (1 : Int32) = nI 1 from rfl, c_ofD h.1 hd (by omega), h.2 d 1 hd (by omega)]
theorem ofD2 (h : VD b T fD) {d : Nat} (hd : d < b) : f_X3_ofDough (nI b) fD (nI d) 2 = some (T (25 + d)) := by
  rw [show (2 : Int32) = nI 2 from rfl, c_ofD h.1 hd (by omega), h.2 d 2 hd (by omega)]
theorem ofD3 (h : VD b T fD) {d : Nat} (hd : d < b) : f_X3_ofDough (nI b) fD (nI d) 3 = some (T (31 + d)) := by
  rw [show (3 : Int32) = nI 3 from rfl, c_ofD h.1 hd (by omega), h.2 d 3 hd (by omega)]
theorem ofD4 (h : VD b T fD) {d : Nat} (hd : d < b) : f_X3_ofDough (nI b) fD (nI d) 4 = some (T (37 + d)) := by
  rw [show (4 : Int32) = nI 4 from rfl, c_ofD h.1 hd (by omega), h.2 d 4 hd (by omega)]
theorem isPl {d : Nat} (h : d < 6) : f_X0_isPlace (nI d) = some 1 := by
  unfold f_X0_isPlace
  simp (disch := omega) only [i_nltL, i_nLle]
theorem c_place (h : VN kk N rows) {d : Nat} (hd : d < 6) : f_X0_place (nI kk) rows (nI d) = some (N d) := by
  have h1 := h.1
  unfold f_X0_place f_X0_base
  rw [isPl hd, Option.bind_some, if_neg (by decide), Option.bind_some]
  simp (disch := omega) only [nmL, naL, nI_add, i_in, ncl]
  rw [← h.2 d (by omega), pj_lo (by omega)]
  congr 2; omega
theorem c_baked (h : VN kk N rows) {d : Nat} (hd : d < 6) : f_X0_baked (nI kk) rows (nI d) = some (N (6 + d)) := by
  have h1 := h.1
  unfold f_X0_baked f_X0_base
  rw [isPl hd, Option.bind_some, if_neg (by decide), Option.bind_some]
  simp (disch := omega) only [nmL, naL, nI_add, i_in, ncl]
  rw [← h.2 (6 + d) (by omega), pj_lo (by omega)]
  congr 2; omega
theorem c_minute (h : VN kk N rows) : f_X0_minute (nI kk) rows = some (N 13) := by
  have h1 := h.1
  unfold f_X0_minute f_X0_base
  rw [Option.bind_some]
  simp (disch := omega) only [nmL, naL, nI_add, i_in, ncl]
  rw [← h.2 13 (by omega)]; rfl
theorem c_shutB (h : VN kk N rows) : f_X0_shutBits (nI kk) rows = some (N 12) := by
  have h1 := h.1
  unfold f_X0_shutBits f_X0_base
  rw [Option.bind_some]
  simp (disch := omega) only [nmL, naL, nI_add, i_in, ncl]
  rw [← h.2 12 (by omega)]; rfl
end V
