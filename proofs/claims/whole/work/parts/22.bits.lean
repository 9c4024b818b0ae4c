/-! bits: who is where, how many; how hot; what is shut -/
def wb (N : Nat → Int32) (pl : Int32) : Nat → Int32
  | 0 => 0
  | d + 1 => if N d = pl then wb N pl d ||| ((1 : Int32) <<< (nI d &&& 31)) else wb N pl d
theorem bit_n : ∀ d : Nat, d < 6 → (1 : Int32) <<< (nI d &&& 31) = nI (2 ^ d) := by decide +kernel
theorem n_or (a b : Nat) : nI a ||| nI b = nI (a ||| b) := by
  apply Int32.toBitVec_inj.mp
  show BitVec.ofNat 32 a ||| BitVec.ofNat 32 b = BitVec.ofNat 32 (a ||| b)
  exact BitVec.ofNat_or.symm
theorem n_and (a b : Nat) : nI a &&& nI b = nI (a &&& b) := by
  apply Int32.toBitVec_inj.mp
  show BitVec.ofNat 32 a &&& BitVec.ofNat 32 b = BitVec.ofNat 32 (a &&& b)
  exact BitVec.ofNat_and.symm
theorem wb_n (N : Nat → Int32) (pl : Int32) : ∀ b : Nat, b ≤ 6 → ∃ w : Nat, w < 2 ^ b ∧ wb N pl b = nI w
  | 0, _ => ⟨0, by decide, rfl⟩
  | d + 1, h => by
    obtain ⟨w, h1, h2⟩ := wb_n N pl d (by omega)
    rw [wb]
    by_cases c : N d = pl
    · rw [if_pos c, h2, bit_n d (by omega), n_or]
      refine ⟨_, Nat.or_lt_two_pow (Nat.lt_trans h1 ?_) ?_, rfl⟩
      · exact Nat.pow_lt_pow_right (by decide) (by omega)
      · exact Nat.pow_lt_pow_right (by decide) (by omega)
    · rw [if_neg c]
      exact ⟨w, Nat.lt_trans h1 (Nat.pow_lt_pow_right (by decide) (by omega)), h2⟩
theorem wb_64 (N : Nat → Int32) (pl : Int32) {b : Nat} (h : b ≤ 6) : ∃ w : Nat, w < 64 ∧ wb N pl b = nI w := by
  obtain ⟨w, h1, h2⟩ := wb_n N pl b h
  exact ⟨w, Nat.lt_of_lt_of_le h1 (Nat.pow_le_pow_right (by decide) h), h2⟩
theorem wb_congr {N N' : Nat → Int32} {pl : Int32} : ∀ {b : Nat}, (∀ d, d < b → N d = N' d) → wb N pl b = wb N' pl b
  | 0, _ => rfl
  | b + 1, h => by
    rw [wb, wb, h b (by omega), wb_congr (fun d hd => h d (by omega))]
def on (x : Int32) : Nat → Int32
  | 0 => 0
  | k + 1 => on x k + ((x >>> (nI k &&& 31)) &&& 1)
section V
variable {a b kk : Nat} {T N fO fD rows S : Nat → Int32}
theorem c_placedAt_l (h : VN kk N rows) (hb : b ≤ 6) (pl : Int32) : ∀ (m d fuel : Nat), d + m = b → m < fuel → f_X0_placedAt_5 (nI kk) (nI b) rows fuel pl (wb N pl d) (nI d) = some (wb N pl b) := by
  intro m
  induction m with
  | zero =>
    intro d fuel hd hf
    obtain ⟨n, rfl⟩ : ∃ n, fuel = n + 1 := ⟨fuel - 1, by omega⟩
    rw [f_X0_placedAt_5, f_X3_doughs, Option.bind_some, i_le (by omega) (by omega), show d = b by omega]
  | succ m ih =>
    intro d fuel hd hf
    obtain ⟨n, rfl⟩ : ∃ n, fuel = n + 1 := ⟨fuel - 1, by omega⟩
    have h2 := ih (d + 1) n (by omega) (by omega)
    rw [f_X0_placedAt_5, f_X3_doughs, Option.bind_some, i_nle (by omega) (by omega), c_place h (by omega), Option.bind_some, nI_1]
    by_cases c : N d = pl
    · rw [if_pos c]; rw [wb, if_pos c] at h2; exact h2
    · rw [if_neg c]; rw [wb, if_neg c] at h2; exact h2
theorem c_placedAt (h : VN kk N rows) (hb : b ≤ 6) (pl : Int32) : f_X0_placedAt (nI kk) (nI b) rows pl = some (wb N pl b) := by
  unfold f_X0_placedAt
  exact c_placedAt_l h hb pl b 0 FU (by omega) (by rw [FU_v]; omega)
theorem or_0 (x : Int32) : x ||| 0 = x := by
  apply Int32.toBitVec_inj.mp
  show x.toBitVec ||| 0#32 = x.toBitVec
  exact BitVec.or_zero
theorem m_where_l (hT : T 1 = nI b) (hS : ∀ j, j < 14 → S j = N j) (hb : b ≤ 6) (pl : Int32) : ∀ (m d fuel : Nat), d + m = b → m < fuel → f_X5_whereAll_4 T S fuel pl (wb N pl d) (nI d) = some (wb N pl b) := by
  intro m
  induction m with
  | zero =>
    intro d fuel hd hf
    obtain ⟨n, rfl⟩ : ∃ n, fuel = n + 1 := ⟨fuel - 1, by omega⟩
    rw [f_X5_whereAll_4, hT, i_le (by omega) (by omega), show d = b by omega]
  | succ m ih =>
    intro d fuel hd hf
    obtain ⟨n, rfl⟩ : ∃ n, fuel = n + 1 := ⟨fuel - 1, by omega⟩
    have h2 := ih (d + 1) n (by omega) (by omega)
    rw [f_X5_whereAll_4, hT, i_nle (by omega) (by omega), i_in (by omega) (by omega), ncl (by omega), hS d (by omega)]
    by_cases c : N d = pl
    · rw [if_pos c, f_X5_whereAll_32, nI_1]; rw [wb, if_pos c] at h2; exact h2
    · rw [if_neg c, f_X5_whereAll_32, nI_1, or_0]; rw [wb, if_neg c] at h2; exact h2
theorem m_where (hT : T 1 = nI b) (hS : ∀ j, j < 14 → S j = N j) (hb : b ≤ 6) (pl : Int32) : f_X5_whereAll T S pl = some (wb N pl b) := by
  unfold f_X5_whereAll
  exact m_where_l hT hS hb pl b 0 FU (by omega) (by rw [FU_v]; omega)
theorem m_ones_l (x : Int32) : ∀ (m d fuel : Nat), d + m = 6 → m < fuel → f_X5_ones_4 fuel x (on x d) (nI d) = some (on x 6) := by
  intro m
  induction m with
  | zero =>
    intro d fuel hd hf
    obtain ⟨n, rfl⟩ : ∃ n, fuel = n + 1 := ⟨fuel - 1, by omega⟩
    rw [f_X5_ones_4, i_Lle (by omega) (by omega), show d = 6 by omega]
  | succ m ih =>
    intro d fuel hd hf
    obtain ⟨n, rfl⟩ : ∃ n, fuel = n + 1 := ⟨fuel - 1, by omega⟩
    have h2 := ih (d + 1) n (by omega) (by omega)
    rw [f_X5_ones_4, i_nLle (by omega) (by omega), nI_1]
    exact h2
theorem m_ones (x : Int32) : f_X5_ones x = some (on x 6) := by
  unfold f_X5_ones
  exact m_ones_l x 6 0 FU (by omega) (by rw [FU_v]; omega)
theorem bc_on : ∀ w : Nat, w < 64 → f_J6_bitCount_0f7a4 (nI w) = some (on (nI w) 6) := by
  have h : ∀ w : Fin 64, f_J6_bitCount_0f7a4 (nI w.val) = some (on (nI w.val) 6) := by decide +kernel
  exact fun w hw => h ⟨w, hw⟩
theorem bc_wb (N : Nat → Int32) (pl : Int32) (hb : b ≤ 6) : f_J6_bitCount_0f7a4 (wb N pl b) = some (on (wb N pl b) 6) := by
  obtain ⟨w, h1, h2⟩ := wb_64 N pl hb
  rw [h2]; exact bc_on w h1
/-- how hot oven o is -/
def hotI (T N : Nat → Int32) (b o : Nat) : Int32 := (T (3 + o) * (10 - on (wb N (nI o) b) 6)) / 10
theorem c_hot (h : VN kk N rows) (hO : VO a T fO) (hb : b ≤ 6) {o : Nat} (ho : o < a) : f_X0_hot (nI kk) (nI a) (nI b) rows fO (nI o) = some (hotI T N b o) := by
  unfold f_X0_hot
  rw [c_placedAt h hb, Option.bind_some, bc_wb N _ hb, Option.bind_some, ofO0 hO ho, Option.bind_some]
  rfl
theorem m_hot (hT : T 1 = nI b) (hS : ∀ j, j < 14 → S j = N j) (hb : b ≤ 6) {o : Nat} (ho : o < 5) : f_X5_hot T S (nI o) = some (hotI T N b o) := by
  unfold f_X5_hot
  simp (disch := omega) only [Lan, i_in, ncl]
  rw [m_where hT hS hb, Option.bind_some, m_ones, Option.bind_some]
  rfl
/-- shut, by bits -/
theorem sh_c : ∀ sh o : Nat, sh < 32 → o < 5 → ((nI sh &&& ((1 : Int32) <<< (nI o &&& 31))) = 0 ↔ sh.testBit o = false) := by
  have h : ∀ sh : Fin 32, ∀ o : Fin 5, ((nI sh.val &&& ((1 : Int32) <<< (nI o.val &&& 31))) = 0 ↔ sh.val.testBit o.val = false) := by decide +kernel
  exact fun sh o h1 h2 => h ⟨sh, h1⟩ ⟨o, h2⟩
theorem sh_m : ∀ sh o : Nat, sh < 64 → o < 6 → ((nI sh >>> (nI o &&& 31)) &&& 1) = if sh.testBit o then 1 else 0 := by
  have h : ∀ sh : Fin 64, ∀ o : Fin 6, ((nI sh.val >>> (nI o.val &&& 31)) &&& 1) = if sh.val.testBit o.val then 1 else 0 := by decide +kernel
  exact fun sh o h1 h2 => h ⟨sh, h1⟩ ⟨o, h2⟩
theorem c_isShut (h : VN kk N rows) {sh o : Nat} (hsh : sh < 32) (hN : N 12 = nI sh) (ho : o < 5) : f_X0_isShut (nI kk) rows (nI o) = some (if sh.testBit o then 1 else 0) := by
  unfold f_X0_isShut
  rw [c_shutB h, Option.bind_some, hN]
  by_cases q : sh.testBit o = true
  · rw [if_neg (fun z => by rw [(sh_c sh o hsh ho).mp z] at q; cases q), if_pos q]
  · rw [if_pos ((sh_c sh o hsh ho).mpr (by simpa using q)), if_neg q]
theorem m_isShut {sh o : Nat} (hsh : sh < 32) (hN : S 12 = nI sh) (ho : o < 5) : f_X5_isShut S (nI o) = some (if sh.testBit o then 1 else 0) := by
  unfold f_X5_isShut
  rw [hN, sh_m sh o (by omega) (by omega)]
  by_cases q : sh.testBit o = true
  · simp only [q, if_true]
  · simp only [q]; rfl
end V
