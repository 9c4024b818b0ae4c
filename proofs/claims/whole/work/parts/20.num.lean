/-! numbers: Int32 by Nat; rows that decide a condition once omega can -/
theorem L_ (n : Nat) : (OfNat.ofNat n : Int32) = nI n := rfl
theorem nmL (k n : Nat) : nI k * (no_index (OfNat.ofNat n : Int32)) = nI (k * (OfNat.ofNat n : Nat)) := pk_mul k n
theorem naL (k n : Nat) : nI k + (no_index (OfNat.ofNat n : Int32)) = nI (k + (OfNat.ofNat n : Nat)) := nI_add k n
theorem Lan (k n : Nat) : (no_index (OfNat.ofNat n : Int32)) + nI k = nI ((OfNat.ofNat n : Nat) + k) := nI_add n k
theorem Lmn (k n : Nat) : (no_index (OfNat.ofNat n : Int32)) * nI k = nI ((OfNat.ofNat n : Nat) * k) := pk_mul n k
theorem nsL {k n : Nat} (h : (OfNat.ofNat n : Nat) ≤ k) : nI k - (no_index (OfNat.ofNat n : Int32)) = nI (k - (OfNat.ofNat n : Nat)) := pk_sub h
theorem nle {a b : Nat} (ha : a < 2147483648) (hb : b < 2147483648) : nI a ≤ nI b ↔ a ≤ b := nI_leI ha hb
theorem nlt {a b : Nat} (ha : a < 2147483648) (hb : b < 2147483648) : nI a < nI b ↔ a < b := nI_ltI ha hb
theorem neq {a b : Nat} (ha : a < 2147483648) (hb : b < 2147483648) : nI a = nI b ↔ a = b := nI_eq ha hb
theorem ncl {n : Nat} (h : n < 2147483648) : (nI n).toNatClampNeg = n := nI_clamp h
theorem inb_n {n N : Nat} (h : n < 2147483648) : inb (nI n) N ↔ n < N := by
  show ¬ (nI n < nI 0 ∨ N ≤ (nI n).toNatClampNeg) ↔ n < N
  rw [nlt h (by omega), ncl h]; omega
section ITE
variable {α : Type} {x y : α} {a b : Nat} {A : Option α}
theorem i_in {n N : Nat} (h : n < N) (hN : N < 2147483648) : (if inb (nI n) N then A else none) = A := if_pos ((inb_n (by omega)).mpr h)
theorem i_le (h : a ≤ b) (hb : b < 2147483648) : (if nI a ≤ nI b then x else y) = x := if_pos ((nle (by omega) hb).mpr h)
theorem i_nle (h : b < a) (ha : a < 2147483648) : (if nI a ≤ nI b then x else y) = y := if_neg (fun q => absurd ((nle ha (by omega)).mp q) (by omega))
theorem i_lt (h : a < b) (hb : b < 2147483648) : (if nI a < nI b then x else y) = x := if_pos ((nlt (by omega) hb).mpr h)
theorem i_nlt (h : b ≤ a) (ha : a < 2147483648) : (if nI a < nI b then x else y) = y := if_neg (fun q => absurd ((nlt ha (by omega)).mp q) (by omega))
theorem i_eq (h : a = b) : (if nI a = nI b then x else y) = x := if_pos (by rw [h])
theorem i_ne (h : a ≠ b) (ha : a < 2147483648) (hb : b < 2147483648) : (if nI a = nI b then x else y) = y := if_neg (fun q => h ((neq ha hb).mp q))
-- a literal on one side
theorem i_leL {n : Nat} (h : a ≤ (OfNat.ofNat n : Nat)) (hn : (OfNat.ofNat n : Nat) < 2147483648) : (if nI a ≤ (no_index (OfNat.ofNat n : Int32)) then x else y) = x := i_le h hn
theorem i_nleL {n : Nat} (h : (OfNat.ofNat n : Nat) < a) (ha : a < 2147483648) : (if nI a ≤ (no_index (OfNat.ofNat n : Int32)) then x else y) = y := i_nle h ha
theorem i_ltL {n : Nat} (h : a < (OfNat.ofNat n : Nat)) (hn : (OfNat.ofNat n : Nat) < 2147483648) : (if nI a < (no_index (OfNat.ofNat n : Int32)) then x else y) = x := i_lt h hn
theorem i_nltL {n : Nat} (h : (OfNat.ofNat n : Nat) ≤ a) (ha : a < 2147483648) : (if nI a < (no_index (OfNat.ofNat n : Int32)) then x else y) = y := i_nlt h ha
theorem i_Lle {n : Nat} (h : (OfNat.ofNat n : Nat) ≤ b) (hb : b < 2147483648) : (if (no_index (OfNat.ofNat n : Int32)) ≤ nI b then x else y) = x := i_le h hb
theorem i_nLle {n : Nat} (h : b < (OfNat.ofNat n : Nat)) (hn : (OfNat.ofNat n : Nat) < 2147483648) : (if (no_index (OfNat.ofNat n : Int32)) ≤ nI b then x else y) = y := i_nle h hn
theorem i_Llt {n : Nat} (h : (OfNat.ofNat n : Nat) < b) (hb : b < 2147483648) : (if (no_index (OfNat.ofNat n : Int32)) < nI b then x else y) = x := i_lt h hb
theorem i_nLlt {n : Nat} (h : b ≤ (OfNat.ofNat n : Nat)) (hn : (OfNat.ofNat n : Nat) < 2147483648) : (if (no_index (OfNat.ofNat n : Int32)) < nI b then x else y) = y := i_nlt h hn
theorem i_eqL {n : Nat} (h : a = (OfNat.ofNat n : Nat)) : (if nI a = (no_index (OfNat.ofNat n : Int32)) then x else y) = x := i_eq h
theorem i_neL {n : Nat} (h : a ≠ (OfNat.ofNat n : Nat)) (ha : a < 2147483648) (hn : (OfNat.ofNat n : Nat) < 2147483648) : (if nI a = (no_index (OfNat.ofNat n : Int32)) then x else y) = y := i_ne h ha hn
end ITE
/-- an int is below 0, or some n -/
theorem n_cases (x : Int32) : x < 0 ∨ ∃ n : Nat, n < 2147483648 ∧ x = nI n := by
  by_cases h : x < 0
  · exact Or.inl h
  · obtain ⟨j, h1, h2⟩ := nI_of h; exact Or.inr ⟨j, h1, h2⟩
theorem n_nneg {n : Nat} (h : n < 2147483648) : ¬ nI n < 0 := fun q => absurd ((nlt h (by omega : 0 < 2147483648)).mp q) (by omega)
theorem n_ge0 {n : Nat} (h : n < 2147483648) : 0 ≤ nI n := (nle (by omega : 0 < 2147483648) h).mpr (Nat.zero_le n)
theorem m9_n {n : Nat} (h : n < 2147483648) : ¬ nI n = -9 := fun q => n_nneg h (by rw [q]; decide)
theorem m9_n' {n : Nat} (h : n < 2147483648) : ¬ (-9 : Int32) = nI n := fun q => m9_n h q.symm
theorem m5_n {n : Nat} (h : n < 2147483648) : ¬ nI n = -5 := fun q => n_nneg h (by rw [q]; decide)
theorem upd_s {f : Nat → Int32} {k : Nat} {x : Int32} : upd f k x k = x := pk_us
theorem upd_n {f : Nat → Int32} {k j : Nat} {x : Int32} (h : j ≠ k) : upd f k x j = f j := pk_un h
theorem upd_if (f : Nat → Int32) (k j : Nat) (x : Int32) : upd f k x j = if j = k then x else f j := by
  by_cases h : j = k
  · subst h; rw [upd_s, if_pos rfl]
  · rw [upd_n h, if_neg h]
theorem FU_v : FU = 1000 := rfl
/-! bounds of Int32 by Int -/
theorem t_lt {a b : Int32} : a < b ↔ a.toInt < b.toInt := Int32.lt_iff_toInt_lt
theorem t_le {a b : Int32} : a ≤ b ↔ a.toInt ≤ b.toInt := Int32.le_iff_toInt_le
theorem t_eq {a b : Int32} : a = b ↔ a.toInt = b.toInt := Int32.toInt_inj.symm
theorem t_n {n : Nat} (h : n < 2147483648) : (nI n).toInt = (n : Int) := nI_toInt h
theorem t_bm {z : Int} (h1 : -2147483648 ≤ z) (h2 : z < 2147483648) : z.bmod (2 ^ 32) = z := by
  rw [Int.bmod_def]; omega
theorem t_add {x y : Int32} (h1 : -2147483648 ≤ x.toInt + y.toInt) (h2 : x.toInt + y.toInt < 2147483648) : (x + y).toInt = x.toInt + y.toInt := by
  rw [Int32.toInt_add]; exact t_bm h1 h2
theorem t_sub {x y : Int32} (h1 : -2147483648 ≤ x.toInt - y.toInt) (h2 : x.toInt - y.toInt < 2147483648) : (x - y).toInt = x.toInt - y.toInt := by
  rw [Int32.toInt_sub]; exact t_bm h1 h2
theorem t_mul {x y : Int32} (h1 : -2147483648 ≤ x.toInt * y.toInt) (h2 : x.toInt * y.toInt < 2147483648) : (x * y).toInt = x.toInt * y.toInt := by
  rw [Int32.toInt_mul]; exact t_bm h1 h2
theorem test_1 (k d : Nat) (hk : k ≤ 10) (hd : d < 6) (rows : Nat → Int32) : (if inb (nI k * 14 + 2 + nI d) 154 then some (rows (nI k * 14 + 2 + nI d).toNatClampNeg) else none) = some (rows (k * 14 + 2 + d)) := by
  simp (disch := omega) only [nmL, naL, nI_add, i_in, ncl]
