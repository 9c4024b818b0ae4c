/-! the text: an oven's numbers, a dough's numbers -/
def loD (j : Nat) : Nat := match j with | 2 => 1 | _ => 0
def hiD (j : Nat) : Nat := match j with | 0 => 9 | 1 => 9 | 2 => 99 | 3 => 60 | _ => 99
def hiO (j : Nat) : Nat := match j with | 0 => 40 | _ => 18
theorem hiD_le (j : Nat) : hiD j ≤ 99 := by unfold hiD; split <;> omega
theorem hiO_le (j : Nat) : hiO j ≤ 99 := by unfold hiO; split <;> omega
theorem loD_le (j : Nat) : loD j ≤ 99 := by unfold loD; split <;> omega
section X
variable {n : Nat} {by1 tx : Nat → Int32} {c : Nat → Nat}
def gD (nb nd : Int32) (by1 : Nat → Int32) (k : Nat) (p x1 x2 x3 : Int32) (fD : Nat → Int32) (j : Int32) : Option (Int32 × Int32 × Int32 × Int32 × Int32 × (Nat → Int32)) := (f_X2_nextToken nb by1 p x1 x2 x3).bind fun u_1 => f_X2_readDoughNumbers_6 nb nd by1 k u_1.1 u_1.2.1 u_1.2.2.1 u_1.2.2.2 fD j
def gO (nb nd : Int32) (by1 : Nat → Int32) (k : Nat) (p x1 x2 x3 : Int32) (fO : Nat → Int32) (j : Int32) : Option (Int32 × Int32 × Int32 × Int32 × Int32 × (Nat → Int32)) := (f_X2_nextToken nb by1 p x1 x2 x3).bind fun u_1 => f_X2_readOvenNumbers_6 nb nd by1 k u_1.1 u_1.2.1 u_1.2.2.1 u_1.2.2.2 fO j
theorem d6 {j : Nat} (hj : j < 4) (nb nd : Int32) (k : Nat) (pl tk st v : Int32) (fD : Nat → Int32) : f_X2_readDoughNumbers_6 nb nd by1 (k + 1) pl tk st v fD (nI j) = (f_X2_isNumberWithin tk v (nI (loD j)) (nI (hiD j))).bind fun u_2 => if u_2 = 0 then some (0, pl, tk, st, v, fD) else ((f_X3_setOfLastDough nd fD (nI j) v).bind fun u_4 => gD nb nd by1 k pl tk st v u_4 (nI (j + 1))) := by
  rw [f_X2_readDoughNumbers_6, i_nLle (by omega) (by omega), i_neL (by omega) (by omega) (by omega), i_in (by omega) (by omega), f_X2_readDoughNumbers_35, i_in (by omega) (by omega), ncl (by omega), nI_1]
  have e : tL5 j = nI (loD j) ∧ tM5 j = nI (hiD j) := by
    have : j = 0 ∨ j = 1 ∨ j = 2 ∨ j = 3 := by omega
    rcases this with rfl | rfl | rfl | rfl <;> exact ⟨rfl, rfl⟩
  rw [e.1, e.2]; rfl
theorem d6_4 {b : Nat} (hb : b < 6) (nb : Int32) (k : Nat) (pl tk st v : Int32) (fD : Nat → Int32) : f_X2_readDoughNumbers_6 nb (nI (b + 1)) by1 (k + 1) pl tk st v fD (nI 4) = (f_X2_isNumberWithin tk v (fD (b * 5 + 3)) (nI (hiD 4))).bind fun u_2 => if u_2 = 0 then some (0, pl, tk, st, v, fD) else ((f_X3_setOfLastDough (nI (b + 1)) fD (nI 4) v).bind fun u_4 => gD nb (nI (b + 1)) by1 k pl tk st v u_4 (nI 5)) := by
  rw [f_X2_readDoughNumbers_6, i_nLle (by omega) (by omega), i_eqL rfl, f_X3_doughs, Option.bind_some, show nI (b + 1) - 1 = nI b from nsL (n := 1) (show 1 ≤ b + 1 by omega), show (3 : Int32) = nI 3 from rfl, c_ofD (by omega) (by omega) (by omega), Option.bind_some, f_X2_readDoughNumbers_35, i_in (by omega) (by omega), ncl (by omega), nI_1]
  rfl
theorem o6 {j : Nat} (hj : j < 2) (nb nd : Int32) (k : Nat) (pl tk st v : Int32) (fO : Nat → Int32) : f_X2_readOvenNumbers_6 nb nd by1 (k + 1) pl tk st v fO (nI j) = (f_X2_isNumberWithin tk v (nI 0) (nI (hiO j))).bind fun u_2 => if u_2 = 0 then some (0, pl, tk, st, v, fO) else ((f_X3_setOfLastOven nd fO (nI j) v).bind fun u_4 => gO nb nd by1 k pl tk st v u_4 (nI (j + 1))) := by
  rw [f_X2_readOvenNumbers_6, i_nLle (by omega) (by omega), i_in (by omega) (by omega), ncl (by omega), nI_1]
  have e : tO2 j = nI (hiO j) := by
    have : j = 0 ∨ j = 1 := by omega
    rcases this with rfl | rfl <;> rfl
  rw [e]; rfl
/-- a number of a dough: none, or the next -/
theorem dst (h : TX n by1 tx c) {p b j : Nat} (hp : p ≤ n) (hb : b < 6) (hj : j < 4) (k : Nat) (x1 x2 x3 y1 y2 y3 : Int32) (fD M : Nat → Int32) : (∃ ts j1 j2 j3 j4 k1 k2 k3 M', ts ≤ n ∧ gD (nI n) (nI (b + 1)) by1 (k + 1) (nI p) x1 x2 x3 fD (nI j) = some (0, j1, j2, nI ts, j3, j4) ∧ f_X5_number (nI n) tx (nI p) y1 y2 y3 M (nI (13 + 6 * j + b)) (nI (loD j)) (nI (hiD j)) = some (0, k1, k2, nI ts, k3, M')) ∨ (∃ v p' x1' x2' x3' y1' y2' y3', loD j ≤ v ∧ v ≤ hiD j ∧ p ≤ p' ∧ p' ≤ n ∧ gD (nI n) (nI (b + 1)) by1 (k + 1) (nI p) x1 x2 x3 fD (nI j) = gD (nI n) (nI (b + 1)) by1 k (nI p') x1' x2' x3' (upd fD (b * 5 + j) (nI v)) (nI (j + 1)) ∧ f_X5_number (nI n) tx (nI p) y1 y2 y3 M (nI (13 + 6 * j + b)) (nI (loD j)) (nI (hiD j)) = some (1, nI p', y1', y2', y3', upd M (13 + 6 * j + b) (nI v))) := by
  obtain ⟨p', ts, ck, cv, mk, mv, a1, a2, a3, a4, a5⟩ := nbr h hp (show 13 + 6 * j + b < 43 by omega) (loD_le j) (hiD_le j) x1 x2 x3 y1 y2 y3 M
  have e : gD (nI n) (nI (b + 1)) by1 (k + 1) (nI p) x1 x2 x3 fD (nI j) = (f_X2_isNumberWithin ck cv (nI (loD j)) (nI (hiD j))).bind fun u_2 => if u_2 = 0 then some (0, nI p', ck, nI ts, cv, fD) else ((f_X3_setOfLastDough (nI (b + 1)) fD (nI j) cv).bind fun u_4 => gD (nI n) (nI (b + 1)) by1 k (nI p') ck (nI ts) cv u_4 (nI (j + 1))) := by
    rw [gD, a4, Option.bind_some]; exact d6 hj _ _ _ _ _ _ _ _
  rw [e]
  rcases a5 with ⟨b1, b2⟩ | ⟨v, v1, v2, b0, b1, b2⟩
  · rw [b1, Option.bind_some, if_pos rfl, b2]
    exact Or.inl ⟨ts, _, _, _, _, _, _, _, _, a3, rfl, rfl⟩
  · rw [b1, Option.bind_some, if_neg ne10, setD hb (by omega), Option.bind_some, b2, b0]
    exact Or.inr ⟨v, p', _, _, _, _, _, _, v1, v2, a1, a2, rfl, rfl⟩
theorem dst4 (h : TX n by1 tx c) {p b lo : Nat} (hp : p ≤ n) (hb : b < 6) (hlo : lo ≤ 60) (k : Nat) (x1 x2 x3 y1 y2 y3 : Int32) (fD M : Nat → Int32) (hf : fD (b * 5 + 3) = nI lo) : (∃ ts j1 j2 j3 j4 k1 k2 k3 M', ts ≤ n ∧ gD (nI n) (nI (b + 1)) by1 (k + 1) (nI p) x1 x2 x3 fD (nI 4) = some (0, j1, j2, nI ts, j3, j4) ∧ f_X5_number (nI n) tx (nI p) y1 y2 y3 M (nI (37 + b)) (nI lo) (nI 99) = some (0, k1, k2, nI ts, k3, M')) ∨ (∃ v p' x1' x2' x3' y1' y2' y3', v ≤ 99 ∧ p ≤ p' ∧ p' ≤ n ∧ gD (nI n) (nI (b + 1)) by1 (k + 1) (nI p) x1 x2 x3 fD (nI 4) = gD (nI n) (nI (b + 1)) by1 k (nI p') x1' x2' x3' (upd fD (b * 5 + 4) (nI v)) (nI 5) ∧ f_X5_number (nI n) tx (nI p) y1 y2 y3 M (nI (37 + b)) (nI lo) (nI 99) = some (1, nI p', y1', y2', y3', upd M (37 + b) (nI v))) := by
  obtain ⟨p', ts, ck, cv, mk, mv, a1, a2, a3, a4, a5⟩ := nbr h hp (show 37 + b < 43 by omega) (show lo ≤ 99 by omega) (show 99 ≤ 99 by omega) x1 x2 x3 y1 y2 y3 M
  have e : gD (nI n) (nI (b + 1)) by1 (k + 1) (nI p) x1 x2 x3 fD (nI 4) = (f_X2_isNumberWithin ck cv (nI lo) (nI 99)).bind fun u_2 => if u_2 = 0 then some (0, nI p', ck, nI ts, cv, fD) else ((f_X3_setOfLastDough (nI (b + 1)) fD (nI 4) cv).bind fun u_4 => gD (nI n) (nI (b + 1)) by1 k (nI p') ck (nI ts) cv u_4 (nI 5)) := by
    rw [gD, a4, Option.bind_some, ← hf]; exact d6_4 hb _ _ _ _ _ _ _
  rw [e]
  rcases a5 with ⟨b1, b2⟩ | ⟨v, v1, v2, b0, b1, b2⟩
  · rw [b1, Option.bind_some, if_pos rfl, b2]
    exact Or.inl ⟨ts, _, _, _, _, _, _, _, _, a3, rfl, rfl⟩
  · rw [b1, Option.bind_some, if_neg ne10, setD hb (by omega), Option.bind_some, b2, b0]
    exact Or.inr ⟨v, p', _, _, _, _, _, _, v2, a1, a2, rfl, rfl⟩
theorem ost (h : TX n by1 tx c) {p a j pl : Nat} (hp : p ≤ n) (ha : a < 5) (hj : j < 2) (hpl : pl < 43) (k : Nat) (x1 x2 x3 y1 y2 y3 : Int32) (fO M : Nat → Int32) : (∃ ts j1 j2 j3 j4 k1 k2 k3 M', ts ≤ n ∧ gO (nI n) (nI (a + 1)) by1 (k + 1) (nI p) x1 x2 x3 fO (nI j) = some (0, j1, j2, nI ts, j3, j4) ∧ f_X5_number (nI n) tx (nI p) y1 y2 y3 M (nI pl) (nI 0) (nI (hiO j)) = some (0, k1, k2, nI ts, k3, M')) ∨ (∃ v p' x1' x2' x3' y1' y2' y3', v ≤ hiO j ∧ p ≤ p' ∧ p' ≤ n ∧ gO (nI n) (nI (a + 1)) by1 (k + 1) (nI p) x1 x2 x3 fO (nI j) = gO (nI n) (nI (a + 1)) by1 k (nI p') x1' x2' x3' (upd fO (a * 2 + j) (nI v)) (nI (j + 1)) ∧ f_X5_number (nI n) tx (nI p) y1 y2 y3 M (nI pl) (nI 0) (nI (hiO j)) = some (1, nI p', y1', y2', y3', upd M pl (nI v))) := by
  obtain ⟨p', ts, ck, cv, mk, mv, a1, a2, a3, a4, a5⟩ := nbr h hp hpl (show 0 ≤ 99 by omega) (hiO_le j) x1 x2 x3 y1 y2 y3 M
  have e : gO (nI n) (nI (a + 1)) by1 (k + 1) (nI p) x1 x2 x3 fO (nI j) = (f_X2_isNumberWithin ck cv (nI 0) (nI (hiO j))).bind fun u_2 => if u_2 = 0 then some (0, nI p', ck, nI ts, cv, fO) else ((f_X3_setOfLastOven (nI (a + 1)) fO (nI j) cv).bind fun u_4 => gO (nI n) (nI (a + 1)) by1 k (nI p') ck (nI ts) cv u_4 (nI (j + 1))) := by
    rw [gO, a4, Option.bind_some]; exact o6 hj _ _ _ _ _ _ _ _
  rw [e]
  rcases a5 with ⟨b1, b2⟩ | ⟨v, v1, v2, b0, b1, b2⟩
  · rw [b1, Option.bind_some, if_pos rfl, b2]
    exact Or.inl ⟨ts, _, _, _, _, _, _, _, _, a3, rfl, rfl⟩
  · rw [b1, Option.bind_some, if_neg ne10, setO ha hj, Option.bind_some, b2, b0]
    exact Or.inr ⟨v, p', _, _, _, _, _, _, v2, a1, a2, rfl, rfl⟩
def oM (M : Nat → Int32) (a : Nat) (v0 v1 : Nat) : Nat → Int32 := upd (upd M (3 + a) (nI v0)) (8 + a) (nI v1)
def oF (fO : Nat → Int32) (a : Nat) (v0 v1 : Nat) : Nat → Int32 := upd (upd fO (a * 2 + 0) (nI v0)) (a * 2 + 1) (nI v1)
theorem it_o (h : TX n by1 tx c) {p a : Nat} (hp : p ≤ n) (ha : a < 5) (x1 x2 x3 y1 y2 y3 : Int32) (fO M : Nat → Int32) : (∃ ts j1 j2 j3 j4 k1 k2 k3 M', ts ≤ n ∧ f_X2_readOvenNumbers (nI n) (nI (a + 1)) by1 (nI p) x1 x2 x3 fO = some (0, j1, j2, nI ts, j3, j4) ∧ f_X5_readsItem_38 (nI n) tx (nI p) y1 y2 y3 M 111 (nI a) = some (0, k1, k2, nI ts, k3, M')) ∨ (∃ p1 z1 z2 z3 p' ts ck cv mk mv v0 v1, p' ≤ n ∧ ts ≤ n ∧ v0 ≤ 40 ∧ v1 ≤ 18 ∧ (¬ ck = 0 → p < p') ∧ f_X2_readOvenNumbers (nI n) (nI (a + 1)) by1 (nI p) x1 x2 x3 fO = some (1, nI p', ck, nI ts, cv, oF fO a v0 v1) ∧ f_X5_readsItem_38 (nI n) tx (nI p) y1 y2 y3 M 111 (nI a) = some (1, nI p1, z1, z2, z3, upd (oM M a v0 v1) 0 (oM M a v0 v1 0 + 1)) ∧ f_X5_token (nI n) tx (nI p1) z1 z2 z3 = some (nI p', mk, nI ts, mv) ∧ TK ck cv mk mv) := by
  have e0 : f_X2_readOvenNumbers (nI n) (nI (a + 1)) by1 (nI p) x1 x2 x3 fO = gO (nI n) (nI (a + 1)) by1 (998 + 1 + 1) (nI p) x1 x2 x3 fO (nI 0) := rfl
  rw [e0]
  unfold f_X5_readsItem_38
  rw [if_pos rfl, i_neL (by omega) (by omega) (by omega), Lan, Lan]
  rcases ost h hp ha (show 0 < 2 by omega) (show 3 + a < 43 by omega) (998 + 1) x1 x2 x3 y1 y2 y3 fO M with ⟨ts, j1, j2, j3, j4, k1, k2, k3, M', g0, g1, g2⟩ | ⟨v0, p1, x1', x2', x3', y1', y2', y3', l1, l2, l3, g1, g2⟩
  · rw [g1, show f_X5_number (nI n) tx (nI p) y1 y2 y3 M (nI ((OfNat.ofNat 3 : Nat) + a)) 0 40 = _ from g2, Option.bind_some, if_pos rfl]
    exact Or.inl ⟨ts, _, _, _, _, _, _, _, _, g0, rfl, rfl⟩
  · rw [g1, show f_X5_number (nI n) tx (nI p) y1 y2 y3 M (nI ((OfNat.ofNat 3 : Nat) + a)) 0 40 = _ from g2, Option.bind_some, if_neg ne10]
    rcases ost h l3 ha (show 1 < 2 by omega) (show 8 + a < 43 by omega) 998 x1' x2' x3' y1' y2' y3' (upd fO (a * 2 + 0) (nI v0)) (upd M (3 + a) (nI v0)) with ⟨ts, j1, j2, j3, j4, k1, k2, k3, M', q0, q1, q2⟩ | ⟨v1, p2, x1'', x2'', x3'', y1'', y2'', y3'', l1', l2', l3', q1, q2⟩
    · rw [show gO (nI n) (nI (a + 1)) by1 (998 + 1) (nI p1) x1' x2' x3' (upd fO (a * 2 + 0) (nI v0)) (nI (0 + 1)) = _ from q1]
      dsimp only
      rw [show f_X5_number (nI n) tx (nI p1) y1' y2' y3' (upd M (3 + a) (nI v0)) (nI ((OfNat.ofNat 8 : Nat) + a)) 0 18 = _ from q2, Option.bind_some, if_pos rfl]
      exact Or.inl ⟨ts, _, _, _, _, _, _, _, _, q0, rfl, rfl⟩
    · rw [show gO (nI n) (nI (a + 1)) by1 (998 + 1) (nI p1) x1' x2' x3' (upd fO (a * 2 + 0) (nI v0)) (nI (0 + 1)) = _ from q1]
      dsimp only
      rw [show f_X5_number (nI n) tx (nI p1) y1' y2' y3' (upd M (3 + a) (nI v0)) (nI ((OfNat.ofNat 8 : Nat) + a)) 0 18 = _ from q2, Option.bind_some, if_neg ne10]
      obtain ⟨p', ts, ck, cv, mk, mv, b1, b2, b3, b4, b5, b6, b7⟩ := tok h l3' x1'' x2'' x3'' y1'' y2'' y3''
      have ge : gO (nI n) (nI (a + 1)) by1 998 (nI p2) x1'' x2'' x3'' (oF fO a v0 v1) (nI (1 + 1)) = some (1, nI p', ck, nI ts, cv, oF fO a v0 v1) := by
        rw [gO, b4, Option.bind_some, show 998 = 997 + 1 from rfl, f_X2_readOvenNumbers_6, i_Lle (by omega) (by omega)]
      refine Or.inr ⟨p2, y1'', y2'', y3'', p', ts, ck, cv, mk, mv, v0, v1, b2, b3, l1, l1', fun z => by have := b7 z; omega, ge, rfl, b5, b6⟩
def dM (M : Nat → Int32) (b : Nat) (w : Nat → Nat) : Nat → Int32 := upd (upd (upd (upd (upd M (13 + 6 * 0 + b) (nI (w 0))) (13 + 6 * 1 + b) (nI (w 1))) (13 + 6 * 2 + b) (nI (w 2))) (13 + 6 * 3 + b) (nI (w 3))) (37 + b) (nI (w 4))
def dF (fD : Nat → Int32) (b : Nat) (w : Nat → Nat) : Nat → Int32 := upd (upd (upd (upd (upd fD (b * 5 + 0) (nI (w 0))) (b * 5 + 1) (nI (w 1))) (b * 5 + 2) (nI (w 2))) (b * 5 + 3) (nI (w 3))) (b * 5 + 4) (nI (w 4))
theorem it_d (h : TX n by1 tx c) {p b : Nat} (hp : p ≤ n) (hb : b < 6) (x1 x2 x3 y1 y2 y3 : Int32) (fD M : Nat → Int32) : (∃ ts j1 j2 j3 j4 k1 k2 k3 M', ts ≤ n ∧ f_X2_readDoughNumbers (nI n) (nI (b + 1)) by1 (nI p) x1 x2 x3 fD = some (0, j1, j2, nI ts, j3, j4) ∧ f_X5_readsItem_38 (nI n) tx (nI p) y1 y2 y3 M 100 (nI b) = some (0, k1, k2, nI ts, k3, M')) ∨ (∃ p1 z1 z2 z3 p' ts ck cv mk mv w, p' ≤ n ∧ ts ≤ n ∧ w 0 ≤ 9 ∧ w 1 ≤ 9 ∧ 1 ≤ w 2 ∧ w 2 ≤ 99 ∧ w 3 ≤ 60 ∧ w 4 ≤ 99 ∧ (¬ ck = 0 → p < p') ∧ f_X2_readDoughNumbers (nI n) (nI (b + 1)) by1 (nI p) x1 x2 x3 fD = some (1, nI p', ck, nI ts, cv, dF fD b w) ∧ f_X5_readsItem_38 (nI n) tx (nI p) y1 y2 y3 M 100 (nI b) = some (1, nI p1, z1, z2, z3, upd (dM M b w) 1 (dM M b w 1 + 1)) ∧ f_X5_token (nI n) tx (nI p1) z1 z2 z3 = some (nI p', mk, nI ts, mv) ∧ TK ck cv mk mv) := by
  have e0 : f_X2_readDoughNumbers (nI n) (nI (b + 1)) by1 (nI p) x1 x2 x3 fD = gD (nI n) (nI (b + 1)) by1 (995 + 1 + 1 + 1 + 1 + 1) (nI p) x1 x2 x3 fD (nI 0) := rfl
  rw [e0]
  unfold f_X5_readsItem_38
  rw [if_neg (by decide), if_pos rfl, i_neL (by omega) (by omega) (by omega)]
  have hin : inb (31 + nI b) 43 := by rw [Lan]; exact (inb_n (by omega)).mpr (by omega)
  have c31 : (31 + nI b).toNatClampNeg = 31 + b := by rw [Lan]; exact ncl (by omega)
  rw [Lan b 13, Lan b 19, Lan b 25]
  rcases dst h hp hb (show 0 < 4 by omega) (995 + 1 + 1 + 1 + 1) x1 x2 x3 y1 y2 y3 fD M with ⟨ts, j1, j2, j3, j4, k1, k2, k3, M', g0, g1, g2⟩ | ⟨w0, p1, xa1, xa2, xa3, ya1, ya2, ya3, l0, l1, l2, l3, g1, g2⟩
  · rw [g1, show f_X5_number (nI n) tx (nI p) y1 y2 y3 M (nI ((OfNat.ofNat 13 : Nat) + b)) 0 9 = _ from g2, Option.bind_some, if_pos rfl]
    exact Or.inl ⟨ts, _, _, _, _, _, _, _, _, g0, rfl, rfl⟩
  rw [g1, show f_X5_number (nI n) tx (nI p) y1 y2 y3 M (nI ((OfNat.ofNat 13 : Nat) + b)) 0 9 = _ from g2, Option.bind_some, if_neg ne10]
  clear g1 g2
  rcases dst h l3 hb (show 1 < 4 by omega) (995 + 1 + 1 + 1) xa1 xa2 xa3 ya1 ya2 ya3 (upd fD (b * 5 + 0) (nI w0)) (upd M (13 + 6 * 0 + b) (nI w0)) with ⟨ts, j1, j2, j3, j4, k1, k2, k3, M', g0, g1, g2⟩ | ⟨w1, p2, xb1, xb2, xb3, yb1, yb2, yb3, m0, m1, m2, m3, g1, g2⟩
  · rw [show gD (nI n) (nI (b + 1)) by1 (995 + 1 + 1 + 1 + 1) (nI p1) xa1 xa2 xa3 (upd fD (b * 5 + 0) (nI w0)) (nI (0 + 1)) = _ from g1]
    dsimp only
    rw [show f_X5_number (nI n) tx (nI p1) ya1 ya2 ya3 (upd M (13 + 6 * 0 + b) (nI w0)) (nI ((OfNat.ofNat 19 : Nat) + b)) 0 9 = _ from g2, Option.bind_some, if_pos rfl]
    exact Or.inl ⟨ts, _, _, _, _, _, _, _, _, g0, rfl, rfl⟩
  rw [show gD (nI n) (nI (b + 1)) by1 (995 + 1 + 1 + 1 + 1) (nI p1) xa1 xa2 xa3 (upd fD (b * 5 + 0) (nI w0)) (nI (0 + 1)) = _ from g1]
  dsimp only
  rw [show f_X5_number (nI n) tx (nI p1) ya1 ya2 ya3 (upd M (13 + 6 * 0 + b) (nI w0)) (nI ((OfNat.ofNat 19 : Nat) + b)) 0 9 = _ from g2, Option.bind_some, if_neg ne10]
  clear g1 g2
  rcases dst h m3 hb (show 2 < 4 by omega) (995 + 1 + 1) xb1 xb2 xb3 yb1 yb2 yb3 (upd (upd fD (b * 5 + 0) (nI w0)) (b * 5 + 1) (nI w1)) (upd (upd M (13 + 6 * 0 + b) (nI w0)) (13 + 6 * 1 + b) (nI w1)) with ⟨ts, j1, j2, j3, j4, k1, k2, k3, M', g0, g1, g2⟩ | ⟨w2, p3, xc1, xc2, xc3, yc1, yc2, yc3, n0, n1, n2, n3, g1, g2⟩
  · rw [show gD (nI n) (nI (b + 1)) by1 (995 + 1 + 1 + 1) (nI p2) xb1 xb2 xb3 (upd (upd fD (b * 5 + 0) (nI w0)) (b * 5 + 1) (nI w1)) (nI (1 + 1)) = _ from g1]
    dsimp only
    rw [show f_X5_number (nI n) tx (nI p2) yb1 yb2 yb3 (upd (upd M (13 + 6 * 0 + b) (nI w0)) (13 + 6 * 1 + b) (nI w1)) (nI ((OfNat.ofNat 25 : Nat) + b)) 1 99 = _ from g2, Option.bind_some, if_pos rfl]
    exact Or.inl ⟨ts, _, _, _, _, _, _, _, _, g0, rfl, rfl⟩
  rw [show gD (nI n) (nI (b + 1)) by1 (995 + 1 + 1 + 1) (nI p2) xb1 xb2 xb3 (upd (upd fD (b * 5 + 0) (nI w0)) (b * 5 + 1) (nI w1)) (nI (1 + 1)) = _ from g1]
  dsimp only
  rw [show f_X5_number (nI n) tx (nI p2) yb1 yb2 yb3 (upd (upd M (13 + 6 * 0 + b) (nI w0)) (13 + 6 * 1 + b) (nI w1)) (nI ((OfNat.ofNat 25 : Nat) + b)) 1 99 = _ from g2, Option.bind_some, if_neg ne10]
  clear g1 g2
  rcases dst h n3 hb (show 3 < 4 by omega) (995 + 1) xc1 xc2 xc3 yc1 yc2 yc3 (upd (upd (upd fD (b * 5 + 0) (nI w0)) (b * 5 + 1) (nI w1)) (b * 5 + 2) (nI w2)) (upd (upd (upd M (13 + 6 * 0 + b) (nI w0)) (13 + 6 * 1 + b) (nI w1)) (13 + 6 * 2 + b) (nI w2)) with ⟨ts, j1, j2, j3, j4, k1, k2, k3, M', g0, g1, g2⟩ | ⟨w3, p4, xd1, xd2, xd3, yd1, yd2, yd3, o0, o1, o2, o3, g1, g2⟩
  · rw [show gD (nI n) (nI (b + 1)) by1 (995 + 1 + 1) (nI p3) xc1 xc2 xc3 (upd (upd (upd fD (b * 5 + 0) (nI w0)) (b * 5 + 1) (nI w1)) (b * 5 + 2) (nI w2)) (nI (2 + 1)) = _ from g1]
    dsimp only
    rw [show f_X5_number (nI n) tx (nI p3) yc1 yc2 yc3 (upd (upd (upd M (13 + 6 * 0 + b) (nI w0)) (13 + 6 * 1 + b) (nI w1)) (13 + 6 * 2 + b) (nI w2)) (31 + nI b) 0 60 = f_X5_number (nI n) tx (nI p3) yc1 yc2 yc3 (upd (upd (upd M (13 + 6 * 0 + b) (nI w0)) (13 + 6 * 1 + b) (nI w1)) (13 + 6 * 2 + b) (nI w2)) (nI (13 + 6 * 3 + b)) (nI (loD 3)) (nI (hiD 3)) from (by rw [Lan]; rfl), g2, Option.bind_some, if_pos rfl]
    exact Or.inl ⟨ts, _, _, _, _, _, _, _, _, g0, rfl, rfl⟩
  rw [show gD (nI n) (nI (b + 1)) by1 (995 + 1 + 1) (nI p3) xc1 xc2 xc3 (upd (upd (upd fD (b * 5 + 0) (nI w0)) (b * 5 + 1) (nI w1)) (b * 5 + 2) (nI w2)) (nI (2 + 1)) = _ from g1]
  dsimp only
  rw [show f_X5_number (nI n) tx (nI p3) yc1 yc2 yc3 (upd (upd (upd M (13 + 6 * 0 + b) (nI w0)) (13 + 6 * 1 + b) (nI w1)) (13 + 6 * 2 + b) (nI w2)) (31 + nI b) 0 60 = f_X5_number (nI n) tx (nI p3) yc1 yc2 yc3 (upd (upd (upd M (13 + 6 * 0 + b) (nI w0)) (13 + 6 * 1 + b) (nI w1)) (13 + 6 * 2 + b) (nI w2)) (nI (13 + 6 * 3 + b)) (nI (loD 3)) (nI (hiD 3)) from (by rw [Lan]; rfl), g2, Option.bind_some, if_neg ne10]
  clear g1 g2
  dsimp only
  rw [if_pos hin]
  have hM : (upd (upd (upd (upd M (13 + 6 * 0 + b) (nI w0)) (13 + 6 * 1 + b) (nI w1)) (13 + 6 * 2 + b) (nI w2)) (13 + 6 * 3 + b) (nI w3)) (31 + nI b).toNatClampNeg = nI w3 := by
    rw [c31, show 31 + b = 13 + 6 * 3 + b by omega, upd_s]
  rcases dst4 h o3 hb (show w3 ≤ 60 from o1) 995 xd1 xd2 xd3 yd1 yd2 yd3 (upd (upd (upd (upd fD (b * 5 + 0) (nI w0)) (b * 5 + 1) (nI w1)) (b * 5 + 2) (nI w2)) (b * 5 + 3) (nI w3)) (upd (upd (upd (upd M (13 + 6 * 0 + b) (nI w0)) (13 + 6 * 1 + b) (nI w1)) (13 + 6 * 2 + b) (nI w2)) (13 + 6 * 3 + b) (nI w3)) upd_s with ⟨ts, j1, j2, j3, j4, k1, k2, k3, M', g0, g1, g2⟩ | ⟨w4, p5, xe1, xe2, xe3, ye1, ye2, ye3, q1, q2, q3, g1, g2⟩
  · rw [show gD (nI n) (nI (b + 1)) by1 (995 + 1) (nI p4) xd1 xd2 xd3 (upd (upd (upd (upd fD (b * 5 + 0) (nI w0)) (b * 5 + 1) (nI w1)) (b * 5 + 2) (nI w2)) (b * 5 + 3) (nI w3)) (nI (3 + 1)) = _ from g1, hM]
    rw [show f_X5_number (nI n) tx (nI p4) yd1 yd2 yd3 (upd (upd (upd (upd M (13 + 6 * 0 + b) (nI w0)) (13 + 6 * 1 + b) (nI w1)) (13 + 6 * 2 + b) (nI w2)) (13 + 6 * 3 + b) (nI w3)) (37 + nI b) (nI w3) 99 = f_X5_number (nI n) tx (nI p4) yd1 yd2 yd3 (upd (upd (upd (upd M (13 + 6 * 0 + b) (nI w0)) (13 + 6 * 1 + b) (nI w1)) (13 + 6 * 2 + b) (nI w2)) (13 + 6 * 3 + b) (nI w3)) (nI (37 + b)) (nI w3) (nI 99) from (by rw [Lan]; rfl), g2, Option.bind_some, if_pos rfl]
    exact Or.inl ⟨ts, _, _, _, _, _, _, _, _, g0, rfl, rfl⟩
  · rw [show gD (nI n) (nI (b + 1)) by1 (995 + 1) (nI p4) xd1 xd2 xd3 (upd (upd (upd (upd fD (b * 5 + 0) (nI w0)) (b * 5 + 1) (nI w1)) (b * 5 + 2) (nI w2)) (b * 5 + 3) (nI w3)) (nI (3 + 1)) = _ from g1, hM]
    rw [show f_X5_number (nI n) tx (nI p4) yd1 yd2 yd3 (upd (upd (upd (upd M (13 + 6 * 0 + b) (nI w0)) (13 + 6 * 1 + b) (nI w1)) (13 + 6 * 2 + b) (nI w2)) (13 + 6 * 3 + b) (nI w3)) (37 + nI b) (nI w3) 99 = f_X5_number (nI n) tx (nI p4) yd1 yd2 yd3 (upd (upd (upd (upd M (13 + 6 * 0 + b) (nI w0)) (13 + 6 * 1 + b) (nI w1)) (13 + 6 * 2 + b) (nI w2)) (13 + 6 * 3 + b) (nI w3)) (nI (37 + b)) (nI w3) (nI 99) from (by rw [Lan]; rfl), g2, Option.bind_some, if_neg ne10]
    obtain ⟨p', ts, ck, cv, mk, mv, b1, b2, b3, b4, b5, b6, b7⟩ := tok h q3 xe1 xe2 xe3 ye1 ye2 ye3
    have ge : ∀ f, gD (nI n) (nI (b + 1)) by1 995 (nI p5) xe1 xe2 xe3 f (nI 5) = some (1, nI p', ck, nI ts, cv, f) := fun f => by
      rw [gD, b4, Option.bind_some, show 995 = 994 + 1 from rfl, f_X2_readDoughNumbers_6, i_Lle (by omega) (by omega)]
    rw [ge]
    exact Or.inr ⟨p5, ye1, ye2, ye3, p', ts, ck, cv, mk, mv, fun j => match j with | 0 => w0 | 1 => w1 | 2 => w2 | 3 => w3 | _ => w4, b2, b3, l1, m1, n0, n1, o1, q1, fun z => by have := b7 z; omega, rfl, rfl, b5, b6⟩
end X
