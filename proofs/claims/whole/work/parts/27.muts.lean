/-! calls that change NOW -/
/-- NOW and what may be undone, both sides -/
def RC (a b : Nat) (ck : Int32) (cr S : Nat → Int32) (B : Nat) : Prop := ∃ (kk : Nat) (R : Nat → Nat → Int32), ck = nI kk ∧ CC kk cr R ∧ CM kk S B R ∧ ∀ i, i ≤ kk → RO1 a b (R i)
/-- what was told, both sides -/
def RT (a b : Nat) (T : Nat → Int32) (nO nD : Int32) (fO fD : Nat → Int32) : Prop := TV a b T ∧ nO = nI a ∧ nD = nI b ∧ VO a T fO ∧ VD b T fD
theorem rem_ok {a b kk : Nat} {R : Nat → Nat → Int32} (hk : kk ≤ 10) (h : ∀ i, i ≤ kk → RO1 a b (R i)) : ∀ i, i ≤ remK kk → RO1 a b (remR kk R i) := by
  intro i hi
  unfold remK at hi
  unfold remR
  by_cases c : kk < 10
  · rw [if_pos c] at hi ⊢
    by_cases e : i = kk + 1
    · simp only [if_pos e]; exact h kk (Nat.le_refl _)
    · simp only [if_neg e]; exact h i (by omega)
  · rw [if_neg c] at hi ⊢
    by_cases e : i < 10
    · simp only [if_pos e]; exact h (i + 1) (by omega)
    · simp only [if_neg e]; exact h i (by omega)
theorem set_ok {a b kk : Nat} {R : Nat → Nat → Int32} {N : Nat → Int32} (h : ∀ i, i ≤ kk → RO1 a b (R i)) (hN : RO1 a b N) : ∀ i, i ≤ kk → RO1 a b (setR kk R N i) := by
  intro i hi
  unfold setR
  by_cases e : i = kk
  · simp only [if_pos e]; exact hN
  · simp only [if_neg e]; exact h i hi
section V
variable {a b : Nat} {T fO fD cr S : Nat → Int32} {nO nD ck : Int32}
theorem RV.of (h : RT a b T nO nD fO fD) {kk : Nat} {R : Nat → Nat → Int32} (h1 : CC kk cr R) (h2 : CM kk S 0 R) (h3 : RO1 a b (R kk)) : RV a b T (R kk) nO nD (nI kk) fO fD cr S :=
  ⟨h.1, h.2.1, h.2.2.1, h.2.2.2.1, h.2.2.2.2, ⟨kk, rfl, h1.vn⟩, h2.vs, h3⟩
/-- may a dough go in -/
def mgo (T N : Nat → Int32) (d : Nat) : Prop := N d = -9 ∧ ¬ N 13 < T (31 + d) ∧ ¬ T (37 + d) < N 13
theorem c_mayGo {kk : Nat} {N : Nat → Int32} (hN : VN kk N cr) (hD : VD b T fD) {d : Nat} (hd : d < b) : (mgo T N d ∧ f_X4_mayGoIn (nI kk) (nI b) cr fD (nI d) = some 1) ∨ (¬ mgo T N d ∧ f_X4_mayGoIn (nI kk) (nI b) cr fD (nI d) = some 0) := by
  have hb := hD.1
  unfold f_X4_mayGoIn mgo
  rw [c_minute hN, Option.bind_some, c_isOut hN (by omega), Option.bind_some, ofD3 hD hd, Option.bind_some, ofD4 hD hd, Option.bind_some]
  by_cases c : N d = -9
  · rw [if_pos c, if_neg ne10]
    by_cases c1 : N 13 < T (31 + d)
    · rw [if_pos c1]; exact Or.inr ⟨fun z => z.2.1 c1, rfl⟩
    · rw [if_neg c1]
      by_cases c2 : T (37 + d) < N 13
      · rw [if_pos c2]; exact Or.inr ⟨fun z => z.2.2 c2, rfl⟩
      · rw [if_neg c2]; exact Or.inl ⟨⟨c, c1, c2⟩, rfl⟩
  · rw [if_neg c, if_pos rfl]; exact Or.inr ⟨fun z => c z.1, rfl⟩
theorem m_mayGo {N : Nat → Int32} (hS : ∀ j, j < 14 → S j = N j) (hb : b ≤ 6) {d : Nat} (hd : d < b) : (mgo T N d → f_X5_mayGo S T (nI d) = some 1) ∧ (¬ mgo T N d → f_X5_mayGo S T (nI d) = some 0) := by
  unfold f_X5_mayGo mgo
  rw [m_isOut hS (by omega), Option.bind_some]
  simp (disch := omega) only [Lan, i_in, ncl]
  rw [hS 13 (by omega), show T ((31 : Nat) + d) = T (31 + d) from rfl, show T ((37 : Nat) + d) = T (37 + d) from rfl]
  by_cases c : N d = -9
  · rw [if_pos c, if_neg ne10]
    by_cases c1 : N 13 < T (31 + d)
    · rw [in_0 (Or.inl c1), Option.bind_some, if_pos rfl]; exact ⟨fun z => absurd c1 z.2.1, fun _ => rfl⟩
    · by_cases c2 : T (37 + d) < N 13
      · rw [in_0 (Or.inr c2), Option.bind_some, if_pos rfl]; exact ⟨fun z => absurd c2 z.2.2, fun _ => rfl⟩
      · rw [in_1 c1 c2, Option.bind_some, if_neg ne10]; exact ⟨fun _ => rfl, fun z => absurd ⟨c, c1, c2⟩ z⟩
  · rw [if_neg c, if_pos rfl]; exact ⟨fun z => absurd z.1 c, fun _ => rfl⟩
/-- a dough that was out is put in oven o -/
theorem put_ok {N : Nat → Int32} (hb : b ≤ 6) (h : RO1 a b N) {d o : Nat} (hd : d < b) (ho : o < a) (ha : a ≤ 5) : RO1 a b (upd N d (nI o)) := by
  obtain ⟨h1, h2, ⟨mn, h3, h4⟩, ⟨sh, h5, h6⟩⟩ := h
  refine ⟨fun e he => ?_, fun e he q => ?_, ⟨mn, h3, by rw [upd_n (by omega)]; exact h4⟩, ⟨sh, h5, by rw [upd_n (by omega)]; exact h6⟩⟩
  · rw [upd_if]
    by_cases c : e = d
    · rw [if_pos c]; exact Or.inr (Or.inr ⟨o, ho, rfl⟩)
    · rw [if_neg c]; exact h1 e he
  · rw [upd_if] at q
    by_cases c : e = d
    · rw [if_pos c] at q; exact absurd q (m9_n (by omega))
    · rw [if_neg c] at q
      rw [upd_n (by omega)]; exact h2 e he q
theorem put_both (hb : b ≤ 6) (ha : a ≤ 5) {kk : Nat} {R : Nat → Nat → Int32} (h1 : CC kk cr R) (h2 : CM kk S 0 R) (h3 : ∀ i, i ≤ kk → RO1 a b (R i)) {d o : Nat} (hd : d < b) (ho : o < a) (hout : R kk d = -9) : ∃ cr1 cr2 S1, f_X0_remember (nI kk) cr = some (nI (remK kk), cr1) ∧ f_X0_putIn (nI (remK kk)) cr1 (nI d) (nI o) = some cr2 ∧ f_X5_keeps S = some S1 ∧ CC (remK kk) cr2 (setR (remK kk) (remR kk R) (upd (R kk) d (nI o))) ∧ CM (remK kk) (upd S1 d (nI o)) 0 (setR (remK kk) (remR kk R) (upd (R kk) d (nI o))) ∧ (∀ i, i ≤ remK kk → RO1 a b (setR (remK kk) (remR kk R) (upd (R kk) d (nI o)) i)) := by
  have hk := h1.1
  obtain ⟨cr1, e1, g1⟩ := c_remember h1
  obtain ⟨S1, e2, g2⟩ := m_keeps hk h2
  have hnow := remR_now (R := R) hk
  obtain ⟨cr2, e3, g3⟩ := c_putIn g1 (show d < 6 by omega) (by rw [hnow]; exact (h3 kk (Nat.le_refl _)).2.1 d hd hout) (nI o)
  have g4 := m_upd g2 (show d < 14 by omega) (nI o)
  rw [hnow] at g3 g4
  exact ⟨cr1, cr2, S1, e1, e3, e2, g3, g4, set_ok (rem_ok hk h3) (put_ok hb (h3 kk (Nat.le_refl _)) hd ho ha)⟩
theorem s_follows (h : RT a b T nO nD fO fD) (hc : RC a b ck cr S 0) (x : Int32) : ∃ r ck' cr' S', f_X4_follows nO nD fO fD ck cr x = some (r, ck', cr') ∧ f_X5_follows (-9) T S x = some (r, S') ∧ RC a b ck' cr' S' 0 := by
  obtain ⟨kk, R, rfl, h1, h2, h3⟩ := hc
  obtain ⟨hV, rfl, rfl, hO, hD⟩ := h
  have ha := hO.1
  have hb := hD.1
  have hR := h3 kk (Nat.le_refl _)
  obtain ⟨sh, hsh, e12⟩ := hR.2.2.2
  unfold f_X4_follows f_X5_follows
  rcases isN_dec b x with ⟨d, hd, rfl⟩ | q
  · rw [c_hasD_y hb hd, m_hasD_y hV.2.2.2.1 hb hd, Option.bind_some, Option.bind_some, if_neg ne10, if_neg ne10, c_nose h1.vn hO hD hV hsh e12 hd, h2.vs 12 (by omega), e12, m_nose hV h2.vs (by omega) hd, nose_no (no1 ha) (no9 ha), Option.bind_some, Option.bind_some]
    rcases c_mayGo h1.vn hD hd with ⟨g, e⟩ | ⟨g, e⟩
    · rw [e, (m_mayGo h2.vs hb hd).1 g, Option.bind_some, Option.bind_some, if_neg ne10, if_neg ne10]
      rcases nose_cases (op := opn sh) ha (sg_bd (N := R kk) hV (-9) hd) with ⟨n1, -⟩ | ⟨o, n1, n2⟩
      · rw [n1, if_pos rfl, if_pos rfl]; exact ⟨_, _, _, _, rfl, rfl, kk, R, rfl, h1, h2, h3⟩
      · have ho := n2.1
        rw [n1, if_neg (m9_n (by omega)), if_neg (m9_n (by omega))]
        obtain ⟨cr1, cr2, S1, e1, e2, e3, g1, g2, g3⟩ := put_both hb ha h1 h2 h3 hd ho g.1
        rw [e1, Option.bind_some, e2, Option.bind_some, e3, Option.bind_some, i_in (by omega) (by omega), ncl (by omega)]
        exact ⟨_, _, _, _, rfl, rfl, _, _, rfl, g1, g2, g3⟩
    · rw [e, (m_mayGo h2.vs hb hd).2 g, Option.bind_some, Option.bind_some, if_pos rfl, if_pos rfl]
      exact ⟨_, _, _, _, rfl, rfl, kk, R, rfl, h1, h2, h3⟩
  · rw [c_hasD_n hb q, m_hasD_n hV.2.2.2.1 hb q, Option.bind_some, Option.bind_some, if_pos rfl, if_pos rfl]
    exact ⟨_, _, _, _, rfl, rfl, kk, R, rfl, h1, h2, h3⟩
theorem s_puts (h : RT a b T nO nD fO fD) (hc : RC a b ck cr S 0) (x y : Int32) : ∃ r ck' cr' S', f_X4_puts nO nD fD ck cr x y = some (r, ck', cr') ∧ f_X5_puts T S x y = some (r, S') ∧ RC a b ck' cr' S' 0 := by
  obtain ⟨kk, R, rfl, h1, h2, h3⟩ := hc
  obtain ⟨hV, rfl, rfl, hO, hD⟩ := h
  have ha := hO.1
  have hb := hD.1
  have hR := h3 kk (Nat.le_refl _)
  obtain ⟨sh, hsh, e12⟩ := hR.2.2.2
  unfold f_X4_puts f_X5_puts
  rcases isN_dec b x with ⟨d, hd, rfl⟩ | q
  · rw [c_hasD_y hb hd, m_hasD_y hV.2.2.2.1 hb hd, Option.bind_some, Option.bind_some, if_neg ne10, if_neg ne10]
    rcases isN_dec a y with ⟨o, ho, rfl⟩ | q
    · rw [c_hasO_y ha ho, m_hasO_y hV.2.2.1 ha ho, Option.bind_some, Option.bind_some, if_neg ne10, if_neg ne10]
      rcases c_mayGo h1.vn hD hd with ⟨g, e⟩ | ⟨g, e⟩
      · rw [e, (m_mayGo h2.vs hb hd).1 g, Option.bind_some, Option.bind_some, if_neg ne10, if_neg ne10, c_isShut h1.vn hsh e12 (by omega), m_isShut hsh ((h2.vs 12 (by omega)).trans e12) (by omega), Option.bind_some, Option.bind_some]
        by_cases c : sh.testBit o = true
        · rw [if_pos c, if_neg ne10, if_neg ne10]; exact ⟨_, _, _, _, rfl, rfl, kk, R, rfl, h1, h2, h3⟩
        · rw [if_neg c, if_pos rfl, if_pos rfl]
          obtain ⟨cr1, cr2, S1, e1, e2, e3, g1, g2, g3⟩ := put_both hb ha h1 h2 h3 hd ho g.1
          have v1 := g1.vn
          have v2 := g2.vs
          rw [setR_now] at v1 v2
          rw [e1, Option.bind_some, e2, Option.bind_some, c_placedAt v1 hb, Option.bind_some, bc_wb _ _ hb, Option.bind_some, e3, Option.bind_some, i_in (by omega) (by omega), ncl (by omega), m_where hV.2.2.2.1 v2 hb, Option.bind_some, m_ones, Option.bind_some]
          exact ⟨_, _, _, _, rfl, rfl, _, _, rfl, g1, g2, g3⟩
      · rw [e, (m_mayGo h2.vs hb hd).2 g, Option.bind_some, Option.bind_some, if_pos rfl, if_pos rfl]
        exact ⟨_, _, _, _, rfl, rfl, kk, R, rfl, h1, h2, h3⟩
    · rw [c_hasO_n ha q, m_hasO_n hV.2.2.1 ha q, Option.bind_some, Option.bind_some, if_pos rfl, if_pos rfl]
      exact ⟨_, _, _, _, rfl, rfl, kk, R, rfl, h1, h2, h3⟩
  · rw [c_hasD_n hb q, m_hasD_n hV.2.2.2.1 hb q, Option.bind_some, Option.bind_some, if_pos rfl, if_pos rfl]
    exact ⟨_, _, _, _, rfl, rfl, kk, R, rfl, h1, h2, h3⟩
theorem xor_n : ∀ sh o : Nat, sh < 32 → o < 5 → ∃ s2, s2 < 32 ∧ nI sh ^^^ ((1 : Int32) <<< (nI o &&& 31)) = nI s2 := by
  have h : ∀ sh : Fin 32, ∀ o : Fin 5, ∃ s2 : Fin 32, nI sh.val ^^^ ((1 : Int32) <<< (nI o.val &&& 31)) = nI s2.val := by decide +kernel
  intro sh o h1 h2
  obtain ⟨s2, e⟩ := h ⟨sh, h1⟩ ⟨o, h2⟩
  exact ⟨s2.val, s2.isLt, e⟩
theorem s_shuts (h : RT a b T nO nD fO fD) (hc : RC a b ck cr S 0) (x y : Int32) : ∃ r ck' cr' S', f_X4_shuts nO ck cr x y = some (r, ck', cr') ∧ f_X5_shuts T S x y = some (r, S') ∧ RC a b ck' cr' S' 0 := by
  obtain ⟨kk, R, rfl, h1, h2, h3⟩ := hc
  obtain ⟨hV, rfl, rfl, hO, hD⟩ := h
  have ha := hO.1
  have hb := hD.1
  have hk := h1.1
  have hR := h3 kk (Nat.le_refl _)
  obtain ⟨sh, hsh, e12⟩ := hR.2.2.2
  unfold f_X4_shuts f_X5_shuts
  rcases isN_dec a x with ⟨o, ho, rfl⟩ | q
  · rw [c_hasO_y ha ho, m_hasO_y hV.2.2.1 ha ho, Option.bind_some, Option.bind_some, if_neg ne10, if_neg ne10]
    have s12 : S 12 = nI sh := (h2.vs 12 (by omega)).trans e12
    have hgo : ∃ cr1 cr2 S1 s2, s2 < 32 ∧ f_X0_remember (nI kk) cr = some (nI (remK kk), cr1) ∧ f_X0_turnDoor (nI (remK kk)) cr1 (nI o) = some cr2 ∧ f_X0_shutBits (nI (remK kk)) cr2 = some (nI s2) ∧ f_X5_keeps S = some S1 ∧ upd S1 12 (S1 12 ^^^ ((1 : Int32) <<< (nI o &&& 31))) 12 = nI s2 ∧ RC a b (nI (remK kk)) cr2 (upd S1 12 (S1 12 ^^^ ((1 : Int32) <<< (nI o &&& 31)))) 0 := by
      obtain ⟨cr1, e1, g1⟩ := c_remember h1
      obtain ⟨S1, e2, g2⟩ := m_keeps hk h2
      have hnow := remR_now (R := R) hk
      obtain ⟨cr2, e3, g3⟩ := c_door g1 (nI o)
      obtain ⟨s2, hs2, ex⟩ := xor_n sh o hsh (by omega)
      have e4 : S1 12 = nI sh := by rw [g2.vs 12 (by omega), hnow, e12]
      have g4 := m_upd g2 (show 12 < 14 by omega) (S1 12 ^^^ ((1 : Int32) <<< (nI o &&& 31)))
      rw [hnow, e12, ex] at g3
      rw [hnow, e4, ex] at g4
      have v1 := g3.vn
      rw [setR_now] at v1
      refine ⟨cr1, cr2, S1, s2, hs2, e1, e3, ?_, e2, by rw [e4, ex]; exact upd_s, ?_⟩
      · rw [c_shutB v1, upd_s]
      rw [e4, ex]
      refine ⟨_, _, rfl, g3, g4, set_ok (rem_ok hk h3) ?_⟩
      · obtain ⟨q1, q2, ⟨mn, q3, q4⟩, -⟩ := hR
        refine ⟨fun e he => by rw [upd_n (by omega)]; exact q1 e he, fun e he z => ?_, ⟨mn, q3, by rw [upd_n (by omega)]; exact q4⟩, ⟨s2, hs2, upd_s⟩⟩
        rw [upd_n (by omega)] at z ⊢
        exact q2 e he z
    have same : ∃ r ck' cr' S', (some (-2, nI kk, cr) : Option (Int32 × Int32 × (Nat → Int32))) = some (r, ck', cr') ∧ (some (-2, S) : Option (Int32 × (Nat → Int32))) = some (r, S') ∧ RC a b ck' cr' S' 0 := ⟨_, _, _, _, rfl, rfl, kk, R, rfl, h1, h2, h3⟩
    have go : ∀ (k0 : Int32), (¬ (if sh.testBit o then (1 : Int32) else 0) = k0) → ∃ r ck' cr' S', f_X4_shuts_40 (nI a) (nI kk) cr (nI o) k0 (if sh.testBit o then 1 else 0) = some (r, ck', cr') ∧ ((f_X5_keeps S).bind fun u_7 => (f_X5_ones ((upd u_7 12 ((u_7 12) ^^^ ((1 : Int32) <<< (nI o &&& 31)))) 12)).bind fun u_11 => some (u_11, (upd u_7 12 ((u_7 12) ^^^ ((1 : Int32) <<< (nI o &&& 31)))))) = some (r, S') ∧ RC a b ck' cr' S' 0 := by
      intro k0 hne
      obtain ⟨cr1, cr2, S1, s2, hs2, e1, e2, e3, e4, e5, g⟩ := hgo
      unfold f_X4_shuts_40
      rw [if_neg hne, e1, Option.bind_some, e2, Option.bind_some, e3, Option.bind_some, bc_on s2 (by omega), Option.bind_some, e4, Option.bind_some, e5, m_ones, Option.bind_some]
      exact ⟨_, _, _, _, rfl, rfl, g⟩
    by_cases c0 : y = 0
    · rw [if_pos c0, in_1 (by rw [c0]; decide) (by rw [c0]; decide), Option.bind_some, if_neg ne10, s12, sh_m sh o (by omega) (by omega)]
      unfold f_X4_shuts_22
      rw [c_isShut h1.vn hsh e12 (by omega), Option.bind_some, if_neg (show ¬ y = 1 by rw [c0]; decide), c0]
      by_cases c : (if sh.testBit o then (1 : Int32) else 0) = 0
      · unfold f_X4_shuts_40; rw [if_pos c, if_pos c]; exact same
      · rw [if_neg c]; exact go 0 c
    · by_cases c1 : y = 1
      · rw [if_neg c0, if_pos c1, in_1 (by rw [c1]; decide) (by rw [c1]; decide), Option.bind_some, if_neg ne10, s12, sh_m sh o (by omega) (by omega)]
        unfold f_X4_shuts_22
        rw [c_isShut h1.vn hsh e12 (by omega), Option.bind_some, if_pos c1, c1]
        by_cases c : (if sh.testBit o then (1 : Int32) else 0) = 1
        · unfold f_X4_shuts_40; rw [if_pos c, if_pos c]; exact same
        · rw [if_neg c]; exact go 1 c
      · rw [if_neg c0, if_neg c1, in_0 (show y < 0 ∨ (1 : Int32) < y by
          rcases n_cases y with z | ⟨n, z, rfl⟩
          · exact Or.inl z
          · right
            rw [show (1 : Int32) = nI 1 from rfl, nlt (by omega) z]
            have q0 : n ≠ 0 := fun w => c0 (by rw [w]; rfl)
            have q1 : n ≠ 1 := fun w => c1 (by rw [w]; rfl)
            omega), Option.bind_some, if_pos rfl]
        exact ⟨_, _, _, _, rfl, rfl, kk, R, rfl, h1, h2, h3⟩
  · rw [c_hasO_n ha q, m_hasO_n hV.2.2.1 ha q, Option.bind_some, Option.bind_some, if_pos rfl, if_pos rfl]
    exact ⟨_, _, _, _, rfl, rfl, kk, R, rfl, h1, h2, h3⟩
theorem s_undo (hc : RC a b ck cr S 0) : ∃ r ck' S', f_X4_undo ck = some (r, ck') ∧ f_X5_undo S = some (r, S') ∧ RC a b ck' cr S' 0 := by
  obtain ⟨kk, R, rfl, h1, h2, h3⟩ := hc
  cases kk with
  | zero => rw [c_undo_0, m_undo_0 h2]; exact ⟨_, _, _, rfl, rfl, 0, R, rfl, h1, h2, h3⟩
  | succ k =>
    have hk := h1.1
    obtain ⟨S', e, g⟩ := m_undo_s hk h2
    rw [c_undo_s hk, e]
    exact ⟨_, _, _, rfl, rfl, k, R, rfl, h1.undo, g, fun i hi => h3 i (by omega)⟩
/-! minutes -/
theorem s_min_l (h : RT a b T nO nD fO fD) {kk : Nat} (hk : kk ≤ 10) {R : Nat → Nat → Int32} {n : Nat} (hn : n ≤ 60) (c0 : Int32) : ∀ (m i fuel : Nat) (N cr S : Nat → Int32) (acc : Int32) (mn : Nat), i + m = n → m < fuel → CC kk cr (setR kk R N) → CM kk S 0 (setR kk R N) → RO1 a b N → N 13 = nI mn → mn + m ≤ 999 → acc = ct N (-5) b - c0 → ∃ r cr' S' N', f_X4_minutes_57 nO nD fO fD fuel (nI kk) cr (nI n) c0 (nI i) = some (r, nI kk, cr') ∧ f_X5_minutes_38 T fuel S (nI n) acc (nI i) = some (r, S') ∧ CC kk cr' (setR kk R N') ∧ CM kk S' 0 (setR kk R N') ∧ RO1 a b N' := by
  obtain ⟨hV, rfl, rfl, hO, hD⟩ := h
  have hb := hD.1
  intro m
  induction m with
  | zero =>
    intro i fuel N cr S acc mn hi hf h1 h2 h3 h13 hmn hacc
    obtain ⟨f, rfl⟩ : ∃ f, fuel = f + 1 := ⟨fuel - 1, by omega⟩
    have v1 := h1.vn
    rw [setR_now] at v1
    rw [f_X4_minutes_57, f_X5_minutes_38, i_le (by omega) (by omega), i_le (by omega) (by omega), c_placedAt v1 hb, Option.bind_some, bc_wb _ _ hb, Option.bind_some, on_wb _ _ _ hb, hacc]
    exact ⟨_, _, _, N, rfl, rfl, h1, h2, h3⟩
  | succ m ih =>
    intro i fuel N cr S acc mn hi hf h1 h2 h3 h13 hmn hacc
    obtain ⟨f, rfl⟩ : ∃ f, fuel = f + 1 := ⟨fuel - 1, by omega⟩
    have v1 := h1.vn
    have v2 := h2.vs
    rw [setR_now] at v1 v2
    obtain ⟨r1, e1, g1, g2⟩ := c_pass v1 hO hD h3.1
    obtain ⟨s1, e2, g3, g4⟩ := m_passes hV h3.1 v2
    rw [f_X4_minutes_57, f_X5_minutes_38, i_nle (by omega) (by omega), i_nle (by omega) (by omega), e1, Option.bind_some, e2, Option.bind_some, nI_1]
    have hset : ∀ N2, setR kk (setR kk R N) N2 = setR kk R N2 := fun N2 => by
      funext j; unfold setR; by_cases e : j = kk
      · rw [if_pos e, if_pos e]
      · rw [if_neg e, if_neg e, if_neg e]
    have k1 := h1.set g1.2 g2
    have k2 := h2.set g3 g4
    rw [hset] at k1 k2
    obtain ⟨q1, q2, -, ⟨sh, q5, q6⟩⟩ := h3
    refine ih (i + 1) f (passN T N b) r1 s1 _ (mn + 1) (by omega) (by omega) k1 k2 ⟨pass_RP hb q1, fun d hd z => ?_, ⟨mn + 1, by omega, by rw [pass_13, h13, nI_1]⟩, ⟨sh, q5, by rw [pass_12 hb]; exact q6⟩⟩ (by rw [pass_13, h13, nI_1]) (by omega) ?_
    · have := pass_out hb hd z
      rw [pass_bk hb hd (by rw [this]; decide)]; exact q2 d hd this
    · rw [hacc, ct_pass hb b (Nat.le_refl _)]; grind
theorem s_minutes (h : RT a b T nO nD fO fD) (hc : RC a b ck cr S 0) (x : Int32) : ∃ r ck' cr' S', f_X4_minutes nO nD fO fD ck cr x = some (r, ck', cr') ∧ f_X5_minutes T S x = some (r, S') ∧ RC a b ck' cr' S' 0 := by
  obtain ⟨kk, R, rfl, h1, h2, h3⟩ := hc
  have hk := h1.1
  have hR := h3 kk (Nat.le_refl _)
  obtain ⟨mn, hmn, e13⟩ := hR.2.2.1
  have hb := h.2.2.2.2.1
  unfold f_X4_minutes f_X5_minutes
  have same : ∀ r, ∃ r' ck' cr' S', (some (r, nI kk, cr) : Option (Int32 × Int32 × (Nat → Int32))) = some (r', ck', cr') ∧ (some (r, S) : Option (Int32 × (Nat → Int32))) = some (r', S') ∧ RC a b ck' cr' S' 0 := fun r => ⟨_, _, _, _, rfl, rfl, kk, R, rfl, h1, h2, h3⟩
  by_cases c1 : x < 1
  · rw [if_pos c1, in_0 (Or.inl c1), Option.bind_some, if_pos rfl]; exact same _
  · rw [if_neg c1]
    by_cases c2 : x ≤ 60
    · have c3 : ¬ (60 : Int32) < x := fun z => by rw [t_lt] at z; rw [t_le] at c2; omega
      rw [if_pos c2, in_1 c1 c3, Option.bind_some, if_neg ne10, c_minute h1.vn, Option.bind_some, h2.vs 13 (by omega), e13]
      have hx0 : ¬ x < 0 := fun z => c1 (by
        rw [t_lt] at z ⊢
        have e0 : (0 : Int32).toInt = 0 := by decide
        have e1 : (1 : Int32).toInt = 1 := by decide
        omega)
      obtain ⟨n, hn, rfl⟩ := nI_of hx0
      have hn60 : n ≤ 60 := by
        rw [show (60 : Int32) = nI 60 from rfl, nle hn (by omega)] at c2; exact c2
      rw [nI_add]
      by_cases c4 : mn + n ≤ 999
      · rw [i_leL (by omega) (by omega), i_leL (by omega) (by omega)]
        have e2 : nD = nI b := h.2.2.1
        rw [e2, c_placedAt h1.vn hb, Option.bind_some, bc_wb _ _ hb, Option.bind_some, on_wb _ _ _ hb, ← e2]
        obtain ⟨cr1, k1, g1⟩ := c_remember h1
        obtain ⟨S1, k2, g2⟩ := m_keeps hk h2
        rw [k1, Option.bind_some, k2, Option.bind_some]
        have hnow := remR_now (R := R) hk
        have hset : setR (remK kk) (remR kk R) (R kk) = remR kk R := by
          funext i; unfold setR; by_cases e : i = remK kk
          · rw [if_pos e, e, hnow]
          · rw [if_neg e]
        obtain ⟨r, cr', S', N', p1, p2, p3, p4, p5⟩ := s_min_l h (remK_le hk) (R := remR kk R) hn60 (ct (R kk) (-5) b) n 0 FU (R kk) cr1 S1 0 mn (by omega) (by rw [FU_v]; omega) (by rw [hset]; exact g1) (by rw [hset]; exact g2) hR e13 (by omega) (by grind)
        exact ⟨r, _, cr', S', p1, p2, _, _, rfl, p3, p4, set_ok (rem_ok hk h3) p5⟩
      · rw [i_nleL (by omega) (by omega), i_nleL (by omega) (by omega)]; exact same _
    · have c3 : (60 : Int32) < x := by rw [t_lt]; rw [t_le] at c2; omega
      rw [if_neg c2, in_0 (Or.inr c3), Option.bind_some, if_pos rfl]; exact same _
end V
