/-! the text: an item, all of it -/
theorem dM_at (M : Nat → Int32) (w : Nat → Nat) {b d j : Nat} (hb : b < 6) (hd : d < 6) (hj : j < 5) : dM M b w (13 + 6 * j + d) = if d = b then nI (w j) else M (13 + 6 * j + d) := by
  unfold dM
  simp only [upd_if]
  have : j = 0 ∨ j = 1 ∨ j = 2 ∨ j = 3 ∨ j = 4 := by omega
  by_cases e : d = b
  · subst e
    rcases this with rfl | rfl | rfl | rfl | rfl <;> (repeat (first | rw [if_pos (by omega)] | rw [if_neg (by omega)]))
  · rcases this with rfl | rfl | rfl | rfl | rfl <;> (repeat (first | rw [if_neg (by omega)]))
theorem dM_lo (M : Nat → Int32) (w : Nat → Nat) {b k : Nat} (hk : k < 13) : dM M b w k = M k := by
  unfold dM
  rw [upd_n (by omega), upd_n (by omega), upd_n (by omega), upd_n (by omega), upd_n (by omega)]
theorem dF_at (F : Nat → Int32) (w : Nat → Nat) {b d j : Nat} (hj : j < 5) : dF F b w (d * 5 + j) = if d = b then nI (w j) else F (d * 5 + j) := by
  unfold dF
  simp only [upd_if]
  have : j = 0 ∨ j = 1 ∨ j = 2 ∨ j = 3 ∨ j = 4 := by omega
  by_cases e : d = b
  · subst e
    rcases this with rfl | rfl | rfl | rfl | rfl <;> (repeat (first | rw [if_pos (by omega)] | rw [if_neg (by omega)]))
  · rcases this with rfl | rfl | rfl | rfl | rfl <;> (repeat (first | rw [if_neg (by omega)]))
section X
variable {n : Nat} {by1 tx : Nat → Int32} {c : Nat → Nat}
theorem o_ok {a b it v0 v1 : Nat} {M fO fD : Nat → Int32} (ha : a < 5) (hV : TV a b M) (hO : VO a M fO) (hD : VD b M fD) (h2 : M 2 = nI it) (hv0 : v0 ≤ 40) (hv1 : v1 ≤ 18) {M' : Nat → Int32} (hM : M' = upd (upd (oM M a v0 v1) 0 (oM M a v0 v1 0 + 1)) 2 (upd (oM M a v0 v1) 0 (oM M a v0 v1 0 + 1) 2 + 1)) : TV (a + 1) b M' ∧ VO (a + 1) M' (oF fO a v0 v1) ∧ VD b M' fD ∧ M' 2 = nI (it + 1) := by
  have g0 : oM M a v0 v1 0 = nI a := by unfold oM; rw [upd_n (by omega), upd_n (by omega), hV.2.2.1]
  have g2 : oM M a v0 v1 2 = nI it := by unfold oM; rw [upd_n (by omega), upd_n (by omega), h2]
  have g : ∀ k, M' k = if k = 2 then nI (it + 1) else if k = 0 then nI (a + 1) else if k = 8 + a then nI v1 else if k = 3 + a then nI v0 else M k := fun k => by
    rw [hM, g0, upd_n (show 2 ≠ 0 by omega), g2, nI_1, nI_1]
    unfold oM
    simp only [upd_if]
  have gl : ∀ k, 13 ≤ k → M' k = M k := fun k hk => by rw [g, if_neg (by omega), if_neg (by omega), if_neg (by omega), if_neg (by omega)]
  have g3 : ∀ o, o < a + 1 → M' (3 + o) = if o = a then nI v0 else M (3 + o) := fun o ho => by
    rw [g, if_neg (by omega), if_neg (by omega), if_neg (by omega)]
    by_cases e : o = a
    · rw [if_pos (by omega), if_pos e]
    · rw [if_neg (by omega), if_neg e]
  have g8 : ∀ o, o < a + 1 → M' (8 + o) = if o = a then nI v1 else M (8 + o) := fun o ho => by
    rw [g, if_neg (by omega), if_neg (by omega)]
    by_cases e : o = a
    · rw [if_pos (by omega), if_pos e]
    · rw [if_neg (by omega), if_neg (by omega), if_neg e]
  obtain ⟨q1, q2, q3, q4, q5, q6⟩ := hV
  refine ⟨⟨by omega, q2, by rw [g, if_neg (by omega), if_pos rfl], by rw [g, if_neg (by omega), if_neg (by omega), if_neg (by omega), if_neg (by omega), q4], fun o ho => ?_, fun d hd => ?_⟩, ⟨by omega, fun o ho => ?_⟩, ⟨hD.1, fun d j hd hj => ?_⟩, by rw [g, if_pos rfl]⟩
  · rw [g3 o ho, g8 o ho]
    by_cases e : o = a
    · rw [if_pos e, if_pos e]; exact ⟨⟨v0, rfl, hv0⟩, v1, rfl, hv1⟩
    · rw [if_neg e, if_neg e]; exact q5 o (by omega)
  · rw [gl _ (by omega), gl _ (by omega), gl _ (by omega), gl _ (by omega), gl _ (by omega)]; exact q6 d hd
  · rw [g3 o ho, g8 o ho]
    unfold oF
    simp only [upd_if]
    by_cases e : o = a
    · rw [if_neg (by omega), if_pos (by omega), if_pos e, if_pos (by omega), if_pos e]; exact ⟨rfl, rfl⟩
    · rw [if_neg (by omega), if_neg (by omega), if_neg e, if_neg (by omega), if_neg (by omega), if_neg e]; exact hO.2 o (by omega)
  · rw [gl _ (by omega)]; exact hD.2 d j hd hj
theorem d_ok {a b it : Nat} {w : Nat → Nat} {M fO fD : Nat → Int32} (hb : b < 6) (hV : TV a b M) (hO : VO a M fO) (hD : VD b M fD) (h2 : M 2 = nI it) (w0 : w 0 ≤ 9) (w1 : w 1 ≤ 9) (w2 : 1 ≤ w 2) (w2' : w 2 ≤ 99) (w3 : w 3 ≤ 60) (w4 : w 4 ≤ 99) {M' : Nat → Int32} (hM : M' = upd (upd (dM M b w) 1 (dM M b w 1 + 1)) 2 (upd (dM M b w) 1 (dM M b w 1 + 1) 2 + 1)) : TV a (b + 1) M' ∧ VO a M' fO ∧ VD (b + 1) M' (dF fD b w) ∧ M' 2 = nI (it + 1) := by
  have g1 : dM M b w 1 = nI b := by rw [dM_lo _ _ (by omega), hV.2.2.2.1]
  have g2 : dM M b w 2 = nI it := by rw [dM_lo _ _ (by omega), h2]
  have g : ∀ k, M' k = if k = 2 then nI (it + 1) else if k = 1 then nI (b + 1) else dM M b w k := fun k => by
    rw [hM, g1, upd_n (show 2 ≠ 1 by omega), g2, nI_1, nI_1]
    simp only [upd_if]
  have gl : ∀ k, k < 13 → k ≠ 1 → k ≠ 2 → M' k = M k := fun k h1 h2 h3 => by rw [g, if_neg h3, if_neg h2, dM_lo _ _ h1]
  have gd : ∀ d j, d < b + 1 → j < 5 → M' (13 + 6 * j + d) = if d = b then nI (w j) else M (13 + 6 * j + d) := fun d j hd hj => by
    rw [g, if_neg (by omega), if_neg (by omega), dM_at M w hb (by omega) hj]
  obtain ⟨q1, q2, q3, q4, q5, q6⟩ := hV
  refine ⟨⟨q1, by omega, by rw [gl 0 (by omega) (by omega) (by omega), q3], by rw [g, if_neg (by omega), if_pos rfl], fun o ho => ?_, fun d hd => ?_⟩, ⟨hO.1, fun o ho => ?_⟩, ⟨by omega, fun d j hd hj => ?_⟩, by rw [g, if_pos rfl]⟩
  · rw [gl (3 + o) (by omega) (by omega) (by omega), gl (8 + o) (by omega) (by omega) (by omega)]; exact q5 o ho
  · have f0 := gd d 0 hd (by omega)
    have f1 := gd d 1 hd (by omega)
    have f2 := gd d 2 hd (by omega)
    have f3 := gd d 3 hd (by omega)
    have f4 := gd d 4 hd (by omega)
    rw [show M' (13 + d) = _ from f0, show M' (19 + d) = _ from f1, show M' (25 + d) = _ from f2, show M' (31 + d) = _ from f3, show M' (37 + d) = _ from f4]
    by_cases e : d = b
    · simp only [if_pos e]
      exact ⟨⟨_, rfl, w0⟩, ⟨_, rfl, w1⟩, ⟨_, rfl, w2, w2'⟩, ⟨_, rfl, w3⟩, _, rfl, w4⟩
    · simp only [if_neg e]; exact q6 d (by omega)
  · rw [gl (3 + o) (by omega) (by omega) (by omega), gl (8 + o) (by omega) (by omega) (by omega)]; exact hO.2 o ho
  · rw [gd d j hd hj, dF_at fD w hj]
    by_cases e : d = b
    · rw [if_pos e, if_pos e]
    · rw [if_neg e, if_neg e]; exact hD.2 d j (by omega) hj
theorem item (h : TX n by1 tx c) {p ts a b it : Nat} {M fO fD : Nat → Int32} {ck cv mk mv : Int32} (hp : p ≤ n) (hts : ts ≤ n) (hV : TV a b M) (hO : VO a M fO) (hD : VD b M fD) (hk : TK ck cv mk mv) (hm : ¬ mk = 0) (h2 : M 2 = nI it) : (∃ ts' j1 j2 j3 j4 j5 j6 j7, ts' ≤ n ∧ f_X2_readItem (nI n) by1 (nI p) ck (nI ts) cv (nI a) (nI b) fO fD = some (0, j1, j2, nI ts', j3, j4, j5, j6, j7) ∧ ∀ k, ∃ k1 k2 k3 M', f_X5_reads_30 (nI n) tx (k + 1) (nI p) mk (nI ts) mv M = some (0, k1, k2, nI ts', k3, M')) ∨ (∃ p' ts' ck' cv' mk' mv' a' b' fO' fD' M', p < p' ∧ p' ≤ n ∧ ts' ≤ n ∧ f_X2_readItem (nI n) by1 (nI p) ck (nI ts) cv (nI a) (nI b) fO fD = some (1, nI p', ck', nI ts', cv', nI a', nI b', fO', fD') ∧ (∀ k, f_X5_reads_30 (nI n) tx (k + 1) (nI p) mk (nI ts) mv M = f_X5_reads_30 (nI n) tx k (nI p') mk' (nI ts') mv' M') ∧ TK ck' cv' mk' mv' ∧ TV a' b' M' ∧ VO a' M' fO' ∧ VD b' M' fD' ∧ M' 2 = nI (it + 1)) := by
  have ha := hV.1
  have hb := hV.2.1
  have tail : ∀ (p1 ts1 : Nat) (ck1 cv1 mk1 mv1 : Int32) (a' b' : Int32) (fO' fD' : Nat → Int32), p1 ≤ n → ts1 ≤ n → (¬ ck1 = 0 → p < p1) → TK ck1 cv1 mk1 mv1 → (∃ j1 j2 j3 j4 j5 j6 j7, f_X2_readItem_78 (nI n) by1 (nI p1) ck1 (nI ts1) cv1 a' b' fO' fD' 1 = some (0, j1, j2, nI ts1, j3, j4, j5, j6, j7) ∧ ¬ mk1 = 3) ∨ (∃ p' ts' ck' cv' mk' mv', p < p' ∧ p' ≤ n ∧ ts' ≤ n ∧ f_X2_readItem_78 (nI n) by1 (nI p1) ck1 (nI ts1) cv1 a' b' fO' fD' 1 = some (1, nI p', ck', nI ts', cv', a', b', fO', fD') ∧ mk1 = 3 ∧ f_X5_token (nI n) tx (nI p1) mk1 (nI ts1) mv1 = some (nI p', mk', nI ts', mv') ∧ TK ck' cv' mk' mv') := by
    intro p1 ts1 ck1 cv1 mk1 mv1 a' b' fO' fD' hp1 hts1 hlt hT
    rw [f_X2_readItem_78, if_neg ne10]
    by_cases c3 : ck1 = 3
    · rw [if_pos c3]
      obtain ⟨p', ts', ck', cv', mk', mv', b1, b2, b3, b4, b5, b6, b7⟩ := tok h hp1 ck1 (nI ts1) cv1 mk1 (nI ts1) mv1
      rw [b4, Option.bind_some]
      have := hlt (by rw [c3]; decide)
      exact Or.inr ⟨p', ts', ck', cv', mk', mv', by omega, b2, b3, rfl, hT.i3.mp c3, b5, b6⟩
    · rw [if_neg c3]
      exact Or.inl ⟨_, _, _, _, _, _, _, rfl, fun z => c3 (hT.i3.mpr z)⟩
  rcases hk.i1 with ⟨e1, e2, e3⟩ | ⟨e1, e2⟩
  · unfold f_X2_readItem
    rw [if_pos e1]
    by_cases co : cv = 111
    · rw [if_pos co]
      have em : ∀ k, f_X5_reads_30 (nI n) tx (k + 1) (nI p) mk (nI ts) mv M = (f_X5_readsItem_38 (nI n) tx (nI p) mk (nI ts) mv M 111 (nI a)).bind fun u_2 => if u_2.1 = 0 then (some (0, u_2.2.1, u_2.2.2.1, u_2.2.2.2.1, u_2.2.2.2.2.1, u_2.2.2.2.2.2)) else ((f_X5_token (nI n) tx u_2.2.1 u_2.2.2.1 u_2.2.2.2.1 u_2.2.2.2.2.1).bind fun u_4 => if u_4.2.1 = 3 then ((f_X5_token (nI n) tx u_4.1 u_4.2.1 u_4.2.2.1 u_4.2.2.2).bind fun u_8 => f_X5_reads_30 (nI n) tx k u_8.1 u_8.2.1 u_8.2.2.1 u_8.2.2.2 (upd u_2.2.2.2.2.2 2 ((u_2.2.2.2.2.2 2) + 1))) else (some (0, u_4.1, u_4.2.1, u_4.2.2.1, u_4.2.2.2, u_2.2.2.2.2.2))) := fun k => by
        rw [f_X5_reads_30, if_neg hm, f_X5_readsItem, if_pos e2, f_X5_readsItem_16, if_pos (e3.symm.trans co), hV.2.2.1, e3.symm.trans co]
      by_cases c5 : a < 5
      · rw [f_X3_addOven, i_ltL c5 (by omega), Option.bind_some]
        dsimp only
        rw [if_neg ne10, nI_1]
        rcases it_o h hp c5 ck (nI ts) cv mk (nI ts) mv fO M with ⟨ts', j1, j2, j3, j4, k1, k2, k3, M', g0, g1, g2⟩ | ⟨p1, z1, z2, z3, p', ts', ck', cv', mk', mv', v0, v1, g1, g2, g3, g4, g5, g6, g7, g8, g9⟩
        · rw [g1, Option.bind_some]
          dsimp only
          rw [if_pos rfl]
          refine Or.inl ⟨ts', _, _, _, _, _, _, _, g0, rfl, fun k => ?_⟩
          rw [em, g2, Option.bind_some]
          dsimp only
          rw [if_pos rfl]
          exact ⟨_, _, _, _, rfl⟩
        · rw [g6, Option.bind_some]
          dsimp only
          rw [if_neg ne10, f_X2_readItem_39]
          rcases tail p' ts' ck' cv' mk' mv' (nI (a + 1)) (nI b) (oF fO a v0 v1) fD g1 g2 g5 g9 with ⟨j1, j2, j3, j4, j5, j6, j7, t1, t2⟩ | ⟨p2, ts2, ck2, cv2, mk2, mv2, t1, t2, t3, t4, t5, t6, t7⟩
          · refine Or.inl ⟨ts', _, _, _, _, _, _, _, g2, t1, fun k => ?_⟩
            rw [em, g7, Option.bind_some]
            dsimp only
            rw [if_neg ne10, g8, Option.bind_some]
            dsimp only
            rw [if_neg t2]
            exact ⟨_, _, _, _, rfl⟩
          · obtain ⟨w1, w2, w3, w4⟩ := o_ok c5 hV hO hD h2 g3 g4 rfl
            refine Or.inr ⟨p2, ts2, ck2, cv2, mk2, mv2, a + 1, b, _, fD, _, t1, t2, t3, t4, fun k => ?_, t7, w1, w2, w3, w4⟩
            rw [em, g7, Option.bind_some]
            dsimp only
            rw [if_neg ne10, g8, Option.bind_some]
            dsimp only
            rw [if_pos t5, t6, Option.bind_some]
      · rw [f_X3_addOven, i_nltL (by omega) (by omega), Option.bind_some]
        dsimp only
        rw [if_pos rfl]
        refine Or.inl ⟨ts, _, _, _, _, _, _, _, hts, rfl, fun k => ?_⟩
        rw [em, f_X5_readsItem_38, if_pos rfl, i_eqL (show a = 5 by omega), Option.bind_some]
        dsimp only
        rw [if_pos rfl]
        exact ⟨_, _, _, _, rfl⟩
    · rw [if_neg co]
      have cm : ¬ mv = 111 := fun z => co (e3.trans z)
      by_cases cd : cv = 100
      · rw [if_pos cd]
        have em : ∀ k, f_X5_reads_30 (nI n) tx (k + 1) (nI p) mk (nI ts) mv M = (f_X5_readsItem_38 (nI n) tx (nI p) mk (nI ts) mv M 100 (nI b)).bind fun u_2 => if u_2.1 = 0 then (some (0, u_2.2.1, u_2.2.2.1, u_2.2.2.2.1, u_2.2.2.2.2.1, u_2.2.2.2.2.2)) else ((f_X5_token (nI n) tx u_2.2.1 u_2.2.2.1 u_2.2.2.2.1 u_2.2.2.2.2.1).bind fun u_4 => if u_4.2.1 = 3 then ((f_X5_token (nI n) tx u_4.1 u_4.2.1 u_4.2.2.1 u_4.2.2.2).bind fun u_8 => f_X5_reads_30 (nI n) tx k u_8.1 u_8.2.1 u_8.2.2.1 u_8.2.2.2 (upd u_2.2.2.2.2.2 2 ((u_2.2.2.2.2.2 2) + 1))) else (some (0, u_4.1, u_4.2.1, u_4.2.2.1, u_4.2.2.2, u_2.2.2.2.2.2))) := fun k => by
          rw [f_X5_reads_30, if_neg hm, f_X5_readsItem, if_pos e2, f_X5_readsItem_16, if_neg cm, hV.2.2.2.1, e3.symm.trans cd]
        by_cases c5 : b < 6
        · rw [f_X3_addDough, i_ltL c5 (by omega), Option.bind_some]
          dsimp only
          rw [if_neg ne10, nI_1]
          rcases it_d h hp c5 ck (nI ts) cv mk (nI ts) mv fD M with ⟨ts', j1, j2, j3, j4, k1, k2, k3, M', g0, g1, g2⟩ | ⟨p1, z1, z2, z3, p', ts', ck', cv', mk', mv', w, g1, g2, x0, x1, x2, x2', x3, x4, g5, g6, g7, g8, g9⟩
          · rw [g1, Option.bind_some]
            dsimp only
            rw [if_pos rfl]
            refine Or.inl ⟨ts', _, _, _, _, _, _, _, g0, rfl, fun k => ?_⟩
            rw [em, g2, Option.bind_some]
            dsimp only
            rw [if_pos rfl]
            exact ⟨_, _, _, _, rfl⟩
          · rw [g6, Option.bind_some]
            dsimp only
            rw [if_neg ne10, f_X2_readItem_72]
            rcases tail p' ts' ck' cv' mk' mv' (nI a) (nI (b + 1)) fO (dF fD b w) g1 g2 g5 g9 with ⟨j1, j2, j3, j4, j5, j6, j7, t1, t2⟩ | ⟨p2, ts2, ck2, cv2, mk2, mv2, t1, t2, t3, t4, t5, t6, t7⟩
            · refine Or.inl ⟨ts', _, _, _, _, _, _, _, g2, t1, fun k => ?_⟩
              rw [em, g7, Option.bind_some]
              dsimp only
              rw [if_neg ne10, g8, Option.bind_some]
              dsimp only
              rw [if_neg t2]
              exact ⟨_, _, _, _, rfl⟩
            · obtain ⟨w1, w2, w3, w4⟩ := d_ok c5 hV hO hD h2 x0 x1 x2 x2' x3 x4 rfl
              refine Or.inr ⟨p2, ts2, ck2, cv2, mk2, mv2, a, b + 1, fO, _, _, t1, t2, t3, t4, fun k => ?_, t7, w1, w2, w3, w4⟩
              rw [em, g7, Option.bind_some]
              dsimp only
              rw [if_neg ne10, g8, Option.bind_some]
              dsimp only
              rw [if_pos t5, t6, Option.bind_some]
        · rw [f_X3_addDough, i_nltL (by omega) (by omega), Option.bind_some]
          dsimp only
          rw [if_pos rfl]
          refine Or.inl ⟨ts, _, _, _, _, _, _, _, hts, rfl, fun k => ?_⟩
          rw [em, f_X5_readsItem_38, if_neg (by decide), if_pos rfl, i_eqL (show b = 6 by omega), Option.bind_some]
          dsimp only
          rw [if_pos rfl]
          exact ⟨_, _, _, _, rfl⟩
      · rw [if_neg cd, f_X2_readItem_78, if_pos rfl]
        refine Or.inl ⟨ts, _, _, _, _, _, _, _, hts, rfl, fun k => ?_⟩
        rw [f_X5_reads_30, if_neg hm, f_X5_readsItem, if_pos e2, f_X5_readsItem_16, if_neg cm, f_X5_readsItem_38, if_neg cm, if_neg (fun z => cd (e3.trans z)), Option.bind_some]
        dsimp only
        rw [if_pos rfl]
        exact ⟨_, _, _, _, rfl⟩
  · unfold f_X2_readItem
    rw [if_neg e1]
    refine Or.inl ⟨ts, _, _, _, _, _, _, _, hts, rfl, fun k => ?_⟩
    rw [f_X5_reads_30, if_neg hm, f_X5_readsItem, if_neg e2, f_X5_readsItem_16, if_neg (by decide), f_X5_readsItem_38, if_neg (by decide), if_neg (by decide), Option.bind_some]
    dsimp only
    rw [if_pos rfl]
    exact ⟨_, _, _, _, rfl⟩
/-- all items -/
theorem rd_l (h : TX n by1 tx c) : ∀ (m p f1 f2 ts a b it : Nat) (ck cv mk mv : Int32) (M fO fD : Nat → Int32), p + m = n → m < f1 → m < f2 → ts ≤ n → it ≤ p → TV a b M → VO a M fO → VD b M fD → TK ck cv mk mv → M 2 = nI it → (∃ ts' j1 j2 j3 j4 j5 j6 j7 j8 k1 k2 k3 M', ts' ≤ n ∧ f_X2_read_15 (nI n) by1 f1 (nI p) ck (nI ts) cv (nI a) (nI b) fO fD (nI it) = some (-10 - nI ts', j1, j2, j3, j4, j5, j6, j7, j8) ∧ f_X5_reads_30 (nI n) tx f2 (nI p) mk (nI ts) mv M = some (0, k1, k2, nI ts', k3, M')) ∨ (∃ it' j1 j2 j3 j4 a' b' fO' fD' k1 k2 k3 k4 M', it' ≤ 180 ∧ f_X2_read_15 (nI n) by1 f1 (nI p) ck (nI ts) cv (nI a) (nI b) fO fD (nI it) = some (nI it', j1, j2, j3, j4, nI a', nI b', fO', fD') ∧ f_X5_reads_30 (nI n) tx f2 (nI p) mk (nI ts) mv M = some (1, k1, k2, k3, k4, M') ∧ TV a' b' M' ∧ VO a' M' fO' ∧ VD b' M' fD' ∧ M' 2 = nI it') := by
  have hn := h.1
  intro m
  induction m using Nat.strongRecOn with
  | ind m ih =>
    intro p f1 f2 ts a b it ck cv mk mv M fO fD hp hf1 hf2 hts hit hV hO hD hk h2
    obtain ⟨f1, rfl⟩ : ∃ k, f1 = k + 1 := ⟨f1 - 1, by omega⟩
    obtain ⟨f2, rfl⟩ : ∃ k, f2 = k + 1 := ⟨f2 - 1, by omega⟩
    by_cases c0 : ck = 0
    · rw [f_X2_read_15, if_pos c0, f_X5_reads_30, if_pos (hk.i0.mp c0)]
      exact Or.inr ⟨it, _, _, _, _, a, b, fO, fD, _, _, _, _, M, by omega, rfl, rfl, hV, hO, hD, h2⟩
    · rw [f_X2_read_15, if_neg c0, i_nLlt (by omega) (by omega)]
      rcases item h (show p ≤ n by omega) hts hV hO hD hk (fun z => c0 (hk.i0.mpr z)) h2 with ⟨ts', j1, j2, j3, j4, j5, j6, j7, g0, g1, g2⟩ | ⟨p', ts', ck', cv', mk', mv', a', b', fO', fD', M', g1, g2, g3, g4, g5, g6, g7, g8, g9, g10⟩
      · rw [g1, Option.bind_some]
        dsimp only
        rw [if_pos rfl]
        obtain ⟨k1, k2, k3, M', g3⟩ := g2 f2
        exact Or.inl ⟨ts', _, _, _, _, _, _, _, _, _, _, _, _, g0, rfl, g3⟩
      · rw [g4, Option.bind_some]
        dsimp only
        rw [if_neg ne10, nI_1, g5]
        exact ih (n - p') (by omega) p' f1 f2 ts' a' b' (it + 1) ck' cv' mk' mv' M' fO' fD' (by omega) (by omega) (by omega) g3 (by omega) g7 g8 g9 g6 g10
theorem rd (h : TX n by1 tx c) (x1 x2 x3 x4 v1 v2 y1 y2 y3 y4 : Int32) (fO fD dr : Nat → Int32) : (∃ ts' j1 j2 j3 j4 j5 j6 j7 j8 k1 k2 k3 M', ts' ≤ n ∧ f_X2_read (nI n) by1 x1 x2 x3 x4 v1 v2 fO fD = some (-10 - nI ts', j1, j2, j3, j4, j5, j6, j7, j8) ∧ f_X5_reads (nI n) tx y1 y2 y3 y4 dr = some (0, k1, k2, nI ts', k3, M')) ∨ (∃ it' j1 j2 j3 j4 a' b' fO' fD' k1 k2 k3 k4 M', it' ≤ 180 ∧ f_X2_read (nI n) by1 x1 x2 x3 x4 v1 v2 fO fD = some (nI it', j1, j2, j3, j4, nI a', nI b', fO', fD') ∧ f_X5_reads (nI n) tx y1 y2 y3 y4 dr = some (1, k1, k2, k3, k4, M') ∧ TV a' b' M' ∧ VO a' M' fO' ∧ VD b' M' fD' ∧ M' 2 = nI it') := by
  have hn := h.1
  obtain ⟨p', ts, ck, cv, mk, mv, b1, b2, b3, b4, b5, b6, b7⟩ := tok h (Nat.zero_le n) x2 x3 x4 y2 y3 y4
  have lp : ∀ (m x fuel : Nat) (M : Nat → Int32), x + m = 43 → m < fuel → (∀ k, k < x → M k = 0) → ∃ M', (∀ k, k < 43 → M' k = 0) ∧ f_X5_reads_2 (nI n) tx fuel y1 y2 y3 y4 M (nI x) = f_X5_reads_30 (nI n) tx FU (nI p') mk (nI ts) mv M' := by
    intro m
    induction m with
    | zero =>
      intro x fuel M hx hfu hM
      obtain ⟨k, rfl⟩ : ∃ k, fuel = k + 1 := ⟨fuel - 1, by omega⟩
      rw [f_X5_reads_2, i_Lle (by omega) (by omega), show f_X5_token (nI n) tx 0 y2 y3 y4 = _ from b5, Option.bind_some]
      exact ⟨M, fun k hk => hM k (by omega), rfl⟩
    | succ m ih =>
      intro x fuel M hx hfu hM
      obtain ⟨k, rfl⟩ : ∃ k, fuel = k + 1 := ⟨fuel - 1, by omega⟩
      rw [f_X5_reads_2, i_nLle (by omega) (by omega), i_in (by omega) (by omega), ncl (by omega), nI_1]
      refine ih (x + 1) k _ (by omega) (by omega) (fun k hk => ?_)
      rw [upd_if]
      by_cases e : k = x
      · rw [if_pos e]
      · rw [if_neg e]; exact hM k (by omega)
  obtain ⟨M0, hM0, e0⟩ := lp 43 0 FU dr (by omega) (by rw [FU_v]; omega) (fun k hk => absurd hk (Nat.not_lt_zero k))
  have ec : f_X2_read (nI n) by1 x1 x2 x3 x4 v1 v2 fO fD = f_X2_read_15 (nI n) by1 FU (nI p') ck (nI ts) cv (nI 0) (nI 0) fO fD (nI 0) := by
    rw [f_X2_read, f_X3_forgetAll, Option.bind_some, show f_X2_nextToken (nI n) by1 0 x2 x3 x4 = _ from b4, Option.bind_some]
    rfl
  rw [ec, f_X5_reads, show f_X5_reads_2 (nI n) tx FU y1 y2 y3 y4 dr 0 = _ from e0]
  exact rd_l h (n - p') p' FU FU ts 0 0 0 ck cv mk mv M0 fO fD (by omega) (by rw [FU_v]; omega) (by rw [FU_v]; omega) b3 (by omega) ⟨by omega, by omega, hM0 0 (by omega), hM0 1 (by omega), fun o ho => absurd ho (Nat.not_lt_zero o), fun d hd => absurd hd (Nat.not_lt_zero d)⟩ ⟨by omega, fun o ho => absurd ho (Nat.not_lt_zero o)⟩ ⟨by omega, fun d j hd => absurd hd (Nat.not_lt_zero d)⟩ b6 (hM0 2 (by omega))
end X
