/-! the start: what the state bears -/
theorem arrOf {s : State} {args : Array Value} {ty : FieldType} (h : (Cond.arrayClass ty).before args s = true) : ∃ cA, ArrOfT s cA ty ∧ s.vm.findClass ("[" ++ ty.toString) = some cA := by
  obtain ⟨cA, kA, comp, h1, h2, h3⟩ := Cond.arrayClass_spec h
  exact ⟨cA, fun n z => ⟨fun k h => (by cases h), kA, h2, comp, h3⟩, h1⟩
theorem stat {s : State} {args : Array Value} {n : String} {N : Nat} {f : Nat → Int32} (hN : N < 2 ^ 31) (hts : ∀ w ∈ lw_tbl, w.before args s = true) (hl : Cond.laysStatic RX2 n "[I" ∈ lw_tbl) (harr : (Cond.arrayOf (.static RX2 n "[I") .int).before args s = true) (hlen : (Cond.eq (.length (.static RX2 n "[I")) (.int (Int32.ofNat N))).before args s = true) (hel : ∀ j : Nat, j < N → (Cond.eq (.elem (.static RX2 n "[I") (.int (Int32.ofNat j))) (.int (f j))).before args s = true) : ∃ t : Nat, va_Z RX2 n "[I" (.ref t) (fun a : Nat => s.heap.size ≤ a) s s.heap ∧ va_T .int t N (fun j => .int (f j)) (fun a : Nat => s.heap.size ≤ a) s s.heap := by
  obtain ⟨t, h1, h2⟩ := va_Tof (f := fun j => .int (f j)) (A := fun a : Nat => s.heap.size ≤ a) hN harr (va_eqt hlen) (fun j hj => va_eqt (hel j hj)) (fun a h => Nat.not_le.mpr h)
  exact ⟨t, va_Zref (hts _ hl) (hts _ (GG_in q49)) h1 (fun a h => Nat.not_le.mpr h), h2⟩
theorem kk_start {s : State} {b : Nat} (hts : ∀ w ∈ lw_tbl, w.before #[Value.ref b] s = true) (hgv : (Jvm.Cond.and given_1 narrow_1).before #[Value.ref b] s = true) : ∃ E : Ev, KK E (fun a : Nat => s.heap.size ≤ a) s s.heap := by
  have hs := flat_of_before _ hgv
  obtain ⟨c0, i0, k0⟩ := u_known (C := RX0) (T := TX0) (N := 2) (n := 2) hts (fun w hw => GG_in (inX0 w hw)) (hts _ (GG_in q111))
  obtain ⟨c1, i1, k1⟩ := u_known (C := RX1) (T := TX1) (N := 6) (n := 6) hts (fun w hw => GG_in (inX1 w hw)) (hts _ (GG_in q128))
  obtain ⟨c2, i2, k2⟩ := u_known (C := RX2) (T := TX2) (N := 6) (n := 6) hts (fun w hw => GG_in (inX2 w hw)) (hts _ (GG_in q66))
  obtain ⟨c3, i3, k3⟩ := u_known (C := RX3) (T := TX3) (N := 4) (n := 4) hts (fun w hw => GG_in (inX3 w hw)) (hts _ (GG_in q92))
  obtain ⟨c4, i4, k4⟩ := u_known (C := RX4) (T := TX4) (N := 13) (n := 13) hts (fun w hw => GG_in (inX4 w hw)) (hts _ (GG_in q58))
  obtain ⟨c5, i5, k5⟩ := u_known (C := RX5) (T := TX5) (N := 17) (n := 17) hts (fun w hw => GG_in (inX5 w hw)) (hts _ (GG_in q593))
  obtain ⟨cI, aI, fI⟩ := arrOf (hts _ (GG_in q90))
  obtain ⟨cZ, aZ, fZ⟩ := arrOf (hts _ (GG_in q683))
  obtain ⟨t1, z1, y1⟩ := stat (n := "OVEN_MOSTS") (N := 2) (f := tO2) (by decide) hts (by decide +kernel) (hs _ (by decide +kernel)) (hs _ (by decide +kernel)) (fun j hj => by
    rcases (show j = 0 ∨ j = 1 by omega) with rfl | rfl <;> exact hs _ (by decide +kernel))
  obtain ⟨t2, z2, y2⟩ := stat (n := "DOUGH_LEASTS") (N := 5) (f := tL5) (by decide) hts (by decide +kernel) (hs _ (by decide +kernel)) (hs _ (by decide +kernel)) (fun j hj => by
    rcases (show j = 0 ∨ j = 1 ∨ j = 2 ∨ j = 3 ∨ j = 4 by omega) with rfl | rfl | rfl | rfl | rfl <;> exact hs _ (by decide +kernel))
  obtain ⟨t3, z3, y3⟩ := stat (n := "DOUGH_MOSTS") (N := 5) (f := tM5) (by decide) hts (by decide +kernel) (hs _ (by decide +kernel)) (hs _ (by decide +kernel)) (fun j hj => by
    rcases (show j = 0 ∨ j = 1 ∨ j = 2 ∨ j = 3 ∨ j = 4 by omega) with rfl | rfl | rfl | rfl | rfl <;> exact hs _ (by decide +kernel))
  refine ⟨((fun k => match k with | 0 => c0 | 1 => c1 | 2 => c2 | 3 => c3 | 4 => c4 | _ => c5, fun k => match k with | 0 => i0 | 1 => i1 | 2 => i2 | 3 => i3 | 4 => i4 | _ => i5), cI, cZ, t1, t2, t3), ⟨?_, ?_⟩, va_Nw.of rfl (hts nestW (by decide +kernel)), ⟨z1, y1⟩, ⟨z2, y2⟩, ⟨z3, y3⟩⟩
  · intro k r hr
    match k, hr with
    | 0, hr => cases hr; exact k0
    | 1, hr => cases hr; exact k1
    | 2, hr => cases hr; exact k2
    | 3, hr => cases hr; exact k3
    | 4, hr => cases hr; exact k4
    | 5, hr => cases hr; exact k5
    | k + 6, hr => simp [classes] at hr
  · intro k r hr
    match k, hr with
    | 0, hr => cases hr; exact ⟨aI, fI⟩
    | 1, hr => cases hr; exact ⟨aZ, fZ⟩
    | k + 2, hr => simp at hr
theorem reads_0 : ∃ (k1 k2 k3 k4 : Int32) (M : Nat → Int32), f_X5_reads 0 (fun _ => 0) 0 0 0 0 (fun _ => 0) = some (1, k1, k2, k3, k4, M) ∧ TV 0 0 M := by
  have ec : f_X2_read (nI 0) (fun _ => 0) 0 0 0 0 0 0 (fun _ => 0) (fun _ => 0) = some (0, 0, 0, 0, 0, 0, 0, (fun _ => 0), (fun _ => 0)) := rfl
  rcases rd (TX_0 (fun _ => 0) (fun _ => 0) (fun _ => 0)) 0 0 0 0 0 0 0 0 0 0 (fun _ => 0) (fun _ => 0) (fun _ => 0) with ⟨ts', j1, j2, j3, j4, j5, j6, j7, j8, k1, k2, k3, M', g0, g1, g2⟩ | ⟨it', j1, j2, j3, j4, a', b', fO', fD', k1, k2, k3, k4, M', g0, g1, g2, g3, g4, g5, g6⟩
  · exfalso
    have h := Option.some.inj (ec.symm.trans g1)
    have h0 : (0 : Int32) = -10 - nI ts' := congrArg Prod.fst h
    exact m10 (show ts' ≤ 180 by omega) (by rw [← h0]; decide)
  · have h := Option.some.inj (ec.symm.trans g1)
    have ha : nI 0 = nI a' := congrArg (fun r => r.2.2.2.2.2.1) h
    have hb : nI 0 = nI b' := congrArg (fun r => r.2.2.2.2.2.2.1) h
    have := g3.1
    have := g3.2.1
    have ha2 : 0 = a' := (neq (by omega) (by omega)).mp ha
    have hb2 : 0 = b' := (neq (by omega) (by omega)).mp hb
    subst ha2
    subst hb2
    exact ⟨k1, k2, k3, k4, M', g2, g3⟩
set_option maxHeartbeats 4000000 in
set_option maxRecDepth 100000 in
theorem whole_start {p : Program} {e : Env} {s : State} {m : MethodId} {below : List Frame} {meth : Method} {c : Code} (l : Launch) (hflags : l.flags = flags0) {b L : Nat} {xs : Nat → Int32} (hL : L ≤ 320) (C0 : lw_At p s m meth c b L xs) : W p l e room_1 s m #[Value.ref b] below meth c s.heap [] 0 0 (lw_Z below #[Value.ref b] s) (entryFrame m ([Value.ref b] : List Value).toArray 4) := by
  obtain ⟨hx, hb, hr, hml, hown, hts, hX, hbl, hlocks, hgv⟩ := id C0
  obtain ⟨E, hK⟩ := kk_start hts hgv
  have hA : ∀ q : Nat, s.heap.size ≤ q → (fun q : Nat => s.heap.size ≤ q) q := fun _ h => h
  have X : Cx p s m #[Value.ref b] meth c cL_law 4 RL ret := ⟨hx, hb, hml, hown, fun w hw => hts w (GG_in hw), hr, hlocks⟩
  obtain ⟨R0, hf, hCC⟩ := c_begin 0 (fun _ => (0 : Int32))
  obtain ⟨k1, k2, k3, k4, M, hf1, hTV⟩ := reads_0
  obtain ⟨T2, S2, kp2, hf2, hT2, hS2, hk0, hk1⟩ := m_begin M (fun _ => (0 : Int32)) (fun _ => (0 : Int32)) (fun _ => (0 : Int32)) 0
  have hS : va_S (fun q : Nat => s.heap.size ≤ q) s.heap s.heap [] := va_S.rf
  have hP : va_P E.1 classes [] s.heap := fun k q h => by simp at h
  have hD : va_D (fun q : Nat => s.heap.size ≤ q) [] := ⟨fun i j p q h => by simp at h, fun k q h => by simp at h⟩
  have hl := lv_entry ([.ref b]) (n := 4) (Nat.le_of_ble_eq_true rfl)
  rw [lg_entry_eq]
  generalize (lg_sl ([.ref b]) ++ List.replicate (4 - (lg_sl ([.ref b])).length) Slot.unset).toArray = ls at hl ⊢
  have hl : lv_has ls 4 [(0, .ref b)] := hl
  refine nwO (ci := 4) (C := RX4) (T := TX4) (N := 13) (L := 3) (fs := [.null, .null, .null, .null, .null, .null, .null, .int 0, .null, .null, .int 0, .null, .long 0]) X hK hA hP hD hS hl.1 inX4 tyX4 tyX4_ok q57 q58 q48 rfl (fun j hj => by rcases (show j = 0 ∨ j = 1 ∨ j = 2 ∨ j = 3 ∨ j = 4 ∨ j = 5 ∨ j = 6 ∨ j = 7 ∨ j = 8 ∨ j = 9 ∨ j = 10 ∨ j = 11 ∨ j = 12 by omega) with rfl | rfl | rfl | rfl | rfl | rfl | rfl | rfl | rfl | rfl | rfl | rfl | rfl <;> rfl) (fun q => mk_X4 E q R0 hf) q61 rfl q59 q60 rfl (by decide +kernel) ⟨⟨(Nat.le_of_ble_eq_true rfl), (Nat.le_of_ble_eq_true rfl)⟩, (Nat.le_of_ble_eq_true rfl), (Nat.le_of_ble_eq_true rfl)⟩ (Nat.le_of_ble_eq_true rfl) dL_law_0 dL_law_3 dL_law_4 (fun q1 g1 H locs hP hD hS => ?_)
  refine lv_astore_n (lv' := [(1, .ref q1), (0, .ref b)]) hx hb dL_law_7 rfl hl (by decide) rfl (fun ls hl => ?_)
  refine nwO (ci := 5) (C := RX5) (T := TX5) (N := 17) (L := 7) (fs := [.long 0, .null, .int 0, .null, .null, .null, .null, .null, .null, .int 0, .int 0, .int 0, .int 0, .int 0, .int 0, .null, .null]) X hK hA hP hD hS hl.1 inX5 tyX5 tyX5_ok q592 q593 q53 rfl (fun j hj => by rcases (show j = 0 ∨ j = 1 ∨ j = 2 ∨ j = 3 ∨ j = 4 ∨ j = 5 ∨ j = 6 ∨ j = 7 ∨ j = 8 ∨ j = 9 ∨ j = 10 ∨ j = 11 ∨ j = 12 ∨ j = 13 ∨ j = 14 ∨ j = 15 ∨ j = 16 by omega) with rfl | rfl | rfl | rfl | rfl | rfl | rfl | rfl | rfl | rfl | rfl | rfl | rfl | rfl | rfl | rfl | rfl <;> rfl) (fun q => mk_X5 E q (1, k1, k2, k3, k4, M) hf1 (0, T2, S2, kp2) hf2) q596 rfl q594 q595 rfl (by decide +kernel) ⟨⟨(Nat.le_of_ble_eq_true rfl), (Nat.le_of_ble_eq_true rfl)⟩, (Nat.le_of_ble_eq_true rfl), (Nat.le_of_ble_eq_true rfl)⟩ (Nat.le_of_ble_eq_true rfl) dL_law_8 dL_law_11 dL_law_12 (fun q2 g2 H locs hP hD hS => ?_)
  refine lv_astore_n (lv' := [(2, .ref q2), (1, .ref q1), (0, .ref b)]) hx hb dL_law_15 rfl hl (by decide) rfl (fun ls hl => ?_)
  refine lv_iconst (v := (0 : Int32)) hx hb dL_law_16 (by decide) ?_
  refine lv_istore_n (lv' := [(3, .int 0), (2, .ref q2), (1, .ref q1), (0, .ref b)]) hx hb dL_law_17 rfl hl (by decide) rfl (fun ls hl => ?_)
  refine W.widen (k := 600000) (n := 7302250) (Nat.le_of_ble_eq_true rfl) (Nat.le_of_ble_eq_true rfl) ?_
  have hP : va_P E.1 classes (WW E q1 (g1 0) (g1 1) (g1 2) (g1 3) (g1 4) (g1 5) (g1 6) (g1 7) (g1 8) (g1 9) (g1 10) (g1 11) (g1 12) (g1 13) (g1 14) (g1 15) (g1 16) (g1 17) (g1 18) (g1 19) (g1 20) (g1 21) q2 (g2 0) (g2 1) (g2 2) (g2 3) (g2 4) (g2 5) (g2 6) (g2 7) (g2 8) (0 : Int32) (0 : Int32) (nI 0) (0 : Int32) (0 : Int32) (0 : Int32) (0 : Int32) (0 : Int32) (0 : Int32) (0 : Int32) (0 : Int32) (0 : Int32) (0 : Int32) (0 : Int32) (0 : Int32) (0 : Int32) (0 : Int32) (0 : Int32) (nI 0) (0 : Int32) k1 k2 k3 k4 (-9) (0 : Int64) (0 : Int64) (fun _ => (0 : Int32)) (fun _ => (0 : Int32)) (fun _ => (0 : Int32)) (fun _ => (0 : Int32)) (fun _ => (0 : Int32)) R0 R0 R0 R0 (fun _ => (0 : Int32)) (fun _ => (0 : Int32)) (fun _ => (0 : Int32)) (fun _ => (0 : Int32)) (fun _ => (0 : Int32)) (fun _ => (0 : Int32)) T2 M S2 (fun _ => (0 : Int32)) kp2 (fun _ => (0 : Int32)) (fun _ => (0 : Int32)) (fun _ => (0 : Int32))) H := hP
  have hD : va_D (fun q : Nat => s.heap.size ≤ q) (WW E q1 (g1 0) (g1 1) (g1 2) (g1 3) (g1 4) (g1 5) (g1 6) (g1 7) (g1 8) (g1 9) (g1 10) (g1 11) (g1 12) (g1 13) (g1 14) (g1 15) (g1 16) (g1 17) (g1 18) (g1 19) (g1 20) (g1 21) q2 (g2 0) (g2 1) (g2 2) (g2 3) (g2 4) (g2 5) (g2 6) (g2 7) (g2 8) (0 : Int32) (0 : Int32) (nI 0) (0 : Int32) (0 : Int32) (0 : Int32) (0 : Int32) (0 : Int32) (0 : Int32) (0 : Int32) (0 : Int32) (0 : Int32) (0 : Int32) (0 : Int32) (0 : Int32) (0 : Int32) (0 : Int32) (0 : Int32) (nI 0) (0 : Int32) k1 k2 k3 k4 (-9) (0 : Int64) (0 : Int64) (fun _ => (0 : Int32)) (fun _ => (0 : Int32)) (fun _ => (0 : Int32)) (fun _ => (0 : Int32)) (fun _ => (0 : Int32)) R0 R0 R0 R0 (fun _ => (0 : Int32)) (fun _ => (0 : Int32)) (fun _ => (0 : Int32)) (fun _ => (0 : Int32)) (fun _ => (0 : Int32)) (fun _ => (0 : Int32)) T2 M S2 (fun _ => (0 : Int32)) kp2 (fun _ => (0 : Int32)) (fun _ => (0 : Int32)) (fun _ => (0 : Int32))) := hD
  have hI : INV 0 0 0 (fun _ => 0) (0 : Int32) (0 : Int32) (fun _ => (0 : Int32)) (fun _ => (0 : Int32)) T2 (0 : Int32) R0 S2 (0 : Int32) kp2 (0 : Int32) (0 : Int32) R0 R0 (fun _ => (0 : Int32)) (0 : Int32) (fun _ => (0 : Int32)) (fun _ => (0 : Int32)) (0 : Int32) (fun _ => (0 : Int32)) (fun _ => (0 : Int32)) (fun _ => (0 : Int32)) := ⟨⟨hTV.ext hT2, rfl, rfl, ⟨by omega, fun o ho => absurd ho (Nat.not_lt_zero o)⟩, ⟨by omega, fun d j hd => absurd hd (Nat.not_lt_zero d)⟩⟩, begun (by omega) hCC hS2, RI_0 hk0 hk1 _ _ _ _ _, RL_0 _ _ _, TX_0 _ _ _⟩
  exact law_loop X hK hX hbl hL L 0 (by omega) (by omega) ls H locs 0 0 0 (fun _ => 0) q1 (g1 0) (g1 1) (g1 2) (g1 3) (g1 4) (g1 5) (g1 6) (g1 7) (g1 8) (g1 9) (g1 10) (g1 11) (g1 12) (g1 13) (g1 14) (g1 15) (g1 16) (g1 17) (g1 18) (g1 19) (g1 20) (g1 21) q2 (g2 0) (g2 1) (g2 2) (g2 3) (g2 4) (g2 5) (g2 6) (g2 7) (g2 8) (0 : Int32) (0 : Int32) (0 : Int32) (0 : Int32) (0 : Int32) (0 : Int32) (0 : Int32) (0 : Int32) (0 : Int32) (0 : Int32) (0 : Int32) (0 : Int32) (0 : Int32) (0 : Int32) (0 : Int32) (0 : Int32) (0 : Int32) (0 : Int32) k1 k2 k3 k4 (0 : Int64) (fun _ => (0 : Int32)) (fun _ => (0 : Int32)) (fun _ => (0 : Int32)) (fun _ => (0 : Int32)) (fun _ => (0 : Int32)) R0 R0 R0 R0 (fun _ => (0 : Int32)) (fun _ => (0 : Int32)) (fun _ => (0 : Int32)) (fun _ => (0 : Int32)) (fun _ => (0 : Int32)) (fun _ => (0 : Int32)) T2 M S2 (fun _ => (0 : Int32)) kp2 (fun _ => (0 : Int32)) (fun _ => (0 : Int32)) (fun _ => (0 : Int32)) hl hP hD hS hI
