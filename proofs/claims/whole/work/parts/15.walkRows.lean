abbrev w_X1_weigh (E : Ev) (p_this : Nat) (p_row : Nat) (p_best : Nat) (p_bakingTimes : Nat) (v_bestLength : Int32) (v_bestLastEnd : Int32) (v_limit : Int32) (f_row : Nat → Int32) (f_best : Nat → Int32) : va_W := [(p_this, .inr (1, [.ref p_row, .ref p_best, .ref p_bakingTimes, .int v_bestLength, .int v_bestLastEnd, .int v_limit])), (p_row, .inl (E.2.1, 6, .inl f_row)), (p_best, .inl (E.2.1, 6, .inl f_best))]
set_option maxHeartbeats 4000000 in
set_option maxRecDepth 100000 in
theorem b_X1_weigh_24 {p : Program} {l : Launch} {e : Env} {s : State} {m : MethodId} {args : Array Value} {below : List Frame} {meth : Method} {c : Code} {Q : State → Prop} {A : Nat → Prop} (E : Ev) (p_this : Nat) (p_row : Nat) (p_best : Nat) (p_bakingTimes : Nat) (v_limit : Int32) (f_row : Nat → Int32) (res : Int32 × Int32 × (Nat → Int32)) (X : Cx p s m args meth c cX1_weigh 3 RX1 none) (hK : KK E A s s.heap) (hA : ∀ q, s.heap.size ≤ q → A q) (hret : RetV p l e (RM 1) s m args below meth c Q E A cX1_weigh (w_X1_weigh E p_this p_row p_best p_bakingTimes res.1 res.2.1 v_limit f_row res.2.2))  (v_bestLength : Int32) (v_bestLastEnd : Int32) (f_best : Nat → Int32) (x1 : Int32) (x2 : Int32) (hf : f_X1_weigh_24 f_row   v_bestLength v_bestLastEnd f_best x1 x2 = some res) : ∀ (H : Heap) (locs : List Loc) (ls : Array Slot), lv_has ls 3 [(0, .ref p_this), (1, .int x1), (2, .int x2)] → va_P E.1 classes (w_X1_weigh E p_this p_row p_best p_bakingTimes v_bestLength v_bestLastEnd v_limit f_row f_best) H → va_D A (w_X1_weigh E p_this p_row p_best p_bakingTimes v_bestLength v_bestLastEnd v_limit f_row f_best) → va_S A s.heap H locs → W p l e (RM 1) s m args below meth c H locs 0 0 Q (F0 m 24 ls []) := by
  obtain ⟨hx, hb, hml, hown, hts, hrt, hlk⟩ := id X
  intro H locs ls hl hP hD hS
  unfold f_X1_weigh_24 at hf
  refine lv_aload_n hx hb dX1_weigh_24 rfl (lv_at hl 0 rfl) ?_
  refine lv_iload_n hx hb dX1_weigh_25 rfl (lv_at hl 1 rfl) ?_
  refine pf_RX1_21 X hK hP hD hS 0 rfl rfl dX1_weigh_26 (fun H locs hP hD hS => ?_)
  have hP : va_P E.1 classes (w_X1_weigh E p_this p_row p_best p_bakingTimes x1 v_bestLastEnd v_limit f_row f_best) H := hP
  have hD : va_D A (w_X1_weigh E p_this p_row p_best p_bakingTimes x1 v_bestLastEnd v_limit f_row f_best) := hD
  refine lv_aload_n hx hb dX1_weigh_29 rfl (lv_at hl 0 rfl) ?_
  refine lv_iload_n hx hb dX1_weigh_30 rfl (lv_at hl 2 rfl) ?_
  refine pf_RX1_31 X hK hP hD hS 0 rfl rfl dX1_weigh_31 (fun H locs hP hD hS => ?_)
  have hP : va_P E.1 classes (w_X1_weigh E p_this p_row p_best p_bakingTimes x1 x2 v_limit f_row f_best) H := hP
  have hD : va_D A (w_X1_weigh E p_this p_row p_best p_bakingTimes x1 x2 v_limit f_row f_best) := hD
  refine lv_aload_n hx hb dX1_weigh_34 rfl (lv_at hl 0 rfl) ?_
  refine gf_RX1_9 X hK hP 0 rfl rfl dX1_weigh_35 ?_
  refine lv_iconst (v := (0 : Int32)) hx hb dX1_weigh_38 (by decide) ?_
  refine lv_aload_n hx hb dX1_weigh_39 rfl (lv_at hl 0 rfl) ?_
  refine gf_RX1_15 X hK hP 0 rfl rfl dX1_weigh_40 ?_
  refine lv_iconst (v := (0 : Int32)) hx hb dX1_weigh_43 (by decide) ?_
  refine lv_iload_n hx hb dX1_weigh_44 rfl (lv_at hl 1 rfl) ?_
  obtain ⟨g_1, hf⟩ := og hf
  refine va_copyi hx hb (hml.trans hl.1.symm) hown (hts _ q487) (hts _ q400) (hts _ q399) (hts _ q56) hK.1 hP hD hS 1 2 0 0 rfl rfl rfl rfl rfl g_1.1 g_1.2.1 g_1.2.2.1 g_1.2.2.2.1 g_1.2.2.2.2 (fun _ _ => rfl) (Nat.le_of_ble_eq_true rfl) (Nat.le_of_ble_eq_true rfl) dX1_weigh_45 (fun H locs hP hD hS => ?_)
  have hP : va_P E.1 classes (w_X1_weigh E p_this p_row p_best p_bakingTimes x1 x2 v_limit f_row (va_cpy f_row f_best (0 : Int32).toNatClampNeg (0 : Int32).toNatClampNeg x1.toNatClampNeg)) H := hP
  have hD : va_D A (w_X1_weigh E p_this p_row p_best p_bakingTimes x1 x2 v_limit f_row (va_cpy f_row f_best (0 : Int32).toNatClampNeg (0 : Int32).toNatClampNeg x1.toNatClampNeg)) := hD
  obtain rfl := Option.some.inj hf
  exact hret H locs _ ls hP hS dX1_weigh_48

set_option maxHeartbeats 4000000 in
set_option maxRecDepth 100000 in
theorem m_X1_weigh {l : Launch} (E : Ev) (p_this : Nat) (p_row : Nat) (p_best : Nat) (p_bakingTimes : Nat) (v_bestLength : Int32) (v_bestLastEnd : Int32) (v_limit : Int32) (f_row : Nat → Int32) (f_best : Nat → Int32) (x1 : Int32) (x2 : Int32) (res : Int32 × Int32 × (Nat → Int32)) (hf : f_X1_weigh  f_row v_bestLength v_bestLastEnd f_best x1 x2 = some res) : MutV l E 1 yX1_weigh cX1_weigh 3 [.ref p_this, .int x1, .int x2] (w_X1_weigh E p_this p_row p_best p_bakingTimes v_bestLength v_bestLastEnd v_limit f_row f_best) (w_X1_weigh E p_this p_row p_best p_bakingTimes res.1 res.2.1 v_limit f_row res.2.2) := by
  refine MutV.of (by decide) (Nat.le_of_ble_eq_true rfl) ?_
  intro p e s m args below meth c Q A X hK hA hret H locs ls hl hP hD hS
  obtain ⟨hx, hb, hml, hown, hts, hrt, hlk⟩ := id X
  have hl : lv_has ls 3 [(0, .ref p_this), (1, .int x1), (2, .int x2)] := hl
  unfold f_X1_weigh at hf
  refine lv_iload_n hx hb dX1_weigh_0 rfl (lv_at hl 1 rfl) ?_
  refine lv_aload_n hx hb dX1_weigh_1 rfl (lv_at hl 0 rfl) ?_
  refine gf_RX1_21 X hK hP 0 rfl rfl dX1_weigh_2 ?_
  refine lv_icmp_gt (tgt := 24) hx hb dX1_weigh_5 (by decide) (fun c_1 => ?_) (fun c_1 => ?_)
  · replace hf := ot c_1 hf
    exact b_X1_weigh_24 E p_this p_row p_best p_bakingTimes v_limit f_row res X hK hA hret   v_bestLength v_bestLastEnd f_best x1 x2 hf H locs ls (lv_sub hl [0, 1, 2] rfl) hP hD hS
  · replace hf := of c_1 hf
    refine lv_iload_n hx hb dX1_weigh_8 rfl (lv_at hl 1 rfl) ?_
    refine lv_aload_n hx hb dX1_weigh_9 rfl (lv_at hl 0 rfl) ?_
    refine gf_RX1_21 X hK hP 0 rfl rfl dX1_weigh_10 ?_
    refine lv_icmp_ne (tgt := 48) hx hb dX1_weigh_13 (by decide) (fun c_2 => ?_) (fun c_2 => ?_)
    · replace hf := of c_2 hf
      obtain rfl := Option.some.inj hf
      exact hret H locs _ ls hP hS dX1_weigh_48
    · replace hf := ot c_2 hf
      refine lv_iload_n hx hb dX1_weigh_16 rfl (lv_at hl 2 rfl) ?_
      refine lv_aload_n hx hb dX1_weigh_17 rfl (lv_at hl 0 rfl) ?_
      refine gf_RX1_31 X hK hP 0 rfl rfl dX1_weigh_18 ?_
      refine lv_icmp_ge (tgt := 48) hx hb dX1_weigh_21 (by decide) (fun c_3 => ?_) (fun c_3 => ?_)
      · replace hf := ot c_3 hf
        obtain rfl := Option.some.inj hf
        exact hret H locs _ ls hP hS dX1_weigh_48
      · replace hf := of c_3 hf
        exact b_X1_weigh_24 E p_this p_row p_best p_bakingTimes v_limit f_row res X hK hA hret   v_bestLength v_bestLastEnd f_best x1 x2 hf H locs ls (lv_sub hl [0, 1, 2] rfl) hP hD hS

abbrev w_X1_extend (E : Ev) (p_this : Nat) (p_row : Nat) (p_best : Nat) (p_bakingTimes : Nat) (p_a1 : Nat) (p_a1_ovenNumbers : Nat) (p_a1_doughNumbers : Nat) (v_bestLength : Int32) (v_bestLastEnd : Int32) (v_limit : Int32) (v_a1_ovenCount : Int32) (v_a1_doughCount : Int32) (f_row : Nat → Int32) (f_best : Nat → Int32) (f_a1_doughNumbers : Nat → Int32) (f_bakingTimes : Nat → Int32) : va_W := [(p_this, .inr (1, [.ref p_row, .ref p_best, .ref p_bakingTimes, .int v_bestLength, .int v_bestLastEnd, .int v_limit])), (p_row, .inl (E.2.1, 6, .inl f_row)), (p_best, .inl (E.2.1, 6, .inl f_best)), (p_a1, .inr (3, [.ref p_a1_ovenNumbers, .ref p_a1_doughNumbers, .int v_a1_ovenCount, .int v_a1_doughCount])), (p_a1_doughNumbers, .inl (E.2.1, 30, .inl f_a1_doughNumbers)), (p_bakingTimes, .inl (E.2.1, 6, .inl f_bakingTimes))]
set_option maxHeartbeats 4000000 in
set_option maxRecDepth 100000 in
theorem b_X1_extend_17 {p : Program} {l : Launch} {e : Env} {s : State} {m : MethodId} {args : Array Value} {below : List Frame} {meth : Method} {c : Code} {Q : State → Prop} {A : Nat → Prop} (E : Ev) (d : Nat) (p_this : Nat) (p_row : Nat) (p_best : Nat) (p_bakingTimes : Nat) (p_a1 : Nat) (p_a1_ovenNumbers : Nat) (p_a1_doughNumbers : Nat) (v_limit : Int32) (v_a1_ovenCount : Int32) (v_a1_doughCount : Int32) (f_a1_doughNumbers : Nat → Int32) (f_bakingTimes : Nat → Int32) (res : Int32 × Int32 × (Nat → Int32) × (Nat → Int32)) (X : Cx p s m args meth c cX1_extend 8 RX1 none) (hK : KK E A s s.heap) (hA : ∀ q, s.heap.size ≤ q → A q) (hret : RetV p l e (RM (d + 3)) s m args below meth c Q E A cX1_extend (w_X1_extend E p_this p_row p_best p_bakingTimes p_a1 p_a1_ovenNumbers p_a1_doughNumbers res.1 res.2.1 v_limit v_a1_ovenCount v_a1_doughCount res.2.2.1 res.2.2.2 f_a1_doughNumbers f_bakingTimes)) (Rec : Int32 → Int32 → (Nat → Int32) → (Nat → Int32) → Int32 → Int32 → (Nat → Int32) → (Nat → Int32) → Int32 → Int32 → Int32 → Option (Int32 × Int32 × (Nat → Int32) × (Nat → Int32))) (hRec : ∀ (v_bestLength : Int32) (v_bestLastEnd : Int32) (f_row : Nat → Int32) (f_best : Nat → Int32) (i2 : Int32) (i3 : Int32) (i4 : Int32) (rr : Int32 × Int32 × (Nat → Int32) × (Nat → Int32)), Rec v_limit v_a1_doughCount f_a1_doughNumbers f_bakingTimes v_bestLength v_bestLastEnd f_row f_best i2 i3 i4 = some rr → MutV l E (d + 2) yX1_extend cX1_extend 8 [.ref p_this, .ref p_a1, .int i2, .int i3, .int i4] (w_X1_extend E p_this p_row p_best p_bakingTimes p_a1 p_a1_ovenNumbers p_a1_doughNumbers v_bestLength v_bestLastEnd v_limit v_a1_ovenCount v_a1_doughCount f_row f_best f_a1_doughNumbers f_bakingTimes) (w_X1_extend E p_this p_row p_best p_bakingTimes p_a1 p_a1_ovenNumbers p_a1_doughNumbers rr.1 rr.2.1 v_limit v_a1_ovenCount v_a1_doughCount rr.2.2.1 rr.2.2.2 f_a1_doughNumbers f_bakingTimes))  : ∀ (n : Nat) (v_bestLength : Int32) (v_bestLastEnd : Int32) (f_row : Nat → Int32) (f_best : Nat → Int32) (x2 : Int32) (x3 : Int32) (x4 : Int32) (x5 : Int32), f_X1_extend_17 v_limit v_a1_doughCount f_a1_doughNumbers f_bakingTimes Rec  n v_bestLength v_bestLastEnd f_row f_best x2 x3 x4 x5 = some res → ∀ (H : Heap) (locs : List Loc) (ls : Array Slot), lv_has ls 8 [(0, .ref p_this), (1, .ref p_a1), (2, .int x2), (3, .int x3), (4, .int x4), (5, .int x5)] → va_P E.1 classes (w_X1_extend E p_this p_row p_best p_bakingTimes p_a1 p_a1_ovenNumbers p_a1_doughNumbers v_bestLength v_bestLastEnd v_limit v_a1_ovenCount v_a1_doughCount f_row f_best f_a1_doughNumbers f_bakingTimes) H → va_D A (w_X1_extend E p_this p_row p_best p_bakingTimes p_a1 p_a1_ovenNumbers p_a1_doughNumbers v_bestLength v_bestLastEnd v_limit v_a1_ovenCount v_a1_doughCount f_row f_best f_a1_doughNumbers f_bakingTimes) → va_S A s.heap H locs → W p l e (RM (d + 3)) s m args below meth c H locs 0 0 Q (F0 m 17 ls []) := by
  obtain ⟨hx, hb, hml, hown, hts, hrt, hlk⟩ := id X
  intro n
  induction n with
  | zero => intro v_bestLength v_bestLastEnd f_row f_best x2 x3 x4 x5 hf; exact absurd hf (by simp [f_X1_extend_17])
  | succ n ih =>
    intro v_bestLength v_bestLastEnd f_row f_best x2 x3 x4 x5 hf H locs ls hl hP hD hS
    unfold f_X1_extend_17 at hf
    refine lv_iload hx hb dX1_extend_17 (lv_at hl 5 rfl) ?_
    refine lv_bipush (v := (6 : Int32)) hx hb dX1_extend_19 (by decide) ?_
    refine lv_icmp_ge (tgt := 112) hx hb dX1_extend_21 (by decide) (fun c_1 => ?_) (fun c_1 => ?_)
    · replace hf := ot c_1 hf
      obtain rfl := Option.some.inj hf
      exact hret H locs _ ls hP hS dX1_extend_112
    · replace hf := of c_1 hf
      refine lv_iload_n hx hb dX1_extend_24 rfl (lv_at hl 2 rfl) ?_
      refine lv_iconst (v := (1 : Int32)) hx hb dX1_extend_25 (by decide) ?_
      refine lv_iload hx hb dX1_extend_26 (lv_at hl 5 rfl) ?_
      refine lv_ishl hx hb dX1_extend_28 ?_
      refine lv_iand hx hb dX1_extend_29 ?_
      refine lv_if_eq (tgt := 106) hx hb dX1_extend_30 (by decide) (fun c_2 => ?_) (fun c_2 => ?_)
      · replace hf := ot c_2 hf
        refine lv_iinc (v := (x5 + (1 : Int32))) (lv' := [(5, .int (x5 + (1 : Int32))), (0, .ref p_this), (1, .ref p_a1), (2, .int x2), (3, .int x3), (4, .int x4)]) hx hb dX1_extend_106 hl (k := 5) rfl rfl (by decide) rfl (fun ls hl => ?_)
        refine lv_goto (tgt := 17) hx hb dX1_extend_109 (by decide) ?_
        exact ih v_bestLength v_bestLastEnd f_row f_best x2 x3 x4 (x5 + (1 : Int32)) hf H locs ls (lv_sub hl [1, 2, 3, 4, 5, 0] rfl) hP hD hS
      · replace hf := of c_2 hf
        refine lv_iload hx hb dX1_extend_33 (lv_at hl 4 rfl) ?_
        refine lv_aload_n hx hb dX1_extend_35 rfl (lv_at hl 1 rfl) ?_
        refine lv_iload hx hb dX1_extend_36 (lv_at hl 5 rfl) ?_
        refine lv_iconst (v := (3 : Int32)) hx hb dX1_extend_38 (by decide) ?_
        obtain ⟨u_3, hu_3, hf⟩ := ob hf
        refine pV X hK hA hP hS hl.1 (m_X3_ofDough (l := l) E p_a1 p_a1_ovenNumbers p_a1_doughNumbers v_a1_ovenCount v_a1_doughCount f_a1_doughNumbers x5 (3 : Int32) u_3 hu_3) kRX1_46 [3, 4] rfl rfl rfl rfl ⟨⟨(by show _ ≤ _; simp only [RM, List.map_nil, List.sum_nil]; omega), (by show _ ≤ _; simp only [RM, List.map_nil, List.sum_nil]; omega)⟩, Nat.zero_le _, Nat.zero_le _⟩ rfl rfl (Nat.le_of_ble_eq_true rfl) dX1_extend_39 (fun H locs hP hS => ?_)
        refine va_mmax hx hb (hml.trans hl.1.symm) hown (hts _ q488) (hts _ q489) (hts _ q54) (hts _ q490) (by show _ ≤ _; simp only [RM, List.map_nil, List.sum_nil]; omega) (by show _ ≤ _; simp only [RM, List.map_nil, List.sum_nil]; omega) (Nat.zero_le _) (Nat.zero_le _) dX1_extend_42 ?_
        refine lv_istore (lv' := [(6, .int (if x4 < u_3 then u_3 else x4)), (0, .ref p_this), (1, .ref p_a1), (2, .int x2), (3, .int x3), (4, .int x4), (5, .int x5)]) hx hb dX1_extend_45 hl (by decide) rfl (fun ls hl => ?_)
        refine lv_iload hx hb dX1_extend_47 (lv_at hl 0 rfl) ?_
        refine lv_aload_n hx hb dX1_extend_49 rfl (lv_at hl 1 rfl) ?_
        refine gf_RX1_18 X hK hP 0 rfl rfl dX1_extend_50 ?_
        refine lv_iload hx hb dX1_extend_53 (lv_at hl 6 rfl) ?_
        obtain ⟨g_4, hf⟩ := og hf
        refine iald X hK hP 5 rfl _ rfl g_4 dX1_extend_55 ?_
        refine lv_iadd hx hb dX1_extend_56 ?_
        refine lv_istore (lv' := [(7, .int ((if x4 < u_3 then u_3 else x4) + (f_bakingTimes x5.toNatClampNeg))), (6, .int (if x4 < u_3 then u_3 else x4)), (0, .ref p_this), (1, .ref p_a1), (2, .int x2), (3, .int x3), (4, .int x4), (5, .int x5)]) hx hb dX1_extend_57 hl (by decide) rfl (fun ls hl => ?_)
        refine lv_iload hx hb dX1_extend_59 (lv_at hl 1 rfl) ?_
        refine lv_aload_n hx hb dX1_extend_61 rfl (lv_at hl 3 rfl) ?_
        refine lv_iload hx hb dX1_extend_62 (lv_at hl 7 rfl) ?_
        refine lv_iconst (v := (4 : Int32)) hx hb dX1_extend_64 (by decide) ?_
        obtain ⟨u_5, hu_5, hf⟩ := ob hf
        refine pV X hK hA hP hS hl.1 (m_X3_ofDough (l := l) E p_a1 p_a1_ovenNumbers p_a1_doughNumbers v_a1_ovenCount v_a1_doughCount f_a1_doughNumbers x5 (4 : Int32) u_5 hu_5) kRX1_46 [3, 4] rfl rfl rfl rfl ⟨⟨(by show _ ≤ _; simp only [RM, List.map_nil, List.sum_nil]; omega), (by show _ ≤ _; simp only [RM, List.map_nil, List.sum_nil]; omega)⟩, Nat.zero_le _, Nat.zero_le _⟩ rfl rfl (Nat.le_of_ble_eq_true rfl) dX1_extend_65 (fun H locs hP hS => ?_)
        refine lv_icmp_gt (tgt := 106) hx hb dX1_extend_68 (by decide) (fun c_6 => ?_) (fun c_6 => ?_)
        · replace hf := ot c_6 hf
          refine lv_iinc (v := (x5 + (1 : Int32))) (lv' := [(5, .int (x5 + (1 : Int32))), (7, .int ((if x4 < u_3 then u_3 else x4) + (f_bakingTimes x5.toNatClampNeg))), (6, .int (if x4 < u_3 then u_3 else x4)), (0, .ref p_this), (1, .ref p_a1), (2, .int x2), (3, .int x3), (4, .int x4)]) hx hb dX1_extend_106 hl (k := 7) rfl rfl (by decide) rfl (fun ls hl => ?_)
          refine lv_goto (tgt := 17) hx hb dX1_extend_109 (by decide) ?_
          exact ih v_bestLength v_bestLastEnd f_row f_best x2 x3 x4 (x5 + (1 : Int32)) hf H locs ls (lv_sub hl [3, 4, 5, 6, 7, 0] rfl) hP hD hS
        · replace hf := of c_6 hf
          refine lv_iload hx hb dX1_extend_71 (lv_at hl 0 rfl) ?_
          refine lv_aload_n hx hb dX1_extend_73 rfl (lv_at hl 2 rfl) ?_
          refine gf_RX1_34 X hK hP 0 rfl rfl dX1_extend_74 ?_
          refine lv_icmp_gt (tgt := 106) hx hb dX1_extend_77 (by decide) (fun c_7 => ?_) (fun c_7 => ?_)
          · replace hf := ot c_7 hf
            refine lv_iinc (v := (x5 + (1 : Int32))) (lv' := [(5, .int (x5 + (1 : Int32))), (7, .int ((if x4 < u_3 then u_3 else x4) + (f_bakingTimes x5.toNatClampNeg))), (6, .int (if x4 < u_3 then u_3 else x4)), (0, .ref p_this), (1, .ref p_a1), (2, .int x2), (3, .int x3), (4, .int x4)]) hx hb dX1_extend_106 hl (k := 7) rfl rfl (by decide) rfl (fun ls hl => ?_)
            refine lv_goto (tgt := 17) hx hb dX1_extend_109 (by decide) ?_
            exact ih v_bestLength v_bestLastEnd f_row f_best x2 x3 x4 (x5 + (1 : Int32)) hf H locs ls (lv_sub hl [3, 4, 5, 6, 7, 0] rfl) hP hD hS
          · replace hf := of c_7 hf
            refine lv_aload_n hx hb dX1_extend_80 rfl (lv_at hl 2 rfl) ?_
            refine gf_RX1_9 X hK hP 0 rfl rfl dX1_extend_81 ?_
            refine lv_iload_n hx hb dX1_extend_84 rfl (lv_at hl 5 rfl) ?_
            refine lv_iload hx hb dX1_extend_85 (lv_at hl 7 rfl) ?_
            obtain ⟨g_8, hf⟩ := og hf
            refine iast X hK hP hD hS 1 rfl _ rfl g_8 dX1_extend_87 (fun H locs hP hD hS => ?_)
            have hP : va_P E.1 classes (w_X1_extend E p_this p_row p_best p_bakingTimes p_a1 p_a1_ovenNumbers p_a1_doughNumbers v_bestLength v_bestLastEnd v_limit v_a1_ovenCount v_a1_doughCount (upd f_row x3.toNatClampNeg x5) f_best f_a1_doughNumbers f_bakingTimes) H := hP
            have hD : va_D A (w_X1_extend E p_this p_row p_best p_bakingTimes p_a1 p_a1_ovenNumbers p_a1_doughNumbers v_bestLength v_bestLastEnd v_limit v_a1_ovenCount v_a1_doughCount (upd f_row x3.toNatClampNeg x5) f_best f_a1_doughNumbers f_bakingTimes) := hD
            refine lv_aload_n hx hb dX1_extend_88 rfl (lv_at hl 2 rfl) ?_
            refine lv_aload_n hx hb dX1_extend_89 rfl (lv_at hl 3 rfl) ?_
            refine lv_iload_n hx hb dX1_extend_90 rfl (lv_at hl 4 rfl) ?_
            refine lv_iconst (v := (1 : Int32)) hx hb dX1_extend_91 (by decide) ?_
            refine lv_iload hx hb dX1_extend_92 (lv_at hl 7 rfl) ?_
            refine lv_ishl hx hb dX1_extend_94 ?_
            refine lv_iconst (v := (-1 : Int32)) hx hb dX1_extend_95 (by decide) ?_
            refine lv_ixor hx hb dX1_extend_96 ?_
            refine lv_iand hx hb dX1_extend_97 ?_
            refine lv_iload_n hx hb dX1_extend_98 rfl (lv_at hl 5 rfl) ?_
            refine lv_iconst (v := (1 : Int32)) hx hb dX1_extend_99 (by decide) ?_
            refine lv_iadd hx hb dX1_extend_100 ?_
            refine lv_iload hx hb dX1_extend_101 (lv_at hl 0 rfl) ?_
            obtain ⟨u_9, hu_9, hf⟩ := ob hf
            refine mVv X hK hA hP hD hS hl.1 (hRec v_bestLength v_bestLastEnd (upd f_row x3.toNatClampNeg x5) f_best (x2 &&& (((1 : Int32) <<< (x5 &&& 31)) ^^^ (-1 : Int32))) (x3 + (1 : Int32)) ((if x4 < u_3 then u_3 else x4) + (f_bakingTimes x5.toNatClampNeg)) u_9 hu_9) kRX1_56 [0, 1, 2, 3, 4, 5] rfl rfl (by simp only [w_X1_extend, List.map]) rfl rfl rfl ⟨⟨(by show _ ≤ _; simp only [RM, List.map_nil, List.sum_nil]; omega), (by show _ ≤ _; simp only [RM, List.map_nil, List.sum_nil]; omega)⟩, Nat.zero_le _, Nat.zero_le _⟩ rfl rfl (Nat.le_of_ble_eq_true rfl) dX1_extend_103 (fun H locs hP hD hS => ?_)
            have hP : va_P E.1 classes (w_X1_extend E p_this p_row p_best p_bakingTimes p_a1 p_a1_ovenNumbers p_a1_doughNumbers u_9.1 u_9.2.1 v_limit v_a1_ovenCount v_a1_doughCount u_9.2.2.1 u_9.2.2.2 f_a1_doughNumbers f_bakingTimes) H := hP
            have hD : va_D A (w_X1_extend E p_this p_row p_best p_bakingTimes p_a1 p_a1_ovenNumbers p_a1_doughNumbers u_9.1 u_9.2.1 v_limit v_a1_ovenCount v_a1_doughCount u_9.2.2.1 u_9.2.2.2 f_a1_doughNumbers f_bakingTimes) := hD
            refine lv_iinc (v := (x5 + (1 : Int32))) (lv' := [(5, .int (x5 + (1 : Int32))), (7, .int ((if x4 < u_3 then u_3 else x4) + (f_bakingTimes x5.toNatClampNeg))), (6, .int (if x4 < u_3 then u_3 else x4)), (0, .ref p_this), (1, .ref p_a1), (2, .int x2), (3, .int x3), (4, .int x4)]) hx hb dX1_extend_106 hl (k := 7) rfl rfl (by decide) rfl (fun ls hl => ?_)
            refine lv_goto (tgt := 17) hx hb dX1_extend_109 (by decide) ?_
            exact ih u_9.1 u_9.2.1 u_9.2.2.1 u_9.2.2.2 x2 x3 x4 (x5 + (1 : Int32)) hf H locs ls (lv_sub hl [3, 4, 5, 6, 7, 0] rfl) hP hD hS

set_option maxHeartbeats 4000000 in
set_option maxRecDepth 100000 in
theorem m_X1_extend_0 {l : Launch} (d : Nat) (E : Ev) (p_this : Nat) (p_row : Nat) (p_best : Nat) (p_bakingTimes : Nat) (p_a1 : Nat) (p_a1_ovenNumbers : Nat) (p_a1_doughNumbers : Nat) (v_bestLength : Int32) (v_bestLastEnd : Int32) (v_limit : Int32) (v_a1_ovenCount : Int32) (v_a1_doughCount : Int32) (f_row : Nat → Int32) (f_best : Nat → Int32) (f_a1_doughNumbers : Nat → Int32) (f_bakingTimes : Nat → Int32) (x2 : Int32) (x3 : Int32) (x4 : Int32) (res : Int32 × Int32 × (Nat → Int32) × (Nat → Int32)) (Rec : Int32 → Int32 → (Nat → Int32) → (Nat → Int32) → Int32 → Int32 → (Nat → Int32) → (Nat → Int32) → Int32 → Int32 → Int32 → Option (Int32 × Int32 × (Nat → Int32) × (Nat → Int32))) (hRec : ∀ (v_bestLength : Int32) (v_bestLastEnd : Int32) (f_row : Nat → Int32) (f_best : Nat → Int32) (i2 : Int32) (i3 : Int32) (i4 : Int32) (rr : Int32 × Int32 × (Nat → Int32) × (Nat → Int32)), Rec v_limit v_a1_doughCount f_a1_doughNumbers f_bakingTimes v_bestLength v_bestLastEnd f_row f_best i2 i3 i4 = some rr → MutV l E (d + 2) yX1_extend cX1_extend 8 [.ref p_this, .ref p_a1, .int i2, .int i3, .int i4] (w_X1_extend E p_this p_row p_best p_bakingTimes p_a1 p_a1_ovenNumbers p_a1_doughNumbers v_bestLength v_bestLastEnd v_limit v_a1_ovenCount v_a1_doughCount f_row f_best f_a1_doughNumbers f_bakingTimes) (w_X1_extend E p_this p_row p_best p_bakingTimes p_a1 p_a1_ovenNumbers p_a1_doughNumbers rr.1 rr.2.1 v_limit v_a1_ovenCount v_a1_doughCount rr.2.2.1 rr.2.2.2 f_a1_doughNumbers f_bakingTimes)) (hf : f_X1_extend_0 v_limit v_a1_doughCount f_a1_doughNumbers f_bakingTimes v_bestLength v_bestLastEnd f_row f_best Rec x2 x3 x4 = some res) : MutV l E (d + 3) yX1_extend cX1_extend 8 [.ref p_this, .ref p_a1, .int x2, .int x3, .int x4] (w_X1_extend E p_this p_row p_best p_bakingTimes p_a1 p_a1_ovenNumbers p_a1_doughNumbers v_bestLength v_bestLastEnd v_limit v_a1_ovenCount v_a1_doughCount f_row f_best f_a1_doughNumbers f_bakingTimes) (w_X1_extend E p_this p_row p_best p_bakingTimes p_a1 p_a1_ovenNumbers p_a1_doughNumbers res.1 res.2.1 v_limit v_a1_ovenCount v_a1_doughCount res.2.2.1 res.2.2.2 f_a1_doughNumbers f_bakingTimes) := by
  refine MutV.of (by decide) (Nat.le_of_ble_eq_true rfl) ?_
  intro p e s m args below meth c Q A X hK hA hret H locs ls hl hP hD hS
  obtain ⟨hx, hb, hml, hown, hts, hrt, hlk⟩ := id X
  have hl : lv_has ls 8 [(0, .ref p_this), (1, .ref p_a1), (2, .int x2), (3, .int x3), (4, .int x4)] := hl
  unfold f_X1_extend_0 at hf
  refine lv_aload_n hx hb dX1_extend_0 rfl (lv_at hl 0 rfl) ?_
  refine lv_iload_n hx hb dX1_extend_1 rfl (lv_at hl 3 rfl) ?_
  refine lv_iload hx hb dX1_extend_2 (lv_at hl 4 rfl) ?_
  obtain ⟨u_1, hu_1, hf⟩ := ob hf
  refine mVv X hK hA hP hD hS hl.1 (m_X1_weigh (l := l) E p_this p_row p_best p_bakingTimes v_bestLength v_bestLastEnd v_limit f_row f_best x3 x4 u_1 hu_1) kRX1_60 [0, 1, 2] rfl rfl (by simp only [w_X1_weigh, List.map]) rfl rfl rfl ⟨⟨(by show _ ≤ _; simp only [RM, List.map_nil, List.sum_nil]; omega), (by show _ ≤ _; simp only [RM, List.map_nil, List.sum_nil]; omega)⟩, Nat.zero_le _, Nat.zero_le _⟩ rfl rfl (Nat.le_of_ble_eq_true rfl) dX1_extend_4 (fun H locs hP hD hS => ?_)
  have hP : va_P E.1 classes (w_X1_extend E p_this p_row p_best p_bakingTimes p_a1 p_a1_ovenNumbers p_a1_doughNumbers u_1.1 u_1.2.1 v_limit v_a1_ovenCount v_a1_doughCount f_row u_1.2.2 f_a1_doughNumbers f_bakingTimes) H := hP
  have hD : va_D A (w_X1_extend E p_this p_row p_best p_bakingTimes p_a1 p_a1_ovenNumbers p_a1_doughNumbers u_1.1 u_1.2.1 v_limit v_a1_ovenCount v_a1_doughCount f_row u_1.2.2 f_a1_doughNumbers f_bakingTimes) := hD
  refine lv_iload_n hx hb dX1_extend_7 rfl (lv_at hl 3 rfl) ?_
  refine lv_bipush (v := (6 : Int32)) hx hb dX1_extend_8 (by decide) ?_
  refine lv_icmp_lt (tgt := 14) hx hb dX1_extend_10 (by decide) (fun c_2 => ?_) (fun c_2 => ?_)
  · replace hf := ot c_2 hf
    refine lv_iconst (v := (0 : Int32)) hx hb dX1_extend_14 (by decide) ?_
    refine lv_istore (lv' := [(5, .int (0 : Int32)), (0, .ref p_this), (1, .ref p_a1), (2, .int x2), (3, .int x3), (4, .int x4)]) hx hb dX1_extend_15 hl (by decide) rfl (fun ls hl => ?_)
    exact b_X1_extend_17 E d p_this p_row p_best p_bakingTimes p_a1 p_a1_ovenNumbers p_a1_doughNumbers v_limit v_a1_ovenCount v_a1_doughCount f_a1_doughNumbers f_bakingTimes res X hK hA hret Rec hRec  FU u_1.1 u_1.2.1 f_row u_1.2.2 x2 x3 x4 (0 : Int32) hf H locs ls (lv_sub hl [1, 2, 3, 4, 5, 0] rfl) hP hD hS
  · replace hf := of c_2 hf
    obtain rfl := Option.some.inj hf
    exact hret H locs _ ls hP hS dX1_extend_13

theorem m_X1_extend {l : Launch} (E : Ev) (p_this : Nat) (p_row : Nat) (p_best : Nat) (p_bakingTimes : Nat) (p_a1 : Nat) (p_a1_ovenNumbers : Nat) (p_a1_doughNumbers : Nat) (v_limit : Int32) (v_a1_ovenCount : Int32) (v_a1_doughCount : Int32) (f_a1_doughNumbers : Nat → Int32) (f_bakingTimes : Nat → Int32) : ∀ (d : Nat) (v_bestLength : Int32) (v_bestLastEnd : Int32) (f_row : Nat → Int32) (f_best : Nat → Int32) (x2 : Int32) (x3 : Int32) (x4 : Int32) (res : Int32 × Int32 × (Nat → Int32) × (Nat → Int32)), f_X1_extend d  v_limit v_a1_doughCount f_a1_doughNumbers f_bakingTimes v_bestLength v_bestLastEnd f_row f_best x2 x3 x4 = some res → MutV l E (d + 2) yX1_extend cX1_extend 8 [.ref p_this, .ref p_a1, .int x2, .int x3, .int x4] (w_X1_extend E p_this p_row p_best p_bakingTimes p_a1 p_a1_ovenNumbers p_a1_doughNumbers v_bestLength v_bestLastEnd v_limit v_a1_ovenCount v_a1_doughCount f_row f_best f_a1_doughNumbers f_bakingTimes) (w_X1_extend E p_this p_row p_best p_bakingTimes p_a1 p_a1_ovenNumbers p_a1_doughNumbers res.1 res.2.1 v_limit v_a1_ovenCount v_a1_doughCount res.2.2.1 res.2.2.2 f_a1_doughNumbers f_bakingTimes) := by
  intro d
  induction d with
  | zero => intro v_bestLength v_bestLastEnd f_row f_best x2 x3 x4 res hf; exact absurd hf (by simp [f_X1_extend])
  | succ d ih =>
    intro v_bestLength v_bestLastEnd f_row f_best x2 x3 x4 res hf
    have h := m_X1_extend_0 (l := l) (d := d) E p_this p_row p_best p_bakingTimes p_a1 p_a1_ovenNumbers p_a1_doughNumbers v_bestLength v_bestLastEnd v_limit v_a1_ovenCount v_a1_doughCount f_row f_best f_a1_doughNumbers f_bakingTimes x2 x3 x4 res (f_X1_extend d) (fun v_bestLength v_bestLastEnd f_row f_best x2 x3 x4 rr h => ih v_bestLength v_bestLastEnd f_row f_best x2 x3 x4 rr h) hf
    exact h
abbrev w_X1_find (E : Ev) (p_this : Nat) (p_row : Nat) (p_best : Nat) (p_bakingTimes : Nat) (p_a2 : Nat) (p_a2_rows : Nat) (p_a1 : Nat) (p_a1_ovenNumbers : Nat) (p_a1_doughNumbers : Nat) (v_bestLength : Int32) (v_bestLastEnd : Int32) (v_limit : Int32) (v_a2_knownSteps : Int32) (v_a1_ovenCount : Int32) (v_a1_doughCount : Int32) (f_a2_rows : Nat → Int32) (f_a1_ovenNumbers : Nat → Int32) (f_a1_doughNumbers : Nat → Int32) (f_bakingTimes : Nat → Int32) (f_row : Nat → Int32) (f_best : Nat → Int32) : va_W := [(p_this, .inr (1, [.ref p_row, .ref p_best, .ref p_bakingTimes, .int v_bestLength, .int v_bestLastEnd, .int v_limit])), (p_a2, .inr (0, [.ref p_a2_rows, .int v_a2_knownSteps])), (p_a2_rows, .inl (E.2.1, 154, .inl f_a2_rows)), (p_a1, .inr (3, [.ref p_a1_ovenNumbers, .ref p_a1_doughNumbers, .int v_a1_ovenCount, .int v_a1_doughCount])), (p_a1_ovenNumbers, .inl (E.2.1, 10, .inl f_a1_ovenNumbers)), (p_a1_doughNumbers, .inl (E.2.1, 30, .inl f_a1_doughNumbers)), (p_bakingTimes, .inl (E.2.1, 6, .inl f_bakingTimes)), (p_row, .inl (E.2.1, 6, .inl f_row)), (p_best, .inl (E.2.1, 6, .inl f_best))]
set_option maxHeartbeats 4000000 in
set_option maxRecDepth 100000 in
theorem b_X1_find_83 {p : Program} {l : Launch} {e : Env} {s : State} {m : MethodId} {args : Array Value} {below : List Frame} {meth : Method} {c : Code} {Q : State → Prop} {A : Nat → Prop} (E : Ev) (p_this : Nat) (p_row : Nat) (p_best : Nat) (p_bakingTimes : Nat) (p_a2 : Nat) (p_a2_rows : Nat) (p_a1 : Nat) (p_a1_ovenNumbers : Nat) (p_a1_doughNumbers : Nat) (v_a2_knownSteps : Int32) (v_a1_ovenCount : Int32) (v_a1_doughCount : Int32) (f_a2_rows : Nat → Int32) (f_a1_ovenNumbers : Nat → Int32) (f_a1_doughNumbers : Nat → Int32) (res : Int32 × Int32 × Int32 × (Nat → Int32) × (Nat → Int32) × (Nat → Int32)) (X : Cx p s m args meth c cX1_find 7 RX1 none) (hK : KK E A s s.heap) (hA : ∀ q, s.heap.size ≤ q → A q) (hret : RetV p l e (RM 11) s m args below meth c Q E A cX1_find (w_X1_find E p_this p_row p_best p_bakingTimes p_a2 p_a2_rows p_a1 p_a1_ovenNumbers p_a1_doughNumbers res.1 res.2.1 res.2.2.1 v_a2_knownSteps v_a1_ovenCount v_a1_doughCount f_a2_rows f_a1_ovenNumbers f_a1_doughNumbers res.2.2.2.1 res.2.2.2.2.1 res.2.2.2.2.2))  (v_bestLength : Int32) (v_bestLastEnd : Int32) (v_limit : Int32) (f_bakingTimes : Nat → Int32) (f_row : Nat → Int32) (f_best : Nat → Int32) (hf : f_X1_find_83 v_a2_knownSteps v_a1_ovenCount v_a1_doughCount f_a2_rows f_a1_ovenNumbers f_a1_doughNumbers   v_bestLength v_bestLastEnd v_limit f_bakingTimes f_row f_best = some res) : ∀ (H : Heap) (locs : List Loc) (ls : Array Slot), lv_has ls 7 [(0, .ref p_this), (1, .ref p_a1), (2, .ref p_a2)] → va_P E.1 classes (w_X1_find E p_this p_row p_best p_bakingTimes p_a2 p_a2_rows p_a1 p_a1_ovenNumbers p_a1_doughNumbers v_bestLength v_bestLastEnd v_limit v_a2_knownSteps v_a1_ovenCount v_a1_doughCount f_a2_rows f_a1_ovenNumbers f_a1_doughNumbers f_bakingTimes f_row f_best) H → va_D A (w_X1_find E p_this p_row p_best p_bakingTimes p_a2 p_a2_rows p_a1 p_a1_ovenNumbers p_a1_doughNumbers v_bestLength v_bestLastEnd v_limit v_a2_knownSteps v_a1_ovenCount v_a1_doughCount f_a2_rows f_a1_ovenNumbers f_a1_doughNumbers f_bakingTimes f_row f_best) → va_S A s.heap H locs → W p l e (RM 11) s m args below meth c H locs 0 0 Q (F0 m 83 ls []) := by
  obtain ⟨hx, hb, hml, hown, hts, hrt, hlk⟩ := id X
  intro H locs ls hl hP hD hS
  unfold f_X1_find_83 at hf
  refine lv_aload_n hx hb dX1_find_83 rfl (lv_at hl 0 rfl) ?_
  refine lv_aload_n hx hb dX1_find_84 rfl (lv_at hl 1 rfl) ?_
  refine lv_aload_n hx hb dX1_find_85 rfl (lv_at hl 2 rfl) ?_
  refine lv_aload_n hx hb dX1_find_86 rfl (lv_at hl 1 rfl) ?_
  refine lv_bipush (v := (-9 : Int32)) hx hb dX1_find_87 (by decide) ?_
  obtain ⟨u_1, hu_1, hf⟩ := ob hf
  refine pV X hK hA hP hS hl.1 (m_X0_placedAt (l := l) E p_a2 p_a2_rows p_a1 p_a1_ovenNumbers p_a1_doughNumbers v_a2_knownSteps v_a1_ovenCount v_a1_doughCount f_a2_rows (-9 : Int32) u_1 hu_1) kRX1_52 [1, 3, 2] rfl rfl rfl rfl ⟨⟨(Nat.le_of_ble_eq_true rfl), (Nat.le_of_ble_eq_true rfl)⟩, Nat.zero_le _, Nat.zero_le _⟩ rfl rfl (Nat.le_of_ble_eq_true rfl) dX1_find_89 (fun H locs hP hS => ?_)
  refine lv_iconst (v := (0 : Int32)) hx hb dX1_find_92 (by decide) ?_
  refine lv_aload_n hx hb dX1_find_93 rfl (lv_at hl 2 rfl) ?_
  obtain ⟨u_2, hu_2, hf⟩ := ob hf
  refine pV X hK hA hP hS hl.1 (m_X0_minute (l := l) E p_a2 p_a2_rows v_a2_knownSteps f_a2_rows  u_2 hu_2) kRX1_25 [1, 2] rfl rfl rfl rfl ⟨⟨(Nat.le_of_ble_eq_true rfl), (Nat.le_of_ble_eq_true rfl)⟩, Nat.zero_le _, Nat.zero_le _⟩ rfl rfl (Nat.le_of_ble_eq_true rfl) dX1_find_94 (fun H locs hP hS => ?_)
  obtain ⟨u_3, hu_3, hf⟩ := ob hf
  refine mVv X hK hA hP hD hS hl.1 (m_X1_extend (l := l) E p_this p_row p_best p_bakingTimes p_a1 p_a1_ovenNumbers p_a1_doughNumbers v_limit v_a1_ovenCount v_a1_doughCount f_a1_doughNumbers f_bakingTimes 8 v_bestLength v_bestLastEnd f_row f_best u_1 (0 : Int32) u_2 u_3 hu_3) kRX1_56 [0, 7, 8, 3, 5, 6] rfl rfl (by simp only [w_X1_extend, List.map]) rfl rfl rfl ⟨⟨(Nat.le_of_ble_eq_true rfl), (Nat.le_of_ble_eq_true rfl)⟩, Nat.zero_le _, Nat.zero_le _⟩ rfl rfl (Nat.le_of_ble_eq_true rfl) dX1_find_97 (fun H locs hP hD hS => ?_)
  have hP : va_P E.1 classes (w_X1_find E p_this p_row p_best p_bakingTimes p_a2 p_a2_rows p_a1 p_a1_ovenNumbers p_a1_doughNumbers u_3.1 u_3.2.1 v_limit v_a2_knownSteps v_a1_ovenCount v_a1_doughCount f_a2_rows f_a1_ovenNumbers f_a1_doughNumbers f_bakingTimes u_3.2.2.1 u_3.2.2.2) H := hP
  have hD : va_D A (w_X1_find E p_this p_row p_best p_bakingTimes p_a2 p_a2_rows p_a1 p_a1_ovenNumbers p_a1_doughNumbers u_3.1 u_3.2.1 v_limit v_a2_knownSteps v_a1_ovenCount v_a1_doughCount f_a2_rows f_a1_ovenNumbers f_a1_doughNumbers f_bakingTimes u_3.2.2.1 u_3.2.2.2) := hD
  obtain rfl := Option.some.inj hf
  exact hret H locs _ ls hP hS dX1_find_100

set_option maxHeartbeats 4000000 in
set_option maxRecDepth 100000 in
theorem b_X1_find_42 {p : Program} {l : Launch} {e : Env} {s : State} {m : MethodId} {args : Array Value} {below : List Frame} {meth : Method} {c : Code} {Q : State → Prop} {A : Nat → Prop} (E : Ev) (p_this : Nat) (p_row : Nat) (p_best : Nat) (p_bakingTimes : Nat) (p_a2 : Nat) (p_a2_rows : Nat) (p_a1 : Nat) (p_a1_ovenNumbers : Nat) (p_a1_doughNumbers : Nat) (v_a2_knownSteps : Int32) (v_a1_ovenCount : Int32) (v_a1_doughCount : Int32) (f_a2_rows : Nat → Int32) (f_a1_ovenNumbers : Nat → Int32) (f_a1_doughNumbers : Nat → Int32) (res : Int32 × Int32 × Int32 × (Nat → Int32) × (Nat → Int32) × (Nat → Int32)) (X : Cx p s m args meth c cX1_find 7 RX1 none) (hK : KK E A s s.heap) (hA : ∀ q, s.heap.size ≤ q → A q) (hret : RetV p l e (RM 11) s m args below meth c Q E A cX1_find (w_X1_find E p_this p_row p_best p_bakingTimes p_a2 p_a2_rows p_a1 p_a1_ovenNumbers p_a1_doughNumbers res.1 res.2.1 res.2.2.1 v_a2_knownSteps v_a1_ovenCount v_a1_doughCount f_a2_rows f_a1_ovenNumbers f_a1_doughNumbers res.2.2.2.1 res.2.2.2.2.1 res.2.2.2.2.2))  : ∀ (n : Nat) (v_bestLength : Int32) (v_bestLastEnd : Int32) (v_limit : Int32) (f_bakingTimes : Nat → Int32) (f_row : Nat → Int32) (f_best : Nat → Int32) (x5 : Int32) (x6 : Int32), f_X1_find_42 v_a2_knownSteps v_a1_ovenCount v_a1_doughCount f_a2_rows f_a1_ovenNumbers f_a1_doughNumbers   n v_bestLength v_bestLastEnd v_limit f_bakingTimes f_row f_best x5 x6 = some res → ∀ (H : Heap) (locs : List Loc) (ls : Array Slot), lv_has ls 7 [(0, .ref p_this), (1, .ref p_a1), (2, .ref p_a2), (5, .int x5), (6, .int x6)] → va_P E.1 classes (w_X1_find E p_this p_row p_best p_bakingTimes p_a2 p_a2_rows p_a1 p_a1_ovenNumbers p_a1_doughNumbers v_bestLength v_bestLastEnd v_limit v_a2_knownSteps v_a1_ovenCount v_a1_doughCount f_a2_rows f_a1_ovenNumbers f_a1_doughNumbers f_bakingTimes f_row f_best) H → va_D A (w_X1_find E p_this p_row p_best p_bakingTimes p_a2 p_a2_rows p_a1 p_a1_ovenNumbers p_a1_doughNumbers v_bestLength v_bestLastEnd v_limit v_a2_knownSteps v_a1_ovenCount v_a1_doughCount f_a2_rows f_a1_ovenNumbers f_a1_doughNumbers f_bakingTimes f_row f_best) → va_S A s.heap H locs → W p l e (RM 11) s m args below meth c H locs 0 0 Q (F0 m 42 ls []) := by
  obtain ⟨hx, hb, hml, hown, hts, hrt, hlk⟩ := id X
  intro n
  induction n with
  | zero => intro v_bestLength v_bestLastEnd v_limit f_bakingTimes f_row f_best x5 x6 hf; exact absurd hf (by simp [f_X1_find_42])
  | succ n ih =>
    intro v_bestLength v_bestLastEnd v_limit f_bakingTimes f_row f_best x5 x6 hf H locs ls hl hP hD hS
    unfold f_X1_find_42 at hf
    refine lv_iload hx hb dX1_find_42 (lv_at hl 4 rfl) ?_
    refine lv_aload_n hx hb dX1_find_44 rfl (lv_at hl 1 rfl) ?_
    obtain ⟨u_1, hu_1, hf⟩ := ob hf
    refine pV X hK hA hP hS hl.1 (m_X3_doughs (l := l) E p_a1 p_a1_ovenNumbers p_a1_doughNumbers v_a1_ovenCount v_a1_doughCount  u_1 hu_1) kRX1_43 [3] rfl rfl rfl rfl ⟨⟨(Nat.le_of_ble_eq_true rfl), (Nat.le_of_ble_eq_true rfl)⟩, Nat.zero_le _, Nat.zero_le _⟩ rfl rfl (Nat.le_of_ble_eq_true rfl) dX1_find_45 (fun H locs hP hS => ?_)
    refine lv_icmp_ge (tgt := 83) hx hb dX1_find_48 (by decide) (fun c_2 => ?_) (fun c_2 => ?_)
    · replace hf := ot c_2 hf
      exact b_X1_find_83 E p_this p_row p_best p_bakingTimes p_a2 p_a2_rows p_a1 p_a1_ovenNumbers p_a1_doughNumbers v_a2_knownSteps v_a1_ovenCount v_a1_doughCount f_a2_rows f_a1_ovenNumbers f_a1_doughNumbers res X hK hA hret   v_bestLength v_bestLastEnd v_limit f_bakingTimes f_row f_best hf H locs ls (lv_sub hl [0, 1, 2] rfl) hP hD hS
    · replace hf := of c_2 hf
      refine lv_iload hx hb dX1_find_51 (lv_at hl 4 rfl) ?_
      refine lv_bipush (v := (6 : Int32)) hx hb dX1_find_53 (by decide) ?_
      refine lv_icmp_ge (tgt := 83) hx hb dX1_find_55 (by decide) (fun c_3 => ?_) (fun c_3 => ?_)
      · replace hf := ot c_3 hf
        exact b_X1_find_83 E p_this p_row p_best p_bakingTimes p_a2 p_a2_rows p_a1 p_a1_ovenNumbers p_a1_doughNumbers v_a2_knownSteps v_a1_ovenCount v_a1_doughCount f_a2_rows f_a1_ovenNumbers f_a1_doughNumbers res X hK hA hret   v_bestLength v_bestLastEnd v_limit f_bakingTimes f_row f_best hf H locs ls (lv_sub hl [0, 1, 2] rfl) hP hD hS
      · replace hf := of c_3 hf
        refine lv_aload_n hx hb dX1_find_58 rfl (lv_at hl 0 rfl) ?_
        refine gf_RX1_18 X hK hP 0 rfl rfl dX1_find_59 ?_
        refine lv_iload hx hb dX1_find_62 (lv_at hl 4 rfl) ?_
        refine lv_aload_n hx hb dX1_find_64 rfl (lv_at hl 1 rfl) ?_
        refine lv_iload hx hb dX1_find_65 (lv_at hl 4 rfl) ?_
        refine lv_iconst (v := (2 : Int32)) hx hb dX1_find_67 (by decide) ?_
        obtain ⟨u_4, hu_4, hf⟩ := ob hf
        refine pV X hK hA hP hS hl.1 (m_X3_ofDough (l := l) E p_a1 p_a1_ovenNumbers p_a1_doughNumbers v_a1_ovenCount v_a1_doughCount f_a1_doughNumbers x6 (2 : Int32) u_4 hu_4) kRX1_46 [3, 5] rfl rfl rfl rfl ⟨⟨(Nat.le_of_ble_eq_true rfl), (Nat.le_of_ble_eq_true rfl)⟩, Nat.zero_le _, Nat.zero_le _⟩ rfl rfl (Nat.le_of_ble_eq_true rfl) dX1_find_68 (fun H locs hP hS => ?_)
        refine lv_iload hx hb dX1_find_71 (lv_at hl 3 rfl) ?_
        obtain ⟨u_5, hu_5, hf⟩ := ob hf
        refine pSN X hK hA hP hS hl.1 (m_X4_dividedUp (l := l) E   u_4 x5 u_5 hu_5) hK.2.1 kRX1_49 ⟨⟨(Nat.le_of_ble_eq_true rfl), (Nat.le_of_ble_eq_true rfl)⟩, Nat.zero_le _, Nat.zero_le _⟩ rfl rfl (Nat.le_of_ble_eq_true rfl) dX1_find_73 (fun H locs hP hS => ?_)
        obtain ⟨g_6, hf⟩ := og hf
        refine iast X hK hP hD hS 6 rfl _ rfl g_6 dX1_find_76 (fun H locs hP hD hS => ?_)
        have hP : va_P E.1 classes (w_X1_find E p_this p_row p_best p_bakingTimes p_a2 p_a2_rows p_a1 p_a1_ovenNumbers p_a1_doughNumbers v_bestLength v_bestLastEnd v_limit v_a2_knownSteps v_a1_ovenCount v_a1_doughCount f_a2_rows f_a1_ovenNumbers f_a1_doughNumbers (upd f_bakingTimes x6.toNatClampNeg u_5) f_row f_best) H := hP
        have hD : va_D A (w_X1_find E p_this p_row p_best p_bakingTimes p_a2 p_a2_rows p_a1 p_a1_ovenNumbers p_a1_doughNumbers v_bestLength v_bestLastEnd v_limit v_a2_knownSteps v_a1_ovenCount v_a1_doughCount f_a2_rows f_a1_ovenNumbers f_a1_doughNumbers (upd f_bakingTimes x6.toNatClampNeg u_5) f_row f_best) := hD
        refine lv_iinc (v := (x6 + (1 : Int32))) (lv' := [(6, .int (x6 + (1 : Int32))), (0, .ref p_this), (1, .ref p_a1), (2, .ref p_a2), (5, .int x5)]) hx hb dX1_find_77 hl (k := 4) rfl rfl (by decide) rfl (fun ls hl => ?_)
        refine lv_goto (tgt := 42) hx hb dX1_find_80 (by decide) ?_
        exact ih v_bestLength v_bestLastEnd v_limit (upd f_bakingTimes x6.toNatClampNeg u_5) f_row f_best x5 (x6 + (1 : Int32)) hf H locs ls (lv_sub hl [1, 2, 3, 4, 0] rfl) hP hD hS

set_option maxHeartbeats 4000000 in
set_option maxRecDepth 100000 in
theorem m_X1_find {l : Launch} (E : Ev) (p_this : Nat) (p_row : Nat) (p_best : Nat) (p_bakingTimes : Nat) (p_a2 : Nat) (p_a2_rows : Nat) (p_a1 : Nat) (p_a1_ovenNumbers : Nat) (p_a1_doughNumbers : Nat) (v_bestLength : Int32) (v_bestLastEnd : Int32) (v_limit : Int32) (v_a2_knownSteps : Int32) (v_a1_ovenCount : Int32) (v_a1_doughCount : Int32) (f_a2_rows : Nat → Int32) (f_a1_ovenNumbers : Nat → Int32) (f_a1_doughNumbers : Nat → Int32) (f_bakingTimes : Nat → Int32) (f_row : Nat → Int32) (f_best : Nat → Int32) (x3 : Int32) (x4 : Int32) (res : Int32 × Int32 × Int32 × (Nat → Int32) × (Nat → Int32) × (Nat → Int32)) (hf : f_X1_find  v_a2_knownSteps v_a1_ovenCount v_a1_doughCount f_a2_rows f_a1_ovenNumbers f_a1_doughNumbers v_bestLength v_bestLastEnd v_limit f_bakingTimes f_row f_best x3 x4 = some res) : MutV l E 11 yX1_find cX1_find 7 [.ref p_this, .ref p_a1, .ref p_a2, .int x3, .int x4] (w_X1_find E p_this p_row p_best p_bakingTimes p_a2 p_a2_rows p_a1 p_a1_ovenNumbers p_a1_doughNumbers v_bestLength v_bestLastEnd v_limit v_a2_knownSteps v_a1_ovenCount v_a1_doughCount f_a2_rows f_a1_ovenNumbers f_a1_doughNumbers f_bakingTimes f_row f_best) (w_X1_find E p_this p_row p_best p_bakingTimes p_a2 p_a2_rows p_a1 p_a1_ovenNumbers p_a1_doughNumbers res.1 res.2.1 res.2.2.1 v_a2_knownSteps v_a1_ovenCount v_a1_doughCount f_a2_rows f_a1_ovenNumbers f_a1_doughNumbers res.2.2.2.1 res.2.2.2.2.1 res.2.2.2.2.2) := by
  refine MutV.of (by decide) (Nat.le_of_ble_eq_true rfl) ?_
  intro p e s m args below meth c Q A X hK hA hret H locs ls hl hP hD hS
  obtain ⟨hx, hb, hml, hown, hts, hrt, hlk⟩ := id X
  have hl : lv_has ls 7 [(0, .ref p_this), (1, .ref p_a1), (2, .ref p_a2), (3, .int x3), (4, .int x4)] := hl
  unfold f_X1_find at hf
  refine lv_aload_n hx hb dX1_find_0 rfl (lv_at hl 0 rfl) ?_
  refine lv_iconst (v := (0 : Int32)) hx hb dX1_find_1 (by decide) ?_
  refine pf_RX1_21 X hK hP hD hS 0 rfl rfl dX1_find_2 (fun H locs hP hD hS => ?_)
  have hP : va_P E.1 classes (w_X1_find E p_this p_row p_best p_bakingTimes p_a2 p_a2_rows p_a1 p_a1_ovenNumbers p_a1_doughNumbers (0 : Int32) v_bestLastEnd v_limit v_a2_knownSteps v_a1_ovenCount v_a1_doughCount f_a2_rows f_a1_ovenNumbers f_a1_doughNumbers f_bakingTimes f_row f_best) H := hP
  have hD : va_D A (w_X1_find E p_this p_row p_best p_bakingTimes p_a2 p_a2_rows p_a1 p_a1_ovenNumbers p_a1_doughNumbers (0 : Int32) v_bestLastEnd v_limit v_a2_knownSteps v_a1_ovenCount v_a1_doughCount f_a2_rows f_a1_ovenNumbers f_a1_doughNumbers f_bakingTimes f_row f_best) := hD
  refine lv_aload_n hx hb dX1_find_5 rfl (lv_at hl 0 rfl) ?_
  refine lv_aload_n hx hb dX1_find_6 rfl (lv_at hl 2 rfl) ?_
  obtain ⟨u_1, hu_1, hf⟩ := ob hf
  refine pV X hK hA hP hS hl.1 (m_X0_minute (l := l) E p_a2 p_a2_rows v_a2_knownSteps f_a2_rows  u_1 hu_1) kRX1_25 [1, 2] rfl rfl rfl rfl ⟨⟨(Nat.le_of_ble_eq_true rfl), (Nat.le_of_ble_eq_true rfl)⟩, Nat.zero_le _, Nat.zero_le _⟩ rfl rfl (Nat.le_of_ble_eq_true rfl) dX1_find_7 (fun H locs hP hS => ?_)
  refine pf_RX1_31 X hK hP hD hS 0 rfl rfl dX1_find_10 (fun H locs hP hD hS => ?_)
  have hP : va_P E.1 classes (w_X1_find E p_this p_row p_best p_bakingTimes p_a2 p_a2_rows p_a1 p_a1_ovenNumbers p_a1_doughNumbers (0 : Int32) u_1 v_limit v_a2_knownSteps v_a1_ovenCount v_a1_doughCount f_a2_rows f_a1_ovenNumbers f_a1_doughNumbers f_bakingTimes f_row f_best) H := hP
  have hD : va_D A (w_X1_find E p_this p_row p_best p_bakingTimes p_a2 p_a2_rows p_a1 p_a1_ovenNumbers p_a1_doughNumbers (0 : Int32) u_1 v_limit v_a2_knownSteps v_a1_ovenCount v_a1_doughCount f_a2_rows f_a1_ovenNumbers f_a1_doughNumbers f_bakingTimes f_row f_best) := hD
  refine lv_aload_n hx hb dX1_find_13 rfl (lv_at hl 0 rfl) ?_
  refine lv_iload hx hb dX1_find_14 (lv_at hl 4 rfl) ?_
  refine pf_RX1_34 X hK hP hD hS 0 rfl rfl dX1_find_16 (fun H locs hP hD hS => ?_)
  have hP : va_P E.1 classes (w_X1_find E p_this p_row p_best p_bakingTimes p_a2 p_a2_rows p_a1 p_a1_ovenNumbers p_a1_doughNumbers (0 : Int32) u_1 x4 v_a2_knownSteps v_a1_ovenCount v_a1_doughCount f_a2_rows f_a1_ovenNumbers f_a1_doughNumbers f_bakingTimes f_row f_best) H := hP
  have hD : va_D A (w_X1_find E p_this p_row p_best p_bakingTimes p_a2 p_a2_rows p_a1 p_a1_ovenNumbers p_a1_doughNumbers (0 : Int32) u_1 x4 v_a2_knownSteps v_a1_ovenCount v_a1_doughCount f_a2_rows f_a1_ovenNumbers f_a1_doughNumbers f_bakingTimes f_row f_best) := hD
  refine lv_aload_n hx hb dX1_find_19 rfl (lv_at hl 1 rfl) ?_
  refine lv_iload_n hx hb dX1_find_20 rfl (lv_at hl 3 rfl) ?_
  refine lv_iconst (v := (0 : Int32)) hx hb dX1_find_21 (by decide) ?_
  obtain ⟨u_2, hu_2, hf⟩ := ob hf
  refine pV X hK hA hP hS hl.1 (m_X3_ofOven (l := l) E p_a1 p_a1_ovenNumbers p_a1_doughNumbers v_a1_ovenCount v_a1_doughCount f_a1_ovenNumbers x3 (0 : Int32) u_2 hu_2) kRX1_37 [3, 4] rfl rfl rfl rfl ⟨⟨(Nat.le_of_ble_eq_true rfl), (Nat.le_of_ble_eq_true rfl)⟩, Nat.zero_le _, Nat.zero_le _⟩ rfl rfl (Nat.le_of_ble_eq_true rfl) dX1_find_22 (fun H locs hP hS => ?_)
  refine lv_bipush (v := (9 : Int32)) hx hb dX1_find_25 (by decide) ?_
  refine lv_imul hx hb dX1_find_27 ?_
  refine lv_bipush (v := (10 : Int32)) hx hb dX1_find_28 (by decide) ?_
  refine lv_idiv hx hb dX1_find_30 (by decide) ?_
  refine lv_istore (lv' := [(5, .int ((u_2 * (9 : Int32)) / (10 : Int32))), (0, .ref p_this), (1, .ref p_a1), (2, .ref p_a2), (3, .int x3), (4, .int x4)]) hx hb dX1_find_31 hl (by decide) rfl (fun ls hl => ?_)
  refine lv_iload hx hb dX1_find_33 (lv_at hl 0 rfl) ?_
  refine lv_if_gt (tgt := 39) hx hb dX1_find_35 (by decide) (fun c_4 => ?_) (fun c_4 => ?_)
  · replace hf := ot c_4 hf
    refine lv_iconst (v := (0 : Int32)) hx hb dX1_find_39 (by decide) ?_
    refine lv_istore (lv' := [(6, .int (0 : Int32)), (5, .int ((u_2 * (9 : Int32)) / (10 : Int32))), (0, .ref p_this), (1, .ref p_a1), (2, .ref p_a2), (3, .int x3), (4, .int x4)]) hx hb dX1_find_40 hl (by decide) rfl (fun ls hl => ?_)
    exact b_X1_find_42 E p_this p_row p_best p_bakingTimes p_a2 p_a2_rows p_a1 p_a1_ovenNumbers p_a1_doughNumbers v_a2_knownSteps v_a1_ovenCount v_a1_doughCount f_a2_rows f_a1_ovenNumbers f_a1_doughNumbers res X hK hA hret   FU (0 : Int32) u_1 x4 f_bakingTimes f_row f_best ((u_2 * (9 : Int32)) / (10 : Int32)) (0 : Int32) hf H locs ls (lv_sub hl [2, 3, 4, 1, 0] rfl) hP hD hS
  · replace hf := of c_4 hf
    obtain rfl := Option.some.inj hf
    exact hret H locs _ ls hP hS dX1_find_38

abbrev w_X1_bestCount (E : Ev) (p_this : Nat) (p_row : Nat) (p_best : Nat) (p_bakingTimes : Nat) (v_bestLength : Int32) (v_bestLastEnd : Int32) (v_limit : Int32) : va_W := [(p_this, .inr (1, [.ref p_row, .ref p_best, .ref p_bakingTimes, .int v_bestLength, .int v_bestLastEnd, .int v_limit]))]
set_option maxHeartbeats 4000000 in
set_option maxRecDepth 100000 in
theorem m_X1_bestCount {l : Launch} (E : Ev) (p_this : Nat) (p_row : Nat) (p_best : Nat) (p_bakingTimes : Nat) (v_bestLength : Int32) (v_bestLastEnd : Int32) (v_limit : Int32)  (res : Int32) (hf : f_X1_bestCount  v_bestLength  = some res) : PureI l E 1 yX1_bestCount cX1_bestCount 1 .int [.ref p_this] (w_X1_bestCount E p_this p_row p_best p_bakingTimes v_bestLength v_bestLastEnd v_limit) res := by
  refine PureI.of (by decide) (Nat.le_of_ble_eq_true rfl) ?_
  intro p e s m args below meth c Q A X hK hA hret H locs ls hl hP hS
  obtain ⟨hx, hb, hml, hown, hts, hrt, hlk⟩ := id X
  have hl : lv_has ls 1 [(0, .ref p_this)] := hl
  unfold f_X1_bestCount at hf
  refine lv_aload_n hx hb dX1_bestCount_0 rfl (lv_at hl 0 rfl) ?_
  refine gf_RX1_21 X hK hP 0 rfl rfl dX1_bestCount_1 ?_
  obtain rfl := Option.some.inj hf
  exact hret H locs _ ls rfl hP hS dX1_bestCount_4

abbrev w_X1_bestEnd (E : Ev) (p_this : Nat) (p_row : Nat) (p_best : Nat) (p_bakingTimes : Nat) (v_bestLength : Int32) (v_bestLastEnd : Int32) (v_limit : Int32) : va_W := [(p_this, .inr (1, [.ref p_row, .ref p_best, .ref p_bakingTimes, .int v_bestLength, .int v_bestLastEnd, .int v_limit]))]
set_option maxHeartbeats 4000000 in
set_option maxRecDepth 100000 in
theorem m_X1_bestEnd {l : Launch} (E : Ev) (p_this : Nat) (p_row : Nat) (p_best : Nat) (p_bakingTimes : Nat) (v_bestLength : Int32) (v_bestLastEnd : Int32) (v_limit : Int32)  (res : Int32) (hf : f_X1_bestEnd  v_bestLastEnd  = some res) : PureI l E 1 yX1_bestEnd cX1_bestEnd 1 .int [.ref p_this] (w_X1_bestEnd E p_this p_row p_best p_bakingTimes v_bestLength v_bestLastEnd v_limit) res := by
  refine PureI.of (by decide) (Nat.le_of_ble_eq_true rfl) ?_
  intro p e s m args below meth c Q A X hK hA hret H locs ls hl hP hS
  obtain ⟨hx, hb, hml, hown, hts, hrt, hlk⟩ := id X
  have hl : lv_has ls 1 [(0, .ref p_this)] := hl
  unfold f_X1_bestEnd at hf
  refine lv_aload_n hx hb dX1_bestEnd_0 rfl (lv_at hl 0 rfl) ?_
  refine gf_RX1_31 X hK hP 0 rfl rfl dX1_bestEnd_1 ?_
  obtain rfl := Option.some.inj hf
  exact hret H locs _ ls rfl hP hS dX1_bestEnd_4

abbrev w_X1_bestAt (E : Ev) (p_this : Nat) (p_row : Nat) (p_best : Nat) (p_bakingTimes : Nat) (v_bestLength : Int32) (v_bestLastEnd : Int32) (v_limit : Int32) (f_best : Nat → Int32) : va_W := [(p_this, .inr (1, [.ref p_row, .ref p_best, .ref p_bakingTimes, .int v_bestLength, .int v_bestLastEnd, .int v_limit])), (p_best, .inl (E.2.1, 6, .inl f_best))]
set_option maxHeartbeats 4000000 in
set_option maxRecDepth 100000 in
theorem m_X1_bestAt {l : Launch} (E : Ev) (p_this : Nat) (p_row : Nat) (p_best : Nat) (p_bakingTimes : Nat) (v_bestLength : Int32) (v_bestLastEnd : Int32) (v_limit : Int32) (f_best : Nat → Int32) (x1 : Int32) (res : Int32) (hf : f_X1_bestAt  v_bestLength f_best x1 = some res) : PureI l E 1 yX1_bestAt cX1_bestAt 2 .int [.ref p_this, .int x1] (w_X1_bestAt E p_this p_row p_best p_bakingTimes v_bestLength v_bestLastEnd v_limit f_best) res := by
  refine PureI.of (by decide) (Nat.le_of_ble_eq_true rfl) ?_
  intro p e s m args below meth c Q A X hK hA hret H locs ls hl hP hS
  obtain ⟨hx, hb, hml, hown, hts, hrt, hlk⟩ := id X
  have hl : lv_has ls 2 [(0, .ref p_this), (1, .int x1)] := hl
  unfold f_X1_bestAt at hf
  refine lv_iload_n hx hb dX1_bestAt_0 rfl (lv_at hl 1 rfl) ?_
  refine lv_if_lt (tgt := 27) hx hb dX1_bestAt_1 (by decide) (fun c_1 => ?_) (fun c_1 => ?_)
  · replace hf := ot c_1 hf
    refine lv_bipush (v := (-9 : Int32)) hx hb dX1_bestAt_27 (by decide) ?_
    obtain rfl := Option.some.inj hf
    exact hret H locs _ ls rfl hP hS dX1_bestAt_29
  · replace hf := of c_1 hf
    refine lv_iload_n hx hb dX1_bestAt_4 rfl (lv_at hl 1 rfl) ?_
    refine lv_aload_n hx hb dX1_bestAt_5 rfl (lv_at hl 0 rfl) ?_
    refine gf_RX1_21 X hK hP 0 rfl rfl dX1_bestAt_6 ?_
    refine lv_icmp_ge (tgt := 27) hx hb dX1_bestAt_9 (by decide) (fun c_2 => ?_) (fun c_2 => ?_)
    · replace hf := ot c_2 hf
      refine lv_bipush (v := (-9 : Int32)) hx hb dX1_bestAt_27 (by decide) ?_
      obtain rfl := Option.some.inj hf
      exact hret H locs _ ls rfl hP hS dX1_bestAt_29
    · replace hf := of c_2 hf
      refine lv_iload_n hx hb dX1_bestAt_12 rfl (lv_at hl 1 rfl) ?_
      refine lv_bipush (v := (6 : Int32)) hx hb dX1_bestAt_13 (by decide) ?_
      refine lv_icmp_ge (tgt := 27) hx hb dX1_bestAt_15 (by decide) (fun c_3 => ?_) (fun c_3 => ?_)
      · replace hf := ot c_3 hf
        refine lv_bipush (v := (-9 : Int32)) hx hb dX1_bestAt_27 (by decide) ?_
        obtain rfl := Option.some.inj hf
        exact hret H locs _ ls rfl hP hS dX1_bestAt_29
      · replace hf := of c_3 hf
        refine lv_aload_n hx hb dX1_bestAt_18 rfl (lv_at hl 0 rfl) ?_
        refine gf_RX1_15 X hK hP 0 rfl rfl dX1_bestAt_19 ?_
        refine lv_iload_n hx hb dX1_bestAt_22 rfl (lv_at hl 1 rfl) ?_
        obtain ⟨g_4, hf⟩ := og hf
        refine iald X hK hP 1 rfl _ rfl g_4 dX1_bestAt_23 ?_
        refine lv_goto (tgt := 29) hx hb dX1_bestAt_24 (by decide) ?_
        obtain rfl := Option.some.inj hf
        exact hret H locs _ ls rfl hP hS dX1_bestAt_29

