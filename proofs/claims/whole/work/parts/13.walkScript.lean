abbrev w_X2_add (E : Ev) (p_this : Nat) (p_bytes : Nat) (v_byteCount : Int32) (v_place : Int32) (v_token : Int32) (v_tokenStart : Int32) (v_tokenValue : Int32) (f_bytes : Nat → Int32) : va_W := [(p_this, .inr (2, [.ref p_bytes, .int v_byteCount, .int v_place, .int v_token, .int v_tokenStart, .int v_tokenValue])), (p_bytes, .inl (E.2.1, 180, .inl f_bytes))]
set_option maxHeartbeats 4000000 in
set_option maxRecDepth 100000 in
theorem m_X2_add {l : Launch} (E : Ev) (p_this : Nat) (p_bytes : Nat) (v_byteCount : Int32) (v_place : Int32) (v_token : Int32) (v_tokenStart : Int32) (v_tokenValue : Int32) (f_bytes : Nat → Int32) (x1 : Int32) (res : Int32 × Int32 × (Nat → Int32)) (hf : f_X2_add  v_byteCount f_bytes x1 = some res) : MutI l E 1 yX2_add cX2_add 2 .boolean [.ref p_this, .int x1] (w_X2_add E p_this p_bytes v_byteCount v_place v_token v_tokenStart v_tokenValue f_bytes) (w_X2_add E p_this p_bytes res.2.1 v_place v_token v_tokenStart v_tokenValue res.2.2) res.1 := by
  refine MutI.of (by decide) (Nat.le_of_ble_eq_true rfl) ?_
  intro p e s m args below meth c Q A X hK hA hret H locs ls hl hP hD hS
  obtain ⟨hx, hb, hml, hown, hts, hrt, hlk⟩ := id X
  have hl : lv_has ls 2 [(0, .ref p_this), (1, .int x1)] := hl
  unfold f_X2_add at hf
  refine lv_aload_n hx hb dX2_add_0 rfl (lv_at hl 0 rfl) ?_
  refine gf_RX2_15 X hK hP 0 rfl rfl dX2_add_1 ?_
  refine lv_sipush (v := (180 : Int32)) hx hb dX2_add_4 (by decide) ?_
  refine lv_icmp_lt (tgt := 12) hx hb dX2_add_7 (by decide) (fun c_1 => ?_) (fun c_1 => ?_)
  · replace hf := ot c_1 hf
    refine lv_aload_n hx hb dX2_add_12 rfl (lv_at hl 0 rfl) ?_
    refine gf_RX2_11 X hK hP 0 rfl rfl dX2_add_13 ?_
    refine lv_aload_n hx hb dX2_add_16 rfl (lv_at hl 0 rfl) ?_
    refine gf_RX2_15 X hK hP 0 rfl rfl dX2_add_17 ?_
    refine lv_iload_n hx hb dX2_add_20 rfl (lv_at hl 1 rfl) ?_
    obtain ⟨g_2, hf⟩ := og hf
    refine iast X hK hP hD hS 1 rfl _ rfl g_2 dX2_add_21 (fun H locs hP hD hS => ?_)
    have hP : va_P E.1 classes (w_X2_add E p_this p_bytes v_byteCount v_place v_token v_tokenStart v_tokenValue (upd f_bytes v_byteCount.toNatClampNeg x1)) H := hP
    have hD : va_D A (w_X2_add E p_this p_bytes v_byteCount v_place v_token v_tokenStart v_tokenValue (upd f_bytes v_byteCount.toNatClampNeg x1)) := hD
    refine lv_aload_n hx hb dX2_add_22 rfl (lv_at hl 0 rfl) ?_
    refine lv_dup hx hb dX2_add_23 rfl ?_
    refine gf_RX2_15 X hK hP 0 rfl rfl dX2_add_24 ?_
    refine lv_iconst (v := (1 : Int32)) hx hb dX2_add_27 (by decide) ?_
    refine lv_iadd hx hb dX2_add_28 ?_
    refine pf_RX2_15 X hK hP hD hS 0 rfl rfl dX2_add_29 (fun H locs hP hD hS => ?_)
    have hP : va_P E.1 classes (w_X2_add E p_this p_bytes (v_byteCount + (1 : Int32)) v_place v_token v_tokenStart v_tokenValue (upd f_bytes v_byteCount.toNatClampNeg x1)) H := hP
    have hD : va_D A (w_X2_add E p_this p_bytes (v_byteCount + (1 : Int32)) v_place v_token v_tokenStart v_tokenValue (upd f_bytes v_byteCount.toNatClampNeg x1)) := hD
    refine lv_iconst (v := (1 : Int32)) hx hb dX2_add_32 (by decide) ?_
    obtain rfl := Option.some.inj hf
    exact hret H locs _ ls nar1 hP hS dX2_add_33
  · replace hf := of c_1 hf
    refine lv_iconst (v := (0 : Int32)) hx hb dX2_add_10 (by decide) ?_
    obtain rfl := Option.some.inj hf
    exact hret H locs _ ls nar0 hP hS dX2_add_11

abbrev w_X2_length (E : Ev) (p_this : Nat) (p_bytes : Nat) (v_byteCount : Int32) (v_place : Int32) (v_token : Int32) (v_tokenStart : Int32) (v_tokenValue : Int32) : va_W := [(p_this, .inr (2, [.ref p_bytes, .int v_byteCount, .int v_place, .int v_token, .int v_tokenStart, .int v_tokenValue]))]
set_option maxHeartbeats 4000000 in
set_option maxRecDepth 100000 in
theorem m_X2_length {l : Launch} (E : Ev) (p_this : Nat) (p_bytes : Nat) (v_byteCount : Int32) (v_place : Int32) (v_token : Int32) (v_tokenStart : Int32) (v_tokenValue : Int32)  (res : Int32) (hf : f_X2_length  v_byteCount  = some res) : PureI l E 1 yX2_length cX2_length 1 .int [.ref p_this] (w_X2_length E p_this p_bytes v_byteCount v_place v_token v_tokenStart v_tokenValue) res := by
  refine PureI.of (by decide) (Nat.le_of_ble_eq_true rfl) ?_
  intro p e s m args below meth c Q A X hK hA hret H locs ls hl hP hS
  obtain ⟨hx, hb, hml, hown, hts, hrt, hlk⟩ := id X
  have hl : lv_has ls 1 [(0, .ref p_this)] := hl
  unfold f_X2_length at hf
  refine lv_aload_n hx hb dX2_length_0 rfl (lv_at hl 0 rfl) ?_
  refine gf_RX2_15 X hK hP 0 rfl rfl dX2_length_1 ?_
  obtain rfl := Option.some.inj hf
  exact hret H locs _ ls rfl hP hS dX2_length_4

abbrev w_X2_empty (E : Ev) (p_this : Nat) (p_bytes : Nat) (v_byteCount : Int32) (v_place : Int32) (v_token : Int32) (v_tokenStart : Int32) (v_tokenValue : Int32) : va_W := [(p_this, .inr (2, [.ref p_bytes, .int v_byteCount, .int v_place, .int v_token, .int v_tokenStart, .int v_tokenValue]))]
set_option maxHeartbeats 4000000 in
set_option maxRecDepth 100000 in
theorem m_X2_empty {l : Launch} (E : Ev) (p_this : Nat) (p_bytes : Nat) (v_byteCount : Int32) (v_place : Int32) (v_token : Int32) (v_tokenStart : Int32) (v_tokenValue : Int32)  (res : Int32) (hf : f_X2_empty  v_byteCount  = some res) : MutV l E 1 yX2_empty cX2_empty 1 [.ref p_this] (w_X2_empty E p_this p_bytes v_byteCount v_place v_token v_tokenStart v_tokenValue) (w_X2_empty E p_this p_bytes res v_place v_token v_tokenStart v_tokenValue) := by
  refine MutV.of (by decide) (Nat.le_of_ble_eq_true rfl) ?_
  intro p e s m args below meth c Q A X hK hA hret H locs ls hl hP hD hS
  obtain ⟨hx, hb, hml, hown, hts, hrt, hlk⟩ := id X
  have hl : lv_has ls 1 [(0, .ref p_this)] := hl
  unfold f_X2_empty at hf
  refine lv_aload_n hx hb dX2_empty_0 rfl (lv_at hl 0 rfl) ?_
  refine lv_iconst (v := (0 : Int32)) hx hb dX2_empty_1 (by decide) ?_
  refine pf_RX2_15 X hK hP hD hS 0 rfl rfl dX2_empty_2 (fun H locs hP hD hS => ?_)
  have hP : va_P E.1 classes (w_X2_empty E p_this p_bytes (0 : Int32) v_place v_token v_tokenStart v_tokenValue) H := hP
  have hD : va_D A (w_X2_empty E p_this p_bytes (0 : Int32) v_place v_token v_tokenStart v_tokenValue) := hD
  obtain rfl := Option.some.inj hf
  exact hret H locs _ ls hP hS dX2_empty_5

abbrev w_X2_isDigit (E : Ev)   : va_W := []
set_option maxHeartbeats 4000000 in
set_option maxRecDepth 100000 in
theorem m_X2_isDigit {l : Launch} (E : Ev)   (x0 : Int32) (res : Int32) (hf : f_X2_isDigit   x0 = some res) : PureI l E 1 yX2_isDigit cX2_isDigit 1 .boolean [.int x0] [] res := by
  refine PureI.of (by decide) (Nat.le_of_ble_eq_true rfl) ?_
  intro p e s m args below meth c Q A X hK hA hret H locs ls hl hP hS
  obtain ⟨hx, hb, hml, hown, hts, hrt, hlk⟩ := id X
  have hl : lv_has ls 1 [(0, .int x0)] := hl
  unfold f_X2_isDigit at hf
  refine lv_iload_n hx hb dX2_isDigit_0 rfl (lv_at hl 0 rfl) ?_
  refine lv_bipush (v := (48 : Int32)) hx hb dX2_isDigit_1 (by decide) ?_
  refine lv_icmp_lt (tgt := 16) hx hb dX2_isDigit_3 (by decide) (fun c_1 => ?_) (fun c_1 => ?_)
  · replace hf := ot c_1 hf
    refine lv_iconst (v := (0 : Int32)) hx hb dX2_isDigit_16 (by decide) ?_
    obtain rfl := Option.some.inj hf
    exact hret H locs _ ls nar0 hP hS dX2_isDigit_17
  · replace hf := of c_1 hf
    refine lv_iload_n hx hb dX2_isDigit_6 rfl (lv_at hl 0 rfl) ?_
    refine lv_bipush (v := (57 : Int32)) hx hb dX2_isDigit_7 (by decide) ?_
    refine lv_icmp_gt (tgt := 16) hx hb dX2_isDigit_9 (by decide) (fun c_2 => ?_) (fun c_2 => ?_)
    · replace hf := ot c_2 hf
      refine lv_iconst (v := (0 : Int32)) hx hb dX2_isDigit_16 (by decide) ?_
      obtain rfl := Option.some.inj hf
      exact hret H locs _ ls nar0 hP hS dX2_isDigit_17
    · replace hf := of c_2 hf
      refine lv_iconst (v := (1 : Int32)) hx hb dX2_isDigit_12 (by decide) ?_
      refine lv_goto (tgt := 17) hx hb dX2_isDigit_13 (by decide) ?_
      obtain rfl := Option.some.inj hf
      exact hret H locs _ ls nar1 hP hS dX2_isDigit_17

abbrev w_X2_isLetter (E : Ev)   : va_W := []
set_option maxHeartbeats 4000000 in
set_option maxRecDepth 100000 in
theorem m_X2_isLetter {l : Launch} (E : Ev)   (x0 : Int32) (res : Int32) (hf : f_X2_isLetter   x0 = some res) : PureI l E 1 yX2_isLetter cX2_isLetter 1 .boolean [.int x0] [] res := by
  refine PureI.of (by decide) (Nat.le_of_ble_eq_true rfl) ?_
  intro p e s m args below meth c Q A X hK hA hret H locs ls hl hP hS
  obtain ⟨hx, hb, hml, hown, hts, hrt, hlk⟩ := id X
  have hl : lv_has ls 1 [(0, .int x0)] := hl
  unfold f_X2_isLetter at hf
  refine lv_iload_n hx hb dX2_isLetter_0 rfl (lv_at hl 0 rfl) ?_
  refine lv_bipush (v := (97 : Int32)) hx hb dX2_isLetter_1 (by decide) ?_
  refine lv_icmp_lt (tgt := 16) hx hb dX2_isLetter_3 (by decide) (fun c_1 => ?_) (fun c_1 => ?_)
  · replace hf := ot c_1 hf
    refine lv_iconst (v := (0 : Int32)) hx hb dX2_isLetter_16 (by decide) ?_
    obtain rfl := Option.some.inj hf
    exact hret H locs _ ls nar0 hP hS dX2_isLetter_17
  · replace hf := of c_1 hf
    refine lv_iload_n hx hb dX2_isLetter_6 rfl (lv_at hl 0 rfl) ?_
    refine lv_bipush (v := (122 : Int32)) hx hb dX2_isLetter_7 (by decide) ?_
    refine lv_icmp_gt (tgt := 16) hx hb dX2_isLetter_9 (by decide) (fun c_2 => ?_) (fun c_2 => ?_)
    · replace hf := ot c_2 hf
      refine lv_iconst (v := (0 : Int32)) hx hb dX2_isLetter_16 (by decide) ?_
      obtain rfl := Option.some.inj hf
      exact hret H locs _ ls nar0 hP hS dX2_isLetter_17
    · replace hf := of c_2 hf
      refine lv_iconst (v := (1 : Int32)) hx hb dX2_isLetter_12 (by decide) ?_
      refine lv_goto (tgt := 17) hx hb dX2_isLetter_13 (by decide) ?_
      obtain rfl := Option.some.inj hf
      exact hret H locs _ ls nar1 hP hS dX2_isLetter_17

abbrev w_X2_takeLetters (E : Ev) (p_this : Nat) (p_bytes : Nat) (v_byteCount : Int32) (v_place : Int32) (v_token : Int32) (v_tokenStart : Int32) (v_tokenValue : Int32) (f_bytes : Nat → Int32) : va_W := [(p_this, .inr (2, [.ref p_bytes, .int v_byteCount, .int v_place, .int v_token, .int v_tokenStart, .int v_tokenValue])), (p_bytes, .inl (E.2.1, 180, .inl f_bytes))]
set_option maxHeartbeats 4000000 in
set_option maxRecDepth 100000 in
theorem b_X2_takeLetters_56 {p : Program} {l : Launch} {e : Env} {s : State} {m : MethodId} {args : Array Value} {below : List Frame} {meth : Method} {c : Code} {Q : State → Prop} {A : Nat → Prop} (E : Ev) (p_this : Nat) (p_bytes : Nat) (v_byteCount : Int32) (v_tokenStart : Int32) (f_bytes : Nat → Int32) (res : Int32 × Int32 × Int32) (X : Cx p s m args meth c cX2_takeLetters 1 RX2 none) (hK : KK E A s s.heap) (hA : ∀ q, s.heap.size ≤ q → A q) (hret : RetV p l e (RM 2) s m args below meth c Q E A cX2_takeLetters (w_X2_takeLetters E p_this p_bytes v_byteCount res.1 res.2.1 v_tokenStart res.2.2 f_bytes)) (K5 : Int32 → Int32 → Int32 → Option (Int32 × Int32 × Int32)) (hK5 : ∀ (v_place : Int32) (v_token : Int32) (v_tokenValue : Int32), K5 v_place v_token v_tokenValue = some res → ∀ (H : Heap) (locs : List Loc) (ls : Array Slot), lv_has ls 1 [(0, .ref p_this)] → va_P E.1 classes (w_X2_takeLetters E p_this p_bytes v_byteCount v_place v_token v_tokenStart v_tokenValue f_bytes) H → va_D A (w_X2_takeLetters E p_this p_bytes v_byteCount v_place v_token v_tokenStart v_tokenValue f_bytes) → va_S A s.heap H locs → W p l e (RM 2) s m args below meth c H locs 0 0 Q (F0 m 5 ls [])) (v_place : Int32) (v_token : Int32) (v_tokenValue : Int32) (k0 : Int32) (hf : f_X2_takeLetters_56 v_byteCount v_tokenStart f_bytes  K5 v_place v_token v_tokenValue k0 = some res) : ∀ (H : Heap) (locs : List Loc) (ls : Array Slot), lv_has ls 1 [(0, .ref p_this)] → va_P E.1 classes (w_X2_takeLetters E p_this p_bytes v_byteCount v_place v_token v_tokenStart v_tokenValue f_bytes) H → va_D A (w_X2_takeLetters E p_this p_bytes v_byteCount v_place v_token v_tokenStart v_tokenValue f_bytes) → va_S A s.heap H locs → W p l e (RM 2) s m args below meth c H locs 0 0 Q (F0 m 56 ls [.int k0, .ref p_this]) := by
  obtain ⟨hx, hb, hml, hown, hts, hrt, hlk⟩ := id X
  intro H locs ls hl hP hD hS
  unfold f_X2_takeLetters_56 at hf
  refine pf_RX2_40 X hK hP hD hS 0 rfl rfl dX2_takeLetters_56 (fun H locs hP hD hS => ?_)
  have hP : va_P E.1 classes (w_X2_takeLetters E p_this p_bytes v_byteCount v_place v_token v_tokenStart k0 f_bytes) H := hP
  have hD : va_D A (w_X2_takeLetters E p_this p_bytes v_byteCount v_place v_token v_tokenStart k0 f_bytes) := hD
  refine lv_aload_n hx hb dX2_takeLetters_59 rfl (lv_at hl 0 rfl) ?_
  refine lv_dup hx hb dX2_takeLetters_60 rfl ?_
  refine gf_RX2_19 X hK hP 0 rfl rfl dX2_takeLetters_61 ?_
  refine lv_iconst (v := (1 : Int32)) hx hb dX2_takeLetters_64 (by decide) ?_
  refine lv_iadd hx hb dX2_takeLetters_65 ?_
  refine pf_RX2_19 X hK hP hD hS 0 rfl rfl dX2_takeLetters_66 (fun H locs hP hD hS => ?_)
  have hP : va_P E.1 classes (w_X2_takeLetters E p_this p_bytes v_byteCount (v_place + (1 : Int32)) v_token v_tokenStart k0 f_bytes) H := hP
  have hD : va_D A (w_X2_takeLetters E p_this p_bytes v_byteCount (v_place + (1 : Int32)) v_token v_tokenStart k0 f_bytes) := hD
  refine lv_goto (tgt := 5) hx hb dX2_takeLetters_69 (by decide) ?_
  exact hK5 (v_place + (1 : Int32)) v_token k0 hf H locs ls (lv_sub hl [0] rfl) hP hD hS

set_option maxHeartbeats 4000000 in
set_option maxRecDepth 100000 in
theorem b_X2_takeLetters_5 {p : Program} {l : Launch} {e : Env} {s : State} {m : MethodId} {args : Array Value} {below : List Frame} {meth : Method} {c : Code} {Q : State → Prop} {A : Nat → Prop} (E : Ev) (p_this : Nat) (p_bytes : Nat) (v_byteCount : Int32) (v_tokenStart : Int32) (f_bytes : Nat → Int32) (res : Int32 × Int32 × Int32) (X : Cx p s m args meth c cX2_takeLetters 1 RX2 none) (hK : KK E A s s.heap) (hA : ∀ q, s.heap.size ≤ q → A q) (hret : RetV p l e (RM 2) s m args below meth c Q E A cX2_takeLetters (w_X2_takeLetters E p_this p_bytes v_byteCount res.1 res.2.1 v_tokenStart res.2.2 f_bytes))  : ∀ (n : Nat) (v_place : Int32) (v_token : Int32) (v_tokenValue : Int32), f_X2_takeLetters_5 v_byteCount v_tokenStart f_bytes   n v_place v_token v_tokenValue = some res → ∀ (H : Heap) (locs : List Loc) (ls : Array Slot), lv_has ls 1 [(0, .ref p_this)] → va_P E.1 classes (w_X2_takeLetters E p_this p_bytes v_byteCount v_place v_token v_tokenStart v_tokenValue f_bytes) H → va_D A (w_X2_takeLetters E p_this p_bytes v_byteCount v_place v_token v_tokenStart v_tokenValue f_bytes) → va_S A s.heap H locs → W p l e (RM 2) s m args below meth c H locs 0 0 Q (F0 m 5 ls []) := by
  obtain ⟨hx, hb, hml, hown, hts, hrt, hlk⟩ := id X
  intro n
  induction n with
  | zero => intro v_place v_token v_tokenValue hf; exact absurd hf (by simp [f_X2_takeLetters_5])
  | succ n ih =>
    intro v_place v_token v_tokenValue hf H locs ls hl hP hD hS
    unfold f_X2_takeLetters_5 at hf
    refine lv_aload_n hx hb dX2_takeLetters_5 rfl (lv_at hl 0 rfl) ?_
    refine gf_RX2_19 X hK hP 0 rfl rfl dX2_takeLetters_6 ?_
    refine lv_aload_n hx hb dX2_takeLetters_9 rfl (lv_at hl 0 rfl) ?_
    refine gf_RX2_15 X hK hP 0 rfl rfl dX2_takeLetters_10 ?_
    refine lv_icmp_ge (tgt := 72) hx hb dX2_takeLetters_13 (by decide) (fun c_1 => ?_) (fun c_1 => ?_)
    · replace hf := ot c_1 hf
      obtain rfl := Option.some.inj hf
      exact hret H locs _ ls hP hS dX2_takeLetters_72
    · replace hf := of c_1 hf
      refine lv_aload_n hx hb dX2_takeLetters_16 rfl (lv_at hl 0 rfl) ?_
      refine gf_RX2_11 X hK hP 0 rfl rfl dX2_takeLetters_17 ?_
      refine lv_aload_n hx hb dX2_takeLetters_20 rfl (lv_at hl 0 rfl) ?_
      refine gf_RX2_19 X hK hP 0 rfl rfl dX2_takeLetters_21 ?_
      obtain ⟨g_2, hf⟩ := og hf
      refine iald X hK hP 1 rfl _ rfl g_2 dX2_takeLetters_24 ?_
      obtain ⟨u_3, hu_3, hf⟩ := ob hf
      refine pS X hK hA hP hS hl.1 (m_X2_isLetter (l := l) E   (f_bytes v_place.toNatClampNeg) u_3 hu_3) kRX2_84 ⟨⟨(Nat.le_of_ble_eq_true rfl), (Nat.le_of_ble_eq_true rfl)⟩, Nat.zero_le _, Nat.zero_le _⟩ rfl rfl (Nat.le_of_ble_eq_true rfl) dX2_takeLetters_25 (fun H locs hP hS => ?_)
      refine lv_if_eq (tgt := 72) hx hb dX2_takeLetters_28 (by decide) (fun c_4 => ?_) (fun c_4 => ?_)
      · replace hf := ot c_4 hf
        obtain rfl := Option.some.inj hf
        exact hret H locs _ ls hP hS dX2_takeLetters_72
      · replace hf := of c_4 hf
        refine lv_aload_n hx hb dX2_takeLetters_31 rfl (lv_at hl 0 rfl) ?_
        refine lv_aload_n hx hb dX2_takeLetters_32 rfl (lv_at hl 0 rfl) ?_
        refine gf_RX2_19 X hK hP 0 rfl rfl dX2_takeLetters_33 ?_
        refine lv_aload_n hx hb dX2_takeLetters_36 rfl (lv_at hl 0 rfl) ?_
        refine gf_RX2_37 X hK hP 0 rfl rfl dX2_takeLetters_37 ?_
        refine lv_icmp_ne (tgt := 55) hx hb dX2_takeLetters_40 (by decide) (fun c_5 => ?_) (fun c_5 => ?_)
        · replace hf := of c_5 hf
          refine lv_iconst (v := (0 : Int32)) hx hb dX2_takeLetters_55 (by decide) ?_
          exact b_X2_takeLetters_56 E p_this p_bytes v_byteCount v_tokenStart f_bytes res X hK hA hret  (f_X2_takeLetters_5 v_byteCount v_tokenStart f_bytes   n) ih v_place v_token v_tokenValue (0 : Int32) hf H locs ls (lv_sub hl [0] rfl) hP hD hS
        · replace hf := ot c_5 hf
          refine lv_aload_n hx hb dX2_takeLetters_43 rfl (lv_at hl 0 rfl) ?_
          refine gf_RX2_11 X hK hP 0 rfl rfl dX2_takeLetters_44 ?_
          refine lv_aload_n hx hb dX2_takeLetters_47 rfl (lv_at hl 0 rfl) ?_
          refine gf_RX2_19 X hK hP 0 rfl rfl dX2_takeLetters_48 ?_
          obtain ⟨g_6, hf⟩ := og hf
          refine iald X hK hP 1 rfl _ rfl g_6 dX2_takeLetters_51 ?_
          refine lv_goto (tgt := 56) hx hb dX2_takeLetters_52 (by decide) ?_
          exact b_X2_takeLetters_56 E p_this p_bytes v_byteCount v_tokenStart f_bytes res X hK hA hret  (f_X2_takeLetters_5 v_byteCount v_tokenStart f_bytes   n) ih v_place v_token v_tokenValue (f_bytes v_place.toNatClampNeg) hf H locs ls (lv_sub hl [0] rfl) hP hD hS

set_option maxHeartbeats 4000000 in
set_option maxRecDepth 100000 in
theorem m_X2_takeLetters {l : Launch} (E : Ev) (p_this : Nat) (p_bytes : Nat) (v_byteCount : Int32) (v_place : Int32) (v_token : Int32) (v_tokenStart : Int32) (v_tokenValue : Int32) (f_bytes : Nat → Int32)  (res : Int32 × Int32 × Int32) (hf : f_X2_takeLetters  v_byteCount v_tokenStart f_bytes v_place v_token v_tokenValue  = some res) : MutV l E 2 yX2_takeLetters cX2_takeLetters 1 [.ref p_this] (w_X2_takeLetters E p_this p_bytes v_byteCount v_place v_token v_tokenStart v_tokenValue f_bytes) (w_X2_takeLetters E p_this p_bytes v_byteCount res.1 res.2.1 v_tokenStart res.2.2 f_bytes) := by
  refine MutV.of (by decide) (Nat.le_of_ble_eq_true rfl) ?_
  intro p e s m args below meth c Q A X hK hA hret H locs ls hl hP hD hS
  obtain ⟨hx, hb, hml, hown, hts, hrt, hlk⟩ := id X
  have hl : lv_has ls 1 [(0, .ref p_this)] := hl
  unfold f_X2_takeLetters at hf
  refine lv_aload_n hx hb dX2_takeLetters_0 rfl (lv_at hl 0 rfl) ?_
  refine lv_iconst (v := (1 : Int32)) hx hb dX2_takeLetters_1 (by decide) ?_
  refine pf_RX2_30 X hK hP hD hS 0 rfl rfl dX2_takeLetters_2 (fun H locs hP hD hS => ?_)
  have hP : va_P E.1 classes (w_X2_takeLetters E p_this p_bytes v_byteCount v_place (1 : Int32) v_tokenStart v_tokenValue f_bytes) H := hP
  have hD : va_D A (w_X2_takeLetters E p_this p_bytes v_byteCount v_place (1 : Int32) v_tokenStart v_tokenValue f_bytes) := hD
  exact b_X2_takeLetters_5 E p_this p_bytes v_byteCount v_tokenStart f_bytes res X hK hA hret   FU v_place (1 : Int32) v_tokenValue hf H locs ls (lv_sub hl [0] rfl) hP hD hS

abbrev w_X2_takeNumber (E : Ev) (p_this : Nat) (p_bytes : Nat) (v_byteCount : Int32) (v_place : Int32) (v_token : Int32) (v_tokenStart : Int32) (v_tokenValue : Int32) (f_bytes : Nat → Int32) : va_W := [(p_this, .inr (2, [.ref p_bytes, .int v_byteCount, .int v_place, .int v_token, .int v_tokenStart, .int v_tokenValue])), (p_bytes, .inl (E.2.1, 180, .inl f_bytes))]
set_option maxHeartbeats 4000000 in
set_option maxRecDepth 100000 in
theorem b_X2_takeNumber_120 {p : Program} {l : Launch} {e : Env} {s : State} {m : MethodId} {args : Array Value} {below : List Frame} {meth : Method} {c : Code} {Q : State → Prop} {A : Nat → Prop} (E : Ev) (p_this : Nat) (p_bytes : Nat) (v_byteCount : Int32) (v_tokenStart : Int32) (f_bytes : Nat → Int32) (res : Int32 × Int32 × Int32) (X : Cx p s m args meth c cX2_takeNumber 2 RX2 none) (hK : KK E A s s.heap) (hA : ∀ q, s.heap.size ≤ q → A q) (hret : RetV p l e (RM 2) s m args below meth c Q E A cX2_takeNumber (w_X2_takeNumber E p_this p_bytes v_byteCount res.1 res.2.1 v_tokenStart res.2.2 f_bytes))  (v_place : Int32) (v_token : Int32) (v_tokenValue : Int32) (k0 : Int32) (hf : f_X2_takeNumber_120 v_byteCount v_tokenStart f_bytes   v_place v_token v_tokenValue k0 = some res) : ∀ (H : Heap) (locs : List Loc) (ls : Array Slot), lv_has ls 2 [] → va_P E.1 classes (w_X2_takeNumber E p_this p_bytes v_byteCount v_place v_token v_tokenStart v_tokenValue f_bytes) H → va_D A (w_X2_takeNumber E p_this p_bytes v_byteCount v_place v_token v_tokenStart v_tokenValue f_bytes) → va_S A s.heap H locs → W p l e (RM 2) s m args below meth c H locs 0 0 Q (F0 m 120 ls [.int k0, .ref p_this]) := by
  obtain ⟨hx, hb, hml, hown, hts, hrt, hlk⟩ := id X
  intro H locs ls hl hP hD hS
  unfold f_X2_takeNumber_120 at hf
  refine pf_RX2_30 X hK hP hD hS 0 rfl rfl dX2_takeNumber_120 (fun H locs hP hD hS => ?_)
  have hP : va_P E.1 classes (w_X2_takeNumber E p_this p_bytes v_byteCount v_place k0 v_tokenStart v_tokenValue f_bytes) H := hP
  have hD : va_D A (w_X2_takeNumber E p_this p_bytes v_byteCount v_place k0 v_tokenStart v_tokenValue f_bytes) := hD
  obtain rfl := Option.some.inj hf
  exact hret H locs _ ls hP hS dX2_takeNumber_123

set_option maxHeartbeats 4000000 in
set_option maxRecDepth 100000 in
theorem b_X2_takeNumber_115 {p : Program} {l : Launch} {e : Env} {s : State} {m : MethodId} {args : Array Value} {below : List Frame} {meth : Method} {c : Code} {Q : State → Prop} {A : Nat → Prop} (E : Ev) (p_this : Nat) (p_bytes : Nat) (v_byteCount : Int32) (v_tokenStart : Int32) (f_bytes : Nat → Int32) (res : Int32 × Int32 × Int32) (X : Cx p s m args meth c cX2_takeNumber 2 RX2 none) (hK : KK E A s s.heap) (hA : ∀ q, s.heap.size ≤ q → A q) (hret : RetV p l e (RM 2) s m args below meth c Q E A cX2_takeNumber (w_X2_takeNumber E p_this p_bytes v_byteCount res.1 res.2.1 v_tokenStart res.2.2 f_bytes))  (v_place : Int32) (v_token : Int32) (v_tokenValue : Int32) (hf : f_X2_takeNumber_115 v_byteCount v_tokenStart f_bytes   v_place v_token v_tokenValue = some res) : ∀ (H : Heap) (locs : List Loc) (ls : Array Slot), lv_has ls 2 [] → va_P E.1 classes (w_X2_takeNumber E p_this p_bytes v_byteCount v_place v_token v_tokenStart v_tokenValue f_bytes) H → va_D A (w_X2_takeNumber E p_this p_bytes v_byteCount v_place v_token v_tokenStart v_tokenValue f_bytes) → va_S A s.heap H locs → W p l e (RM 2) s m args below meth c H locs 0 0 Q (F0 m 115 ls [.ref p_this]) := by
  obtain ⟨hx, hb, hml, hown, hts, hrt, hlk⟩ := id X
  intro H locs ls hl hP hD hS
  unfold f_X2_takeNumber_115 at hf
  refine lv_iconst (v := (4 : Int32)) hx hb dX2_takeNumber_115 (by decide) ?_
  refine lv_goto (tgt := 120) hx hb dX2_takeNumber_116 (by decide) ?_
  exact b_X2_takeNumber_120 E p_this p_bytes v_byteCount v_tokenStart f_bytes res X hK hA hret   v_place v_token v_tokenValue (4 : Int32) hf H locs ls (lv_sub hl [] rfl) hP hD hS

set_option maxHeartbeats 4000000 in
set_option maxRecDepth 100000 in
theorem b_X2_takeNumber_100 {p : Program} {l : Launch} {e : Env} {s : State} {m : MethodId} {args : Array Value} {below : List Frame} {meth : Method} {c : Code} {Q : State → Prop} {A : Nat → Prop} (E : Ev) (p_this : Nat) (p_bytes : Nat) (v_byteCount : Int32) (v_tokenStart : Int32) (f_bytes : Nat → Int32) (res : Int32 × Int32 × Int32) (X : Cx p s m args meth c cX2_takeNumber 2 RX2 none) (hK : KK E A s s.heap) (hA : ∀ q, s.heap.size ≤ q → A q) (hret : RetV p l e (RM 2) s m args below meth c Q E A cX2_takeNumber (w_X2_takeNumber E p_this p_bytes v_byteCount res.1 res.2.1 v_tokenStart res.2.2 f_bytes))  (v_place : Int32) (v_token : Int32) (v_tokenValue : Int32) (k0 : Int32) (hf : f_X2_takeNumber_100 v_byteCount v_tokenStart f_bytes   v_place v_token v_tokenValue k0 = some res) : ∀ (H : Heap) (locs : List Loc) (ls : Array Slot), lv_has ls 2 [(0, .ref p_this)] → va_P E.1 classes (w_X2_takeNumber E p_this p_bytes v_byteCount v_place v_token v_tokenStart v_tokenValue f_bytes) H → va_D A (w_X2_takeNumber E p_this p_bytes v_byteCount v_place v_token v_tokenStart v_tokenValue f_bytes) → va_S A s.heap H locs → W p l e (RM 2) s m args below meth c H locs 0 0 Q (F0 m 100 ls [.int k0]) := by
  obtain ⟨hx, hb, hml, hown, hts, hrt, hlk⟩ := id X
  intro H locs ls hl hP hD hS
  unfold f_X2_takeNumber_100 at hf
  refine lv_istore_n (lv' := [(1, .int k0), (0, .ref p_this)]) hx hb dX2_takeNumber_100 rfl hl (by decide) rfl (fun ls hl => ?_)
  refine lv_aload_n hx hb dX2_takeNumber_101 rfl (lv_at hl 1 rfl) ?_
  refine lv_iload_n hx hb dX2_takeNumber_102 rfl (lv_at hl 0 rfl) ?_
  refine lv_if_ne (tgt := 115) hx hb dX2_takeNumber_103 (by decide) (fun c_1 => ?_) (fun c_1 => ?_)
  · replace hf := of c_1 hf
    exact b_X2_takeNumber_115 E p_this p_bytes v_byteCount v_tokenStart f_bytes res X hK hA hret   v_place v_token v_tokenValue hf H locs ls (lv_sub hl [] rfl) hP hD hS
  · replace hf := ot c_1 hf
    refine lv_aload_n hx hb dX2_takeNumber_106 rfl (lv_at hl 1 rfl) ?_
    refine gf_RX2_40 X hK hP 0 rfl rfl dX2_takeNumber_107 ?_
    refine lv_bipush (v := (99 : Int32)) hx hb dX2_takeNumber_110 (by decide) ?_
    refine lv_icmp_le (tgt := 119) hx hb dX2_takeNumber_112 (by decide) (fun c_2 => ?_) (fun c_2 => ?_)
    · replace hf := ot c_2 hf
      refine lv_iconst (v := (2 : Int32)) hx hb dX2_takeNumber_119 (by decide) ?_
      exact b_X2_takeNumber_120 E p_this p_bytes v_byteCount v_tokenStart f_bytes res X hK hA hret   v_place v_token v_tokenValue (2 : Int32) hf H locs ls (lv_sub hl [] rfl) hP hD hS
    · replace hf := of c_2 hf
      exact b_X2_takeNumber_115 E p_this p_bytes v_byteCount v_tokenStart f_bytes res X hK hA hret   v_place v_token v_tokenValue hf H locs ls (lv_sub hl [] rfl) hP hD hS

set_option maxHeartbeats 4000000 in
set_option maxRecDepth 100000 in
theorem b_X2_takeNumber_99 {p : Program} {l : Launch} {e : Env} {s : State} {m : MethodId} {args : Array Value} {below : List Frame} {meth : Method} {c : Code} {Q : State → Prop} {A : Nat → Prop} (E : Ev) (p_this : Nat) (p_bytes : Nat) (v_byteCount : Int32) (v_tokenStart : Int32) (f_bytes : Nat → Int32) (res : Int32 × Int32 × Int32) (X : Cx p s m args meth c cX2_takeNumber 2 RX2 none) (hK : KK E A s s.heap) (hA : ∀ q, s.heap.size ≤ q → A q) (hret : RetV p l e (RM 2) s m args below meth c Q E A cX2_takeNumber (w_X2_takeNumber E p_this p_bytes v_byteCount res.1 res.2.1 v_tokenStart res.2.2 f_bytes))  (v_place : Int32) (v_token : Int32) (v_tokenValue : Int32) (hf : f_X2_takeNumber_99 v_byteCount v_tokenStart f_bytes   v_place v_token v_tokenValue = some res) : ∀ (H : Heap) (locs : List Loc) (ls : Array Slot), lv_has ls 2 [(0, .ref p_this)] → va_P E.1 classes (w_X2_takeNumber E p_this p_bytes v_byteCount v_place v_token v_tokenStart v_tokenValue f_bytes) H → va_D A (w_X2_takeNumber E p_this p_bytes v_byteCount v_place v_token v_tokenStart v_tokenValue f_bytes) → va_S A s.heap H locs → W p l e (RM 2) s m args below meth c H locs 0 0 Q (F0 m 99 ls []) := by
  obtain ⟨hx, hb, hml, hown, hts, hrt, hlk⟩ := id X
  intro H locs ls hl hP hD hS
  unfold f_X2_takeNumber_99 at hf
  refine lv_iconst (v := (0 : Int32)) hx hb dX2_takeNumber_99 (by decide) ?_
  exact b_X2_takeNumber_100 E p_this p_bytes v_byteCount v_tokenStart f_bytes res X hK hA hret   v_place v_token v_tokenValue (0 : Int32) hf H locs ls (lv_sub hl [0] rfl) hP hD hS

set_option maxHeartbeats 4000000 in
set_option maxRecDepth 100000 in
theorem b_X2_takeNumber_68 {p : Program} {l : Launch} {e : Env} {s : State} {m : MethodId} {args : Array Value} {below : List Frame} {meth : Method} {c : Code} {Q : State → Prop} {A : Nat → Prop} (E : Ev) (p_this : Nat) (p_bytes : Nat) (v_byteCount : Int32) (v_tokenStart : Int32) (f_bytes : Nat → Int32) (res : Int32 × Int32 × Int32) (X : Cx p s m args meth c cX2_takeNumber 2 RX2 none) (hK : KK E A s s.heap) (hA : ∀ q, s.heap.size ≤ q → A q) (hret : RetV p l e (RM 2) s m args below meth c Q E A cX2_takeNumber (w_X2_takeNumber E p_this p_bytes v_byteCount res.1 res.2.1 v_tokenStart res.2.2 f_bytes))  (v_place : Int32) (v_token : Int32) (v_tokenValue : Int32) (hf : f_X2_takeNumber_68 v_byteCount v_tokenStart f_bytes   v_place v_token v_tokenValue = some res) : ∀ (H : Heap) (locs : List Loc) (ls : Array Slot), lv_has ls 2 [(0, .ref p_this)] → va_P E.1 classes (w_X2_takeNumber E p_this p_bytes v_byteCount v_place v_token v_tokenStart v_tokenValue f_bytes) H → va_D A (w_X2_takeNumber E p_this p_bytes v_byteCount v_place v_token v_tokenStart v_tokenValue f_bytes) → va_S A s.heap H locs → W p l e (RM 2) s m args below meth c H locs 0 0 Q (F0 m 68 ls []) := by
  obtain ⟨hx, hb, hml, hown, hts, hrt, hlk⟩ := id X
  intro H locs ls hl hP hD hS
  unfold f_X2_takeNumber_68 at hf
  refine lv_aload_n hx hb dX2_takeNumber_68 rfl (lv_at hl 0 rfl) ?_
  refine gf_RX2_19 X hK hP 0 rfl rfl dX2_takeNumber_69 ?_
  refine lv_aload_n hx hb dX2_takeNumber_72 rfl (lv_at hl 0 rfl) ?_
  refine gf_RX2_37 X hK hP 0 rfl rfl dX2_takeNumber_73 ?_
  refine lv_isub hx hb dX2_takeNumber_76 ?_
  refine lv_iconst (v := (1 : Int32)) hx hb dX2_takeNumber_77 (by decide) ?_
  refine lv_icmp_le (tgt := 99) hx hb dX2_takeNumber_78 (by decide) (fun c_1 => ?_) (fun c_1 => ?_)
  · replace hf := ot c_1 hf
    exact b_X2_takeNumber_99 E p_this p_bytes v_byteCount v_tokenStart f_bytes res X hK hA hret   v_place v_token v_tokenValue hf H locs ls (lv_sub hl [0] rfl) hP hD hS
  · replace hf := of c_1 hf
    refine lv_aload_n hx hb dX2_takeNumber_81 rfl (lv_at hl 0 rfl) ?_
    refine gf_RX2_11 X hK hP 0 rfl rfl dX2_takeNumber_82 ?_
    refine lv_aload_n hx hb dX2_takeNumber_85 rfl (lv_at hl 0 rfl) ?_
    refine gf_RX2_37 X hK hP 0 rfl rfl dX2_takeNumber_86 ?_
    obtain ⟨g_2, hf⟩ := og hf
    refine iald X hK hP 1 rfl _ rfl g_2 dX2_takeNumber_89 ?_
    refine lv_bipush (v := (48 : Int32)) hx hb dX2_takeNumber_90 (by decide) ?_
    refine lv_icmp_ne (tgt := 99) hx hb dX2_takeNumber_92 (by decide) (fun c_3 => ?_) (fun c_3 => ?_)
    · replace hf := of c_3 hf
      exact b_X2_takeNumber_99 E p_this p_bytes v_byteCount v_tokenStart f_bytes res X hK hA hret   v_place v_token v_tokenValue hf H locs ls (lv_sub hl [0] rfl) hP hD hS
    · replace hf := ot c_3 hf
      refine lv_iconst (v := (1 : Int32)) hx hb dX2_takeNumber_95 (by decide) ?_
      refine lv_goto (tgt := 100) hx hb dX2_takeNumber_96 (by decide) ?_
      exact b_X2_takeNumber_100 E p_this p_bytes v_byteCount v_tokenStart f_bytes res X hK hA hret   v_place v_token v_tokenValue (1 : Int32) hf H locs ls (lv_sub hl [0] rfl) hP hD hS

set_option maxHeartbeats 4000000 in
set_option maxRecDepth 100000 in
theorem b_X2_takeNumber_0 {p : Program} {l : Launch} {e : Env} {s : State} {m : MethodId} {args : Array Value} {below : List Frame} {meth : Method} {c : Code} {Q : State → Prop} {A : Nat → Prop} (E : Ev) (p_this : Nat) (p_bytes : Nat) (v_byteCount : Int32) (v_tokenStart : Int32) (f_bytes : Nat → Int32) (res : Int32 × Int32 × Int32) (X : Cx p s m args meth c cX2_takeNumber 2 RX2 none) (hK : KK E A s s.heap) (hA : ∀ q, s.heap.size ≤ q → A q) (hret : RetV p l e (RM 2) s m args below meth c Q E A cX2_takeNumber (w_X2_takeNumber E p_this p_bytes v_byteCount res.1 res.2.1 v_tokenStart res.2.2 f_bytes))  : ∀ (n : Nat) (v_place : Int32) (v_token : Int32) (v_tokenValue : Int32), f_X2_takeNumber_0 v_byteCount v_tokenStart f_bytes   n v_place v_token v_tokenValue = some res → ∀ (H : Heap) (locs : List Loc) (ls : Array Slot), lv_has ls 2 [(0, .ref p_this)] → va_P E.1 classes (w_X2_takeNumber E p_this p_bytes v_byteCount v_place v_token v_tokenStart v_tokenValue f_bytes) H → va_D A (w_X2_takeNumber E p_this p_bytes v_byteCount v_place v_token v_tokenStart v_tokenValue f_bytes) → va_S A s.heap H locs → W p l e (RM 2) s m args below meth c H locs 0 0 Q (F0 m 0 ls []) := by
  obtain ⟨hx, hb, hml, hown, hts, hrt, hlk⟩ := id X
  intro n
  induction n with
  | zero => intro v_place v_token v_tokenValue hf; exact absurd hf (by simp [f_X2_takeNumber_0])
  | succ n ih =>
    intro v_place v_token v_tokenValue hf H locs ls hl hP hD hS
    unfold f_X2_takeNumber_0 at hf
    refine lv_aload_n hx hb dX2_takeNumber_0 rfl (lv_at hl 0 rfl) ?_
    refine gf_RX2_19 X hK hP 0 rfl rfl dX2_takeNumber_1 ?_
    refine lv_aload_n hx hb dX2_takeNumber_4 rfl (lv_at hl 0 rfl) ?_
    refine gf_RX2_15 X hK hP 0 rfl rfl dX2_takeNumber_5 ?_
    refine lv_icmp_ge (tgt := 68) hx hb dX2_takeNumber_8 (by decide) (fun c_1 => ?_) (fun c_1 => ?_)
    · replace hf := ot c_1 hf
      exact b_X2_takeNumber_68 E p_this p_bytes v_byteCount v_tokenStart f_bytes res X hK hA hret   v_place v_token v_tokenValue hf H locs ls (lv_sub hl [0] rfl) hP hD hS
    · replace hf := of c_1 hf
      refine lv_aload_n hx hb dX2_takeNumber_11 rfl (lv_at hl 0 rfl) ?_
      refine gf_RX2_11 X hK hP 0 rfl rfl dX2_takeNumber_12 ?_
      refine lv_aload_n hx hb dX2_takeNumber_15 rfl (lv_at hl 0 rfl) ?_
      refine gf_RX2_19 X hK hP 0 rfl rfl dX2_takeNumber_16 ?_
      obtain ⟨g_2, hf⟩ := og hf
      refine iald X hK hP 1 rfl _ rfl g_2 dX2_takeNumber_19 ?_
      obtain ⟨u_3, hu_3, hf⟩ := ob hf
      refine pS X hK hA hP hS hl.1 (m_X2_isDigit (l := l) E   (f_bytes v_place.toNatClampNeg) u_3 hu_3) kRX2_91 ⟨⟨(Nat.le_of_ble_eq_true rfl), (Nat.le_of_ble_eq_true rfl)⟩, Nat.zero_le _, Nat.zero_le _⟩ rfl rfl (Nat.le_of_ble_eq_true rfl) dX2_takeNumber_20 (fun H locs hP hS => ?_)
      refine lv_if_eq (tgt := 68) hx hb dX2_takeNumber_23 (by decide) (fun c_4 => ?_) (fun c_4 => ?_)
      · replace hf := ot c_4 hf
        exact b_X2_takeNumber_68 E p_this p_bytes v_byteCount v_tokenStart f_bytes res X hK hA hret   v_place v_token v_tokenValue hf H locs ls (lv_sub hl [0] rfl) hP hD hS
      · replace hf := of c_4 hf
        refine lv_aload_n hx hb dX2_takeNumber_26 rfl (lv_at hl 0 rfl) ?_
        refine lv_aload_n hx hb dX2_takeNumber_27 rfl (lv_at hl 0 rfl) ?_
        refine gf_RX2_40 X hK hP 0 rfl rfl dX2_takeNumber_28 ?_
        refine lv_bipush (v := (10 : Int32)) hx hb dX2_takeNumber_31 (by decide) ?_
        refine lv_imul hx hb dX2_takeNumber_33 ?_
        refine lv_aload_n hx hb dX2_takeNumber_34 rfl (lv_at hl 0 rfl) ?_
        refine gf_RX2_11 X hK hP 0 rfl rfl dX2_takeNumber_35 ?_
        refine lv_aload_n hx hb dX2_takeNumber_38 rfl (lv_at hl 0 rfl) ?_
        refine gf_RX2_19 X hK hP 0 rfl rfl dX2_takeNumber_39 ?_
        obtain ⟨g_5, hf⟩ := og hf
        refine iald X hK hP 1 rfl _ rfl g_5 dX2_takeNumber_42 ?_
        refine lv_iadd hx hb dX2_takeNumber_43 ?_
        refine lv_bipush (v := (48 : Int32)) hx hb dX2_takeNumber_44 (by decide) ?_
        refine lv_isub hx hb dX2_takeNumber_46 ?_
        refine lv_bipush (v := (100 : Int32)) hx hb dX2_takeNumber_47 (by decide) ?_
        refine va_mmin hx hb (hml.trans hl.1.symm) hown (hts _ q242) (hts _ q243) (hts _ q54) (hts _ q244) (Nat.le_of_ble_eq_true rfl) (Nat.le_of_ble_eq_true rfl) (Nat.zero_le _) (Nat.zero_le _) dX2_takeNumber_49 ?_
        refine pf_RX2_40 X hK hP hD hS 0 rfl rfl dX2_takeNumber_52 (fun H locs hP hD hS => ?_)
        have hP : va_P E.1 classes (w_X2_takeNumber E p_this p_bytes v_byteCount v_place v_token v_tokenStart (if (100 : Int32) < (((v_tokenValue * (10 : Int32)) + (f_bytes v_place.toNatClampNeg)) - (48 : Int32)) then (100 : Int32) else (((v_tokenValue * (10 : Int32)) + (f_bytes v_place.toNatClampNeg)) - (48 : Int32))) f_bytes) H := hP
        have hD : va_D A (w_X2_takeNumber E p_this p_bytes v_byteCount v_place v_token v_tokenStart (if (100 : Int32) < (((v_tokenValue * (10 : Int32)) + (f_bytes v_place.toNatClampNeg)) - (48 : Int32)) then (100 : Int32) else (((v_tokenValue * (10 : Int32)) + (f_bytes v_place.toNatClampNeg)) - (48 : Int32))) f_bytes) := hD
        refine lv_aload_n hx hb dX2_takeNumber_55 rfl (lv_at hl 0 rfl) ?_
        refine lv_dup hx hb dX2_takeNumber_56 rfl ?_
        refine gf_RX2_19 X hK hP 0 rfl rfl dX2_takeNumber_57 ?_
        refine lv_iconst (v := (1 : Int32)) hx hb dX2_takeNumber_60 (by decide) ?_
        refine lv_iadd hx hb dX2_takeNumber_61 ?_
        refine pf_RX2_19 X hK hP hD hS 0 rfl rfl dX2_takeNumber_62 (fun H locs hP hD hS => ?_)
        have hP : va_P E.1 classes (w_X2_takeNumber E p_this p_bytes v_byteCount (v_place + (1 : Int32)) v_token v_tokenStart (if (100 : Int32) < (((v_tokenValue * (10 : Int32)) + (f_bytes v_place.toNatClampNeg)) - (48 : Int32)) then (100 : Int32) else (((v_tokenValue * (10 : Int32)) + (f_bytes v_place.toNatClampNeg)) - (48 : Int32))) f_bytes) H := hP
        have hD : va_D A (w_X2_takeNumber E p_this p_bytes v_byteCount (v_place + (1 : Int32)) v_token v_tokenStart (if (100 : Int32) < (((v_tokenValue * (10 : Int32)) + (f_bytes v_place.toNatClampNeg)) - (48 : Int32)) then (100 : Int32) else (((v_tokenValue * (10 : Int32)) + (f_bytes v_place.toNatClampNeg)) - (48 : Int32))) f_bytes) := hD
        refine lv_goto (tgt := 0) hx hb dX2_takeNumber_65 (by decide) ?_
        exact ih (v_place + (1 : Int32)) v_token (if (100 : Int32) < (((v_tokenValue * (10 : Int32)) + (f_bytes v_place.toNatClampNeg)) - (48 : Int32)) then (100 : Int32) else (((v_tokenValue * (10 : Int32)) + (f_bytes v_place.toNatClampNeg)) - (48 : Int32))) hf H locs ls (lv_sub hl [0] rfl) hP hD hS

set_option maxHeartbeats 4000000 in
set_option maxRecDepth 100000 in
theorem m_X2_takeNumber {l : Launch} (E : Ev) (p_this : Nat) (p_bytes : Nat) (v_byteCount : Int32) (v_place : Int32) (v_token : Int32) (v_tokenStart : Int32) (v_tokenValue : Int32) (f_bytes : Nat → Int32)  (res : Int32 × Int32 × Int32) (hf : f_X2_takeNumber  v_byteCount v_tokenStart f_bytes v_place v_token v_tokenValue  = some res) : MutV l E 2 yX2_takeNumber cX2_takeNumber 2 [.ref p_this] (w_X2_takeNumber E p_this p_bytes v_byteCount v_place v_token v_tokenStart v_tokenValue f_bytes) (w_X2_takeNumber E p_this p_bytes v_byteCount res.1 res.2.1 v_tokenStart res.2.2 f_bytes) := by
  refine MutV.of (by decide) (Nat.le_of_ble_eq_true rfl) ?_
  intro p e s m args below meth c Q A X hK hA hret H locs ls hl hP hD hS
  obtain ⟨hx, hb, hml, hown, hts, hrt, hlk⟩ := id X
  have hl : lv_has ls 2 [(0, .ref p_this)] := hl
  unfold f_X2_takeNumber at hf
  exact b_X2_takeNumber_0 E p_this p_bytes v_byteCount v_tokenStart f_bytes res X hK hA hret   FU v_place v_token v_tokenValue hf H locs ls (lv_sub hl [0] rfl) hP hD hS

abbrev w_X2_nextToken (E : Ev) (p_this : Nat) (p_bytes : Nat) (v_byteCount : Int32) (v_place : Int32) (v_token : Int32) (v_tokenStart : Int32) (v_tokenValue : Int32) (f_bytes : Nat → Int32) : va_W := [(p_this, .inr (2, [.ref p_bytes, .int v_byteCount, .int v_place, .int v_token, .int v_tokenStart, .int v_tokenValue])), (p_bytes, .inl (E.2.1, 180, .inl f_bytes))]
set_option maxHeartbeats 4000000 in
set_option maxRecDepth 100000 in
theorem b_X2_nextToken_134 {p : Program} {l : Launch} {e : Env} {s : State} {m : MethodId} {args : Array Value} {below : List Frame} {meth : Method} {c : Code} {Q : State → Prop} {A : Nat → Prop} (E : Ev) (p_this : Nat) (p_bytes : Nat) (v_byteCount : Int32) (f_bytes : Nat → Int32) (res : Int32 × Int32 × Int32 × Int32) (X : Cx p s m args meth c cX2_nextToken 1 RX2 none) (hK : KK E A s s.heap) (hA : ∀ q, s.heap.size ≤ q → A q) (hret : RetV p l e (RM 3) s m args below meth c Q E A cX2_nextToken (w_X2_nextToken E p_this p_bytes v_byteCount res.1 res.2.1 res.2.2.1 res.2.2.2 f_bytes))  (v_place : Int32) (v_token : Int32) (v_tokenStart : Int32) (v_tokenValue : Int32) (k0 : Int32) (hf : f_X2_nextToken_134 v_byteCount f_bytes   v_place v_token v_tokenStart v_tokenValue k0 = some res) : ∀ (H : Heap) (locs : List Loc) (ls : Array Slot), lv_has ls 1 [(0, .ref p_this)] → va_P E.1 classes (w_X2_nextToken E p_this p_bytes v_byteCount v_place v_token v_tokenStart v_tokenValue f_bytes) H → va_D A (w_X2_nextToken E p_this p_bytes v_byteCount v_place v_token v_tokenStart v_tokenValue f_bytes) → va_S A s.heap H locs → W p l e (RM 3) s m args below meth c H locs 0 0 Q (F0 m 134 ls [.int k0, .ref p_this]) := by
  obtain ⟨hx, hb, hml, hown, hts, hrt, hlk⟩ := id X
  intro H locs ls hl hP hD hS
  unfold f_X2_nextToken_134 at hf
  refine pf_RX2_30 X hK hP hD hS 0 rfl rfl dX2_nextToken_134 (fun H locs hP hD hS => ?_)
  have hP : va_P E.1 classes (w_X2_nextToken E p_this p_bytes v_byteCount v_place k0 v_tokenStart v_tokenValue f_bytes) H := hP
  have hD : va_D A (w_X2_nextToken E p_this p_bytes v_byteCount v_place k0 v_tokenStart v_tokenValue f_bytes) := hD
  refine lv_aload_n hx hb dX2_nextToken_137 rfl (lv_at hl 0 rfl) ?_
  refine lv_dup hx hb dX2_nextToken_138 rfl ?_
  refine gf_RX2_19 X hK hP 0 rfl rfl dX2_nextToken_139 ?_
  refine lv_iconst (v := (1 : Int32)) hx hb dX2_nextToken_142 (by decide) ?_
  refine lv_iadd hx hb dX2_nextToken_143 ?_
  refine pf_RX2_19 X hK hP hD hS 0 rfl rfl dX2_nextToken_144 (fun H locs hP hD hS => ?_)
  have hP : va_P E.1 classes (w_X2_nextToken E p_this p_bytes v_byteCount (v_place + (1 : Int32)) k0 v_tokenStart v_tokenValue f_bytes) H := hP
  have hD : va_D A (w_X2_nextToken E p_this p_bytes v_byteCount (v_place + (1 : Int32)) k0 v_tokenStart v_tokenValue f_bytes) := hD
  obtain rfl := Option.some.inj hf
  exact hret H locs _ ls hP hS dX2_nextToken_147

set_option maxHeartbeats 4000000 in
set_option maxRecDepth 100000 in
theorem b_X2_nextToken_38 {p : Program} {l : Launch} {e : Env} {s : State} {m : MethodId} {args : Array Value} {below : List Frame} {meth : Method} {c : Code} {Q : State → Prop} {A : Nat → Prop} (E : Ev) (p_this : Nat) (p_bytes : Nat) (v_byteCount : Int32) (f_bytes : Nat → Int32) (res : Int32 × Int32 × Int32 × Int32) (X : Cx p s m args meth c cX2_nextToken 1 RX2 none) (hK : KK E A s s.heap) (hA : ∀ q, s.heap.size ≤ q → A q) (hret : RetV p l e (RM 3) s m args below meth c Q E A cX2_nextToken (w_X2_nextToken E p_this p_bytes v_byteCount res.1 res.2.1 res.2.2.1 res.2.2.2 f_bytes))  (v_place : Int32) (v_token : Int32) (v_tokenStart : Int32) (v_tokenValue : Int32) (hf : f_X2_nextToken_38 v_byteCount f_bytes   v_place v_token v_tokenStart v_tokenValue = some res) : ∀ (H : Heap) (locs : List Loc) (ls : Array Slot), lv_has ls 1 [(0, .ref p_this)] → va_P E.1 classes (w_X2_nextToken E p_this p_bytes v_byteCount v_place v_token v_tokenStart v_tokenValue f_bytes) H → va_D A (w_X2_nextToken E p_this p_bytes v_byteCount v_place v_token v_tokenStart v_tokenValue f_bytes) → va_S A s.heap H locs → W p l e (RM 3) s m args below meth c H locs 0 0 Q (F0 m 38 ls []) := by
  obtain ⟨hx, hb, hml, hown, hts, hrt, hlk⟩ := id X
  intro H locs ls hl hP hD hS
  unfold f_X2_nextToken_38 at hf
  refine lv_aload_n hx hb dX2_nextToken_38 rfl (lv_at hl 0 rfl) ?_
  refine lv_aload_n hx hb dX2_nextToken_39 rfl (lv_at hl 0 rfl) ?_
  refine gf_RX2_19 X hK hP 0 rfl rfl dX2_nextToken_40 ?_
  refine pf_RX2_37 X hK hP hD hS 0 rfl rfl dX2_nextToken_43 (fun H locs hP hD hS => ?_)
  have hP : va_P E.1 classes (w_X2_nextToken E p_this p_bytes v_byteCount v_place v_token v_place v_tokenValue f_bytes) H := hP
  have hD : va_D A (w_X2_nextToken E p_this p_bytes v_byteCount v_place v_token v_place v_tokenValue f_bytes) := hD
  refine lv_aload_n hx hb dX2_nextToken_46 rfl (lv_at hl 0 rfl) ?_
  refine lv_iconst (v := (0 : Int32)) hx hb dX2_nextToken_47 (by decide) ?_
  refine pf_RX2_40 X hK hP hD hS 0 rfl rfl dX2_nextToken_48 (fun H locs hP hD hS => ?_)
  have hP : va_P E.1 classes (w_X2_nextToken E p_this p_bytes v_byteCount v_place v_token v_place (0 : Int32) f_bytes) H := hP
  have hD : va_D A (w_X2_nextToken E p_this p_bytes v_byteCount v_place v_token v_place (0 : Int32) f_bytes) := hD
  refine lv_aload_n hx hb dX2_nextToken_51 rfl (lv_at hl 0 rfl) ?_
  refine gf_RX2_19 X hK hP 0 rfl rfl dX2_nextToken_52 ?_
  refine lv_aload_n hx hb dX2_nextToken_55 rfl (lv_at hl 0 rfl) ?_
  refine gf_RX2_15 X hK hP 0 rfl rfl dX2_nextToken_56 ?_
  refine lv_icmp_lt (tgt := 70) hx hb dX2_nextToken_59 (by decide) (fun c_1 => ?_) (fun c_1 => ?_)
  · replace hf := ot c_1 hf
    refine lv_aload_n hx hb dX2_nextToken_70 rfl (lv_at hl 0 rfl) ?_
    refine gf_RX2_11 X hK hP 0 rfl rfl dX2_nextToken_71 ?_
    refine lv_aload_n hx hb dX2_nextToken_74 rfl (lv_at hl 0 rfl) ?_
    refine gf_RX2_19 X hK hP 0 rfl rfl dX2_nextToken_75 ?_
    obtain ⟨g_2, hf⟩ := og hf
    refine iald X hK hP 1 rfl _ rfl g_2 dX2_nextToken_78 ?_
    obtain ⟨u_3, hu_3, hf⟩ := ob hf
    refine pS X hK hA hP hS hl.1 (m_X2_isLetter (l := l) E   (f_bytes v_place.toNatClampNeg) u_3 hu_3) kRX2_84 ⟨⟨(Nat.le_of_ble_eq_true rfl), (Nat.le_of_ble_eq_true rfl)⟩, Nat.zero_le _, Nat.zero_le _⟩ rfl rfl (Nat.le_of_ble_eq_true rfl) dX2_nextToken_79 (fun H locs hP hS => ?_)
    refine lv_if_eq (tgt := 92) hx hb dX2_nextToken_82 (by decide) (fun c_4 => ?_) (fun c_4 => ?_)
    · replace hf := ot c_4 hf
      refine lv_aload_n hx hb dX2_nextToken_92 rfl (lv_at hl 0 rfl) ?_
      refine gf_RX2_11 X hK hP 0 rfl rfl dX2_nextToken_93 ?_
      refine lv_aload_n hx hb dX2_nextToken_96 rfl (lv_at hl 0 rfl) ?_
      refine gf_RX2_19 X hK hP 0 rfl rfl dX2_nextToken_97 ?_
      obtain ⟨g_5, hf⟩ := og hf
      refine iald X hK hP 1 rfl _ rfl g_5 dX2_nextToken_100 ?_
      obtain ⟨u_6, hu_6, hf⟩ := ob hf
      refine pS X hK hA hP hS hl.1 (m_X2_isDigit (l := l) E   (f_bytes v_place.toNatClampNeg) u_6 hu_6) kRX2_91 ⟨⟨(Nat.le_of_ble_eq_true rfl), (Nat.le_of_ble_eq_true rfl)⟩, Nat.zero_le _, Nat.zero_le _⟩ rfl rfl (Nat.le_of_ble_eq_true rfl) dX2_nextToken_101 (fun H locs hP hS => ?_)
      refine lv_if_eq (tgt := 114) hx hb dX2_nextToken_104 (by decide) (fun c_7 => ?_) (fun c_7 => ?_)
      · replace hf := ot c_7 hf
        refine lv_aload_n hx hb dX2_nextToken_114 rfl (lv_at hl 0 rfl) ?_
        refine lv_aload_n hx hb dX2_nextToken_115 rfl (lv_at hl 0 rfl) ?_
        refine gf_RX2_11 X hK hP 0 rfl rfl dX2_nextToken_116 ?_
        refine lv_aload_n hx hb dX2_nextToken_119 rfl (lv_at hl 0 rfl) ?_
        refine gf_RX2_19 X hK hP 0 rfl rfl dX2_nextToken_120 ?_
        obtain ⟨g_8, hf⟩ := og hf
        refine iald X hK hP 1 rfl _ rfl g_8 dX2_nextToken_123 ?_
        refine lv_bipush (v := (59 : Int32)) hx hb dX2_nextToken_124 (by decide) ?_
        refine lv_icmp_ne (tgt := 133) hx hb dX2_nextToken_126 (by decide) (fun c_9 => ?_) (fun c_9 => ?_)
        · replace hf := of c_9 hf
          refine lv_iconst (v := (4 : Int32)) hx hb dX2_nextToken_133 (by decide) ?_
          exact b_X2_nextToken_134 E p_this p_bytes v_byteCount f_bytes res X hK hA hret   v_place v_token v_place (0 : Int32) (4 : Int32) hf H locs ls (lv_sub hl [0] rfl) hP hD hS
        · replace hf := ot c_9 hf
          refine lv_iconst (v := (3 : Int32)) hx hb dX2_nextToken_129 (by decide) ?_
          refine lv_goto (tgt := 134) hx hb dX2_nextToken_130 (by decide) ?_
          exact b_X2_nextToken_134 E p_this p_bytes v_byteCount f_bytes res X hK hA hret   v_place v_token v_place (0 : Int32) (3 : Int32) hf H locs ls (lv_sub hl [0] rfl) hP hD hS
      · replace hf := of c_7 hf
        refine lv_aload_n hx hb dX2_nextToken_107 rfl (lv_at hl 0 rfl) ?_
        obtain ⟨u_10, hu_10, hf⟩ := ob hf
        refine mVv X hK hA hP hD hS hl.1 (m_X2_takeNumber (l := l) E p_this p_bytes v_byteCount v_place v_token v_place (0 : Int32) f_bytes  u_10 hu_10) kRX2_94 [0, 1] rfl rfl (by simp only [w_X2_takeNumber, List.map]) rfl rfl rfl ⟨⟨(Nat.le_of_ble_eq_true rfl), (Nat.le_of_ble_eq_true rfl)⟩, Nat.zero_le _, Nat.zero_le _⟩ rfl rfl (Nat.le_of_ble_eq_true rfl) dX2_nextToken_108 (fun H locs hP hD hS => ?_)
        have hP : va_P E.1 classes (w_X2_nextToken E p_this p_bytes v_byteCount u_10.1 u_10.2.1 v_place u_10.2.2 f_bytes) H := hP
        have hD : va_D A (w_X2_nextToken E p_this p_bytes v_byteCount u_10.1 u_10.2.1 v_place u_10.2.2 f_bytes) := hD
        refine lv_goto (tgt := 147) hx hb dX2_nextToken_111 (by decide) ?_
        obtain rfl := Option.some.inj hf
        exact hret H locs _ ls hP hS dX2_nextToken_147
    · replace hf := of c_4 hf
      refine lv_aload_n hx hb dX2_nextToken_85 rfl (lv_at hl 0 rfl) ?_
      obtain ⟨u_11, hu_11, hf⟩ := ob hf
      refine mVv X hK hA hP hD hS hl.1 (m_X2_takeLetters (l := l) E p_this p_bytes v_byteCount v_place v_token v_place (0 : Int32) f_bytes  u_11 hu_11) kRX2_88 [0, 1] rfl rfl (by simp only [w_X2_takeLetters, List.map]) rfl rfl rfl ⟨⟨(Nat.le_of_ble_eq_true rfl), (Nat.le_of_ble_eq_true rfl)⟩, Nat.zero_le _, Nat.zero_le _⟩ rfl rfl (Nat.le_of_ble_eq_true rfl) dX2_nextToken_86 (fun H locs hP hD hS => ?_)
      have hP : va_P E.1 classes (w_X2_nextToken E p_this p_bytes v_byteCount u_11.1 u_11.2.1 v_place u_11.2.2 f_bytes) H := hP
      have hD : va_D A (w_X2_nextToken E p_this p_bytes v_byteCount u_11.1 u_11.2.1 v_place u_11.2.2 f_bytes) := hD
      refine lv_goto (tgt := 147) hx hb dX2_nextToken_89 (by decide) ?_
      obtain rfl := Option.some.inj hf
      exact hret H locs _ ls hP hS dX2_nextToken_147
  · replace hf := of c_1 hf
    refine lv_aload_n hx hb dX2_nextToken_62 rfl (lv_at hl 0 rfl) ?_
    refine lv_iconst (v := (0 : Int32)) hx hb dX2_nextToken_63 (by decide) ?_
    refine pf_RX2_30 X hK hP hD hS 0 rfl rfl dX2_nextToken_64 (fun H locs hP hD hS => ?_)
    have hP : va_P E.1 classes (w_X2_nextToken E p_this p_bytes v_byteCount v_place (0 : Int32) v_place (0 : Int32) f_bytes) H := hP
    have hD : va_D A (w_X2_nextToken E p_this p_bytes v_byteCount v_place (0 : Int32) v_place (0 : Int32) f_bytes) := hD
    refine lv_goto (tgt := 147) hx hb dX2_nextToken_67 (by decide) ?_
    obtain rfl := Option.some.inj hf
    exact hret H locs _ ls hP hS dX2_nextToken_147

set_option maxHeartbeats 4000000 in
set_option maxRecDepth 100000 in
theorem b_X2_nextToken_0 {p : Program} {l : Launch} {e : Env} {s : State} {m : MethodId} {args : Array Value} {below : List Frame} {meth : Method} {c : Code} {Q : State → Prop} {A : Nat → Prop} (E : Ev) (p_this : Nat) (p_bytes : Nat) (v_byteCount : Int32) (f_bytes : Nat → Int32) (res : Int32 × Int32 × Int32 × Int32) (X : Cx p s m args meth c cX2_nextToken 1 RX2 none) (hK : KK E A s s.heap) (hA : ∀ q, s.heap.size ≤ q → A q) (hret : RetV p l e (RM 3) s m args below meth c Q E A cX2_nextToken (w_X2_nextToken E p_this p_bytes v_byteCount res.1 res.2.1 res.2.2.1 res.2.2.2 f_bytes))  : ∀ (n : Nat) (v_place : Int32) (v_token : Int32) (v_tokenStart : Int32) (v_tokenValue : Int32), f_X2_nextToken_0 v_byteCount f_bytes   n v_place v_token v_tokenStart v_tokenValue = some res → ∀ (H : Heap) (locs : List Loc) (ls : Array Slot), lv_has ls 1 [(0, .ref p_this)] → va_P E.1 classes (w_X2_nextToken E p_this p_bytes v_byteCount v_place v_token v_tokenStart v_tokenValue f_bytes) H → va_D A (w_X2_nextToken E p_this p_bytes v_byteCount v_place v_token v_tokenStart v_tokenValue f_bytes) → va_S A s.heap H locs → W p l e (RM 3) s m args below meth c H locs 0 0 Q (F0 m 0 ls []) := by
  obtain ⟨hx, hb, hml, hown, hts, hrt, hlk⟩ := id X
  intro n
  induction n with
  | zero => intro v_place v_token v_tokenStart v_tokenValue hf; exact absurd hf (by simp [f_X2_nextToken_0])
  | succ n ih =>
    intro v_place v_token v_tokenStart v_tokenValue hf H locs ls hl hP hD hS
    unfold f_X2_nextToken_0 at hf
    refine lv_aload_n hx hb dX2_nextToken_0 rfl (lv_at hl 0 rfl) ?_
    refine gf_RX2_19 X hK hP 0 rfl rfl dX2_nextToken_1 ?_
    refine lv_aload_n hx hb dX2_nextToken_4 rfl (lv_at hl 0 rfl) ?_
    refine gf_RX2_15 X hK hP 0 rfl rfl dX2_nextToken_5 ?_
    refine lv_icmp_ge (tgt := 38) hx hb dX2_nextToken_8 (by decide) (fun c_1 => ?_) (fun c_1 => ?_)
    · replace hf := ot c_1 hf
      exact b_X2_nextToken_38 E p_this p_bytes v_byteCount f_bytes res X hK hA hret   v_place v_token v_tokenStart v_tokenValue hf H locs ls (lv_sub hl [0] rfl) hP hD hS
    · replace hf := of c_1 hf
      refine lv_aload_n hx hb dX2_nextToken_11 rfl (lv_at hl 0 rfl) ?_
      refine gf_RX2_11 X hK hP 0 rfl rfl dX2_nextToken_12 ?_
      refine lv_aload_n hx hb dX2_nextToken_15 rfl (lv_at hl 0 rfl) ?_
      refine gf_RX2_19 X hK hP 0 rfl rfl dX2_nextToken_16 ?_
      obtain ⟨g_2, hf⟩ := og hf
      refine iald X hK hP 1 rfl _ rfl g_2 dX2_nextToken_19 ?_
      refine lv_bipush (v := (32 : Int32)) hx hb dX2_nextToken_20 (by decide) ?_
      refine lv_icmp_ne (tgt := 38) hx hb dX2_nextToken_22 (by decide) (fun c_3 => ?_) (fun c_3 => ?_)
      · replace hf := of c_3 hf
        exact b_X2_nextToken_38 E p_this p_bytes v_byteCount f_bytes res X hK hA hret   v_place v_token v_tokenStart v_tokenValue hf H locs ls (lv_sub hl [0] rfl) hP hD hS
      · replace hf := ot c_3 hf
        refine lv_aload_n hx hb dX2_nextToken_25 rfl (lv_at hl 0 rfl) ?_
        refine lv_dup hx hb dX2_nextToken_26 rfl ?_
        refine gf_RX2_19 X hK hP 0 rfl rfl dX2_nextToken_27 ?_
        refine lv_iconst (v := (1 : Int32)) hx hb dX2_nextToken_30 (by decide) ?_
        refine lv_iadd hx hb dX2_nextToken_31 ?_
        refine pf_RX2_19 X hK hP hD hS 0 rfl rfl dX2_nextToken_32 (fun H locs hP hD hS => ?_)
        have hP : va_P E.1 classes (w_X2_nextToken E p_this p_bytes v_byteCount (v_place + (1 : Int32)) v_token v_tokenStart v_tokenValue f_bytes) H := hP
        have hD : va_D A (w_X2_nextToken E p_this p_bytes v_byteCount (v_place + (1 : Int32)) v_token v_tokenStart v_tokenValue f_bytes) := hD
        refine lv_goto (tgt := 0) hx hb dX2_nextToken_35 (by decide) ?_
        exact ih (v_place + (1 : Int32)) v_token v_tokenStart v_tokenValue hf H locs ls (lv_sub hl [0] rfl) hP hD hS

set_option maxHeartbeats 4000000 in
set_option maxRecDepth 100000 in
theorem m_X2_nextToken {l : Launch} (E : Ev) (p_this : Nat) (p_bytes : Nat) (v_byteCount : Int32) (v_place : Int32) (v_token : Int32) (v_tokenStart : Int32) (v_tokenValue : Int32) (f_bytes : Nat → Int32)  (res : Int32 × Int32 × Int32 × Int32) (hf : f_X2_nextToken  v_byteCount f_bytes v_place v_token v_tokenStart v_tokenValue  = some res) : MutV l E 3 yX2_nextToken cX2_nextToken 1 [.ref p_this] (w_X2_nextToken E p_this p_bytes v_byteCount v_place v_token v_tokenStart v_tokenValue f_bytes) (w_X2_nextToken E p_this p_bytes v_byteCount res.1 res.2.1 res.2.2.1 res.2.2.2 f_bytes) := by
  refine MutV.of (by decide) (Nat.le_of_ble_eq_true rfl) ?_
  intro p e s m args below meth c Q A X hK hA hret H locs ls hl hP hD hS
  obtain ⟨hx, hb, hml, hown, hts, hrt, hlk⟩ := id X
  have hl : lv_has ls 1 [(0, .ref p_this)] := hl
  unfold f_X2_nextToken at hf
  exact b_X2_nextToken_0 E p_this p_bytes v_byteCount f_bytes res X hK hA hret   FU v_place v_token v_tokenStart v_tokenValue hf H locs ls (lv_sub hl [0] rfl) hP hD hS

abbrev w_X2_isNumberWithin (E : Ev) (p_this : Nat) (p_bytes : Nat) (v_byteCount : Int32) (v_place : Int32) (v_token : Int32) (v_tokenStart : Int32) (v_tokenValue : Int32) : va_W := [(p_this, .inr (2, [.ref p_bytes, .int v_byteCount, .int v_place, .int v_token, .int v_tokenStart, .int v_tokenValue]))]
set_option maxHeartbeats 4000000 in
set_option maxRecDepth 100000 in
theorem m_X2_isNumberWithin {l : Launch} (E : Ev) (p_this : Nat) (p_bytes : Nat) (v_byteCount : Int32) (v_place : Int32) (v_token : Int32) (v_tokenStart : Int32) (v_tokenValue : Int32) (x1 : Int32) (x2 : Int32) (res : Int32) (hf : f_X2_isNumberWithin  v_token v_tokenValue x1 x2 = some res) : PureI l E 1 yX2_isNumberWithin cX2_isNumberWithin 3 .boolean [.ref p_this, .int x1, .int x2] (w_X2_isNumberWithin E p_this p_bytes v_byteCount v_place v_token v_tokenStart v_tokenValue) res := by
  refine PureI.of (by decide) (Nat.le_of_ble_eq_true rfl) ?_
  intro p e s m args below meth c Q A X hK hA hret H locs ls hl hP hS
  obtain ⟨hx, hb, hml, hown, hts, hrt, hlk⟩ := id X
  have hl : lv_has ls 3 [(0, .ref p_this), (1, .int x1), (2, .int x2)] := hl
  unfold f_X2_isNumberWithin at hf
  refine lv_aload_n hx hb dX2_isNumberWithin_0 rfl (lv_at hl 0 rfl) ?_
  refine gf_RX2_30 X hK hP 0 rfl rfl dX2_isNumberWithin_1 ?_
  refine lv_iconst (v := (2 : Int32)) hx hb dX2_isNumberWithin_4 (by decide) ?_
  refine lv_icmp_ne (tgt := 28) hx hb dX2_isNumberWithin_5 (by decide) (fun c_1 => ?_) (fun c_1 => ?_)
  · replace hf := of c_1 hf
    refine lv_iconst (v := (0 : Int32)) hx hb dX2_isNumberWithin_28 (by decide) ?_
    obtain rfl := Option.some.inj hf
    exact hret H locs _ ls nar0 hP hS dX2_isNumberWithin_29
  · replace hf := ot c_1 hf
    refine lv_aload_n hx hb dX2_isNumberWithin_8 rfl (lv_at hl 0 rfl) ?_
    refine gf_RX2_40 X hK hP 0 rfl rfl dX2_isNumberWithin_9 ?_
    refine lv_iload_n hx hb dX2_isNumberWithin_12 rfl (lv_at hl 1 rfl) ?_
    refine lv_icmp_lt (tgt := 28) hx hb dX2_isNumberWithin_13 (by decide) (fun c_2 => ?_) (fun c_2 => ?_)
    · replace hf := ot c_2 hf
      refine lv_iconst (v := (0 : Int32)) hx hb dX2_isNumberWithin_28 (by decide) ?_
      obtain rfl := Option.some.inj hf
      exact hret H locs _ ls nar0 hP hS dX2_isNumberWithin_29
    · replace hf := of c_2 hf
      refine lv_aload_n hx hb dX2_isNumberWithin_16 rfl (lv_at hl 0 rfl) ?_
      refine gf_RX2_40 X hK hP 0 rfl rfl dX2_isNumberWithin_17 ?_
      refine lv_iload_n hx hb dX2_isNumberWithin_20 rfl (lv_at hl 2 rfl) ?_
      refine lv_icmp_gt (tgt := 28) hx hb dX2_isNumberWithin_21 (by decide) (fun c_3 => ?_) (fun c_3 => ?_)
      · replace hf := ot c_3 hf
        refine lv_iconst (v := (0 : Int32)) hx hb dX2_isNumberWithin_28 (by decide) ?_
        obtain rfl := Option.some.inj hf
        exact hret H locs _ ls nar0 hP hS dX2_isNumberWithin_29
      · replace hf := of c_3 hf
        refine lv_iconst (v := (1 : Int32)) hx hb dX2_isNumberWithin_24 (by decide) ?_
        refine lv_goto (tgt := 29) hx hb dX2_isNumberWithin_25 (by decide) ?_
        obtain rfl := Option.some.inj hf
        exact hret H locs _ ls nar1 hP hS dX2_isNumberWithin_29

abbrev w_X2_readDoughNumbers (E : Ev) (p_this : Nat) (p_bytes : Nat) (p_a1 : Nat) (p_a1_ovenNumbers : Nat) (p_a1_doughNumbers : Nat) (v_byteCount : Int32) (v_place : Int32) (v_token : Int32) (v_tokenStart : Int32) (v_tokenValue : Int32) (v_a1_ovenCount : Int32) (v_a1_doughCount : Int32) (f_bytes : Nat → Int32) (f_a1_doughNumbers : Nat → Int32) : va_W := [(p_this, .inr (2, [.ref p_bytes, .int v_byteCount, .int v_place, .int v_token, .int v_tokenStart, .int v_tokenValue])), (p_bytes, .inl (E.2.1, 180, .inl f_bytes)), (p_a1, .inr (3, [.ref p_a1_ovenNumbers, .ref p_a1_doughNumbers, .int v_a1_ovenCount, .int v_a1_doughCount])), (p_a1_doughNumbers, .inl (E.2.1, 30, .inl f_a1_doughNumbers))]
set_option maxHeartbeats 4000000 in
set_option maxRecDepth 100000 in
theorem b_X2_readDoughNumbers_35 {p : Program} {l : Launch} {e : Env} {s : State} {m : MethodId} {args : Array Value} {below : List Frame} {meth : Method} {c : Code} {Q : State → Prop} {A : Nat → Prop} (E : Ev) (p_this : Nat) (p_bytes : Nat) (p_a1 : Nat) (p_a1_ovenNumbers : Nat) (p_a1_doughNumbers : Nat) (v_byteCount : Int32) (v_a1_ovenCount : Int32) (v_a1_doughCount : Int32) (f_bytes : Nat → Int32) (res : Int32 × Int32 × Int32 × Int32 × Int32 × (Nat → Int32)) (X : Cx p s m args meth c cX2_readDoughNumbers 4 RX2 (some .boolean)) (hK : KK E A s s.heap) (hA : ∀ q, s.heap.size ≤ q → A q) (hret : RetI p l e (RM 4) s m args below meth c Q E A cX2_readDoughNumbers .boolean (w_X2_readDoughNumbers E p_this p_bytes p_a1 p_a1_ovenNumbers p_a1_doughNumbers v_byteCount res.2.1 res.2.2.1 res.2.2.2.1 res.2.2.2.2.1 v_a1_ovenCount v_a1_doughCount f_bytes res.2.2.2.2.2) res.1) (K6 : Int32 → Int32 → Int32 → Int32 → (Nat → Int32) → Int32 → Option (Int32 × Int32 × Int32 × Int32 × Int32 × (Nat → Int32))) (hK6 : ∀ (v_place : Int32) (v_token : Int32) (v_tokenStart : Int32) (v_tokenValue : Int32) (f_a1_doughNumbers : Nat → Int32) (x2 : Int32), K6 v_place v_token v_tokenStart v_tokenValue f_a1_doughNumbers x2 = some res → ∀ (H : Heap) (locs : List Loc) (ls : Array Slot), lv_has ls 4 [(0, .ref p_this), (1, .ref p_a1), (2, .int x2)] → va_P E.1 classes (w_X2_readDoughNumbers E p_this p_bytes p_a1 p_a1_ovenNumbers p_a1_doughNumbers v_byteCount v_place v_token v_tokenStart v_tokenValue v_a1_ovenCount v_a1_doughCount f_bytes f_a1_doughNumbers) H → va_D A (w_X2_readDoughNumbers E p_this p_bytes p_a1 p_a1_ovenNumbers p_a1_doughNumbers v_byteCount v_place v_token v_tokenStart v_tokenValue v_a1_ovenCount v_a1_doughCount f_bytes f_a1_doughNumbers) → va_S A s.heap H locs → W p l e (RM 4) s m args below meth c H locs 0 0 Q (F0 m 6 ls [])) (v_place : Int32) (v_token : Int32) (v_tokenStart : Int32) (v_tokenValue : Int32) (f_a1_doughNumbers : Nat → Int32) (x2 : Int32) (k0 : Int32) (hf : f_X2_readDoughNumbers_35 v_byteCount v_a1_doughCount f_bytes  K6 v_place v_token v_tokenStart v_tokenValue f_a1_doughNumbers x2 k0 = some res) : ∀ (H : Heap) (locs : List Loc) (ls : Array Slot), lv_has ls 4 [(0, .ref p_this), (1, .ref p_a1), (2, .int x2)] → va_P E.1 classes (w_X2_readDoughNumbers E p_this p_bytes p_a1 p_a1_ovenNumbers p_a1_doughNumbers v_byteCount v_place v_token v_tokenStart v_tokenValue v_a1_ovenCount v_a1_doughCount f_bytes f_a1_doughNumbers) H → va_D A (w_X2_readDoughNumbers E p_this p_bytes p_a1 p_a1_ovenNumbers p_a1_doughNumbers v_byteCount v_place v_token v_tokenStart v_tokenValue v_a1_ovenCount v_a1_doughCount f_bytes f_a1_doughNumbers) → va_S A s.heap H locs → W p l e (RM 4) s m args below meth c H locs 0 0 Q (F0 m 35 ls [.int k0]) := by
  obtain ⟨hx, hb, hml, hown, hts, hrt, hlk⟩ := id X
  intro H locs ls hl hP hD hS
  unfold f_X2_readDoughNumbers_35 at hf
  refine lv_istore_n (lv' := [(3, .int k0), (0, .ref p_this), (1, .ref p_a1), (2, .int x2)]) hx hb dX2_readDoughNumbers_35 rfl hl (by decide) rfl (fun ls hl => ?_)
  refine lv_aload_n hx hb dX2_readDoughNumbers_36 rfl (lv_at hl 1 rfl) ?_
  refine lv_iload_n hx hb dX2_readDoughNumbers_37 rfl (lv_at hl 0 rfl) ?_
  refine va_gets hx hb hK.2.2.2.2.1 hS hown (hts _ q289) (fun _ h => h) dX2_readDoughNumbers_38 ?_
  refine lv_iload_n hx hb dX2_readDoughNumbers_41 rfl (lv_at hl 3 rfl) ?_
  obtain ⟨g_1, hf⟩ := og hf
  refine va_ti (v := .int (tM5 x2.toNatClampNeg)) hx hb hK.2.2.2.2.2 hS g_1 rfl dX2_readDoughNumbers_42 ?_
  obtain ⟨u_2, hu_2, hf⟩ := ob hf
  refine pV X hK hA hP hS hl.1 (m_X2_isNumberWithin (l := l) E p_this p_bytes v_byteCount v_place v_token v_tokenStart v_tokenValue k0 (tM5 x2.toNatClampNeg) u_2 hu_2) kRX2_59 [0] rfl rfl rfl rfl ⟨⟨(Nat.le_of_ble_eq_true rfl), (Nat.le_of_ble_eq_true rfl)⟩, Nat.zero_le _, Nat.zero_le _⟩ rfl rfl (Nat.le_of_ble_eq_true rfl) dX2_readDoughNumbers_43 (fun H locs hP hS => ?_)
  refine lv_if_ne (tgt := 51) hx hb dX2_readDoughNumbers_46 (by decide) (fun c_3 => ?_) (fun c_3 => ?_)
  · replace hf := of c_3 hf
    refine lv_aload_n hx hb dX2_readDoughNumbers_51 rfl (lv_at hl 2 rfl) ?_
    refine lv_iload_n hx hb dX2_readDoughNumbers_52 rfl (lv_at hl 3 rfl) ?_
    refine lv_aload_n hx hb dX2_readDoughNumbers_53 rfl (lv_at hl 1 rfl) ?_
    refine gf_RX2_40 X hK hP 0 rfl rfl dX2_readDoughNumbers_54 ?_
    obtain ⟨u_4, hu_4, hf⟩ := ob hf
    refine mVv X hK hA hP hD hS hl.1 (m_X3_setOfLastDough (l := l) E p_a1 p_a1_ovenNumbers p_a1_doughNumbers v_a1_ovenCount v_a1_doughCount f_a1_doughNumbers x2 v_tokenValue u_4 hu_4) kRX2_81 [2, 3] rfl rfl (by simp only [w_X3_setOfLastDough, List.map]) rfl rfl rfl ⟨⟨(Nat.le_of_ble_eq_true rfl), (Nat.le_of_ble_eq_true rfl)⟩, Nat.zero_le _, Nat.zero_le _⟩ rfl rfl (Nat.le_of_ble_eq_true rfl) dX2_readDoughNumbers_57 (fun H locs hP hD hS => ?_)
    have hP : va_P E.1 classes (w_X2_readDoughNumbers E p_this p_bytes p_a1 p_a1_ovenNumbers p_a1_doughNumbers v_byteCount v_place v_token v_tokenStart v_tokenValue v_a1_ovenCount v_a1_doughCount f_bytes u_4) H := hP
    have hD : va_D A (w_X2_readDoughNumbers E p_this p_bytes p_a1 p_a1_ovenNumbers p_a1_doughNumbers v_byteCount v_place v_token v_tokenStart v_tokenValue v_a1_ovenCount v_a1_doughCount f_bytes u_4) := hD
    refine lv_aload_n hx hb dX2_readDoughNumbers_60 rfl (lv_at hl 1 rfl) ?_
    obtain ⟨u_5, hu_5, hf⟩ := ob hf
    refine mVv X hK hA hP hD hS hl.1 (m_X2_nextToken (l := l) E p_this p_bytes v_byteCount v_place v_token v_tokenStart v_tokenValue f_bytes  u_5 hu_5) kRX2_27 [0, 1] rfl rfl (by simp only [w_X2_nextToken, List.map]) rfl rfl rfl ⟨⟨(Nat.le_of_ble_eq_true rfl), (Nat.le_of_ble_eq_true rfl)⟩, Nat.zero_le _, Nat.zero_le _⟩ rfl rfl (Nat.le_of_ble_eq_true rfl) dX2_readDoughNumbers_61 (fun H locs hP hD hS => ?_)
    have hP : va_P E.1 classes (w_X2_readDoughNumbers E p_this p_bytes p_a1 p_a1_ovenNumbers p_a1_doughNumbers v_byteCount u_5.1 u_5.2.1 u_5.2.2.1 u_5.2.2.2 v_a1_ovenCount v_a1_doughCount f_bytes u_4) H := hP
    have hD : va_D A (w_X2_readDoughNumbers E p_this p_bytes p_a1 p_a1_ovenNumbers p_a1_doughNumbers v_byteCount u_5.1 u_5.2.1 u_5.2.2.1 u_5.2.2.2 v_a1_ovenCount v_a1_doughCount f_bytes u_4) := hD
    refine lv_iinc (v := (x2 + (1 : Int32))) (lv' := [(2, .int (x2 + (1 : Int32))), (3, .int k0), (0, .ref p_this), (1, .ref p_a1)]) hx hb dX2_readDoughNumbers_64 hl (k := 3) rfl rfl (by decide) rfl (fun ls hl => ?_)
    refine lv_goto (tgt := 6) hx hb dX2_readDoughNumbers_67 (by decide) ?_
    exact hK6 u_5.1 u_5.2.1 u_5.2.2.1 u_5.2.2.2 u_4 (x2 + (1 : Int32)) hf H locs ls (lv_sub hl [2, 3, 0] rfl) hP hD hS
  · replace hf := ot c_3 hf
    refine lv_iconst (v := (0 : Int32)) hx hb dX2_readDoughNumbers_49 (by decide) ?_
    obtain rfl := Option.some.inj hf
    exact hret H locs _ ls nar0 hP hS dX2_readDoughNumbers_50

set_option maxHeartbeats 4000000 in
set_option maxRecDepth 100000 in
theorem b_X2_readDoughNumbers_6 {p : Program} {l : Launch} {e : Env} {s : State} {m : MethodId} {args : Array Value} {below : List Frame} {meth : Method} {c : Code} {Q : State → Prop} {A : Nat → Prop} (E : Ev) (p_this : Nat) (p_bytes : Nat) (p_a1 : Nat) (p_a1_ovenNumbers : Nat) (p_a1_doughNumbers : Nat) (v_byteCount : Int32) (v_a1_ovenCount : Int32) (v_a1_doughCount : Int32) (f_bytes : Nat → Int32) (res : Int32 × Int32 × Int32 × Int32 × Int32 × (Nat → Int32)) (X : Cx p s m args meth c cX2_readDoughNumbers 4 RX2 (some .boolean)) (hK : KK E A s s.heap) (hA : ∀ q, s.heap.size ≤ q → A q) (hret : RetI p l e (RM 4) s m args below meth c Q E A cX2_readDoughNumbers .boolean (w_X2_readDoughNumbers E p_this p_bytes p_a1 p_a1_ovenNumbers p_a1_doughNumbers v_byteCount res.2.1 res.2.2.1 res.2.2.2.1 res.2.2.2.2.1 v_a1_ovenCount v_a1_doughCount f_bytes res.2.2.2.2.2) res.1)  : ∀ (n : Nat) (v_place : Int32) (v_token : Int32) (v_tokenStart : Int32) (v_tokenValue : Int32) (f_a1_doughNumbers : Nat → Int32) (x2 : Int32), f_X2_readDoughNumbers_6 v_byteCount v_a1_doughCount f_bytes   n v_place v_token v_tokenStart v_tokenValue f_a1_doughNumbers x2 = some res → ∀ (H : Heap) (locs : List Loc) (ls : Array Slot), lv_has ls 4 [(0, .ref p_this), (1, .ref p_a1), (2, .int x2)] → va_P E.1 classes (w_X2_readDoughNumbers E p_this p_bytes p_a1 p_a1_ovenNumbers p_a1_doughNumbers v_byteCount v_place v_token v_tokenStart v_tokenValue v_a1_ovenCount v_a1_doughCount f_bytes f_a1_doughNumbers) H → va_D A (w_X2_readDoughNumbers E p_this p_bytes p_a1 p_a1_ovenNumbers p_a1_doughNumbers v_byteCount v_place v_token v_tokenStart v_tokenValue v_a1_ovenCount v_a1_doughCount f_bytes f_a1_doughNumbers) → va_S A s.heap H locs → W p l e (RM 4) s m args below meth c H locs 0 0 Q (F0 m 6 ls []) := by
  obtain ⟨hx, hb, hml, hown, hts, hrt, hlk⟩ := id X
  intro n
  induction n with
  | zero => intro v_place v_token v_tokenStart v_tokenValue f_a1_doughNumbers x2 hf; exact absurd hf (by simp [f_X2_readDoughNumbers_6])
  | succ n ih =>
    intro v_place v_token v_tokenStart v_tokenValue f_a1_doughNumbers x2 hf H locs ls hl hP hD hS
    unfold f_X2_readDoughNumbers_6 at hf
    refine lv_iload_n hx hb dX2_readDoughNumbers_6 rfl (lv_at hl 2 rfl) ?_
    refine lv_iconst (v := (5 : Int32)) hx hb dX2_readDoughNumbers_7 (by decide) ?_
    refine lv_icmp_ge (tgt := 70) hx hb dX2_readDoughNumbers_8 (by decide) (fun c_1 => ?_) (fun c_1 => ?_)
    · replace hf := ot c_1 hf
      refine lv_iconst (v := (1 : Int32)) hx hb dX2_readDoughNumbers_70 (by decide) ?_
      obtain rfl := Option.some.inj hf
      exact hret H locs _ ls nar1 hP hS dX2_readDoughNumbers_71
    · replace hf := of c_1 hf
      refine lv_iload_n hx hb dX2_readDoughNumbers_11 rfl (lv_at hl 2 rfl) ?_
      refine lv_iconst (v := (4 : Int32)) hx hb dX2_readDoughNumbers_12 (by decide) ?_
      refine lv_icmp_ne (tgt := 30) hx hb dX2_readDoughNumbers_13 (by decide) (fun c_2 => ?_) (fun c_2 => ?_)
      · replace hf := of c_2 hf
        refine va_gets hx hb hK.2.2.2.1.1 hS hown (hts _ q287) (fun _ h => h) dX2_readDoughNumbers_30 ?_
        refine lv_iload_n hx hb dX2_readDoughNumbers_33 rfl (lv_at hl 2 rfl) ?_
        obtain ⟨g_3, hf⟩ := og hf
        refine va_ti (v := .int (tL5 x2.toNatClampNeg)) hx hb hK.2.2.2.1.2 hS g_3 rfl dX2_readDoughNumbers_34 ?_
        exact b_X2_readDoughNumbers_35 E p_this p_bytes p_a1 p_a1_ovenNumbers p_a1_doughNumbers v_byteCount v_a1_ovenCount v_a1_doughCount f_bytes res X hK hA hret  (f_X2_readDoughNumbers_6 v_byteCount v_a1_doughCount f_bytes   n) ih v_place v_token v_tokenStart v_tokenValue f_a1_doughNumbers x2 (tL5 x2.toNatClampNeg) hf H locs ls (lv_sub hl [0, 1, 2] rfl) hP hD hS
      · replace hf := ot c_2 hf
        refine lv_aload_n hx hb dX2_readDoughNumbers_16 rfl (lv_at hl 1 rfl) ?_
        refine lv_aload_n hx hb dX2_readDoughNumbers_17 rfl (lv_at hl 1 rfl) ?_
        obtain ⟨u_4, hu_4, hf⟩ := ob hf
        refine pV X hK hA hP hS hl.1 (m_X3_doughs (l := l) E p_a1 p_a1_ovenNumbers p_a1_doughNumbers v_a1_ovenCount v_a1_doughCount  u_4 hu_4) kRX2_67 [2] rfl rfl rfl rfl ⟨⟨(Nat.le_of_ble_eq_true rfl), (Nat.le_of_ble_eq_true rfl)⟩, Nat.zero_le _, Nat.zero_le _⟩ rfl rfl (Nat.le_of_ble_eq_true rfl) dX2_readDoughNumbers_18 (fun H locs hP hS => ?_)
        refine lv_iconst (v := (1 : Int32)) hx hb dX2_readDoughNumbers_21 (by decide) ?_
        refine lv_isub hx hb dX2_readDoughNumbers_22 ?_
        refine lv_iconst (v := (3 : Int32)) hx hb dX2_readDoughNumbers_23 (by decide) ?_
        obtain ⟨u_5, hu_5, hf⟩ := ob hf
        refine pV X hK hA hP hS hl.1 (m_X3_ofDough (l := l) E p_a1 p_a1_ovenNumbers p_a1_doughNumbers v_a1_ovenCount v_a1_doughCount f_a1_doughNumbers (u_4 - (1 : Int32)) (3 : Int32) u_5 hu_5) kRX2_71 [2, 3] rfl rfl rfl rfl ⟨⟨(Nat.le_of_ble_eq_true rfl), (Nat.le_of_ble_eq_true rfl)⟩, Nat.zero_le _, Nat.zero_le _⟩ rfl rfl (Nat.le_of_ble_eq_true rfl) dX2_readDoughNumbers_24 (fun H locs hP hS => ?_)
        refine lv_goto (tgt := 35) hx hb dX2_readDoughNumbers_27 (by decide) ?_
        exact b_X2_readDoughNumbers_35 E p_this p_bytes p_a1 p_a1_ovenNumbers p_a1_doughNumbers v_byteCount v_a1_ovenCount v_a1_doughCount f_bytes res X hK hA hret  (f_X2_readDoughNumbers_6 v_byteCount v_a1_doughCount f_bytes   n) ih v_place v_token v_tokenStart v_tokenValue f_a1_doughNumbers x2 u_5 hf H locs ls (lv_sub hl [0, 1, 2] rfl) hP hD hS

set_option maxHeartbeats 4000000 in
set_option maxRecDepth 100000 in
theorem m_X2_readDoughNumbers {l : Launch} (E : Ev) (p_this : Nat) (p_bytes : Nat) (p_a1 : Nat) (p_a1_ovenNumbers : Nat) (p_a1_doughNumbers : Nat) (v_byteCount : Int32) (v_place : Int32) (v_token : Int32) (v_tokenStart : Int32) (v_tokenValue : Int32) (v_a1_ovenCount : Int32) (v_a1_doughCount : Int32) (f_bytes : Nat → Int32) (f_a1_doughNumbers : Nat → Int32)  (res : Int32 × Int32 × Int32 × Int32 × Int32 × (Nat → Int32)) (hf : f_X2_readDoughNumbers  v_byteCount v_a1_doughCount f_bytes v_place v_token v_tokenStart v_tokenValue f_a1_doughNumbers  = some res) : MutI l E 4 yX2_readDoughNumbers cX2_readDoughNumbers 4 .boolean [.ref p_this, .ref p_a1] (w_X2_readDoughNumbers E p_this p_bytes p_a1 p_a1_ovenNumbers p_a1_doughNumbers v_byteCount v_place v_token v_tokenStart v_tokenValue v_a1_ovenCount v_a1_doughCount f_bytes f_a1_doughNumbers) (w_X2_readDoughNumbers E p_this p_bytes p_a1 p_a1_ovenNumbers p_a1_doughNumbers v_byteCount res.2.1 res.2.2.1 res.2.2.2.1 res.2.2.2.2.1 v_a1_ovenCount v_a1_doughCount f_bytes res.2.2.2.2.2) res.1 := by
  refine MutI.of (by decide) (Nat.le_of_ble_eq_true rfl) ?_
  intro p e s m args below meth c Q A X hK hA hret H locs ls hl hP hD hS
  obtain ⟨hx, hb, hml, hown, hts, hrt, hlk⟩ := id X
  have hl : lv_has ls 4 [(0, .ref p_this), (1, .ref p_a1)] := hl
  unfold f_X2_readDoughNumbers at hf
  refine lv_aload_n hx hb dX2_readDoughNumbers_0 rfl (lv_at hl 0 rfl) ?_
  obtain ⟨u_1, hu_1, hf⟩ := ob hf
  refine mVv X hK hA hP hD hS hl.1 (m_X2_nextToken (l := l) E p_this p_bytes v_byteCount v_place v_token v_tokenStart v_tokenValue f_bytes  u_1 hu_1) kRX2_27 [0, 1] rfl rfl (by simp only [w_X2_nextToken, List.map]) rfl rfl rfl ⟨⟨(Nat.le_of_ble_eq_true rfl), (Nat.le_of_ble_eq_true rfl)⟩, Nat.zero_le _, Nat.zero_le _⟩ rfl rfl (Nat.le_of_ble_eq_true rfl) dX2_readDoughNumbers_1 (fun H locs hP hD hS => ?_)
  have hP : va_P E.1 classes (w_X2_readDoughNumbers E p_this p_bytes p_a1 p_a1_ovenNumbers p_a1_doughNumbers v_byteCount u_1.1 u_1.2.1 u_1.2.2.1 u_1.2.2.2 v_a1_ovenCount v_a1_doughCount f_bytes f_a1_doughNumbers) H := hP
  have hD : va_D A (w_X2_readDoughNumbers E p_this p_bytes p_a1 p_a1_ovenNumbers p_a1_doughNumbers v_byteCount u_1.1 u_1.2.1 u_1.2.2.1 u_1.2.2.2 v_a1_ovenCount v_a1_doughCount f_bytes f_a1_doughNumbers) := hD
  refine lv_iconst (v := (0 : Int32)) hx hb dX2_readDoughNumbers_4 (by decide) ?_
  refine lv_istore_n (lv' := [(2, .int (0 : Int32)), (0, .ref p_this), (1, .ref p_a1)]) hx hb dX2_readDoughNumbers_5 rfl hl (by decide) rfl (fun ls hl => ?_)
  exact b_X2_readDoughNumbers_6 E p_this p_bytes p_a1 p_a1_ovenNumbers p_a1_doughNumbers v_byteCount v_a1_ovenCount v_a1_doughCount f_bytes res X hK hA hret   FU u_1.1 u_1.2.1 u_1.2.2.1 u_1.2.2.2 f_a1_doughNumbers (0 : Int32) hf H locs ls (lv_sub hl [1, 2, 0] rfl) hP hD hS

abbrev w_X2_readOvenNumbers (E : Ev) (p_this : Nat) (p_bytes : Nat) (p_a1 : Nat) (p_a1_ovenNumbers : Nat) (p_a1_doughNumbers : Nat) (v_byteCount : Int32) (v_place : Int32) (v_token : Int32) (v_tokenStart : Int32) (v_tokenValue : Int32) (v_a1_ovenCount : Int32) (v_a1_doughCount : Int32) (f_bytes : Nat → Int32) (f_a1_ovenNumbers : Nat → Int32) : va_W := [(p_this, .inr (2, [.ref p_bytes, .int v_byteCount, .int v_place, .int v_token, .int v_tokenStart, .int v_tokenValue])), (p_bytes, .inl (E.2.1, 180, .inl f_bytes)), (p_a1, .inr (3, [.ref p_a1_ovenNumbers, .ref p_a1_doughNumbers, .int v_a1_ovenCount, .int v_a1_doughCount])), (p_a1_ovenNumbers, .inl (E.2.1, 10, .inl f_a1_ovenNumbers))]
set_option maxHeartbeats 4000000 in
set_option maxRecDepth 100000 in
theorem b_X2_readOvenNumbers_6 {p : Program} {l : Launch} {e : Env} {s : State} {m : MethodId} {args : Array Value} {below : List Frame} {meth : Method} {c : Code} {Q : State → Prop} {A : Nat → Prop} (E : Ev) (p_this : Nat) (p_bytes : Nat) (p_a1 : Nat) (p_a1_ovenNumbers : Nat) (p_a1_doughNumbers : Nat) (v_byteCount : Int32) (v_a1_ovenCount : Int32) (v_a1_doughCount : Int32) (f_bytes : Nat → Int32) (res : Int32 × Int32 × Int32 × Int32 × Int32 × (Nat → Int32)) (X : Cx p s m args meth c cX2_readOvenNumbers 3 RX2 (some .boolean)) (hK : KK E A s s.heap) (hA : ∀ q, s.heap.size ≤ q → A q) (hret : RetI p l e (RM 4) s m args below meth c Q E A cX2_readOvenNumbers .boolean (w_X2_readOvenNumbers E p_this p_bytes p_a1 p_a1_ovenNumbers p_a1_doughNumbers v_byteCount res.2.1 res.2.2.1 res.2.2.2.1 res.2.2.2.2.1 v_a1_ovenCount v_a1_doughCount f_bytes res.2.2.2.2.2) res.1)  : ∀ (n : Nat) (v_place : Int32) (v_token : Int32) (v_tokenStart : Int32) (v_tokenValue : Int32) (f_a1_ovenNumbers : Nat → Int32) (x2 : Int32), f_X2_readOvenNumbers_6 v_byteCount v_a1_ovenCount f_bytes   n v_place v_token v_tokenStart v_tokenValue f_a1_ovenNumbers x2 = some res → ∀ (H : Heap) (locs : List Loc) (ls : Array Slot), lv_has ls 3 [(0, .ref p_this), (1, .ref p_a1), (2, .int x2)] → va_P E.1 classes (w_X2_readOvenNumbers E p_this p_bytes p_a1 p_a1_ovenNumbers p_a1_doughNumbers v_byteCount v_place v_token v_tokenStart v_tokenValue v_a1_ovenCount v_a1_doughCount f_bytes f_a1_ovenNumbers) H → va_D A (w_X2_readOvenNumbers E p_this p_bytes p_a1 p_a1_ovenNumbers p_a1_doughNumbers v_byteCount v_place v_token v_tokenStart v_tokenValue v_a1_ovenCount v_a1_doughCount f_bytes f_a1_ovenNumbers) → va_S A s.heap H locs → W p l e (RM 4) s m args below meth c H locs 0 0 Q (F0 m 6 ls []) := by
  obtain ⟨hx, hb, hml, hown, hts, hrt, hlk⟩ := id X
  intro n
  induction n with
  | zero => intro v_place v_token v_tokenStart v_tokenValue f_a1_ovenNumbers x2 hf; exact absurd hf (by simp [f_X2_readOvenNumbers_6])
  | succ n ih =>
    intro v_place v_token v_tokenStart v_tokenValue f_a1_ovenNumbers x2 hf H locs ls hl hP hD hS
    unfold f_X2_readOvenNumbers_6 at hf
    refine lv_iload_n hx hb dX2_readOvenNumbers_6 rfl (lv_at hl 2 rfl) ?_
    refine lv_iconst (v := (2 : Int32)) hx hb dX2_readOvenNumbers_7 (by decide) ?_
    refine lv_icmp_ge (tgt := 45) hx hb dX2_readOvenNumbers_8 (by decide) (fun c_1 => ?_) (fun c_1 => ?_)
    · replace hf := ot c_1 hf
      refine lv_iconst (v := (1 : Int32)) hx hb dX2_readOvenNumbers_45 (by decide) ?_
      obtain rfl := Option.some.inj hf
      exact hret H locs _ ls nar1 hP hS dX2_readOvenNumbers_46
    · replace hf := of c_1 hf
      refine lv_aload_n hx hb dX2_readOvenNumbers_11 rfl (lv_at hl 0 rfl) ?_
      refine lv_iconst (v := (0 : Int32)) hx hb dX2_readOvenNumbers_12 (by decide) ?_
      refine va_gets hx hb hK.2.2.1.1 hS hown (hts _ q257) (fun _ h => h) dX2_readOvenNumbers_13 ?_
      refine lv_iload_n hx hb dX2_readOvenNumbers_16 rfl (lv_at hl 2 rfl) ?_
      obtain ⟨g_2, hf⟩ := og hf
      refine va_ti (v := .int (tO2 x2.toNatClampNeg)) hx hb hK.2.2.1.2 hS g_2 rfl dX2_readOvenNumbers_17 ?_
      obtain ⟨u_3, hu_3, hf⟩ := ob hf
      refine pV X hK hA hP hS hl.1 (m_X2_isNumberWithin (l := l) E p_this p_bytes v_byteCount v_place v_token v_tokenStart v_tokenValue (0 : Int32) (tO2 x2.toNatClampNeg) u_3 hu_3) kRX2_59 [0] rfl rfl rfl rfl ⟨⟨(Nat.le_of_ble_eq_true rfl), (Nat.le_of_ble_eq_true rfl)⟩, Nat.zero_le _, Nat.zero_le _⟩ rfl rfl (Nat.le_of_ble_eq_true rfl) dX2_readOvenNumbers_18 (fun H locs hP hS => ?_)
      refine lv_if_ne (tgt := 26) hx hb dX2_readOvenNumbers_21 (by decide) (fun c_4 => ?_) (fun c_4 => ?_)
      · replace hf := of c_4 hf
        refine lv_aload_n hx hb dX2_readOvenNumbers_26 rfl (lv_at hl 1 rfl) ?_
        refine lv_iload_n hx hb dX2_readOvenNumbers_27 rfl (lv_at hl 2 rfl) ?_
        refine lv_aload_n hx hb dX2_readOvenNumbers_28 rfl (lv_at hl 0 rfl) ?_
        refine gf_RX2_40 X hK hP 0 rfl rfl dX2_readOvenNumbers_29 ?_
        obtain ⟨u_5, hu_5, hf⟩ := ob hf
        refine mVv X hK hA hP hD hS hl.1 (m_X3_setOfLastOven (l := l) E p_a1 p_a1_ovenNumbers p_a1_doughNumbers v_a1_ovenCount v_a1_doughCount f_a1_ovenNumbers x2 v_tokenValue u_5 hu_5) kRX2_63 [2, 3] rfl rfl (by simp only [w_X3_setOfLastOven, List.map]) rfl rfl rfl ⟨⟨(Nat.le_of_ble_eq_true rfl), (Nat.le_of_ble_eq_true rfl)⟩, Nat.zero_le _, Nat.zero_le _⟩ rfl rfl (Nat.le_of_ble_eq_true rfl) dX2_readOvenNumbers_32 (fun H locs hP hD hS => ?_)
        have hP : va_P E.1 classes (w_X2_readOvenNumbers E p_this p_bytes p_a1 p_a1_ovenNumbers p_a1_doughNumbers v_byteCount v_place v_token v_tokenStart v_tokenValue v_a1_ovenCount v_a1_doughCount f_bytes u_5) H := hP
        have hD : va_D A (w_X2_readOvenNumbers E p_this p_bytes p_a1 p_a1_ovenNumbers p_a1_doughNumbers v_byteCount v_place v_token v_tokenStart v_tokenValue v_a1_ovenCount v_a1_doughCount f_bytes u_5) := hD
        refine lv_aload_n hx hb dX2_readOvenNumbers_35 rfl (lv_at hl 0 rfl) ?_
        obtain ⟨u_6, hu_6, hf⟩ := ob hf
        refine mVv X hK hA hP hD hS hl.1 (m_X2_nextToken (l := l) E p_this p_bytes v_byteCount v_place v_token v_tokenStart v_tokenValue f_bytes  u_6 hu_6) kRX2_27 [0, 1] rfl rfl (by simp only [w_X2_nextToken, List.map]) rfl rfl rfl ⟨⟨(Nat.le_of_ble_eq_true rfl), (Nat.le_of_ble_eq_true rfl)⟩, Nat.zero_le _, Nat.zero_le _⟩ rfl rfl (Nat.le_of_ble_eq_true rfl) dX2_readOvenNumbers_36 (fun H locs hP hD hS => ?_)
        have hP : va_P E.1 classes (w_X2_readOvenNumbers E p_this p_bytes p_a1 p_a1_ovenNumbers p_a1_doughNumbers v_byteCount u_6.1 u_6.2.1 u_6.2.2.1 u_6.2.2.2 v_a1_ovenCount v_a1_doughCount f_bytes u_5) H := hP
        have hD : va_D A (w_X2_readOvenNumbers E p_this p_bytes p_a1 p_a1_ovenNumbers p_a1_doughNumbers v_byteCount u_6.1 u_6.2.1 u_6.2.2.1 u_6.2.2.2 v_a1_ovenCount v_a1_doughCount f_bytes u_5) := hD
        refine lv_iinc (v := (x2 + (1 : Int32))) (lv' := [(2, .int (x2 + (1 : Int32))), (0, .ref p_this), (1, .ref p_a1)]) hx hb dX2_readOvenNumbers_39 hl (k := 2) rfl rfl (by decide) rfl (fun ls hl => ?_)
        refine lv_goto (tgt := 6) hx hb dX2_readOvenNumbers_42 (by decide) ?_
        exact ih u_6.1 u_6.2.1 u_6.2.2.1 u_6.2.2.2 u_5 (x2 + (1 : Int32)) hf H locs ls (lv_sub hl [1, 2, 0] rfl) hP hD hS
      · replace hf := ot c_4 hf
        refine lv_iconst (v := (0 : Int32)) hx hb dX2_readOvenNumbers_24 (by decide) ?_
        obtain rfl := Option.some.inj hf
        exact hret H locs _ ls nar0 hP hS dX2_readOvenNumbers_25

set_option maxHeartbeats 4000000 in
set_option maxRecDepth 100000 in
theorem m_X2_readOvenNumbers {l : Launch} (E : Ev) (p_this : Nat) (p_bytes : Nat) (p_a1 : Nat) (p_a1_ovenNumbers : Nat) (p_a1_doughNumbers : Nat) (v_byteCount : Int32) (v_place : Int32) (v_token : Int32) (v_tokenStart : Int32) (v_tokenValue : Int32) (v_a1_ovenCount : Int32) (v_a1_doughCount : Int32) (f_bytes : Nat → Int32) (f_a1_ovenNumbers : Nat → Int32)  (res : Int32 × Int32 × Int32 × Int32 × Int32 × (Nat → Int32)) (hf : f_X2_readOvenNumbers  v_byteCount v_a1_ovenCount f_bytes v_place v_token v_tokenStart v_tokenValue f_a1_ovenNumbers  = some res) : MutI l E 4 yX2_readOvenNumbers cX2_readOvenNumbers 3 .boolean [.ref p_this, .ref p_a1] (w_X2_readOvenNumbers E p_this p_bytes p_a1 p_a1_ovenNumbers p_a1_doughNumbers v_byteCount v_place v_token v_tokenStart v_tokenValue v_a1_ovenCount v_a1_doughCount f_bytes f_a1_ovenNumbers) (w_X2_readOvenNumbers E p_this p_bytes p_a1 p_a1_ovenNumbers p_a1_doughNumbers v_byteCount res.2.1 res.2.2.1 res.2.2.2.1 res.2.2.2.2.1 v_a1_ovenCount v_a1_doughCount f_bytes res.2.2.2.2.2) res.1 := by
  refine MutI.of (by decide) (Nat.le_of_ble_eq_true rfl) ?_
  intro p e s m args below meth c Q A X hK hA hret H locs ls hl hP hD hS
  obtain ⟨hx, hb, hml, hown, hts, hrt, hlk⟩ := id X
  have hl : lv_has ls 3 [(0, .ref p_this), (1, .ref p_a1)] := hl
  unfold f_X2_readOvenNumbers at hf
  refine lv_aload_n hx hb dX2_readOvenNumbers_0 rfl (lv_at hl 0 rfl) ?_
  obtain ⟨u_1, hu_1, hf⟩ := ob hf
  refine mVv X hK hA hP hD hS hl.1 (m_X2_nextToken (l := l) E p_this p_bytes v_byteCount v_place v_token v_tokenStart v_tokenValue f_bytes  u_1 hu_1) kRX2_27 [0, 1] rfl rfl (by simp only [w_X2_nextToken, List.map]) rfl rfl rfl ⟨⟨(Nat.le_of_ble_eq_true rfl), (Nat.le_of_ble_eq_true rfl)⟩, Nat.zero_le _, Nat.zero_le _⟩ rfl rfl (Nat.le_of_ble_eq_true rfl) dX2_readOvenNumbers_1 (fun H locs hP hD hS => ?_)
  have hP : va_P E.1 classes (w_X2_readOvenNumbers E p_this p_bytes p_a1 p_a1_ovenNumbers p_a1_doughNumbers v_byteCount u_1.1 u_1.2.1 u_1.2.2.1 u_1.2.2.2 v_a1_ovenCount v_a1_doughCount f_bytes f_a1_ovenNumbers) H := hP
  have hD : va_D A (w_X2_readOvenNumbers E p_this p_bytes p_a1 p_a1_ovenNumbers p_a1_doughNumbers v_byteCount u_1.1 u_1.2.1 u_1.2.2.1 u_1.2.2.2 v_a1_ovenCount v_a1_doughCount f_bytes f_a1_ovenNumbers) := hD
  refine lv_iconst (v := (0 : Int32)) hx hb dX2_readOvenNumbers_4 (by decide) ?_
  refine lv_istore_n (lv' := [(2, .int (0 : Int32)), (0, .ref p_this), (1, .ref p_a1)]) hx hb dX2_readOvenNumbers_5 rfl hl (by decide) rfl (fun ls hl => ?_)
  exact b_X2_readOvenNumbers_6 E p_this p_bytes p_a1 p_a1_ovenNumbers p_a1_doughNumbers v_byteCount v_a1_ovenCount v_a1_doughCount f_bytes res X hK hA hret   FU u_1.1 u_1.2.1 u_1.2.2.1 u_1.2.2.2 f_a1_ovenNumbers (0 : Int32) hf H locs ls (lv_sub hl [1, 2, 0] rfl) hP hD hS

abbrev w_X2_readItem (E : Ev) (p_this : Nat) (p_bytes : Nat) (p_a1 : Nat) (p_a1_ovenNumbers : Nat) (p_a1_doughNumbers : Nat) (v_byteCount : Int32) (v_place : Int32) (v_token : Int32) (v_tokenStart : Int32) (v_tokenValue : Int32) (v_a1_ovenCount : Int32) (v_a1_doughCount : Int32) (f_bytes : Nat → Int32) (f_a1_ovenNumbers : Nat → Int32) (f_a1_doughNumbers : Nat → Int32) : va_W := [(p_this, .inr (2, [.ref p_bytes, .int v_byteCount, .int v_place, .int v_token, .int v_tokenStart, .int v_tokenValue])), (p_a1, .inr (3, [.ref p_a1_ovenNumbers, .ref p_a1_doughNumbers, .int v_a1_ovenCount, .int v_a1_doughCount])), (p_bytes, .inl (E.2.1, 180, .inl f_bytes)), (p_a1_ovenNumbers, .inl (E.2.1, 10, .inl f_a1_ovenNumbers)), (p_a1_doughNumbers, .inl (E.2.1, 30, .inl f_a1_doughNumbers))]
set_option maxHeartbeats 4000000 in
set_option maxRecDepth 100000 in
theorem b_X2_readItem_78 {p : Program} {l : Launch} {e : Env} {s : State} {m : MethodId} {args : Array Value} {below : List Frame} {meth : Method} {c : Code} {Q : State → Prop} {A : Nat → Prop} (E : Ev) (p_this : Nat) (p_bytes : Nat) (p_a1 : Nat) (p_a1_ovenNumbers : Nat) (p_a1_doughNumbers : Nat) (v_byteCount : Int32) (f_bytes : Nat → Int32) (res : Int32 × Int32 × Int32 × Int32 × Int32 × Int32 × Int32 × (Nat → Int32) × (Nat → Int32)) (X : Cx p s m args meth c cX2_readItem 3 RX2 (some .boolean)) (hK : KK E A s s.heap) (hA : ∀ q, s.heap.size ≤ q → A q) (hret : RetI p l e (RM 5) s m args below meth c Q E A cX2_readItem .boolean (w_X2_readItem E p_this p_bytes p_a1 p_a1_ovenNumbers p_a1_doughNumbers v_byteCount res.2.1 res.2.2.1 res.2.2.2.1 res.2.2.2.2.1 res.2.2.2.2.2.1 res.2.2.2.2.2.2.1 f_bytes res.2.2.2.2.2.2.2.1 res.2.2.2.2.2.2.2.2) res.1)  (v_place : Int32) (v_token : Int32) (v_tokenStart : Int32) (v_tokenValue : Int32) (v_a1_ovenCount : Int32) (v_a1_doughCount : Int32) (f_a1_ovenNumbers : Nat → Int32) (f_a1_doughNumbers : Nat → Int32) (x2 : Int32) (hf : f_X2_readItem_78 v_byteCount f_bytes   v_place v_token v_tokenStart v_tokenValue v_a1_ovenCount v_a1_doughCount f_a1_ovenNumbers f_a1_doughNumbers x2 = some res) : ∀ (H : Heap) (locs : List Loc) (ls : Array Slot), lv_has ls 3 [(0, .ref p_this), (2, .int x2)] → va_P E.1 classes (w_X2_readItem E p_this p_bytes p_a1 p_a1_ovenNumbers p_a1_doughNumbers v_byteCount v_place v_token v_tokenStart v_tokenValue v_a1_ovenCount v_a1_doughCount f_bytes f_a1_ovenNumbers f_a1_doughNumbers) H → va_D A (w_X2_readItem E p_this p_bytes p_a1 p_a1_ovenNumbers p_a1_doughNumbers v_byteCount v_place v_token v_tokenStart v_tokenValue v_a1_ovenCount v_a1_doughCount f_bytes f_a1_ovenNumbers f_a1_doughNumbers) → va_S A s.heap H locs → W p l e (RM 5) s m args below meth c H locs 0 0 Q (F0 m 78 ls []) := by
  obtain ⟨hx, hb, hml, hown, hts, hrt, hlk⟩ := id X
  intro H locs ls hl hP hD hS
  unfold f_X2_readItem_78 at hf
  refine lv_iload_n hx hb dX2_readItem_78 rfl (lv_at hl 1 rfl) ?_
  refine lv_if_eq (tgt := 90) hx hb dX2_readItem_79 (by decide) (fun c_1 => ?_) (fun c_1 => ?_)
  · replace hf := ot c_1 hf
    refine lv_iconst (v := (0 : Int32)) hx hb dX2_readItem_90 (by decide) ?_
    obtain rfl := Option.some.inj hf
    exact hret H locs _ ls nar0 hP hS dX2_readItem_91
  · replace hf := of c_1 hf
    refine lv_aload_n hx hb dX2_readItem_82 rfl (lv_at hl 0 rfl) ?_
    refine gf_RX2_30 X hK hP 0 rfl rfl dX2_readItem_83 ?_
    refine lv_iconst (v := (3 : Int32)) hx hb dX2_readItem_86 (by decide) ?_
    refine lv_icmp_eq (tgt := 92) hx hb dX2_readItem_87 (by decide) (fun c_2 => ?_) (fun c_2 => ?_)
    · replace hf := ot c_2 hf
      refine lv_aload_n hx hb dX2_readItem_92 rfl (lv_at hl 0 rfl) ?_
      obtain ⟨u_3, hu_3, hf⟩ := ob hf
      refine mVv X hK hA hP hD hS hl.1 (m_X2_nextToken (l := l) E p_this p_bytes v_byteCount v_place v_token v_tokenStart v_tokenValue f_bytes  u_3 hu_3) kRX2_27 [0, 2] rfl rfl (by simp only [w_X2_nextToken, List.map]) rfl rfl rfl ⟨⟨(Nat.le_of_ble_eq_true rfl), (Nat.le_of_ble_eq_true rfl)⟩, Nat.zero_le _, Nat.zero_le _⟩ rfl rfl (Nat.le_of_ble_eq_true rfl) dX2_readItem_93 (fun H locs hP hD hS => ?_)
      have hP : va_P E.1 classes (w_X2_readItem E p_this p_bytes p_a1 p_a1_ovenNumbers p_a1_doughNumbers v_byteCount u_3.1 u_3.2.1 u_3.2.2.1 u_3.2.2.2 v_a1_ovenCount v_a1_doughCount f_bytes f_a1_ovenNumbers f_a1_doughNumbers) H := hP
      have hD : va_D A (w_X2_readItem E p_this p_bytes p_a1 p_a1_ovenNumbers p_a1_doughNumbers v_byteCount u_3.1 u_3.2.1 u_3.2.2.1 u_3.2.2.2 v_a1_ovenCount v_a1_doughCount f_bytes f_a1_ovenNumbers f_a1_doughNumbers) := hD
      refine lv_iconst (v := (1 : Int32)) hx hb dX2_readItem_96 (by decide) ?_
      obtain rfl := Option.some.inj hf
      exact hret H locs _ ls nar1 hP hS dX2_readItem_97
    · replace hf := of c_2 hf
      refine lv_iconst (v := (0 : Int32)) hx hb dX2_readItem_90 (by decide) ?_
      obtain rfl := Option.some.inj hf
      exact hret H locs _ ls nar0 hP hS dX2_readItem_91

set_option maxHeartbeats 4000000 in
set_option maxRecDepth 100000 in
theorem b_X2_readItem_72 {p : Program} {l : Launch} {e : Env} {s : State} {m : MethodId} {args : Array Value} {below : List Frame} {meth : Method} {c : Code} {Q : State → Prop} {A : Nat → Prop} (E : Ev) (p_this : Nat) (p_bytes : Nat) (p_a1 : Nat) (p_a1_ovenNumbers : Nat) (p_a1_doughNumbers : Nat) (v_byteCount : Int32) (f_bytes : Nat → Int32) (res : Int32 × Int32 × Int32 × Int32 × Int32 × Int32 × Int32 × (Nat → Int32) × (Nat → Int32)) (X : Cx p s m args meth c cX2_readItem 3 RX2 (some .boolean)) (hK : KK E A s s.heap) (hA : ∀ q, s.heap.size ≤ q → A q) (hret : RetI p l e (RM 5) s m args below meth c Q E A cX2_readItem .boolean (w_X2_readItem E p_this p_bytes p_a1 p_a1_ovenNumbers p_a1_doughNumbers v_byteCount res.2.1 res.2.2.1 res.2.2.2.1 res.2.2.2.2.1 res.2.2.2.2.2.1 res.2.2.2.2.2.2.1 f_bytes res.2.2.2.2.2.2.2.1 res.2.2.2.2.2.2.2.2) res.1)  (v_place : Int32) (v_token : Int32) (v_tokenStart : Int32) (v_tokenValue : Int32) (v_a1_ovenCount : Int32) (v_a1_doughCount : Int32) (f_a1_ovenNumbers : Nat → Int32) (f_a1_doughNumbers : Nat → Int32) (k0 : Int32) (hf : f_X2_readItem_72 v_byteCount f_bytes   v_place v_token v_tokenStart v_tokenValue v_a1_ovenCount v_a1_doughCount f_a1_ovenNumbers f_a1_doughNumbers k0 = some res) : ∀ (H : Heap) (locs : List Loc) (ls : Array Slot), lv_has ls 3 [(0, .ref p_this)] → va_P E.1 classes (w_X2_readItem E p_this p_bytes p_a1 p_a1_ovenNumbers p_a1_doughNumbers v_byteCount v_place v_token v_tokenStart v_tokenValue v_a1_ovenCount v_a1_doughCount f_bytes f_a1_ovenNumbers f_a1_doughNumbers) H → va_D A (w_X2_readItem E p_this p_bytes p_a1 p_a1_ovenNumbers p_a1_doughNumbers v_byteCount v_place v_token v_tokenStart v_tokenValue v_a1_ovenCount v_a1_doughCount f_bytes f_a1_ovenNumbers f_a1_doughNumbers) → va_S A s.heap H locs → W p l e (RM 5) s m args below meth c H locs 0 0 Q (F0 m 72 ls [.int k0]) := by
  obtain ⟨hx, hb, hml, hown, hts, hrt, hlk⟩ := id X
  intro H locs ls hl hP hD hS
  unfold f_X2_readItem_72 at hf
  refine lv_istore_n (lv' := [(2, .int k0), (0, .ref p_this)]) hx hb dX2_readItem_72 rfl hl (by decide) rfl (fun ls hl => ?_)
  refine lv_goto (tgt := 78) hx hb dX2_readItem_73 (by decide) ?_
  exact b_X2_readItem_78 E p_this p_bytes p_a1 p_a1_ovenNumbers p_a1_doughNumbers v_byteCount f_bytes res X hK hA hret   v_place v_token v_tokenStart v_tokenValue v_a1_ovenCount v_a1_doughCount f_a1_ovenNumbers f_a1_doughNumbers k0 hf H locs ls (lv_sub hl [1, 0] rfl) hP hD hS

set_option maxHeartbeats 4000000 in
set_option maxRecDepth 100000 in
theorem b_X2_readItem_71 {p : Program} {l : Launch} {e : Env} {s : State} {m : MethodId} {args : Array Value} {below : List Frame} {meth : Method} {c : Code} {Q : State → Prop} {A : Nat → Prop} (E : Ev) (p_this : Nat) (p_bytes : Nat) (p_a1 : Nat) (p_a1_ovenNumbers : Nat) (p_a1_doughNumbers : Nat) (v_byteCount : Int32) (f_bytes : Nat → Int32) (res : Int32 × Int32 × Int32 × Int32 × Int32 × Int32 × Int32 × (Nat → Int32) × (Nat → Int32)) (X : Cx p s m args meth c cX2_readItem 3 RX2 (some .boolean)) (hK : KK E A s s.heap) (hA : ∀ q, s.heap.size ≤ q → A q) (hret : RetI p l e (RM 5) s m args below meth c Q E A cX2_readItem .boolean (w_X2_readItem E p_this p_bytes p_a1 p_a1_ovenNumbers p_a1_doughNumbers v_byteCount res.2.1 res.2.2.1 res.2.2.2.1 res.2.2.2.2.1 res.2.2.2.2.2.1 res.2.2.2.2.2.2.1 f_bytes res.2.2.2.2.2.2.2.1 res.2.2.2.2.2.2.2.2) res.1)  (v_place : Int32) (v_token : Int32) (v_tokenStart : Int32) (v_tokenValue : Int32) (v_a1_ovenCount : Int32) (v_a1_doughCount : Int32) (f_a1_ovenNumbers : Nat → Int32) (f_a1_doughNumbers : Nat → Int32) (hf : f_X2_readItem_71 v_byteCount f_bytes   v_place v_token v_tokenStart v_tokenValue v_a1_ovenCount v_a1_doughCount f_a1_ovenNumbers f_a1_doughNumbers = some res) : ∀ (H : Heap) (locs : List Loc) (ls : Array Slot), lv_has ls 3 [(0, .ref p_this)] → va_P E.1 classes (w_X2_readItem E p_this p_bytes p_a1 p_a1_ovenNumbers p_a1_doughNumbers v_byteCount v_place v_token v_tokenStart v_tokenValue v_a1_ovenCount v_a1_doughCount f_bytes f_a1_ovenNumbers f_a1_doughNumbers) H → va_D A (w_X2_readItem E p_this p_bytes p_a1 p_a1_ovenNumbers p_a1_doughNumbers v_byteCount v_place v_token v_tokenStart v_tokenValue v_a1_ovenCount v_a1_doughCount f_bytes f_a1_ovenNumbers f_a1_doughNumbers) → va_S A s.heap H locs → W p l e (RM 5) s m args below meth c H locs 0 0 Q (F0 m 71 ls []) := by
  obtain ⟨hx, hb, hml, hown, hts, hrt, hlk⟩ := id X
  intro H locs ls hl hP hD hS
  unfold f_X2_readItem_71 at hf
  refine lv_iconst (v := (0 : Int32)) hx hb dX2_readItem_71 (by decide) ?_
  exact b_X2_readItem_72 E p_this p_bytes p_a1 p_a1_ovenNumbers p_a1_doughNumbers v_byteCount f_bytes res X hK hA hret   v_place v_token v_tokenStart v_tokenValue v_a1_ovenCount v_a1_doughCount f_a1_ovenNumbers f_a1_doughNumbers (0 : Int32) hf H locs ls (lv_sub hl [0] rfl) hP hD hS

set_option maxHeartbeats 4000000 in
set_option maxRecDepth 100000 in
theorem b_X2_readItem_39 {p : Program} {l : Launch} {e : Env} {s : State} {m : MethodId} {args : Array Value} {below : List Frame} {meth : Method} {c : Code} {Q : State → Prop} {A : Nat → Prop} (E : Ev) (p_this : Nat) (p_bytes : Nat) (p_a1 : Nat) (p_a1_ovenNumbers : Nat) (p_a1_doughNumbers : Nat) (v_byteCount : Int32) (f_bytes : Nat → Int32) (res : Int32 × Int32 × Int32 × Int32 × Int32 × Int32 × Int32 × (Nat → Int32) × (Nat → Int32)) (X : Cx p s m args meth c cX2_readItem 3 RX2 (some .boolean)) (hK : KK E A s s.heap) (hA : ∀ q, s.heap.size ≤ q → A q) (hret : RetI p l e (RM 5) s m args below meth c Q E A cX2_readItem .boolean (w_X2_readItem E p_this p_bytes p_a1 p_a1_ovenNumbers p_a1_doughNumbers v_byteCount res.2.1 res.2.2.1 res.2.2.2.1 res.2.2.2.2.1 res.2.2.2.2.2.1 res.2.2.2.2.2.2.1 f_bytes res.2.2.2.2.2.2.2.1 res.2.2.2.2.2.2.2.2) res.1)  (v_place : Int32) (v_token : Int32) (v_tokenStart : Int32) (v_tokenValue : Int32) (v_a1_ovenCount : Int32) (v_a1_doughCount : Int32) (f_a1_ovenNumbers : Nat → Int32) (f_a1_doughNumbers : Nat → Int32) (k0 : Int32) (hf : f_X2_readItem_39 v_byteCount f_bytes   v_place v_token v_tokenStart v_tokenValue v_a1_ovenCount v_a1_doughCount f_a1_ovenNumbers f_a1_doughNumbers k0 = some res) : ∀ (H : Heap) (locs : List Loc) (ls : Array Slot), lv_has ls 3 [(0, .ref p_this)] → va_P E.1 classes (w_X2_readItem E p_this p_bytes p_a1 p_a1_ovenNumbers p_a1_doughNumbers v_byteCount v_place v_token v_tokenStart v_tokenValue v_a1_ovenCount v_a1_doughCount f_bytes f_a1_ovenNumbers f_a1_doughNumbers) H → va_D A (w_X2_readItem E p_this p_bytes p_a1 p_a1_ovenNumbers p_a1_doughNumbers v_byteCount v_place v_token v_tokenStart v_tokenValue v_a1_ovenCount v_a1_doughCount f_bytes f_a1_ovenNumbers f_a1_doughNumbers) → va_S A s.heap H locs → W p l e (RM 5) s m args below meth c H locs 0 0 Q (F0 m 39 ls [.int k0]) := by
  obtain ⟨hx, hb, hml, hown, hts, hrt, hlk⟩ := id X
  intro H locs ls hl hP hD hS
  unfold f_X2_readItem_39 at hf
  refine lv_istore_n (lv' := [(2, .int k0), (0, .ref p_this)]) hx hb dX2_readItem_39 rfl hl (by decide) rfl (fun ls hl => ?_)
  refine lv_goto (tgt := 78) hx hb dX2_readItem_40 (by decide) ?_
  exact b_X2_readItem_78 E p_this p_bytes p_a1 p_a1_ovenNumbers p_a1_doughNumbers v_byteCount f_bytes res X hK hA hret   v_place v_token v_tokenStart v_tokenValue v_a1_ovenCount v_a1_doughCount f_a1_ovenNumbers f_a1_doughNumbers k0 hf H locs ls (lv_sub hl [1, 0] rfl) hP hD hS

set_option maxHeartbeats 4000000 in
set_option maxRecDepth 100000 in
theorem b_X2_readItem_38 {p : Program} {l : Launch} {e : Env} {s : State} {m : MethodId} {args : Array Value} {below : List Frame} {meth : Method} {c : Code} {Q : State → Prop} {A : Nat → Prop} (E : Ev) (p_this : Nat) (p_bytes : Nat) (p_a1 : Nat) (p_a1_ovenNumbers : Nat) (p_a1_doughNumbers : Nat) (v_byteCount : Int32) (f_bytes : Nat → Int32) (res : Int32 × Int32 × Int32 × Int32 × Int32 × Int32 × Int32 × (Nat → Int32) × (Nat → Int32)) (X : Cx p s m args meth c cX2_readItem 3 RX2 (some .boolean)) (hK : KK E A s s.heap) (hA : ∀ q, s.heap.size ≤ q → A q) (hret : RetI p l e (RM 5) s m args below meth c Q E A cX2_readItem .boolean (w_X2_readItem E p_this p_bytes p_a1 p_a1_ovenNumbers p_a1_doughNumbers v_byteCount res.2.1 res.2.2.1 res.2.2.2.1 res.2.2.2.2.1 res.2.2.2.2.2.1 res.2.2.2.2.2.2.1 f_bytes res.2.2.2.2.2.2.2.1 res.2.2.2.2.2.2.2.2) res.1)  (v_place : Int32) (v_token : Int32) (v_tokenStart : Int32) (v_tokenValue : Int32) (v_a1_ovenCount : Int32) (v_a1_doughCount : Int32) (f_a1_ovenNumbers : Nat → Int32) (f_a1_doughNumbers : Nat → Int32) (hf : f_X2_readItem_38 v_byteCount f_bytes   v_place v_token v_tokenStart v_tokenValue v_a1_ovenCount v_a1_doughCount f_a1_ovenNumbers f_a1_doughNumbers = some res) : ∀ (H : Heap) (locs : List Loc) (ls : Array Slot), lv_has ls 3 [(0, .ref p_this)] → va_P E.1 classes (w_X2_readItem E p_this p_bytes p_a1 p_a1_ovenNumbers p_a1_doughNumbers v_byteCount v_place v_token v_tokenStart v_tokenValue v_a1_ovenCount v_a1_doughCount f_bytes f_a1_ovenNumbers f_a1_doughNumbers) H → va_D A (w_X2_readItem E p_this p_bytes p_a1 p_a1_ovenNumbers p_a1_doughNumbers v_byteCount v_place v_token v_tokenStart v_tokenValue v_a1_ovenCount v_a1_doughCount f_bytes f_a1_ovenNumbers f_a1_doughNumbers) → va_S A s.heap H locs → W p l e (RM 5) s m args below meth c H locs 0 0 Q (F0 m 38 ls []) := by
  obtain ⟨hx, hb, hml, hown, hts, hrt, hlk⟩ := id X
  intro H locs ls hl hP hD hS
  unfold f_X2_readItem_38 at hf
  refine lv_iconst (v := (0 : Int32)) hx hb dX2_readItem_38 (by decide) ?_
  exact b_X2_readItem_39 E p_this p_bytes p_a1 p_a1_ovenNumbers p_a1_doughNumbers v_byteCount f_bytes res X hK hA hret   v_place v_token v_tokenStart v_tokenValue v_a1_ovenCount v_a1_doughCount f_a1_ovenNumbers f_a1_doughNumbers (0 : Int32) hf H locs ls (lv_sub hl [0] rfl) hP hD hS

set_option maxHeartbeats 4000000 in
set_option maxRecDepth 100000 in
theorem m_X2_readItem {l : Launch} (E : Ev) (p_this : Nat) (p_bytes : Nat) (p_a1 : Nat) (p_a1_ovenNumbers : Nat) (p_a1_doughNumbers : Nat) (v_byteCount : Int32) (v_place : Int32) (v_token : Int32) (v_tokenStart : Int32) (v_tokenValue : Int32) (v_a1_ovenCount : Int32) (v_a1_doughCount : Int32) (f_bytes : Nat → Int32) (f_a1_ovenNumbers : Nat → Int32) (f_a1_doughNumbers : Nat → Int32)  (res : Int32 × Int32 × Int32 × Int32 × Int32 × Int32 × Int32 × (Nat → Int32) × (Nat → Int32)) (hf : f_X2_readItem  v_byteCount f_bytes v_place v_token v_tokenStart v_tokenValue v_a1_ovenCount v_a1_doughCount f_a1_ovenNumbers f_a1_doughNumbers  = some res) : MutI l E 5 yX2_readItem cX2_readItem 3 .boolean [.ref p_this, .ref p_a1] (w_X2_readItem E p_this p_bytes p_a1 p_a1_ovenNumbers p_a1_doughNumbers v_byteCount v_place v_token v_tokenStart v_tokenValue v_a1_ovenCount v_a1_doughCount f_bytes f_a1_ovenNumbers f_a1_doughNumbers) (w_X2_readItem E p_this p_bytes p_a1 p_a1_ovenNumbers p_a1_doughNumbers v_byteCount res.2.1 res.2.2.1 res.2.2.2.1 res.2.2.2.2.1 res.2.2.2.2.2.1 res.2.2.2.2.2.2.1 f_bytes res.2.2.2.2.2.2.2.1 res.2.2.2.2.2.2.2.2) res.1 := by
  refine MutI.of (by decide) (Nat.le_of_ble_eq_true rfl) ?_
  intro p e s m args below meth c Q A X hK hA hret H locs ls hl hP hD hS
  obtain ⟨hx, hb, hml, hown, hts, hrt, hlk⟩ := id X
  have hl : lv_has ls 3 [(0, .ref p_this), (1, .ref p_a1)] := hl
  unfold f_X2_readItem at hf
  refine lv_aload_n hx hb dX2_readItem_0 rfl (lv_at hl 0 rfl) ?_
  refine gf_RX2_30 X hK hP 0 rfl rfl dX2_readItem_1 ?_
  refine lv_iconst (v := (1 : Int32)) hx hb dX2_readItem_4 (by decide) ?_
  refine lv_icmp_eq (tgt := 10) hx hb dX2_readItem_5 (by decide) (fun c_1 => ?_) (fun c_1 => ?_)
  · replace hf := ot c_1 hf
    refine lv_aload_n hx hb dX2_readItem_10 rfl (lv_at hl 0 rfl) ?_
    refine gf_RX2_40 X hK hP 0 rfl rfl dX2_readItem_11 ?_
    refine lv_bipush (v := (111 : Int32)) hx hb dX2_readItem_14 (by decide) ?_
    refine lv_icmp_ne (tgt := 43) hx hb dX2_readItem_16 (by decide) (fun c_2 => ?_) (fun c_2 => ?_)
    · replace hf := of c_2 hf
      refine lv_aload_n hx hb dX2_readItem_43 rfl (lv_at hl 0 rfl) ?_
      refine gf_RX2_40 X hK hP 0 rfl rfl dX2_readItem_44 ?_
      refine lv_bipush (v := (100 : Int32)) hx hb dX2_readItem_47 (by decide) ?_
      refine lv_icmp_ne (tgt := 76) hx hb dX2_readItem_49 (by decide) (fun c_3 => ?_) (fun c_3 => ?_)
      · replace hf := of c_3 hf
        refine lv_iconst (v := (0 : Int32)) hx hb dX2_readItem_76 (by decide) ?_
        refine lv_istore_n (lv' := [(2, .int (0 : Int32)), (0, .ref p_this), (1, .ref p_a1)]) hx hb dX2_readItem_77 rfl hl (by decide) rfl (fun ls hl => ?_)
        exact b_X2_readItem_78 E p_this p_bytes p_a1 p_a1_ovenNumbers p_a1_doughNumbers v_byteCount f_bytes res X hK hA hret   v_place v_token v_tokenStart v_tokenValue v_a1_ovenCount v_a1_doughCount f_a1_ovenNumbers f_a1_doughNumbers (0 : Int32) hf H locs ls (lv_sub hl [1, 0] rfl) hP hD hS
      · replace hf := ot c_3 hf
        refine lv_aload_n hx hb dX2_readItem_52 rfl (lv_at hl 1 rfl) ?_
        obtain ⟨u_4, hu_4, hf⟩ := ob hf
        refine mV X hK hA hP hD hS hl.1 (m_X3_addDough (l := l) E p_a1 p_a1_ovenNumbers p_a1_doughNumbers v_a1_ovenCount v_a1_doughCount  u_4 hu_4) kRX2_50 [1] rfl rfl (by simp only [w_X3_addDough, List.map]) rfl rfl rfl ⟨⟨(Nat.le_of_ble_eq_true rfl), (Nat.le_of_ble_eq_true rfl)⟩, Nat.zero_le _, Nat.zero_le _⟩ rfl rfl (Nat.le_of_ble_eq_true rfl) dX2_readItem_53 (fun H locs hP hD hS => ?_)
        have hP : va_P E.1 classes (w_X2_readItem E p_this p_bytes p_a1 p_a1_ovenNumbers p_a1_doughNumbers v_byteCount v_place v_token v_tokenStart v_tokenValue v_a1_ovenCount u_4.2 f_bytes f_a1_ovenNumbers f_a1_doughNumbers) H := hP
        have hD : va_D A (w_X2_readItem E p_this p_bytes p_a1 p_a1_ovenNumbers p_a1_doughNumbers v_byteCount v_place v_token v_tokenStart v_tokenValue v_a1_ovenCount u_4.2 f_bytes f_a1_ovenNumbers f_a1_doughNumbers) := hD
        refine lv_if_eq (tgt := 71) hx hb dX2_readItem_56 (by decide) (fun c_5 => ?_) (fun c_5 => ?_)
        · replace hf := ot c_5 hf
          exact b_X2_readItem_71 E p_this p_bytes p_a1 p_a1_ovenNumbers p_a1_doughNumbers v_byteCount f_bytes res X hK hA hret   v_place v_token v_tokenStart v_tokenValue v_a1_ovenCount u_4.2 f_a1_ovenNumbers f_a1_doughNumbers hf H locs ls (lv_sub hl [0] rfl) hP hD hS
        · replace hf := of c_5 hf
          refine lv_aload_n hx hb dX2_readItem_59 rfl (lv_at hl 0 rfl) ?_
          refine lv_aload_n hx hb dX2_readItem_60 rfl (lv_at hl 1 rfl) ?_
          obtain ⟨u_6, hu_6, hf⟩ := ob hf
          refine mV X hK hA hP hD hS hl.1 (m_X2_readDoughNumbers (l := l) E p_this p_bytes p_a1 p_a1_ovenNumbers p_a1_doughNumbers v_byteCount v_place v_token v_tokenStart v_tokenValue v_a1_ovenCount u_4.2 f_bytes f_a1_doughNumbers  u_6 hu_6) kRX2_53 [0, 2, 1, 4] rfl rfl (by simp only [w_X2_readDoughNumbers, List.map]) rfl rfl rfl ⟨⟨(Nat.le_of_ble_eq_true rfl), (Nat.le_of_ble_eq_true rfl)⟩, Nat.zero_le _, Nat.zero_le _⟩ rfl rfl (Nat.le_of_ble_eq_true rfl) dX2_readItem_61 (fun H locs hP hD hS => ?_)
          have hP : va_P E.1 classes (w_X2_readItem E p_this p_bytes p_a1 p_a1_ovenNumbers p_a1_doughNumbers v_byteCount u_6.2.1 u_6.2.2.1 u_6.2.2.2.1 u_6.2.2.2.2.1 v_a1_ovenCount u_4.2 f_bytes f_a1_ovenNumbers u_6.2.2.2.2.2) H := hP
          have hD : va_D A (w_X2_readItem E p_this p_bytes p_a1 p_a1_ovenNumbers p_a1_doughNumbers v_byteCount u_6.2.1 u_6.2.2.1 u_6.2.2.2.1 u_6.2.2.2.2.1 v_a1_ovenCount u_4.2 f_bytes f_a1_ovenNumbers u_6.2.2.2.2.2) := hD
          refine lv_if_eq (tgt := 71) hx hb dX2_readItem_64 (by decide) (fun c_7 => ?_) (fun c_7 => ?_)
          · replace hf := ot c_7 hf
            exact b_X2_readItem_71 E p_this p_bytes p_a1 p_a1_ovenNumbers p_a1_doughNumbers v_byteCount f_bytes res X hK hA hret   u_6.2.1 u_6.2.2.1 u_6.2.2.2.1 u_6.2.2.2.2.1 v_a1_ovenCount u_4.2 f_a1_ovenNumbers u_6.2.2.2.2.2 hf H locs ls (lv_sub hl [0] rfl) hP hD hS
          · replace hf := of c_7 hf
            refine lv_iconst (v := (1 : Int32)) hx hb dX2_readItem_67 (by decide) ?_
            refine lv_goto (tgt := 72) hx hb dX2_readItem_68 (by decide) ?_
            exact b_X2_readItem_72 E p_this p_bytes p_a1 p_a1_ovenNumbers p_a1_doughNumbers v_byteCount f_bytes res X hK hA hret   u_6.2.1 u_6.2.2.1 u_6.2.2.2.1 u_6.2.2.2.2.1 v_a1_ovenCount u_4.2 f_a1_ovenNumbers u_6.2.2.2.2.2 (1 : Int32) hf H locs ls (lv_sub hl [0] rfl) hP hD hS
    · replace hf := ot c_2 hf
      refine lv_aload_n hx hb dX2_readItem_19 rfl (lv_at hl 1 rfl) ?_
      obtain ⟨u_8, hu_8, hf⟩ := ob hf
      refine mV X hK hA hP hD hS hl.1 (m_X3_addOven (l := l) E p_a1 p_a1_ovenNumbers p_a1_doughNumbers v_a1_ovenCount v_a1_doughCount  u_8 hu_8) kRX2_43 [1] rfl rfl (by simp only [w_X3_addOven, List.map]) rfl rfl rfl ⟨⟨(Nat.le_of_ble_eq_true rfl), (Nat.le_of_ble_eq_true rfl)⟩, Nat.zero_le _, Nat.zero_le _⟩ rfl rfl (Nat.le_of_ble_eq_true rfl) dX2_readItem_20 (fun H locs hP hD hS => ?_)
      have hP : va_P E.1 classes (w_X2_readItem E p_this p_bytes p_a1 p_a1_ovenNumbers p_a1_doughNumbers v_byteCount v_place v_token v_tokenStart v_tokenValue u_8.2 v_a1_doughCount f_bytes f_a1_ovenNumbers f_a1_doughNumbers) H := hP
      have hD : va_D A (w_X2_readItem E p_this p_bytes p_a1 p_a1_ovenNumbers p_a1_doughNumbers v_byteCount v_place v_token v_tokenStart v_tokenValue u_8.2 v_a1_doughCount f_bytes f_a1_ovenNumbers f_a1_doughNumbers) := hD
      refine lv_if_eq (tgt := 38) hx hb dX2_readItem_23 (by decide) (fun c_9 => ?_) (fun c_9 => ?_)
      · replace hf := ot c_9 hf
        exact b_X2_readItem_38 E p_this p_bytes p_a1 p_a1_ovenNumbers p_a1_doughNumbers v_byteCount f_bytes res X hK hA hret   v_place v_token v_tokenStart v_tokenValue u_8.2 v_a1_doughCount f_a1_ovenNumbers f_a1_doughNumbers hf H locs ls (lv_sub hl [0] rfl) hP hD hS
      · replace hf := of c_9 hf
        refine lv_aload_n hx hb dX2_readItem_26 rfl (lv_at hl 0 rfl) ?_
        refine lv_aload_n hx hb dX2_readItem_27 rfl (lv_at hl 1 rfl) ?_
        obtain ⟨u_10, hu_10, hf⟩ := ob hf
        refine mV X hK hA hP hD hS hl.1 (m_X2_readOvenNumbers (l := l) E p_this p_bytes p_a1 p_a1_ovenNumbers p_a1_doughNumbers v_byteCount v_place v_token v_tokenStart v_tokenValue u_8.2 v_a1_doughCount f_bytes f_a1_ovenNumbers  u_10 hu_10) kRX2_47 [0, 2, 1, 3] rfl rfl (by simp only [w_X2_readOvenNumbers, List.map]) rfl rfl rfl ⟨⟨(Nat.le_of_ble_eq_true rfl), (Nat.le_of_ble_eq_true rfl)⟩, Nat.zero_le _, Nat.zero_le _⟩ rfl rfl (Nat.le_of_ble_eq_true rfl) dX2_readItem_28 (fun H locs hP hD hS => ?_)
        have hP : va_P E.1 classes (w_X2_readItem E p_this p_bytes p_a1 p_a1_ovenNumbers p_a1_doughNumbers v_byteCount u_10.2.1 u_10.2.2.1 u_10.2.2.2.1 u_10.2.2.2.2.1 u_8.2 v_a1_doughCount f_bytes u_10.2.2.2.2.2 f_a1_doughNumbers) H := hP
        have hD : va_D A (w_X2_readItem E p_this p_bytes p_a1 p_a1_ovenNumbers p_a1_doughNumbers v_byteCount u_10.2.1 u_10.2.2.1 u_10.2.2.2.1 u_10.2.2.2.2.1 u_8.2 v_a1_doughCount f_bytes u_10.2.2.2.2.2 f_a1_doughNumbers) := hD
        refine lv_if_eq (tgt := 38) hx hb dX2_readItem_31 (by decide) (fun c_11 => ?_) (fun c_11 => ?_)
        · replace hf := ot c_11 hf
          exact b_X2_readItem_38 E p_this p_bytes p_a1 p_a1_ovenNumbers p_a1_doughNumbers v_byteCount f_bytes res X hK hA hret   u_10.2.1 u_10.2.2.1 u_10.2.2.2.1 u_10.2.2.2.2.1 u_8.2 v_a1_doughCount u_10.2.2.2.2.2 f_a1_doughNumbers hf H locs ls (lv_sub hl [0] rfl) hP hD hS
        · replace hf := of c_11 hf
          refine lv_iconst (v := (1 : Int32)) hx hb dX2_readItem_34 (by decide) ?_
          refine lv_goto (tgt := 39) hx hb dX2_readItem_35 (by decide) ?_
          exact b_X2_readItem_39 E p_this p_bytes p_a1 p_a1_ovenNumbers p_a1_doughNumbers v_byteCount f_bytes res X hK hA hret   u_10.2.1 u_10.2.2.1 u_10.2.2.2.1 u_10.2.2.2.2.1 u_8.2 v_a1_doughCount u_10.2.2.2.2.2 f_a1_doughNumbers (1 : Int32) hf H locs ls (lv_sub hl [0] rfl) hP hD hS
  · replace hf := of c_1 hf
    refine lv_iconst (v := (0 : Int32)) hx hb dX2_readItem_8 (by decide) ?_
    obtain rfl := Option.some.inj hf
    exact hret H locs _ ls nar0 hP hS dX2_readItem_9

abbrev w_X2_read (E : Ev) (p_this : Nat) (p_bytes : Nat) (p_a1 : Nat) (p_a1_ovenNumbers : Nat) (p_a1_doughNumbers : Nat) (v_byteCount : Int32) (v_place : Int32) (v_token : Int32) (v_tokenStart : Int32) (v_tokenValue : Int32) (v_a1_ovenCount : Int32) (v_a1_doughCount : Int32) (f_bytes : Nat → Int32) (f_a1_ovenNumbers : Nat → Int32) (f_a1_doughNumbers : Nat → Int32) : va_W := [(p_this, .inr (2, [.ref p_bytes, .int v_byteCount, .int v_place, .int v_token, .int v_tokenStart, .int v_tokenValue])), (p_a1, .inr (3, [.ref p_a1_ovenNumbers, .ref p_a1_doughNumbers, .int v_a1_ovenCount, .int v_a1_doughCount])), (p_bytes, .inl (E.2.1, 180, .inl f_bytes)), (p_a1_ovenNumbers, .inl (E.2.1, 10, .inl f_a1_ovenNumbers)), (p_a1_doughNumbers, .inl (E.2.1, 30, .inl f_a1_doughNumbers))]
set_option maxHeartbeats 4000000 in
set_option maxRecDepth 100000 in
theorem b_X2_read_15 {p : Program} {l : Launch} {e : Env} {s : State} {m : MethodId} {args : Array Value} {below : List Frame} {meth : Method} {c : Code} {Q : State → Prop} {A : Nat → Prop} (E : Ev) (p_this : Nat) (p_bytes : Nat) (p_a1 : Nat) (p_a1_ovenNumbers : Nat) (p_a1_doughNumbers : Nat) (v_byteCount : Int32) (f_bytes : Nat → Int32) (res : Int32 × Int32 × Int32 × Int32 × Int32 × Int32 × Int32 × (Nat → Int32) × (Nat → Int32)) (X : Cx p s m args meth c cX2_read 3 RX2 (some .int)) (hK : KK E A s s.heap) (hA : ∀ q, s.heap.size ≤ q → A q) (hret : RetI p l e (RM 6) s m args below meth c Q E A cX2_read .int (w_X2_read E p_this p_bytes p_a1 p_a1_ovenNumbers p_a1_doughNumbers v_byteCount res.2.1 res.2.2.1 res.2.2.2.1 res.2.2.2.2.1 res.2.2.2.2.2.1 res.2.2.2.2.2.2.1 f_bytes res.2.2.2.2.2.2.2.1 res.2.2.2.2.2.2.2.2) res.1)  : ∀ (n : Nat) (v_place : Int32) (v_token : Int32) (v_tokenStart : Int32) (v_tokenValue : Int32) (v_a1_ovenCount : Int32) (v_a1_doughCount : Int32) (f_a1_ovenNumbers : Nat → Int32) (f_a1_doughNumbers : Nat → Int32) (x2 : Int32), f_X2_read_15 v_byteCount f_bytes   n v_place v_token v_tokenStart v_tokenValue v_a1_ovenCount v_a1_doughCount f_a1_ovenNumbers f_a1_doughNumbers x2 = some res → ∀ (H : Heap) (locs : List Loc) (ls : Array Slot), lv_has ls 3 [(0, .ref p_this), (1, .ref p_a1), (2, .int x2)] → va_P E.1 classes (w_X2_read E p_this p_bytes p_a1 p_a1_ovenNumbers p_a1_doughNumbers v_byteCount v_place v_token v_tokenStart v_tokenValue v_a1_ovenCount v_a1_doughCount f_bytes f_a1_ovenNumbers f_a1_doughNumbers) H → va_D A (w_X2_read E p_this p_bytes p_a1 p_a1_ovenNumbers p_a1_doughNumbers v_byteCount v_place v_token v_tokenStart v_tokenValue v_a1_ovenCount v_a1_doughCount f_bytes f_a1_ovenNumbers f_a1_doughNumbers) → va_S A s.heap H locs → W p l e (RM 6) s m args below meth c H locs 0 0 Q (F0 m 15 ls []) := by
  obtain ⟨hx, hb, hml, hown, hts, hrt, hlk⟩ := id X
  intro n
  induction n with
  | zero => intro v_place v_token v_tokenStart v_tokenValue v_a1_ovenCount v_a1_doughCount f_a1_ovenNumbers f_a1_doughNumbers x2 hf; exact absurd hf (by simp [f_X2_read_15])
  | succ n ih =>
    intro v_place v_token v_tokenStart v_tokenValue v_a1_ovenCount v_a1_doughCount f_a1_ovenNumbers f_a1_doughNumbers x2 hf H locs ls hl hP hD hS
    unfold f_X2_read_15 at hf
    refine lv_aload_n hx hb dX2_read_15 rfl (lv_at hl 0 rfl) ?_
    refine gf_RX2_30 X hK hP 0 rfl rfl dX2_read_16 ?_
    refine lv_if_eq (tgt := 51) hx hb dX2_read_19 (by decide) (fun c_1 => ?_) (fun c_1 => ?_)
    · replace hf := ot c_1 hf
      refine lv_iload_n hx hb dX2_read_51 rfl (lv_at hl 2 rfl) ?_
      obtain rfl := Option.some.inj hf
      exact hret H locs _ ls rfl hP hS dX2_read_52
    · replace hf := of c_1 hf
      refine lv_iload_n hx hb dX2_read_22 rfl (lv_at hl 2 rfl) ?_
      refine lv_sipush (v := (180 : Int32)) hx hb dX2_read_23 (by decide) ?_
      refine lv_icmp_gt (tgt := 51) hx hb dX2_read_26 (by decide) (fun c_2 => ?_) (fun c_2 => ?_)
      · replace hf := ot c_2 hf
        refine lv_iload_n hx hb dX2_read_51 rfl (lv_at hl 2 rfl) ?_
        obtain rfl := Option.some.inj hf
        exact hret H locs _ ls rfl hP hS dX2_read_52
      · replace hf := of c_2 hf
        refine lv_aload_n hx hb dX2_read_29 rfl (lv_at hl 0 rfl) ?_
        refine lv_aload_n hx hb dX2_read_30 rfl (lv_at hl 1 rfl) ?_
        obtain ⟨u_3, hu_3, hf⟩ := ob hf
        refine mV X hK hA hP hD hS hl.1 (m_X2_readItem (l := l) E p_this p_bytes p_a1 p_a1_ovenNumbers p_a1_doughNumbers v_byteCount v_place v_token v_tokenStart v_tokenValue v_a1_ovenCount v_a1_doughCount f_bytes f_a1_ovenNumbers f_a1_doughNumbers  u_3 hu_3) kRX2_33 [0, 1, 2, 3, 4] rfl rfl (by simp only [w_X2_readItem, List.map]) rfl rfl rfl ⟨⟨(Nat.le_of_ble_eq_true rfl), (Nat.le_of_ble_eq_true rfl)⟩, Nat.zero_le _, Nat.zero_le _⟩ rfl rfl (Nat.le_of_ble_eq_true rfl) dX2_read_31 (fun H locs hP hD hS => ?_)
        have hP : va_P E.1 classes (w_X2_read E p_this p_bytes p_a1 p_a1_ovenNumbers p_a1_doughNumbers v_byteCount u_3.2.1 u_3.2.2.1 u_3.2.2.2.1 u_3.2.2.2.2.1 u_3.2.2.2.2.2.1 u_3.2.2.2.2.2.2.1 f_bytes u_3.2.2.2.2.2.2.2.1 u_3.2.2.2.2.2.2.2.2) H := hP
        have hD : va_D A (w_X2_read E p_this p_bytes p_a1 p_a1_ovenNumbers p_a1_doughNumbers v_byteCount u_3.2.1 u_3.2.2.1 u_3.2.2.2.1 u_3.2.2.2.2.1 u_3.2.2.2.2.2.1 u_3.2.2.2.2.2.2.1 f_bytes u_3.2.2.2.2.2.2.2.1 u_3.2.2.2.2.2.2.2.2) := hD
        refine lv_if_ne (tgt := 45) hx hb dX2_read_34 (by decide) (fun c_4 => ?_) (fun c_4 => ?_)
        · replace hf := of c_4 hf
          refine lv_iinc (v := (x2 + (1 : Int32))) (lv' := [(2, .int (x2 + (1 : Int32))), (0, .ref p_this), (1, .ref p_a1)]) hx hb dX2_read_45 hl (k := 2) rfl rfl (by decide) rfl (fun ls hl => ?_)
          refine lv_goto (tgt := 15) hx hb dX2_read_48 (by decide) ?_
          exact ih u_3.2.1 u_3.2.2.1 u_3.2.2.2.1 u_3.2.2.2.2.1 u_3.2.2.2.2.2.1 u_3.2.2.2.2.2.2.1 u_3.2.2.2.2.2.2.2.1 u_3.2.2.2.2.2.2.2.2 (x2 + (1 : Int32)) hf H locs ls (lv_sub hl [1, 2, 0] rfl) hP hD hS
        · replace hf := ot c_4 hf
          refine lv_bipush (v := (-10 : Int32)) hx hb dX2_read_37 (by decide) ?_
          refine lv_aload_n hx hb dX2_read_39 rfl (lv_at hl 0 rfl) ?_
          refine gf_RX2_37 X hK hP 0 rfl rfl dX2_read_40 ?_
          refine lv_isub hx hb dX2_read_43 ?_
          obtain rfl := Option.some.inj hf
          exact hret H locs _ ls rfl hP hS dX2_read_44

set_option maxHeartbeats 4000000 in
set_option maxRecDepth 100000 in
theorem m_X2_read {l : Launch} (E : Ev) (p_this : Nat) (p_bytes : Nat) (p_a1 : Nat) (p_a1_ovenNumbers : Nat) (p_a1_doughNumbers : Nat) (v_byteCount : Int32) (v_place : Int32) (v_token : Int32) (v_tokenStart : Int32) (v_tokenValue : Int32) (v_a1_ovenCount : Int32) (v_a1_doughCount : Int32) (f_bytes : Nat → Int32) (f_a1_ovenNumbers : Nat → Int32) (f_a1_doughNumbers : Nat → Int32)  (res : Int32 × Int32 × Int32 × Int32 × Int32 × Int32 × Int32 × (Nat → Int32) × (Nat → Int32)) (hf : f_X2_read  v_byteCount f_bytes v_place v_token v_tokenStart v_tokenValue v_a1_ovenCount v_a1_doughCount f_a1_ovenNumbers f_a1_doughNumbers  = some res) : MutI l E 6 yX2_read cX2_read 3 .int [.ref p_this, .ref p_a1] (w_X2_read E p_this p_bytes p_a1 p_a1_ovenNumbers p_a1_doughNumbers v_byteCount v_place v_token v_tokenStart v_tokenValue v_a1_ovenCount v_a1_doughCount f_bytes f_a1_ovenNumbers f_a1_doughNumbers) (w_X2_read E p_this p_bytes p_a1 p_a1_ovenNumbers p_a1_doughNumbers v_byteCount res.2.1 res.2.2.1 res.2.2.2.1 res.2.2.2.2.1 res.2.2.2.2.2.1 res.2.2.2.2.2.2.1 f_bytes res.2.2.2.2.2.2.2.1 res.2.2.2.2.2.2.2.2) res.1 := by
  refine MutI.of (by decide) (Nat.le_of_ble_eq_true rfl) ?_
  intro p e s m args below meth c Q A X hK hA hret H locs ls hl hP hD hS
  obtain ⟨hx, hb, hml, hown, hts, hrt, hlk⟩ := id X
  have hl : lv_has ls 3 [(0, .ref p_this), (1, .ref p_a1)] := hl
  unfold f_X2_read at hf
  refine lv_aload_n hx hb dX2_read_0 rfl (lv_at hl 0 rfl) ?_
  refine lv_iconst (v := (0 : Int32)) hx hb dX2_read_1 (by decide) ?_
  refine pf_RX2_19 X hK hP hD hS 0 rfl rfl dX2_read_2 (fun H locs hP hD hS => ?_)
  have hP : va_P E.1 classes (w_X2_read E p_this p_bytes p_a1 p_a1_ovenNumbers p_a1_doughNumbers v_byteCount (0 : Int32) v_token v_tokenStart v_tokenValue v_a1_ovenCount v_a1_doughCount f_bytes f_a1_ovenNumbers f_a1_doughNumbers) H := hP
  have hD : va_D A (w_X2_read E p_this p_bytes p_a1 p_a1_ovenNumbers p_a1_doughNumbers v_byteCount (0 : Int32) v_token v_tokenStart v_tokenValue v_a1_ovenCount v_a1_doughCount f_bytes f_a1_ovenNumbers f_a1_doughNumbers) := hD
  refine lv_aload_n hx hb dX2_read_5 rfl (lv_at hl 1 rfl) ?_
  obtain ⟨u_1, hu_1, hf⟩ := ob hf
  refine mVv X hK hA hP hD hS hl.1 (m_X3_forgetAll (l := l) E p_a1 p_a1_ovenNumbers p_a1_doughNumbers v_a1_ovenCount v_a1_doughCount  u_1 hu_1) kRX2_22 [1] rfl rfl (by simp only [w_X3_forgetAll, List.map]) rfl rfl rfl ⟨⟨(Nat.le_of_ble_eq_true rfl), (Nat.le_of_ble_eq_true rfl)⟩, Nat.zero_le _, Nat.zero_le _⟩ rfl rfl (Nat.le_of_ble_eq_true rfl) dX2_read_6 (fun H locs hP hD hS => ?_)
  have hP : va_P E.1 classes (w_X2_read E p_this p_bytes p_a1 p_a1_ovenNumbers p_a1_doughNumbers v_byteCount (0 : Int32) v_token v_tokenStart v_tokenValue u_1.1 u_1.2 f_bytes f_a1_ovenNumbers f_a1_doughNumbers) H := hP
  have hD : va_D A (w_X2_read E p_this p_bytes p_a1 p_a1_ovenNumbers p_a1_doughNumbers v_byteCount (0 : Int32) v_token v_tokenStart v_tokenValue u_1.1 u_1.2 f_bytes f_a1_ovenNumbers f_a1_doughNumbers) := hD
  refine lv_iconst (v := (0 : Int32)) hx hb dX2_read_9 (by decide) ?_
  refine lv_istore_n (lv' := [(2, .int (0 : Int32)), (0, .ref p_this), (1, .ref p_a1)]) hx hb dX2_read_10 rfl hl (by decide) rfl (fun ls hl => ?_)
  refine lv_aload_n hx hb dX2_read_11 rfl (lv_at hl 1 rfl) ?_
  obtain ⟨u_2, hu_2, hf⟩ := ob hf
  refine mVv X hK hA hP hD hS hl.1 (m_X2_nextToken (l := l) E p_this p_bytes v_byteCount (0 : Int32) v_token v_tokenStart v_tokenValue f_bytes  u_2 hu_2) kRX2_27 [0, 2] rfl rfl (by simp only [w_X2_nextToken, List.map]) rfl rfl rfl ⟨⟨(Nat.le_of_ble_eq_true rfl), (Nat.le_of_ble_eq_true rfl)⟩, Nat.zero_le _, Nat.zero_le _⟩ rfl rfl (Nat.le_of_ble_eq_true rfl) dX2_read_12 (fun H locs hP hD hS => ?_)
  have hP : va_P E.1 classes (w_X2_read E p_this p_bytes p_a1 p_a1_ovenNumbers p_a1_doughNumbers v_byteCount u_2.1 u_2.2.1 u_2.2.2.1 u_2.2.2.2 u_1.1 u_1.2 f_bytes f_a1_ovenNumbers f_a1_doughNumbers) H := hP
  have hD : va_D A (w_X2_read E p_this p_bytes p_a1 p_a1_ovenNumbers p_a1_doughNumbers v_byteCount u_2.1 u_2.2.1 u_2.2.2.1 u_2.2.2.2 u_1.1 u_1.2 f_bytes f_a1_ovenNumbers f_a1_doughNumbers) := hD
  exact b_X2_read_15 E p_this p_bytes p_a1 p_a1_ovenNumbers p_a1_doughNumbers v_byteCount f_bytes res X hK hA hret   FU u_2.1 u_2.2.1 u_2.2.2.1 u_2.2.2.2 u_1.1 u_1.2 f_a1_ovenNumbers f_a1_doughNumbers (0 : Int32) hf H locs ls (lv_sub hl [1, 2, 0] rfl) hP hD hS

