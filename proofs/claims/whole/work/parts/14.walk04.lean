def f_X8_of (a1 : Int32) (a2 : Int32) (h : Hp) : Option Int32 :=
  (f_X8_within a2 7 8).bind fun r1 =>
  if r1 = 0 then
    (f_X8_isOf a1 a2 h).bind fun r3 =>
    if r3 = 0 then
      some (-2000000000)
    else
      (f_X8_get a1 a2 h).bind fun r5 =>
      some r5
  else
    (f_X8_isWrong a1 h).bind fun r6 =>
    if r6 = 0 then
      some (-2000000000)
    else
      if a2 = 7 then
        (rdI h 57 a1).bind fun v10 =>
        some v10
      else
        (rdI h 58 a1).bind fun v9 =>
        some v9
theorem t_X8_of {x : Cx} (g : Gx x RX8 cX8_of 3 4) (a1 : Int32) (a2 : Int32) (h : Hp) (out : Int32) (H : f_X8_of a1 a2 h = some out) (K : RtI x .int out h) : WA x 0 [.ref 53, .int a1, .int a2] [] h := by
  unfold f_X8_of at H
  refine st_iload_n g dX8_of_0 rfl ?_
  refine st_bipush g dX8_of_1 bi_7 ?_
  refine st_bipush g dX8_of_3 bi_8 ?_
  obtain ⟨r1, hr1, H⟩ := bind_some H
  refine st_callSI g (as := [.int a2, .int 7, .int 8]) dX8_of_5 ml_X8_109 mf_X8_within rfl (Nat.le_of_ble_eq_true rfl) (Nat.le_of_ble_eq_true rfl) (c_X8_within a2 7 8 h _ hr1) (fun hz => ?_)
  have br1 := hz rfl
  refine st_if_eq g dX8_of_8 (tgt := 46) (by decide) H (fun q2 H => ?_) (fun q2 H => ?_)
  · refine st_aload_n g dX8_of_46 rfl ?_
    refine st_iload_n g dX8_of_47 rfl ?_
    refine st_iload_n g dX8_of_48 rfl ?_
    obtain ⟨r3, hr3, H⟩ := bind_some H
    refine st_callVI g (as := [.int a1, .int a2]) dX8_of_49 rfl rfl ml_X8_149 mf_X8_isOf rfl (Nat.le_of_ble_eq_true rfl) (Nat.le_of_ble_eq_true rfl) (c_X8_isOf a1 a2 h _ hr3) (fun hz => ?_)
    have br3 := hz rfl
    refine st_if_eq g dX8_of_52 (tgt := 64) (by decide) H (fun q4 H => ?_) (fun q4 H => ?_)
    · refine st_ldc g dX8_of_64 kc_X8_156 ?_
      obtain rfl := Option.some.inj H
      exact st_iret g dX8_of_66 rfl (fun q => by cases q) K
    · refine st_aload_n g dX8_of_55 rfl ?_
      refine st_iload_n g dX8_of_56 rfl ?_
      refine st_iload_n g dX8_of_57 rfl ?_
      obtain ⟨r5, hr5, H⟩ := bind_some H
      refine st_callVI g (as := [.int a1, .int a2]) dX8_of_58 rfl rfl ml_X8_157 mf_X8_get rfl (Nat.le_of_ble_eq_true rfl) (Nat.le_of_ble_eq_true rfl) (c_X8_get a1 a2 h _ hr5) (fun hz => ?_)
      refine st_goto g dX8_of_61 (tgt := 66) (by decide) ?_
      obtain rfl := Option.some.inj H
      exact st_iret g dX8_of_66 rfl (fun q => by cases q) K
  · refine st_aload_n g dX8_of_11 rfl ?_
    refine st_iload_n g dX8_of_12 rfl ?_
    obtain ⟨r6, hr6, H⟩ := bind_some H
    refine st_callVI g (as := [.int a1]) dX8_of_13 rfl rfl ml_X8_146 mf_X8_isWrong rfl (Nat.le_of_ble_eq_true rfl) (Nat.le_of_ble_eq_true rfl) (c_X8_isWrong a1 h _ hr6) (fun hz => ?_)
    have br6 := hz rfl
    refine st_if_eq g dX8_of_16 (tgt := 43) (by decide) H (fun q7 H => ?_) (fun q7 H => ?_)
    · refine st_ldc g dX8_of_43 kc_X8_156 ?_
      obtain rfl := Option.some.inj H
      exact st_iret g dX8_of_45 rfl (fun q => by cases q) K
    · refine st_iload_n g dX8_of_19 rfl ?_
      refine st_bipush g dX8_of_20 bi_7 ?_
      refine st_ic_ne g dX8_of_22 (tgt := 34) (by decide) H (fun q8 H => ?_) (fun q8 H => ?_)
      · refine st_aload_n g dX8_of_34 rfl ?_
        refine gf_X8_24 g dX8_of_35 rfl (r := 58) rfl ?_
        refine st_iload_n g dX8_of_38 rfl ?_
        refine st_iald g dX8_of_39 H (fun v9 H => ?_)
        refine st_goto g dX8_of_40 (tgt := 45) (by decide) ?_
        obtain rfl := Option.some.inj H
        exact st_iret g dX8_of_45 rfl (fun q => by cases q) K
      · refine st_aload_n g dX8_of_25 rfl ?_
        refine gf_X8_21 g dX8_of_26 rfl (r := 57) rfl ?_
        refine st_iload_n g dX8_of_29 rfl ?_
        refine st_iald g dX8_of_30 H (fun v10 H => ?_)
        refine st_goto g dX8_of_31 (tgt := 45) (by decide) ?_
        obtain rfl := Option.some.inj H
        exact st_iret g dX8_of_45 rfl (fun q => by cases q) K
theorem c_X8_of (a1 : Int32) (a2 : Int32) (h : Hp) (r : Int32) (H : f_X8_of a1 a2 h = some r) : CtI yX8_of cX8_of 3 .int 4 [.ref 53, .int a1, .int a2] h r h :=
  ct_ofI (own := RX8) [.ref 53, .int a1, .int a2] (by decide +kernel) rfl (fun ρ => Nat.le_of_ble_eq_true rfl) (fun ρ => rfl) (fun x g K => t_X8_of g a1 a2 h r H K)
def j_X8_countOf_46 (a1 : Int32) (t0 : Int32) (t1 : Int32) (h : Hp) : Option ((Int32 × Hp)) :=
  (f_X8_ago a1 h).bind fun r6 =>
  some (mxI 0 (mnI 9 ((t1 + t0) - (r6 / 20))), h)
theorem tj_X8_countOf_46 {x : Cx} (g : Gx x RX8 cX8_countOf 4 4) (a1 : Int32) (t0 : Int32) (t1 : Int32) (h : Hp) (out : (Int32 × Hp)) (H : j_X8_countOf_46 a1 t0 t1 h = some out) (K : RtI x .int out.1 out.2) : WA x 46 [.ref 53, .int a1, .null, .null] [.int t0, .int t1] h := by
  unfold j_X8_countOf_46 at H
  refine st_iadd g dX8_countOf_46 ?_
  refine st_aload_n g dX8_countOf_47 rfl ?_
  refine st_iload_n g dX8_countOf_48 rfl ?_
  obtain ⟨r6, hr6, H⟩ := bind_some H
  refine st_callVI g (as := [.int a1]) dX8_countOf_49 rfl rfl ml_X8_239 mf_X8_ago rfl (Nat.le_of_ble_eq_true rfl) (Nat.le_of_ble_eq_true rfl) (c_X8_ago a1 h _ hr6) (fun hz => ?_)
  refine st_bipush g dX8_countOf_52 bi_20 ?_
  refine st_idiv g dX8_countOf_54 (by decide) ?_
  refine st_isub g dX8_countOf_55 ?_
  refine st_istore_n g dX8_countOf_56 (Nat.le_of_ble_eq_true rfl) rfl (ls2 := [.ref 53, .int a1, .null, .int ((t1 + t0) - (r6 / 20))]) rfl ?_
  refine st_iconst g dX8_countOf_57 ic_0 ?_
  refine st_bipush g dX8_countOf_58 bi_9 ?_
  refine st_iload_n g dX8_countOf_60 rfl ?_
  refine st_min g dX8_countOf_61 ml_X8_251 (Nat.le_of_ble_eq_true rfl) (Nat.le_of_ble_eq_true rfl) ?_
  refine st_max g dX8_countOf_64 ml_X8_234 (Nat.le_of_ble_eq_true rfl) (Nat.le_of_ble_eq_true rfl) ?_
  obtain rfl := Option.some.inj H
  exact st_iret g dX8_countOf_67 rfl (fun q => by cases q) K
def f_X8_countOf (a1 : Int32) (a2 : Int32) (h : Hp) : Option (Int32 × Hp) :=
  if (h.1 53 13) = 0 then
    (rdI h 59 a1).bind fun v2 =>
    (rdI h 58 a1).bind fun v3 =>
    (rdI h 55 v3).bind fun v4 =>
    if v4 = a2 then
      j_X8_countOf_46 a1 1 (1 + (v2 / 3)) h
    else
      j_X8_countOf_46 a1 0 (1 + (v2 / 3)) h
  else
    (f_X8_byLaw a1 a2 h).bind fun r7 =>
    some (mxI 0 (mnI 9 r7.1), r7.2)
theorem t_X8_countOf {x : Cx} (g : Gx x RX8 cX8_countOf 4 4) (a1 : Int32) (a2 : Int32) (h : Hp) (out : (Int32 × Hp)) (H : f_X8_countOf a1 a2 h = some out) (K : RtI x .int out.1 out.2) : WA x 0 [.ref 53, .int a1, .int a2, .null] [] h := by
  unfold f_X8_countOf at H
  refine st_aload_n g dX8_countOf_0 rfl ?_
  refine gf_X8_224 g dX8_countOf_1 rfl ?_
  refine st_if_eq g dX8_countOf_4 (tgt := 16) (by decide) H (fun q1 H => ?_) (fun q1 H => ?_)
  · refine st_iconst g dX8_countOf_16 ic_1 ?_
    refine st_aload_n g dX8_countOf_17 rfl ?_
    refine gf_X8_27 g dX8_countOf_18 rfl (r := 59) rfl ?_
    refine st_iload_n g dX8_countOf_21 rfl ?_
    refine st_iald g dX8_countOf_22 H (fun v2 H => ?_)
    refine st_iconst g dX8_countOf_23 ic_3 ?_
    refine st_idiv g dX8_countOf_24 (by decide) ?_
    refine st_iadd g dX8_countOf_25 ?_
    refine st_aload_n g dX8_countOf_26 rfl ?_
    refine gf_X8_15 g dX8_countOf_27 rfl (r := 55) rfl ?_
    refine st_aload_n g dX8_countOf_30 rfl ?_
    refine gf_X8_24 g dX8_countOf_31 rfl (r := 58) rfl ?_
    refine st_iload_n g dX8_countOf_34 rfl ?_
    refine st_iald g dX8_countOf_35 H (fun v3 H => ?_)
    refine st_iald g dX8_countOf_36 H (fun v4 H => ?_)
    refine st_iload_n g dX8_countOf_37 rfl ?_
    refine st_ic_ne g dX8_countOf_38 (tgt := 45) (by decide) H (fun q5 H => ?_) (fun q5 H => ?_)
    · refine st_iconst g dX8_countOf_45 ic_0 ?_
      exact (wa_drop [2] (tj_X8_countOf_46 g a1 0 (1 + (v2 / 3)) h _ H K))
    · refine st_iconst g dX8_countOf_41 ic_1 ?_
      refine st_goto g dX8_countOf_42 (tgt := 46) (by decide) ?_
      exact (wa_drop [2] (tj_X8_countOf_46 g a1 1 (1 + (v2 / 3)) h _ H K))
  · refine st_aload_n g dX8_countOf_7 rfl ?_
    refine st_iload_n g dX8_countOf_8 rfl ?_
    refine st_iload_n g dX8_countOf_9 rfl ?_
    obtain ⟨r7, hr7, H⟩ := bind_some H
    refine st_callVI g (as := [.int a1, .int a2]) dX8_countOf_10 rfl rfl ml_X8_248 mf_X8_byLaw rfl (Nat.le_of_ble_eq_true rfl) (Nat.le_of_ble_eq_true rfl) (c_X8_byLaw a1 a2 h _ hr7) (fun hz => ?_)
    refine st_goto g dX8_countOf_13 (tgt := 56) (by decide) ?_
    refine st_istore_n g dX8_countOf_56 (Nat.le_of_ble_eq_true rfl) rfl (ls2 := [.ref 53, .int a1, .int a2, .int r7.1]) rfl ?_
    refine st_iconst g dX8_countOf_57 ic_0 ?_
    refine st_bipush g dX8_countOf_58 bi_9 ?_
    refine st_iload_n g dX8_countOf_60 rfl ?_
    refine st_min g dX8_countOf_61 ml_X8_251 (Nat.le_of_ble_eq_true rfl) (Nat.le_of_ble_eq_true rfl) ?_
    refine st_max g dX8_countOf_64 ml_X8_234 (Nat.le_of_ble_eq_true rfl) (Nat.le_of_ble_eq_true rfl) ?_
    obtain rfl := Option.some.inj H
    exact st_iret g dX8_countOf_67 rfl (fun q => by cases q) K
theorem c_X8_countOf (a1 : Int32) (a2 : Int32) (h : Hp) (r : (Int32 × Hp)) (H : f_X8_countOf a1 a2 h = some r) : CtI yX8_countOf cX8_countOf 4 .int 4 [.ref 53, .int a1, .int a2] h r.1 r.2 :=
  ct_ofI (own := RX8) [.ref 53, .int a1, .int a2, .null] (by decide +kernel) rfl (fun ρ => Nat.le_of_ble_eq_true rfl) (fun ρ => rfl) (fun x g K => t_X8_countOf g a1 a2 h r H K)
def f_X7_callOf (a1 : Int32) (a2 : Int32) (h : Hp) : Option (Int32 × Hp) :=
  (f_X6_valueAt a1 a2 h).bind fun r1 =>
  (f_X7_forgive 17 (r1.toInt32 / 12) (r1.toInt32 % 12) h).bind fun r2 =>
  some (r2.1, r2.2)
theorem t_X7_callOf {x : Cx} (g : Gx x RX7 cX7_callOf 4 5) (a1 : Int32) (a2 : Int32) (h : Hp) (out : (Int32 × Hp)) (H : f_X7_callOf a1 a2 h = some out) (K : RtI x .int out.1 out.2) : WA x 0 [.ref 0, .int a1, .int a2, .null] [] h := by
  unfold f_X7_callOf at H
  refine st_aload_n g dX7_callOf_0 rfl ?_
  refine gf_X7_54 g dX7_callOf_1 rfl (r := 30) rfl ?_
  refine st_iload_n g dX7_callOf_4 rfl ?_
  refine st_iload_n g dX7_callOf_5 rfl ?_
  obtain ⟨r1, hr1, H⟩ := bind_some H
  refine st_callVL g (as := [.int a1, .int a2]) dX7_callOf_6 rfl rfl ml_X7_120 mf_X6_valueAt rfl (Nat.le_of_ble_eq_true rfl) (Nat.le_of_ble_eq_true rfl) (c_X6_valueAt a1 a2 h _ hr1) ?_
  refine st_l2i g dX7_callOf_9 ?_
  refine st_istore_n g dX7_callOf_10 (Nat.le_of_ble_eq_true rfl) rfl (ls2 := [.ref 0, .int a1, .int a2, .int r1.toInt32]) rfl ?_
  refine st_aload_n g dX7_callOf_11 rfl ?_
  refine st_aload_n g dX7_callOf_12 rfl ?_
  refine gf_X7_30 g dX7_callOf_13 rfl (r := 17) rfl ?_
  refine st_iload_n g dX7_callOf_16 rfl ?_
  refine st_bipush g dX7_callOf_17 bi_12 ?_
  refine st_idiv g dX7_callOf_19 (by decide) ?_
  refine st_iload_n g dX7_callOf_20 rfl ?_
  refine st_bipush g dX7_callOf_21 bi_12 ?_
  refine st_irem g dX7_callOf_23 (by decide) ?_
  obtain ⟨r2, hr2, H⟩ := bind_some H
  refine st_callVI g (as := [.ref 17, .int (r1.toInt32 / 12), .int (r1.toInt32 % 12)]) dX7_callOf_24 rfl rfl ml_X7_191 mf_X7_forgive rfl (Nat.le_of_ble_eq_true rfl) (Nat.le_of_ble_eq_true rfl) (c_X7_forgive 17 (r1.toInt32 / 12) (r1.toInt32 % 12) h _ hr2) (fun hz => ?_)
  obtain rfl := Option.some.inj H
  exact st_iret g dX7_callOf_27 rfl (fun q => by cases q) K
theorem c_X7_callOf (a1 : Int32) (a2 : Int32) (h : Hp) (r : (Int32 × Hp)) (H : f_X7_callOf a1 a2 h = some r) : CtI yX7_callOf cX7_callOf 4 .int 5 [.ref 0, .int a1, .int a2] h r.1 r.2 :=
  ct_ofI (own := RX7) [.ref 0, .int a1, .int a2, .null] (by decide +kernel) rfl (fun ρ => Nat.le_of_ble_eq_true rfl) (fun ρ => rfl) (fun x g K => t_X7_callOf g a1 a2 h r H K)
def P_X7_mendsIn_13 (x : Cx) (a1 : Int32) (a2 : Int32) (a3 : Int32) (s : (Int32 × Hp)) : Prop := WA x 13 [.ref 0, .int a1, .int a2, .int a3, .int s.1, .null] [] s.2
def E_X7_mendsIn_13 (x : Cx) (a1 : Int32) (a2 : Int32) (a3 : Int32) : (Int32 × Hp) ⊕ (Int32 × Hp) → Prop := Sum.elim (fun s : (Int32 × Hp) => WA x 107 [.null, .null, .null, .null, .null, .null] [] s.2) (fun r : (Int32 × Hp) => RtI x .boolean r.1 r.2)
def j_X7_mendsIn_59 (a1 : Int32) (a2 : Int32) (a3 : Int32) (c4 : Int32) (t0 : Int32) (h : Hp) : Option ((Int32 × Hp) ⊕ ((Int32 × Hp) ⊕ (Int32 × Hp))) :=
  (wrI h 18 a1 a3).bind fun h7 =>
  (f_X5_setForgiven 17 c4 0 h7).bind fun r8 =>
  if t0 = 0 then
    some (.inl (c4 + 1, r8))
  else
    (wrI r8 49 a2 ((c4 * 12) + a1)).bind fun h10 =>
    some (.inr (.inr (1, h10)))
theorem tj_X7_mendsIn_59 {x : Cx} (g : Gx x RX7 cX7_mendsIn 6 5) (a1 : Int32) (a2 : Int32) (a3 : Int32) (c4 : Int32) (t0 : Int32) (h : Hp) (out : (Int32 × Hp) ⊕ ((Int32 × Hp) ⊕ (Int32 × Hp))) (H : j_X7_mendsIn_59 a1 a2 a3 c4 t0 h = some out) (K : Sum.elim (P_X7_mendsIn_13 x a1 a2 a3) (E_X7_mendsIn_13 x a1 a2 a3) out) : WA x 59 [.ref 0, .int a1, .int a2, .int a3, .int c4, .null] [.int t0] h := by
  unfold j_X7_mendsIn_59 at H
  refine st_istore g dX7_mendsIn_59 (Nat.le_of_ble_eq_true rfl) rfl (ls2 := [.ref 0, .int a1, .int a2, .int a3, .int c4, .int t0]) rfl ?_
  refine st_aload_n g dX7_mendsIn_61 rfl ?_
  refine gf_X7_30 g dX7_mendsIn_62 rfl (r := 17) rfl ?_
  refine gf_X7_169 g dX7_mendsIn_65 rfl (r := 18) rfl ?_
  refine st_iload_n g dX7_mendsIn_68 rfl ?_
  refine st_iload_n g dX7_mendsIn_69 rfl ?_
  refine st_iast g dX7_mendsIn_70 H (fun h7 H => ?_)
  refine st_aload_n g dX7_mendsIn_71 rfl ?_
  refine gf_X7_30 g dX7_mendsIn_72 rfl (r := 17) rfl ?_
  refine st_iload g dX7_mendsIn_75 rfl ?_
  refine st_iconst g dX7_mendsIn_77 ic_0 ?_
  obtain ⟨r8, hr8, H⟩ := bind_some H
  refine st_callVV g (as := [.int c4, .int 0]) dX7_mendsIn_78 rfl rfl ml_X7_377 mf_X5_setForgiven rfl (Nat.le_of_ble_eq_true rfl) (Nat.le_of_ble_eq_true rfl) (c_X5_setForgiven 17 c4 0 h7 _ hr8) ?_
  refine st_iload g dX7_mendsIn_81 rfl ?_
  refine st_if_eq g dX7_mendsIn_83 (tgt := 101) (by decide) H (fun q9 H => ?_) (fun q9 H => ?_)
  · refine st_iinc g dX7_mendsIn_101 rfl (ii_1 _) (Nat.le_of_ble_eq_true rfl) rfl (ls2 := [.ref 0, .int a1, .int a2, .int a3, .int (c4 + 1), .int t0]) rfl ?_
    refine st_goto g dX7_mendsIn_104 (tgt := 13) (by decide) ?_
    obtain rfl := Option.some.inj H
    exact (wa_drop [5] K)
  · refine st_aload_n g dX7_mendsIn_86 rfl ?_
    refine gf_X7_72 g dX7_mendsIn_87 rfl (r := 49) rfl ?_
    refine st_iload_n g dX7_mendsIn_90 rfl ?_
    refine st_iload g dX7_mendsIn_91 rfl ?_
    refine st_bipush g dX7_mendsIn_93 bi_12 ?_
    refine st_imul g dX7_mendsIn_95 ?_
    refine st_iload_n g dX7_mendsIn_96 rfl ?_
    refine st_iadd g dX7_mendsIn_97 ?_
    refine st_iast g dX7_mendsIn_98 H (fun h10 H => ?_)
    refine st_iconst g dX7_mendsIn_99 ic_1 ?_
    obtain rfl := Option.some.inj H
    exact st_iret g dX7_mendsIn_100 rfl (fun _ => Or.inr rfl) K
def b_X7_mendsIn_13 (a1 : Int32) (a2 : Int32) (a3 : Int32) (s : (Int32 × Hp)) : Option ((Int32 × Hp) ⊕ ((Int32 × Hp) ⊕ (Int32 × Hp))) :=
  if (s.2.1 1 3) ≤ s.1 then
    some (.inr (.inl (s.1, s.2)))
  else
    (f_X7_forgive 17 s.1 a1 s.2).bind fun r3 =>
    if r3.1 = 0 then
      some (.inl (s.1 + 1, r3.2))
    else
      (f_X5_firstBreak 17 r3.2).bind fun r5 =>
      if r5 = (-2) then
        j_X7_mendsIn_59 a1 a2 a3 s.1 1 r3.2
      else
        j_X7_mendsIn_59 a1 a2 a3 s.1 0 r3.2
theorem tb_X7_mendsIn_13 {x : Cx} (g : Gx x RX7 cX7_mendsIn 6 5) (a1 : Int32) (a2 : Int32) (a3 : Int32) (s : (Int32 × Hp)) (out : (Int32 × Hp) ⊕ ((Int32 × Hp) ⊕ (Int32 × Hp))) (H : b_X7_mendsIn_13 a1 a2 a3 s = some out) (K : Sum.elim (P_X7_mendsIn_13 x a1 a2 a3) (E_X7_mendsIn_13 x a1 a2 a3) out) : P_X7_mendsIn_13 x a1 a2 a3 s := by
  unfold b_X7_mendsIn_13 at H
  show WA x 13 [.ref 0, .int a1, .int a2, .int a3, .int s.1, .null] [] s.2
  refine st_iload g dX7_mendsIn_13 rfl ?_
  refine st_aload_n g dX7_mendsIn_15 rfl ?_
  refine gf_X7_10 g dX7_mendsIn_16 rfl (r := 1) rfl ?_
  refine gf_X7_100 g dX7_mendsIn_19 rfl ?_
  refine st_ic_ge g dX7_mendsIn_22 (tgt := 107) (by decide) H (fun q2 H => ?_) (fun q2 H => ?_)
  · obtain rfl := Option.some.inj H
    exact (wa_drop [0, 1, 2, 3, 4] K)
  · refine st_aload_n g dX7_mendsIn_25 rfl ?_
    refine st_aload_n g dX7_mendsIn_26 rfl ?_
    refine gf_X7_30 g dX7_mendsIn_27 rfl (r := 17) rfl ?_
    refine st_iload g dX7_mendsIn_30 rfl ?_
    refine st_iload_n g dX7_mendsIn_32 rfl ?_
    obtain ⟨r3, hr3, H⟩ := bind_some H
    refine st_callVI g (as := [.ref 17, .int s.1, .int a1]) dX7_mendsIn_33 rfl rfl ml_X7_191 mf_X7_forgive rfl (Nat.le_of_ble_eq_true rfl) (Nat.le_of_ble_eq_true rfl) (c_X7_forgive 17 s.1 a1 s.2 _ hr3) (fun hz => ?_)
    refine st_if_ne g dX7_mendsIn_36 (tgt := 42) (by decide) H (fun q4 H => ?_) (fun q4 H => ?_)
    · refine st_aload_n g dX7_mendsIn_42 rfl ?_
      refine gf_X7_30 g dX7_mendsIn_43 rfl (r := 17) rfl ?_
      obtain ⟨r5, hr5, H⟩ := bind_some H
      refine st_callVI g (as := []) dX7_mendsIn_46 rfl rfl ml_X7_405 mf_X5_firstBreak rfl (Nat.le_of_ble_eq_true rfl) (Nat.le_of_ble_eq_true rfl) (c_X5_firstBreak 17 r3.2 _ hr5) (fun hz => ?_)
      refine st_bipush g dX7_mendsIn_49 bi_m2 ?_
      refine st_ic_ne g dX7_mendsIn_51 (tgt := 58) (by decide) H (fun q6 H => ?_) (fun q6 H => ?_)
      · refine st_iconst g dX7_mendsIn_58 ic_0 ?_
        exact (tj_X7_mendsIn_59 g a1 a2 a3 s.1 0 r3.2 _ H K)
      · refine st_iconst g dX7_mendsIn_54 ic_1 ?_
        refine st_goto g dX7_mendsIn_55 (tgt := 59) (by decide) ?_
        exact (tj_X7_mendsIn_59 g a1 a2 a3 s.1 1 r3.2 _ H K)
    · refine st_goto g dX7_mendsIn_39 (tgt := 101) (by decide) ?_
      refine st_iinc g dX7_mendsIn_101 rfl (ii_1 _) (Nat.le_of_ble_eq_true rfl) rfl (ls2 := [.ref 0, .int a1, .int a2, .int a3, .int (s.1 + 1), .null]) rfl ?_
      refine st_goto g dX7_mendsIn_104 (tgt := 13) (by decide) ?_
      obtain rfl := Option.some.inj H
      exact K
def f_X7_mendsIn (a1 : Int32) (a2 : Int32) (h : Hp) : Option (Int32 × Hp) :=
  (rdI h 18 a1).bind fun v1 =>
  (iter (b_X7_mendsIn_13 a1 a2 v1) FU (0, h)).bind (Sum.elim (fun a11 =>
    some (0, a11.2)) (fun r => some r))
theorem t_X7_mendsIn {x : Cx} (g : Gx x RX7 cX7_mendsIn 6 5) (a1 : Int32) (a2 : Int32) (h : Hp) (out : (Int32 × Hp)) (H : f_X7_mendsIn a1 a2 h = some out) (K : RtI x .boolean out.1 out.2) : WA x 0 [.ref 0, .int a1, .int a2, .null, .null, .null] [] h := by
  unfold f_X7_mendsIn at H
  refine st_aload_n g dX7_mendsIn_0 rfl ?_
  refine gf_X7_30 g dX7_mendsIn_1 rfl (r := 17) rfl ?_
  refine gf_X7_169 g dX7_mendsIn_4 rfl (r := 18) rfl ?_
  refine st_iload_n g dX7_mendsIn_7 rfl ?_
  refine st_iald g dX7_mendsIn_8 H (fun v1 H => ?_)
  refine st_istore_n g dX7_mendsIn_9 (Nat.le_of_ble_eq_true rfl) rfl (ls2 := [.ref 0, .int a1, .int a2, .int v1, .null, .null]) rfl ?_
  refine st_iconst g dX7_mendsIn_10 ic_0 ?_
  refine st_istore g dX7_mendsIn_11 (Nat.le_of_ble_eq_true rfl) rfl (ls2 := [.ref 0, .int a1, .int a2, .int v1, .int 0, .null]) rfl ?_
  show P_X7_mendsIn_13 x a1 a2 v1 (0, h)
  obtain ⟨a11o, ha11, hca11⟩ := it_R H
  refine iter_W (P := P_X7_mendsIn_13 x a1 a2 v1) (E := E_X7_mendsIn_13 x a1 a2 v1) (fun s9 o9 ho9 hK9 => tb_X7_mendsIn_13 g a1 a2 v1 s9 o9 ho9 hK9) FU _ a11o ha11 ?_
  rcases hca11 with ⟨a11, rfl, H⟩ | ⟨r, rfl, H⟩
  · show WA x 107 [.null, .null, .null, .null, .null, .null] [] a11.2
    refine st_iconst g dX7_mendsIn_107 ic_0 ?_
    obtain rfl := Option.some.inj H
    exact st_iret g dX7_mendsIn_108 rfl (fun _ => Or.inl rfl) K
  · obtain rfl := Option.some.inj H
    exact K
theorem c_X7_mendsIn (a1 : Int32) (a2 : Int32) (h : Hp) (r : (Int32 × Hp)) (H : f_X7_mendsIn a1 a2 h = some r) : CtI yX7_mendsIn cX7_mendsIn 6 .boolean 5 [.ref 0, .int a1, .int a2] h r.1 r.2 :=
  ct_ofI (own := RX7) [.ref 0, .int a1, .int a2, .null, .null, .null] (by decide +kernel) rfl (fun ρ => Nat.le_of_ble_eq_true rfl) (fun ρ => rfl) (fun x g K => t_X7_mendsIn g a1 a2 h r H K)
def P_X7_all_22 (x : Cx) (a1 : Int32) (s : (Int32 × Hp)) : Prop := WA x 22 [.ref 0, .int a1, .int s.1] [] s.2
def E_X7_all_22 (x : Cx) (a1 : Int32) : (Int32 × Hp) → Prop := fun s : (Int32 × Hp) => WA x 50 [.ref 0, .int a1, .null] [] s.2
def b_X7_all_22 (a1 : Int32) (s : (Int32 × Hp)) : Option ((Int32 × Hp) ⊕ (Int32 × Hp)) :=
  if (s.2.1 1 3) ≤ s.1 then
    some (.inr (s.1, s.2))
  else
    (f_X7_forgive 17 s.1 a1 s.2).bind fun r5 =>
    some (.inl (s.1 + 1, r5.2))
theorem tb_X7_all_22 {x : Cx} (g : Gx x RX7 cX7_all 3 5) (a1 : Int32) (s : (Int32 × Hp)) (out : (Int32 × Hp) ⊕ (Int32 × Hp)) (H : b_X7_all_22 a1 s = some out) (K : Sum.elim (P_X7_all_22 x a1) (E_X7_all_22 x a1) out) : P_X7_all_22 x a1 s := by
  unfold b_X7_all_22 at H
  show WA x 22 [.ref 0, .int a1, .int s.1] [] s.2
  refine st_iload_n g dX7_all_22 rfl ?_
  refine st_aload_n g dX7_all_23 rfl ?_
  refine gf_X7_10 g dX7_all_24 rfl (r := 1) rfl ?_
  refine gf_X7_100 g dX7_all_27 rfl ?_
  refine st_ic_ge g dX7_all_30 (tgt := 50) (by decide) H (fun q4 H => ?_) (fun q4 H => ?_)
  · obtain rfl := Option.some.inj H
    exact (wa_drop [2] K)
  · refine st_aload_n g dX7_all_33 rfl ?_
    refine st_aload_n g dX7_all_34 rfl ?_
    refine gf_X7_30 g dX7_all_35 rfl (r := 17) rfl ?_
    refine st_iload_n g dX7_all_38 rfl ?_
    refine st_iload_n g dX7_all_39 rfl ?_
    obtain ⟨r5, hr5, H⟩ := bind_some H
    refine st_callVI g (as := [.ref 17, .int s.1, .int a1]) dX7_all_40 rfl rfl ml_X7_191 mf_X7_forgive rfl (Nat.le_of_ble_eq_true rfl) (Nat.le_of_ble_eq_true rfl) (c_X7_forgive 17 s.1 a1 s.2 _ hr5) (fun hz => ?_)
    refine st_pop g dX7_all_43 rfl ?_
    refine st_iinc g dX7_all_44 rfl (ii_1 _) (Nat.le_of_ble_eq_true rfl) rfl (ls2 := [.ref 0, .int a1, .int (s.1 + 1)]) rfl ?_
    refine st_goto g dX7_all_47 (tgt := 22) (by decide) ?_
    obtain rfl := Option.some.inj H
    exact K
def f_X7_all (a1 : Int32) (h : Hp) : Option (Int32 × Hp) :=
  (f_X7_isHouse a1).bind fun r1 =>
  if r1 = 0 then
    some ((-1), h)
  else
    (f_X5_become 17 13 h).bind fun r3 =>
    (iter (b_X7_all_22 a1) FU (0, r3)).bind fun a6 =>
    (rdI a6.2 18 a1).bind fun v7 =>
    some (v7, a6.2)
theorem t_X7_all {x : Cx} (g : Gx x RX7 cX7_all 3 5) (a1 : Int32) (h : Hp) (out : (Int32 × Hp)) (H : f_X7_all a1 h = some out) (K : RtI x .int out.1 out.2) : WA x 0 [.ref 0, .int a1, .null] [] h := by
  unfold f_X7_all at H
  refine st_iload_n g dX7_all_0 rfl ?_
  obtain ⟨r1, hr1, H⟩ := bind_some H
  refine st_callSI g (as := [.int a1]) dX7_all_1 ml_X7_85 mf_X7_isHouse rfl (Nat.le_of_ble_eq_true rfl) (Nat.le_of_ble_eq_true rfl) (c_X7_isHouse a1 h _ hr1) (fun hz => ?_)
  have br1 := hz rfl
  refine st_if_ne g dX7_all_4 (tgt := 9) (by decide) H (fun q2 H => ?_) (fun q2 H => ?_)
  · refine st_aload_n g dX7_all_9 rfl ?_
    refine gf_X7_30 g dX7_all_10 rfl (r := 17) rfl ?_
    refine st_aload_n g dX7_all_13 rfl ?_
    refine gf_X7_26 g dX7_all_14 rfl (r := 13) rfl ?_
    obtain ⟨r3, hr3, H⟩ := bind_some H
    refine st_callVV g (as := [.ref 13]) dX7_all_17 rfl rfl ml_X7_187 mf_X5_become rfl (Nat.le_of_ble_eq_true rfl) (Nat.le_of_ble_eq_true rfl) (c_X5_become 17 13 h _ hr3) ?_
    refine st_iconst g dX7_all_20 ic_0 ?_
    refine st_istore_n g dX7_all_21 (Nat.le_of_ble_eq_true rfl) rfl (ls2 := [.ref 0, .int a1, .int 0]) rfl ?_
    show P_X7_all_22 x a1 (0, r3)
    obtain ⟨a6, ha6, H⟩ := bind_some H
    refine iter_W (P := P_X7_all_22 x a1) (E := E_X7_all_22 x a1) (fun s9 o9 ho9 hK9 => tb_X7_all_22 g a1 s9 o9 ho9 hK9) FU _ a6 ha6 ?_
    show WA x 50 [.ref 0, .int a1, .null] [] a6.2
    refine st_aload_n g dX7_all_50 rfl ?_
    refine gf_X7_30 g dX7_all_51 rfl (r := 17) rfl ?_
    refine gf_X7_169 g dX7_all_54 rfl (r := 18) rfl ?_
    refine st_iload_n g dX7_all_57 rfl ?_
    refine st_iald g dX7_all_58 H (fun v7 H => ?_)
    obtain rfl := Option.some.inj H
    exact st_iret g dX7_all_59 rfl (fun q => by cases q) K
  · refine st_iconst g dX7_all_7 ic_m1 ?_
    obtain rfl := Option.some.inj H
    exact st_iret g dX7_all_8 rfl (fun q => by cases q) K
theorem c_X7_all (a1 : Int32) (h : Hp) (r : (Int32 × Hp)) (H : f_X7_all a1 h = some r) : CtI yX7_all cX7_all 3 .int 5 [.ref 0, .int a1] h r.1 r.2 :=
  ct_ofI (own := RX7) [.ref 0, .int a1, .null] (by decide +kernel) rfl (fun ρ => Nat.le_of_ble_eq_true rfl) (fun ρ => rfl) (fun x g K => t_X7_all g a1 h r H K)
def j_X7_numberBehind_84 (a2 : Int32) (a4 : Int32) (a5 : Int32) (a6 : Int32) (a7 : Int32) (h : Hp) : Option ((Int32 × Hp)) :=
  (wrI h 18 a4 a5).bind fun h7 =>
  if a6 = 0 then
    some (mnI 999 a7, h7)
  else
    (f_X5_setForgiven 17 a2 0 h7).bind fun r9 =>
    some (mnI 999 a7, r9)
theorem tj_X7_numberBehind_84 {x : Cx} (g : Gx x RX7 cX7_numberBehind 8 5) (a2 : Int32) (a4 : Int32) (a5 : Int32) (a6 : Int32) (a7 : Int32) (h : Hp) (out : (Int32 × Hp)) (H : j_X7_numberBehind_84 a2 a4 a5 a6 a7 h = some out) (K : RtI x .int out.1 out.2) : WA x 84 [.ref 0, .null, .int a2, .null, .int a4, .int a5, .int a6, .int a7] [] h := by
  unfold j_X7_numberBehind_84 at H
  refine st_aload_n g dX7_numberBehind_84 rfl ?_
  refine gf_X7_30 g dX7_numberBehind_85 rfl (r := 17) rfl ?_
  refine gf_X7_169 g dX7_numberBehind_88 rfl (r := 18) rfl ?_
  refine st_iload g dX7_numberBehind_91 rfl ?_
  refine st_iload g dX7_numberBehind_93 rfl ?_
  refine st_iast g dX7_numberBehind_95 H (fun h7 H => ?_)
  refine st_iload g dX7_numberBehind_96 rfl ?_
  refine st_if_eq g dX7_numberBehind_98 (tgt := 110) (by decide) H (fun q8 H => ?_) (fun q8 H => ?_)
  · refine st_sipush g dX7_numberBehind_110 si_999 ?_
    refine st_iload g dX7_numberBehind_113 rfl ?_
    refine st_min g dX7_numberBehind_115 ml_X7_393 (Nat.le_of_ble_eq_true rfl) (Nat.le_of_ble_eq_true rfl) ?_
    obtain rfl := Option.some.inj H
    exact st_iret g dX7_numberBehind_118 rfl (fun q => by cases q) K
  · refine st_aload_n g dX7_numberBehind_101 rfl ?_
    refine gf_X7_30 g dX7_numberBehind_102 rfl (r := 17) rfl ?_
    refine st_iload_n g dX7_numberBehind_105 rfl ?_
    refine st_iconst g dX7_numberBehind_106 ic_0 ?_
    obtain ⟨r9, hr9, H⟩ := bind_some H
    refine st_callVV g (as := [.int a2, .int 0]) dX7_numberBehind_107 rfl rfl ml_X7_377 mf_X5_setForgiven rfl (Nat.le_of_ble_eq_true rfl) (Nat.le_of_ble_eq_true rfl) (c_X5_setForgiven 17 a2 0 h7 _ hr9) ?_
    refine st_sipush g dX7_numberBehind_110 si_999 ?_
    refine st_iload g dX7_numberBehind_113 rfl ?_
    refine st_min g dX7_numberBehind_115 ml_X7_393 (Nat.le_of_ble_eq_true rfl) (Nat.le_of_ble_eq_true rfl) ?_
    obtain rfl := Option.some.inj H
    exact st_iret g dX7_numberBehind_118 rfl (fun q => by cases q) K
def j_X7_numberBehind_53 (a1 : Int32) (a2 : Int32) (a3 : Int32) (a4 : Int32) (a5 : Int32) (t0 : Int32) (h : Hp) : Option ((Int32 × Hp)) :=
  (rdI h 18 a4).bind fun v5 =>
  if a3 ≤ 1 then
    j_X7_numberBehind_84 a2 a4 a5 t0 v5 h
  else
    (f_X7_mostOf a1 a4 h).bind fun r10 =>
    j_X7_numberBehind_84 a2 a4 a5 t0 (v5 + r10.1) r10.2
theorem tj_X7_numberBehind_53 {x : Cx} (g : Gx x RX7 cX7_numberBehind 8 5) (a1 : Int32) (a2 : Int32) (a3 : Int32) (a4 : Int32) (a5 : Int32) (t0 : Int32) (h : Hp) (out : (Int32 × Hp)) (H : j_X7_numberBehind_53 a1 a2 a3 a4 a5 t0 h = some out) (K : RtI x .int out.1 out.2) : WA x 53 [.ref 0, .int a1, .int a2, .int a3, .int a4, .int a5, .null, .null] [.int t0] h := by
  unfold j_X7_numberBehind_53 at H
  refine st_istore g dX7_numberBehind_53 (Nat.le_of_ble_eq_true rfl) rfl (ls2 := [.ref 0, .int a1, .int a2, .int a3, .int a4, .int a5, .int t0, .null]) rfl ?_
  refine st_aload_n g dX7_numberBehind_55 rfl ?_
  refine gf_X7_30 g dX7_numberBehind_56 rfl (r := 17) rfl ?_
  refine gf_X7_169 g dX7_numberBehind_59 rfl (r := 18) rfl ?_
  refine st_iload g dX7_numberBehind_62 rfl ?_
  refine st_iald g dX7_numberBehind_64 H (fun v5 H => ?_)
  refine st_istore g dX7_numberBehind_65 (Nat.le_of_ble_eq_true rfl) rfl (ls2 := [.ref 0, .int a1, .int a2, .int a3, .int a4, .int a5, .int t0, .int v5]) rfl ?_
  refine st_iload_n g dX7_numberBehind_67 rfl ?_
  refine st_iconst g dX7_numberBehind_68 ic_1 ?_
  refine st_ic_le g dX7_numberBehind_69 (tgt := 84) (by decide) H (fun q6 H => ?_) (fun q6 H => ?_)
  · exact (wa_drop [1, 3] (tj_X7_numberBehind_84 g a2 a4 a5 t0 v5 h _ H K))
  · refine st_iload g dX7_numberBehind_72 rfl ?_
    refine st_aload_n g dX7_numberBehind_74 rfl ?_
    refine st_iload_n g dX7_numberBehind_75 rfl ?_
    refine st_iload g dX7_numberBehind_76 rfl ?_
    obtain ⟨r10, hr10, H⟩ := bind_some H
    refine st_callVI g (as := [.int a1, .int a4]) dX7_numberBehind_78 rfl rfl ml_X7_420 mf_X7_mostOf rfl (Nat.le_of_ble_eq_true rfl) (Nat.le_of_ble_eq_true rfl) (c_X7_mostOf a1 a4 h _ hr10) (fun hz => ?_)
    refine st_iadd g dX7_numberBehind_81 ?_
    refine st_istore g dX7_numberBehind_82 (Nat.le_of_ble_eq_true rfl) rfl (ls2 := [.ref 0, .int a1, .int a2, .int a3, .int a4, .int a5, .int t0, .int (v5 + r10.1)]) rfl ?_
    exact (wa_drop [1, 3] (tj_X7_numberBehind_84 g a2 a4 a5 t0 (v5 + r10.1) r10.2 _ H K))
def j_X7_numberBehind_52 (a1 : Int32) (a2 : Int32) (a3 : Int32) (a4 : Int32) (a5 : Int32) (h : Hp) : Option ((Int32 × Hp)) :=
  j_X7_numberBehind_53 a1 a2 a3 a4 a5 0 h
theorem tj_X7_numberBehind_52 {x : Cx} (g : Gx x RX7 cX7_numberBehind 8 5) (a1 : Int32) (a2 : Int32) (a3 : Int32) (a4 : Int32) (a5 : Int32) (h : Hp) (out : (Int32 × Hp)) (H : j_X7_numberBehind_52 a1 a2 a3 a4 a5 h = some out) (K : RtI x .int out.1 out.2) : WA x 52 [.ref 0, .int a1, .int a2, .int a3, .int a4, .int a5, .null, .null] [] h := by
  unfold j_X7_numberBehind_52 at H
  refine st_iconst g dX7_numberBehind_52 ic_0 ?_
  exact (tj_X7_numberBehind_53 g a1 a2 a3 a4 a5 0 h _ H K)
def f_X7_numberBehind (a1 : Int32) (a2 : Int32) (a3 : Int32) (h : Hp) : Option (Int32 × Hp) :=
  (rdI h 2 a1).bind fun v1 =>
  (rdI h 18 v1).bind fun v2 =>
  (f_X3_isWrong a2 h).bind fun r3 =>
  if r3 = 0 then
    j_X7_numberBehind_52 a1 a2 a3 v1 v2 h
  else
    (f_X7_forgive 17 a2 v1 h).bind fun r11 =>
    if r11.1 = 0 then
      j_X7_numberBehind_52 a1 a2 a3 v1 v2 r11.2
    else
      j_X7_numberBehind_53 a1 a2 a3 v1 v2 1 r11.2
theorem t_X7_numberBehind {x : Cx} (g : Gx x RX7 cX7_numberBehind 8 5) (a1 : Int32) (a2 : Int32) (a3 : Int32) (h : Hp) (out : (Int32 × Hp)) (H : f_X7_numberBehind a1 a2 a3 h = some out) (K : RtI x .int out.1 out.2) : WA x 0 [.ref 0, .int a1, .int a2, .int a3, .null, .null, .null, .null] [] h := by
  unfold f_X7_numberBehind at H
  refine st_aload_n g dX7_numberBehind_0 rfl ?_
  refine gf_X7_10 g dX7_numberBehind_1 rfl (r := 1) rfl ?_
  refine gf_X7_200 g dX7_numberBehind_4 rfl (r := 2) rfl ?_
  refine st_iload_n g dX7_numberBehind_7 rfl ?_
  refine st_iald g dX7_numberBehind_8 H (fun v1 H => ?_)
  refine st_istore g dX7_numberBehind_9 (Nat.le_of_ble_eq_true rfl) rfl (ls2 := [.ref 0, .int a1, .int a2, .int a3, .int v1, .null, .null, .null]) rfl ?_
  refine st_aload_n g dX7_numberBehind_11 rfl ?_
  refine gf_X7_30 g dX7_numberBehind_12 rfl (r := 17) rfl ?_
  refine gf_X7_169 g dX7_numberBehind_15 rfl (r := 18) rfl ?_
  refine st_iload g dX7_numberBehind_18 rfl ?_
  refine st_iald g dX7_numberBehind_20 H (fun v2 H => ?_)
  refine st_istore g dX7_numberBehind_21 (Nat.le_of_ble_eq_true rfl) rfl (ls2 := [.ref 0, .int a1, .int a2, .int a3, .int v1, .int v2, .null, .null]) rfl ?_
  refine st_aload_n g dX7_numberBehind_23 rfl ?_
  refine gf_X7_10 g dX7_numberBehind_24 rfl (r := 1) rfl ?_
  refine st_iload_n g dX7_numberBehind_27 rfl ?_
  obtain ⟨r3, hr3, H⟩ := bind_some H
  refine st_callVI g (as := [.int a2]) dX7_numberBehind_28 rfl rfl ml_X7_153 mf_X3_isWrong rfl (Nat.le_of_ble_eq_true rfl) (Nat.le_of_ble_eq_true rfl) (c_X3_isWrong a2 h _ hr3) (fun hz => ?_)
  have br3 := hz rfl
  refine st_if_eq g dX7_numberBehind_31 (tgt := 52) (by decide) H (fun q4 H => ?_) (fun q4 H => ?_)
  · exact (tj_X7_numberBehind_52 g a1 a2 a3 v1 v2 h _ H K)
  · refine st_aload_n g dX7_numberBehind_34 rfl ?_
    refine st_aload_n g dX7_numberBehind_35 rfl ?_
    refine gf_X7_30 g dX7_numberBehind_36 rfl (r := 17) rfl ?_
    refine st_iload_n g dX7_numberBehind_39 rfl ?_
    refine st_iload g dX7_numberBehind_40 rfl ?_
    obtain ⟨r11, hr11, H⟩ := bind_some H
    refine st_callVI g (as := [.ref 17, .int a2, .int v1]) dX7_numberBehind_42 rfl rfl ml_X7_191 mf_X7_forgive rfl (Nat.le_of_ble_eq_true rfl) (Nat.le_of_ble_eq_true rfl) (c_X7_forgive 17 a2 v1 h _ hr11) (fun hz => ?_)
    refine st_if_eq g dX7_numberBehind_45 (tgt := 52) (by decide) H (fun q12 H => ?_) (fun q12 H => ?_)
    · exact (tj_X7_numberBehind_52 g a1 a2 a3 v1 v2 r11.2 _ H K)
    · refine st_iconst g dX7_numberBehind_48 ic_1 ?_
      refine st_goto g dX7_numberBehind_49 (tgt := 53) (by decide) ?_
      exact (tj_X7_numberBehind_53 g a1 a2 a3 v1 v2 1 r11.2 _ H K)
theorem c_X7_numberBehind (a1 : Int32) (a2 : Int32) (a3 : Int32) (h : Hp) (r : (Int32 × Hp)) (H : f_X7_numberBehind a1 a2 a3 h = some r) : CtI yX7_numberBehind cX7_numberBehind 8 .int 5 [.ref 0, .int a1, .int a2, .int a3] h r.1 r.2 :=
  ct_ofI (own := RX7) [.ref 0, .int a1, .int a2, .int a3, .null, .null, .null, .null] (by decide +kernel) rfl (fun ρ => Nat.le_of_ble_eq_true rfl) (fun ρ => rfl) (fun x g K => t_X7_numberBehind g a1 a2 a3 h r H K)
def f_X7_liveDay (a1 : Int32) (h : Hp) : Option Hp :=
  if (h.1 1 3) ≤ 0 then
    (f_X5_pass 17 1 h).bind fun r2 =>
    some r2
  else
    (rmI (ushr a1 8) (h.1 1 3)).bind fun v3 =>
    (f_X5_isForgiven 17 v3 h).bind fun r4 =>
    if r4 = 0 then
      (f_X7_forgive 17 v3 ((ushr a1 16) % 12) h).bind fun r6 =>
      (f_X5_pass 17 1 r6.2).bind fun r7 =>
      some r7
    else
      (f_X5_doAgain 17 v3 h).bind fun r8 =>
      (f_X5_pass 17 1 r8).bind fun r9 =>
      some r9
theorem t_X7_liveDay {x : Cx} (g : Gx x RX7 cX7_liveDay 3 5) (a1 : Int32) (h : Hp) (out : Hp) (H : f_X7_liveDay a1 h = some out) (K : RtV x out) : WA x 0 [.ref 0, .int a1, .null] [] h := by
  unfold f_X7_liveDay at H
  refine st_aload_n g dX7_liveDay_0 rfl ?_
  refine gf_X7_10 g dX7_liveDay_1 rfl (r := 1) rfl ?_
  refine gf_X7_100 g dX7_liveDay_4 rfl ?_
  refine st_if_le g dX7_liveDay_7 (tgt := 62) (by decide) H (fun q1 H => ?_) (fun q1 H => ?_)
  · refine st_aload_n g dX7_liveDay_62 rfl ?_
    refine gf_X7_30 g dX7_liveDay_63 rfl (r := 17) rfl ?_
    refine st_iconst g dX7_liveDay_66 ic_1 ?_
    obtain ⟨r2, hr2, H⟩ := bind_some H
    refine st_callVV g (as := [.int 1]) dX7_liveDay_67 rfl rfl ml_X7_269 mf_X5_pass rfl (Nat.le_of_ble_eq_true rfl) (Nat.le_of_ble_eq_true rfl) (c_X5_pass 17 1 h _ hr2) ?_
    obtain rfl := Option.some.inj H
    exact st_vret g dX7_liveDay_70 K
  · refine st_iload_n g dX7_liveDay_10 rfl ?_
    refine st_bipush g dX7_liveDay_11 bi_8 ?_
    refine st_iushr g dX7_liveDay_13 ?_
    refine st_aload_n g dX7_liveDay_14 rfl ?_
    refine gf_X7_10 g dX7_liveDay_15 rfl (r := 1) rfl ?_
    refine gf_X7_100 g dX7_liveDay_18 rfl ?_
    refine st_iremO g dX7_liveDay_21 H (fun v3 H => ?_)
    refine st_istore_n g dX7_liveDay_22 (Nat.le_of_ble_eq_true rfl) rfl (ls2 := [.ref 0, .int a1, .int v3]) rfl ?_
    refine st_aload_n g dX7_liveDay_23 rfl ?_
    refine gf_X7_30 g dX7_liveDay_24 rfl (r := 17) rfl ?_
    refine st_iload_n g dX7_liveDay_27 rfl ?_
    obtain ⟨r4, hr4, H⟩ := bind_some H
    refine st_callVI g (as := [.int v3]) dX7_liveDay_28 rfl rfl ml_X7_197 mf_X5_isForgiven rfl (Nat.le_of_ble_eq_true rfl) (Nat.le_of_ble_eq_true rfl) (c_X5_isForgiven 17 v3 h _ hr4) (fun hz => ?_)
    have br4 := hz rfl
    refine st_if_eq g dX7_liveDay_31 (tgt := 45) (by decide) H (fun q5 H => ?_) (fun q5 H => ?_)
    · refine st_aload_n g dX7_liveDay_45 rfl ?_
      refine st_aload_n g dX7_liveDay_46 rfl ?_
      refine gf_X7_30 g dX7_liveDay_47 rfl (r := 17) rfl ?_
      refine st_iload_n g dX7_liveDay_50 rfl ?_
      refine st_iload_n g dX7_liveDay_51 rfl ?_
      refine st_bipush g dX7_liveDay_52 bi_16 ?_
      refine st_iushr g dX7_liveDay_54 ?_
      refine st_bipush g dX7_liveDay_55 bi_12 ?_
      refine st_irem g dX7_liveDay_57 (by decide) ?_
      obtain ⟨r6, hr6, H⟩ := bind_some H
      refine st_callVI g (as := [.ref 17, .int v3, .int ((ushr a1 16) % 12)]) dX7_liveDay_58 rfl rfl ml_X7_191 mf_X7_forgive rfl (Nat.le_of_ble_eq_true rfl) (Nat.le_of_ble_eq_true rfl) (c_X7_forgive 17 v3 ((ushr a1 16) % 12) h _ hr6) (fun hz => ?_)
      refine st_pop g dX7_liveDay_61 rfl ?_
      refine st_aload_n g dX7_liveDay_62 rfl ?_
      refine gf_X7_30 g dX7_liveDay_63 rfl (r := 17) rfl ?_
      refine st_iconst g dX7_liveDay_66 ic_1 ?_
      obtain ⟨r7, hr7, H⟩ := bind_some H
      refine st_callVV g (as := [.int 1]) dX7_liveDay_67 rfl rfl ml_X7_269 mf_X5_pass rfl (Nat.le_of_ble_eq_true rfl) (Nat.le_of_ble_eq_true rfl) (c_X5_pass 17 1 r6.2 _ hr7) ?_
      obtain rfl := Option.some.inj H
      exact st_vret g dX7_liveDay_70 K
    · refine st_aload_n g dX7_liveDay_34 rfl ?_
      refine gf_X7_30 g dX7_liveDay_35 rfl (r := 17) rfl ?_
      refine st_iload_n g dX7_liveDay_38 rfl ?_
      obtain ⟨r8, hr8, H⟩ := bind_some H
      refine st_callVV g (as := [.int v3]) dX7_liveDay_39 rfl rfl ml_X7_266 mf_X5_doAgain rfl (Nat.le_of_ble_eq_true rfl) (Nat.le_of_ble_eq_true rfl) (c_X5_doAgain 17 v3 h _ hr8) ?_
      refine st_goto g dX7_liveDay_42 (tgt := 62) (by decide) ?_
      refine st_aload_n g dX7_liveDay_62 rfl ?_
      refine gf_X7_30 g dX7_liveDay_63 rfl (r := 17) rfl ?_
      refine st_iconst g dX7_liveDay_66 ic_1 ?_
      obtain ⟨r9, hr9, H⟩ := bind_some H
      refine st_callVV g (as := [.int 1]) dX7_liveDay_67 rfl rfl ml_X7_269 mf_X5_pass rfl (Nat.le_of_ble_eq_true rfl) (Nat.le_of_ble_eq_true rfl) (c_X5_pass 17 1 r8 _ hr9) ?_
      obtain rfl := Option.some.inj H
      exact st_vret g dX7_liveDay_70 K
theorem c_X7_liveDay (a1 : Int32) (h : Hp) (r : Hp) (H : f_X7_liveDay a1 h = some r) : CtV yX7_liveDay cX7_liveDay 3 5 [.ref 0, .int a1] h r :=
  ct_ofV (own := RX7) [.ref 0, .int a1, .null] (by decide +kernel) rfl (fun ρ => Nat.le_of_ble_eq_true rfl) (fun ρ => rfl) (fun x g K => t_X7_liveDay g a1 h r H K)
def f_X7_call (a1 : Int32) (a2 : Int32) (h : Hp) : Option (Int32 × Hp) :=
  (f_X3_isWrong a1 h).bind fun r1 =>
  if r1 = 0 then
    some ((-1), h)
  else
    (f_X7_isHouse a2).bind fun r3 =>
    if r3 = 0 then
      some ((-1), h)
    else
      (f_X7_forgive 13 a1 a2 h).bind fun r5 =>
      if r5.1 = 0 then
        (rdI r5.2 16 1).bind fun v11 =>
        (wrI r5.2 16 1 (v11 + 1)).bind fun h12 =>
        some (r5.1, h12)
      else
        (rdI r5.2 16 0).bind fun v7 =>
        (wrI r5.2 16 0 (v7 + 1)).bind fun h8 =>
        (rdI h8 16 2).bind fun v9 =>
        (wrI h8 16 2 (v9 + r5.1)).bind fun h10 =>
        some (r5.1, h10)
theorem t_X7_call {x : Cx} (g : Gx x RX7 cX7_call 4 5) (a1 : Int32) (a2 : Int32) (h : Hp) (out : (Int32 × Hp)) (H : f_X7_call a1 a2 h = some out) (K : RtI x .int out.1 out.2) : WA x 0 [.ref 0, .int a1, .int a2, .null] [] h := by
  unfold f_X7_call at H
  refine st_aload_n g dX7_call_0 rfl ?_
  refine gf_X7_10 g dX7_call_1 rfl (r := 1) rfl ?_
  refine st_iload_n g dX7_call_4 rfl ?_
  obtain ⟨r1, hr1, H⟩ := bind_some H
  refine st_callVI g (as := [.int a1]) dX7_call_5 rfl rfl ml_X7_153 mf_X3_isWrong rfl (Nat.le_of_ble_eq_true rfl) (Nat.le_of_ble_eq_true rfl) (c_X3_isWrong a1 h _ hr1) (fun hz => ?_)
  have br1 := hz rfl
  refine st_if_eq g dX7_call_8 (tgt := 18) (by decide) H (fun q2 H => ?_) (fun q2 H => ?_)
  · refine st_iconst g dX7_call_18 ic_m1 ?_
    obtain rfl := Option.some.inj H
    exact st_iret g dX7_call_19 rfl (fun q => by cases q) K
  · refine st_iload_n g dX7_call_11 rfl ?_
    obtain ⟨r3, hr3, H⟩ := bind_some H
    refine st_callSI g (as := [.int a2]) dX7_call_12 ml_X7_85 mf_X7_isHouse rfl (Nat.le_of_ble_eq_true rfl) (Nat.le_of_ble_eq_true rfl) (c_X7_isHouse a2 h _ hr3) (fun hz => ?_)
    have br3 := hz rfl
    refine st_if_ne g dX7_call_15 (tgt := 20) (by decide) H (fun q4 H => ?_) (fun q4 H => ?_)
    · refine st_aload_n g dX7_call_20 rfl ?_
      refine st_aload_n g dX7_call_21 rfl ?_
      refine gf_X7_26 g dX7_call_22 rfl (r := 13) rfl ?_
      refine st_iload_n g dX7_call_25 rfl ?_
      refine st_iload_n g dX7_call_26 rfl ?_
      obtain ⟨r5, hr5, H⟩ := bind_some H
      refine st_callVI g (as := [.ref 13, .int a1, .int a2]) dX7_call_27 rfl rfl ml_X7_191 mf_X7_forgive rfl (Nat.le_of_ble_eq_true rfl) (Nat.le_of_ble_eq_true rfl) (c_X7_forgive 13 a1 a2 h _ hr5) (fun hz => ?_)
      refine st_istore_n g dX7_call_30 (Nat.le_of_ble_eq_true rfl) rfl (ls2 := [.ref 0, .int a1, .int a2, .int r5.1]) rfl ?_
      refine st_iload_n g dX7_call_31 rfl ?_
      refine st_if_ne g dX7_call_32 (tgt := 51) (by decide) H (fun q6 H => ?_) (fun q6 H => ?_)
      · refine st_aload_n g dX7_call_51 rfl ?_
        refine gf_X7_26 g dX7_call_52 rfl (r := 13) rfl ?_
        refine gf_X7_260 g dX7_call_55 rfl (r := 16) rfl ?_
        refine st_iconst g dX7_call_58 ic_0 ?_
        refine st_dup2 g dX7_call_59 rfl rfl ?_
        refine st_iald g dX7_call_60 H (fun v7 H => ?_)
        refine st_iconst g dX7_call_61 ic_1 ?_
        refine st_iadd g dX7_call_62 ?_
        refine st_iast g dX7_call_63 H (fun h8 H => ?_)
        refine st_aload_n g dX7_call_64 rfl ?_
        refine gf_X7_26 g dX7_call_65 rfl (r := 13) rfl ?_
        refine gf_X7_260 g dX7_call_68 rfl (r := 16) rfl ?_
        refine st_iconst g dX7_call_71 ic_2 ?_
        refine st_dup2 g dX7_call_72 rfl rfl ?_
        refine st_iald g dX7_call_73 H (fun v9 H => ?_)
        refine st_iload_n g dX7_call_74 rfl ?_
        refine st_iadd g dX7_call_75 ?_
        refine st_iast g dX7_call_76 H (fun h10 H => ?_)
        refine st_iload_n g dX7_call_77 rfl ?_
        obtain rfl := Option.some.inj H
        exact st_iret g dX7_call_78 rfl (fun q => by cases q) K
      · refine st_aload_n g dX7_call_35 rfl ?_
        refine gf_X7_26 g dX7_call_36 rfl (r := 13) rfl ?_
        refine gf_X7_260 g dX7_call_39 rfl (r := 16) rfl ?_
        refine st_iconst g dX7_call_42 ic_1 ?_
        refine st_dup2 g dX7_call_43 rfl rfl ?_
        refine st_iald g dX7_call_44 H (fun v11 H => ?_)
        refine st_iconst g dX7_call_45 ic_1 ?_
        refine st_iadd g dX7_call_46 ?_
        refine st_iast g dX7_call_47 H (fun h12 H => ?_)
        refine st_goto g dX7_call_48 (tgt := 77) (by decide) ?_
        refine st_iload_n g dX7_call_77 rfl ?_
        obtain rfl := Option.some.inj H
        exact st_iret g dX7_call_78 rfl (fun q => by cases q) K
    · refine st_iconst g dX7_call_18 ic_m1 ?_
      obtain rfl := Option.some.inj H
      exact st_iret g dX7_call_19 rfl (fun q => by cases q) K
theorem c_X7_call (a1 : Int32) (a2 : Int32) (h : Hp) (r : (Int32 × Hp)) (H : f_X7_call a1 a2 h = some r) : CtI yX7_call cX7_call 4 .int 5 [.ref 0, .int a1, .int a2] h r.1 r.2 :=
  ct_ofI (own := RX7) [.ref 0, .int a1, .int a2, .null] (by decide +kernel) rfl (fun ρ => Nat.le_of_ble_eq_true rfl) (fun ρ => rfl) (fun x g K => t_X7_call g a1 a2 h r H K)
def f_X8_counts (a1 : Int32) (a2 : Int32) (h : Hp) : Option (Int32 × Hp) :=
  (f_X8_isWrong a1 h).bind fun r1 =>
  if r1 = 0 then
    some ((-1), h)
  else
    (f_X8_isHouse a2).bind fun r3 =>
    if r3 = 0 then
      some ((-1), h)
    else
      (f_X8_countOf a1 a2 h).bind fun r5 =>
      some (r5.1, r5.2)
theorem t_X8_counts {x : Cx} (g : Gx x RX8 cX8_counts 3 5) (a1 : Int32) (a2 : Int32) (h : Hp) (out : (Int32 × Hp)) (H : f_X8_counts a1 a2 h = some out) (K : RtI x .int out.1 out.2) : WA x 0 [.ref 53, .int a1, .int a2] [] h := by
  unfold f_X8_counts at H
  refine st_aload_n g dX8_counts_0 rfl ?_
  refine st_iload_n g dX8_counts_1 rfl ?_
  obtain ⟨r1, hr1, H⟩ := bind_some H
  refine st_callVI g (as := [.int a1]) dX8_counts_2 rfl rfl ml_X8_146 mf_X8_isWrong rfl (Nat.le_of_ble_eq_true rfl) (Nat.le_of_ble_eq_true rfl) (c_X8_isWrong a1 h _ hr1) (fun hz => ?_)
  have br1 := hz rfl
  refine st_if_eq g dX8_counts_5 (tgt := 24) (by decide) H (fun q2 H => ?_) (fun q2 H => ?_)
  · refine st_iconst g dX8_counts_24 ic_m1 ?_
    obtain rfl := Option.some.inj H
    exact st_iret g dX8_counts_25 rfl (fun q => by cases q) K
  · refine st_iload_n g dX8_counts_8 rfl ?_
    obtain ⟨r3, hr3, H⟩ := bind_some H
    refine st_callSI g (as := [.int a2]) dX8_counts_9 ml_X8_120 mf_X8_isHouse rfl (Nat.le_of_ble_eq_true rfl) (Nat.le_of_ble_eq_true rfl) (c_X8_isHouse a2 h _ hr3) (fun hz => ?_)
    have br3 := hz rfl
    refine st_if_eq g dX8_counts_12 (tgt := 24) (by decide) H (fun q4 H => ?_) (fun q4 H => ?_)
    · refine st_iconst g dX8_counts_24 ic_m1 ?_
      obtain rfl := Option.some.inj H
      exact st_iret g dX8_counts_25 rfl (fun q => by cases q) K
    · refine st_aload_n g dX8_counts_15 rfl ?_
      refine st_iload_n g dX8_counts_16 rfl ?_
      refine st_iload_n g dX8_counts_17 rfl ?_
      obtain ⟨r5, hr5, H⟩ := bind_some H
      refine st_callVI g (as := [.int a1, .int a2]) dX8_counts_18 rfl rfl ml_X8_254 mf_X8_countOf rfl (Nat.le_of_ble_eq_true rfl) (Nat.le_of_ble_eq_true rfl) (c_X8_countOf a1 a2 h _ hr5) (fun hz => ?_)
      refine st_goto g dX8_counts_21 (tgt := 25) (by decide) ?_
      obtain rfl := Option.some.inj H
      exact st_iret g dX8_counts_25 rfl (fun q => by cases q) K
theorem c_X8_counts (a1 : Int32) (a2 : Int32) (h : Hp) (r : (Int32 × Hp)) (H : f_X8_counts a1 a2 h = some r) : CtI yX8_counts cX8_counts 3 .int 5 [.ref 53, .int a1, .int a2] h r.1 r.2 :=
  ct_ofI (own := RX8) [.ref 53, .int a1, .int a2] (by decide +kernel) rfl (fun ρ => Nat.le_of_ble_eq_true rfl) (fun ρ => rfl) (fun x g K => t_X8_counts g a1 a2 h r H K)
def j_X8_calls_20 (a1 : Int32) (a2 : Int32) (t0 : Int32) (h : Hp) : Option ((Int32 × Hp)) :=
  if t0 = 0 then
    some (0, h)
  else
    (wrI h 61 a1 1).bind fun h5 =>
    (rdI h5 54 a2).bind fun v6 =>
    (wrI h5 54 a2 (mnI 999 (v6 + t0))).bind fun h7 =>
    some (t0, h7)
theorem tj_X8_calls_20 {x : Cx} (g : Gx x RX8 cX8_calls 4 5) (a1 : Int32) (a2 : Int32) (t0 : Int32) (h : Hp) (out : (Int32 × Hp)) (H : j_X8_calls_20 a1 a2 t0 h = some out) (K : RtI x .int out.1 out.2) : WA x 20 [.ref 53, .int a1, .int a2, .null] [.int t0] h := by
  unfold j_X8_calls_20 at H
  refine st_istore_n g dX8_calls_20 (Nat.le_of_ble_eq_true rfl) rfl (ls2 := [.ref 53, .int a1, .int a2, .int t0]) rfl ?_
  refine st_iload_n g dX8_calls_21 rfl ?_
  refine st_if_ne g dX8_calls_22 (tgt := 27) (by decide) H (fun q4 H => ?_) (fun q4 H => ?_)
  · refine st_aload_n g dX8_calls_27 rfl ?_
    refine gf_X8_33 g dX8_calls_28 rfl (r := 61) rfl ?_
    refine st_iload_n g dX8_calls_31 rfl ?_
    refine st_iconst g dX8_calls_32 ic_1 ?_
    refine st_iast g dX8_calls_33 H (fun h5 H => ?_)
    refine st_aload_n g dX8_calls_34 rfl ?_
    refine gf_X8_9 g dX8_calls_35 rfl (r := 54) rfl ?_
    refine st_iload_n g dX8_calls_38 rfl ?_
    refine st_sipush g dX8_calls_39 si_999 ?_
    refine st_aload_n g dX8_calls_42 rfl ?_
    refine gf_X8_9 g dX8_calls_43 rfl (r := 54) rfl ?_
    refine st_iload_n g dX8_calls_46 rfl ?_
    refine st_iald g dX8_calls_47 H (fun v6 H => ?_)
    refine st_iload_n g dX8_calls_48 rfl ?_
    refine st_iadd g dX8_calls_49 ?_
    refine st_min g dX8_calls_50 ml_X8_251 (Nat.le_of_ble_eq_true rfl) (Nat.le_of_ble_eq_true rfl) ?_
    refine st_iast g dX8_calls_53 H (fun h7 H => ?_)
    refine st_iload_n g dX8_calls_54 rfl ?_
    obtain rfl := Option.some.inj H
    exact st_iret g dX8_calls_55 rfl (fun q => by cases q) K
  · refine st_iconst g dX8_calls_25 ic_0 ?_
    obtain rfl := Option.some.inj H
    exact st_iret g dX8_calls_26 rfl (fun q => by cases q) K
def f_X8_calls (a1 : Int32) (a2 : Int32) (h : Hp) : Option (Int32 × Hp) :=
  (rdI h 61 a1).bind fun v1 =>
  if v1 = 1 then
    j_X8_calls_20 a1 a2 0 h
  else
    (f_X8_countOf a1 a2 h).bind fun r3 =>
    j_X8_calls_20 a1 a2 r3.1 r3.2
theorem t_X8_calls {x : Cx} (g : Gx x RX8 cX8_calls 4 5) (a1 : Int32) (a2 : Int32) (h : Hp) (out : (Int32 × Hp)) (H : f_X8_calls a1 a2 h = some out) (K : RtI x .int out.1 out.2) : WA x 0 [.ref 53, .int a1, .int a2, .null] [] h := by
  unfold f_X8_calls at H
  refine st_aload_n g dX8_calls_0 rfl ?_
  refine gf_X8_33 g dX8_calls_1 rfl (r := 61) rfl ?_
  refine st_iload_n g dX8_calls_4 rfl ?_
  refine st_iald g dX8_calls_5 H (fun v1 H => ?_)
  refine st_iconst g dX8_calls_6 ic_1 ?_
  refine st_ic_ne g dX8_calls_7 (tgt := 14) (by decide) H (fun q2 H => ?_) (fun q2 H => ?_)
  · refine st_aload_n g dX8_calls_14 rfl ?_
    refine st_iload_n g dX8_calls_15 rfl ?_
    refine st_iload_n g dX8_calls_16 rfl ?_
    obtain ⟨r3, hr3, H⟩ := bind_some H
    refine st_callVI g (as := [.int a1, .int a2]) dX8_calls_17 rfl rfl ml_X8_254 mf_X8_countOf rfl (Nat.le_of_ble_eq_true rfl) (Nat.le_of_ble_eq_true rfl) (c_X8_countOf a1 a2 h _ hr3) (fun hz => ?_)
    exact (tj_X8_calls_20 g a1 a2 r3.1 r3.2 _ H K)
  · refine st_iconst g dX8_calls_10 ic_0 ?_
    refine st_goto g dX8_calls_11 (tgt := 20) (by decide) ?_
    exact (tj_X8_calls_20 g a1 a2 0 h _ H K)
theorem c_X8_calls (a1 : Int32) (a2 : Int32) (h : Hp) (r : (Int32 × Hp)) (H : f_X8_calls a1 a2 h = some r) : CtI yX8_calls cX8_calls 4 .int 5 [.ref 53, .int a1, .int a2] h r.1 r.2 :=
  ct_ofI (own := RX8) [.ref 53, .int a1, .int a2, .null] (by decide +kernel) rfl (fun ρ => Nat.le_of_ble_eq_true rfl) (fun ρ => rfl) (fun x g K => t_X8_calls g a1 a2 h r H K)
def P_X8_atOnce_10 (x : Cx) (a1 : Int32) (s : (Int32 × Int32 × Int32 × Int32 × Hp)) : Prop := WA x 10 [.ref 53, .int a1, .int s.1, .int s.2.1, .int s.2.2.1, .int s.2.2.2.1, .null] [] s.2.2.2.2
def E_X8_atOnce_10 (x : Cx) (a1 : Int32) : (Int32 × Int32 × Int32 × Int32 × Hp) ⊕ (Int32 × Hp) → Prop := Sum.elim (fun s : (Int32 × Int32 × Int32 × Int32 × Hp) => WA x 121 [.null, .null, .null, .null, .int s.2.2.1, .null, .null] [] s.2.2.2.2) (fun r : (Int32 × Hp) => RtI x .int r.1 r.2)
def b_X8_atOnce_10 (a1 : Int32) (s : (Int32 × Int32 × Int32 × Int32 × Hp)) : Option ((Int32 × Int32 × Int32 × Int32 × Hp) ⊕ ((Int32 × Int32 × Int32 × Int32 × Hp) ⊕ (Int32 × Hp))) :=
  if (s.2.2.2.2.1 53 4) ≤ s.2.2.2.1 then
    some (.inr (.inl (s.1, s.2.1, s.2.2.1, s.2.2.2.1, s.2.2.2.2)))
  else
    if ((a1 >>> (s.2.2.2.1 &&& 31)) &&& 1) = 0 then
      some (.inl (s.1, s.2.1, s.2.2.1, s.2.2.2.1 + 1, s.2.2.2.2))
    else
      (rdI s.2.2.2.2 58 s.2.2.2.1).bind fun v3 =>
      (rdI s.2.2.2.2 55 v3).bind fun v4 =>
      (rdI s.2.2.2.2 61 s.2.2.2.1).bind fun v5 =>
      if v5 = 1 then
        some (.inr (.inr ((-1), s.2.2.2.2)))
      else
        (rdI s.2.2.2.2 57 s.2.2.2.1).bind fun v7 =>
        if ((s.1 >>> (v7 &&& 31)) &&& 1) = 1 then
          some (.inr (.inr ((-1), s.2.2.2.2)))
        else
          if ((s.2.1 >>> (v4 &&& 31)) &&& 1) = 1 then
            some (.inr (.inr ((-1), s.2.2.2.2)))
          else
            (rdI s.2.2.2.2 57 s.2.2.2.1).bind fun v10 =>
            (f_X8_countOf s.2.2.2.1 v4 s.2.2.2.2).bind fun r11 =>
            some (.inl (s.1 ||| ((1 : Int32) <<< (v10 &&& 31)), s.2.1 ||| ((1 : Int32) <<< (v4 &&& 31)), s.2.2.1 + r11.1, s.2.2.2.1 + 1, r11.2))
theorem tb_X8_atOnce_10 {x : Cx} (g : Gx x RX8 cX8_atOnce 7 5) (a1 : Int32) (s : (Int32 × Int32 × Int32 × Int32 × Hp)) (out : (Int32 × Int32 × Int32 × Int32 × Hp) ⊕ ((Int32 × Int32 × Int32 × Int32 × Hp) ⊕ (Int32 × Hp))) (H : b_X8_atOnce_10 a1 s = some out) (K : Sum.elim (P_X8_atOnce_10 x a1) (E_X8_atOnce_10 x a1) out) : P_X8_atOnce_10 x a1 s := by
  unfold b_X8_atOnce_10 at H
  show WA x 10 [.ref 53, .int a1, .int s.1, .int s.2.1, .int s.2.2.1, .int s.2.2.2.1, .null] [] s.2.2.2.2
  refine st_iload g dX8_atOnce_10 rfl ?_
  refine st_aload_n g dX8_atOnce_12 rfl ?_
  refine gf_X8_117 g dX8_atOnce_13 rfl ?_
  refine st_ic_ge g dX8_atOnce_16 (tgt := 121) (by decide) H (fun q1 H => ?_) (fun q1 H => ?_)
  · obtain rfl := Option.some.inj H
    exact (wa_drop [0, 1, 2, 3, 5] K)
  · refine st_iload_n g dX8_atOnce_19 rfl ?_
    refine st_iload g dX8_atOnce_20 rfl ?_
    refine st_ishr g dX8_atOnce_22 ?_
    refine st_iconst g dX8_atOnce_23 ic_1 ?_
    refine st_iand g dX8_atOnce_24 ?_
    refine st_if_ne g dX8_atOnce_25 (tgt := 31) (by decide) H (fun q2 H => ?_) (fun q2 H => ?_)
    · refine st_aload_n g dX8_atOnce_31 rfl ?_
      refine gf_X8_15 g dX8_atOnce_32 rfl (r := 55) rfl ?_
      refine st_aload_n g dX8_atOnce_35 rfl ?_
      refine gf_X8_24 g dX8_atOnce_36 rfl (r := 58) rfl ?_
      refine st_iload g dX8_atOnce_39 rfl ?_
      refine st_iald g dX8_atOnce_41 H (fun v3 H => ?_)
      refine st_iald g dX8_atOnce_42 H (fun v4 H => ?_)
      refine st_istore g dX8_atOnce_43 (Nat.le_of_ble_eq_true rfl) rfl (ls2 := [.ref 53, .int a1, .int s.1, .int s.2.1, .int s.2.2.1, .int s.2.2.2.1, .int v4]) rfl ?_
      refine st_aload_n g dX8_atOnce_45 rfl ?_
      refine gf_X8_33 g dX8_atOnce_46 rfl (r := 61) rfl ?_
      refine st_iload g dX8_atOnce_49 rfl ?_
      refine st_iald g dX8_atOnce_51 H (fun v5 H => ?_)
      refine st_iconst g dX8_atOnce_52 ic_1 ?_
      refine st_ic_eq g dX8_atOnce_53 (tgt := 81) (by decide) H (fun q6 H => ?_) (fun q6 H => ?_)
      · refine st_iconst g dX8_atOnce_81 ic_m1 ?_
        obtain rfl := Option.some.inj H
        exact st_iret g dX8_atOnce_82 rfl (fun q => by cases q) K
      · refine st_iload_n g dX8_atOnce_56 rfl ?_
        refine st_aload_n g dX8_atOnce_57 rfl ?_
        refine gf_X8_21 g dX8_atOnce_58 rfl (r := 57) rfl ?_
        refine st_iload g dX8_atOnce_61 rfl ?_
        refine st_iald g dX8_atOnce_63 H (fun v7 H => ?_)
        refine st_ishr g dX8_atOnce_64 ?_
        refine st_iconst g dX8_atOnce_65 ic_1 ?_
        refine st_iand g dX8_atOnce_66 ?_
        refine st_iconst g dX8_atOnce_67 ic_1 ?_
        refine st_ic_eq g dX8_atOnce_68 (tgt := 81) (by decide) H (fun q8 H => ?_) (fun q8 H => ?_)
        · refine st_iconst g dX8_atOnce_81 ic_m1 ?_
          obtain rfl := Option.some.inj H
          exact st_iret g dX8_atOnce_82 rfl (fun q => by cases q) K
        · refine st_iload_n g dX8_atOnce_71 rfl ?_
          refine st_iload g dX8_atOnce_72 rfl ?_
          refine st_ishr g dX8_atOnce_74 ?_
          refine st_iconst g dX8_atOnce_75 ic_1 ?_
          refine st_iand g dX8_atOnce_76 ?_
          refine st_iconst g dX8_atOnce_77 ic_1 ?_
          refine st_ic_ne g dX8_atOnce_78 (tgt := 83) (by decide) H (fun q9 H => ?_) (fun q9 H => ?_)
          · refine st_iload_n g dX8_atOnce_83 rfl ?_
            refine st_iconst g dX8_atOnce_84 ic_1 ?_
            refine st_aload_n g dX8_atOnce_85 rfl ?_
            refine gf_X8_21 g dX8_atOnce_86 rfl (r := 57) rfl ?_
            refine st_iload g dX8_atOnce_89 rfl ?_
            refine st_iald g dX8_atOnce_91 H (fun v10 H => ?_)
            refine st_ishl g dX8_atOnce_92 ?_
            refine st_ior g dX8_atOnce_93 ?_
            refine st_istore_n g dX8_atOnce_94 (Nat.le_of_ble_eq_true rfl) rfl (ls2 := [.ref 53, .int a1, .int (s.1 ||| ((1 : Int32) <<< (v10 &&& 31))), .int s.2.1, .int s.2.2.1, .int s.2.2.2.1, .int v4]) rfl ?_
            refine st_iload_n g dX8_atOnce_95 rfl ?_
            refine st_iconst g dX8_atOnce_96 ic_1 ?_
            refine st_iload g dX8_atOnce_97 rfl ?_
            refine st_ishl g dX8_atOnce_99 ?_
            refine st_ior g dX8_atOnce_100 ?_
            refine st_istore_n g dX8_atOnce_101 (Nat.le_of_ble_eq_true rfl) rfl (ls2 := [.ref 53, .int a1, .int (s.1 ||| ((1 : Int32) <<< (v10 &&& 31))), .int (s.2.1 ||| ((1 : Int32) <<< (v4 &&& 31))), .int s.2.2.1, .int s.2.2.2.1, .int v4]) rfl ?_
            refine st_iload g dX8_atOnce_102 rfl ?_
            refine st_aload_n g dX8_atOnce_104 rfl ?_
            refine st_iload g dX8_atOnce_105 rfl ?_
            refine st_iload g dX8_atOnce_107 rfl ?_
            obtain ⟨r11, hr11, H⟩ := bind_some H
            refine st_callVI g (as := [.int s.2.2.2.1, .int v4]) dX8_atOnce_109 rfl rfl ml_X8_254 mf_X8_countOf rfl (Nat.le_of_ble_eq_true rfl) (Nat.le_of_ble_eq_true rfl) (c_X8_countOf s.2.2.2.1 v4 s.2.2.2.2 _ hr11) (fun hz => ?_)
            refine st_iadd g dX8_atOnce_112 ?_
            refine st_istore g dX8_atOnce_113 (Nat.le_of_ble_eq_true rfl) rfl (ls2 := [.ref 53, .int a1, .int (s.1 ||| ((1 : Int32) <<< (v10 &&& 31))), .int (s.2.1 ||| ((1 : Int32) <<< (v4 &&& 31))), .int (s.2.2.1 + r11.1), .int s.2.2.2.1, .int v4]) rfl ?_
            refine st_iinc g dX8_atOnce_115 rfl (ii_1 _) (Nat.le_of_ble_eq_true rfl) rfl (ls2 := [.ref 53, .int a1, .int (s.1 ||| ((1 : Int32) <<< (v10 &&& 31))), .int (s.2.1 ||| ((1 : Int32) <<< (v4 &&& 31))), .int (s.2.2.1 + r11.1), .int (s.2.2.2.1 + 1), .int v4]) rfl ?_
            refine st_goto g dX8_atOnce_118 (tgt := 10) (by decide) ?_
            obtain rfl := Option.some.inj H
            exact (wa_drop [6] K)
          · refine st_iconst g dX8_atOnce_81 ic_m1 ?_
            obtain rfl := Option.some.inj H
            exact st_iret g dX8_atOnce_82 rfl (fun q => by cases q) K
    · refine st_goto g dX8_atOnce_28 (tgt := 115) (by decide) ?_
      refine st_iinc g dX8_atOnce_115 rfl (ii_1 _) (Nat.le_of_ble_eq_true rfl) rfl (ls2 := [.ref 53, .int a1, .int s.1, .int s.2.1, .int s.2.2.1, .int (s.2.2.2.1 + 1), .null]) rfl ?_
      refine st_goto g dX8_atOnce_118 (tgt := 10) (by decide) ?_
      obtain rfl := Option.some.inj H
      exact K
def f_X8_atOnce (a1 : Int32) (h : Hp) : Option (Int32 × Hp) :=
  (iter (b_X8_atOnce_10 a1) FU (0, 0, 0, 0, h)).bind (Sum.elim (fun a12 =>
    some (a12.2.2.1, a12.2.2.2.2)) (fun r => some r))
theorem t_X8_atOnce {x : Cx} (g : Gx x RX8 cX8_atOnce 7 5) (a1 : Int32) (h : Hp) (out : (Int32 × Hp)) (H : f_X8_atOnce a1 h = some out) (K : RtI x .int out.1 out.2) : WA x 0 [.ref 53, .int a1, .null, .null, .null, .null, .null] [] h := by
  unfold f_X8_atOnce at H
  refine st_iconst g dX8_atOnce_0 ic_0 ?_
  refine st_istore_n g dX8_atOnce_1 (Nat.le_of_ble_eq_true rfl) rfl (ls2 := [.ref 53, .int a1, .int 0, .null, .null, .null, .null]) rfl ?_
  refine st_iconst g dX8_atOnce_2 ic_0 ?_
  refine st_istore_n g dX8_atOnce_3 (Nat.le_of_ble_eq_true rfl) rfl (ls2 := [.ref 53, .int a1, .int 0, .int 0, .null, .null, .null]) rfl ?_
  refine st_iconst g dX8_atOnce_4 ic_0 ?_
  refine st_istore g dX8_atOnce_5 (Nat.le_of_ble_eq_true rfl) rfl (ls2 := [.ref 53, .int a1, .int 0, .int 0, .int 0, .null, .null]) rfl ?_
  refine st_iconst g dX8_atOnce_7 ic_0 ?_
  refine st_istore g dX8_atOnce_8 (Nat.le_of_ble_eq_true rfl) rfl (ls2 := [.ref 53, .int a1, .int 0, .int 0, .int 0, .int 0, .null]) rfl ?_
  show P_X8_atOnce_10 x a1 (0, 0, 0, 0, h)
  obtain ⟨a12o, ha12, hca12⟩ := it_R H
  refine iter_W (P := P_X8_atOnce_10 x a1) (E := E_X8_atOnce_10 x a1) (fun s9 o9 ho9 hK9 => tb_X8_atOnce_10 g a1 s9 o9 ho9 hK9) FU _ a12o ha12 ?_
  rcases hca12 with ⟨a12, rfl, H⟩ | ⟨r, rfl, H⟩
  · show WA x 121 [.null, .null, .null, .null, .int a12.2.2.1, .null, .null] [] a12.2.2.2.2
    refine st_iload g dX8_atOnce_121 rfl ?_
    obtain rfl := Option.some.inj H
    exact st_iret g dX8_atOnce_123 rfl (fun q => by cases q) K
  · obtain rfl := Option.some.inj H
    exact K
theorem c_X8_atOnce (a1 : Int32) (h : Hp) (r : (Int32 × Hp)) (H : f_X8_atOnce a1 h = some r) : CtI yX8_atOnce cX8_atOnce 7 .int 5 [.ref 53, .int a1] h r.1 r.2 :=
  ct_ofI (own := RX8) [.ref 53, .int a1, .null, .null, .null, .null, .null] (by decide +kernel) rfl (fun ρ => Nat.le_of_ble_eq_true rfl) (fun ρ => rfl) (fun x g K => t_X8_atOnce g a1 h r H K)
def P_X7_think_28 (x : Cx) (a1 : Int32) (a3 : Int32) (s : (Int32 × Int32 × Hp)) : Prop := WA x 28 [.ref 0, .int a1, .null, .int a3, .int s.1, .int s.2.1, .null] [] s.2.2
def E_X7_think_28 (x : Cx) (a1 : Int32) (a3 : Int32) : (Int32 × Int32 × Hp) → Prop := fun s : (Int32 × Int32 × Hp) => WA x 65 [.null, .null, .null, .null, .int s.1, .null, .null] [] s.2.2
def b_X7_think_28 (a1 : Int32) (a3 : Int32) (s : (Int32 × Int32 × Hp)) : Option ((Int32 × Int32 × Hp) ⊕ (Int32 × Int32 × Hp)) :=
  if a3 ≤ s.2.1 then
    some (.inr (s.1, s.2.1, s.2.2))
  else
    (f_X7_callOf a1 s.2.1 s.2.2).bind fun r4 =>
    if r4.1 = 0 then
      if s.1 = (-2) then
        some (.inl (s.2.1, s.2.1 + 1, r4.2))
      else
        some (.inl (s.1, s.2.1 + 1, r4.2))
    else
      some (.inl (s.1, s.2.1 + 1, r4.2))
theorem tb_X7_think_28 {x : Cx} (g : Gx x RX7 cX7_think 7 6) (a1 : Int32) (a3 : Int32) (s : (Int32 × Int32 × Hp)) (out : (Int32 × Int32 × Hp) ⊕ (Int32 × Int32 × Hp)) (H : b_X7_think_28 a1 a3 s = some out) (K : Sum.elim (P_X7_think_28 x a1 a3) (E_X7_think_28 x a1 a3) out) : P_X7_think_28 x a1 a3 s := by
  unfold b_X7_think_28 at H
  show WA x 28 [.ref 0, .int a1, .null, .int a3, .int s.1, .int s.2.1, .null] [] s.2.2
  refine st_iload g dX7_think_28 rfl ?_
  refine st_iload_n g dX7_think_30 rfl ?_
  refine st_ic_ge g dX7_think_31 (tgt := 65) (by decide) H (fun q3 H => ?_) (fun q3 H => ?_)
  · obtain rfl := Option.some.inj H
    exact (wa_drop [0, 1, 3, 5] K)
  · refine st_aload_n g dX7_think_34 rfl ?_
    refine st_iload_n g dX7_think_35 rfl ?_
    refine st_iload g dX7_think_36 rfl ?_
    obtain ⟨r4, hr4, H⟩ := bind_some H
    refine st_callVI g (as := [.int a1, .int s.2.1]) dX7_think_38 rfl rfl ml_X7_402 mf_X7_callOf rfl (Nat.le_of_ble_eq_true rfl) (Nat.le_of_ble_eq_true rfl) (c_X7_callOf a1 s.2.1 s.2.2 _ hr4) (fun hz => ?_)
    refine st_istore g dX7_think_41 (Nat.le_of_ble_eq_true rfl) rfl (ls2 := [.ref 0, .int a1, .null, .int a3, .int s.1, .int s.2.1, .int r4.1]) rfl ?_
    refine st_iload g dX7_think_43 rfl ?_
    refine st_if_ne g dX7_think_45 (tgt := 59) (by decide) H (fun q5 H => ?_) (fun q5 H => ?_)
    · refine st_iinc g dX7_think_59 rfl (ii_1 _) (Nat.le_of_ble_eq_true rfl) rfl (ls2 := [.ref 0, .int a1, .null, .int a3, .int s.1, .int (s.2.1 + 1), .int r4.1]) rfl ?_
      refine st_goto g dX7_think_62 (tgt := 28) (by decide) ?_
      obtain rfl := Option.some.inj H
      exact (wa_drop [6] K)
    · refine st_iload g dX7_think_48 rfl ?_
      refine st_bipush g dX7_think_50 bi_m2 ?_
      refine st_ic_ne g dX7_think_52 (tgt := 59) (by decide) H (fun q6 H => ?_) (fun q6 H => ?_)
      · refine st_iinc g dX7_think_59 rfl (ii_1 _) (Nat.le_of_ble_eq_true rfl) rfl (ls2 := [.ref 0, .int a1, .null, .int a3, .int s.1, .int (s.2.1 + 1), .int r4.1]) rfl ?_
        refine st_goto g dX7_think_62 (tgt := 28) (by decide) ?_
        obtain rfl := Option.some.inj H
        exact (wa_drop [6] K)
      · refine st_iload g dX7_think_55 rfl ?_
        refine st_istore g dX7_think_57 (Nat.le_of_ble_eq_true rfl) rfl (ls2 := [.ref 0, .int a1, .null, .int a3, .int s.2.1, .int s.2.1, .int r4.1]) rfl ?_
        refine st_iinc g dX7_think_59 rfl (ii_1 _) (Nat.le_of_ble_eq_true rfl) rfl (ls2 := [.ref 0, .int a1, .null, .int a3, .int s.2.1, .int (s.2.1 + 1), .int r4.1]) rfl ?_
        refine st_goto g dX7_think_62 (tgt := 28) (by decide) ?_
        obtain rfl := Option.some.inj H
        exact (wa_drop [6] K)
def f_X7_think (a1 : Int32) (a2 : Int32) (h : Hp) : Option (Int32 × Hp) :=
  (f_X5_become 17 13 h).bind fun r1 =>
  (f_X7_callsOn a1 r1).bind fun r2 =>
  (iter (b_X7_think_28 a1 (mnI a2 r2)) FU ((-2), 0, r1)).bind fun a7 =>
  some (a7.1, a7.2.2)
theorem t_X7_think {x : Cx} (g : Gx x RX7 cX7_think 7 6) (a1 : Int32) (a2 : Int32) (h : Hp) (out : (Int32 × Hp)) (H : f_X7_think a1 a2 h = some out) (K : RtI x .int out.1 out.2) : WA x 0 [.ref 0, .int a1, .int a2, .null, .null, .null, .null] [] h := by
  unfold f_X7_think at H
  refine st_aload_n g dX7_think_0 rfl ?_
  refine gf_X7_30 g dX7_think_1 rfl (r := 17) rfl ?_
  refine st_aload_n g dX7_think_4 rfl ?_
  refine gf_X7_26 g dX7_think_5 rfl (r := 13) rfl ?_
  obtain ⟨r1, hr1, H⟩ := bind_some H
  refine st_callVV g (as := [.ref 13]) dX7_think_8 rfl rfl ml_X7_187 mf_X5_become rfl (Nat.le_of_ble_eq_true rfl) (Nat.le_of_ble_eq_true rfl) (c_X5_become 17 13 h _ hr1) ?_
  refine st_iload_n g dX7_think_11 rfl ?_
  refine st_aload_n g dX7_think_12 rfl ?_
  refine st_iload_n g dX7_think_13 rfl ?_
  obtain ⟨r2, hr2, H⟩ := bind_some H
  refine st_callVI g (as := [.int a1]) dX7_think_14 rfl rfl ml_X7_399 mf_X7_callsOn rfl (Nat.le_of_ble_eq_true rfl) (Nat.le_of_ble_eq_true rfl) (c_X7_callsOn a1 r1 _ hr2) (fun hz => ?_)
  refine st_min g dX7_think_17 ml_X7_393 (Nat.le_of_ble_eq_true rfl) (Nat.le_of_ble_eq_true rfl) ?_
  refine st_istore_n g dX7_think_20 (Nat.le_of_ble_eq_true rfl) rfl (ls2 := [.ref 0, .int a1, .int a2, .int (mnI a2 r2), .null, .null, .null]) rfl ?_
  refine st_bipush g dX7_think_21 bi_m2 ?_
  refine st_istore g dX7_think_23 (Nat.le_of_ble_eq_true rfl) rfl (ls2 := [.ref 0, .int a1, .int a2, .int (mnI a2 r2), .int (-2), .null, .null]) rfl ?_
  refine st_iconst g dX7_think_25 ic_0 ?_
  refine st_istore g dX7_think_26 (Nat.le_of_ble_eq_true rfl) rfl (ls2 := [.ref 0, .int a1, .int a2, .int (mnI a2 r2), .int (-2), .int 0, .null]) rfl ?_
  refine wa_drop [2] ?_
  show P_X7_think_28 x a1 (mnI a2 r2) ((-2), 0, r1)
  obtain ⟨a7, ha7, H⟩ := bind_some H
  refine iter_W (P := P_X7_think_28 x a1 (mnI a2 r2)) (E := E_X7_think_28 x a1 (mnI a2 r2)) (fun s9 o9 ho9 hK9 => tb_X7_think_28 g a1 (mnI a2 r2) s9 o9 ho9 hK9) FU _ a7 ha7 ?_
  show WA x 65 [.null, .null, .null, .null, .int a7.1, .null, .null] [] a7.2.2
  refine st_iload g dX7_think_65 rfl ?_
  obtain rfl := Option.some.inj H
  exact st_iret g dX7_think_67 rfl (fun q => by cases q) K
theorem c_X7_think (a1 : Int32) (a2 : Int32) (h : Hp) (r : (Int32 × Hp)) (H : f_X7_think a1 a2 h = some r) : CtI yX7_think cX7_think 7 .int 6 [.ref 0, .int a1, .int a2] h r.1 r.2 :=
  ct_ofI (own := RX7) [.ref 0, .int a1, .int a2, .null, .null, .null, .null] (by decide +kernel) rfl (fun ρ => Nat.le_of_ble_eq_true rfl) (fun ρ => rfl) (fun x g K => t_X7_think g a1 a2 h r H K)
def P_X7_searchFewest_51 (x : Cx) (s : (Int32 × Hp)) : Prop := WA x 51 [.ref 0, .null, .int s.1, .null, .null, .null, .null, .null] [] s.2
def E_X7_searchFewest_51 (x : Cx) : (Int32 × Hp) ⊕ (Int32 × Hp) → Prop := Sum.elim (fun s : (Int32 × Hp) => WA x 191 [.null, .null, .null, .null, .null, .null, .null, .null] [] s.2) (fun r : (Int32 × Hp) => RtI x .int r.1 r.2)
def j_X7_searchFewest_148 (c2 : Int32) (a3 : Int32) (a4 : Int32) (a5 : Int32) (t0 : Int32) (h : Hp) : Option ((Int32 × Hp) ⊕ ((Int32 × Hp) ⊕ (Int32 × Hp))) :=
  (wrI h 18 a4 a5).bind fun h12 =>
  (f_X5_setForgiven 17 a3 0 h12).bind fun r13 =>
  if t0 = 0 then
    some (.inl (c2 + 1, r13))
  else
    (wrI r13 49 0 c2).bind fun h15 =>
    some (.inr (.inr (2, h15)))
theorem tj_X7_searchFewest_148 {x : Cx} (g : Gx x RX7 cX7_searchFewest 8 6) (c2 : Int32) (a3 : Int32) (a4 : Int32) (a5 : Int32) (t0 : Int32) (h : Hp) (out : (Int32 × Hp) ⊕ ((Int32 × Hp) ⊕ (Int32 × Hp))) (H : j_X7_searchFewest_148 c2 a3 a4 a5 t0 h = some out) (K : Sum.elim (P_X7_searchFewest_51 x) (E_X7_searchFewest_51 x) out) : WA x 148 [.ref 0, .null, .int c2, .int a3, .int a4, .int a5, .null, .null] [.int t0] h := by
  unfold j_X7_searchFewest_148 at H
  refine st_istore g dX7_searchFewest_148 (Nat.le_of_ble_eq_true rfl) rfl (ls2 := [.ref 0, .null, .int c2, .int a3, .int a4, .int a5, .null, .int t0]) rfl ?_
  refine st_aload_n g dX7_searchFewest_150 rfl ?_
  refine gf_X7_30 g dX7_searchFewest_151 rfl (r := 17) rfl ?_
  refine gf_X7_169 g dX7_searchFewest_154 rfl (r := 18) rfl ?_
  refine st_iload g dX7_searchFewest_157 rfl ?_
  refine st_iload g dX7_searchFewest_159 rfl ?_
  refine st_iast g dX7_searchFewest_161 H (fun h12 H => ?_)
  refine st_aload_n g dX7_searchFewest_162 rfl ?_
  refine gf_X7_30 g dX7_searchFewest_163 rfl (r := 17) rfl ?_
  refine st_iload_n g dX7_searchFewest_166 rfl ?_
  refine st_iconst g dX7_searchFewest_167 ic_0 ?_
  obtain ⟨r13, hr13, H⟩ := bind_some H
  refine st_callVV g (as := [.int a3, .int 0]) dX7_searchFewest_168 rfl rfl ml_X7_377 mf_X5_setForgiven rfl (Nat.le_of_ble_eq_true rfl) (Nat.le_of_ble_eq_true rfl) (c_X5_setForgiven 17 a3 0 h12 _ hr13) ?_
  refine st_iload g dX7_searchFewest_171 rfl ?_
  refine st_if_eq g dX7_searchFewest_173 (tgt := 185) (by decide) H (fun q14 H => ?_) (fun q14 H => ?_)
  · refine st_iinc g dX7_searchFewest_185 rfl (ii_1 _) (Nat.le_of_ble_eq_true rfl) rfl (ls2 := [.ref 0, .null, .int (c2 + 1), .int a3, .int a4, .int a5, .null, .int t0]) rfl ?_
    refine st_goto g dX7_searchFewest_188 (tgt := 51) (by decide) ?_
    obtain rfl := Option.some.inj H
    exact (wa_drop [3, 4, 5, 7] K)
  · refine st_aload_n g dX7_searchFewest_176 rfl ?_
    refine gf_X7_72 g dX7_searchFewest_177 rfl (r := 49) rfl ?_
    refine st_iconst g dX7_searchFewest_180 ic_0 ?_
    refine st_iload_n g dX7_searchFewest_181 rfl ?_
    refine st_iast g dX7_searchFewest_182 H (fun h15 H => ?_)
    refine st_iconst g dX7_searchFewest_183 ic_2 ?_
    obtain rfl := Option.some.inj H
    exact st_iret g dX7_searchFewest_184 rfl (fun q => by cases q) K
def j_X7_searchFewest_147 (c2 : Int32) (a3 : Int32) (a4 : Int32) (a5 : Int32) (h : Hp) : Option ((Int32 × Hp) ⊕ ((Int32 × Hp) ⊕ (Int32 × Hp))) :=
  j_X7_searchFewest_148 c2 a3 a4 a5 0 h
theorem tj_X7_searchFewest_147 {x : Cx} (g : Gx x RX7 cX7_searchFewest 8 6) (c2 : Int32) (a3 : Int32) (a4 : Int32) (a5 : Int32) (h : Hp) (out : (Int32 × Hp) ⊕ ((Int32 × Hp) ⊕ (Int32 × Hp))) (H : j_X7_searchFewest_147 c2 a3 a4 a5 h = some out) (K : Sum.elim (P_X7_searchFewest_51 x) (E_X7_searchFewest_51 x) out) : WA x 147 [.ref 0, .null, .int c2, .int a3, .int a4, .int a5, .null, .null] [] h := by
  unfold j_X7_searchFewest_147 at H
  refine st_iconst g dX7_searchFewest_147 ic_0 ?_
  exact (tj_X7_searchFewest_148 g c2 a3 a4 a5 0 h _ H K)
def b_X7_searchFewest_51 (s : (Int32 × Hp)) : Option ((Int32 × Hp) ⊕ ((Int32 × Hp) ⊕ (Int32 × Hp))) :=
  if ((s.2.1 1 3) * 12) ≤ s.1 then
    some (.inr (.inl (s.1, s.2)))
  else
    (rdI s.2 18 (s.1 % 12)).bind fun v7 =>
    (f_X7_forgive 17 (s.1 / 12) (s.1 % 12) s.2).bind fun r8 =>
    if r8.1 = 0 then
      some (.inl (s.1 + 1, r8.2))
    else
      (f_X5_firstBreak 17 r8.2).bind fun r10 =>
      if r10 = (-2) then
        j_X7_searchFewest_147 s.1 (s.1 / 12) (s.1 % 12) v7 r8.2
      else
        (f_X5_lastBreak 17 r8.2).bind fun r16 =>
        if r10 = r16 then
          (f_X7_mendsIn r10 1 r8.2).bind fun r18 =>
          if r18.1 = 0 then
            j_X7_searchFewest_147 s.1 (s.1 / 12) (s.1 % 12) v7 r18.2
          else
            j_X7_searchFewest_148 s.1 (s.1 / 12) (s.1 % 12) v7 1 r18.2
        else
          j_X7_searchFewest_147 s.1 (s.1 / 12) (s.1 % 12) v7 r8.2
theorem tb_X7_searchFewest_51 {x : Cx} (g : Gx x RX7 cX7_searchFewest 8 6) (s : (Int32 × Hp)) (out : (Int32 × Hp) ⊕ ((Int32 × Hp) ⊕ (Int32 × Hp))) (H : b_X7_searchFewest_51 s = some out) (K : Sum.elim (P_X7_searchFewest_51 x) (E_X7_searchFewest_51 x) out) : P_X7_searchFewest_51 x s := by
  unfold b_X7_searchFewest_51 at H
  show WA x 51 [.ref 0, .null, .int s.1, .null, .null, .null, .null, .null] [] s.2
  refine st_iload_n g dX7_searchFewest_51 rfl ?_
  refine st_aload_n g dX7_searchFewest_52 rfl ?_
  refine gf_X7_10 g dX7_searchFewest_53 rfl (r := 1) rfl ?_
  refine gf_X7_100 g dX7_searchFewest_56 rfl ?_
  refine st_bipush g dX7_searchFewest_59 bi_12 ?_
  refine st_imul g dX7_searchFewest_61 ?_
  refine st_ic_ge g dX7_searchFewest_62 (tgt := 191) (by decide) H (fun q6 H => ?_) (fun q6 H => ?_)
  · obtain rfl := Option.some.inj H
    exact (wa_drop [0, 2] K)
  · refine st_iload_n g dX7_searchFewest_65 rfl ?_
    refine st_bipush g dX7_searchFewest_66 bi_12 ?_
    refine st_idiv g dX7_searchFewest_68 (by decide) ?_
    refine st_istore_n g dX7_searchFewest_69 (Nat.le_of_ble_eq_true rfl) rfl (ls2 := [.ref 0, .null, .int s.1, .int (s.1 / 12), .null, .null, .null, .null]) rfl ?_
    refine st_iload_n g dX7_searchFewest_70 rfl ?_
    refine st_bipush g dX7_searchFewest_71 bi_12 ?_
    refine st_irem g dX7_searchFewest_73 (by decide) ?_
    refine st_istore g dX7_searchFewest_74 (Nat.le_of_ble_eq_true rfl) rfl (ls2 := [.ref 0, .null, .int s.1, .int (s.1 / 12), .int (s.1 % 12), .null, .null, .null]) rfl ?_
    refine st_aload_n g dX7_searchFewest_76 rfl ?_
    refine gf_X7_30 g dX7_searchFewest_77 rfl (r := 17) rfl ?_
    refine gf_X7_169 g dX7_searchFewest_80 rfl (r := 18) rfl ?_
    refine st_iload g dX7_searchFewest_83 rfl ?_
    refine st_iald g dX7_searchFewest_85 H (fun v7 H => ?_)
    refine st_istore g dX7_searchFewest_86 (Nat.le_of_ble_eq_true rfl) rfl (ls2 := [.ref 0, .null, .int s.1, .int (s.1 / 12), .int (s.1 % 12), .int v7, .null, .null]) rfl ?_
    refine st_aload_n g dX7_searchFewest_88 rfl ?_
    refine st_aload_n g dX7_searchFewest_89 rfl ?_
    refine gf_X7_30 g dX7_searchFewest_90 rfl (r := 17) rfl ?_
    refine st_iload_n g dX7_searchFewest_93 rfl ?_
    refine st_iload g dX7_searchFewest_94 rfl ?_
    obtain ⟨r8, hr8, H⟩ := bind_some H
    refine st_callVI g (as := [.ref 17, .int (s.1 / 12), .int (s.1 % 12)]) dX7_searchFewest_96 rfl rfl ml_X7_191 mf_X7_forgive rfl (Nat.le_of_ble_eq_true rfl) (Nat.le_of_ble_eq_true rfl) (c_X7_forgive 17 (s.1 / 12) (s.1 % 12) s.2 _ hr8) (fun hz => ?_)
    refine st_if_ne g dX7_searchFewest_99 (tgt := 105) (by decide) H (fun q9 H => ?_) (fun q9 H => ?_)
    · refine st_aload_n g dX7_searchFewest_105 rfl ?_
      refine gf_X7_30 g dX7_searchFewest_106 rfl (r := 17) rfl ?_
      obtain ⟨r10, hr10, H⟩ := bind_some H
      refine st_callVI g (as := []) dX7_searchFewest_109 rfl rfl ml_X7_405 mf_X5_firstBreak rfl (Nat.le_of_ble_eq_true rfl) (Nat.le_of_ble_eq_true rfl) (c_X5_firstBreak 17 r8.2 _ hr10) (fun hz => ?_)
      refine st_istore g dX7_searchFewest_112 (Nat.le_of_ble_eq_true rfl) rfl (ls2 := [.ref 0, .null, .int s.1, .int (s.1 / 12), .int (s.1 % 12), .int v7, .int r10, .null]) rfl ?_
      refine st_iload g dX7_searchFewest_114 rfl ?_
      refine st_bipush g dX7_searchFewest_116 bi_m2 ?_
      refine st_ic_eq g dX7_searchFewest_118 (tgt := 147) (by decide) H (fun q11 H => ?_) (fun q11 H => ?_)
      · exact (wa_drop [6] (tj_X7_searchFewest_147 g s.1 (s.1 / 12) (s.1 % 12) v7 r8.2 _ H K))
      · refine st_iload g dX7_searchFewest_121 rfl ?_
        refine st_aload_n g dX7_searchFewest_123 rfl ?_
        refine gf_X7_30 g dX7_searchFewest_124 rfl (r := 17) rfl ?_
        obtain ⟨r16, hr16, H⟩ := bind_some H
        refine st_callVI g (as := []) dX7_searchFewest_127 rfl rfl ml_X7_408 mf_X5_lastBreak rfl (Nat.le_of_ble_eq_true rfl) (Nat.le_of_ble_eq_true rfl) (c_X5_lastBreak 17 r8.2 _ hr16) (fun hz => ?_)
        refine st_ic_ne g dX7_searchFewest_130 (tgt := 147) (by decide) H (fun q17 H => ?_) (fun q17 H => ?_)
        · exact (wa_drop [6] (tj_X7_searchFewest_147 g s.1 (s.1 / 12) (s.1 % 12) v7 r8.2 _ H K))
        · refine st_aload_n g dX7_searchFewest_133 rfl ?_
          refine st_iload g dX7_searchFewest_134 rfl ?_
          refine st_iconst g dX7_searchFewest_136 ic_1 ?_
          obtain ⟨r18, hr18, H⟩ := bind_some H
          refine st_callVI g (as := [.int r10, .int 1]) dX7_searchFewest_137 rfl rfl ml_X7_411 mf_X7_mendsIn rfl (Nat.le_of_ble_eq_true rfl) (Nat.le_of_ble_eq_true rfl) (c_X7_mendsIn r10 1 r8.2 _ hr18) (fun hz => ?_)
          have br18 := hz rfl
          refine st_if_eq g dX7_searchFewest_140 (tgt := 147) (by decide) H (fun q19 H => ?_) (fun q19 H => ?_)
          · exact (wa_drop [6] (tj_X7_searchFewest_147 g s.1 (s.1 / 12) (s.1 % 12) v7 r18.2 _ H K))
          · refine st_iconst g dX7_searchFewest_143 ic_1 ?_
            refine st_goto g dX7_searchFewest_144 (tgt := 148) (by decide) ?_
            exact (wa_drop [6] (tj_X7_searchFewest_148 g s.1 (s.1 / 12) (s.1 % 12) v7 1 r18.2 _ H K))
    · refine st_goto g dX7_searchFewest_102 (tgt := 185) (by decide) ?_
      refine st_iinc g dX7_searchFewest_185 rfl (ii_1 _) (Nat.le_of_ble_eq_true rfl) rfl (ls2 := [.ref 0, .null, .int (s.1 + 1), .int (s.1 / 12), .int (s.1 % 12), .int v7, .null, .null]) rfl ?_
      refine st_goto g dX7_searchFewest_188 (tgt := 51) (by decide) ?_
      obtain rfl := Option.some.inj H
      exact (wa_drop [3, 4, 5] K)
def j_X7_searchFewest_49 (h : Hp) : Option ((Int32 × Hp)) :=
  (iter (b_X7_searchFewest_51) FU (0, h)).bind (Sum.elim (fun a20 =>
    some ((-2), a20.2)) (fun r => some r))
theorem tj_X7_searchFewest_49 {x : Cx} (g : Gx x RX7 cX7_searchFewest 8 6) (h : Hp) (out : (Int32 × Hp)) (H : j_X7_searchFewest_49 h = some out) (K : RtI x .int out.1 out.2) : WA x 49 [.ref 0, .null, .null, .null, .null, .null, .null, .null] [] h := by
  unfold j_X7_searchFewest_49 at H
  refine st_iconst g dX7_searchFewest_49 ic_0 ?_
  refine st_istore_n g dX7_searchFewest_50 (Nat.le_of_ble_eq_true rfl) rfl (ls2 := [.ref 0, .null, .int 0, .null, .null, .null, .null, .null]) rfl ?_
  show P_X7_searchFewest_51 x (0, h)
  obtain ⟨a20o, ha20, hca20⟩ := it_R H
  refine iter_W (P := P_X7_searchFewest_51 x) (E := E_X7_searchFewest_51 x) (fun s9 o9 ho9 hK9 => tb_X7_searchFewest_51 g s9 o9 ho9 hK9) FU _ a20o ha20 ?_
  rcases hca20 with ⟨a20, rfl, H⟩ | ⟨r, rfl, H⟩
  · show WA x 191 [.null, .null, .null, .null, .null, .null, .null, .null] [] a20.2
    refine st_bipush g dX7_searchFewest_191 bi_m2 ?_
    obtain rfl := Option.some.inj H
    exact st_iret g dX7_searchFewest_193 rfl (fun q => by cases q) K
  · obtain rfl := Option.some.inj H
    exact K
def f_X7_searchFewest (h : Hp) : Option (Int32 × Hp) :=
  (f_X5_become 17 13 h).bind fun r1 =>
  (f_X5_firstBreak 17 r1).bind fun r2 =>
  if r2 = (-2) then
    some (0, r1)
  else
    (f_X5_lastBreak 17 r1).bind fun r4 =>
    if r2 = r4 then
      (f_X7_mendsIn r2 0 r1).bind fun r21 =>
      if r21.1 = 0 then
        j_X7_searchFewest_49 r21.2
      else
        some (1, r21.2)
    else
      j_X7_searchFewest_49 r1
theorem t_X7_searchFewest {x : Cx} (g : Gx x RX7 cX7_searchFewest 8 6) (h : Hp) (out : (Int32 × Hp)) (H : f_X7_searchFewest h = some out) (K : RtI x .int out.1 out.2) : WA x 0 [.ref 0, .null, .null, .null, .null, .null, .null, .null] [] h := by
  unfold f_X7_searchFewest at H
  refine st_aload_n g dX7_searchFewest_0 rfl ?_
  refine gf_X7_30 g dX7_searchFewest_1 rfl (r := 17) rfl ?_
  refine st_aload_n g dX7_searchFewest_4 rfl ?_
  refine gf_X7_26 g dX7_searchFewest_5 rfl (r := 13) rfl ?_
  obtain ⟨r1, hr1, H⟩ := bind_some H
  refine st_callVV g (as := [.ref 13]) dX7_searchFewest_8 rfl rfl ml_X7_187 mf_X5_become rfl (Nat.le_of_ble_eq_true rfl) (Nat.le_of_ble_eq_true rfl) (c_X5_become 17 13 h _ hr1) ?_
  refine st_aload_n g dX7_searchFewest_11 rfl ?_
  refine gf_X7_30 g dX7_searchFewest_12 rfl (r := 17) rfl ?_
  obtain ⟨r2, hr2, H⟩ := bind_some H
  refine st_callVI g (as := []) dX7_searchFewest_15 rfl rfl ml_X7_405 mf_X5_firstBreak rfl (Nat.le_of_ble_eq_true rfl) (Nat.le_of_ble_eq_true rfl) (c_X5_firstBreak 17 r1 _ hr2) (fun hz => ?_)
  refine st_istore_n g dX7_searchFewest_18 (Nat.le_of_ble_eq_true rfl) rfl (ls2 := [.ref 0, .int r2, .null, .null, .null, .null, .null, .null]) rfl ?_
  refine st_iload_n g dX7_searchFewest_19 rfl ?_
  refine st_bipush g dX7_searchFewest_20 bi_m2 ?_
  refine st_ic_ne g dX7_searchFewest_22 (tgt := 27) (by decide) H (fun q3 H => ?_) (fun q3 H => ?_)
  · refine st_iload_n g dX7_searchFewest_27 rfl ?_
    refine st_aload_n g dX7_searchFewest_28 rfl ?_
    refine gf_X7_30 g dX7_searchFewest_29 rfl (r := 17) rfl ?_
    obtain ⟨r4, hr4, H⟩ := bind_some H
    refine st_callVI g (as := []) dX7_searchFewest_32 rfl rfl ml_X7_408 mf_X5_lastBreak rfl (Nat.le_of_ble_eq_true rfl) (Nat.le_of_ble_eq_true rfl) (c_X5_lastBreak 17 r1 _ hr4) (fun hz => ?_)
    refine st_ic_ne g dX7_searchFewest_35 (tgt := 49) (by decide) H (fun q5 H => ?_) (fun q5 H => ?_)
    · exact (wa_drop [1] (tj_X7_searchFewest_49 g r1 _ H K))
    · refine st_aload_n g dX7_searchFewest_38 rfl ?_
      refine st_iload_n g dX7_searchFewest_39 rfl ?_
      refine st_iconst g dX7_searchFewest_40 ic_0 ?_
      obtain ⟨r21, hr21, H⟩ := bind_some H
      refine st_callVI g (as := [.int r2, .int 0]) dX7_searchFewest_41 rfl rfl ml_X7_411 mf_X7_mendsIn rfl (Nat.le_of_ble_eq_true rfl) (Nat.le_of_ble_eq_true rfl) (c_X7_mendsIn r2 0 r1 _ hr21) (fun hz => ?_)
      have br21 := hz rfl
      refine st_if_eq g dX7_searchFewest_44 (tgt := 49) (by decide) H (fun q22 H => ?_) (fun q22 H => ?_)
      · exact (wa_drop [1] (tj_X7_searchFewest_49 g r21.2 _ H K))
      · refine st_iconst g dX7_searchFewest_47 ic_1 ?_
        obtain rfl := Option.some.inj H
        exact st_iret g dX7_searchFewest_48 rfl (fun q => by cases q) K
  · refine st_iconst g dX7_searchFewest_25 ic_0 ?_
    obtain rfl := Option.some.inj H
    exact st_iret g dX7_searchFewest_26 rfl (fun q => by cases q) K
theorem c_X7_searchFewest (h : Hp) (r : (Int32 × Hp)) (H : f_X7_searchFewest h = some r) : CtI yX7_searchFewest cX7_searchFewest 8 .int 6 [.ref 0] h r.1 r.2 :=
  ct_ofI (own := RX7) [.ref 0, .null, .null, .null, .null, .null, .null, .null] (by decide +kernel) rfl (fun ρ => Nat.le_of_ble_eq_true rfl) (fun ρ => rfl) (fun x g K => t_X7_searchFewest g h r H K)
def P_X7_firstUnlike_31 (x : Cx) (a1 : Int32) (a2 : Int32) (a3 : Int32) (a4 : Int32) (a5 : Int32) (s : (Int32 × Hp)) : Prop := WA x 31 [.ref 0, .int a1, .int a2, .int a3, .int a4, .int a5, .int s.1] [] s.2
def E_X7_firstUnlike_31 (x : Cx) (a1 : Int32) (a2 : Int32) (a3 : Int32) (a4 : Int32) (a5 : Int32) : (Int32 × Hp) ⊕ (Int32 × Hp) → Prop := Sum.elim (fun s : (Int32 × Hp) => WA x 96 [.null, .null, .null, .null, .null, .null, .null] [] s.2) (fun r : (Int32 × Hp) => RtI x .int r.1 r.2)
def j_X7_firstUnlike_63 (a1 : Int32) (a2 : Int32) (a3 : Int32) (a4 : Int32) (a5 : Int32) (c6 : Int32) (h : Hp) : Option ((Int32 × Hp) ⊕ ((Int32 × Hp) ⊕ (Int32 × Hp))) :=
  (f_X6_valueAt a2 c6 h).bind fun r7 =>
  (rdI h 18 a3).bind fun v8 =>
  if (lg_cmp r7 v8.toInt64) = 0 then
    some (.inl (c6 + 1, h))
  else
    some (.inr (.inr (c6, h)))
theorem tj_X7_firstUnlike_63 {x : Cx} (g : Gx x RX7 cX7_firstUnlike 7 6) (a1 : Int32) (a2 : Int32) (a3 : Int32) (a4 : Int32) (a5 : Int32) (c6 : Int32) (h : Hp) (out : (Int32 × Hp) ⊕ ((Int32 × Hp) ⊕ (Int32 × Hp))) (H : j_X7_firstUnlike_63 a1 a2 a3 a4 a5 c6 h = some out) (K : Sum.elim (P_X7_firstUnlike_31 x a1 a2 a3 a4 a5) (E_X7_firstUnlike_31 x a1 a2 a3 a4 a5) out) : WA x 63 [.ref 0, .int a1, .int a2, .int a3, .int a4, .int a5, .int c6] [] h := by
  unfold j_X7_firstUnlike_63 at H
  refine st_aload_n g dX7_firstUnlike_63 rfl ?_
  refine gf_X7_54 g dX7_firstUnlike_64 rfl (r := 30) rfl ?_
  refine st_iload_n g dX7_firstUnlike_67 rfl ?_
  refine st_iload g dX7_firstUnlike_68 rfl ?_
  obtain ⟨r7, hr7, H⟩ := bind_some H
  refine st_callVL g (as := [.int a2, .int c6]) dX7_firstUnlike_70 rfl rfl ml_X7_120 mf_X6_valueAt rfl (Nat.le_of_ble_eq_true rfl) (Nat.le_of_ble_eq_true rfl) (c_X6_valueAt a2 c6 h _ hr7) ?_
  refine st_aload_n g dX7_firstUnlike_73 rfl ?_
  refine gf_X7_30 g dX7_firstUnlike_74 rfl (r := 17) rfl ?_
  refine gf_X7_169 g dX7_firstUnlike_77 rfl (r := 18) rfl ?_
  refine st_iload_n g dX7_firstUnlike_80 rfl ?_
  refine st_iald g dX7_firstUnlike_81 H (fun v8 H => ?_)
  refine st_i2l g dX7_firstUnlike_82 ?_
  refine st_lcmp g dX7_firstUnlike_83 ?_
  refine st_if_eq g dX7_firstUnlike_84 (tgt := 90) (by decide) H (fun q9 H => ?_) (fun q9 H => ?_)
  · refine st_iinc g dX7_firstUnlike_90 rfl (ii_1 _) (Nat.le_of_ble_eq_true rfl) rfl (ls2 := [.ref 0, .int a1, .int a2, .int a3, .int a4, .int a5, .int (c6 + 1)]) rfl ?_
    refine st_goto g dX7_firstUnlike_93 (tgt := 31) (by decide) ?_
    obtain rfl := Option.some.inj H
    exact K
  · refine st_iload g dX7_firstUnlike_87 rfl ?_
    obtain rfl := Option.some.inj H
    exact st_iret g dX7_firstUnlike_89 rfl (fun q => by cases q) K
def b_X7_firstUnlike_31 (a1 : Int32) (a2 : Int32) (a3 : Int32) (a4 : Int32) (a5 : Int32) (s : (Int32 × Hp)) : Option ((Int32 × Hp) ⊕ ((Int32 × Hp) ⊕ (Int32 × Hp))) :=
  if a5 ≤ s.1 then
    some (.inr (.inl (s.1, s.2)))
  else
    if s.1 ≤ a4 then
      if s.1 ≤ 0 then
        j_X7_firstUnlike_63 a1 a2 a3 a4 a5 s.1 s.2
      else
        (f_X7_callOf a1 (s.1 - 1) s.2).bind fun r10 =>
        j_X7_firstUnlike_63 a1 a2 a3 a4 a5 s.1 r10.2
    else
      some (.inr (.inr (s.1, s.2)))
theorem tb_X7_firstUnlike_31 {x : Cx} (g : Gx x RX7 cX7_firstUnlike 7 6) (a1 : Int32) (a2 : Int32) (a3 : Int32) (a4 : Int32) (a5 : Int32) (s : (Int32 × Hp)) (out : (Int32 × Hp) ⊕ ((Int32 × Hp) ⊕ (Int32 × Hp))) (H : b_X7_firstUnlike_31 a1 a2 a3 a4 a5 s = some out) (K : Sum.elim (P_X7_firstUnlike_31 x a1 a2 a3 a4 a5) (E_X7_firstUnlike_31 x a1 a2 a3 a4 a5) out) : P_X7_firstUnlike_31 x a1 a2 a3 a4 a5 s := by
  unfold b_X7_firstUnlike_31 at H
  show WA x 31 [.ref 0, .int a1, .int a2, .int a3, .int a4, .int a5, .int s.1] [] s.2
  refine st_iload g dX7_firstUnlike_31 rfl ?_
  refine st_iload g dX7_firstUnlike_33 rfl ?_
  refine st_ic_ge g dX7_firstUnlike_35 (tgt := 96) (by decide) H (fun q4 H => ?_) (fun q4 H => ?_)
  · obtain rfl := Option.some.inj H
    exact (wa_drop [0, 1, 2, 3, 4, 5, 6] K)
  · refine st_iload g dX7_firstUnlike_38 rfl ?_
    refine st_iload g dX7_firstUnlike_40 rfl ?_
    refine st_ic_le g dX7_firstUnlike_42 (tgt := 48) (by decide) H (fun q5 H => ?_) (fun q5 H => ?_)
    · refine st_iload g dX7_firstUnlike_48 rfl ?_
      refine st_if_le g dX7_firstUnlike_50 (tgt := 63) (by decide) H (fun q6 H => ?_) (fun q6 H => ?_)
      · exact (tj_X7_firstUnlike_63 g a1 a2 a3 a4 a5 s.1 s.2 _ H K)
      · refine st_aload_n g dX7_firstUnlike_53 rfl ?_
        refine st_iload_n g dX7_firstUnlike_54 rfl ?_
        refine st_iload g dX7_firstUnlike_55 rfl ?_
        refine st_iconst g dX7_firstUnlike_57 ic_1 ?_
        refine st_isub g dX7_firstUnlike_58 ?_
        obtain ⟨r10, hr10, H⟩ := bind_some H
        refine st_callVI g (as := [.int a1, .int (s.1 - 1)]) dX7_firstUnlike_59 rfl rfl ml_X7_402 mf_X7_callOf rfl (Nat.le_of_ble_eq_true rfl) (Nat.le_of_ble_eq_true rfl) (c_X7_callOf a1 (s.1 - 1) s.2 _ hr10) (fun hz => ?_)
        refine st_pop g dX7_firstUnlike_62 rfl ?_
        exact (tj_X7_firstUnlike_63 g a1 a2 a3 a4 a5 s.1 r10.2 _ H K)
    · refine st_iload g dX7_firstUnlike_45 rfl ?_
      obtain rfl := Option.some.inj H
      exact st_iret g dX7_firstUnlike_47 rfl (fun q => by cases q) K
def f_X7_firstUnlike (a1 : Int32) (a2 : Int32) (a3 : Int32) (h : Hp) : Option (Int32 × Hp) :=
  (f_X5_become 17 13 h).bind fun r1 =>
  (f_X7_callsOn a1 r1).bind fun r2 =>
  (f_X6_size a2 r1).bind fun r3 =>
  (iter (b_X7_firstUnlike_31 a1 a2 a3 r2 r3) FU (0, r1)).bind (Sum.elim (fun a11 =>
    some ((-2), a11.2)) (fun r => some r))
theorem t_X7_firstUnlike {x : Cx} (g : Gx x RX7 cX7_firstUnlike 7 6) (a1 : Int32) (a2 : Int32) (a3 : Int32) (h : Hp) (out : (Int32 × Hp)) (H : f_X7_firstUnlike a1 a2 a3 h = some out) (K : RtI x .int out.1 out.2) : WA x 0 [.ref 0, .int a1, .int a2, .int a3, .null, .null, .null] [] h := by
  unfold f_X7_firstUnlike at H
  refine st_aload_n g dX7_firstUnlike_0 rfl ?_
  refine gf_X7_30 g dX7_firstUnlike_1 rfl (r := 17) rfl ?_
  refine st_aload_n g dX7_firstUnlike_4 rfl ?_
  refine gf_X7_26 g dX7_firstUnlike_5 rfl (r := 13) rfl ?_
  obtain ⟨r1, hr1, H⟩ := bind_some H
  refine st_callVV g (as := [.ref 13]) dX7_firstUnlike_8 rfl rfl ml_X7_187 mf_X5_become rfl (Nat.le_of_ble_eq_true rfl) (Nat.le_of_ble_eq_true rfl) (c_X5_become 17 13 h _ hr1) ?_
  refine st_aload_n g dX7_firstUnlike_11 rfl ?_
  refine st_iload_n g dX7_firstUnlike_12 rfl ?_
  obtain ⟨r2, hr2, H⟩ := bind_some H
  refine st_callVI g (as := [.int a1]) dX7_firstUnlike_13 rfl rfl ml_X7_399 mf_X7_callsOn rfl (Nat.le_of_ble_eq_true rfl) (Nat.le_of_ble_eq_true rfl) (c_X7_callsOn a1 r1 _ hr2) (fun hz => ?_)
  refine st_istore g dX7_firstUnlike_16 (Nat.le_of_ble_eq_true rfl) rfl (ls2 := [.ref 0, .int a1, .int a2, .int a3, .int r2, .null, .null]) rfl ?_
  refine st_aload_n g dX7_firstUnlike_18 rfl ?_
  refine gf_X7_54 g dX7_firstUnlike_19 rfl (r := 30) rfl ?_
  refine st_iload_n g dX7_firstUnlike_22 rfl ?_
  obtain ⟨r3, hr3, H⟩ := bind_some H
  refine st_callVI g (as := [.int a2]) dX7_firstUnlike_23 rfl rfl ml_X7_396 mf_X6_size rfl (Nat.le_of_ble_eq_true rfl) (Nat.le_of_ble_eq_true rfl) (c_X6_size a2 r1 _ hr3) (fun hz => ?_)
  refine st_istore g dX7_firstUnlike_26 (Nat.le_of_ble_eq_true rfl) rfl (ls2 := [.ref 0, .int a1, .int a2, .int a3, .int r2, .int r3, .null]) rfl ?_
  refine st_iconst g dX7_firstUnlike_28 ic_0 ?_
  refine st_istore g dX7_firstUnlike_29 (Nat.le_of_ble_eq_true rfl) rfl (ls2 := [.ref 0, .int a1, .int a2, .int a3, .int r2, .int r3, .int 0]) rfl ?_
  show P_X7_firstUnlike_31 x a1 a2 a3 r2 r3 (0, r1)
  obtain ⟨a11o, ha11, hca11⟩ := it_R H
  refine iter_W (P := P_X7_firstUnlike_31 x a1 a2 a3 r2 r3) (E := E_X7_firstUnlike_31 x a1 a2 a3 r2 r3) (fun s9 o9 ho9 hK9 => tb_X7_firstUnlike_31 g a1 a2 a3 r2 r3 s9 o9 ho9 hK9) FU _ a11o ha11 ?_
  rcases hca11 with ⟨a11, rfl, H⟩ | ⟨r, rfl, H⟩
  · show WA x 96 [.null, .null, .null, .null, .null, .null, .null] [] a11.2
    refine st_bipush g dX7_firstUnlike_96 bi_m2 ?_
    obtain rfl := Option.some.inj H
    exact st_iret g dX7_firstUnlike_98 rfl (fun q => by cases q) K
  · obtain rfl := Option.some.inj H
    exact K
theorem c_X7_firstUnlike (a1 : Int32) (a2 : Int32) (a3 : Int32) (h : Hp) (r : (Int32 × Hp)) (H : f_X7_firstUnlike a1 a2 a3 h = some r) : CtI yX7_firstUnlike cX7_firstUnlike 7 .int 6 [.ref 0, .int a1, .int a2, .int a3] h r.1 r.2 :=
  ct_ofI (own := RX7) [.ref 0, .int a1, .int a2, .int a3, .null, .null, .null] (by decide +kernel) rfl (fun ρ => Nat.le_of_ble_eq_true rfl) (fun ρ => rfl) (fun x g K => t_X7_firstUnlike g a1 a2 a3 h r H K)
def P_X7_playAlone_30 (x : Cx) (a1 : Int32) (a2 : Int32) (s : (Int32 × Hp)) : Prop := WA x 30 [.ref 0, .int a1, .int a2, .int s.1, .null] [] s.2
def E_X7_playAlone_30 (x : Cx) (a1 : Int32) (a2 : Int32) : (Int32 × Hp) → Prop := fun s : (Int32 × Hp) => WA x 98 [.null, .null, .null, .null, .null] [] s.2
def b_X7_playAlone_30 (a1 : Int32) (a2 : Int32) (s : (Int32 × Hp)) : Option ((Int32 × Hp) ⊕ (Int32 × Hp)) :=
  if (s.2.1 1 3) ≤ s.1 then
    some (.inr (s.1, s.2))
  else
    (rdI s.2 5 s.1).bind fun v6 =>
    if v6 = a1 then
      (f_X7_numberBehind a1 s.1 a2 s.2).bind fun r8 =>
      (rdI r8.2 49 0).bind fun v9 =>
      if r8.1 ≤ v9 then
        some (.inl (s.1 + 1, r8.2))
      else
        (wrI r8.2 49 0 r8.1).bind fun h11 =>
        (wrI h11 49 1 s.1).bind fun h12 =>
        some (.inl (s.1 + 1, h12))
    else
      some (.inl (s.1 + 1, s.2))
theorem tb_X7_playAlone_30 {x : Cx} (g : Gx x RX7 cX7_playAlone 5 6) (a1 : Int32) (a2 : Int32) (s : (Int32 × Hp)) (out : (Int32 × Hp) ⊕ (Int32 × Hp)) (H : b_X7_playAlone_30 a1 a2 s = some out) (K : Sum.elim (P_X7_playAlone_30 x a1 a2) (E_X7_playAlone_30 x a1 a2) out) : P_X7_playAlone_30 x a1 a2 s := by
  unfold b_X7_playAlone_30 at H
  show WA x 30 [.ref 0, .int a1, .int a2, .int s.1, .null] [] s.2
  refine st_iload_n g dX7_playAlone_30 rfl ?_
  refine st_aload_n g dX7_playAlone_31 rfl ?_
  refine gf_X7_10 g dX7_playAlone_32 rfl (r := 1) rfl ?_
  refine gf_X7_100 g dX7_playAlone_35 rfl ?_
  refine st_ic_ge g dX7_playAlone_38 (tgt := 98) (by decide) H (fun q5 H => ?_) (fun q5 H => ?_)
  · obtain rfl := Option.some.inj H
    exact (wa_drop [0, 1, 2, 3] K)
  · refine st_aload_n g dX7_playAlone_41 rfl ?_
    refine gf_X7_10 g dX7_playAlone_42 rfl (r := 1) rfl ?_
    refine gf_X7_203 g dX7_playAlone_45 rfl (r := 5) rfl ?_
    refine st_iload_n g dX7_playAlone_48 rfl ?_
    refine st_iald g dX7_playAlone_49 H (fun v6 H => ?_)
    refine st_iload_n g dX7_playAlone_50 rfl ?_
    refine st_ic_eq g dX7_playAlone_51 (tgt := 57) (by decide) H (fun q7 H => ?_) (fun q7 H => ?_)
    · refine st_aload_n g dX7_playAlone_57 rfl ?_
      refine st_iload_n g dX7_playAlone_58 rfl ?_
      refine st_iload_n g dX7_playAlone_59 rfl ?_
      refine st_iload_n g dX7_playAlone_60 rfl ?_
      obtain ⟨r8, hr8, H⟩ := bind_some H
      refine st_callVI g (as := [.int a1, .int s.1, .int a2]) dX7_playAlone_61 rfl rfl ml_X7_417 mf_X7_numberBehind rfl (Nat.le_of_ble_eq_true rfl) (Nat.le_of_ble_eq_true rfl) (c_X7_numberBehind a1 s.1 a2 s.2 _ hr8) (fun hz => ?_)
      refine st_istore g dX7_playAlone_64 (Nat.le_of_ble_eq_true rfl) rfl (ls2 := [.ref 0, .int a1, .int a2, .int s.1, .int r8.1]) rfl ?_
      refine st_iload g dX7_playAlone_66 rfl ?_
      refine st_aload_n g dX7_playAlone_68 rfl ?_
      refine gf_X7_72 g dX7_playAlone_69 rfl (r := 49) rfl ?_
      refine st_iconst g dX7_playAlone_72 ic_0 ?_
      refine st_iald g dX7_playAlone_73 H (fun v9 H => ?_)
      refine st_ic_le g dX7_playAlone_74 (tgt := 92) (by decide) H (fun q10 H => ?_) (fun q10 H => ?_)
      · refine st_iinc g dX7_playAlone_92 rfl (ii_1 _) (Nat.le_of_ble_eq_true rfl) rfl (ls2 := [.ref 0, .int a1, .int a2, .int (s.1 + 1), .int r8.1]) rfl ?_
        refine st_goto g dX7_playAlone_95 (tgt := 30) (by decide) ?_
        obtain rfl := Option.some.inj H
        exact (wa_drop [4] K)
      · refine st_aload_n g dX7_playAlone_77 rfl ?_
        refine gf_X7_72 g dX7_playAlone_78 rfl (r := 49) rfl ?_
        refine st_iconst g dX7_playAlone_81 ic_0 ?_
        refine st_iload g dX7_playAlone_82 rfl ?_
        refine st_iast g dX7_playAlone_84 H (fun h11 H => ?_)
        refine st_aload_n g dX7_playAlone_85 rfl ?_
        refine gf_X7_72 g dX7_playAlone_86 rfl (r := 49) rfl ?_
        refine st_iconst g dX7_playAlone_89 ic_1 ?_
        refine st_iload_n g dX7_playAlone_90 rfl ?_
        refine st_iast g dX7_playAlone_91 H (fun h12 H => ?_)
        refine st_iinc g dX7_playAlone_92 rfl (ii_1 _) (Nat.le_of_ble_eq_true rfl) rfl (ls2 := [.ref 0, .int a1, .int a2, .int (s.1 + 1), .int r8.1]) rfl ?_
        refine st_goto g dX7_playAlone_95 (tgt := 30) (by decide) ?_
        obtain rfl := Option.some.inj H
        exact (wa_drop [4] K)
    · refine st_goto g dX7_playAlone_54 (tgt := 92) (by decide) ?_
      refine st_iinc g dX7_playAlone_92 rfl (ii_1 _) (Nat.le_of_ble_eq_true rfl) rfl (ls2 := [.ref 0, .int a1, .int a2, .int (s.1 + 1), .null]) rfl ?_
      refine st_goto g dX7_playAlone_95 (tgt := 30) (by decide) ?_
      obtain rfl := Option.some.inj H
      exact K
def f_X7_playAlone (a1 : Int32) (a2 : Int32) (h : Hp) : Option Hp :=
  (f_X7_numberBehind a1 12 a2 h).bind fun r1 =>
  (wrI r1.2 49 0 r1.1).bind fun h2 =>
  (wrI h2 49 1 12).bind fun h3 =>
  if 1 ≤ a2 then
    (iter (b_X7_playAlone_30 a1 a2) FU (0, h3)).bind fun a13 =>
    some a13.2
  else
    some h3
theorem t_X7_playAlone {x : Cx} (g : Gx x RX7 cX7_playAlone 5 6) (a1 : Int32) (a2 : Int32) (h : Hp) (out : Hp) (H : f_X7_playAlone a1 a2 h = some out) (K : RtV x out) : WA x 0 [.ref 0, .int a1, .int a2, .null, .null] [] h := by
  unfold f_X7_playAlone at H
  refine st_aload_n g dX7_playAlone_0 rfl ?_
  refine gf_X7_72 g dX7_playAlone_1 rfl (r := 49) rfl ?_
  refine st_iconst g dX7_playAlone_4 ic_0 ?_
  refine st_aload_n g dX7_playAlone_5 rfl ?_
  refine st_iload_n g dX7_playAlone_6 rfl ?_
  refine st_bipush g dX7_playAlone_7 bi_12 ?_
  refine st_iload_n g dX7_playAlone_9 rfl ?_
  obtain ⟨r1, hr1, H⟩ := bind_some H
  refine st_callVI g (as := [.int a1, .int 12, .int a2]) dX7_playAlone_10 rfl rfl ml_X7_417 mf_X7_numberBehind rfl (Nat.le_of_ble_eq_true rfl) (Nat.le_of_ble_eq_true rfl) (c_X7_numberBehind a1 12 a2 h _ hr1) (fun hz => ?_)
  refine st_iast g dX7_playAlone_13 H (fun h2 H => ?_)
  refine st_aload_n g dX7_playAlone_14 rfl ?_
  refine gf_X7_72 g dX7_playAlone_15 rfl (r := 49) rfl ?_
  refine st_iconst g dX7_playAlone_18 ic_1 ?_
  refine st_bipush g dX7_playAlone_19 bi_12 ?_
  refine st_iast g dX7_playAlone_21 H (fun h3 H => ?_)
  refine st_iload_n g dX7_playAlone_22 rfl ?_
  refine st_iconst g dX7_playAlone_23 ic_1 ?_
  refine st_ic_ge g dX7_playAlone_24 (tgt := 28) (by decide) H (fun q4 H => ?_) (fun q4 H => ?_)
  · refine st_iconst g dX7_playAlone_28 ic_0 ?_
    refine st_istore_n g dX7_playAlone_29 (Nat.le_of_ble_eq_true rfl) rfl (ls2 := [.ref 0, .int a1, .int a2, .int 0, .null]) rfl ?_
    show P_X7_playAlone_30 x a1 a2 (0, h3)
    obtain ⟨a13, ha13, H⟩ := bind_some H
    refine iter_W (P := P_X7_playAlone_30 x a1 a2) (E := E_X7_playAlone_30 x a1 a2) (fun s9 o9 ho9 hK9 => tb_X7_playAlone_30 g a1 a2 s9 o9 ho9 hK9) FU _ a13 ha13 ?_
    show WA x 98 [.null, .null, .null, .null, .null] [] a13.2
    obtain rfl := Option.some.inj H
    exact st_vret g dX7_playAlone_98 K
  · obtain rfl := Option.some.inj H
    exact st_vret g dX7_playAlone_27 K
theorem c_X7_playAlone (a1 : Int32) (a2 : Int32) (h : Hp) (r : Hp) (H : f_X7_playAlone a1 a2 h = some r) : CtV yX7_playAlone cX7_playAlone 5 6 [.ref 0, .int a1, .int a2] h r :=
  ct_ofV (own := RX7) [.ref 0, .int a1, .int a2, .null, .null] (by decide +kernel) rfl (fun ρ => Nat.le_of_ble_eq_true rfl) (fun ρ => rfl) (fun x g K => t_X7_playAlone g a1 a2 h r H K)
def P_X7_drawn_66 (x : Cx) (a3 : Int32) (a4 : Int32) (a5 : Int32) (s : (Int32 × Int32 × Int32 × Hp)) : Prop := WA x 66 [.ref 0, .null, .null, .int a3, .int a4, .int a5, .int s.1, .int s.2.1, .int s.2.2.1, .null] [] s.2.2.2
def E_X7_drawn_66 (x : Cx) (a3 : Int32) (a4 : Int32) (a5 : Int32) : (Int32 × Int32 × Int32 × Hp) → Prop := fun s : (Int32 × Int32 × Int32 × Hp) => WA x 152 [.null, .null, .null, .null, .null, .null, .null, .int s.2.1, .null, .null] [] s.2.2.2
def P_X7_drawn_87 (x : Cx) (a3 : Int32) (a4 : Int32) (a5 : Int32) (a7 : Int32) (a8 : Int32) (s : (Int32 × Int32 × Hp)) : Prop := WA x 87 [.ref 0, .null, .null, .int a3, .int a4, .int a5, .int s.1, .int a7, .int a8, .int s.2.1] [] s.2.2
def E_X7_drawn_87 (x : Cx) (a3 : Int32) (a4 : Int32) (a5 : Int32) (a7 : Int32) (a8 : Int32) : (Int32 × Int32 × Hp) → Prop := fun s : (Int32 × Int32 × Hp) => WA x 117 [.ref 0, .null, .null, .int a3, .int a4, .int a5, .int s.1, .int a7, .int a8, .null] [] s.2.2
def b_X7_drawn_87 (a3 : Int32) (a4 : Int32) (a5 : Int32) (a7 : Int32) (a8 : Int32) (s : (Int32 × Int32 × Hp)) : Option ((Int32 × Int32 × Hp) ⊕ (Int32 × Int32 × Hp)) :=
  if a5 ≤ s.2.1 then
    some (.inr (s.1, s.2.1, s.2.2))
  else
    (f_X7_liveDay ((s.1 * 1103515245) + 12345) s.2.2).bind fun r11 =>
    some (.inl ((s.1 * 1103515245) + 12345, s.2.1 + 1, r11))
theorem tb_X7_drawn_87 {x : Cx} (g : Gx x RX7 cX7_drawn 10 6) (a3 : Int32) (a4 : Int32) (a5 : Int32) (a7 : Int32) (a8 : Int32) (s : (Int32 × Int32 × Hp)) (out : (Int32 × Int32 × Hp) ⊕ (Int32 × Int32 × Hp)) (H : b_X7_drawn_87 a3 a4 a5 a7 a8 s = some out) (K : Sum.elim (P_X7_drawn_87 x a3 a4 a5 a7 a8) (E_X7_drawn_87 x a3 a4 a5 a7 a8) out) : P_X7_drawn_87 x a3 a4 a5 a7 a8 s := by
  unfold b_X7_drawn_87 at H
  show WA x 87 [.ref 0, .null, .null, .int a3, .int a4, .int a5, .int s.1, .int a7, .int a8, .int s.2.1] [] s.2.2
  refine st_iload g dX7_drawn_87 rfl ?_
  refine st_iload g dX7_drawn_89 rfl ?_
  refine st_ic_ge g dX7_drawn_91 (tgt := 117) (by decide) H (fun q10 H => ?_) (fun q10 H => ?_)
  · obtain rfl := Option.some.inj H
    exact (wa_drop [9] K)
  · refine st_iload g dX7_drawn_94 rfl ?_
    refine st_ldc g dX7_drawn_96 kc_X7_255 ?_
    refine st_imul g dX7_drawn_98 ?_
    refine st_sipush g dX7_drawn_99 si_12345 ?_
    refine st_iadd g dX7_drawn_102 ?_
    refine st_istore g dX7_drawn_103 (Nat.le_of_ble_eq_true rfl) rfl (ls2 := [.ref 0, .null, .null, .int a3, .int a4, .int a5, .int ((s.1 * 1103515245) + 12345), .int a7, .int a8, .int s.2.1]) rfl ?_
    refine st_aload_n g dX7_drawn_105 rfl ?_
    refine st_iload g dX7_drawn_106 rfl ?_
    obtain ⟨r11, hr11, H⟩ := bind_some H
    refine st_callVV g (as := [.int ((s.1 * 1103515245) + 12345)]) dX7_drawn_108 rfl rfl ml_X7_256 mf_X7_liveDay rfl (Nat.le_of_ble_eq_true rfl) (Nat.le_of_ble_eq_true rfl) (c_X7_liveDay ((s.1 * 1103515245) + 12345) s.2.2 _ hr11) ?_
    refine st_iinc g dX7_drawn_111 rfl (ii_1 _) (Nat.le_of_ble_eq_true rfl) rfl (ls2 := [.ref 0, .null, .null, .int a3, .int a4, .int a5, .int ((s.1 * 1103515245) + 12345), .int a7, .int a8, .int (s.2.1 + 1)]) rfl ?_
    refine st_goto g dX7_drawn_114 (tgt := 87) (by decide) ?_
    obtain rfl := Option.some.inj H
    exact K
def b_X7_drawn_66 (a3 : Int32) (a4 : Int32) (a5 : Int32) (s : (Int32 × Int32 × Int32 × Hp)) : Option ((Int32 × Int32 × Int32 × Hp) ⊕ (Int32 × Int32 × Int32 × Hp)) :=
  if a4 ≤ s.2.2.1 then
    some (.inr (s.1, s.2.1, s.2.2.1, s.2.2.2))
  else
    (f_X5_become 17 13 s.2.2.2).bind fun r9 =>
    (iter (b_X7_drawn_87 a3 a4 a5 s.2.1 s.2.2.1) FU (s.1, 0, r9)).bind fun a12 =>
    if a3 = (-1) then
      (f_X5_total 17 a12.2.2).bind fun r15 =>
      some (.inl (a12.1, s.2.1 + r15, s.2.2.1 + 1, a12.2.2))
    else
      (rdI a12.2.2 18 a3).bind fun v14 =>
      some (.inl (a12.1, s.2.1 + v14, s.2.2.1 + 1, a12.2.2))
theorem tb_X7_drawn_66 {x : Cx} (g : Gx x RX7 cX7_drawn 10 6) (a3 : Int32) (a4 : Int32) (a5 : Int32) (s : (Int32 × Int32 × Int32 × Hp)) (out : (Int32 × Int32 × Int32 × Hp) ⊕ (Int32 × Int32 × Int32 × Hp)) (H : b_X7_drawn_66 a3 a4 a5 s = some out) (K : Sum.elim (P_X7_drawn_66 x a3 a4 a5) (E_X7_drawn_66 x a3 a4 a5) out) : P_X7_drawn_66 x a3 a4 a5 s := by
  unfold b_X7_drawn_66 at H
  show WA x 66 [.ref 0, .null, .null, .int a3, .int a4, .int a5, .int s.1, .int s.2.1, .int s.2.2.1, .null] [] s.2.2.2
  refine st_iload g dX7_drawn_66 rfl ?_
  refine st_iload g dX7_drawn_68 rfl ?_
  refine st_ic_ge g dX7_drawn_70 (tgt := 152) (by decide) H (fun q8 H => ?_) (fun q8 H => ?_)
  · obtain rfl := Option.some.inj H
    exact (wa_drop [0, 3, 4, 5, 6, 8] K)
  · refine st_aload_n g dX7_drawn_73 rfl ?_
    refine gf_X7_30 g dX7_drawn_74 rfl (r := 17) rfl ?_
    refine st_aload_n g dX7_drawn_77 rfl ?_
    refine gf_X7_26 g dX7_drawn_78 rfl (r := 13) rfl ?_
    obtain ⟨r9, hr9, H⟩ := bind_some H
    refine st_callVV g (as := [.ref 13]) dX7_drawn_81 rfl rfl ml_X7_187 mf_X5_become rfl (Nat.le_of_ble_eq_true rfl) (Nat.le_of_ble_eq_true rfl) (c_X5_become 17 13 s.2.2.2 _ hr9) ?_
    refine st_iconst g dX7_drawn_84 ic_0 ?_
    refine st_istore g dX7_drawn_85 (Nat.le_of_ble_eq_true rfl) rfl (ls2 := [.ref 0, .null, .null, .int a3, .int a4, .int a5, .int s.1, .int s.2.1, .int s.2.2.1, .int 0]) rfl ?_
    show P_X7_drawn_87 x a3 a4 a5 s.2.1 s.2.2.1 (s.1, 0, r9)
    obtain ⟨a12, ha12, H⟩ := bind_some H
    refine iter_W (P := P_X7_drawn_87 x a3 a4 a5 s.2.1 s.2.2.1) (E := E_X7_drawn_87 x a3 a4 a5 s.2.1 s.2.2.1) (fun s9 o9 ho9 hK9 => tb_X7_drawn_87 g a3 a4 a5 s.2.1 s.2.2.1 s9 o9 ho9 hK9) FU _ a12 ha12 ?_
    show WA x 117 [.ref 0, .null, .null, .int a3, .int a4, .int a5, .int a12.1, .int s.2.1, .int s.2.2.1, .null] [] a12.2.2
    refine st_iload g dX7_drawn_117 rfl ?_
    refine st_iload_n g dX7_drawn_119 rfl ?_
    refine st_iconst g dX7_drawn_120 ic_m1 ?_
    refine st_ic_ne g dX7_drawn_121 (tgt := 134) (by decide) H (fun q13 H => ?_) (fun q13 H => ?_)
    · refine st_aload_n g dX7_drawn_134 rfl ?_
      refine gf_X7_30 g dX7_drawn_135 rfl (r := 17) rfl ?_
      refine gf_X7_169 g dX7_drawn_138 rfl (r := 18) rfl ?_
      refine st_iload_n g dX7_drawn_141 rfl ?_
      refine st_iald g dX7_drawn_142 H (fun v14 H => ?_)
      refine st_iadd g dX7_drawn_143 ?_
      refine st_istore g dX7_drawn_144 (Nat.le_of_ble_eq_true rfl) rfl (ls2 := [.ref 0, .null, .null, .int a3, .int a4, .int a5, .int a12.1, .int (s.2.1 + v14), .int s.2.2.1, .null]) rfl ?_
      refine st_iinc g dX7_drawn_146 rfl (ii_1 _) (Nat.le_of_ble_eq_true rfl) rfl (ls2 := [.ref 0, .null, .null, .int a3, .int a4, .int a5, .int a12.1, .int (s.2.1 + v14), .int (s.2.2.1 + 1), .null]) rfl ?_
      refine st_goto g dX7_drawn_149 (tgt := 66) (by decide) ?_
      obtain rfl := Option.some.inj H
      exact K
    · refine st_aload_n g dX7_drawn_124 rfl ?_
      refine gf_X7_30 g dX7_drawn_125 rfl (r := 17) rfl ?_
      obtain ⟨r15, hr15, H⟩ := bind_some H
      refine st_callVI g (as := []) dX7_drawn_128 rfl rfl ml_X7_175 mf_X5_total rfl (Nat.le_of_ble_eq_true rfl) (Nat.le_of_ble_eq_true rfl) (c_X5_total 17 a12.2.2 _ hr15) (fun hz => ?_)
      refine st_goto g dX7_drawn_131 (tgt := 143) (by decide) ?_
      refine st_iadd g dX7_drawn_143 ?_
      refine st_istore g dX7_drawn_144 (Nat.le_of_ble_eq_true rfl) rfl (ls2 := [.ref 0, .null, .null, .int a3, .int a4, .int a5, .int a12.1, .int (s.2.1 + r15), .int s.2.2.1, .null]) rfl ?_
      refine st_iinc g dX7_drawn_146 rfl (ii_1 _) (Nat.le_of_ble_eq_true rfl) rfl (ls2 := [.ref 0, .null, .null, .int a3, .int a4, .int a5, .int a12.1, .int (s.2.1 + r15), .int (s.2.2.1 + 1), .null]) rfl ?_
      refine st_goto g dX7_drawn_149 (tgt := 66) (by decide) ?_
      obtain rfl := Option.some.inj H
      exact K
def f_X7_drawn (a1 : Int32) (a2 : Int32) (a3 : Int32) (h : Hp) : Option (Int32 × Hp) :=
  if a2 < 0 then
    some ((-1), h)
  else
    if a3 < (-1) then
      some ((-1), h)
    else
      if a3 < 12 then
        if (a2 / 100) < 1 then
          some ((-1), h)
        else
          if 30 < (a2 / 100) then
            some ((-1), h)
          else
            if (a2 % 100) < 1 then
              some ((-1), h)
            else
              if (a2 % 100) ≤ 40 then
                (iter (b_X7_drawn_66 a3 (a2 / 100) (a2 % 100)) FU (a1, 0, 0, h)).bind fun a16 =>
                some (a16.2.1, a16.2.2.2)
              else
                some ((-1), h)
      else
        some ((-1), h)
theorem t_X7_drawn {x : Cx} (g : Gx x RX7 cX7_drawn 10 6) (a1 : Int32) (a2 : Int32) (a3 : Int32) (h : Hp) (out : (Int32 × Hp)) (H : f_X7_drawn a1 a2 a3 h = some out) (K : RtI x .int out.1 out.2) : WA x 0 [.ref 0, .int a1, .int a2, .int a3, .null, .null, .null, .null, .null, .null] [] h := by
  unfold f_X7_drawn at H
  refine st_iload_n g dX7_drawn_0 rfl ?_
  refine st_if_lt g dX7_drawn_1 (tgt := 15) (by decide) H (fun q1 H => ?_) (fun q1 H => ?_)
  · refine st_iconst g dX7_drawn_15 ic_m1 ?_
    obtain rfl := Option.some.inj H
    exact st_iret g dX7_drawn_16 rfl (fun q => by cases q) K
  · refine st_iload_n g dX7_drawn_4 rfl ?_
    refine st_iconst g dX7_drawn_5 ic_m1 ?_
    refine st_ic_lt g dX7_drawn_6 (tgt := 15) (by decide) H (fun q2 H => ?_) (fun q2 H => ?_)
    · refine st_iconst g dX7_drawn_15 ic_m1 ?_
      obtain rfl := Option.some.inj H
      exact st_iret g dX7_drawn_16 rfl (fun q => by cases q) K
    · refine st_iload_n g dX7_drawn_9 rfl ?_
      refine st_bipush g dX7_drawn_10 bi_12 ?_
      refine st_ic_lt g dX7_drawn_12 (tgt := 17) (by decide) H (fun q3 H => ?_) (fun q3 H => ?_)
      · refine st_iload_n g dX7_drawn_17 rfl ?_
        refine st_bipush g dX7_drawn_18 bi_100 ?_
        refine st_idiv g dX7_drawn_20 (by decide) ?_
        refine st_istore g dX7_drawn_21 (Nat.le_of_ble_eq_true rfl) rfl (ls2 := [.ref 0, .int a1, .int a2, .int a3, .int (a2 / 100), .null, .null, .null, .null, .null]) rfl ?_
        refine st_iload_n g dX7_drawn_23 rfl ?_
        refine st_bipush g dX7_drawn_24 bi_100 ?_
        refine st_irem g dX7_drawn_26 (by decide) ?_
        refine st_istore g dX7_drawn_27 (Nat.le_of_ble_eq_true rfl) rfl (ls2 := [.ref 0, .int a1, .int a2, .int a3, .int (a2 / 100), .int (a2 % 100), .null, .null, .null, .null]) rfl ?_
        refine st_iload g dX7_drawn_29 rfl ?_
        refine st_iconst g dX7_drawn_31 ic_1 ?_
        refine st_ic_lt g dX7_drawn_32 (tgt := 55) (by decide) H (fun q4 H => ?_) (fun q4 H => ?_)
        · refine st_iconst g dX7_drawn_55 ic_m1 ?_
          obtain rfl := Option.some.inj H
          exact st_iret g dX7_drawn_56 rfl (fun q => by cases q) K
        · refine st_iload g dX7_drawn_35 rfl ?_
          refine st_bipush g dX7_drawn_37 bi_30 ?_
          refine st_ic_gt g dX7_drawn_39 (tgt := 55) (by decide) H (fun q5 H => ?_) (fun q5 H => ?_)
          · refine st_iconst g dX7_drawn_55 ic_m1 ?_
            obtain rfl := Option.some.inj H
            exact st_iret g dX7_drawn_56 rfl (fun q => by cases q) K
          · refine st_iload g dX7_drawn_42 rfl ?_
            refine st_iconst g dX7_drawn_44 ic_1 ?_
            refine st_ic_lt g dX7_drawn_45 (tgt := 55) (by decide) H (fun q6 H => ?_) (fun q6 H => ?_)
            · refine st_iconst g dX7_drawn_55 ic_m1 ?_
              obtain rfl := Option.some.inj H
              exact st_iret g dX7_drawn_56 rfl (fun q => by cases q) K
            · refine st_iload g dX7_drawn_48 rfl ?_
              refine st_bipush g dX7_drawn_50 bi_40 ?_
              refine st_ic_le g dX7_drawn_52 (tgt := 57) (by decide) H (fun q7 H => ?_) (fun q7 H => ?_)
              · refine st_iload_n g dX7_drawn_57 rfl ?_
                refine st_istore g dX7_drawn_58 (Nat.le_of_ble_eq_true rfl) rfl (ls2 := [.ref 0, .int a1, .int a2, .int a3, .int (a2 / 100), .int (a2 % 100), .int a1, .null, .null, .null]) rfl ?_
                refine st_iconst g dX7_drawn_60 ic_0 ?_
                refine st_istore g dX7_drawn_61 (Nat.le_of_ble_eq_true rfl) rfl (ls2 := [.ref 0, .int a1, .int a2, .int a3, .int (a2 / 100), .int (a2 % 100), .int a1, .int 0, .null, .null]) rfl ?_
                refine st_iconst g dX7_drawn_63 ic_0 ?_
                refine st_istore g dX7_drawn_64 (Nat.le_of_ble_eq_true rfl) rfl (ls2 := [.ref 0, .int a1, .int a2, .int a3, .int (a2 / 100), .int (a2 % 100), .int a1, .int 0, .int 0, .null]) rfl ?_
                refine wa_drop [1, 2] ?_
                show P_X7_drawn_66 x a3 (a2 / 100) (a2 % 100) (a1, 0, 0, h)
                obtain ⟨a16, ha16, H⟩ := bind_some H
                refine iter_W (P := P_X7_drawn_66 x a3 (a2 / 100) (a2 % 100)) (E := E_X7_drawn_66 x a3 (a2 / 100) (a2 % 100)) (fun s9 o9 ho9 hK9 => tb_X7_drawn_66 g a3 (a2 / 100) (a2 % 100) s9 o9 ho9 hK9) FU _ a16 ha16 ?_
                show WA x 152 [.null, .null, .null, .null, .null, .null, .null, .int a16.2.1, .null, .null] [] a16.2.2.2
                refine st_iload g dX7_drawn_152 rfl ?_
                obtain rfl := Option.some.inj H
                exact st_iret g dX7_drawn_154 rfl (fun q => by cases q) K
              · refine st_iconst g dX7_drawn_55 ic_m1 ?_
                obtain rfl := Option.some.inj H
                exact st_iret g dX7_drawn_56 rfl (fun q => by cases q) K
      · refine st_iconst g dX7_drawn_15 ic_m1 ?_
        obtain rfl := Option.some.inj H
        exact st_iret g dX7_drawn_16 rfl (fun q => by cases q) K
theorem c_X7_drawn (a1 : Int32) (a2 : Int32) (a3 : Int32) (h : Hp) (r : (Int32 × Hp)) (H : f_X7_drawn a1 a2 a3 h = some r) : CtI yX7_drawn cX7_drawn 10 .int 6 [.ref 0, .int a1, .int a2, .int a3] h r.1 r.2 :=
  ct_ofI (own := RX7) [.ref 0, .int a1, .int a2, .int a3, .null, .null, .null, .null, .null, .null] (by decide +kernel) rfl (fun ρ => Nat.le_of_ble_eq_true rfl) (fun ρ => rfl) (fun x g K => t_X7_drawn g a1 a2 a3 h r H K)
def P_X8_goes_17 (x : Cx) (a1 : Int32) (a4 : Int32) (s : (Int32 × Int32 × Hp)) : Prop := WA x 17 [.ref 53, .int a1, .null, .int s.1, .int a4, .int s.2.1] [] s.2.2
def E_X8_goes_17 (x : Cx) (a1 : Int32) (a4 : Int32) : (Int32 × Int32 × Hp) → Prop := fun s : (Int32 × Int32 × Hp) => WA x 66 [.null, .null, .null, .int s.1, .null, .null] [] s.2.2
def b_X8_goes_17 (a1 : Int32) (a4 : Int32) (s : (Int32 × Int32 × Hp)) : Option ((Int32 × Int32 × Hp) ⊕ (Int32 × Int32 × Hp)) :=
  if a4 ≤ s.2.1 then
    some (.inr (s.1, s.2.1, s.2.2))
  else
    (f_X8_toldAt a1 s.2.1 s.2.2).bind fun r3 =>
    (f_X8_toldAt a1 s.2.1 s.2.2).bind fun r4 =>
    (f_X8_calls (r3 / 12) (r4 % 12) s.2.2).bind fun r5 =>
    if r5.1 = 0 then
      if s.1 = (-2) then
        some (.inl (s.2.1, s.2.1 + 1, r5.2))
      else
        some (.inl (s.1, s.2.1 + 1, r5.2))
    else
      some (.inl (s.1, s.2.1 + 1, r5.2))
theorem tb_X8_goes_17 {x : Cx} (g : Gx x RX8 cX8_goes 6 6) (a1 : Int32) (a4 : Int32) (s : (Int32 × Int32 × Hp)) (out : (Int32 × Int32 × Hp) ⊕ (Int32 × Int32 × Hp)) (H : b_X8_goes_17 a1 a4 s = some out) (K : Sum.elim (P_X8_goes_17 x a1 a4) (E_X8_goes_17 x a1 a4) out) : P_X8_goes_17 x a1 a4 s := by
  unfold b_X8_goes_17 at H
  show WA x 17 [.ref 53, .int a1, .null, .int s.1, .int a4, .int s.2.1] [] s.2.2
  refine st_iload g dX8_goes_17 rfl ?_
  refine st_iload g dX8_goes_19 rfl ?_
  refine st_ic_ge g dX8_goes_21 (tgt := 66) (by decide) H (fun q2 H => ?_) (fun q2 H => ?_)
  · obtain rfl := Option.some.inj H
    exact (wa_drop [0, 1, 4, 5] K)
  · refine st_aload_n g dX8_goes_24 rfl ?_
    refine st_aload_n g dX8_goes_25 rfl ?_
    refine st_iload_n g dX8_goes_26 rfl ?_
    refine st_iload g dX8_goes_27 rfl ?_
    obtain ⟨r3, hr3, H⟩ := bind_some H
    refine st_callVI g (as := [.int a1, .int s.2.1]) dX8_goes_29 rfl rfl ml_X8_142 mf_X8_toldAt rfl (Nat.le_of_ble_eq_true rfl) (Nat.le_of_ble_eq_true rfl) (c_X8_toldAt a1 s.2.1 s.2.2 _ hr3) (fun hz => ?_)
    refine st_bipush g dX8_goes_32 bi_12 ?_
    refine st_idiv g dX8_goes_34 (by decide) ?_
    refine st_aload_n g dX8_goes_35 rfl ?_
    refine st_iload_n g dX8_goes_36 rfl ?_
    refine st_iload g dX8_goes_37 rfl ?_
    obtain ⟨r4, hr4, H⟩ := bind_some H
    refine st_callVI g (as := [.int a1, .int s.2.1]) dX8_goes_39 rfl rfl ml_X8_142 mf_X8_toldAt rfl (Nat.le_of_ble_eq_true rfl) (Nat.le_of_ble_eq_true rfl) (c_X8_toldAt a1 s.2.1 s.2.2 _ hr4) (fun hz => ?_)
    refine st_bipush g dX8_goes_42 bi_12 ?_
    refine st_irem g dX8_goes_44 (by decide) ?_
    obtain ⟨r5, hr5, H⟩ := bind_some H
    refine st_callVI g (as := [.int (r3 / 12), .int (r4 % 12)]) dX8_goes_45 rfl rfl ml_X8_260 mf_X8_calls rfl (Nat.le_of_ble_eq_true rfl) (Nat.le_of_ble_eq_true rfl) (c_X8_calls (r3 / 12) (r4 % 12) s.2.2 _ hr5) (fun hz => ?_)
    refine st_if_ne g dX8_goes_48 (tgt := 60) (by decide) H (fun q6 H => ?_) (fun q6 H => ?_)
    · refine st_iinc g dX8_goes_60 rfl (ii_1 _) (Nat.le_of_ble_eq_true rfl) rfl (ls2 := [.ref 53, .int a1, .null, .int s.1, .int a4, .int (s.2.1 + 1)]) rfl ?_
      refine st_goto g dX8_goes_63 (tgt := 17) (by decide) ?_
      obtain rfl := Option.some.inj H
      exact K
    · refine st_iload_n g dX8_goes_51 rfl ?_
      refine st_bipush g dX8_goes_52 bi_m2 ?_
      refine st_ic_ne g dX8_goes_54 (tgt := 60) (by decide) H (fun q7 H => ?_) (fun q7 H => ?_)
      · refine st_iinc g dX8_goes_60 rfl (ii_1 _) (Nat.le_of_ble_eq_true rfl) rfl (ls2 := [.ref 53, .int a1, .null, .int s.1, .int a4, .int (s.2.1 + 1)]) rfl ?_
        refine st_goto g dX8_goes_63 (tgt := 17) (by decide) ?_
        obtain rfl := Option.some.inj H
        exact K
      · refine st_iload g dX8_goes_57 rfl ?_
        refine st_istore_n g dX8_goes_59 (Nat.le_of_ble_eq_true rfl) rfl (ls2 := [.ref 53, .int a1, .null, .int s.2.1, .int a4, .int s.2.1]) rfl ?_
        refine st_iinc g dX8_goes_60 rfl (ii_1 _) (Nat.le_of_ble_eq_true rfl) rfl (ls2 := [.ref 53, .int a1, .null, .int s.2.1, .int a4, .int (s.2.1 + 1)]) rfl ?_
        refine st_goto g dX8_goes_63 (tgt := 17) (by decide) ?_
        obtain rfl := Option.some.inj H
        exact K
def f_X8_goes (a1 : Int32) (a2 : Int32) (h : Hp) : Option (Int32 × Hp) :=
  (f_X8_callsOf a1 h).bind fun r1 =>
  (iter (b_X8_goes_17 a1 (mnI a2 r1)) FU ((-2), 0, h)).bind fun a8 =>
  some (a8.1, a8.2.2)
theorem t_X8_goes {x : Cx} (g : Gx x RX8 cX8_goes 6 6) (a1 : Int32) (a2 : Int32) (h : Hp) (out : (Int32 × Hp)) (H : f_X8_goes a1 a2 h = some out) (K : RtI x .int out.1 out.2) : WA x 0 [.ref 53, .int a1, .int a2, .null, .null, .null] [] h := by
  unfold f_X8_goes at H
  refine st_bipush g dX8_goes_0 bi_m2 ?_
  refine st_istore_n g dX8_goes_2 (Nat.le_of_ble_eq_true rfl) rfl (ls2 := [.ref 53, .int a1, .int a2, .int (-2), .null, .null]) rfl ?_
  refine st_iload_n g dX8_goes_3 rfl ?_
  refine st_aload_n g dX8_goes_4 rfl ?_
  refine st_iload_n g dX8_goes_5 rfl ?_
  obtain ⟨r1, hr1, H⟩ := bind_some H
  refine st_callVI g (as := [.int a1]) dX8_goes_6 rfl rfl ml_X8_257 mf_X8_callsOf rfl (Nat.le_of_ble_eq_true rfl) (Nat.le_of_ble_eq_true rfl) (c_X8_callsOf a1 h _ hr1) (fun hz => ?_)
  refine st_min g dX8_goes_9 ml_X8_251 (Nat.le_of_ble_eq_true rfl) (Nat.le_of_ble_eq_true rfl) ?_
  refine st_istore g dX8_goes_12 (Nat.le_of_ble_eq_true rfl) rfl (ls2 := [.ref 53, .int a1, .int a2, .int (-2), .int (mnI a2 r1), .null]) rfl ?_
  refine st_iconst g dX8_goes_14 ic_0 ?_
  refine st_istore g dX8_goes_15 (Nat.le_of_ble_eq_true rfl) rfl (ls2 := [.ref 53, .int a1, .int a2, .int (-2), .int (mnI a2 r1), .int 0]) rfl ?_
  refine wa_drop [2] ?_
  show P_X8_goes_17 x a1 (mnI a2 r1) ((-2), 0, h)
  obtain ⟨a8, ha8, H⟩ := bind_some H
  refine iter_W (P := P_X8_goes_17 x a1 (mnI a2 r1)) (E := E_X8_goes_17 x a1 (mnI a2 r1)) (fun s9 o9 ho9 hK9 => tb_X8_goes_17 g a1 (mnI a2 r1) s9 o9 ho9 hK9) FU _ a8 ha8 ?_
  show WA x 66 [.null, .null, .null, .int a8.1, .null, .null] [] a8.2.2
  refine st_iload_n g dX8_goes_66 rfl ?_
  obtain rfl := Option.some.inj H
  exact st_iret g dX8_goes_67 rfl (fun q => by cases q) K
theorem c_X8_goes (a1 : Int32) (a2 : Int32) (h : Hp) (r : (Int32 × Hp)) (H : f_X8_goes a1 a2 h = some r) : CtI yX8_goes cX8_goes 6 .int 6 [.ref 53, .int a1, .int a2] h r.1 r.2 :=
  ct_ofI (own := RX8) [.ref 53, .int a1, .int a2, .null, .null, .null] (by decide +kernel) rfl (fun ρ => Nat.le_of_ble_eq_true rfl) (fun ρ => rfl) (fun x g K => t_X8_goes g a1 a2 h r H K)
def P_X8_all_19 (x : Cx) (a1 : Int32) (s : (Int32 × Hp)) : Prop := WA x 19 [.ref 53, .int a1, .int s.1] [] s.2
def E_X8_all_19 (x : Cx) (a1 : Int32) : (Int32 × Hp) → Prop := fun s : (Int32 × Hp) => WA x 40 [.ref 53, .int a1, .null] [] s.2
def b_X8_all_19 (a1 : Int32) (s : (Int32 × Hp)) : Option ((Int32 × Hp) ⊕ (Int32 × Hp)) :=
  if (s.2.1 53 4) ≤ s.1 then
    some (.inr (s.1, s.2))
  else
    (f_X8_calls s.1 a1 s.2).bind fun r5 =>
    some (.inl (s.1 + 1, r5.2))
theorem tb_X8_all_19 {x : Cx} (g : Gx x RX8 cX8_all 3 6) (a1 : Int32) (s : (Int32 × Hp)) (out : (Int32 × Hp) ⊕ (Int32 × Hp)) (H : b_X8_all_19 a1 s = some out) (K : Sum.elim (P_X8_all_19 x a1) (E_X8_all_19 x a1) out) : P_X8_all_19 x a1 s := by
  unfold b_X8_all_19 at H
  show WA x 19 [.ref 53, .int a1, .int s.1] [] s.2
  refine st_iload_n g dX8_all_19 rfl ?_
  refine st_aload_n g dX8_all_20 rfl ?_
  refine gf_X8_117 g dX8_all_21 rfl ?_
  refine st_ic_ge g dX8_all_24 (tgt := 40) (by decide) H (fun q4 H => ?_) (fun q4 H => ?_)
  · obtain rfl := Option.some.inj H
    exact (wa_drop [2] K)
  · refine st_aload_n g dX8_all_27 rfl ?_
    refine st_iload_n g dX8_all_28 rfl ?_
    refine st_iload_n g dX8_all_29 rfl ?_
    obtain ⟨r5, hr5, H⟩ := bind_some H
    refine st_callVI g (as := [.int s.1, .int a1]) dX8_all_30 rfl rfl ml_X8_260 mf_X8_calls rfl (Nat.le_of_ble_eq_true rfl) (Nat.le_of_ble_eq_true rfl) (c_X8_calls s.1 a1 s.2 _ hr5) (fun hz => ?_)
    refine st_pop g dX8_all_33 rfl ?_
    refine st_iinc g dX8_all_34 rfl (ii_1 _) (Nat.le_of_ble_eq_true rfl) rfl (ls2 := [.ref 53, .int a1, .int (s.1 + 1)]) rfl ?_
    refine st_goto g dX8_all_37 (tgt := 19) (by decide) ?_
    obtain rfl := Option.some.inj H
    exact K
def f_X8_all (a1 : Int32) (h : Hp) : Option (Int32 × Hp) :=
  (f_X8_isHouse a1).bind fun r1 =>
  if r1 = 0 then
    some ((-1), h)
  else
    (f_X8_keeps 82 h).bind fun r3 =>
    (iter (b_X8_all_19 a1) FU (0, r3)).bind fun a6 =>
    (rdI a6.2 54 a1).bind fun v7 =>
    (f_X8_laysBack 82 a6.2).bind fun r8 =>
    some (v7, r8)
theorem t_X8_all {x : Cx} (g : Gx x RX8 cX8_all 3 6) (a1 : Int32) (h : Hp) (out : (Int32 × Hp)) (H : f_X8_all a1 h = some out) (K : RtI x .int out.1 out.2) : WA x 0 [.ref 53, .int a1, .null] [] h := by
  unfold f_X8_all at H
  refine st_iload_n g dX8_all_0 rfl ?_
  obtain ⟨r1, hr1, H⟩ := bind_some H
  refine st_callSI g (as := [.int a1]) dX8_all_1 ml_X8_120 mf_X8_isHouse rfl (Nat.le_of_ble_eq_true rfl) (Nat.le_of_ble_eq_true rfl) (c_X8_isHouse a1 h _ hr1) (fun hz => ?_)
  have br1 := hz rfl
  refine st_if_ne g dX8_all_4 (tgt := 9) (by decide) H (fun q2 H => ?_) (fun q2 H => ?_)
  · refine st_aload_n g dX8_all_9 rfl ?_
    refine st_aload_n g dX8_all_10 rfl ?_
    refine gf_X8_97 g dX8_all_11 rfl (r := 82) rfl ?_
    obtain ⟨r3, hr3, H⟩ := bind_some H
    refine st_callVV g (as := [.ref 82]) dX8_all_14 rfl rfl ml_X8_266 mf_X8_keeps rfl (Nat.le_of_ble_eq_true rfl) (Nat.le_of_ble_eq_true rfl) (c_X8_keeps 82 h _ hr3) ?_
    refine st_iconst g dX8_all_17 ic_0 ?_
    refine st_istore_n g dX8_all_18 (Nat.le_of_ble_eq_true rfl) rfl (ls2 := [.ref 53, .int a1, .int 0]) rfl ?_
    show P_X8_all_19 x a1 (0, r3)
    obtain ⟨a6, ha6, H⟩ := bind_some H
    refine iter_W (P := P_X8_all_19 x a1) (E := E_X8_all_19 x a1) (fun s9 o9 ho9 hK9 => tb_X8_all_19 g a1 s9 o9 ho9 hK9) FU _ a6 ha6 ?_
    show WA x 40 [.ref 53, .int a1, .null] [] a6.2
    refine st_aload_n g dX8_all_40 rfl ?_
    refine gf_X8_9 g dX8_all_41 rfl (r := 54) rfl ?_
    refine st_iload_n g dX8_all_44 rfl ?_
    refine st_iald g dX8_all_45 H (fun v7 H => ?_)
    refine st_istore_n g dX8_all_46 (Nat.le_of_ble_eq_true rfl) rfl (ls2 := [.ref 53, .int a1, .int v7]) rfl ?_
    refine st_aload_n g dX8_all_47 rfl ?_
    refine st_aload_n g dX8_all_48 rfl ?_
    refine gf_X8_97 g dX8_all_49 rfl (r := 82) rfl ?_
    obtain ⟨r8, hr8, H⟩ := bind_some H
    refine st_callVV g (as := [.ref 82]) dX8_all_52 rfl rfl ml_X8_273 mf_X8_laysBack rfl (Nat.le_of_ble_eq_true rfl) (Nat.le_of_ble_eq_true rfl) (c_X8_laysBack 82 a6.2 _ hr8) ?_
    refine st_iload_n g dX8_all_55 rfl ?_
    obtain rfl := Option.some.inj H
    exact st_iret g dX8_all_56 rfl (fun q => by cases q) K
  · refine st_iconst g dX8_all_7 ic_m1 ?_
    obtain rfl := Option.some.inj H
    exact st_iret g dX8_all_8 rfl (fun q => by cases q) K
theorem c_X8_all (a1 : Int32) (h : Hp) (r : (Int32 × Hp)) (H : f_X8_all a1 h = some r) : CtI yX8_all cX8_all 3 .int 6 [.ref 53, .int a1] h r.1 r.2 :=
  ct_ofI (own := RX8) [.ref 53, .int a1, .null] (by decide +kernel) rfl (fun ρ => Nat.le_of_ble_eq_true rfl) (fun ρ => rfl) (fun x g K => t_X8_all g a1 h r H K)
def P_X8_evening_18 (x : Cx) (a1 : Int32) (s : (Int32 × Int32 × Int32 × Hp)) : Prop := WA x 18 [.ref 53, .int a1, .int s.1, .int s.2.1, .int s.2.2.1, .null] [] s.2.2.2
def E_X8_evening_18 (x : Cx) (a1 : Int32) : (Int32 × Int32 × Int32 × Hp) → Prop := fun s : (Int32 × Int32 × Int32 × Hp) => WA x 76 [.null, .int a1, .int s.1, .int s.2.1, .null, .null] [] s.2.2.2
def b_X8_evening_18 (a1 : Int32) (s : (Int32 × Int32 × Int32 × Hp)) : Option ((Int32 × Int32 × Int32 × Hp) ⊕ (Int32 × Int32 × Int32 × Hp)) :=
  if ((1 : Int32) <<< ((s.2.2.2.1 53 4) &&& 31)) ≤ s.2.2.1 then
    some (.inr (s.1, s.2.1, s.2.2.1, s.2.2.2))
  else
    (f_X8_atOnce s.2.2.1 s.2.2.2).bind fun r4 =>
    if r4.1 < s.2.1 then
      some (.inl (s.1, s.2.1, s.2.2.1 + 1, r4.2))
    else
      if r4.1 = s.2.1 then
        (f_J6_bitCount_0f7a4 s.2.2.1).bind fun r7 =>
        (f_J6_bitCount_0f7a4 s.1).bind fun r8 =>
        if r7 < r8 then
          some (.inl (s.2.2.1, r4.1, s.2.2.1 + 1, r4.2))
        else
          some (.inl (s.1, s.2.1, s.2.2.1 + 1, r4.2))
      else
        some (.inl (s.2.2.1, r4.1, s.2.2.1 + 1, r4.2))
theorem tb_X8_evening_18 {x : Cx} (g : Gx x RX8 cX8_evening 6 6) (a1 : Int32) (s : (Int32 × Int32 × Int32 × Hp)) (out : (Int32 × Int32 × Int32 × Hp) ⊕ (Int32 × Int32 × Int32 × Hp)) (H : b_X8_evening_18 a1 s = some out) (K : Sum.elim (P_X8_evening_18 x a1) (E_X8_evening_18 x a1) out) : P_X8_evening_18 x a1 s := by
  unfold b_X8_evening_18 at H
  show WA x 18 [.ref 53, .int a1, .int s.1, .int s.2.1, .int s.2.2.1, .null] [] s.2.2.2
  refine st_iload g dX8_evening_18 rfl ?_
  refine st_iconst g dX8_evening_20 ic_1 ?_
  refine st_aload_n g dX8_evening_21 rfl ?_
  refine gf_X8_117 g dX8_evening_22 rfl ?_
  refine st_ishl g dX8_evening_25 ?_
  refine st_ic_ge g dX8_evening_26 (tgt := 76) (by decide) H (fun q3 H => ?_) (fun q3 H => ?_)
  · obtain rfl := Option.some.inj H
    exact (wa_drop [0, 4] K)
  · refine st_aload_n g dX8_evening_29 rfl ?_
    refine st_iload g dX8_evening_30 rfl ?_
    obtain ⟨r4, hr4, H⟩ := bind_some H
    refine st_callVI g (as := [.int s.2.2.1]) dX8_evening_32 rfl rfl ml_X8_299 mf_X8_atOnce rfl (Nat.le_of_ble_eq_true rfl) (Nat.le_of_ble_eq_true rfl) (c_X8_atOnce s.2.2.1 s.2.2.2 _ hr4) (fun hz => ?_)
    refine st_istore g dX8_evening_35 (Nat.le_of_ble_eq_true rfl) rfl (ls2 := [.ref 53, .int a1, .int s.1, .int s.2.1, .int s.2.2.1, .int r4.1]) rfl ?_
    refine st_iload g dX8_evening_37 rfl ?_
    refine st_iload_n g dX8_evening_39 rfl ?_
    refine st_ic_lt g dX8_evening_40 (tgt := 70) (by decide) H (fun q5 H => ?_) (fun q5 H => ?_)
    · refine st_iinc g dX8_evening_70 rfl (ii_1 _) (Nat.le_of_ble_eq_true rfl) rfl (ls2 := [.ref 53, .int a1, .int s.1, .int s.2.1, .int (s.2.2.1 + 1), .int r4.1]) rfl ?_
      refine st_goto g dX8_evening_73 (tgt := 18) (by decide) ?_
      obtain rfl := Option.some.inj H
      exact (wa_drop [5] K)
    · refine st_iload g dX8_evening_43 rfl ?_
      refine st_iload_n g dX8_evening_45 rfl ?_
      refine st_ic_ne g dX8_evening_46 (tgt := 64) (by decide) H (fun q6 H => ?_) (fun q6 H => ?_)
      · refine st_iload g dX8_evening_64 rfl ?_
        refine st_istore_n g dX8_evening_66 (Nat.le_of_ble_eq_true rfl) rfl (ls2 := [.ref 53, .int a1, .int s.1, .int r4.1, .int s.2.2.1, .int r4.1]) rfl ?_
        refine st_iload g dX8_evening_67 rfl ?_
        refine st_istore_n g dX8_evening_69 (Nat.le_of_ble_eq_true rfl) rfl (ls2 := [.ref 53, .int a1, .int s.2.2.1, .int r4.1, .int s.2.2.1, .int r4.1]) rfl ?_
        refine st_iinc g dX8_evening_70 rfl (ii_1 _) (Nat.le_of_ble_eq_true rfl) rfl (ls2 := [.ref 53, .int a1, .int s.2.2.1, .int r4.1, .int (s.2.2.1 + 1), .int r4.1]) rfl ?_
        refine st_goto g dX8_evening_73 (tgt := 18) (by decide) ?_
        obtain rfl := Option.some.inj H
        exact (wa_drop [5] K)
      · refine st_iload g dX8_evening_49 rfl ?_
        obtain ⟨r7, hr7, H⟩ := bind_some H
        refine st_callSI g (as := [.int s.2.2.1]) dX8_evening_51 ml_X8_285 mf_J6_bitCount_0f7a4 rfl (Nat.le_of_ble_eq_true rfl) (Nat.le_of_ble_eq_true rfl) (c_J6_bitCount_0f7a4 s.2.2.1 r4.2 _ hr7) (fun hz => ?_)
        refine st_iload_n g dX8_evening_54 rfl ?_
        obtain ⟨r8, hr8, H⟩ := bind_some H
        refine st_callSI g (as := [.int s.1]) dX8_evening_55 ml_X8_285 mf_J6_bitCount_0f7a4 rfl (Nat.le_of_ble_eq_true rfl) (Nat.le_of_ble_eq_true rfl) (c_J6_bitCount_0f7a4 s.1 r4.2 _ hr8) (fun hz => ?_)
        refine st_ic_lt g dX8_evening_58 (tgt := 64) (by decide) H (fun q9 H => ?_) (fun q9 H => ?_)
        · refine st_iload g dX8_evening_64 rfl ?_
          refine st_istore_n g dX8_evening_66 (Nat.le_of_ble_eq_true rfl) rfl (ls2 := [.ref 53, .int a1, .int s.1, .int r4.1, .int s.2.2.1, .int r4.1]) rfl ?_
          refine st_iload g dX8_evening_67 rfl ?_
          refine st_istore_n g dX8_evening_69 (Nat.le_of_ble_eq_true rfl) rfl (ls2 := [.ref 53, .int a1, .int s.2.2.1, .int r4.1, .int s.2.2.1, .int r4.1]) rfl ?_
          refine st_iinc g dX8_evening_70 rfl (ii_1 _) (Nat.le_of_ble_eq_true rfl) rfl (ls2 := [.ref 53, .int a1, .int s.2.2.1, .int r4.1, .int (s.2.2.1 + 1), .int r4.1]) rfl ?_
          refine st_goto g dX8_evening_73 (tgt := 18) (by decide) ?_
          obtain rfl := Option.some.inj H
          exact (wa_drop [5] K)
        · refine st_goto g dX8_evening_61 (tgt := 70) (by decide) ?_
          refine st_iinc g dX8_evening_70 rfl (ii_1 _) (Nat.le_of_ble_eq_true rfl) rfl (ls2 := [.ref 53, .int a1, .int s.1, .int s.2.1, .int (s.2.2.1 + 1), .int r4.1]) rfl ?_
          refine st_goto g dX8_evening_73 (tgt := 18) (by decide) ?_
          obtain rfl := Option.some.inj H
          exact (wa_drop [5] K)
def f_X8_evening (a1 : Int32) (h : Hp) : Option (Int32 × Hp) :=
  (f_X8_within a1 0 1).bind fun r1 =>
  if r1 = 0 then
    some ((-1), h)
  else
    (iter (b_X8_evening_18 a1) FU (0, 0, 1, h)).bind fun a10 =>
    if a1 = 0 then
      some (a10.2.1, a10.2.2.2)
    else
      some (a10.1, a10.2.2.2)
theorem t_X8_evening {x : Cx} (g : Gx x RX8 cX8_evening 6 6) (a1 : Int32) (h : Hp) (out : (Int32 × Hp)) (H : f_X8_evening a1 h = some out) (K : RtI x .int out.1 out.2) : WA x 0 [.ref 53, .int a1, .null, .null, .null, .null] [] h := by
  unfold f_X8_evening at H
  refine st_iload_n g dX8_evening_0 rfl ?_
  refine st_iconst g dX8_evening_1 ic_0 ?_
  refine st_iconst g dX8_evening_2 ic_1 ?_
  obtain ⟨r1, hr1, H⟩ := bind_some H
  refine st_callSI g (as := [.int a1, .int 0, .int 1]) dX8_evening_3 ml_X8_109 mf_X8_within rfl (Nat.le_of_ble_eq_true rfl) (Nat.le_of_ble_eq_true rfl) (c_X8_within a1 0 1 h _ hr1) (fun hz => ?_)
  have br1 := hz rfl
  refine st_if_ne g dX8_evening_6 (tgt := 11) (by decide) H (fun q2 H => ?_) (fun q2 H => ?_)
  · refine st_iconst g dX8_evening_11 ic_0 ?_
    refine st_istore_n g dX8_evening_12 (Nat.le_of_ble_eq_true rfl) rfl (ls2 := [.ref 53, .int a1, .int 0, .null, .null, .null]) rfl ?_
    refine st_iconst g dX8_evening_13 ic_0 ?_
    refine st_istore_n g dX8_evening_14 (Nat.le_of_ble_eq_true rfl) rfl (ls2 := [.ref 53, .int a1, .int 0, .int 0, .null, .null]) rfl ?_
    refine st_iconst g dX8_evening_15 ic_1 ?_
    refine st_istore g dX8_evening_16 (Nat.le_of_ble_eq_true rfl) rfl (ls2 := [.ref 53, .int a1, .int 0, .int 0, .int 1, .null]) rfl ?_
    show P_X8_evening_18 x a1 (0, 0, 1, h)
    obtain ⟨a10, ha10, H⟩ := bind_some H
    refine iter_W (P := P_X8_evening_18 x a1) (E := E_X8_evening_18 x a1) (fun s9 o9 ho9 hK9 => tb_X8_evening_18 g a1 s9 o9 ho9 hK9) FU _ a10 ha10 ?_
    show WA x 76 [.null, .int a1, .int a10.1, .int a10.2.1, .null, .null] [] a10.2.2.2
    refine st_iload_n g dX8_evening_76 rfl ?_
    refine st_if_ne g dX8_evening_77 (tgt := 84) (by decide) H (fun q11 H => ?_) (fun q11 H => ?_)
    · refine st_iload_n g dX8_evening_84 rfl ?_
      obtain rfl := Option.some.inj H
      exact st_iret g dX8_evening_85 rfl (fun q => by cases q) K
    · refine st_iload_n g dX8_evening_80 rfl ?_
      refine st_goto g dX8_evening_81 (tgt := 85) (by decide) ?_
      obtain rfl := Option.some.inj H
      exact st_iret g dX8_evening_85 rfl (fun q => by cases q) K
  · refine st_iconst g dX8_evening_9 ic_m1 ?_
    obtain rfl := Option.some.inj H
    exact st_iret g dX8_evening_10 rfl (fun q => by cases q) K
theorem c_X8_evening (a1 : Int32) (h : Hp) (r : (Int32 × Hp)) (H : f_X8_evening a1 h = some r) : CtI yX8_evening cX8_evening 6 .int 6 [.ref 53, .int a1] h r.1 r.2 :=
  ct_ofI (own := RX8) [.ref 53, .int a1, .null, .null, .null, .null] (by decide +kernel) rfl (fun ρ => Nat.le_of_ble_eq_true rfl) (fun ρ => rfl) (fun x g K => t_X8_evening g a1 h r H K)
def P_X8_unlike_33 (x : Cx) (a2 : Int32) (a3 : Int32) (a4 : Int32) (a5 : Int32) (s : (Int32 × Int32 × Hp)) : Prop := WA x 33 [.ref 53, .null, .int a2, .int a3, .int a4, .int a5, .int s.1, .int s.2.1] [] s.2.2
def E_X8_unlike_33 (x : Cx) (a2 : Int32) (a3 : Int32) (a4 : Int32) (a5 : Int32) : (Int32 × Int32 × Hp) → Prop := fun s : (Int32 × Int32 × Hp) => WA x 127 [.ref 53, .null, .null, .null, .null, .null, .int s.1, .null] [] s.2.2
def j_X8_unlike_93 (a2 : Int32) (a3 : Int32) (a4 : Int32) (a5 : Int32) (c6 : Int32) (c7 : Int32) (h : Hp) : Option ((Int32 × Int32 × Hp) ⊕ (Int32 × Int32 × Hp)) :=
  if a5 < c7 then
    some (.inl (c7, c7 + 1, h))
  else
    (rdI h 54 a2).bind fun v8 =>
    (f_X8_toldAt a4 c7 h).bind fun r9 =>
    if v8 = r9 then
      some (.inl (c6, c7 + 1, h))
    else
      some (.inl (c7, c7 + 1, h))
theorem tj_X8_unlike_93 {x : Cx} (g : Gx x RX8 cX8_unlike 8 6) (a2 : Int32) (a3 : Int32) (a4 : Int32) (a5 : Int32) (c6 : Int32) (c7 : Int32) (h : Hp) (out : (Int32 × Int32 × Hp) ⊕ (Int32 × Int32 × Hp)) (H : j_X8_unlike_93 a2 a3 a4 a5 c6 c7 h = some out) (K : Sum.elim (P_X8_unlike_33 x a2 a3 a4 a5) (E_X8_unlike_33 x a2 a3 a4 a5) out) : WA x 93 [.ref 53, .null, .int a2, .int a3, .int a4, .int a5, .int c6, .int c7] [] h := by
  unfold j_X8_unlike_93 at H
  refine st_iload g dX8_unlike_93 rfl ?_
  refine st_iload g dX8_unlike_95 rfl ?_
  refine st_ic_gt g dX8_unlike_97 (tgt := 117) (by decide) H (fun q7 H => ?_) (fun q7 H => ?_)
  · refine st_iload g dX8_unlike_117 rfl ?_
    refine st_istore g dX8_unlike_119 (Nat.le_of_ble_eq_true rfl) rfl (ls2 := [.ref 53, .null, .int a2, .int a3, .int a4, .int a5, .int c7, .int c7]) rfl ?_
    refine st_iinc g dX8_unlike_121 rfl (ii_1 _) (Nat.le_of_ble_eq_true rfl) rfl (ls2 := [.ref 53, .null, .int a2, .int a3, .int a4, .int a5, .int c7, .int (c7 + 1)]) rfl ?_
    refine st_goto g dX8_unlike_124 (tgt := 33) (by decide) ?_
    obtain rfl := Option.some.inj H
    exact K
  · refine st_aload_n g dX8_unlike_100 rfl ?_
    refine gf_X8_9 g dX8_unlike_101 rfl (r := 54) rfl ?_
    refine st_iload_n g dX8_unlike_104 rfl ?_
    refine st_iald g dX8_unlike_105 H (fun v8 H => ?_)
    refine st_aload_n g dX8_unlike_106 rfl ?_
    refine st_iload g dX8_unlike_107 rfl ?_
    refine st_iload g dX8_unlike_109 rfl ?_
    obtain ⟨r9, hr9, H⟩ := bind_some H
    refine st_callVI g (as := [.int a4, .int c7]) dX8_unlike_111 rfl rfl ml_X8_142 mf_X8_toldAt rfl (Nat.le_of_ble_eq_true rfl) (Nat.le_of_ble_eq_true rfl) (c_X8_toldAt a4 c7 h _ hr9) (fun hz => ?_)
    refine st_ic_eq g dX8_unlike_114 (tgt := 121) (by decide) H (fun q10 H => ?_) (fun q10 H => ?_)
    · refine st_iinc g dX8_unlike_121 rfl (ii_1 _) (Nat.le_of_ble_eq_true rfl) rfl (ls2 := [.ref 53, .null, .int a2, .int a3, .int a4, .int a5, .int c6, .int (c7 + 1)]) rfl ?_
      refine st_goto g dX8_unlike_124 (tgt := 33) (by decide) ?_
      obtain rfl := Option.some.inj H
      exact K
    · refine st_iload g dX8_unlike_117 rfl ?_
      refine st_istore g dX8_unlike_119 (Nat.le_of_ble_eq_true rfl) rfl (ls2 := [.ref 53, .null, .int a2, .int a3, .int a4, .int a5, .int c7, .int c7]) rfl ?_
      refine st_iinc g dX8_unlike_121 rfl (ii_1 _) (Nat.le_of_ble_eq_true rfl) rfl (ls2 := [.ref 53, .null, .int a2, .int a3, .int a4, .int a5, .int c7, .int (c7 + 1)]) rfl ?_
      refine st_goto g dX8_unlike_124 (tgt := 33) (by decide) ?_
      obtain rfl := Option.some.inj H
      exact K
def b_X8_unlike_33 (a2 : Int32) (a3 : Int32) (a4 : Int32) (a5 : Int32) (s : (Int32 × Int32 × Hp)) : Option ((Int32 × Int32 × Hp) ⊕ (Int32 × Int32 × Hp)) :=
  (rdI s.2.2 80 a4).bind fun v3 =>
  if v3 ≤ s.2.1 then
    some (.inr (s.1, s.2.1, s.2.2))
  else
    if s.1 = (-2) then
      if s.2.1 ≤ 0 then
        j_X8_unlike_93 a2 a3 a4 a5 s.1 s.2.1 s.2.2
      else
        if a5 < s.2.1 then
          j_X8_unlike_93 a2 a3 a4 a5 s.1 s.2.1 s.2.2
        else
          (f_X8_toldAt a3 (s.2.1 - 1) s.2.2).bind fun r12 =>
          (f_X8_toldAt a3 (s.2.1 - 1) s.2.2).bind fun r13 =>
          (f_X8_calls (r12 / 12) (r13 % 12) s.2.2).bind fun r14 =>
          j_X8_unlike_93 a2 a3 a4 a5 s.1 s.2.1 r14.2
    else
      some (.inr (s.1, s.2.1, s.2.2))
theorem tb_X8_unlike_33 {x : Cx} (g : Gx x RX8 cX8_unlike 8 6) (a2 : Int32) (a3 : Int32) (a4 : Int32) (a5 : Int32) (s : (Int32 × Int32 × Hp)) (out : (Int32 × Int32 × Hp) ⊕ (Int32 × Int32 × Hp)) (H : b_X8_unlike_33 a2 a3 a4 a5 s = some out) (K : Sum.elim (P_X8_unlike_33 x a2 a3 a4 a5) (E_X8_unlike_33 x a2 a3 a4 a5) out) : P_X8_unlike_33 x a2 a3 a4 a5 s := by
  unfold b_X8_unlike_33 at H
  show WA x 33 [.ref 53, .null, .int a2, .int a3, .int a4, .int a5, .int s.1, .int s.2.1] [] s.2.2
  refine st_iload g dX8_unlike_33 rfl ?_
  refine st_aload_n g dX8_unlike_35 rfl ?_
  refine gf_X8_90 g dX8_unlike_36 rfl (r := 80) rfl ?_
  refine st_iload g dX8_unlike_39 rfl ?_
  refine st_iald g dX8_unlike_41 H (fun v3 H => ?_)
  refine st_ic_ge g dX8_unlike_42 (tgt := 127) (by decide) H (fun q4 H => ?_) (fun q4 H => ?_)
  · obtain rfl := Option.some.inj H
    exact (wa_drop [2, 3, 4, 5, 7] K)
  · refine st_iload g dX8_unlike_45 rfl ?_
    refine st_bipush g dX8_unlike_47 bi_m2 ?_
    refine st_ic_ne g dX8_unlike_49 (tgt := 127) (by decide) H (fun q5 H => ?_) (fun q5 H => ?_)
    · obtain rfl := Option.some.inj H
      exact (wa_drop [2, 3, 4, 5, 7] K)
    · refine st_iload g dX8_unlike_52 rfl ?_
      refine st_if_le g dX8_unlike_54 (tgt := 93) (by decide) H (fun q6 H => ?_) (fun q6 H => ?_)
      · exact (tj_X8_unlike_93 g a2 a3 a4 a5 s.1 s.2.1 s.2.2 _ H K)
      · refine st_iload g dX8_unlike_57 rfl ?_
        refine st_iload g dX8_unlike_59 rfl ?_
        refine st_ic_gt g dX8_unlike_61 (tgt := 93) (by decide) H (fun q11 H => ?_) (fun q11 H => ?_)
        · exact (tj_X8_unlike_93 g a2 a3 a4 a5 s.1 s.2.1 s.2.2 _ H K)
        · refine st_aload_n g dX8_unlike_64 rfl ?_
          refine st_aload_n g dX8_unlike_65 rfl ?_
          refine st_iload_n g dX8_unlike_66 rfl ?_
          refine st_iload g dX8_unlike_67 rfl ?_
          refine st_iconst g dX8_unlike_69 ic_1 ?_
          refine st_isub g dX8_unlike_70 ?_
          obtain ⟨r12, hr12, H⟩ := bind_some H
          refine st_callVI g (as := [.int a3, .int (s.2.1 - 1)]) dX8_unlike_71 rfl rfl ml_X8_142 mf_X8_toldAt rfl (Nat.le_of_ble_eq_true rfl) (Nat.le_of_ble_eq_true rfl) (c_X8_toldAt a3 (s.2.1 - 1) s.2.2 _ hr12) (fun hz => ?_)
          refine st_bipush g dX8_unlike_74 bi_12 ?_
          refine st_idiv g dX8_unlike_76 (by decide) ?_
          refine st_aload_n g dX8_unlike_77 rfl ?_
          refine st_iload_n g dX8_unlike_78 rfl ?_
          refine st_iload g dX8_unlike_79 rfl ?_
          refine st_iconst g dX8_unlike_81 ic_1 ?_
          refine st_isub g dX8_unlike_82 ?_
          obtain ⟨r13, hr13, H⟩ := bind_some H
          refine st_callVI g (as := [.int a3, .int (s.2.1 - 1)]) dX8_unlike_83 rfl rfl ml_X8_142 mf_X8_toldAt rfl (Nat.le_of_ble_eq_true rfl) (Nat.le_of_ble_eq_true rfl) (c_X8_toldAt a3 (s.2.1 - 1) s.2.2 _ hr13) (fun hz => ?_)
          refine st_bipush g dX8_unlike_86 bi_12 ?_
          refine st_irem g dX8_unlike_88 (by decide) ?_
          obtain ⟨r14, hr14, H⟩ := bind_some H
          refine st_callVI g (as := [.int (r12 / 12), .int (r13 % 12)]) dX8_unlike_89 rfl rfl ml_X8_260 mf_X8_calls rfl (Nat.le_of_ble_eq_true rfl) (Nat.le_of_ble_eq_true rfl) (c_X8_calls (r12 / 12) (r13 % 12) s.2.2 _ hr14) (fun hz => ?_)
          refine st_pop g dX8_unlike_92 rfl ?_
          exact (tj_X8_unlike_93 g a2 a3 a4 a5 s.1 s.2.1 r14.2 _ H K)
def f_X8_unlike (a1 : Int32) (a2 : Int32) (h : Hp) : Option (Int32 × Hp) :=
  (f_X8_keeps 82 h).bind fun r1 =>
  (f_X8_callsOf (a1 / 10) r1).bind fun r2 =>
  (iter (b_X8_unlike_33 a2 (a1 / 10) (a1 % 10) r2) FU ((-2), 0, r1)).bind fun a15 =>
  (f_X8_laysBack 82 a15.2.2).bind fun r16 =>
  some (a15.1, r16)
theorem t_X8_unlike {x : Cx} (g : Gx x RX8 cX8_unlike 8 6) (a1 : Int32) (a2 : Int32) (h : Hp) (out : (Int32 × Hp)) (H : f_X8_unlike a1 a2 h = some out) (K : RtI x .int out.1 out.2) : WA x 0 [.ref 53, .int a1, .int a2, .null, .null, .null, .null, .null] [] h := by
  unfold f_X8_unlike at H
  refine st_iload_n g dX8_unlike_0 rfl ?_
  refine st_bipush g dX8_unlike_1 bi_10 ?_
  refine st_idiv g dX8_unlike_3 (by decide) ?_
  refine st_istore_n g dX8_unlike_4 (Nat.le_of_ble_eq_true rfl) rfl (ls2 := [.ref 53, .int a1, .int a2, .int (a1 / 10), .null, .null, .null, .null]) rfl ?_
  refine st_iload_n g dX8_unlike_5 rfl ?_
  refine st_bipush g dX8_unlike_6 bi_10 ?_
  refine st_irem g dX8_unlike_8 (by decide) ?_
  refine st_istore g dX8_unlike_9 (Nat.le_of_ble_eq_true rfl) rfl (ls2 := [.ref 53, .int a1, .int a2, .int (a1 / 10), .int (a1 % 10), .null, .null, .null]) rfl ?_
  refine st_aload_n g dX8_unlike_11 rfl ?_
  refine st_aload_n g dX8_unlike_12 rfl ?_
  refine gf_X8_97 g dX8_unlike_13 rfl (r := 82) rfl ?_
  obtain ⟨r1, hr1, H⟩ := bind_some H
  refine st_callVV g (as := [.ref 82]) dX8_unlike_16 rfl rfl ml_X8_266 mf_X8_keeps rfl (Nat.le_of_ble_eq_true rfl) (Nat.le_of_ble_eq_true rfl) (c_X8_keeps 82 h _ hr1) ?_
  refine st_aload_n g dX8_unlike_19 rfl ?_
  refine st_iload_n g dX8_unlike_20 rfl ?_
  obtain ⟨r2, hr2, H⟩ := bind_some H
  refine st_callVI g (as := [.int (a1 / 10)]) dX8_unlike_21 rfl rfl ml_X8_257 mf_X8_callsOf rfl (Nat.le_of_ble_eq_true rfl) (Nat.le_of_ble_eq_true rfl) (c_X8_callsOf (a1 / 10) r1 _ hr2) (fun hz => ?_)
  refine st_istore g dX8_unlike_24 (Nat.le_of_ble_eq_true rfl) rfl (ls2 := [.ref 53, .int a1, .int a2, .int (a1 / 10), .int (a1 % 10), .int r2, .null, .null]) rfl ?_
  refine st_bipush g dX8_unlike_26 bi_m2 ?_
  refine st_istore g dX8_unlike_28 (Nat.le_of_ble_eq_true rfl) rfl (ls2 := [.ref 53, .int a1, .int a2, .int (a1 / 10), .int (a1 % 10), .int r2, .int (-2), .null]) rfl ?_
  refine st_iconst g dX8_unlike_30 ic_0 ?_
  refine st_istore g dX8_unlike_31 (Nat.le_of_ble_eq_true rfl) rfl (ls2 := [.ref 53, .int a1, .int a2, .int (a1 / 10), .int (a1 % 10), .int r2, .int (-2), .int 0]) rfl ?_
  refine wa_drop [1] ?_
  show P_X8_unlike_33 x a2 (a1 / 10) (a1 % 10) r2 ((-2), 0, r1)
  obtain ⟨a15, ha15, H⟩ := bind_some H
  refine iter_W (P := P_X8_unlike_33 x a2 (a1 / 10) (a1 % 10) r2) (E := E_X8_unlike_33 x a2 (a1 / 10) (a1 % 10) r2) (fun s9 o9 ho9 hK9 => tb_X8_unlike_33 g a2 (a1 / 10) (a1 % 10) r2 s9 o9 ho9 hK9) FU _ a15 ha15 ?_
  show WA x 127 [.ref 53, .null, .null, .null, .null, .null, .int a15.1, .null] [] a15.2.2
  refine st_aload_n g dX8_unlike_127 rfl ?_
  refine st_aload_n g dX8_unlike_128 rfl ?_
  refine gf_X8_97 g dX8_unlike_129 rfl (r := 82) rfl ?_
  obtain ⟨r16, hr16, H⟩ := bind_some H
  refine st_callVV g (as := [.ref 82]) dX8_unlike_132 rfl rfl ml_X8_273 mf_X8_laysBack rfl (Nat.le_of_ble_eq_true rfl) (Nat.le_of_ble_eq_true rfl) (c_X8_laysBack 82 a15.2.2 _ hr16) ?_
  refine st_iload g dX8_unlike_135 rfl ?_
  obtain rfl := Option.some.inj H
  exact st_iret g dX8_unlike_137 rfl (fun q => by cases q) K
theorem c_X8_unlike (a1 : Int32) (a2 : Int32) (h : Hp) (r : (Int32 × Hp)) (H : f_X8_unlike a1 a2 h = some r) : CtI yX8_unlike cX8_unlike 8 .int 6 [.ref 53, .int a1, .int a2] h r.1 r.2 :=
  ct_ofI (own := RX8) [.ref 53, .int a1, .int a2, .null, .null, .null, .null, .null] (by decide +kernel) rfl (fun ρ => Nat.le_of_ble_eq_true rfl) (fun ρ => rfl) (fun x g K => t_X8_unlike g a1 a2 h r H K)
def P_X8_drawn_61 (x : Cx) (a2 : Int32) (a3 : Int32) (s : (Int32 × Int32 × Int32 × Hp)) : Prop := WA x 61 [.ref 53, .null, .int a2, .int a3, .int s.1, .int s.2.1, .int s.2.2.1, .null, .null] [] s.2.2.2
def E_X8_drawn_61 (x : Cx) (a2 : Int32) (a3 : Int32) : (Int32 × Int32 × Int32 × Hp) → Prop := fun s : (Int32 × Int32 × Int32 × Hp) => WA x 208 [.null, .null, .null, .null, .null, .int s.2.1, .null, .null, .null] [] s.2.2.2
def P_X8_drawn_73 (x : Cx) (a2 : Int32) (a3 : Int32) (a5 : Int32) (a6 : Int32) (s : (Int32 × Int32 × Hp)) : Prop := WA x 73 [.ref 53, .null, .int a2, .int a3, .int s.1, .int a5, .int a6, .int s.2.1, .null] [] s.2.2
def E_X8_drawn_73 (x : Cx) (a2 : Int32) (a3 : Int32) (a5 : Int32) (a6 : Int32) : (Int32 × Int32 × Hp) → Prop := fun s : (Int32 × Int32 × Hp) => WA x 171 [.ref 53, .null, .int a2, .int a3, .int s.1, .int a5, .int a6, .null, .null] [] s.2.2
def b_X8_drawn_73 (a2 : Int32) (a3 : Int32) (a5 : Int32) (a6 : Int32) (s : (Int32 × Int32 × Hp)) : Option ((Int32 × Int32 × Hp) ⊕ (Int32 × Int32 × Hp)) :=
  if (a2 % 100) ≤ s.2.1 then
    some (.inr (s.1, s.2.1, s.2.2))
  else
    if (s.2.2.1 53 4) ≤ 0 then
      (f_X8_passes s.2.2).bind fun r11 =>
      some (.inl ((s.1 * 1103515245) + 12345, s.2.1 + 1, r11))
    else
      (rmI (ushr ((s.1 * 1103515245) + 12345) 8) (s.2.2.1 53 4)).bind fun v12 =>
      (rdI s.2.2 61 v12).bind fun v13 =>
      if v13 = 1 then
        (wrI s.2.2 61 v12 0).bind fun h17 =>
        (wrI h17 60 v12 (h17.1 53 10)).bind fun h18 =>
        (f_X8_passes h18).bind fun r19 =>
        some (.inl ((s.1 * 1103515245) + 12345, s.2.1 + 1, r19))
      else
        (f_X8_calls v12 ((ushr ((s.1 * 1103515245) + 12345) 16) % 12) s.2.2).bind fun r15 =>
        (f_X8_passes r15.2).bind fun r16 =>
        some (.inl ((s.1 * 1103515245) + 12345, s.2.1 + 1, r16))
theorem tb_X8_drawn_73 {x : Cx} (g : Gx x RX8 cX8_drawn 9 6) (a2 : Int32) (a3 : Int32) (a5 : Int32) (a6 : Int32) (s : (Int32 × Int32 × Hp)) (out : (Int32 × Int32 × Hp) ⊕ (Int32 × Int32 × Hp)) (H : b_X8_drawn_73 a2 a3 a5 a6 s = some out) (K : Sum.elim (P_X8_drawn_73 x a2 a3 a5 a6) (E_X8_drawn_73 x a2 a3 a5 a6) out) : P_X8_drawn_73 x a2 a3 a5 a6 s := by
  unfold b_X8_drawn_73 at H
  show WA x 73 [.ref 53, .null, .int a2, .int a3, .int s.1, .int a5, .int a6, .int s.2.1, .null] [] s.2.2
  refine st_iload g dX8_drawn_73 rfl ?_
  refine st_iload_n g dX8_drawn_75 rfl ?_
  refine st_bipush g dX8_drawn_76 bi_100 ?_
  refine st_irem g dX8_drawn_78 (by decide) ?_
  refine st_ic_ge g dX8_drawn_79 (tgt := 171) (by decide) H (fun q9 H => ?_) (fun q9 H => ?_)
  · obtain rfl := Option.some.inj H
    exact (wa_drop [7] K)
  · refine st_iload g dX8_drawn_82 rfl ?_
    refine st_ldcw g dX8_drawn_84 kc_X8_317 ?_
    refine st_imul g dX8_drawn_87 ?_
    refine st_sipush g dX8_drawn_88 si_12345 ?_
    refine st_iadd g dX8_drawn_91 ?_
    refine st_istore g dX8_drawn_92 (Nat.le_of_ble_eq_true rfl) rfl (ls2 := [.ref 53, .null, .int a2, .int a3, .int ((s.1 * 1103515245) + 12345), .int a5, .int a6, .int s.2.1, .null]) rfl ?_
    refine st_aload_n g dX8_drawn_94 rfl ?_
    refine gf_X8_117 g dX8_drawn_95 rfl ?_
    refine st_if_le g dX8_drawn_98 (tgt := 161) (by decide) H (fun q10 H => ?_) (fun q10 H => ?_)
    · refine st_aload_n g dX8_drawn_161 rfl ?_
      obtain ⟨r11, hr11, H⟩ := bind_some H
      refine st_callVV g (as := []) dX8_drawn_162 rfl rfl ml_X8_318 mf_X8_passes rfl (Nat.le_of_ble_eq_true rfl) (Nat.le_of_ble_eq_true rfl) (c_X8_passes s.2.2 _ hr11) ?_
      refine st_iinc g dX8_drawn_165 rfl (ii_1 _) (Nat.le_of_ble_eq_true rfl) rfl (ls2 := [.ref 53, .null, .int a2, .int a3, .int ((s.1 * 1103515245) + 12345), .int a5, .int a6, .int (s.2.1 + 1), .null]) rfl ?_
      refine st_goto g dX8_drawn_168 (tgt := 73) (by decide) ?_
      obtain rfl := Option.some.inj H
      exact K
    · refine st_iload g dX8_drawn_101 rfl ?_
      refine st_bipush g dX8_drawn_103 bi_8 ?_
      refine st_iushr g dX8_drawn_105 ?_
      refine st_aload_n g dX8_drawn_106 rfl ?_
      refine gf_X8_117 g dX8_drawn_107 rfl ?_
      refine st_iremO g dX8_drawn_110 H (fun v12 H => ?_)
      refine st_istore g dX8_drawn_111 (Nat.le_of_ble_eq_true rfl) rfl (ls2 := [.ref 53, .null, .int a2, .int a3, .int ((s.1 * 1103515245) + 12345), .int a5, .int a6, .int s.2.1, .int v12]) rfl ?_
      refine st_aload_n g dX8_drawn_113 rfl ?_
      refine gf_X8_33 g dX8_drawn_114 rfl (r := 61) rfl ?_
      refine st_iload g dX8_drawn_117 rfl ?_
      refine st_iald g dX8_drawn_119 H (fun v13 H => ?_)
      refine st_iconst g dX8_drawn_120 ic_1 ?_
      refine st_ic_ne g dX8_drawn_121 (tgt := 146) (by decide) H (fun q14 H => ?_) (fun q14 H => ?_)
      · refine st_aload_n g dX8_drawn_146 rfl ?_
        refine st_iload g dX8_drawn_147 rfl ?_
        refine st_iload g dX8_drawn_149 rfl ?_
        refine st_bipush g dX8_drawn_151 bi_16 ?_
        refine st_iushr g dX8_drawn_153 ?_
        refine st_bipush g dX8_drawn_154 bi_12 ?_
        refine st_irem g dX8_drawn_156 (by decide) ?_
        obtain ⟨r15, hr15, H⟩ := bind_some H
        refine st_callVI g (as := [.int v12, .int ((ushr ((s.1 * 1103515245) + 12345) 16) % 12)]) dX8_drawn_157 rfl rfl ml_X8_260 mf_X8_calls rfl (Nat.le_of_ble_eq_true rfl) (Nat.le_of_ble_eq_true rfl) (c_X8_calls v12 ((ushr ((s.1 * 1103515245) + 12345) 16) % 12) s.2.2 _ hr15) (fun hz => ?_)
        refine st_pop g dX8_drawn_160 rfl ?_
        refine st_aload_n g dX8_drawn_161 rfl ?_
        obtain ⟨r16, hr16, H⟩ := bind_some H
        refine st_callVV g (as := []) dX8_drawn_162 rfl rfl ml_X8_318 mf_X8_passes rfl (Nat.le_of_ble_eq_true rfl) (Nat.le_of_ble_eq_true rfl) (c_X8_passes r15.2 _ hr16) ?_
        refine st_iinc g dX8_drawn_165 rfl (ii_1 _) (Nat.le_of_ble_eq_true rfl) rfl (ls2 := [.ref 53, .null, .int a2, .int a3, .int ((s.1 * 1103515245) + 12345), .int a5, .int a6, .int (s.2.1 + 1), .int v12]) rfl ?_
        refine st_goto g dX8_drawn_168 (tgt := 73) (by decide) ?_
        obtain rfl := Option.some.inj H
        exact (wa_drop [8] K)
      · refine st_aload_n g dX8_drawn_124 rfl ?_
        refine gf_X8_33 g dX8_drawn_125 rfl (r := 61) rfl ?_
        refine st_iload g dX8_drawn_128 rfl ?_
        refine st_iconst g dX8_drawn_130 ic_0 ?_
        refine st_iast g dX8_drawn_131 H (fun h17 H => ?_)
        refine st_aload_n g dX8_drawn_132 rfl ?_
        refine gf_X8_30 g dX8_drawn_133 rfl (r := 60) rfl ?_
        refine st_iload g dX8_drawn_136 rfl ?_
        refine st_aload_n g dX8_drawn_138 rfl ?_
        refine gf_X8_127 g dX8_drawn_139 rfl ?_
        refine st_iast g dX8_drawn_142 H (fun h18 H => ?_)
        refine st_goto g dX8_drawn_143 (tgt := 161) (by decide) ?_
        refine st_aload_n g dX8_drawn_161 rfl ?_
        obtain ⟨r19, hr19, H⟩ := bind_some H
        refine st_callVV g (as := []) dX8_drawn_162 rfl rfl ml_X8_318 mf_X8_passes rfl (Nat.le_of_ble_eq_true rfl) (Nat.le_of_ble_eq_true rfl) (c_X8_passes h18 _ hr19) ?_
        refine st_iinc g dX8_drawn_165 rfl (ii_1 _) (Nat.le_of_ble_eq_true rfl) rfl (ls2 := [.ref 53, .null, .int a2, .int a3, .int ((s.1 * 1103515245) + 12345), .int a5, .int a6, .int (s.2.1 + 1), .int v12]) rfl ?_
        refine st_goto g dX8_drawn_168 (tgt := 73) (by decide) ?_
        obtain rfl := Option.some.inj H
        exact (wa_drop [8] K)
def b_X8_drawn_61 (a2 : Int32) (a3 : Int32) (s : (Int32 × Int32 × Int32 × Hp)) : Option ((Int32 × Int32 × Int32 × Hp) ⊕ (Int32 × Int32 × Int32 × Hp)) :=
  if (a2 / 100) ≤ s.2.2.1 then
    some (.inr (s.1, s.2.1, s.2.2.1, s.2.2.2))
  else
    (iter (b_X8_drawn_73 a2 a3 s.2.1 s.2.2.1) FU (s.1, 0, s.2.2.2)).bind fun a20 =>
    if a3 = (-1) then
      (f_X8_allNumbers a20.2.2).bind fun r24 =>
      (f_X8_laysBack 83 a20.2.2).bind fun r25 =>
      some (.inl (a20.1, s.2.1 + r24, s.2.2.1 + 1, r25))
    else
      (rdI a20.2.2 54 a3).bind fun v22 =>
      (f_X8_laysBack 83 a20.2.2).bind fun r23 =>
      some (.inl (a20.1, s.2.1 + v22, s.2.2.1 + 1, r23))
theorem tb_X8_drawn_61 {x : Cx} (g : Gx x RX8 cX8_drawn 9 6) (a2 : Int32) (a3 : Int32) (s : (Int32 × Int32 × Int32 × Hp)) (out : (Int32 × Int32 × Int32 × Hp) ⊕ (Int32 × Int32 × Int32 × Hp)) (H : b_X8_drawn_61 a2 a3 s = some out) (K : Sum.elim (P_X8_drawn_61 x a2 a3) (E_X8_drawn_61 x a2 a3) out) : P_X8_drawn_61 x a2 a3 s := by
  unfold b_X8_drawn_61 at H
  show WA x 61 [.ref 53, .null, .int a2, .int a3, .int s.1, .int s.2.1, .int s.2.2.1, .null, .null] [] s.2.2.2
  refine st_iload g dX8_drawn_61 rfl ?_
  refine st_iload_n g dX8_drawn_63 rfl ?_
  refine st_bipush g dX8_drawn_64 bi_100 ?_
  refine st_idiv g dX8_drawn_66 (by decide) ?_
  refine st_ic_ge g dX8_drawn_67 (tgt := 208) (by decide) H (fun q8 H => ?_) (fun q8 H => ?_)
  · obtain rfl := Option.some.inj H
    exact (wa_drop [0, 2, 3, 4, 6] K)
  · refine st_iconst g dX8_drawn_70 ic_0 ?_
    refine st_istore g dX8_drawn_71 (Nat.le_of_ble_eq_true rfl) rfl (ls2 := [.ref 53, .null, .int a2, .int a3, .int s.1, .int s.2.1, .int s.2.2.1, .int 0, .null]) rfl ?_
    show P_X8_drawn_73 x a2 a3 s.2.1 s.2.2.1 (s.1, 0, s.2.2.2)
    obtain ⟨a20, ha20, H⟩ := bind_some H
    refine iter_W (P := P_X8_drawn_73 x a2 a3 s.2.1 s.2.2.1) (E := E_X8_drawn_73 x a2 a3 s.2.1 s.2.2.1) (fun s9 o9 ho9 hK9 => tb_X8_drawn_73 g a2 a3 s.2.1 s.2.2.1 s9 o9 ho9 hK9) FU _ a20 ha20 ?_
    show WA x 171 [.ref 53, .null, .int a2, .int a3, .int a20.1, .int s.2.1, .int s.2.2.1, .null, .null] [] a20.2.2
    refine st_iload g dX8_drawn_171 rfl ?_
    refine st_iload_n g dX8_drawn_173 rfl ?_
    refine st_iconst g dX8_drawn_174 ic_m1 ?_
    refine st_ic_ne g dX8_drawn_175 (tgt := 185) (by decide) H (fun q21 H => ?_) (fun q21 H => ?_)
    · refine st_aload_n g dX8_drawn_185 rfl ?_
      refine gf_X8_9 g dX8_drawn_186 rfl (r := 54) rfl ?_
      refine st_iload_n g dX8_drawn_189 rfl ?_
      refine st_iald g dX8_drawn_190 H (fun v22 H => ?_)
      refine st_iadd g dX8_drawn_191 ?_
      refine st_istore g dX8_drawn_192 (Nat.le_of_ble_eq_true rfl) rfl (ls2 := [.ref 53, .null, .int a2, .int a3, .int a20.1, .int (s.2.1 + v22), .int s.2.2.1, .null, .null]) rfl ?_
      refine st_aload_n g dX8_drawn_194 rfl ?_
      refine st_aload_n g dX8_drawn_195 rfl ?_
      refine gf_X8_100 g dX8_drawn_196 rfl (r := 83) rfl ?_
      obtain ⟨r23, hr23, H⟩ := bind_some H
      refine st_callVV g (as := [.ref 83]) dX8_drawn_199 rfl rfl ml_X8_273 mf_X8_laysBack rfl (Nat.le_of_ble_eq_true rfl) (Nat.le_of_ble_eq_true rfl) (c_X8_laysBack 83 a20.2.2 _ hr23) ?_
      refine st_iinc g dX8_drawn_202 rfl (ii_1 _) (Nat.le_of_ble_eq_true rfl) rfl (ls2 := [.ref 53, .null, .int a2, .int a3, .int a20.1, .int (s.2.1 + v22), .int (s.2.2.1 + 1), .null, .null]) rfl ?_
      refine st_goto g dX8_drawn_205 (tgt := 61) (by decide) ?_
      obtain rfl := Option.some.inj H
      exact K
    · refine st_aload_n g dX8_drawn_178 rfl ?_
      obtain ⟨r24, hr24, H⟩ := bind_some H
      refine st_callVI g (as := []) dX8_drawn_179 rfl rfl ml_X8_279 mf_X8_allNumbers rfl (Nat.le_of_ble_eq_true rfl) (Nat.le_of_ble_eq_true rfl) (c_X8_allNumbers a20.2.2 _ hr24) (fun hz => ?_)
      refine st_goto g dX8_drawn_182 (tgt := 191) (by decide) ?_
      refine st_iadd g dX8_drawn_191 ?_
      refine st_istore g dX8_drawn_192 (Nat.le_of_ble_eq_true rfl) rfl (ls2 := [.ref 53, .null, .int a2, .int a3, .int a20.1, .int (s.2.1 + r24), .int s.2.2.1, .null, .null]) rfl ?_
      refine st_aload_n g dX8_drawn_194 rfl ?_
      refine st_aload_n g dX8_drawn_195 rfl ?_
      refine gf_X8_100 g dX8_drawn_196 rfl (r := 83) rfl ?_
      obtain ⟨r25, hr25, H⟩ := bind_some H
      refine st_callVV g (as := [.ref 83]) dX8_drawn_199 rfl rfl ml_X8_273 mf_X8_laysBack rfl (Nat.le_of_ble_eq_true rfl) (Nat.le_of_ble_eq_true rfl) (c_X8_laysBack 83 a20.2.2 _ hr25) ?_
      refine st_iinc g dX8_drawn_202 rfl (ii_1 _) (Nat.le_of_ble_eq_true rfl) rfl (ls2 := [.ref 53, .null, .int a2, .int a3, .int a20.1, .int (s.2.1 + r24), .int (s.2.2.1 + 1), .null, .null]) rfl ?_
      refine st_goto g dX8_drawn_205 (tgt := 61) (by decide) ?_
      obtain rfl := Option.some.inj H
      exact K
def j_X8_drawn_44 (a1 : Int32) (a2 : Int32) (a3 : Int32) (h : Hp) : Option ((Int32 × Hp)) :=
  (f_X8_keeps 83 h).bind fun r7 =>
  (iter (b_X8_drawn_61 a2 a3) FU (a1, 0, 0, r7)).bind fun a26 =>
  some (a26.2.1, a26.2.2.2)
theorem tj_X8_drawn_44 {x : Cx} (g : Gx x RX8 cX8_drawn 9 6) (a1 : Int32) (a2 : Int32) (a3 : Int32) (h : Hp) (out : (Int32 × Hp)) (H : j_X8_drawn_44 a1 a2 a3 h = some out) (K : RtI x .int out.1 out.2) : WA x 44 [.ref 53, .int a1, .int a2, .int a3, .null, .null, .null, .null, .null] [] h := by
  unfold j_X8_drawn_44 at H
  refine st_aload_n g dX8_drawn_44 rfl ?_
  refine st_aload_n g dX8_drawn_45 rfl ?_
  refine gf_X8_100 g dX8_drawn_46 rfl (r := 83) rfl ?_
  obtain ⟨r7, hr7, H⟩ := bind_some H
  refine st_callVV g (as := [.ref 83]) dX8_drawn_49 rfl rfl ml_X8_266 mf_X8_keeps rfl (Nat.le_of_ble_eq_true rfl) (Nat.le_of_ble_eq_true rfl) (c_X8_keeps 83 h _ hr7) ?_
  refine st_iload_n g dX8_drawn_52 rfl ?_
  refine st_istore g dX8_drawn_53 (Nat.le_of_ble_eq_true rfl) rfl (ls2 := [.ref 53, .int a1, .int a2, .int a3, .int a1, .null, .null, .null, .null]) rfl ?_
  refine st_iconst g dX8_drawn_55 ic_0 ?_
  refine st_istore g dX8_drawn_56 (Nat.le_of_ble_eq_true rfl) rfl (ls2 := [.ref 53, .int a1, .int a2, .int a3, .int a1, .int 0, .null, .null, .null]) rfl ?_
  refine st_iconst g dX8_drawn_58 ic_0 ?_
  refine st_istore g dX8_drawn_59 (Nat.le_of_ble_eq_true rfl) rfl (ls2 := [.ref 53, .int a1, .int a2, .int a3, .int a1, .int 0, .int 0, .null, .null]) rfl ?_
  refine wa_drop [1] ?_
  show P_X8_drawn_61 x a2 a3 (a1, 0, 0, r7)
  obtain ⟨a26, ha26, H⟩ := bind_some H
  refine iter_W (P := P_X8_drawn_61 x a2 a3) (E := E_X8_drawn_61 x a2 a3) (fun s9 o9 ho9 hK9 => tb_X8_drawn_61 g a2 a3 s9 o9 ho9 hK9) FU _ a26 ha26 ?_
  show WA x 208 [.null, .null, .null, .null, .null, .int a26.2.1, .null, .null, .null] [] a26.2.2.2
  refine st_iload g dX8_drawn_208 rfl ?_
  obtain rfl := Option.some.inj H
  exact st_iret g dX8_drawn_210 rfl (fun q => by cases q) K
def f_X8_drawn (a1 : Int32) (a2 : Int32) (a3 : Int32) (h : Hp) : Option (Int32 × Hp) :=
  if a2 < 0 then
    some ((-1), h)
  else
    (f_X8_within (a2 / 100) 1 30).bind fun r2 =>
    if r2 = 0 then
      some ((-1), h)
    else
      (f_X8_within (a2 % 100) 1 40).bind fun r4 =>
      if r4 = 0 then
        some ((-1), h)
      else
        if a3 = (-1) then
          j_X8_drawn_44 a1 a2 a3 h
        else
          (f_X8_isHouse a3).bind fun r27 =>
          if r27 = 0 then
            some ((-1), h)
          else
            j_X8_drawn_44 a1 a2 a3 h
theorem t_X8_drawn {x : Cx} (g : Gx x RX8 cX8_drawn 9 6) (a1 : Int32) (a2 : Int32) (a3 : Int32) (h : Hp) (out : (Int32 × Hp)) (H : f_X8_drawn a1 a2 a3 h = some out) (K : RtI x .int out.1 out.2) : WA x 0 [.ref 53, .int a1, .int a2, .int a3, .null, .null, .null, .null, .null] [] h := by
  unfold f_X8_drawn at H
  refine st_iload_n g dX8_drawn_0 rfl ?_
  refine st_if_lt g dX8_drawn_1 (tgt := 42) (by decide) H (fun q1 H => ?_) (fun q1 H => ?_)
  · refine st_iconst g dX8_drawn_42 ic_m1 ?_
    obtain rfl := Option.some.inj H
    exact st_iret g dX8_drawn_43 rfl (fun q => by cases q) K
  · refine st_iload_n g dX8_drawn_4 rfl ?_
    refine st_bipush g dX8_drawn_5 bi_100 ?_
    refine st_idiv g dX8_drawn_7 (by decide) ?_
    refine st_iconst g dX8_drawn_8 ic_1 ?_
    refine st_bipush g dX8_drawn_9 bi_30 ?_
    obtain ⟨r2, hr2, H⟩ := bind_some H
    refine st_callSI g (as := [.int (a2 / 100), .int 1, .int 30]) dX8_drawn_11 ml_X8_109 mf_X8_within rfl (Nat.le_of_ble_eq_true rfl) (Nat.le_of_ble_eq_true rfl) (c_X8_within (a2 / 100) 1 30 h _ hr2) (fun hz => ?_)
    have br2 := hz rfl
    refine st_if_eq g dX8_drawn_14 (tgt := 42) (by decide) H (fun q3 H => ?_) (fun q3 H => ?_)
    · refine st_iconst g dX8_drawn_42 ic_m1 ?_
      obtain rfl := Option.some.inj H
      exact st_iret g dX8_drawn_43 rfl (fun q => by cases q) K
    · refine st_iload_n g dX8_drawn_17 rfl ?_
      refine st_bipush g dX8_drawn_18 bi_100 ?_
      refine st_irem g dX8_drawn_20 (by decide) ?_
      refine st_iconst g dX8_drawn_21 ic_1 ?_
      refine st_bipush g dX8_drawn_22 bi_40 ?_
      obtain ⟨r4, hr4, H⟩ := bind_some H
      refine st_callSI g (as := [.int (a2 % 100), .int 1, .int 40]) dX8_drawn_24 ml_X8_109 mf_X8_within rfl (Nat.le_of_ble_eq_true rfl) (Nat.le_of_ble_eq_true rfl) (c_X8_within (a2 % 100) 1 40 h _ hr4) (fun hz => ?_)
      have br4 := hz rfl
      refine st_if_eq g dX8_drawn_27 (tgt := 42) (by decide) H (fun q5 H => ?_) (fun q5 H => ?_)
      · refine st_iconst g dX8_drawn_42 ic_m1 ?_
        obtain rfl := Option.some.inj H
        exact st_iret g dX8_drawn_43 rfl (fun q => by cases q) K
      · refine st_iload_n g dX8_drawn_30 rfl ?_
        refine st_iconst g dX8_drawn_31 ic_m1 ?_
        refine st_ic_eq g dX8_drawn_32 (tgt := 44) (by decide) H (fun q6 H => ?_) (fun q6 H => ?_)
        · exact (tj_X8_drawn_44 g a1 a2 a3 h _ H K)
        · refine st_iload_n g dX8_drawn_35 rfl ?_
          obtain ⟨r27, hr27, H⟩ := bind_some H
          refine st_callSI g (as := [.int a3]) dX8_drawn_36 ml_X8_120 mf_X8_isHouse rfl (Nat.le_of_ble_eq_true rfl) (Nat.le_of_ble_eq_true rfl) (c_X8_isHouse a3 h _ hr27) (fun hz => ?_)
          have br27 := hz rfl
          refine st_if_ne g dX8_drawn_39 (tgt := 44) (by decide) H (fun q28 H => ?_) (fun q28 H => ?_)
          · exact (tj_X8_drawn_44 g a1 a2 a3 h _ H K)
          · refine st_iconst g dX8_drawn_42 ic_m1 ?_
            obtain rfl := Option.some.inj H
            exact st_iret g dX8_drawn_43 rfl (fun q => by cases q) K
theorem c_X8_drawn (a1 : Int32) (a2 : Int32) (a3 : Int32) (h : Hp) (r : (Int32 × Hp)) (H : f_X8_drawn a1 a2 a3 h = some r) : CtI yX8_drawn cX8_drawn 9 .int 6 [.ref 53, .int a1, .int a2, .int a3] h r.1 r.2 :=
  ct_ofI (own := RX8) [.ref 53, .int a1, .int a2, .int a3, .null, .null, .null, .null, .null] (by decide +kernel) rfl (fun ρ => Nat.le_of_ble_eq_true rfl) (fun ρ => rfl) (fun x g K => t_X8_drawn g a1 a2 a3 h r H K)
def j_X8_call_37 (a3 : Int32) (t0 : Int32) (h : Hp) : Option ((Int32 × Hp)) :=
  (rdI h 73 t0).bind fun v7 =>
  (wrI h 73 t0 (v7 + 1)).bind fun h8 =>
  (rdI h8 73 2).bind fun v9 =>
  (wrI h8 73 2 (v9 + a3)).bind fun h10 =>
  some (a3, h10)
theorem tj_X8_call_37 {x : Cx} (g : Gx x RX8 cX8_call 4 6) (a3 : Int32) (t0 : Int32) (h : Hp) (out : (Int32 × Hp)) (H : j_X8_call_37 a3 t0 h = some out) (K : RtI x .int out.1 out.2) : WA x 37 [.ref 53, .null, .null, .int a3] [.int t0, .ref 73] h := by
  unfold j_X8_call_37 at H
  refine st_dup2 g dX8_call_37 rfl rfl ?_
  refine st_iald g dX8_call_38 H (fun v7 H => ?_)
  refine st_iconst g dX8_call_39 ic_1 ?_
  refine st_iadd g dX8_call_40 ?_
  refine st_iast g dX8_call_41 H (fun h8 H => ?_)
  refine st_aload_n g dX8_call_42 rfl ?_
  refine gf_X8_69 g dX8_call_43 rfl (r := 73) rfl ?_
  refine st_iconst g dX8_call_46 ic_2 ?_
  refine st_dup2 g dX8_call_47 rfl rfl ?_
  refine st_iald g dX8_call_48 H (fun v9 H => ?_)
  refine st_iload_n g dX8_call_49 rfl ?_
  refine st_iadd g dX8_call_50 ?_
  refine st_iast g dX8_call_51 H (fun h10 H => ?_)
  refine st_iload_n g dX8_call_52 rfl ?_
  obtain rfl := Option.some.inj H
  exact st_iret g dX8_call_53 rfl (fun q => by cases q) K
def f_X8_call (a1 : Int32) (a2 : Int32) (h : Hp) : Option (Int32 × Hp) :=
  (f_X8_isWrong a1 h).bind fun r1 =>
  if r1 = 0 then
    some ((-1), h)
  else
    (f_X8_isHouse a2).bind fun r3 =>
    if r3 = 0 then
      some ((-1), h)
    else
      (f_X8_calls a1 a2 h).bind fun r5 =>
      if r5.1 ≤ 0 then
        j_X8_call_37 r5.1 1 r5.2
      else
        j_X8_call_37 r5.1 0 r5.2
theorem t_X8_call {x : Cx} (g : Gx x RX8 cX8_call 4 6) (a1 : Int32) (a2 : Int32) (h : Hp) (out : (Int32 × Hp)) (H : f_X8_call a1 a2 h = some out) (K : RtI x .int out.1 out.2) : WA x 0 [.ref 53, .int a1, .int a2, .null] [] h := by
  unfold f_X8_call at H
  refine st_aload_n g dX8_call_0 rfl ?_
  refine st_iload_n g dX8_call_1 rfl ?_
  obtain ⟨r1, hr1, H⟩ := bind_some H
  refine st_callVI g (as := [.int a1]) dX8_call_2 rfl rfl ml_X8_146 mf_X8_isWrong rfl (Nat.le_of_ble_eq_true rfl) (Nat.le_of_ble_eq_true rfl) (c_X8_isWrong a1 h _ hr1) (fun hz => ?_)
  have br1 := hz rfl
  refine st_if_eq g dX8_call_5 (tgt := 15) (by decide) H (fun q2 H => ?_) (fun q2 H => ?_)
  · refine st_iconst g dX8_call_15 ic_m1 ?_
    obtain rfl := Option.some.inj H
    exact st_iret g dX8_call_16 rfl (fun q => by cases q) K
  · refine st_iload_n g dX8_call_8 rfl ?_
    obtain ⟨r3, hr3, H⟩ := bind_some H
    refine st_callSI g (as := [.int a2]) dX8_call_9 ml_X8_120 mf_X8_isHouse rfl (Nat.le_of_ble_eq_true rfl) (Nat.le_of_ble_eq_true rfl) (c_X8_isHouse a2 h _ hr3) (fun hz => ?_)
    have br3 := hz rfl
    refine st_if_ne g dX8_call_12 (tgt := 17) (by decide) H (fun q4 H => ?_) (fun q4 H => ?_)
    · refine st_aload_n g dX8_call_17 rfl ?_
      refine st_iload_n g dX8_call_18 rfl ?_
      refine st_iload_n g dX8_call_19 rfl ?_
      obtain ⟨r5, hr5, H⟩ := bind_some H
      refine st_callVI g (as := [.int a1, .int a2]) dX8_call_20 rfl rfl ml_X8_260 mf_X8_calls rfl (Nat.le_of_ble_eq_true rfl) (Nat.le_of_ble_eq_true rfl) (c_X8_calls a1 a2 h _ hr5) (fun hz => ?_)
      refine st_istore_n g dX8_call_23 (Nat.le_of_ble_eq_true rfl) rfl (ls2 := [.ref 53, .int a1, .int a2, .int r5.1]) rfl ?_
      refine st_aload_n g dX8_call_24 rfl ?_
      refine gf_X8_69 g dX8_call_25 rfl (r := 73) rfl ?_
      refine st_iload_n g dX8_call_28 rfl ?_
      refine st_if_le g dX8_call_29 (tgt := 36) (by decide) H (fun q6 H => ?_) (fun q6 H => ?_)
      · refine st_iconst g dX8_call_36 ic_1 ?_
        exact (wa_drop [1, 2] (tj_X8_call_37 g r5.1 1 r5.2 _ H K))
      · refine st_iconst g dX8_call_32 ic_0 ?_
        refine st_goto g dX8_call_33 (tgt := 37) (by decide) ?_
        exact (wa_drop [1, 2] (tj_X8_call_37 g r5.1 0 r5.2 _ H K))
    · refine st_iconst g dX8_call_15 ic_m1 ?_
      obtain rfl := Option.some.inj H
      exact st_iret g dX8_call_16 rfl (fun q => by cases q) K
theorem c_X8_call (a1 : Int32) (a2 : Int32) (h : Hp) (r : (Int32 × Hp)) (H : f_X8_call a1 a2 h = some r) : CtI yX8_call cX8_call 4 .int 6 [.ref 53, .int a1, .int a2] h r.1 r.2 :=
  ct_ofI (own := RX8) [.ref 53, .int a1, .int a2, .null] (by decide +kernel) rfl (fun ρ => Nat.le_of_ble_eq_true rfl) (fun ρ => rfl) (fun x g K => t_X8_call g a1 a2 h r H K)
def f_X7_later (a1 : Int32) (a2 : Int32) (a3 : Int32) (h : Hp) : Option (Int32 × Hp) :=
  (f_X6_isShelf a1).bind fun r1 =>
  if r1 = 0 then
    some ((-1), h)
  else
    (f_X7_isCalls a2).bind fun r3 =>
    if r3 = 0 then
      some ((-1), h)
    else
      (f_X7_isHouse a3).bind fun r5 =>
      if r5 = 0 then
        some ((-1), h)
      else
        (f_X6_refusal a1 1 h).bind fun r7 =>
        if r7 = 0 then
          (f_X7_think a1 a2 h).bind fun r9 =>
          (rdI r9.2 18 a3).bind fun v10 =>
          some (v10, r9.2)
        else
          some (r7, h)
theorem t_X7_later {x : Cx} (g : Gx x RX7 cX7_later 5 7) (a1 : Int32) (a2 : Int32) (a3 : Int32) (h : Hp) (out : (Int32 × Hp)) (H : f_X7_later a1 a2 a3 h = some out) (K : RtI x .int out.1 out.2) : WA x 0 [.ref 0, .int a1, .int a2, .int a3, .null] [] h := by
  unfold f_X7_later at H
  refine st_aload_n g dX7_later_0 rfl ?_
  refine gf_X7_54 g dX7_later_1 rfl (r := 30) rfl ?_
  refine st_iload_n g dX7_later_4 rfl ?_
  obtain ⟨r1, hr1, H⟩ := bind_some H
  refine st_callVI g (as := [.int a1]) dX7_later_5 rfl rfl ml_X7_107 mf_X6_isShelf rfl (Nat.le_of_ble_eq_true rfl) (Nat.le_of_ble_eq_true rfl) (c_X6_isShelf a1 h _ hr1) (fun hz => ?_)
  have br1 := hz rfl
  refine st_if_eq g dX7_later_8 (tgt := 25) (by decide) H (fun q2 H => ?_) (fun q2 H => ?_)
  · refine st_iconst g dX7_later_25 ic_m1 ?_
    obtain rfl := Option.some.inj H
    exact st_iret g dX7_later_26 rfl (fun q => by cases q) K
  · refine st_iload_n g dX7_later_11 rfl ?_
    obtain ⟨r3, hr3, H⟩ := bind_some H
    refine st_callSI g (as := [.int a2]) dX7_later_12 ml_X7_160 mf_X7_isCalls rfl (Nat.le_of_ble_eq_true rfl) (Nat.le_of_ble_eq_true rfl) (c_X7_isCalls a2 h _ hr3) (fun hz => ?_)
    have br3 := hz rfl
    refine st_if_eq g dX7_later_15 (tgt := 25) (by decide) H (fun q4 H => ?_) (fun q4 H => ?_)
    · refine st_iconst g dX7_later_25 ic_m1 ?_
      obtain rfl := Option.some.inj H
      exact st_iret g dX7_later_26 rfl (fun q => by cases q) K
    · refine st_iload_n g dX7_later_18 rfl ?_
      obtain ⟨r5, hr5, H⟩ := bind_some H
      refine st_callSI g (as := [.int a3]) dX7_later_19 ml_X7_85 mf_X7_isHouse rfl (Nat.le_of_ble_eq_true rfl) (Nat.le_of_ble_eq_true rfl) (c_X7_isHouse a3 h _ hr5) (fun hz => ?_)
      have br5 := hz rfl
      refine st_if_ne g dX7_later_22 (tgt := 27) (by decide) H (fun q6 H => ?_) (fun q6 H => ?_)
      · refine st_aload_n g dX7_later_27 rfl ?_
        refine gf_X7_54 g dX7_later_28 rfl (r := 30) rfl ?_
        refine st_iload_n g dX7_later_31 rfl ?_
        refine st_iconst g dX7_later_32 ic_1 ?_
        obtain ⟨r7, hr7, H⟩ := bind_some H
        refine st_callVI g (as := [.int a1, .int 1]) dX7_later_33 rfl rfl ml_X7_163 mf_X6_refusal rfl (Nat.le_of_ble_eq_true rfl) (Nat.le_of_ble_eq_true rfl) (c_X6_refusal a1 1 h _ hr7) (fun hz => ?_)
        refine st_istore g dX7_later_36 (Nat.le_of_ble_eq_true rfl) rfl (ls2 := [.ref 0, .int a1, .int a2, .int a3, .int r7]) rfl ?_
        refine st_iload g dX7_later_38 rfl ?_
        refine st_if_eq g dX7_later_40 (tgt := 46) (by decide) H (fun q8 H => ?_) (fun q8 H => ?_)
        · refine st_aload_n g dX7_later_46 rfl ?_
          refine st_iload_n g dX7_later_47 rfl ?_
          refine st_iload_n g dX7_later_48 rfl ?_
          obtain ⟨r9, hr9, H⟩ := bind_some H
          refine st_callVI g (as := [.int a1, .int a2]) dX7_later_49 rfl rfl ml_X7_166 mf_X7_think rfl (Nat.le_of_ble_eq_true rfl) (Nat.le_of_ble_eq_true rfl) (c_X7_think a1 a2 h _ hr9) (fun hz => ?_)
          refine st_pop g dX7_later_52 rfl ?_
          refine st_aload_n g dX7_later_53 rfl ?_
          refine gf_X7_30 g dX7_later_54 rfl (r := 17) rfl ?_
          refine gf_X7_169 g dX7_later_57 rfl (r := 18) rfl ?_
          refine st_iload_n g dX7_later_60 rfl ?_
          refine st_iald g dX7_later_61 H (fun v10 H => ?_)
          obtain rfl := Option.some.inj H
          exact st_iret g dX7_later_62 rfl (fun q => by cases q) K
        · refine st_iload g dX7_later_43 rfl ?_
          obtain rfl := Option.some.inj H
          exact st_iret g dX7_later_45 rfl (fun q => by cases q) K
      · refine st_iconst g dX7_later_25 ic_m1 ?_
        obtain rfl := Option.some.inj H
        exact st_iret g dX7_later_26 rfl (fun q => by cases q) K
theorem c_X7_later (a1 : Int32) (a2 : Int32) (a3 : Int32) (h : Hp) (r : (Int32 × Hp)) (H : f_X7_later a1 a2 a3 h = some r) : CtI yX7_later cX7_later 5 .int 7 [.ref 0, .int a1, .int a2, .int a3] h r.1 r.2 :=
  ct_ofI (own := RX7) [.ref 0, .int a1, .int a2, .int a3, .null] (by decide +kernel) rfl (fun ρ => Nat.le_of_ble_eq_true rfl) (fun ρ => rfl) (fun x g K => t_X7_later g a1 a2 a3 h r H K)
def f_X7_street (a1 : Int32) (a2 : Int32) (a3 : Int32) (h : Hp) : Option (Int32 × Hp) :=
  (f_X6_isShelf a1).bind fun r1 =>
  if r1 = 0 then
    some ((-1), h)
  else
    (f_X7_isCalls a2).bind fun r3 =>
    if r3 = 0 then
      some ((-1), h)
    else
      if a3 < 0 then
        some ((-1), h)
      else
        if a3 ≤ 3 then
          (f_X6_refusal a1 1 h).bind fun r7 =>
          if r7 = 0 then
            (f_X7_think a1 a2 h).bind fun r9 =>
            if a3 = 0 then
              some (r9.2.1 17 3, r9.2)
            else
            if a3 = 1 then
              (f_X5_total 17 r9.2).bind fun r12 =>
              some (r12, r9.2)
            else
            if a3 = 2 then
              some (r9.1, r9.2)
            else
              (f_X5_alike 17 r9.2).bind fun r14 =>
              some (r14, r9.2)
          else
            some (r7, h)
        else
          some ((-1), h)
theorem t_X7_street {x : Cx} (g : Gx x RX7 cX7_street 6 7) (a1 : Int32) (a2 : Int32) (a3 : Int32) (h : Hp) (out : (Int32 × Hp)) (H : f_X7_street a1 a2 a3 h = some out) (K : RtI x .int out.1 out.2) : WA x 0 [.ref 0, .int a1, .int a2, .int a3, .null, .null] [] h := by
  unfold f_X7_street at H
  refine st_aload_n g dX7_street_0 rfl ?_
  refine gf_X7_54 g dX7_street_1 rfl (r := 30) rfl ?_
  refine st_iload_n g dX7_street_4 rfl ?_
  obtain ⟨r1, hr1, H⟩ := bind_some H
  refine st_callVI g (as := [.int a1]) dX7_street_5 rfl rfl ml_X7_107 mf_X6_isShelf rfl (Nat.le_of_ble_eq_true rfl) (Nat.le_of_ble_eq_true rfl) (c_X6_isShelf a1 h _ hr1) (fun hz => ?_)
  have br1 := hz rfl
  refine st_if_eq g dX7_street_8 (tgt := 27) (by decide) H (fun q2 H => ?_) (fun q2 H => ?_)
  · refine st_iconst g dX7_street_27 ic_m1 ?_
    obtain rfl := Option.some.inj H
    exact st_iret g dX7_street_28 rfl (fun q => by cases q) K
  · refine st_iload_n g dX7_street_11 rfl ?_
    obtain ⟨r3, hr3, H⟩ := bind_some H
    refine st_callSI g (as := [.int a2]) dX7_street_12 ml_X7_160 mf_X7_isCalls rfl (Nat.le_of_ble_eq_true rfl) (Nat.le_of_ble_eq_true rfl) (c_X7_isCalls a2 h _ hr3) (fun hz => ?_)
    have br3 := hz rfl
    refine st_if_eq g dX7_street_15 (tgt := 27) (by decide) H (fun q4 H => ?_) (fun q4 H => ?_)
    · refine st_iconst g dX7_street_27 ic_m1 ?_
      obtain rfl := Option.some.inj H
      exact st_iret g dX7_street_28 rfl (fun q => by cases q) K
    · refine st_iload_n g dX7_street_18 rfl ?_
      refine st_if_lt g dX7_street_19 (tgt := 27) (by decide) H (fun q5 H => ?_) (fun q5 H => ?_)
      · refine st_iconst g dX7_street_27 ic_m1 ?_
        obtain rfl := Option.some.inj H
        exact st_iret g dX7_street_28 rfl (fun q => by cases q) K
      · refine st_iload_n g dX7_street_22 rfl ?_
        refine st_iconst g dX7_street_23 ic_3 ?_
        refine st_ic_le g dX7_street_24 (tgt := 29) (by decide) H (fun q6 H => ?_) (fun q6 H => ?_)
        · refine st_aload_n g dX7_street_29 rfl ?_
          refine gf_X7_54 g dX7_street_30 rfl (r := 30) rfl ?_
          refine st_iload_n g dX7_street_33 rfl ?_
          refine st_iconst g dX7_street_34 ic_1 ?_
          obtain ⟨r7, hr7, H⟩ := bind_some H
          refine st_callVI g (as := [.int a1, .int 1]) dX7_street_35 rfl rfl ml_X7_163 mf_X6_refusal rfl (Nat.le_of_ble_eq_true rfl) (Nat.le_of_ble_eq_true rfl) (c_X6_refusal a1 1 h _ hr7) (fun hz => ?_)
          refine st_istore g dX7_street_38 (Nat.le_of_ble_eq_true rfl) rfl (ls2 := [.ref 0, .int a1, .int a2, .int a3, .int r7, .null]) rfl ?_
          refine st_iload g dX7_street_40 rfl ?_
          refine st_if_eq g dX7_street_42 (tgt := 48) (by decide) H (fun q8 H => ?_) (fun q8 H => ?_)
          · refine st_aload_n g dX7_street_48 rfl ?_
            refine st_iload_n g dX7_street_49 rfl ?_
            refine st_iload_n g dX7_street_50 rfl ?_
            obtain ⟨r9, hr9, H⟩ := bind_some H
            refine st_callVI g (as := [.int a1, .int a2]) dX7_street_51 rfl rfl ml_X7_166 mf_X7_think rfl (Nat.le_of_ble_eq_true rfl) (Nat.le_of_ble_eq_true rfl) (c_X7_think a1 a2 h _ hr9) (fun hz => ?_)
            refine st_istore g dX7_street_54 (Nat.le_of_ble_eq_true rfl) rfl (ls2 := [.ref 0, .int a1, .int a2, .int a3, .int r7, .int r9.1]) rfl ?_
            refine st_iload_n g dX7_street_56 rfl ?_
            by_cases q10 : a3 = 0
            · rw [if_pos q10] at H
              refine st_tsw g dX7_street_57 (tgt := 84) q10 (by decide) (by decide) rfl (by decide) ?_
              refine st_aload_n g dX7_street_84 rfl ?_
              refine gf_X7_30 g dX7_street_85 rfl (r := 17) rfl ?_
              refine gf_X7_172 g dX7_street_88 rfl ?_
              obtain rfl := Option.some.inj H
              exact st_iret g dX7_street_91 rfl (fun q => by cases q) K
            · rw [if_neg q10] at H
              by_cases q11 : a3 = 1
              · rw [if_pos q11] at H
                refine st_tsw g dX7_street_57 (tgt := 92) q11 (by decide) (by decide) rfl (by decide) ?_
                refine st_aload_n g dX7_street_92 rfl ?_
                refine gf_X7_30 g dX7_street_93 rfl (r := 17) rfl ?_
                obtain ⟨r12, hr12, H⟩ := bind_some H
                refine st_callVI g (as := []) dX7_street_96 rfl rfl ml_X7_175 mf_X5_total rfl (Nat.le_of_ble_eq_true rfl) (Nat.le_of_ble_eq_true rfl) (c_X5_total 17 r9.2 _ hr12) (fun hz => ?_)
                obtain rfl := Option.some.inj H
                exact st_iret g dX7_street_99 rfl (fun q => by cases q) K
              · rw [if_neg q11] at H
                by_cases q13 : a3 = 2
                · rw [if_pos q13] at H
                  refine st_tsw g dX7_street_57 (tgt := 100) q13 (by decide) (by decide) rfl (by decide) ?_
                  refine st_iload g dX7_street_100 rfl ?_
                  obtain rfl := Option.some.inj H
                  exact st_iret g dX7_street_102 rfl (fun q => by cases q) K
                · rw [if_neg q13] at H
                  have zq10 := lv_neT q10 (show (0 : Int32).toInt = 0 by decide)
                  have zq11 := lv_neT q11 (show (1 : Int32).toInt = 1 by decide)
                  have zq13 := lv_neT q13 (show (2 : Int32).toInt = 2 by decide)
                  refine st_tswD g dX7_street_57 (tgt := 103) (by omega) (by decide) ?_
                  refine st_aload_n g dX7_street_103 rfl ?_
                  refine gf_X7_30 g dX7_street_104 rfl (r := 17) rfl ?_
                  obtain ⟨r14, hr14, H⟩ := bind_some H
                  refine st_callVI g (as := []) dX7_street_107 rfl rfl ml_X7_178 mf_X5_alike rfl (Nat.le_of_ble_eq_true rfl) (Nat.le_of_ble_eq_true rfl) (c_X5_alike 17 r9.2 _ hr14) (fun hz => ?_)
                  obtain rfl := Option.some.inj H
                  exact st_iret g dX7_street_110 rfl (fun q => by cases q) K
          · refine st_iload g dX7_street_45 rfl ?_
            obtain rfl := Option.some.inj H
            exact st_iret g dX7_street_47 rfl (fun q => by cases q) K
        · refine st_iconst g dX7_street_27 ic_m1 ?_
          obtain rfl := Option.some.inj H
          exact st_iret g dX7_street_28 rfl (fun q => by cases q) K
theorem c_X7_street (a1 : Int32) (a2 : Int32) (a3 : Int32) (h : Hp) (r : (Int32 × Hp)) (H : f_X7_street a1 a2 a3 h = some r) : CtI yX7_street cX7_street 6 .int 7 [.ref 0, .int a1, .int a2, .int a3] h r.1 r.2 :=
  ct_ofI (own := RX7) [.ref 0, .int a1, .int a2, .int a3, .null, .null] (by decide +kernel) rfl (fun ρ => Nat.le_of_ble_eq_true rfl) (fun ρ => rfl) (fun x g K => t_X7_street g a1 a2 a3 h r H K)
def f_X7_fewest (a1 : Int32) (h : Hp) : Option (Int32 × Hp) :=
  if (-1) ≤ a1 then
    (f_X7_searchFewest h).bind fun r2 =>
    if r2.1 = (-2) then
      some (r2.1, r2.2)
    else
      if a1 = (-1) then
        some (r2.1, r2.2)
      else
        if r2.1 ≤ a1 then
          some ((-2), r2.2)
        else
          (lnI 49).bind fun v6 =>
          if v6 ≤ a1 then
            some ((-2), r2.2)
          else
            (rdI r2.2 49 a1).bind fun v8 =>
            some (v8, r2.2)
  else
    some ((-1), h)
theorem t_X7_fewest {x : Cx} (g : Gx x RX7 cX7_fewest 3 7) (a1 : Int32) (h : Hp) (out : (Int32 × Hp)) (H : f_X7_fewest a1 h = some out) (K : RtI x .int out.1 out.2) : WA x 0 [.ref 0, .int a1, .null] [] h := by
  unfold f_X7_fewest at H
  refine st_iload_n g dX7_fewest_0 rfl ?_
  refine st_iconst g dX7_fewest_1 ic_m1 ?_
  refine st_ic_ge g dX7_fewest_2 (tgt := 7) (by decide) H (fun q1 H => ?_) (fun q1 H => ?_)
  · refine st_aload_n g dX7_fewest_7 rfl ?_
    obtain ⟨r2, hr2, H⟩ := bind_some H
    refine st_callVI g (as := []) dX7_fewest_8 rfl rfl ml_X7_184 mf_X7_searchFewest rfl (Nat.le_of_ble_eq_true rfl) (Nat.le_of_ble_eq_true rfl) (c_X7_searchFewest h _ hr2) (fun hz => ?_)
    refine st_istore_n g dX7_fewest_11 (Nat.le_of_ble_eq_true rfl) rfl (ls2 := [.ref 0, .int a1, .int r2.1]) rfl ?_
    refine st_iload_n g dX7_fewest_12 rfl ?_
    refine st_bipush g dX7_fewest_13 bi_m2 ?_
    refine st_ic_eq g dX7_fewest_15 (tgt := 23) (by decide) H (fun q3 H => ?_) (fun q3 H => ?_)
    · refine st_iload_n g dX7_fewest_23 rfl ?_
      obtain rfl := Option.some.inj H
      exact st_iret g dX7_fewest_24 rfl (fun q => by cases q) K
    · refine st_iload_n g dX7_fewest_18 rfl ?_
      refine st_iconst g dX7_fewest_19 ic_m1 ?_
      refine st_ic_ne g dX7_fewest_20 (tgt := 25) (by decide) H (fun q4 H => ?_) (fun q4 H => ?_)
      · refine st_iload_n g dX7_fewest_25 rfl ?_
        refine st_iload_n g dX7_fewest_26 rfl ?_
        refine st_ic_ge g dX7_fewest_27 (tgt := 48) (by decide) H (fun q5 H => ?_) (fun q5 H => ?_)
        · refine st_bipush g dX7_fewest_48 bi_m2 ?_
          obtain rfl := Option.some.inj H
          exact st_iret g dX7_fewest_50 rfl (fun q => by cases q) K
        · refine st_iload_n g dX7_fewest_30 rfl ?_
          refine st_aload_n g dX7_fewest_31 rfl ?_
          refine gf_X7_72 g dX7_fewest_32 rfl (r := 49) rfl ?_
          refine st_alen g dX7_fewest_35 H (fun v6 H => ?_)
          refine st_ic_ge g dX7_fewest_36 (tgt := 48) (by decide) H (fun q7 H => ?_) (fun q7 H => ?_)
          · refine st_bipush g dX7_fewest_48 bi_m2 ?_
            obtain rfl := Option.some.inj H
            exact st_iret g dX7_fewest_50 rfl (fun q => by cases q) K
          · refine st_aload_n g dX7_fewest_39 rfl ?_
            refine gf_X7_72 g dX7_fewest_40 rfl (r := 49) rfl ?_
            refine st_iload_n g dX7_fewest_43 rfl ?_
            refine st_iald g dX7_fewest_44 H (fun v8 H => ?_)
            refine st_goto g dX7_fewest_45 (tgt := 50) (by decide) ?_
            obtain rfl := Option.some.inj H
            exact st_iret g dX7_fewest_50 rfl (fun q => by cases q) K
      · refine st_iload_n g dX7_fewest_23 rfl ?_
        obtain rfl := Option.some.inj H
        exact st_iret g dX7_fewest_24 rfl (fun q => by cases q) K
  · refine st_iconst g dX7_fewest_5 ic_m1 ?_
    obtain rfl := Option.some.inj H
    exact st_iret g dX7_fewest_6 rfl (fun q => by cases q) K
theorem c_X7_fewest (a1 : Int32) (h : Hp) (r : (Int32 × Hp)) (H : f_X7_fewest a1 h = some r) : CtI yX7_fewest cX7_fewest 3 .int 7 [.ref 0, .int a1] h r.1 r.2 :=
  ct_ofI (own := RX7) [.ref 0, .int a1, .null] (by decide +kernel) rfl (fun ρ => Nat.le_of_ble_eq_true rfl) (fun ρ => rfl) (fun x g K => t_X7_fewest g a1 h r H K)
def f_X7_judge (a1 : Int32) (a2 : Int32) (h : Hp) : Option (Int32 × Hp) :=
  (f_X7_areShelves a1).bind fun r1 =>
  if r1 = 0 then
    some ((-1), h)
  else
    (f_X7_isHouse a2).bind fun r3 =>
    if r3 = 0 then
      some ((-1), h)
    else
      (f_X7_paintedRefusal a1 h).bind fun r5 =>
      if r5 = 0 then
        (f_X7_firstUnlike (a1 / 10) (a1 % 10) a2 h).bind fun r7 =>
        some (r7.1, r7.2)
      else
        some (r5, h)
theorem t_X7_judge {x : Cx} (g : Gx x RX7 cX7_judge 4 7) (a1 : Int32) (a2 : Int32) (h : Hp) (out : (Int32 × Hp)) (H : f_X7_judge a1 a2 h = some out) (K : RtI x .int out.1 out.2) : WA x 0 [.ref 0, .int a1, .int a2, .null] [] h := by
  unfold f_X7_judge at H
  refine st_aload_n g dX7_judge_0 rfl ?_
  refine st_iload_n g dX7_judge_1 rfl ?_
  obtain ⟨r1, hr1, H⟩ := bind_some H
  refine st_callVI g (as := [.int a1]) dX7_judge_2 rfl rfl ml_X7_239 mf_X7_areShelves rfl (Nat.le_of_ble_eq_true rfl) (Nat.le_of_ble_eq_true rfl) (c_X7_areShelves a1 h _ hr1) (fun hz => ?_)
  have br1 := hz rfl
  refine st_if_eq g dX7_judge_5 (tgt := 15) (by decide) H (fun q2 H => ?_) (fun q2 H => ?_)
  · refine st_iconst g dX7_judge_15 ic_m1 ?_
    obtain rfl := Option.some.inj H
    exact st_iret g dX7_judge_16 rfl (fun q => by cases q) K
  · refine st_iload_n g dX7_judge_8 rfl ?_
    obtain ⟨r3, hr3, H⟩ := bind_some H
    refine st_callSI g (as := [.int a2]) dX7_judge_9 ml_X7_85 mf_X7_isHouse rfl (Nat.le_of_ble_eq_true rfl) (Nat.le_of_ble_eq_true rfl) (c_X7_isHouse a2 h _ hr3) (fun hz => ?_)
    have br3 := hz rfl
    refine st_if_ne g dX7_judge_12 (tgt := 17) (by decide) H (fun q4 H => ?_) (fun q4 H => ?_)
    · refine st_aload_n g dX7_judge_17 rfl ?_
      refine st_iload_n g dX7_judge_18 rfl ?_
      obtain ⟨r5, hr5, H⟩ := bind_some H
      refine st_callVI g (as := [.int a1]) dX7_judge_19 rfl rfl ml_X7_242 mf_X7_paintedRefusal rfl (Nat.le_of_ble_eq_true rfl) (Nat.le_of_ble_eq_true rfl) (c_X7_paintedRefusal a1 h _ hr5) (fun hz => ?_)
      refine st_istore_n g dX7_judge_22 (Nat.le_of_ble_eq_true rfl) rfl (ls2 := [.ref 0, .int a1, .int a2, .int r5]) rfl ?_
      refine st_iload_n g dX7_judge_23 rfl ?_
      refine st_if_eq g dX7_judge_24 (tgt := 29) (by decide) H (fun q6 H => ?_) (fun q6 H => ?_)
      · refine st_aload_n g dX7_judge_29 rfl ?_
        refine st_iload_n g dX7_judge_30 rfl ?_
        refine st_bipush g dX7_judge_31 bi_10 ?_
        refine st_idiv g dX7_judge_33 (by decide) ?_
        refine st_iload_n g dX7_judge_34 rfl ?_
        refine st_bipush g dX7_judge_35 bi_10 ?_
        refine st_irem g dX7_judge_37 (by decide) ?_
        refine st_iload_n g dX7_judge_38 rfl ?_
        obtain ⟨r7, hr7, H⟩ := bind_some H
        refine st_callVI g (as := [.int (a1 / 10), .int (a1 % 10), .int a2]) dX7_judge_39 rfl rfl ml_X7_245 mf_X7_firstUnlike rfl (Nat.le_of_ble_eq_true rfl) (Nat.le_of_ble_eq_true rfl) (c_X7_firstUnlike (a1 / 10) (a1 % 10) a2 h _ hr7) (fun hz => ?_)
        obtain rfl := Option.some.inj H
        exact st_iret g dX7_judge_42 rfl (fun q => by cases q) K
      · refine st_iload_n g dX7_judge_27 rfl ?_
        obtain rfl := Option.some.inj H
        exact st_iret g dX7_judge_28 rfl (fun q => by cases q) K
    · refine st_iconst g dX7_judge_15 ic_m1 ?_
      obtain rfl := Option.some.inj H
      exact st_iret g dX7_judge_16 rfl (fun q => by cases q) K
theorem c_X7_judge (a1 : Int32) (a2 : Int32) (h : Hp) (r : (Int32 × Hp)) (H : f_X7_judge a1 a2 h = some r) : CtI yX7_judge cX7_judge 4 .int 7 [.ref 0, .int a1, .int a2] h r.1 r.2 :=
  ct_ofI (own := RX7) [.ref 0, .int a1, .int a2, .null] (by decide +kernel) rfl (fun ρ => Nat.le_of_ble_eq_true rfl) (fun ρ => rfl) (fun x g K => t_X7_judge g a1 a2 h r H K)
def P_X7_fits_151 (x : Cx) (a1 : Int32) (a2 : Int32) (a3 : Int32) (a4 : Int32) (a8 : Int32) (a11 : Int32) (s : (Int32 × Int32 × Int32 × Hp)) : Prop := WA x 151 [.ref 0, .int a1, .int a2, .int a3, .int a4, .null, .null, .ref 6, .int a8, .int s.1, .int s.2.1, .int a11, .int s.2.2.1] [] s.2.2.2
def E_X7_fits_151 (x : Cx) (a1 : Int32) (a2 : Int32) (a3 : Int32) (a4 : Int32) (a8 : Int32) (a11 : Int32) : (Int32 × Int32 × Int32 × Hp) → Prop := fun s : (Int32 × Int32 × Int32 × Hp) => WA x 203 [.null, .null, .null, .int a3, .int a4, .null, .null, .ref 6, .int a8, .int s.1, .int s.2.1, .null, .null] [] s.2.2.2
def b_X7_fits_151 (a1 : Int32) (a2 : Int32) (a3 : Int32) (a4 : Int32) (a8 : Int32) (a11 : Int32) (s : (Int32 × Int32 × Int32 × Hp)) : Option ((Int32 × Int32 × Int32 × Hp) ⊕ (Int32 × Int32 × Int32 × Hp)) :=
  if a11 < s.2.2.1 then
    some (.inr (s.1, s.2.1, s.2.2.1, s.2.2.2))
  else
    (wrI s.2.2.2 6 a3 s.2.2.1).bind fun h18 =>
    (f_X7_firstUnlike (a1 / 10) (a1 % 10) a2 h18).bind fun r19 =>
    if r19.1 = (-2) then
      if s.1 = 0 then
        some (.inl (s.1 + 1, s.2.2.1, s.2.2.1 + 1, r19.2))
      else
        some (.inl (s.1 + 1, s.2.1, s.2.2.1 + 1, r19.2))
    else
      some (.inl (s.1, s.2.1, s.2.2.1 + 1, r19.2))
theorem tb_X7_fits_151 {x : Cx} (g : Gx x RX7 cX7_fits 13 7) (a1 : Int32) (a2 : Int32) (a3 : Int32) (a4 : Int32) (a8 : Int32) (a11 : Int32) (s : (Int32 × Int32 × Int32 × Hp)) (out : (Int32 × Int32 × Int32 × Hp) ⊕ (Int32 × Int32 × Int32 × Hp)) (H : b_X7_fits_151 a1 a2 a3 a4 a8 a11 s = some out) (K : Sum.elim (P_X7_fits_151 x a1 a2 a3 a4 a8 a11) (E_X7_fits_151 x a1 a2 a3 a4 a8 a11) out) : P_X7_fits_151 x a1 a2 a3 a4 a8 a11 s := by
  unfold b_X7_fits_151 at H
  show WA x 151 [.ref 0, .int a1, .int a2, .int a3, .int a4, .null, .null, .ref 6, .int a8, .int s.1, .int s.2.1, .int a11, .int s.2.2.1] [] s.2.2.2
  refine st_iload g dX7_fits_151 rfl ?_
  refine st_iload g dX7_fits_153 rfl ?_
  refine st_ic_gt g dX7_fits_155 (tgt := 203) (by decide) H (fun q17 H => ?_) (fun q17 H => ?_)
  · obtain rfl := Option.some.inj H
    exact (wa_drop [0, 1, 2, 11, 12] K)
  · refine st_aload g dX7_fits_158 rfl ?_
    refine st_iload_n g dX7_fits_160 rfl ?_
    refine st_iload g dX7_fits_161 rfl ?_
    refine st_iast g dX7_fits_163 H (fun h18 H => ?_)
    refine st_aload_n g dX7_fits_164 rfl ?_
    refine st_iload_n g dX7_fits_165 rfl ?_
    refine st_bipush g dX7_fits_166 bi_10 ?_
    refine st_idiv g dX7_fits_168 (by decide) ?_
    refine st_iload_n g dX7_fits_169 rfl ?_
    refine st_bipush g dX7_fits_170 bi_10 ?_
    refine st_irem g dX7_fits_172 (by decide) ?_
    refine st_iload_n g dX7_fits_173 rfl ?_
    obtain ⟨r19, hr19, H⟩ := bind_some H
    refine st_callVI g (as := [.int (a1 / 10), .int (a1 % 10), .int a2]) dX7_fits_174 rfl rfl ml_X7_245 mf_X7_firstUnlike rfl (Nat.le_of_ble_eq_true rfl) (Nat.le_of_ble_eq_true rfl) (c_X7_firstUnlike (a1 / 10) (a1 % 10) a2 h18 _ hr19) (fun hz => ?_)
    refine st_bipush g dX7_fits_177 bi_m2 ?_
    refine st_ic_eq g dX7_fits_179 (tgt := 185) (by decide) H (fun q20 H => ?_) (fun q20 H => ?_)
    · refine st_iload g dX7_fits_185 rfl ?_
      refine st_if_ne g dX7_fits_187 (tgt := 194) (by decide) H (fun q21 H => ?_) (fun q21 H => ?_)
      · refine st_iinc g dX7_fits_194 rfl (ii_1 _) (Nat.le_of_ble_eq_true rfl) rfl (ls2 := [.ref 0, .int a1, .int a2, .int a3, .int a4, .null, .null, .ref 6, .int a8, .int (s.1 + 1), .int s.2.1, .int a11, .int s.2.2.1]) rfl ?_
        refine st_iinc g dX7_fits_197 rfl (ii_1 _) (Nat.le_of_ble_eq_true rfl) rfl (ls2 := [.ref 0, .int a1, .int a2, .int a3, .int a4, .null, .null, .ref 6, .int a8, .int (s.1 + 1), .int s.2.1, .int a11, .int (s.2.2.1 + 1)]) rfl ?_
        refine st_goto g dX7_fits_200 (tgt := 151) (by decide) ?_
        obtain rfl := Option.some.inj H
        exact K
      · refine st_iload g dX7_fits_190 rfl ?_
        refine st_istore g dX7_fits_192 (Nat.le_of_ble_eq_true rfl) rfl (ls2 := [.ref 0, .int a1, .int a2, .int a3, .int a4, .null, .null, .ref 6, .int a8, .int s.1, .int s.2.2.1, .int a11, .int s.2.2.1]) rfl ?_
        refine st_iinc g dX7_fits_194 rfl (ii_1 _) (Nat.le_of_ble_eq_true rfl) rfl (ls2 := [.ref 0, .int a1, .int a2, .int a3, .int a4, .null, .null, .ref 6, .int a8, .int (s.1 + 1), .int s.2.2.1, .int a11, .int s.2.2.1]) rfl ?_
        refine st_iinc g dX7_fits_197 rfl (ii_1 _) (Nat.le_of_ble_eq_true rfl) rfl (ls2 := [.ref 0, .int a1, .int a2, .int a3, .int a4, .null, .null, .ref 6, .int a8, .int (s.1 + 1), .int s.2.2.1, .int a11, .int (s.2.2.1 + 1)]) rfl ?_
        refine st_goto g dX7_fits_200 (tgt := 151) (by decide) ?_
        obtain rfl := Option.some.inj H
        exact K
    · refine st_goto g dX7_fits_182 (tgt := 197) (by decide) ?_
      refine st_iinc g dX7_fits_197 rfl (ii_1 _) (Nat.le_of_ble_eq_true rfl) rfl (ls2 := [.ref 0, .int a1, .int a2, .int a3, .int a4, .null, .null, .ref 6, .int a8, .int s.1, .int s.2.1, .int a11, .int (s.2.2.1 + 1)]) rfl ?_
      refine st_goto g dX7_fits_200 (tgt := 151) (by decide) ?_
      obtain rfl := Option.some.inj H
      exact K
def j_X7_fits_149 (a1 : Int32) (a2 : Int32) (a3 : Int32) (a4 : Int32) (a8 : Int32) (a9 : Int32) (a10 : Int32) (a11 : Int32) (t0 : Int32) (h : Hp) : Option ((Int32 × Hp)) :=
  (iter (b_X7_fits_151 a1 a2 a3 a4 a8 a11) FU (a9, a10, t0, h)).bind fun a22 =>
  (wrI a22.2.2.2 6 a3 a8).bind fun h23 =>
  if (a4 % 2) = 0 then
    some (a22.1, h23)
  else
    some (a22.2.1, h23)
theorem tj_X7_fits_149 {x : Cx} (g : Gx x RX7 cX7_fits 13 7) (a1 : Int32) (a2 : Int32) (a3 : Int32) (a4 : Int32) (a8 : Int32) (a9 : Int32) (a10 : Int32) (a11 : Int32) (t0 : Int32) (h : Hp) (out : (Int32 × Hp)) (H : j_X7_fits_149 a1 a2 a3 a4 a8 a9 a10 a11 t0 h = some out) (K : RtI x .int out.1 out.2) : WA x 149 [.ref 0, .int a1, .int a2, .int a3, .int a4, .null, .null, .ref 6, .int a8, .int a9, .int a10, .int a11, .null] [.int t0] h := by
  unfold j_X7_fits_149 at H
  refine st_istore g dX7_fits_149 (Nat.le_of_ble_eq_true rfl) rfl (ls2 := [.ref 0, .int a1, .int a2, .int a3, .int a4, .null, .null, .ref 6, .int a8, .int a9, .int a10, .int a11, .int t0]) rfl ?_
  show P_X7_fits_151 x a1 a2 a3 a4 a8 a11 (a9, a10, t0, h)
  obtain ⟨a22, ha22, H⟩ := bind_some H
  refine iter_W (P := P_X7_fits_151 x a1 a2 a3 a4 a8 a11) (E := E_X7_fits_151 x a1 a2 a3 a4 a8 a11) (fun s9 o9 ho9 hK9 => tb_X7_fits_151 g a1 a2 a3 a4 a8 a11 s9 o9 ho9 hK9) FU _ a22 ha22 ?_
  show WA x 203 [.null, .null, .null, .int a3, .int a4, .null, .null, .ref 6, .int a8, .int a22.1, .int a22.2.1, .null, .null] [] a22.2.2.2
  refine st_aload g dX7_fits_203 rfl ?_
  refine st_iload_n g dX7_fits_205 rfl ?_
  refine st_iload g dX7_fits_206 rfl ?_
  refine st_iast g dX7_fits_208 H (fun h23 H => ?_)
  refine st_iload g dX7_fits_209 rfl ?_
  refine st_iconst g dX7_fits_211 ic_2 ?_
  refine st_irem g dX7_fits_212 (by decide) ?_
  refine st_if_ne g dX7_fits_213 (tgt := 221) (by decide) H (fun q24 H => ?_) (fun q24 H => ?_)
  · refine st_iload g dX7_fits_221 rfl ?_
    obtain rfl := Option.some.inj H
    exact st_iret g dX7_fits_223 rfl (fun q => by cases q) K
  · refine st_iload g dX7_fits_216 rfl ?_
    refine st_goto g dX7_fits_218 (tgt := 223) (by decide) ?_
    obtain rfl := Option.some.inj H
    exact st_iret g dX7_fits_223 rfl (fun q => by cases q) K
def j_X7_fits_137 (a1 : Int32) (a2 : Int32) (a3 : Int32) (a4 : Int32) (a5 : Int32) (a8 : Int32) (a9 : Int32) (a10 : Int32) (t0 : Int32) (h : Hp) : Option ((Int32 × Hp)) :=
  if a5 = 0 then
    j_X7_fits_149 a1 a2 a3 a4 a8 a9 a10 t0 1 h
  else
    j_X7_fits_149 a1 a2 a3 a4 a8 a9 a10 t0 0 h
theorem tj_X7_fits_137 {x : Cx} (g : Gx x RX7 cX7_fits 13 7) (a1 : Int32) (a2 : Int32) (a3 : Int32) (a4 : Int32) (a5 : Int32) (a8 : Int32) (a9 : Int32) (a10 : Int32) (t0 : Int32) (h : Hp) (out : (Int32 × Hp)) (H : j_X7_fits_137 a1 a2 a3 a4 a5 a8 a9 a10 t0 h = some out) (K : RtI x .int out.1 out.2) : WA x 137 [.ref 0, .int a1, .int a2, .int a3, .int a4, .int a5, .null, .ref 6, .int a8, .int a9, .int a10, .null, .null] [.int t0] h := by
  unfold j_X7_fits_137 at H
  refine st_istore g dX7_fits_137 (Nat.le_of_ble_eq_true rfl) rfl (ls2 := [.ref 0, .int a1, .int a2, .int a3, .int a4, .int a5, .null, .ref 6, .int a8, .int a9, .int a10, .int t0, .null]) rfl ?_
  refine st_iload g dX7_fits_139 rfl ?_
  refine st_if_eq g dX7_fits_141 (tgt := 148) (by decide) H (fun q16 H => ?_) (fun q16 H => ?_)
  · refine st_iconst g dX7_fits_148 ic_1 ?_
    exact (wa_drop [5] (tj_X7_fits_149 g a1 a2 a3 a4 a8 a9 a10 t0 1 h _ H K))
  · refine st_iconst g dX7_fits_144 ic_0 ?_
    refine st_goto g dX7_fits_145 (tgt := 149) (by decide) ?_
    exact (wa_drop [5] (tj_X7_fits_149 g a1 a2 a3 a4 a8 a9 a10 t0 0 h _ H K))
def j_X7_fits_110 (a1 : Int32) (a2 : Int32) (a3 : Int32) (a4 : Int32) (a5 : Int32) (h : Hp) : Option ((Int32 × Hp)) :=
  (rdI h 6 a3).bind fun v14 =>
  if a5 = 0 then
    j_X7_fits_137 a1 a2 a3 a4 a5 v14 0 (-2) 9 h
  else
    j_X7_fits_137 a1 a2 a3 a4 a5 v14 0 (-2) 12 h
theorem tj_X7_fits_110 {x : Cx} (g : Gx x RX7 cX7_fits 13 7) (a1 : Int32) (a2 : Int32) (a3 : Int32) (a4 : Int32) (a5 : Int32) (h : Hp) (out : (Int32 × Hp)) (H : j_X7_fits_110 a1 a2 a3 a4 a5 h = some out) (K : RtI x .int out.1 out.2) : WA x 110 [.ref 0, .int a1, .int a2, .int a3, .int a4, .int a5, .null, .null, .null, .null, .null, .null, .null] [.ref 6] h := by
  unfold j_X7_fits_110 at H
  refine st_astore g dX7_fits_110 (Nat.le_of_ble_eq_true rfl) rfl (ls2 := [.ref 0, .int a1, .int a2, .int a3, .int a4, .int a5, .null, .ref 6, .null, .null, .null, .null, .null]) rfl ?_
  refine st_aload g dX7_fits_112 rfl ?_
  refine st_iload_n g dX7_fits_114 rfl ?_
  refine st_iald g dX7_fits_115 H (fun v14 H => ?_)
  refine st_istore g dX7_fits_116 (Nat.le_of_ble_eq_true rfl) rfl (ls2 := [.ref 0, .int a1, .int a2, .int a3, .int a4, .int a5, .null, .ref 6, .int v14, .null, .null, .null, .null]) rfl ?_
  refine st_iconst g dX7_fits_118 ic_0 ?_
  refine st_istore g dX7_fits_119 (Nat.le_of_ble_eq_true rfl) rfl (ls2 := [.ref 0, .int a1, .int a2, .int a3, .int a4, .int a5, .null, .ref 6, .int v14, .int 0, .null, .null, .null]) rfl ?_
  refine st_bipush g dX7_fits_121 bi_m2 ?_
  refine st_istore g dX7_fits_123 (Nat.le_of_ble_eq_true rfl) rfl (ls2 := [.ref 0, .int a1, .int a2, .int a3, .int a4, .int a5, .null, .ref 6, .int v14, .int 0, .int (-2), .null, .null]) rfl ?_
  refine st_iload g dX7_fits_125 rfl ?_
  refine st_if_eq g dX7_fits_127 (tgt := 135) (by decide) H (fun q15 H => ?_) (fun q15 H => ?_)
  · refine st_bipush g dX7_fits_135 bi_9 ?_
    exact (tj_X7_fits_137 g a1 a2 a3 a4 a5 v14 0 (-2) 9 h _ H K)
  · refine st_bipush g dX7_fits_130 bi_12 ?_
    refine st_goto g dX7_fits_132 (tgt := 137) (by decide) ?_
    exact (tj_X7_fits_137 g a1 a2 a3 a4 a5 v14 0 (-2) 12 h _ H K)
def P_X7_fits_151b (x : Cx) (a1 : Int32) (a2 : Int32) (a3 : Int32) (a4 : Int32) (a8 : Int32) (a11 : Int32) (s : (Int32 × Int32 × Int32 × Hp)) : Prop := WA x 151 [.ref 0, .int a1, .int a2, .int a3, .int a4, .null, .null, .ref 3, .int a8, .int s.1, .int s.2.1, .int a11, .int s.2.2.1] [] s.2.2.2
def E_X7_fits_151b (x : Cx) (a1 : Int32) (a2 : Int32) (a3 : Int32) (a4 : Int32) (a8 : Int32) (a11 : Int32) : (Int32 × Int32 × Int32 × Hp) → Prop := fun s : (Int32 × Int32 × Int32 × Hp) => WA x 203 [.null, .null, .null, .int a3, .int a4, .null, .null, .ref 3, .int a8, .int s.1, .int s.2.1, .null, .null] [] s.2.2.2
def b_X7_fits_151b (a1 : Int32) (a2 : Int32) (a3 : Int32) (a4 : Int32) (a8 : Int32) (a11 : Int32) (s : (Int32 × Int32 × Int32 × Hp)) : Option ((Int32 × Int32 × Int32 × Hp) ⊕ (Int32 × Int32 × Int32 × Hp)) :=
  if a11 < s.2.2.1 then
    some (.inr (s.1, s.2.1, s.2.2.1, s.2.2.2))
  else
    (wrI s.2.2.2 3 a3 s.2.2.1).bind fun h29 =>
    (f_X7_firstUnlike (a1 / 10) (a1 % 10) a2 h29).bind fun r30 =>
    if r30.1 = (-2) then
      if s.1 = 0 then
        some (.inl (s.1 + 1, s.2.2.1, s.2.2.1 + 1, r30.2))
      else
        some (.inl (s.1 + 1, s.2.1, s.2.2.1 + 1, r30.2))
    else
      some (.inl (s.1, s.2.1, s.2.2.1 + 1, r30.2))
theorem tb_X7_fits_151b {x : Cx} (g : Gx x RX7 cX7_fits 13 7) (a1 : Int32) (a2 : Int32) (a3 : Int32) (a4 : Int32) (a8 : Int32) (a11 : Int32) (s : (Int32 × Int32 × Int32 × Hp)) (out : (Int32 × Int32 × Int32 × Hp) ⊕ (Int32 × Int32 × Int32 × Hp)) (H : b_X7_fits_151b a1 a2 a3 a4 a8 a11 s = some out) (K : Sum.elim (P_X7_fits_151b x a1 a2 a3 a4 a8 a11) (E_X7_fits_151b x a1 a2 a3 a4 a8 a11) out) : P_X7_fits_151b x a1 a2 a3 a4 a8 a11 s := by
  unfold b_X7_fits_151b at H
  show WA x 151 [.ref 0, .int a1, .int a2, .int a3, .int a4, .null, .null, .ref 3, .int a8, .int s.1, .int s.2.1, .int a11, .int s.2.2.1] [] s.2.2.2
  refine st_iload g dX7_fits_151 rfl ?_
  refine st_iload g dX7_fits_153 rfl ?_
  refine st_ic_gt g dX7_fits_155 (tgt := 203) (by decide) H (fun q28 H => ?_) (fun q28 H => ?_)
  · obtain rfl := Option.some.inj H
    exact (wa_drop [0, 1, 2, 11, 12] K)
  · refine st_aload g dX7_fits_158 rfl ?_
    refine st_iload_n g dX7_fits_160 rfl ?_
    refine st_iload g dX7_fits_161 rfl ?_
    refine st_iast g dX7_fits_163 H (fun h29 H => ?_)
    refine st_aload_n g dX7_fits_164 rfl ?_
    refine st_iload_n g dX7_fits_165 rfl ?_
    refine st_bipush g dX7_fits_166 bi_10 ?_
    refine st_idiv g dX7_fits_168 (by decide) ?_
    refine st_iload_n g dX7_fits_169 rfl ?_
    refine st_bipush g dX7_fits_170 bi_10 ?_
    refine st_irem g dX7_fits_172 (by decide) ?_
    refine st_iload_n g dX7_fits_173 rfl ?_
    obtain ⟨r30, hr30, H⟩ := bind_some H
    refine st_callVI g (as := [.int (a1 / 10), .int (a1 % 10), .int a2]) dX7_fits_174 rfl rfl ml_X7_245 mf_X7_firstUnlike rfl (Nat.le_of_ble_eq_true rfl) (Nat.le_of_ble_eq_true rfl) (c_X7_firstUnlike (a1 / 10) (a1 % 10) a2 h29 _ hr30) (fun hz => ?_)
    refine st_bipush g dX7_fits_177 bi_m2 ?_
    refine st_ic_eq g dX7_fits_179 (tgt := 185) (by decide) H (fun q31 H => ?_) (fun q31 H => ?_)
    · refine st_iload g dX7_fits_185 rfl ?_
      refine st_if_ne g dX7_fits_187 (tgt := 194) (by decide) H (fun q32 H => ?_) (fun q32 H => ?_)
      · refine st_iinc g dX7_fits_194 rfl (ii_1 _) (Nat.le_of_ble_eq_true rfl) rfl (ls2 := [.ref 0, .int a1, .int a2, .int a3, .int a4, .null, .null, .ref 3, .int a8, .int (s.1 + 1), .int s.2.1, .int a11, .int s.2.2.1]) rfl ?_
        refine st_iinc g dX7_fits_197 rfl (ii_1 _) (Nat.le_of_ble_eq_true rfl) rfl (ls2 := [.ref 0, .int a1, .int a2, .int a3, .int a4, .null, .null, .ref 3, .int a8, .int (s.1 + 1), .int s.2.1, .int a11, .int (s.2.2.1 + 1)]) rfl ?_
        refine st_goto g dX7_fits_200 (tgt := 151) (by decide) ?_
        obtain rfl := Option.some.inj H
        exact K
      · refine st_iload g dX7_fits_190 rfl ?_
        refine st_istore g dX7_fits_192 (Nat.le_of_ble_eq_true rfl) rfl (ls2 := [.ref 0, .int a1, .int a2, .int a3, .int a4, .null, .null, .ref 3, .int a8, .int s.1, .int s.2.2.1, .int a11, .int s.2.2.1]) rfl ?_
        refine st_iinc g dX7_fits_194 rfl (ii_1 _) (Nat.le_of_ble_eq_true rfl) rfl (ls2 := [.ref 0, .int a1, .int a2, .int a3, .int a4, .null, .null, .ref 3, .int a8, .int (s.1 + 1), .int s.2.2.1, .int a11, .int s.2.2.1]) rfl ?_
        refine st_iinc g dX7_fits_197 rfl (ii_1 _) (Nat.le_of_ble_eq_true rfl) rfl (ls2 := [.ref 0, .int a1, .int a2, .int a3, .int a4, .null, .null, .ref 3, .int a8, .int (s.1 + 1), .int s.2.2.1, .int a11, .int (s.2.2.1 + 1)]) rfl ?_
        refine st_goto g dX7_fits_200 (tgt := 151) (by decide) ?_
        obtain rfl := Option.some.inj H
        exact K
    · refine st_goto g dX7_fits_182 (tgt := 197) (by decide) ?_
      refine st_iinc g dX7_fits_197 rfl (ii_1 _) (Nat.le_of_ble_eq_true rfl) rfl (ls2 := [.ref 0, .int a1, .int a2, .int a3, .int a4, .null, .null, .ref 3, .int a8, .int s.1, .int s.2.1, .int a11, .int (s.2.2.1 + 1)]) rfl ?_
      refine st_goto g dX7_fits_200 (tgt := 151) (by decide) ?_
      obtain rfl := Option.some.inj H
      exact K
def j_X7_fits_149b (a1 : Int32) (a2 : Int32) (a3 : Int32) (a4 : Int32) (a8 : Int32) (a9 : Int32) (a10 : Int32) (a11 : Int32) (t0 : Int32) (h : Hp) : Option ((Int32 × Hp)) :=
  (iter (b_X7_fits_151b a1 a2 a3 a4 a8 a11) FU (a9, a10, t0, h)).bind fun a33 =>
  (wrI a33.2.2.2 3 a3 a8).bind fun h34 =>
  if (a4 % 2) = 0 then
    some (a33.1, h34)
  else
    some (a33.2.1, h34)
theorem tj_X7_fits_149b {x : Cx} (g : Gx x RX7 cX7_fits 13 7) (a1 : Int32) (a2 : Int32) (a3 : Int32) (a4 : Int32) (a8 : Int32) (a9 : Int32) (a10 : Int32) (a11 : Int32) (t0 : Int32) (h : Hp) (out : (Int32 × Hp)) (H : j_X7_fits_149b a1 a2 a3 a4 a8 a9 a10 a11 t0 h = some out) (K : RtI x .int out.1 out.2) : WA x 149 [.ref 0, .int a1, .int a2, .int a3, .int a4, .null, .null, .ref 3, .int a8, .int a9, .int a10, .int a11, .null] [.int t0] h := by
  unfold j_X7_fits_149b at H
  refine st_istore g dX7_fits_149 (Nat.le_of_ble_eq_true rfl) rfl (ls2 := [.ref 0, .int a1, .int a2, .int a3, .int a4, .null, .null, .ref 3, .int a8, .int a9, .int a10, .int a11, .int t0]) rfl ?_
  show P_X7_fits_151b x a1 a2 a3 a4 a8 a11 (a9, a10, t0, h)
  obtain ⟨a33, ha33, H⟩ := bind_some H
  refine iter_W (P := P_X7_fits_151b x a1 a2 a3 a4 a8 a11) (E := E_X7_fits_151b x a1 a2 a3 a4 a8 a11) (fun s9 o9 ho9 hK9 => tb_X7_fits_151b g a1 a2 a3 a4 a8 a11 s9 o9 ho9 hK9) FU _ a33 ha33 ?_
  show WA x 203 [.null, .null, .null, .int a3, .int a4, .null, .null, .ref 3, .int a8, .int a33.1, .int a33.2.1, .null, .null] [] a33.2.2.2
  refine st_aload g dX7_fits_203 rfl ?_
  refine st_iload_n g dX7_fits_205 rfl ?_
  refine st_iload g dX7_fits_206 rfl ?_
  refine st_iast g dX7_fits_208 H (fun h34 H => ?_)
  refine st_iload g dX7_fits_209 rfl ?_
  refine st_iconst g dX7_fits_211 ic_2 ?_
  refine st_irem g dX7_fits_212 (by decide) ?_
  refine st_if_ne g dX7_fits_213 (tgt := 221) (by decide) H (fun q35 H => ?_) (fun q35 H => ?_)
  · refine st_iload g dX7_fits_221 rfl ?_
    obtain rfl := Option.some.inj H
    exact st_iret g dX7_fits_223 rfl (fun q => by cases q) K
  · refine st_iload g dX7_fits_216 rfl ?_
    refine st_goto g dX7_fits_218 (tgt := 223) (by decide) ?_
    obtain rfl := Option.some.inj H
    exact st_iret g dX7_fits_223 rfl (fun q => by cases q) K
def j_X7_fits_137b (a1 : Int32) (a2 : Int32) (a3 : Int32) (a4 : Int32) (a5 : Int32) (a8 : Int32) (a9 : Int32) (a10 : Int32) (t0 : Int32) (h : Hp) : Option ((Int32 × Hp)) :=
  if a5 = 0 then
    j_X7_fits_149b a1 a2 a3 a4 a8 a9 a10 t0 1 h
  else
    j_X7_fits_149b a1 a2 a3 a4 a8 a9 a10 t0 0 h
theorem tj_X7_fits_137b {x : Cx} (g : Gx x RX7 cX7_fits 13 7) (a1 : Int32) (a2 : Int32) (a3 : Int32) (a4 : Int32) (a5 : Int32) (a8 : Int32) (a9 : Int32) (a10 : Int32) (t0 : Int32) (h : Hp) (out : (Int32 × Hp)) (H : j_X7_fits_137b a1 a2 a3 a4 a5 a8 a9 a10 t0 h = some out) (K : RtI x .int out.1 out.2) : WA x 137 [.ref 0, .int a1, .int a2, .int a3, .int a4, .int a5, .null, .ref 3, .int a8, .int a9, .int a10, .null, .null] [.int t0] h := by
  unfold j_X7_fits_137b at H
  refine st_istore g dX7_fits_137 (Nat.le_of_ble_eq_true rfl) rfl (ls2 := [.ref 0, .int a1, .int a2, .int a3, .int a4, .int a5, .null, .ref 3, .int a8, .int a9, .int a10, .int t0, .null]) rfl ?_
  refine st_iload g dX7_fits_139 rfl ?_
  refine st_if_eq g dX7_fits_141 (tgt := 148) (by decide) H (fun q27 H => ?_) (fun q27 H => ?_)
  · refine st_iconst g dX7_fits_148 ic_1 ?_
    exact (wa_drop [5] (tj_X7_fits_149b g a1 a2 a3 a4 a8 a9 a10 t0 1 h _ H K))
  · refine st_iconst g dX7_fits_144 ic_0 ?_
    refine st_goto g dX7_fits_145 (tgt := 149) (by decide) ?_
    exact (wa_drop [5] (tj_X7_fits_149b g a1 a2 a3 a4 a8 a9 a10 t0 0 h _ H K))
def j_X7_fits_110b (a1 : Int32) (a2 : Int32) (a3 : Int32) (a4 : Int32) (a5 : Int32) (h : Hp) : Option ((Int32 × Hp)) :=
  (rdI h 3 a3).bind fun v25 =>
  if a5 = 0 then
    j_X7_fits_137b a1 a2 a3 a4 a5 v25 0 (-2) 9 h
  else
    j_X7_fits_137b a1 a2 a3 a4 a5 v25 0 (-2) 12 h
theorem tj_X7_fits_110b {x : Cx} (g : Gx x RX7 cX7_fits 13 7) (a1 : Int32) (a2 : Int32) (a3 : Int32) (a4 : Int32) (a5 : Int32) (h : Hp) (out : (Int32 × Hp)) (H : j_X7_fits_110b a1 a2 a3 a4 a5 h = some out) (K : RtI x .int out.1 out.2) : WA x 110 [.ref 0, .int a1, .int a2, .int a3, .int a4, .int a5, .null, .null, .null, .null, .null, .null, .null] [.ref 3] h := by
  unfold j_X7_fits_110b at H
  refine st_astore g dX7_fits_110 (Nat.le_of_ble_eq_true rfl) rfl (ls2 := [.ref 0, .int a1, .int a2, .int a3, .int a4, .int a5, .null, .ref 3, .null, .null, .null, .null, .null]) rfl ?_
  refine st_aload g dX7_fits_112 rfl ?_
  refine st_iload_n g dX7_fits_114 rfl ?_
  refine st_iald g dX7_fits_115 H (fun v25 H => ?_)
  refine st_istore g dX7_fits_116 (Nat.le_of_ble_eq_true rfl) rfl (ls2 := [.ref 0, .int a1, .int a2, .int a3, .int a4, .int a5, .null, .ref 3, .int v25, .null, .null, .null, .null]) rfl ?_
  refine st_iconst g dX7_fits_118 ic_0 ?_
  refine st_istore g dX7_fits_119 (Nat.le_of_ble_eq_true rfl) rfl (ls2 := [.ref 0, .int a1, .int a2, .int a3, .int a4, .int a5, .null, .ref 3, .int v25, .int 0, .null, .null, .null]) rfl ?_
  refine st_bipush g dX7_fits_121 bi_m2 ?_
  refine st_istore g dX7_fits_123 (Nat.le_of_ble_eq_true rfl) rfl (ls2 := [.ref 0, .int a1, .int a2, .int a3, .int a4, .int a5, .null, .ref 3, .int v25, .int 0, .int (-2), .null, .null]) rfl ?_
  refine st_iload g dX7_fits_125 rfl ?_
  refine st_if_eq g dX7_fits_127 (tgt := 135) (by decide) H (fun q26 H => ?_) (fun q26 H => ?_)
  · refine st_bipush g dX7_fits_135 bi_9 ?_
    exact (tj_X7_fits_137b g a1 a2 a3 a4 a5 v25 0 (-2) 9 h _ H K)
  · refine st_bipush g dX7_fits_130 bi_12 ?_
    refine st_goto g dX7_fits_132 (tgt := 137) (by decide) ?_
    exact (tj_X7_fits_137b g a1 a2 a3 a4 a5 v25 0 (-2) 12 h _ H K)
def j_X7_fits_73 (a1 : Int32) (a2 : Int32) (a3 : Int32) (a4 : Int32) (a5 : Int32) (h : Hp) : Option ((Int32 × Hp)) :=
  (f_X7_paintedRefusal a1 h).bind fun r11 =>
  if r11 = 0 then
    if a5 = 0 then
      j_X7_fits_110 a1 a2 a3 a4 a5 h
    else
      j_X7_fits_110b a1 a2 a3 a4 a5 h
  else
    some (r11, h)
theorem tj_X7_fits_73 {x : Cx} (g : Gx x RX7 cX7_fits 13 7) (a1 : Int32) (a2 : Int32) (a3 : Int32) (a4 : Int32) (a5 : Int32) (h : Hp) (out : (Int32 × Hp)) (H : j_X7_fits_73 a1 a2 a3 a4 a5 h = some out) (K : RtI x .int out.1 out.2) : WA x 73 [.ref 0, .int a1, .int a2, .int a3, .int a4, .int a5, .null, .null, .null, .null, .null, .null, .null] [] h := by
  unfold j_X7_fits_73 at H
  refine st_aload_n g dX7_fits_73 rfl ?_
  refine st_iload_n g dX7_fits_74 rfl ?_
  obtain ⟨r11, hr11, H⟩ := bind_some H
  refine st_callVI g (as := [.int a1]) dX7_fits_75 rfl rfl ml_X7_242 mf_X7_paintedRefusal rfl (Nat.le_of_ble_eq_true rfl) (Nat.le_of_ble_eq_true rfl) (c_X7_paintedRefusal a1 h _ hr11) (fun hz => ?_)
  refine st_istore g dX7_fits_78 (Nat.le_of_ble_eq_true rfl) rfl (ls2 := [.ref 0, .int a1, .int a2, .int a3, .int a4, .int a5, .int r11, .null, .null, .null, .null, .null, .null]) rfl ?_
  refine st_iload g dX7_fits_80 rfl ?_
  refine st_if_eq g dX7_fits_82 (tgt := 88) (by decide) H (fun q12 H => ?_) (fun q12 H => ?_)
  · refine st_iload g dX7_fits_88 rfl ?_
    refine st_if_eq g dX7_fits_90 (tgt := 103) (by decide) H (fun q13 H => ?_) (fun q13 H => ?_)
    · refine st_aload_n g dX7_fits_103 rfl ?_
      refine gf_X7_10 g dX7_fits_104 rfl (r := 1) rfl ?_
      refine gf_X7_248 g dX7_fits_107 rfl (r := 6) rfl ?_
      exact (wa_drop [6] (tj_X7_fits_110 g a1 a2 a3 a4 a5 h _ H K))
    · refine st_aload_n g dX7_fits_93 rfl ?_
      refine gf_X7_10 g dX7_fits_94 rfl (r := 1) rfl ?_
      refine gf_X7_236 g dX7_fits_97 rfl (r := 3) rfl ?_
      refine st_goto g dX7_fits_100 (tgt := 110) (by decide) ?_
      exact (wa_drop [6] (tj_X7_fits_110b g a1 a2 a3 a4 a5 h _ H K))
  · refine st_iload g dX7_fits_85 rfl ?_
    obtain rfl := Option.some.inj H
    exact st_iret g dX7_fits_87 rfl (fun q => by cases q) K
def j_X7_fits_39 (a1 : Int32) (a2 : Int32) (a3 : Int32) (a4 : Int32) (t0 : Int32) (h : Hp) : Option ((Int32 × Hp)) :=
  if t0 = 0 then
    (f_X3_isWrong a3 h).bind fun r9 =>
    if r9 = 0 then
      some ((-1), h)
    else
      j_X7_fits_73 a1 a2 a3 a4 t0 h
  else
    (f_X3_isOne a3 h).bind fun r36 =>
    if r36 = 0 then
      some ((-1), h)
    else
      j_X7_fits_73 a1 a2 a3 a4 t0 h
theorem tj_X7_fits_39 {x : Cx} (g : Gx x RX7 cX7_fits 13 7) (a1 : Int32) (a2 : Int32) (a3 : Int32) (a4 : Int32) (t0 : Int32) (h : Hp) (out : (Int32 × Hp)) (H : j_X7_fits_39 a1 a2 a3 a4 t0 h = some out) (K : RtI x .int out.1 out.2) : WA x 39 [.ref 0, .int a1, .int a2, .int a3, .int a4, .null, .null, .null, .null, .null, .null, .null, .null] [.int t0] h := by
  unfold j_X7_fits_39 at H
  refine st_istore g dX7_fits_39 (Nat.le_of_ble_eq_true rfl) rfl (ls2 := [.ref 0, .int a1, .int a2, .int a3, .int a4, .int t0, .null, .null, .null, .null, .null, .null, .null]) rfl ?_
  refine st_iload g dX7_fits_41 rfl ?_
  refine st_if_eq g dX7_fits_43 (tgt := 60) (by decide) H (fun q8 H => ?_) (fun q8 H => ?_)
  · refine st_aload_n g dX7_fits_60 rfl ?_
    refine gf_X7_10 g dX7_fits_61 rfl (r := 1) rfl ?_
    refine st_iload_n g dX7_fits_64 rfl ?_
    obtain ⟨r9, hr9, H⟩ := bind_some H
    refine st_callVI g (as := [.int a3]) dX7_fits_65 rfl rfl ml_X7_153 mf_X3_isWrong rfl (Nat.le_of_ble_eq_true rfl) (Nat.le_of_ble_eq_true rfl) (c_X3_isWrong a3 h _ hr9) (fun hz => ?_)
    have br9 := hz rfl
    refine st_if_ne g dX7_fits_68 (tgt := 73) (by decide) H (fun q10 H => ?_) (fun q10 H => ?_)
    · exact (tj_X7_fits_73 g a1 a2 a3 a4 t0 h _ H K)
    · refine st_iconst g dX7_fits_71 ic_m1 ?_
      obtain rfl := Option.some.inj H
      exact st_iret g dX7_fits_72 rfl (fun q => by cases q) K
  · refine st_aload_n g dX7_fits_46 rfl ?_
    refine gf_X7_10 g dX7_fits_47 rfl (r := 1) rfl ?_
    refine st_iload_n g dX7_fits_50 rfl ?_
    obtain ⟨r36, hr36, H⟩ := bind_some H
    refine st_callVI g (as := [.int a3]) dX7_fits_51 rfl rfl ml_X7_230 mf_X3_isOne rfl (Nat.le_of_ble_eq_true rfl) (Nat.le_of_ble_eq_true rfl) (c_X3_isOne a3 h _ hr36) (fun hz => ?_)
    have br36 := hz rfl
    refine st_if_ne g dX7_fits_54 (tgt := 73) (by decide) H (fun q37 H => ?_) (fun q37 H => ?_)
    · exact (tj_X7_fits_73 g a1 a2 a3 a4 t0 h _ H K)
    · refine st_goto g dX7_fits_57 (tgt := 71) (by decide) ?_
      refine st_iconst g dX7_fits_71 ic_m1 ?_
      obtain rfl := Option.some.inj H
      exact st_iret g dX7_fits_72 rfl (fun q => by cases q) K
def f_X7_fits (a1 : Int32) (a2 : Int32) (a3 : Int32) (a4 : Int32) (h : Hp) : Option (Int32 × Hp) :=
  (f_X7_areShelves a1).bind fun r1 =>
  if r1 = 0 then
    some ((-1), h)
  else
    (f_X7_isHouse a2).bind fun r3 =>
    if r3 = 0 then
      some ((-1), h)
    else
      if a4 < 0 then
        some ((-1), h)
      else
        if a4 ≤ 3 then
          if 2 ≤ a4 then
            j_X7_fits_39 a1 a2 a3 a4 0 h
          else
            j_X7_fits_39 a1 a2 a3 a4 1 h
        else
          some ((-1), h)
theorem t_X7_fits {x : Cx} (g : Gx x RX7 cX7_fits 13 7) (a1 : Int32) (a2 : Int32) (a3 : Int32) (a4 : Int32) (h : Hp) (out : (Int32 × Hp)) (H : f_X7_fits a1 a2 a3 a4 h = some out) (K : RtI x .int out.1 out.2) : WA x 0 [.ref 0, .int a1, .int a2, .int a3, .int a4, .null, .null, .null, .null, .null, .null, .null, .null] [] h := by
  unfold f_X7_fits at H
  refine st_aload_n g dX7_fits_0 rfl ?_
  refine st_iload_n g dX7_fits_1 rfl ?_
  obtain ⟨r1, hr1, H⟩ := bind_some H
  refine st_callVI g (as := [.int a1]) dX7_fits_2 rfl rfl ml_X7_239 mf_X7_areShelves rfl (Nat.le_of_ble_eq_true rfl) (Nat.le_of_ble_eq_true rfl) (c_X7_areShelves a1 h _ hr1) (fun hz => ?_)
  have br1 := hz rfl
  refine st_if_eq g dX7_fits_5 (tgt := 26) (by decide) H (fun q2 H => ?_) (fun q2 H => ?_)
  · refine st_iconst g dX7_fits_26 ic_m1 ?_
    obtain rfl := Option.some.inj H
    exact st_iret g dX7_fits_27 rfl (fun q => by cases q) K
  · refine st_iload_n g dX7_fits_8 rfl ?_
    obtain ⟨r3, hr3, H⟩ := bind_some H
    refine st_callSI g (as := [.int a2]) dX7_fits_9 ml_X7_85 mf_X7_isHouse rfl (Nat.le_of_ble_eq_true rfl) (Nat.le_of_ble_eq_true rfl) (c_X7_isHouse a2 h _ hr3) (fun hz => ?_)
    have br3 := hz rfl
    refine st_if_eq g dX7_fits_12 (tgt := 26) (by decide) H (fun q4 H => ?_) (fun q4 H => ?_)
    · refine st_iconst g dX7_fits_26 ic_m1 ?_
      obtain rfl := Option.some.inj H
      exact st_iret g dX7_fits_27 rfl (fun q => by cases q) K
    · refine st_iload g dX7_fits_15 rfl ?_
      refine st_if_lt g dX7_fits_17 (tgt := 26) (by decide) H (fun q5 H => ?_) (fun q5 H => ?_)
      · refine st_iconst g dX7_fits_26 ic_m1 ?_
        obtain rfl := Option.some.inj H
        exact st_iret g dX7_fits_27 rfl (fun q => by cases q) K
      · refine st_iload g dX7_fits_20 rfl ?_
        refine st_iconst g dX7_fits_22 ic_3 ?_
        refine st_ic_le g dX7_fits_23 (tgt := 28) (by decide) H (fun q6 H => ?_) (fun q6 H => ?_)
        · refine st_iload g dX7_fits_28 rfl ?_
          refine st_iconst g dX7_fits_30 ic_2 ?_
          refine st_ic_ge g dX7_fits_31 (tgt := 38) (by decide) H (fun q7 H => ?_) (fun q7 H => ?_)
          · refine st_iconst g dX7_fits_38 ic_0 ?_
            exact (tj_X7_fits_39 g a1 a2 a3 a4 0 h _ H K)
          · refine st_iconst g dX7_fits_34 ic_1 ?_
            refine st_goto g dX7_fits_35 (tgt := 39) (by decide) ?_
            exact (tj_X7_fits_39 g a1 a2 a3 a4 1 h _ H K)
        · refine st_iconst g dX7_fits_26 ic_m1 ?_
          obtain rfl := Option.some.inj H
          exact st_iret g dX7_fits_27 rfl (fun q => by cases q) K
theorem c_X7_fits (a1 : Int32) (a2 : Int32) (a3 : Int32) (a4 : Int32) (h : Hp) (r : (Int32 × Hp)) (H : f_X7_fits a1 a2 a3 a4 h = some r) : CtI yX7_fits cX7_fits 13 .int 7 [.ref 0, .int a1, .int a2, .int a3, .int a4] h r.1 r.2 :=
  ct_ofI (own := RX7) [.ref 0, .int a1, .int a2, .int a3, .int a4, .null, .null, .null, .null, .null, .null, .null, .null] (by decide +kernel) rfl (fun ρ => Nat.le_of_ble_eq_true rfl) (fun ρ => rfl) (fun x g K => t_X7_fits g a1 a2 a3 a4 h r H K)
def f_X7_byTurns (a1 : Int32) (a2 : Int32) (a3 : Int32) (h : Hp) : Option (Int32 × Hp) :=
  if a1 < 0 then
    some ((-2000000000), h)
  else
    if a2 < 1 then
      some ((-2000000000), h)
    else
      if 4 < a2 then
        some ((-2000000000), h)
      else
        if a3 < 0 then
          some ((-2000000000), h)
        else
          if a3 ≤ 1 then
            (f_X3_isOne (a1 / 10) h).bind fun r6 =>
            if r6 = 0 then
              some ((-2000000000), h)
            else
              (f_X3_isOne (a1 % 10) h).bind fun r8 =>
              if r8 = 0 then
                some ((-2000000000), h)
              else
                if (a1 / 10) = (a1 % 10) then
                  some ((-2000000000), h)
                else
                  (rdI h 2 (a1 / 10)).bind fun v11 =>
                  (rdI h 2 (a1 % 10)).bind fun v12 =>
                  if v11 = v12 then
                    if a3 = 0 then
                      some (0, h)
                    else
                      some (12, h)
                  else
                    (f_X5_become 17 13 h).bind fun r14 =>
                    (f_X7_playAlone (a1 / 10) ((a2 + 1) / 2) r14).bind fun r15 =>
                    if a3 = 1 then
                      (rdI r15 49 1).bind fun v20 =>
                      some (v20, r15)
                    else
                      (rdI r15 49 0).bind fun v17 =>
                      (f_X7_playAlone (a1 % 10) (a2 / 2) r15).bind fun r18 =>
                      (rdI r18 49 0).bind fun v19 =>
                      some (v17 - v19, r18)
          else
            some ((-2000000000), h)
theorem t_X7_byTurns {x : Cx} (g : Gx x RX7 cX7_byTurns 7 7) (a1 : Int32) (a2 : Int32) (a3 : Int32) (h : Hp) (out : (Int32 × Hp)) (H : f_X7_byTurns a1 a2 a3 h = some out) (K : RtI x .int out.1 out.2) : WA x 0 [.ref 0, .int a1, .int a2, .int a3, .null, .null, .null] [] h := by
  unfold f_X7_byTurns at H
  refine st_iload_n g dX7_byTurns_0 rfl ?_
  refine st_if_lt g dX7_byTurns_1 (tgt := 23) (by decide) H (fun q1 H => ?_) (fun q1 H => ?_)
  · refine st_ldc g dX7_byTurns_23 kc_X7_127 ?_
    obtain rfl := Option.some.inj H
    exact st_iret g dX7_byTurns_25 rfl (fun q => by cases q) K
  · refine st_iload_n g dX7_byTurns_4 rfl ?_
    refine st_iconst g dX7_byTurns_5 ic_1 ?_
    refine st_ic_lt g dX7_byTurns_6 (tgt := 23) (by decide) H (fun q2 H => ?_) (fun q2 H => ?_)
    · refine st_ldc g dX7_byTurns_23 kc_X7_127 ?_
      obtain rfl := Option.some.inj H
      exact st_iret g dX7_byTurns_25 rfl (fun q => by cases q) K
    · refine st_iload_n g dX7_byTurns_9 rfl ?_
      refine st_iconst g dX7_byTurns_10 ic_4 ?_
      refine st_ic_gt g dX7_byTurns_11 (tgt := 23) (by decide) H (fun q3 H => ?_) (fun q3 H => ?_)
      · refine st_ldc g dX7_byTurns_23 kc_X7_127 ?_
        obtain rfl := Option.some.inj H
        exact st_iret g dX7_byTurns_25 rfl (fun q => by cases q) K
      · refine st_iload_n g dX7_byTurns_14 rfl ?_
        refine st_if_lt g dX7_byTurns_15 (tgt := 23) (by decide) H (fun q4 H => ?_) (fun q4 H => ?_)
        · refine st_ldc g dX7_byTurns_23 kc_X7_127 ?_
          obtain rfl := Option.some.inj H
          exact st_iret g dX7_byTurns_25 rfl (fun q => by cases q) K
        · refine st_iload_n g dX7_byTurns_18 rfl ?_
          refine st_iconst g dX7_byTurns_19 ic_1 ?_
          refine st_ic_le g dX7_byTurns_20 (tgt := 26) (by decide) H (fun q5 H => ?_) (fun q5 H => ?_)
          · refine st_iload_n g dX7_byTurns_26 rfl ?_
            refine st_bipush g dX7_byTurns_27 bi_10 ?_
            refine st_idiv g dX7_byTurns_29 (by decide) ?_
            refine st_istore g dX7_byTurns_30 (Nat.le_of_ble_eq_true rfl) rfl (ls2 := [.ref 0, .int a1, .int a2, .int a3, .int (a1 / 10), .null, .null]) rfl ?_
            refine st_iload_n g dX7_byTurns_32 rfl ?_
            refine st_bipush g dX7_byTurns_33 bi_10 ?_
            refine st_irem g dX7_byTurns_35 (by decide) ?_
            refine st_istore g dX7_byTurns_36 (Nat.le_of_ble_eq_true rfl) rfl (ls2 := [.ref 0, .int a1, .int a2, .int a3, .int (a1 / 10), .int (a1 % 10), .null]) rfl ?_
            refine st_aload_n g dX7_byTurns_38 rfl ?_
            refine gf_X7_10 g dX7_byTurns_39 rfl (r := 1) rfl ?_
            refine st_iload g dX7_byTurns_42 rfl ?_
            obtain ⟨r6, hr6, H⟩ := bind_some H
            refine st_callVI g (as := [.int (a1 / 10)]) dX7_byTurns_44 rfl rfl ml_X7_230 mf_X3_isOne rfl (Nat.le_of_ble_eq_true rfl) (Nat.le_of_ble_eq_true rfl) (c_X3_isOne (a1 / 10) h _ hr6) (fun hz => ?_)
            have br6 := hz rfl
            refine st_if_eq g dX7_byTurns_47 (tgt := 69) (by decide) H (fun q7 H => ?_) (fun q7 H => ?_)
            · refine st_ldc g dX7_byTurns_69 kc_X7_127 ?_
              obtain rfl := Option.some.inj H
              exact st_iret g dX7_byTurns_71 rfl (fun q => by cases q) K
            · refine st_aload_n g dX7_byTurns_50 rfl ?_
              refine gf_X7_10 g dX7_byTurns_51 rfl (r := 1) rfl ?_
              refine st_iload g dX7_byTurns_54 rfl ?_
              obtain ⟨r8, hr8, H⟩ := bind_some H
              refine st_callVI g (as := [.int (a1 % 10)]) dX7_byTurns_56 rfl rfl ml_X7_230 mf_X3_isOne rfl (Nat.le_of_ble_eq_true rfl) (Nat.le_of_ble_eq_true rfl) (c_X3_isOne (a1 % 10) h _ hr8) (fun hz => ?_)
              have br8 := hz rfl
              refine st_if_eq g dX7_byTurns_59 (tgt := 69) (by decide) H (fun q9 H => ?_) (fun q9 H => ?_)
              · refine st_ldc g dX7_byTurns_69 kc_X7_127 ?_
                obtain rfl := Option.some.inj H
                exact st_iret g dX7_byTurns_71 rfl (fun q => by cases q) K
              · refine st_iload g dX7_byTurns_62 rfl ?_
                refine st_iload g dX7_byTurns_64 rfl ?_
                refine st_ic_ne g dX7_byTurns_66 (tgt := 72) (by decide) H (fun q10 H => ?_) (fun q10 H => ?_)
                · refine st_aload_n g dX7_byTurns_72 rfl ?_
                  refine gf_X7_10 g dX7_byTurns_73 rfl (r := 1) rfl ?_
                  refine gf_X7_200 g dX7_byTurns_76 rfl (r := 2) rfl ?_
                  refine st_iload g dX7_byTurns_79 rfl ?_
                  refine st_iald g dX7_byTurns_81 H (fun v11 H => ?_)
                  refine st_aload_n g dX7_byTurns_82 rfl ?_
                  refine gf_X7_10 g dX7_byTurns_83 rfl (r := 1) rfl ?_
                  refine gf_X7_200 g dX7_byTurns_86 rfl (r := 2) rfl ?_
                  refine st_iload g dX7_byTurns_89 rfl ?_
                  refine st_iald g dX7_byTurns_91 H (fun v12 H => ?_)
                  refine st_ic_ne g dX7_byTurns_92 (tgt := 106) (by decide) H (fun q13 H => ?_) (fun q13 H => ?_)
                  · refine st_aload_n g dX7_byTurns_106 rfl ?_
                    refine gf_X7_30 g dX7_byTurns_107 rfl (r := 17) rfl ?_
                    refine st_aload_n g dX7_byTurns_110 rfl ?_
                    refine gf_X7_26 g dX7_byTurns_111 rfl (r := 13) rfl ?_
                    obtain ⟨r14, hr14, H⟩ := bind_some H
                    refine st_callVV g (as := [.ref 13]) dX7_byTurns_114 rfl rfl ml_X7_187 mf_X5_become rfl (Nat.le_of_ble_eq_true rfl) (Nat.le_of_ble_eq_true rfl) (c_X5_become 17 13 h _ hr14) ?_
                    refine st_aload_n g dX7_byTurns_117 rfl ?_
                    refine st_iload g dX7_byTurns_118 rfl ?_
                    refine st_iload_n g dX7_byTurns_120 rfl ?_
                    refine st_iconst g dX7_byTurns_121 ic_1 ?_
                    refine st_iadd g dX7_byTurns_122 ?_
                    refine st_iconst g dX7_byTurns_123 ic_2 ?_
                    refine st_idiv g dX7_byTurns_124 (by decide) ?_
                    obtain ⟨r15, hr15, H⟩ := bind_some H
                    refine st_callVV g (as := [.int (a1 / 10), .int ((a2 + 1) / 2)]) dX7_byTurns_125 rfl rfl ml_X7_251 mf_X7_playAlone rfl (Nat.le_of_ble_eq_true rfl) (Nat.le_of_ble_eq_true rfl) (c_X7_playAlone (a1 / 10) ((a2 + 1) / 2) r14 _ hr15) ?_
                    refine st_iload_n g dX7_byTurns_128 rfl ?_
                    refine st_iconst g dX7_byTurns_129 ic_1 ?_
                    refine st_ic_ne g dX7_byTurns_130 (tgt := 140) (by decide) H (fun q16 H => ?_) (fun q16 H => ?_)
                    · refine st_aload_n g dX7_byTurns_140 rfl ?_
                      refine gf_X7_72 g dX7_byTurns_141 rfl (r := 49) rfl ?_
                      refine st_iconst g dX7_byTurns_144 ic_0 ?_
                      refine st_iald g dX7_byTurns_145 H (fun v17 H => ?_)
                      refine st_istore g dX7_byTurns_146 (Nat.le_of_ble_eq_true rfl) rfl (ls2 := [.ref 0, .int a1, .int a2, .int a3, .int (a1 / 10), .int (a1 % 10), .int v17]) rfl ?_
                      refine st_aload_n g dX7_byTurns_148 rfl ?_
                      refine st_iload g dX7_byTurns_149 rfl ?_
                      refine st_iload_n g dX7_byTurns_151 rfl ?_
                      refine st_iconst g dX7_byTurns_152 ic_2 ?_
                      refine st_idiv g dX7_byTurns_153 (by decide) ?_
                      obtain ⟨r18, hr18, H⟩ := bind_some H
                      refine st_callVV g (as := [.int (a1 % 10), .int (a2 / 2)]) dX7_byTurns_154 rfl rfl ml_X7_251 mf_X7_playAlone rfl (Nat.le_of_ble_eq_true rfl) (Nat.le_of_ble_eq_true rfl) (c_X7_playAlone (a1 % 10) (a2 / 2) r15 _ hr18) ?_
                      refine st_iload g dX7_byTurns_157 rfl ?_
                      refine st_aload_n g dX7_byTurns_159 rfl ?_
                      refine gf_X7_72 g dX7_byTurns_160 rfl (r := 49) rfl ?_
                      refine st_iconst g dX7_byTurns_163 ic_0 ?_
                      refine st_iald g dX7_byTurns_164 H (fun v19 H => ?_)
                      refine st_isub g dX7_byTurns_165 ?_
                      obtain rfl := Option.some.inj H
                      exact st_iret g dX7_byTurns_166 rfl (fun q => by cases q) K
                    · refine st_aload_n g dX7_byTurns_133 rfl ?_
                      refine gf_X7_72 g dX7_byTurns_134 rfl (r := 49) rfl ?_
                      refine st_iconst g dX7_byTurns_137 ic_1 ?_
                      refine st_iald g dX7_byTurns_138 H (fun v20 H => ?_)
                      obtain rfl := Option.some.inj H
                      exact st_iret g dX7_byTurns_139 rfl (fun q => by cases q) K
                  · refine st_iload_n g dX7_byTurns_95 rfl ?_
                    refine st_if_ne g dX7_byTurns_96 (tgt := 103) (by decide) H (fun q21 H => ?_) (fun q21 H => ?_)
                    · refine st_bipush g dX7_byTurns_103 bi_12 ?_
                      obtain rfl := Option.some.inj H
                      exact st_iret g dX7_byTurns_105 rfl (fun q => by cases q) K
                    · refine st_iconst g dX7_byTurns_99 ic_0 ?_
                      refine st_goto g dX7_byTurns_100 (tgt := 105) (by decide) ?_
                      obtain rfl := Option.some.inj H
                      exact st_iret g dX7_byTurns_105 rfl (fun q => by cases q) K
                · refine st_ldc g dX7_byTurns_69 kc_X7_127 ?_
                  obtain rfl := Option.some.inj H
                  exact st_iret g dX7_byTurns_71 rfl (fun q => by cases q) K
          · refine st_ldc g dX7_byTurns_23 kc_X7_127 ?_
            obtain rfl := Option.some.inj H
            exact st_iret g dX7_byTurns_25 rfl (fun q => by cases q) K
theorem c_X7_byTurns (a1 : Int32) (a2 : Int32) (a3 : Int32) (h : Hp) (r : (Int32 × Hp)) (H : f_X7_byTurns a1 a2 a3 h = some r) : CtI yX7_byTurns cX7_byTurns 7 .int 7 [.ref 0, .int a1, .int a2, .int a3] h r.1 r.2 :=
  ct_ofI (own := RX7) [.ref 0, .int a1, .int a2, .int a3, .null, .null, .null] (by decide +kernel) rfl (fun ρ => Nat.le_of_ble_eq_true rfl) (fun ρ => rfl) (fun x g K => t_X7_byTurns g a1 a2 a3 h r H K)
