def f_X7_wrong (a1 : Int32) (a2 : Int32) (h : Hp) : Option (Int32 × Hp) :=
  if a1 < 0 then
    some ((-1), h)
  else
    (f_X3_isSo (a1 / 10) (a1 % 10) a2 h).bind fun r2 =>
    if r2 = 0 then
      some ((-1), h)
    else
      if (h.1 1 3) = 12 then
        some ((-3), h)
      else
        (f_X7_addWrong (a1 / 10) (a1 % 10) a2 h).bind fun r5 =>
        some (r5.1, r5.2)
theorem t_X7_wrong {x : Cx} (g : Gx x RX7 cX7_wrong 3 3) (a1 : Int32) (a2 : Int32) (h : Hp) (out : (Int32 × Hp)) (H : f_X7_wrong a1 a2 h = some out) (K : RtI x .int out.1 out.2) : WA x 0 [.ref 0, .int a1, .int a2] [] h := by
  unfold f_X7_wrong at H
  refine st_iload_n g dX7_wrong_0 rfl ?_
  refine st_if_lt g dX7_wrong_1 (tgt := 23) (by decide) H (fun q1 H => ?_) (fun q1 H => ?_)
  · refine st_iconst g dX7_wrong_23 ic_m1 ?_
    obtain rfl := Option.some.inj H
    exact st_iret g dX7_wrong_24 rfl (fun q => by cases q) K
  · refine st_aload_n g dX7_wrong_4 rfl ?_
    refine gf_X7_10 g dX7_wrong_5 rfl (r := 1) rfl ?_
    refine st_iload_n g dX7_wrong_8 rfl ?_
    refine st_bipush g dX7_wrong_9 bi_10 ?_
    refine st_idiv g dX7_wrong_11 (by decide) ?_
    refine st_iload_n g dX7_wrong_12 rfl ?_
    refine st_bipush g dX7_wrong_13 bi_10 ?_
    refine st_irem g dX7_wrong_15 (by decide) ?_
    refine st_iload_n g dX7_wrong_16 rfl ?_
    obtain ⟨r2, hr2, H⟩ := bind_some H
    refine st_callVI g (as := [.int (a1 / 10), .int (a1 % 10), .int a2]) dX7_wrong_17 rfl rfl ml_X7_96 mf_X3_isSo rfl (Nat.le_of_ble_eq_true rfl) (Nat.le_of_ble_eq_true rfl) (c_X3_isSo (a1 / 10) (a1 % 10) a2 h _ hr2) (fun hz => ?_)
    have br2 := hz rfl
    refine st_if_ne g dX7_wrong_20 (tgt := 25) (by decide) H (fun q3 H => ?_) (fun q3 H => ?_)
    · refine st_aload_n g dX7_wrong_25 rfl ?_
      refine gf_X7_10 g dX7_wrong_26 rfl (r := 1) rfl ?_
      refine gf_X7_100 g dX7_wrong_29 rfl ?_
      refine st_bipush g dX7_wrong_32 bi_12 ?_
      refine st_ic_ne g dX7_wrong_34 (tgt := 40) (by decide) H (fun q4 H => ?_) (fun q4 H => ?_)
      · refine st_aload_n g dX7_wrong_40 rfl ?_
        refine st_iload_n g dX7_wrong_41 rfl ?_
        refine st_bipush g dX7_wrong_42 bi_10 ?_
        refine st_idiv g dX7_wrong_44 (by decide) ?_
        refine st_iload_n g dX7_wrong_45 rfl ?_
        refine st_bipush g dX7_wrong_46 bi_10 ?_
        refine st_irem g dX7_wrong_48 (by decide) ?_
        refine st_iload_n g dX7_wrong_49 rfl ?_
        obtain ⟨r5, hr5, H⟩ := bind_some H
        refine st_callVI g (as := [.int (a1 / 10), .int (a1 % 10), .int a2]) dX7_wrong_50 rfl rfl ml_X7_103 mf_X7_addWrong rfl (Nat.le_of_ble_eq_true rfl) (Nat.le_of_ble_eq_true rfl) (c_X7_addWrong (a1 / 10) (a1 % 10) a2 h _ hr5) (fun hz => ?_)
        obtain rfl := Option.some.inj H
        exact st_iret g dX7_wrong_53 rfl (fun q => by cases q) K
      · refine st_bipush g dX7_wrong_37 bi_m3 ?_
        obtain rfl := Option.some.inj H
        exact st_iret g dX7_wrong_39 rfl (fun q => by cases q) K
    · refine st_iconst g dX7_wrong_23 ic_m1 ?_
      obtain rfl := Option.some.inj H
      exact st_iret g dX7_wrong_24 rfl (fun q => by cases q) K
theorem c_X7_wrong (a1 : Int32) (a2 : Int32) (h : Hp) (r : (Int32 × Hp)) (H : f_X7_wrong a1 a2 h = some r) : CtI yX7_wrong cX7_wrong 3 .int 3 [.ref 0, .int a1, .int a2] h r.1 r.2 :=
  ct_ofI (own := RX7) [.ref 0, .int a1, .int a2] (by decide +kernel) rfl (fun ρ => Nat.le_of_ble_eq_true rfl) (fun ρ => rfl) (fun x g K => t_X7_wrong g a1 a2 h r H K)
def P_X7_wrongs_61 (x : Cx) (a1 : Int32) (a3 : Int32) (s : (Int32 × Int32 × Int32 × Hp)) : Prop := WA x 61 [.ref 0, .int a1, .null, .int a3, .int s.1, .int s.2.1, .int s.2.2.1, .null, .null, .null] [] s.2.2.2
def E_X7_wrongs_61 (x : Cx) (a1 : Int32) (a3 : Int32) : (Int32 × Int32 × Int32 × Hp) ⊕ (Int32 × Hp) → Prop := Sum.elim (fun s : (Int32 × Int32 × Int32 × Hp) => WA x 181 [.null, .null, .null, .null, .int s.1, .null, .null, .null, .null, .null] [] s.2.2.2) (fun r : (Int32 × Hp) => RtI x .int r.1 r.2)
def b_X7_wrongs_61 (a1 : Int32) (a3 : Int32) (s : (Int32 × Int32 × Int32 × Hp)) : Option ((Int32 × Int32 × Int32 × Hp) ⊕ ((Int32 × Int32 × Int32 × Hp) ⊕ (Int32 × Hp))) :=
  if a3 ≤ s.2.2.1 then
    some (.inr (.inl (s.1, s.2.1, s.2.2.1, s.2.2.2)))
  else
    (f_X6_hasPart a1 s.2.1 3 s.2.2.2).bind fun r10 =>
    if r10 = 0 then
      some (.inr (.inr (s.1, s.2.2.2)))
    else
      if (s.2.2.2.1 1 3) = 12 then
        some (.inr (.inr (s.1, s.2.2.2)))
      else
        (f_X6_valueAt a1 s.2.1 s.2.2.2).bind fun r13 =>
        (f_X6_valueAt a1 (s.2.1 + 1) s.2.2.2).bind fun r14 =>
        (f_X6_valueAt a1 (s.2.1 + 2) s.2.2.2).bind fun r15 =>
        (f_X3_isSo r13.toInt32 r14.toInt32 r15.toInt32 s.2.2.2).bind fun r16 =>
        if r16 = 0 then
          some (.inr (.inr (s.1, s.2.2.2)))
        else
          (f_X7_addWrong r13.toInt32 r14.toInt32 r15.toInt32 s.2.2.2).bind fun r18 =>
          some (.inl (s.1 + 1, s.2.1 + 3, s.2.2.1 + 1, r18.2))
theorem tb_X7_wrongs_61 {x : Cx} (g : Gx x RX7 cX7_wrongs 10 3) (a1 : Int32) (a3 : Int32) (s : (Int32 × Int32 × Int32 × Hp)) (out : (Int32 × Int32 × Int32 × Hp) ⊕ ((Int32 × Int32 × Int32 × Hp) ⊕ (Int32 × Hp))) (H : b_X7_wrongs_61 a1 a3 s = some out) (K : Sum.elim (P_X7_wrongs_61 x a1 a3) (E_X7_wrongs_61 x a1 a3) out) : P_X7_wrongs_61 x a1 a3 s := by
  unfold b_X7_wrongs_61 at H
  show WA x 61 [.ref 0, .int a1, .null, .int a3, .int s.1, .int s.2.1, .int s.2.2.1, .null, .null, .null] [] s.2.2.2
  refine st_iload g dX7_wrongs_61 rfl ?_
  refine st_iload_n g dX7_wrongs_63 rfl ?_
  refine st_ic_ge g dX7_wrongs_64 (tgt := 181) (by decide) H (fun q9 H => ?_) (fun q9 H => ?_)
  · obtain rfl := Option.some.inj H
    exact (wa_drop [0, 1, 3, 5, 6] K)
  · refine st_aload_n g dX7_wrongs_67 rfl ?_
    refine gf_X7_54 g dX7_wrongs_68 rfl (r := 30) rfl ?_
    refine st_iload_n g dX7_wrongs_71 rfl ?_
    refine st_iload g dX7_wrongs_72 rfl ?_
    refine st_iconst g dX7_wrongs_74 ic_3 ?_
    obtain ⟨r10, hr10, H⟩ := bind_some H
    refine st_callVI g (as := [.int a1, .int s.2.1, .int 3]) dX7_wrongs_75 rfl rfl ml_X7_117 mf_X6_hasPart rfl (Nat.le_of_ble_eq_true rfl) (Nat.le_of_ble_eq_true rfl) (c_X6_hasPart a1 s.2.1 3 s.2.2.2 _ hr10) (fun hz => ?_)
    have br10 := hz rfl
    refine st_if_eq g dX7_wrongs_78 (tgt := 93) (by decide) H (fun q11 H => ?_) (fun q11 H => ?_)
    · refine st_iload g dX7_wrongs_93 rfl ?_
      obtain rfl := Option.some.inj H
      exact st_iret g dX7_wrongs_95 rfl (fun q => by cases q) K
    · refine st_aload_n g dX7_wrongs_81 rfl ?_
      refine gf_X7_10 g dX7_wrongs_82 rfl (r := 1) rfl ?_
      refine gf_X7_100 g dX7_wrongs_85 rfl ?_
      refine st_bipush g dX7_wrongs_88 bi_12 ?_
      refine st_ic_ne g dX7_wrongs_90 (tgt := 96) (by decide) H (fun q12 H => ?_) (fun q12 H => ?_)
      · refine st_aload_n g dX7_wrongs_96 rfl ?_
        refine gf_X7_54 g dX7_wrongs_97 rfl (r := 30) rfl ?_
        refine st_iload_n g dX7_wrongs_100 rfl ?_
        refine st_iload g dX7_wrongs_101 rfl ?_
        obtain ⟨r13, hr13, H⟩ := bind_some H
        refine st_callVL g (as := [.int a1, .int s.2.1]) dX7_wrongs_103 rfl rfl ml_X7_120 mf_X6_valueAt rfl (Nat.le_of_ble_eq_true rfl) (Nat.le_of_ble_eq_true rfl) (c_X6_valueAt a1 s.2.1 s.2.2.2 _ hr13) ?_
        refine st_l2i g dX7_wrongs_106 ?_
        refine st_istore g dX7_wrongs_107 (Nat.le_of_ble_eq_true rfl) rfl (ls2 := [.ref 0, .int a1, .null, .int a3, .int s.1, .int s.2.1, .int s.2.2.1, .int r13.toInt32, .null, .null]) rfl ?_
        refine st_aload_n g dX7_wrongs_109 rfl ?_
        refine gf_X7_54 g dX7_wrongs_110 rfl (r := 30) rfl ?_
        refine st_iload_n g dX7_wrongs_113 rfl ?_
        refine st_iload g dX7_wrongs_114 rfl ?_
        refine st_iconst g dX7_wrongs_116 ic_1 ?_
        refine st_iadd g dX7_wrongs_117 ?_
        obtain ⟨r14, hr14, H⟩ := bind_some H
        refine st_callVL g (as := [.int a1, .int (s.2.1 + 1)]) dX7_wrongs_118 rfl rfl ml_X7_120 mf_X6_valueAt rfl (Nat.le_of_ble_eq_true rfl) (Nat.le_of_ble_eq_true rfl) (c_X6_valueAt a1 (s.2.1 + 1) s.2.2.2 _ hr14) ?_
        refine st_l2i g dX7_wrongs_121 ?_
        refine st_istore g dX7_wrongs_122 (Nat.le_of_ble_eq_true rfl) rfl (ls2 := [.ref 0, .int a1, .null, .int a3, .int s.1, .int s.2.1, .int s.2.2.1, .int r13.toInt32, .int r14.toInt32, .null]) rfl ?_
        refine st_aload_n g dX7_wrongs_124 rfl ?_
        refine gf_X7_54 g dX7_wrongs_125 rfl (r := 30) rfl ?_
        refine st_iload_n g dX7_wrongs_128 rfl ?_
        refine st_iload g dX7_wrongs_129 rfl ?_
        refine st_iconst g dX7_wrongs_131 ic_2 ?_
        refine st_iadd g dX7_wrongs_132 ?_
        obtain ⟨r15, hr15, H⟩ := bind_some H
        refine st_callVL g (as := [.int a1, .int (s.2.1 + 2)]) dX7_wrongs_133 rfl rfl ml_X7_120 mf_X6_valueAt rfl (Nat.le_of_ble_eq_true rfl) (Nat.le_of_ble_eq_true rfl) (c_X6_valueAt a1 (s.2.1 + 2) s.2.2.2 _ hr15) ?_
        refine st_l2i g dX7_wrongs_136 ?_
        refine st_istore g dX7_wrongs_137 (Nat.le_of_ble_eq_true rfl) rfl (ls2 := [.ref 0, .int a1, .null, .int a3, .int s.1, .int s.2.1, .int s.2.2.1, .int r13.toInt32, .int r14.toInt32, .int r15.toInt32]) rfl ?_
        refine st_aload_n g dX7_wrongs_139 rfl ?_
        refine gf_X7_10 g dX7_wrongs_140 rfl (r := 1) rfl ?_
        refine st_iload g dX7_wrongs_143 rfl ?_
        refine st_iload g dX7_wrongs_145 rfl ?_
        refine st_iload g dX7_wrongs_147 rfl ?_
        obtain ⟨r16, hr16, H⟩ := bind_some H
        refine st_callVI g (as := [.int r13.toInt32, .int r14.toInt32, .int r15.toInt32]) dX7_wrongs_149 rfl rfl ml_X7_96 mf_X3_isSo rfl (Nat.le_of_ble_eq_true rfl) (Nat.le_of_ble_eq_true rfl) (c_X3_isSo r13.toInt32 r14.toInt32 r15.toInt32 s.2.2.2 _ hr16) (fun hz => ?_)
        have br16 := hz rfl
        refine st_if_ne g dX7_wrongs_152 (tgt := 158) (by decide) H (fun q17 H => ?_) (fun q17 H => ?_)
        · refine st_aload_n g dX7_wrongs_158 rfl ?_
          refine st_iload g dX7_wrongs_159 rfl ?_
          refine st_iload g dX7_wrongs_161 rfl ?_
          refine st_iload g dX7_wrongs_163 rfl ?_
          obtain ⟨r18, hr18, H⟩ := bind_some H
          refine st_callVI g (as := [.int r13.toInt32, .int r14.toInt32, .int r15.toInt32]) dX7_wrongs_165 rfl rfl ml_X7_103 mf_X7_addWrong rfl (Nat.le_of_ble_eq_true rfl) (Nat.le_of_ble_eq_true rfl) (c_X7_addWrong r13.toInt32 r14.toInt32 r15.toInt32 s.2.2.2 _ hr18) (fun hz => ?_)
          refine st_pop g dX7_wrongs_168 rfl ?_
          refine st_iinc g dX7_wrongs_169 rfl (ii_1 _) (Nat.le_of_ble_eq_true rfl) rfl (ls2 := [.ref 0, .int a1, .null, .int a3, .int (s.1 + 1), .int s.2.1, .int s.2.2.1, .int r13.toInt32, .int r14.toInt32, .int r15.toInt32]) rfl ?_
          refine st_iinc g dX7_wrongs_172 rfl (ii_3 _) (Nat.le_of_ble_eq_true rfl) rfl (ls2 := [.ref 0, .int a1, .null, .int a3, .int (s.1 + 1), .int (s.2.1 + 3), .int s.2.2.1, .int r13.toInt32, .int r14.toInt32, .int r15.toInt32]) rfl ?_
          refine st_iinc g dX7_wrongs_175 rfl (ii_1 _) (Nat.le_of_ble_eq_true rfl) rfl (ls2 := [.ref 0, .int a1, .null, .int a3, .int (s.1 + 1), .int (s.2.1 + 3), .int (s.2.2.1 + 1), .int r13.toInt32, .int r14.toInt32, .int r15.toInt32]) rfl ?_
          refine st_goto g dX7_wrongs_178 (tgt := 61) (by decide) ?_
          obtain rfl := Option.some.inj H
          exact (wa_drop [7, 8, 9] K)
        · refine st_iload g dX7_wrongs_155 rfl ?_
          obtain rfl := Option.some.inj H
          exact st_iret g dX7_wrongs_157 rfl (fun q => by cases q) K
      · refine st_iload g dX7_wrongs_93 rfl ?_
        obtain rfl := Option.some.inj H
        exact st_iret g dX7_wrongs_95 rfl (fun q => by cases q) K
def f_X7_wrongs (a1 : Int32) (a2 : Int32) (a3 : Int32) (h : Hp) : Option (Int32 × Hp) :=
  (f_X6_isShelf a1).bind fun r1 =>
  if r1 = 0 then
    some ((-1), h)
  else
    if a3 < 1 then
      some ((-1), h)
    else
      if a3 ≤ 12 then
        (f_X6_isEmpty a1 h).bind fun r5 =>
        if r5 = 0 then
          (f_X6_isRowOf a1 0 h).bind fun r7 =>
          if r7 = 0 then
            some ((-12), h)
          else
            (iter (b_X7_wrongs_61 a1 a3) FU (0, a2, 0, h)).bind (Sum.elim (fun a19 =>
              some (a19.1, a19.2.2.2)) (fun r => some r))
        else
          some (0, h)
      else
        some ((-1), h)
theorem t_X7_wrongs {x : Cx} (g : Gx x RX7 cX7_wrongs 10 3) (a1 : Int32) (a2 : Int32) (a3 : Int32) (h : Hp) (out : (Int32 × Hp)) (H : f_X7_wrongs a1 a2 a3 h = some out) (K : RtI x .int out.1 out.2) : WA x 0 [.ref 0, .int a1, .int a2, .int a3, .null, .null, .null, .null, .null, .null] [] h := by
  unfold f_X7_wrongs at H
  refine st_aload_n g dX7_wrongs_0 rfl ?_
  refine gf_X7_54 g dX7_wrongs_1 rfl (r := 30) rfl ?_
  refine st_iload_n g dX7_wrongs_4 rfl ?_
  obtain ⟨r1, hr1, H⟩ := bind_some H
  refine st_callVI g (as := [.int a1]) dX7_wrongs_5 rfl rfl ml_X7_107 mf_X6_isShelf rfl (Nat.le_of_ble_eq_true rfl) (Nat.le_of_ble_eq_true rfl) (c_X6_isShelf a1 h _ hr1) (fun hz => ?_)
  have br1 := hz rfl
  refine st_if_eq g dX7_wrongs_8 (tgt := 22) (by decide) H (fun q2 H => ?_) (fun q2 H => ?_)
  · refine st_iconst g dX7_wrongs_22 ic_m1 ?_
    obtain rfl := Option.some.inj H
    exact st_iret g dX7_wrongs_23 rfl (fun q => by cases q) K
  · refine st_iload_n g dX7_wrongs_11 rfl ?_
    refine st_iconst g dX7_wrongs_12 ic_1 ?_
    refine st_ic_lt g dX7_wrongs_13 (tgt := 22) (by decide) H (fun q3 H => ?_) (fun q3 H => ?_)
    · refine st_iconst g dX7_wrongs_22 ic_m1 ?_
      obtain rfl := Option.some.inj H
      exact st_iret g dX7_wrongs_23 rfl (fun q => by cases q) K
    · refine st_iload_n g dX7_wrongs_16 rfl ?_
      refine st_bipush g dX7_wrongs_17 bi_12 ?_
      refine st_ic_le g dX7_wrongs_19 (tgt := 24) (by decide) H (fun q4 H => ?_) (fun q4 H => ?_)
      · refine st_aload_n g dX7_wrongs_24 rfl ?_
        refine gf_X7_54 g dX7_wrongs_25 rfl (r := 30) rfl ?_
        refine st_iload_n g dX7_wrongs_28 rfl ?_
        obtain ⟨r5, hr5, H⟩ := bind_some H
        refine st_callVI g (as := [.int a1]) dX7_wrongs_29 rfl rfl ml_X7_110 mf_X6_isEmpty rfl (Nat.le_of_ble_eq_true rfl) (Nat.le_of_ble_eq_true rfl) (c_X6_isEmpty a1 h _ hr5) (fun hz => ?_)
        have br5 := hz rfl
        refine st_if_eq g dX7_wrongs_32 (tgt := 37) (by decide) H (fun q6 H => ?_) (fun q6 H => ?_)
        · refine st_aload_n g dX7_wrongs_37 rfl ?_
          refine gf_X7_54 g dX7_wrongs_38 rfl (r := 30) rfl ?_
          refine st_iload_n g dX7_wrongs_41 rfl ?_
          refine st_iconst g dX7_wrongs_42 ic_0 ?_
          obtain ⟨r7, hr7, H⟩ := bind_some H
          refine st_callVI g (as := [.int a1, .int 0]) dX7_wrongs_43 rfl rfl ml_X7_113 mf_X6_isRowOf rfl (Nat.le_of_ble_eq_true rfl) (Nat.le_of_ble_eq_true rfl) (c_X6_isRowOf a1 0 h _ hr7) (fun hz => ?_)
          have br7 := hz rfl
          refine st_if_ne g dX7_wrongs_46 (tgt := 52) (by decide) H (fun q8 H => ?_) (fun q8 H => ?_)
          · refine st_iconst g dX7_wrongs_52 ic_0 ?_
            refine st_istore g dX7_wrongs_53 (Nat.le_of_ble_eq_true rfl) rfl (ls2 := [.ref 0, .int a1, .int a2, .int a3, .int 0, .null, .null, .null, .null, .null]) rfl ?_
            refine st_iload_n g dX7_wrongs_55 rfl ?_
            refine st_istore g dX7_wrongs_56 (Nat.le_of_ble_eq_true rfl) rfl (ls2 := [.ref 0, .int a1, .int a2, .int a3, .int 0, .int a2, .null, .null, .null, .null]) rfl ?_
            refine st_iconst g dX7_wrongs_58 ic_0 ?_
            refine st_istore g dX7_wrongs_59 (Nat.le_of_ble_eq_true rfl) rfl (ls2 := [.ref 0, .int a1, .int a2, .int a3, .int 0, .int a2, .int 0, .null, .null, .null]) rfl ?_
            refine wa_drop [2] ?_
            show P_X7_wrongs_61 x a1 a3 (0, a2, 0, h)
            obtain ⟨a19o, ha19, hca19⟩ := it_R H
            refine iter_W (P := P_X7_wrongs_61 x a1 a3) (E := E_X7_wrongs_61 x a1 a3) (fun s9 o9 ho9 hK9 => tb_X7_wrongs_61 g a1 a3 s9 o9 ho9 hK9) FU _ a19o ha19 ?_
            rcases hca19 with ⟨a19, rfl, H⟩ | ⟨r, rfl, H⟩
            · show WA x 181 [.null, .null, .null, .null, .int a19.1, .null, .null, .null, .null, .null] [] a19.2.2.2
              refine st_iload g dX7_wrongs_181 rfl ?_
              obtain rfl := Option.some.inj H
              exact st_iret g dX7_wrongs_183 rfl (fun q => by cases q) K
            · obtain rfl := Option.some.inj H
              exact K
          · refine st_bipush g dX7_wrongs_49 bi_m12 ?_
            obtain rfl := Option.some.inj H
            exact st_iret g dX7_wrongs_51 rfl (fun q => by cases q) K
        · refine st_iconst g dX7_wrongs_35 ic_0 ?_
          obtain rfl := Option.some.inj H
          exact st_iret g dX7_wrongs_36 rfl (fun q => by cases q) K
      · refine st_iconst g dX7_wrongs_22 ic_m1 ?_
        obtain rfl := Option.some.inj H
        exact st_iret g dX7_wrongs_23 rfl (fun q => by cases q) K
theorem c_X7_wrongs (a1 : Int32) (a2 : Int32) (a3 : Int32) (h : Hp) (r : (Int32 × Hp)) (H : f_X7_wrongs a1 a2 a3 h = some r) : CtI yX7_wrongs cX7_wrongs 10 .int 3 [.ref 0, .int a1, .int a2, .int a3] h r.1 r.2 :=
  ct_ofI (own := RX7) [.ref 0, .int a1, .int a2, .int a3, .null, .null, .null, .null, .null, .null] (by decide +kernel) rfl (fun ρ => Nat.le_of_ble_eq_true rfl) (fun ρ => rfl) (fun x g K => t_X7_wrongs g a1 a2 a3 h r H K)
def j_X0_note_13 (a1 : Int32) (a2 : Int32) (a3 : Int32) (a4 : Int32) (h : Hp) : Option (Hp) :=
  (wrI h 26 (h.1 25 5) a1).bind fun h2 =>
  (wrI h2 27 (h2.1 25 5) a2).bind fun h3 =>
  (wrI h3 28 (h3.1 25 5) a3).bind fun h4 =>
  (wrI h4 29 (h4.1 25 5) a4).bind fun h5 =>
  lt (stI h5 25 5 ((h5.1 25 5) + 1)) fun h6 =>
  lt (stI h6 25 4 (h6.1 25 5)) fun h7 =>
  some h7
theorem tj_X0_note_13 {x : Cx} (g : Gx x RX0 cX0_note 5 3) (a1 : Int32) (a2 : Int32) (a3 : Int32) (a4 : Int32) (h : Hp) (out : Hp) (H : j_X0_note_13 a1 a2 a3 a4 h = some out) (K : RtV x out) : WA x 13 [.ref 25, .int a1, .int a2, .int a3, .int a4] [] h := by
  unfold j_X0_note_13 at H
  refine st_aload_n g dX0_note_13 rfl ?_
  refine gf_X0_9 g dX0_note_14 rfl (r := 26) rfl ?_
  refine st_aload_n g dX0_note_17 rfl ?_
  refine gf_X0_26 g dX0_note_18 rfl ?_
  refine st_iload_n g dX0_note_21 rfl ?_
  refine st_iast g dX0_note_22 H (fun h2 H => ?_)
  refine st_aload_n g dX0_note_23 rfl ?_
  refine gf_X0_13 g dX0_note_24 rfl (r := 27) rfl ?_
  refine st_aload_n g dX0_note_27 rfl ?_
  refine gf_X0_26 g dX0_note_28 rfl ?_
  refine st_iload_n g dX0_note_31 rfl ?_
  refine st_iast g dX0_note_32 H (fun h3 H => ?_)
  refine st_aload_n g dX0_note_33 rfl ?_
  refine gf_X0_16 g dX0_note_34 rfl (r := 28) rfl ?_
  refine st_aload_n g dX0_note_37 rfl ?_
  refine gf_X0_26 g dX0_note_38 rfl ?_
  refine st_iload_n g dX0_note_41 rfl ?_
  refine st_iast g dX0_note_42 H (fun h4 H => ?_)
  refine st_aload_n g dX0_note_43 rfl ?_
  refine gf_X0_19 g dX0_note_44 rfl (r := 29) rfl ?_
  refine st_aload_n g dX0_note_47 rfl ?_
  refine gf_X0_26 g dX0_note_48 rfl ?_
  refine st_iload g dX0_note_51 rfl ?_
  refine st_iast g dX0_note_53 H (fun h5 H => ?_)
  refine st_aload_n g dX0_note_54 rfl ?_
  refine st_dup g dX0_note_55 rfl ?_
  refine gf_X0_26 g dX0_note_56 rfl ?_
  refine st_iconst g dX0_note_59 ic_1 ?_
  refine st_iadd g dX0_note_60 ?_
  refine pu_X0_26 g dX0_note_61 rfl ?_
  refine wa_ltH H (fun h6 H => ?_)
  refine st_aload_n g dX0_note_64 rfl ?_
  refine st_aload_n g dX0_note_65 rfl ?_
  refine gf_X0_26 g dX0_note_66 rfl ?_
  refine pu_X0_22 g dX0_note_69 rfl ?_
  refine wa_ltH H (fun h7 H => ?_)
  obtain rfl := Option.some.inj H
  exact st_vret g dX0_note_72 K
def f_X0_note (a1 : Int32) (a2 : Int32) (a3 : Int32) (a4 : Int32) (h : Hp) : Option Hp :=
  if (h.1 25 5) = 40 then
    (f_X0_dropOldest h).bind fun r8 =>
    j_X0_note_13 a1 a2 a3 a4 r8
  else
    j_X0_note_13 a1 a2 a3 a4 h
theorem t_X0_note {x : Cx} (g : Gx x RX0 cX0_note 5 3) (a1 : Int32) (a2 : Int32) (a3 : Int32) (a4 : Int32) (h : Hp) (out : Hp) (H : f_X0_note a1 a2 a3 a4 h = some out) (K : RtV x out) : WA x 0 [.ref 25, .int a1, .int a2, .int a3, .int a4] [] h := by
  unfold f_X0_note at H
  refine st_aload_n g dX0_note_0 rfl ?_
  refine gf_X0_26 g dX0_note_1 rfl ?_
  refine st_bipush g dX0_note_4 bi_40 ?_
  refine st_ic_ne g dX0_note_6 (tgt := 13) (by decide) H (fun q1 H => ?_) (fun q1 H => ?_)
  · exact (tj_X0_note_13 g a1 a2 a3 a4 h _ H K)
  · refine st_aload_n g dX0_note_9 rfl ?_
    obtain ⟨r8, hr8, H⟩ := bind_some H
    refine st_callVV g (as := []) dX0_note_10 rfl rfl ml_X0_29 mf_X0_dropOldest rfl (Nat.le_of_ble_eq_true rfl) (Nat.le_of_ble_eq_true rfl) (c_X0_dropOldest h _ hr8) ?_
    exact (tj_X0_note_13 g a1 a2 a3 a4 r8 _ H K)
theorem c_X0_note (a1 : Int32) (a2 : Int32) (a3 : Int32) (a4 : Int32) (h : Hp) (r : Hp) (H : f_X0_note a1 a2 a3 a4 h = some r) : CtV yX0_note cX0_note 5 3 [.ref 25, .int a1, .int a2, .int a3, .int a4] h r :=
  ct_ofV (own := RX0) [.ref 25, .int a1, .int a2, .int a3, .int a4] (by decide +kernel) rfl (fun ρ => Nat.le_of_ble_eq_true rfl) (fun ρ => rfl) (fun x g K => t_X0_note g a1 a2 a3 a4 h r H K)
def f_X7_of (a1 : Int32) (a2 : Int32) (h : Hp) : Option Int32 :=
  (f_X7_isThere a1 a2 h).bind fun r1 =>
  if r1 = 0 then
    some (-2000000000)
  else
    (f_X7_valueOf a1 a2 h).bind fun r3 =>
    some r3
theorem t_X7_of {x : Cx} (g : Gx x RX7 cX7_of 3 3) (a1 : Int32) (a2 : Int32) (h : Hp) (out : Int32) (H : f_X7_of a1 a2 h = some out) (K : RtI x .int out h) : WA x 0 [.ref 0, .int a1, .int a2] [] h := by
  unfold f_X7_of at H
  refine st_aload_n g dX7_of_0 rfl ?_
  refine st_iload_n g dX7_of_1 rfl ?_
  refine st_iload_n g dX7_of_2 rfl ?_
  obtain ⟨r1, hr1, H⟩ := bind_some H
  refine st_callVI g (as := [.int a1, .int a2]) dX7_of_3 rfl rfl ml_X7_124 mf_X7_isThere rfl (Nat.le_of_ble_eq_true rfl) (Nat.le_of_ble_eq_true rfl) (c_X7_isThere a1 a2 h _ hr1) (fun hz => ?_)
  have br1 := hz rfl
  refine st_if_ne g dX7_of_6 (tgt := 12) (by decide) H (fun q2 H => ?_) (fun q2 H => ?_)
  · refine st_aload_n g dX7_of_12 rfl ?_
    refine st_iload_n g dX7_of_13 rfl ?_
    refine st_iload_n g dX7_of_14 rfl ?_
    obtain ⟨r3, hr3, H⟩ := bind_some H
    refine st_callVI g (as := [.int a1, .int a2]) dX7_of_15 rfl rfl ml_X7_134 mf_X7_valueOf rfl (Nat.le_of_ble_eq_true rfl) (Nat.le_of_ble_eq_true rfl) (c_X7_valueOf a1 a2 h _ hr3) (fun hz => ?_)
    obtain rfl := Option.some.inj H
    exact st_iret g dX7_of_18 rfl (fun q => by cases q) K
  · refine st_ldc g dX7_of_9 kc_X7_127 ?_
    obtain rfl := Option.some.inj H
    exact st_iret g dX7_of_11 rfl (fun q => by cases q) K
theorem c_X7_of (a1 : Int32) (a2 : Int32) (h : Hp) (r : Int32) (H : f_X7_of a1 a2 h = some r) : CtI yX7_of cX7_of 3 .int 3 [.ref 0, .int a1, .int a2] h r h :=
  ct_ofI (own := RX7) [.ref 0, .int a1, .int a2] (by decide +kernel) rfl (fun ρ => Nat.le_of_ble_eq_true rfl) (fun ρ => rfl) (fun x g K => t_X7_of g a1 a2 h r H K)
def j_X7_worth_47 (a1 : Nat) (a2 : Int32) (a3 : Int32) (a4 : Int32) (a5 : Int32) (t0 : Int32) (h : Hp) : Option ((Int32 × Hp)) :=
  (rdI h 6 a2).bind fun v5 =>
  (rdI h 3 a4).bind fun v6 =>
  (f_X3_seers a2 a3 h).bind fun r7 =>
  (rdI h (pf a1 0) a3).bind fun v8 =>
  (f_X4_tell v5 a5 v6 r7 v8 t0 h).bind fun r9 =>
  (f_X4_worth r9).bind fun r10 =>
  some (r10.1, r10.2)
theorem tj_X7_worth_47 {x : Cx} (g : Gx x RX7 cX7_worth 7 3) (a1 : Nat) (a2 : Int32) (a3 : Int32) (a4 : Int32) (a5 : Int32) (t0 : Int32) (h : Hp) (hga1 : sh a1 = (0, 5)) (out : (Int32 × Hp)) (H : j_X7_worth_47 a1 a2 a3 a4 a5 t0 h = some out) (K : RtI x .int out.1 out.2) : WA x 47 [.ref 0, .ref a1, .int a2, .int a3, .int a4, .int a5, .null] [.int t0] h := by
  unfold j_X7_worth_47 at H
  refine st_istore g dX7_worth_47 (Nat.le_of_ble_eq_true rfl) rfl (ls2 := [.ref 0, .ref a1, .int a2, .int a3, .int a4, .int a5, .int t0]) rfl ?_
  refine st_aload_n g dX7_worth_49 rfl ?_
  refine gf_X7_19 g dX7_worth_50 rfl (r := 7) rfl ?_
  refine st_aload_n g dX7_worth_53 rfl ?_
  refine gf_X7_10 g dX7_worth_54 rfl (r := 1) rfl ?_
  refine gf_X7_248 g dX7_worth_57 rfl (r := 6) rfl ?_
  refine st_iload_n g dX7_worth_60 rfl ?_
  refine st_iald g dX7_worth_61 H (fun v5 H => ?_)
  refine st_iload g dX7_worth_62 rfl ?_
  refine st_aload_n g dX7_worth_64 rfl ?_
  refine gf_X7_10 g dX7_worth_65 rfl (r := 1) rfl ?_
  refine gf_X7_236 g dX7_worth_68 rfl (r := 3) rfl ?_
  refine st_iload g dX7_worth_71 rfl ?_
  refine st_iald g dX7_worth_73 H (fun v6 H => ?_)
  refine st_aload_n g dX7_worth_74 rfl ?_
  refine gf_X7_10 g dX7_worth_75 rfl (r := 1) rfl ?_
  refine st_iload_n g dX7_worth_78 rfl ?_
  refine st_iload_n g dX7_worth_79 rfl ?_
  obtain ⟨r7, hr7, H⟩ := bind_some H
  refine st_callVI g (as := [.int a2, .int a3]) dX7_worth_80 rfl rfl ml_X7_384 mf_X3_seers rfl (Nat.le_of_ble_eq_true rfl) (Nat.le_of_ble_eq_true rfl) (c_X3_seers a2 a3 h _ hr7) (fun hz => ?_)
  refine st_aload_n g dX7_worth_83 rfl ?_
  refine gf_X7_169 g dX7_worth_84 hga1 (r := pf a1 0) rfl ?_
  refine st_iload_n g dX7_worth_87 rfl ?_
  refine st_iald g dX7_worth_88 H (fun v8 H => ?_)
  refine st_iload g dX7_worth_89 rfl ?_
  obtain ⟨r9, hr9, H⟩ := bind_some H
  refine st_callVV g (as := [.int v5, .int a5, .int v6, .int r7, .int v8, .int t0]) dX7_worth_91 rfl rfl ml_X7_387 mf_X4_tell rfl (Nat.le_of_ble_eq_true rfl) (Nat.le_of_ble_eq_true rfl) (c_X4_tell v5 a5 v6 r7 v8 t0 h _ hr9) ?_
  refine st_aload_n g dX7_worth_94 rfl ?_
  refine gf_X7_19 g dX7_worth_95 rfl (r := 7) rfl ?_
  obtain ⟨r10, hr10, H⟩ := bind_some H
  refine st_callVI g (as := []) dX7_worth_98 rfl rfl ml_X7_391 mf_X4_worth rfl (Nat.le_of_ble_eq_true rfl) (Nat.le_of_ble_eq_true rfl) (c_X4_worth r9 _ hr10) (fun hz => ?_)
  obtain rfl := Option.some.inj H
  exact st_iret g dX7_worth_101 rfl (fun q => by cases q) K
def f_X7_worth (a1 : Nat) (a2 : Int32) (a3 : Int32) (h : Hp) : Option (Int32 × Hp) :=
  if sh a1 = (0, 5) then
    (rdI h 5 a2).bind fun v1 =>
    (rdI h (pf a1 1) a2).bind fun v2 =>
    (rdI h 2 v1).bind fun v3 =>
    if v3 = a3 then
      j_X7_worth_47 a1 a2 a3 v1 (mxI 0 ((h.1 a1 4) - v2)) 1 h
    else
      j_X7_worth_47 a1 a2 a3 v1 (mxI 0 ((h.1 a1 4) - v2)) 0 h
  else none
theorem t_X7_worth {x : Cx} (g : Gx x RX7 cX7_worth 7 3) (a1 : Nat) (a2 : Int32) (a3 : Int32) (h : Hp) (out : (Int32 × Hp)) (H : f_X7_worth a1 a2 a3 h = some out) (K : RtI x .int out.1 out.2) : WA x 0 [.ref 0, .ref a1, .int a2, .int a3, .null, .null, .null] [] h := by
  unfold f_X7_worth at H
  obtain ⟨hga1, H⟩ := gd_some H
  refine st_aload_n g dX7_worth_0 rfl ?_
  refine gf_X7_10 g dX7_worth_1 rfl (r := 1) rfl ?_
  refine gf_X7_203 g dX7_worth_4 rfl (r := 5) rfl ?_
  refine st_iload_n g dX7_worth_7 rfl ?_
  refine st_iald g dX7_worth_8 H (fun v1 H => ?_)
  refine st_istore g dX7_worth_9 (Nat.le_of_ble_eq_true rfl) rfl (ls2 := [.ref 0, .ref a1, .int a2, .int a3, .int v1, .null, .null]) rfl ?_
  refine st_iconst g dX7_worth_11 ic_0 ?_
  refine st_aload_n g dX7_worth_12 rfl ?_
  refine gf_X7_272 g dX7_worth_13 hga1 ?_
  refine st_aload_n g dX7_worth_16 rfl ?_
  refine gf_X7_263 g dX7_worth_17 hga1 (r := pf a1 1) rfl ?_
  refine st_iload_n g dX7_worth_20 rfl ?_
  refine st_iald g dX7_worth_21 H (fun v2 H => ?_)
  refine st_isub g dX7_worth_22 ?_
  refine st_max g dX7_worth_23 ml_X7_275 (Nat.le_of_ble_eq_true rfl) (Nat.le_of_ble_eq_true rfl) ?_
  refine st_istore g dX7_worth_26 (Nat.le_of_ble_eq_true rfl) rfl (ls2 := [.ref 0, .ref a1, .int a2, .int a3, .int v1, .int (mxI 0 ((h.1 a1 4) - v2)), .null]) rfl ?_
  refine st_aload_n g dX7_worth_28 rfl ?_
  refine gf_X7_10 g dX7_worth_29 rfl (r := 1) rfl ?_
  refine gf_X7_200 g dX7_worth_32 rfl (r := 2) rfl ?_
  refine st_iload g dX7_worth_35 rfl ?_
  refine st_iald g dX7_worth_37 H (fun v3 H => ?_)
  refine st_iload_n g dX7_worth_38 rfl ?_
  refine st_ic_ne g dX7_worth_39 (tgt := 46) (by decide) H (fun q4 H => ?_) (fun q4 H => ?_)
  · refine st_iconst g dX7_worth_46 ic_0 ?_
    exact (tj_X7_worth_47 g a1 a2 a3 v1 (mxI 0 ((h.1 a1 4) - v2)) 0 h hga1 _ H K)
  · refine st_iconst g dX7_worth_42 ic_1 ?_
    refine st_goto g dX7_worth_43 (tgt := 47) (by decide) ?_
    exact (tj_X7_worth_47 g a1 a2 a3 v1 (mxI 0 ((h.1 a1 4) - v2)) 1 h hga1 _ H K)
theorem c_X7_worth (a1 : Nat) (a2 : Int32) (a3 : Int32) (h : Hp) (r : (Int32 × Hp)) (H : f_X7_worth a1 a2 a3 h = some r) : CtI yX7_worth cX7_worth 7 .int 3 [.ref 0, .ref a1, .int a2, .int a3] h r.1 r.2 :=
  ct_ofI (own := RX7) [.ref 0, .ref a1, .int a2, .int a3, .null, .null, .null] (by decide +kernel) rfl (fun ρ => Nat.le_of_ble_eq_true rfl) (fun ρ => rfl) (fun x g K => t_X7_worth g a1 a2 a3 h r H K)
def f_X5_become (o : Nat) (a1 : Nat) (h : Hp) : Option Hp :=
  if sh o = (0, 5) then
    if sh a1 = (0, 5) then
      (f_X5_becomeUpTo o a1 12 h).bind fun r1 =>
      some r1
    else none
  else none
theorem t_X5_become {x : Cx} (g : Gx x RX5 cX5_become 2 3) (o : Nat) (a1 : Nat) (h : Hp) (out : Hp) (H : f_X5_become o a1 h = some out) (K : RtV x out) : WA x 0 [.ref o, .ref a1] [] h := by
  unfold f_X5_become at H
  obtain ⟨hgo, H⟩ := gd_some H
  obtain ⟨hga1, H⟩ := gd_some H
  refine st_aload_n g dX5_become_0 rfl ?_
  refine st_aload_n g dX5_become_1 rfl ?_
  refine st_bipush g dX5_become_2 bi_12 ?_
  obtain ⟨r1, hr1, H⟩ := bind_some H
  refine st_callVV g (as := [.ref a1, .int 12]) dX5_become_4 hgo rfl ml_X5_28 mf_X5_becomeUpTo rfl (Nat.le_of_ble_eq_true rfl) (Nat.le_of_ble_eq_true rfl) (c_X5_becomeUpTo o a1 12 h _ hr1) ?_
  obtain rfl := Option.some.inj H
  exact st_vret g dX5_become_7 K
theorem c_X5_become (o : Nat) (a1 : Nat) (h : Hp) (r : Hp) (H : f_X5_become o a1 h = some r) : CtV yX5_become cX5_become 2 3 [.ref o, .ref a1] h r :=
  ct_ofV (own := RX5) [.ref o, .ref a1] (by decide +kernel) rfl (fun ρ => Nat.le_of_ble_eq_true rfl) (fun ρ => rfl) (fun x g K => t_X5_become g o a1 h r H K)
def f_X7_nearest (a1 : Int32) (h : Hp) : Option Int32 :=
  if a1 < 0 then
    some (-1)
  else
    if a1 ≤ 999 then
      (f_X7_nearestFree a1 0 h).bind fun r3 =>
      some r3
    else
      some (-1)
theorem t_X7_nearest {x : Cx} (g : Gx x RX7 cX7_nearest 2 3) (a1 : Int32) (h : Hp) (out : Int32) (H : f_X7_nearest a1 h = some out) (K : RtI x .int out h) : WA x 0 [.ref 0, .int a1] [] h := by
  unfold f_X7_nearest at H
  refine st_iload_n g dX7_nearest_0 rfl ?_
  refine st_if_lt g dX7_nearest_1 (tgt := 11) (by decide) H (fun q1 H => ?_) (fun q1 H => ?_)
  · refine st_iconst g dX7_nearest_11 ic_m1 ?_
    obtain rfl := Option.some.inj H
    exact st_iret g dX7_nearest_12 rfl (fun q => by cases q) K
  · refine st_iload_n g dX7_nearest_4 rfl ?_
    refine st_sipush g dX7_nearest_5 si_999 ?_
    refine st_ic_le g dX7_nearest_8 (tgt := 13) (by decide) H (fun q2 H => ?_) (fun q2 H => ?_)
    · refine st_aload_n g dX7_nearest_13 rfl ?_
      refine st_iload_n g dX7_nearest_14 rfl ?_
      refine st_iconst g dX7_nearest_15 ic_0 ?_
      obtain ⟨r3, hr3, H⟩ := bind_some H
      refine st_callVI g (as := [.int a1, .int 0]) dX7_nearest_16 rfl rfl ml_X7_233 mf_X7_nearestFree rfl (Nat.le_of_ble_eq_true rfl) (Nat.le_of_ble_eq_true rfl) (c_X7_nearestFree a1 0 h _ hr3) (fun hz => ?_)
      obtain rfl := Option.some.inj H
      exact st_iret g dX7_nearest_19 rfl (fun q => by cases q) K
    · refine st_iconst g dX7_nearest_11 ic_m1 ?_
      obtain rfl := Option.some.inj H
      exact st_iret g dX7_nearest_12 rfl (fun q => by cases q) K
theorem c_X7_nearest (a1 : Int32) (h : Hp) (r : Int32) (H : f_X7_nearest a1 h = some r) : CtI yX7_nearest cX7_nearest 2 .int 3 [.ref 0, .int a1] h r h :=
  ct_ofI (own := RX7) [.ref 0, .int a1] (by decide +kernel) rfl (fun ρ => Nat.le_of_ble_eq_true rfl) (fun ρ => rfl) (fun x g K => t_X7_nearest g a1 h r H K)
def P_X7_chosen_20 (x : Cx) (a1 : Int32) (h : Hp) (s : (Int32 × Int32 × Int32)) : Prop := WA x 20 [.ref 0, .int a1, .int s.1, .int s.2.1, .int s.2.2] [] h
def E_X7_chosen_20 (x : Cx) (a1 : Int32) (h : Hp) : (Int32 × Int32 × Int32) → Prop := fun s : (Int32 × Int32 × Int32) => WA x 57 [.null, .null, .null, .int s.2.1, .null] [] h
def b_X7_chosen_20 (a1 : Int32) (h : Hp) (s : (Int32 × Int32 × Int32)) : Option ((Int32 × Int32 × Int32) ⊕ (Int32 × Int32 × Int32)) :=
  if a1 < s.2.2 then
    some (.inr (s.1, s.2.1, s.2.2))
  else
    (rdI h 3 s.2.2).bind fun v4 =>
    (f_X7_nearestFree (9 * v4) s.1 h).bind fun r5 =>
    some (.inl (s.1 ||| ((1 : Int32) <<< (r5 &&& 31)), r5, s.2.2 + 1))
theorem tb_X7_chosen_20 {x : Cx} (g : Gx x RX7 cX7_chosen 5 3) (a1 : Int32) (h : Hp) (s : (Int32 × Int32 × Int32)) (out : (Int32 × Int32 × Int32) ⊕ (Int32 × Int32 × Int32)) (H : b_X7_chosen_20 a1 h s = some out) (K : Sum.elim (P_X7_chosen_20 x a1 h) (E_X7_chosen_20 x a1 h) out) : P_X7_chosen_20 x a1 h s := by
  unfold b_X7_chosen_20 at H
  show WA x 20 [.ref 0, .int a1, .int s.1, .int s.2.1, .int s.2.2] [] h
  refine st_iload g dX7_chosen_20 rfl ?_
  refine st_iload_n g dX7_chosen_22 rfl ?_
  refine st_ic_gt g dX7_chosen_23 (tgt := 57) (by decide) H (fun q3 H => ?_) (fun q3 H => ?_)
  · obtain rfl := Option.some.inj H
    exact (wa_drop [0, 1, 2, 4] K)
  · refine st_aload_n g dX7_chosen_26 rfl ?_
    refine st_bipush g dX7_chosen_27 bi_9 ?_
    refine st_aload_n g dX7_chosen_29 rfl ?_
    refine gf_X7_10 g dX7_chosen_30 rfl (r := 1) rfl ?_
    refine gf_X7_236 g dX7_chosen_33 rfl (r := 3) rfl ?_
    refine st_iload g dX7_chosen_36 rfl ?_
    refine st_iald g dX7_chosen_38 H (fun v4 H => ?_)
    refine st_imul g dX7_chosen_39 ?_
    refine st_iload_n g dX7_chosen_40 rfl ?_
    obtain ⟨r5, hr5, H⟩ := bind_some H
    refine st_callVI g (as := [.int (9 * v4), .int s.1]) dX7_chosen_41 rfl rfl ml_X7_233 mf_X7_nearestFree rfl (Nat.le_of_ble_eq_true rfl) (Nat.le_of_ble_eq_true rfl) (c_X7_nearestFree (9 * v4) s.1 h _ hr5) (fun hz => ?_)
    refine st_istore_n g dX7_chosen_44 (Nat.le_of_ble_eq_true rfl) rfl (ls2 := [.ref 0, .int a1, .int s.1, .int r5, .int s.2.2]) rfl ?_
    refine st_iload_n g dX7_chosen_45 rfl ?_
    refine st_iconst g dX7_chosen_46 ic_1 ?_
    refine st_iload_n g dX7_chosen_47 rfl ?_
    refine st_ishl g dX7_chosen_48 ?_
    refine st_ior g dX7_chosen_49 ?_
    refine st_istore_n g dX7_chosen_50 (Nat.le_of_ble_eq_true rfl) rfl (ls2 := [.ref 0, .int a1, .int (s.1 ||| ((1 : Int32) <<< (r5 &&& 31))), .int r5, .int s.2.2]) rfl ?_
    refine st_iinc g dX7_chosen_51 rfl (ii_1 _) (Nat.le_of_ble_eq_true rfl) rfl (ls2 := [.ref 0, .int a1, .int (s.1 ||| ((1 : Int32) <<< (r5 &&& 31))), .int r5, .int (s.2.2 + 1)]) rfl ?_
    refine st_goto g dX7_chosen_54 (tgt := 20) (by decide) ?_
    obtain rfl := Option.some.inj H
    exact K
def f_X7_chosen (a1 : Int32) (h : Hp) : Option Int32 :=
  (f_X3_isOne a1 h).bind fun r1 =>
  if r1 = 0 then
    some (-1)
  else
    (iter (b_X7_chosen_20 a1 h) FU (0, 0, 0)).bind fun a6 =>
    some a6.2.1
theorem t_X7_chosen {x : Cx} (g : Gx x RX7 cX7_chosen 5 3) (a1 : Int32) (h : Hp) (out : Int32) (H : f_X7_chosen a1 h = some out) (K : RtI x .int out h) : WA x 0 [.ref 0, .int a1, .null, .null, .null] [] h := by
  unfold f_X7_chosen at H
  refine st_aload_n g dX7_chosen_0 rfl ?_
  refine gf_X7_10 g dX7_chosen_1 rfl (r := 1) rfl ?_
  refine st_iload_n g dX7_chosen_4 rfl ?_
  obtain ⟨r1, hr1, H⟩ := bind_some H
  refine st_callVI g (as := [.int a1]) dX7_chosen_5 rfl rfl ml_X7_230 mf_X3_isOne rfl (Nat.le_of_ble_eq_true rfl) (Nat.le_of_ble_eq_true rfl) (c_X3_isOne a1 h _ hr1) (fun hz => ?_)
  have br1 := hz rfl
  refine st_if_ne g dX7_chosen_8 (tgt := 13) (by decide) H (fun q2 H => ?_) (fun q2 H => ?_)
  · refine st_iconst g dX7_chosen_13 ic_0 ?_
    refine st_istore_n g dX7_chosen_14 (Nat.le_of_ble_eq_true rfl) rfl (ls2 := [.ref 0, .int a1, .int 0, .null, .null]) rfl ?_
    refine st_iconst g dX7_chosen_15 ic_0 ?_
    refine st_istore_n g dX7_chosen_16 (Nat.le_of_ble_eq_true rfl) rfl (ls2 := [.ref 0, .int a1, .int 0, .int 0, .null]) rfl ?_
    refine st_iconst g dX7_chosen_17 ic_0 ?_
    refine st_istore g dX7_chosen_18 (Nat.le_of_ble_eq_true rfl) rfl (ls2 := [.ref 0, .int a1, .int 0, .int 0, .int 0]) rfl ?_
    show P_X7_chosen_20 x a1 h (0, 0, 0)
    obtain ⟨a6, ha6, H⟩ := bind_some H
    refine iter_W (P := P_X7_chosen_20 x a1 h) (E := E_X7_chosen_20 x a1 h) (fun s9 o9 ho9 hK9 => tb_X7_chosen_20 g a1 h s9 o9 ho9 hK9) FU _ a6 ha6 ?_
    show WA x 57 [.null, .null, .null, .int a6.2.1, .null] [] h
    refine st_iload_n g dX7_chosen_57 rfl ?_
    obtain rfl := Option.some.inj H
    exact st_iret g dX7_chosen_58 rfl (fun q => by cases q) K
  · refine st_iconst g dX7_chosen_11 ic_m1 ?_
    obtain rfl := Option.some.inj H
    exact st_iret g dX7_chosen_12 rfl (fun q => by cases q) K
theorem c_X7_chosen (a1 : Int32) (h : Hp) (r : Int32) (H : f_X7_chosen a1 h = some r) : CtI yX7_chosen cX7_chosen 5 .int 3 [.ref 0, .int a1] h r h :=
  ct_ofI (own := RX7) [.ref 0, .int a1, .null, .null, .null] (by decide +kernel) rfl (fun ρ => Nat.le_of_ble_eq_true rfl) (fun ρ => rfl) (fun x g K => t_X7_chosen g a1 h r H K)
def f_X7_paintedRefusal (a1 : Int32) (h : Hp) : Option Int32 :=
  (f_X6_refusal (a1 / 10) 1 h).bind fun r1 =>
  if r1 = 0 then
    (f_X6_refusal (a1 % 10) 1 h).bind fun r3 =>
    some r3
  else
    some r1
theorem t_X7_paintedRefusal {x : Cx} (g : Gx x RX7 cX7_paintedRefusal 3 3) (a1 : Int32) (h : Hp) (out : Int32) (H : f_X7_paintedRefusal a1 h = some out) (K : RtI x .int out h) : WA x 0 [.ref 0, .int a1, .null] [] h := by
  unfold f_X7_paintedRefusal at H
  refine st_aload_n g dX7_paintedRefusal_0 rfl ?_
  refine gf_X7_54 g dX7_paintedRefusal_1 rfl (r := 30) rfl ?_
  refine st_iload_n g dX7_paintedRefusal_4 rfl ?_
  refine st_bipush g dX7_paintedRefusal_5 bi_10 ?_
  refine st_idiv g dX7_paintedRefusal_7 (by decide) ?_
  refine st_iconst g dX7_paintedRefusal_8 ic_1 ?_
  obtain ⟨r1, hr1, H⟩ := bind_some H
  refine st_callVI g (as := [.int (a1 / 10), .int 1]) dX7_paintedRefusal_9 rfl rfl ml_X7_163 mf_X6_refusal rfl (Nat.le_of_ble_eq_true rfl) (Nat.le_of_ble_eq_true rfl) (c_X6_refusal (a1 / 10) 1 h _ hr1) (fun hz => ?_)
  refine st_istore_n g dX7_paintedRefusal_12 (Nat.le_of_ble_eq_true rfl) rfl (ls2 := [.ref 0, .int a1, .int r1]) rfl ?_
  refine st_iload_n g dX7_paintedRefusal_13 rfl ?_
  refine st_if_eq g dX7_paintedRefusal_14 (tgt := 21) (by decide) H (fun q2 H => ?_) (fun q2 H => ?_)
  · refine st_aload_n g dX7_paintedRefusal_21 rfl ?_
    refine gf_X7_54 g dX7_paintedRefusal_22 rfl (r := 30) rfl ?_
    refine st_iload_n g dX7_paintedRefusal_25 rfl ?_
    refine st_bipush g dX7_paintedRefusal_26 bi_10 ?_
    refine st_irem g dX7_paintedRefusal_28 (by decide) ?_
    refine st_iconst g dX7_paintedRefusal_29 ic_1 ?_
    obtain ⟨r3, hr3, H⟩ := bind_some H
    refine st_callVI g (as := [.int (a1 % 10), .int 1]) dX7_paintedRefusal_30 rfl rfl ml_X7_163 mf_X6_refusal rfl (Nat.le_of_ble_eq_true rfl) (Nat.le_of_ble_eq_true rfl) (c_X6_refusal (a1 % 10) 1 h _ hr3) (fun hz => ?_)
    obtain rfl := Option.some.inj H
    exact st_iret g dX7_paintedRefusal_33 rfl (fun q => by cases q) K
  · refine st_iload_n g dX7_paintedRefusal_17 rfl ?_
    refine st_goto g dX7_paintedRefusal_18 (tgt := 33) (by decide) ?_
    obtain rfl := Option.some.inj H
    exact st_iret g dX7_paintedRefusal_33 rfl (fun q => by cases q) K
theorem c_X7_paintedRefusal (a1 : Int32) (h : Hp) (r : Int32) (H : f_X7_paintedRefusal a1 h = some r) : CtI yX7_paintedRefusal cX7_paintedRefusal 3 .int 3 [.ref 0, .int a1] h r h :=
  ct_ofI (own := RX7) [.ref 0, .int a1, .null] (by decide +kernel) rfl (fun ρ => Nat.le_of_ble_eq_true rfl) (fun ρ => rfl) (fun x g K => t_X7_paintedRefusal g a1 h r H K)
def f_X7_again (a1 : Int32) (h : Hp) : Option (Int32 × Hp) :=
  (f_X3_isWrong a1 h).bind fun r1 =>
  if r1 = 0 then
    some ((-1), h)
  else
    (f_X5_isForgiven 13 a1 h).bind fun r3 =>
    if r3 = 0 then
      some ((-5), h)
    else
      (rdI h 15 a1).bind fun v5 =>
      (f_X5_doAgain 13 a1 h).bind fun r6 =>
      (rdI r6 16 3).bind fun v7 =>
      (wrI r6 16 3 (v7 + 1)).bind fun h8 =>
      some (v5, h8)
theorem t_X7_again {x : Cx} (g : Gx x RX7 cX7_again 3 3) (a1 : Int32) (h : Hp) (out : (Int32 × Hp)) (H : f_X7_again a1 h = some out) (K : RtI x .int out.1 out.2) : WA x 0 [.ref 0, .int a1, .null] [] h := by
  unfold f_X7_again at H
  refine st_aload_n g dX7_again_0 rfl ?_
  refine gf_X7_10 g dX7_again_1 rfl (r := 1) rfl ?_
  refine st_iload_n g dX7_again_4 rfl ?_
  obtain ⟨r1, hr1, H⟩ := bind_some H
  refine st_callVI g (as := [.int a1]) dX7_again_5 rfl rfl ml_X7_153 mf_X3_isWrong rfl (Nat.le_of_ble_eq_true rfl) (Nat.le_of_ble_eq_true rfl) (c_X3_isWrong a1 h _ hr1) (fun hz => ?_)
  have br1 := hz rfl
  refine st_if_ne g dX7_again_8 (tgt := 13) (by decide) H (fun q2 H => ?_) (fun q2 H => ?_)
  · refine st_aload_n g dX7_again_13 rfl ?_
    refine gf_X7_26 g dX7_again_14 rfl (r := 13) rfl ?_
    refine st_iload_n g dX7_again_17 rfl ?_
    obtain ⟨r3, hr3, H⟩ := bind_some H
    refine st_callVI g (as := [.int a1]) dX7_again_18 rfl rfl ml_X7_197 mf_X5_isForgiven rfl (Nat.le_of_ble_eq_true rfl) (Nat.le_of_ble_eq_true rfl) (c_X5_isForgiven 13 a1 h _ hr3) (fun hz => ?_)
    have br3 := hz rfl
    refine st_if_ne g dX7_again_21 (tgt := 27) (by decide) H (fun q4 H => ?_) (fun q4 H => ?_)
    · refine st_aload_n g dX7_again_27 rfl ?_
      refine gf_X7_26 g dX7_again_28 rfl (r := 13) rfl ?_
      refine gf_X7_263 g dX7_again_31 rfl (r := 15) rfl ?_
      refine st_iload_n g dX7_again_34 rfl ?_
      refine st_iald g dX7_again_35 H (fun v5 H => ?_)
      refine st_istore_n g dX7_again_36 (Nat.le_of_ble_eq_true rfl) rfl (ls2 := [.ref 0, .int a1, .int v5]) rfl ?_
      refine st_aload_n g dX7_again_37 rfl ?_
      refine gf_X7_26 g dX7_again_38 rfl (r := 13) rfl ?_
      refine st_iload_n g dX7_again_41 rfl ?_
      obtain ⟨r6, hr6, H⟩ := bind_some H
      refine st_callVV g (as := [.int a1]) dX7_again_42 rfl rfl ml_X7_266 mf_X5_doAgain rfl (Nat.le_of_ble_eq_true rfl) (Nat.le_of_ble_eq_true rfl) (c_X5_doAgain 13 a1 h _ hr6) ?_
      refine st_aload_n g dX7_again_45 rfl ?_
      refine gf_X7_26 g dX7_again_46 rfl (r := 13) rfl ?_
      refine gf_X7_260 g dX7_again_49 rfl (r := 16) rfl ?_
      refine st_iconst g dX7_again_52 ic_3 ?_
      refine st_dup2 g dX7_again_53 rfl rfl ?_
      refine st_iald g dX7_again_54 H (fun v7 H => ?_)
      refine st_iconst g dX7_again_55 ic_1 ?_
      refine st_iadd g dX7_again_56 ?_
      refine st_iast g dX7_again_57 H (fun h8 H => ?_)
      refine st_iload_n g dX7_again_58 rfl ?_
      obtain rfl := Option.some.inj H
      exact st_iret g dX7_again_59 rfl (fun q => by cases q) K
    · refine st_bipush g dX7_again_24 bi_m5 ?_
      obtain rfl := Option.some.inj H
      exact st_iret g dX7_again_26 rfl (fun q => by cases q) K
  · refine st_iconst g dX7_again_11 ic_m1 ?_
    obtain rfl := Option.some.inj H
    exact st_iret g dX7_again_12 rfl (fun q => by cases q) K
theorem c_X7_again (a1 : Int32) (h : Hp) (r : (Int32 × Hp)) (H : f_X7_again a1 h = some r) : CtI yX7_again cX7_again 3 .int 3 [.ref 0, .int a1] h r.1 r.2 :=
  ct_ofI (own := RX7) [.ref 0, .int a1, .null] (by decide +kernel) rfl (fun ρ => Nat.le_of_ble_eq_true rfl) (fun ρ => rfl) (fun x g K => t_X7_again g a1 h r H K)
def f_X7_days (a1 : Int32) (h : Hp) : Option (Int32 × Hp) :=
  if a1 < 1 then
    some ((-1), h)
  else
    if a1 ≤ 99 then
      (f_X5_pass 13 a1 h).bind fun r3 =>
      (rdI r3 16 4).bind fun v4 =>
      (wrI r3 16 4 (v4 + a1)).bind fun h5 =>
      some (h5.1 13 4, h5)
    else
      some ((-1), h)
theorem t_X7_days {x : Cx} (g : Gx x RX7 cX7_days 2 3) (a1 : Int32) (h : Hp) (out : (Int32 × Hp)) (H : f_X7_days a1 h = some out) (K : RtI x .int out.1 out.2) : WA x 0 [.ref 0, .int a1] [] h := by
  unfold f_X7_days at H
  refine st_iload_n g dX7_days_0 rfl ?_
  refine st_iconst g dX7_days_1 ic_1 ?_
  refine st_ic_lt g dX7_days_2 (tgt := 11) (by decide) H (fun q1 H => ?_) (fun q1 H => ?_)
  · refine st_iconst g dX7_days_11 ic_m1 ?_
    obtain rfl := Option.some.inj H
    exact st_iret g dX7_days_12 rfl (fun q => by cases q) K
  · refine st_iload_n g dX7_days_5 rfl ?_
    refine st_bipush g dX7_days_6 bi_99 ?_
    refine st_ic_le g dX7_days_8 (tgt := 13) (by decide) H (fun q2 H => ?_) (fun q2 H => ?_)
    · refine st_aload_n g dX7_days_13 rfl ?_
      refine gf_X7_26 g dX7_days_14 rfl (r := 13) rfl ?_
      refine st_iload_n g dX7_days_17 rfl ?_
      obtain ⟨r3, hr3, H⟩ := bind_some H
      refine st_callVV g (as := [.int a1]) dX7_days_18 rfl rfl ml_X7_269 mf_X5_pass rfl (Nat.le_of_ble_eq_true rfl) (Nat.le_of_ble_eq_true rfl) (c_X5_pass 13 a1 h _ hr3) ?_
      refine st_aload_n g dX7_days_21 rfl ?_
      refine gf_X7_26 g dX7_days_22 rfl (r := 13) rfl ?_
      refine gf_X7_260 g dX7_days_25 rfl (r := 16) rfl ?_
      refine st_iconst g dX7_days_28 ic_4 ?_
      refine st_dup2 g dX7_days_29 rfl rfl ?_
      refine st_iald g dX7_days_30 H (fun v4 H => ?_)
      refine st_iload_n g dX7_days_31 rfl ?_
      refine st_iadd g dX7_days_32 ?_
      refine st_iast g dX7_days_33 H (fun h5 H => ?_)
      refine st_aload_n g dX7_days_34 rfl ?_
      refine gf_X7_26 g dX7_days_35 rfl (r := 13) rfl ?_
      refine gf_X7_272 g dX7_days_38 rfl ?_
      obtain rfl := Option.some.inj H
      exact st_iret g dX7_days_41 rfl (fun q => by cases q) K
    · refine st_iconst g dX7_days_11 ic_m1 ?_
      obtain rfl := Option.some.inj H
      exact st_iret g dX7_days_12 rfl (fun q => by cases q) K
theorem c_X7_days (a1 : Int32) (h : Hp) (r : (Int32 × Hp)) (H : f_X7_days a1 h = some r) : CtI yX7_days cX7_days 2 .int 3 [.ref 0, .int a1] h r.1 r.2 :=
  ct_ofI (own := RX7) [.ref 0, .int a1] (by decide +kernel) rfl (fun ρ => Nat.le_of_ble_eq_true rfl) (fun ρ => rfl) (fun x g K => t_X7_days g a1 h r H K)
def f_X7_back (h : Hp) : Option (Int32 × Hp) :=
  if (h.1 0 5) = 0 then
    some ((-5), h)
  else
    (f_X5_becomeUpTo 13 21 (h.1 0 6) h).bind fun r2 =>
    (rdI r2 16 0).bind fun v3 =>
    some (v3, r2)
theorem t_X7_back {x : Cx} (g : Gx x RX7 cX7_back 1 3) (h : Hp) (out : (Int32 × Hp)) (H : f_X7_back h = some out) (K : RtI x .int out.1 out.2) : WA x 0 [.ref 0] [] h := by
  unfold f_X7_back at H
  refine st_aload_n g dX7_back_0 rfl ?_
  refine gf_X7_36 g dX7_back_1 rfl ?_
  refine st_if_ne g dX7_back_4 (tgt := 10) (by decide) H (fun q1 H => ?_) (fun q1 H => ?_)
  · refine st_aload_n g dX7_back_10 rfl ?_
    refine gf_X7_26 g dX7_back_11 rfl (r := 13) rfl ?_
    refine st_aload_n g dX7_back_14 rfl ?_
    refine gf_X7_33 g dX7_back_15 rfl (r := 21) rfl ?_
    refine st_aload_n g dX7_back_18 rfl ?_
    refine gf_X7_40 g dX7_back_19 rfl ?_
    obtain ⟨r2, hr2, H⟩ := bind_some H
    refine st_callVV g (as := [.ref 21, .int (h.1 0 6)]) dX7_back_22 rfl rfl ml_X7_280 mf_X5_becomeUpTo rfl (Nat.le_of_ble_eq_true rfl) (Nat.le_of_ble_eq_true rfl) (c_X5_becomeUpTo 13 21 (h.1 0 6) h _ hr2) ?_
    refine st_aload_n g dX7_back_25 rfl ?_
    refine gf_X7_26 g dX7_back_26 rfl (r := 13) rfl ?_
    refine gf_X7_260 g dX7_back_29 rfl (r := 16) rfl ?_
    refine st_iconst g dX7_back_32 ic_0 ?_
    refine st_iald g dX7_back_33 H (fun v3 H => ?_)
    obtain rfl := Option.some.inj H
    exact st_iret g dX7_back_34 rfl (fun q => by cases q) K
  · refine st_bipush g dX7_back_7 bi_m5 ?_
    obtain rfl := Option.some.inj H
    exact st_iret g dX7_back_9 rfl (fun q => by cases q) K
theorem c_X7_back (h : Hp) (r : (Int32 × Hp)) (H : f_X7_back h = some r) : CtI yX7_back cX7_back 1 .int 3 [.ref 0] h r.1 r.2 :=
  ct_ofI (own := RX7) [.ref 0] (by decide +kernel) rfl (fun ρ => Nat.le_of_ble_eq_true rfl) (fun ρ => rfl) (fun x g K => t_X7_back g h r H K)
def f_X7_undo (h : Hp) : Option (Int32 × Hp) :=
  (f_X0_toUndo h).bind fun r1 =>
  if r1 = 0 then
    some ((-5), h)
  else
    (f_X0_stepBack h).bind fun r3 =>
    (rdI r3.2 26 r3.1).bind fun v4 =>
    (rdI r3.2 27 r3.1).bind fun v5 =>
    (rdI r3.2 28 r3.1).bind fun v6 =>
    (f_X7_setValue v4 v5 v6 r3.2).bind fun r7 =>
    some (r7.1 25 5, r7)
theorem t_X7_undo {x : Cx} (g : Gx x RX7 cX7_undo 2 3) (h : Hp) (out : (Int32 × Hp)) (H : f_X7_undo h = some out) (K : RtI x .int out.1 out.2) : WA x 0 [.ref 0, .null] [] h := by
  unfold f_X7_undo at H
  refine st_aload_n g dX7_undo_0 rfl ?_
  refine gf_X7_47 g dX7_undo_1 rfl (r := 25) rfl ?_
  obtain ⟨r1, hr1, H⟩ := bind_some H
  refine st_callVI g (as := []) dX7_undo_4 rfl rfl ml_X7_284 mf_X0_toUndo rfl (Nat.le_of_ble_eq_true rfl) (Nat.le_of_ble_eq_true rfl) (c_X0_toUndo h _ hr1) (fun hz => ?_)
  have br1 := hz rfl
  refine st_if_ne g dX7_undo_7 (tgt := 13) (by decide) H (fun q2 H => ?_) (fun q2 H => ?_)
  · refine st_aload_n g dX7_undo_13 rfl ?_
    refine gf_X7_47 g dX7_undo_14 rfl (r := 25) rfl ?_
    obtain ⟨r3, hr3, H⟩ := bind_some H
    refine st_callVI g (as := []) dX7_undo_17 rfl rfl ml_X7_288 mf_X0_stepBack rfl (Nat.le_of_ble_eq_true rfl) (Nat.le_of_ble_eq_true rfl) (c_X0_stepBack h _ hr3) (fun hz => ?_)
    refine st_istore_n g dX7_undo_20 (Nat.le_of_ble_eq_true rfl) rfl (ls2 := [.ref 0, .int r3.1]) rfl ?_
    refine st_aload_n g dX7_undo_21 rfl ?_
    refine st_aload_n g dX7_undo_22 rfl ?_
    refine gf_X7_47 g dX7_undo_23 rfl (r := 25) rfl ?_
    refine gf_X7_291 g dX7_undo_26 rfl (r := 26) rfl ?_
    refine st_iload_n g dX7_undo_29 rfl ?_
    refine st_iald g dX7_undo_30 H (fun v4 H => ?_)
    refine st_aload_n g dX7_undo_31 rfl ?_
    refine gf_X7_47 g dX7_undo_32 rfl (r := 25) rfl ?_
    refine gf_X7_292 g dX7_undo_35 rfl (r := 27) rfl ?_
    refine st_iload_n g dX7_undo_38 rfl ?_
    refine st_iald g dX7_undo_39 H (fun v5 H => ?_)
    refine st_aload_n g dX7_undo_40 rfl ?_
    refine gf_X7_47 g dX7_undo_41 rfl (r := 25) rfl ?_
    refine gf_X7_295 g dX7_undo_44 rfl (r := 28) rfl ?_
    refine st_iload_n g dX7_undo_47 rfl ?_
    refine st_iald g dX7_undo_48 H (fun v6 H => ?_)
    obtain ⟨r7, hr7, H⟩ := bind_some H
    refine st_callVV g (as := [.int v4, .int v5, .int v6]) dX7_undo_49 rfl rfl ml_X7_138 mf_X7_setValue rfl (Nat.le_of_ble_eq_true rfl) (Nat.le_of_ble_eq_true rfl) (c_X7_setValue v4 v5 v6 r3.2 _ hr7) ?_
    refine st_aload_n g dX7_undo_52 rfl ?_
    refine gf_X7_47 g dX7_undo_53 rfl (r := 25) rfl ?_
    refine gf_X7_298 g dX7_undo_56 rfl ?_
    obtain rfl := Option.some.inj H
    exact st_iret g dX7_undo_59 rfl (fun q => by cases q) K
  · refine st_bipush g dX7_undo_10 bi_m5 ?_
    obtain rfl := Option.some.inj H
    exact st_iret g dX7_undo_12 rfl (fun q => by cases q) K
theorem c_X7_undo (h : Hp) (r : (Int32 × Hp)) (H : f_X7_undo h = some r) : CtI yX7_undo cX7_undo 2 .int 3 [.ref 0] h r.1 r.2 :=
  ct_ofI (own := RX7) [.ref 0, .null] (by decide +kernel) rfl (fun ρ => Nat.le_of_ble_eq_true rfl) (fun ρ => rfl) (fun x g K => t_X7_undo g h r H K)
def f_X7_redo (h : Hp) : Option (Int32 × Hp) :=
  (f_X0_toRedo h).bind fun r1 =>
  if r1 = 0 then
    some ((-5), h)
  else
    (f_X0_stepOn h).bind fun r3 =>
    (rdI r3.2 26 r3.1).bind fun v4 =>
    (rdI r3.2 27 r3.1).bind fun v5 =>
    (rdI r3.2 29 r3.1).bind fun v6 =>
    (f_X7_setValue v4 v5 v6 r3.2).bind fun r7 =>
    some ((r7.1 25 4) - (r7.1 25 5), r7)
theorem t_X7_redo {x : Cx} (g : Gx x RX7 cX7_redo 2 3) (h : Hp) (out : (Int32 × Hp)) (H : f_X7_redo h = some out) (K : RtI x .int out.1 out.2) : WA x 0 [.ref 0, .null] [] h := by
  unfold f_X7_redo at H
  refine st_aload_n g dX7_redo_0 rfl ?_
  refine gf_X7_47 g dX7_redo_1 rfl (r := 25) rfl ?_
  obtain ⟨r1, hr1, H⟩ := bind_some H
  refine st_callVI g (as := []) dX7_redo_4 rfl rfl ml_X7_301 mf_X0_toRedo rfl (Nat.le_of_ble_eq_true rfl) (Nat.le_of_ble_eq_true rfl) (c_X0_toRedo h _ hr1) (fun hz => ?_)
  have br1 := hz rfl
  refine st_if_ne g dX7_redo_7 (tgt := 13) (by decide) H (fun q2 H => ?_) (fun q2 H => ?_)
  · refine st_aload_n g dX7_redo_13 rfl ?_
    refine gf_X7_47 g dX7_redo_14 rfl (r := 25) rfl ?_
    obtain ⟨r3, hr3, H⟩ := bind_some H
    refine st_callVI g (as := []) dX7_redo_17 rfl rfl ml_X7_304 mf_X0_stepOn rfl (Nat.le_of_ble_eq_true rfl) (Nat.le_of_ble_eq_true rfl) (c_X0_stepOn h _ hr3) (fun hz => ?_)
    refine st_istore_n g dX7_redo_20 (Nat.le_of_ble_eq_true rfl) rfl (ls2 := [.ref 0, .int r3.1]) rfl ?_
    refine st_aload_n g dX7_redo_21 rfl ?_
    refine st_aload_n g dX7_redo_22 rfl ?_
    refine gf_X7_47 g dX7_redo_23 rfl (r := 25) rfl ?_
    refine gf_X7_291 g dX7_redo_26 rfl (r := 26) rfl ?_
    refine st_iload_n g dX7_redo_29 rfl ?_
    refine st_iald g dX7_redo_30 H (fun v4 H => ?_)
    refine st_aload_n g dX7_redo_31 rfl ?_
    refine gf_X7_47 g dX7_redo_32 rfl (r := 25) rfl ?_
    refine gf_X7_292 g dX7_redo_35 rfl (r := 27) rfl ?_
    refine st_iload_n g dX7_redo_38 rfl ?_
    refine st_iald g dX7_redo_39 H (fun v5 H => ?_)
    refine st_aload_n g dX7_redo_40 rfl ?_
    refine gf_X7_47 g dX7_redo_41 rfl (r := 25) rfl ?_
    refine gf_X7_307 g dX7_redo_44 rfl (r := 29) rfl ?_
    refine st_iload_n g dX7_redo_47 rfl ?_
    refine st_iald g dX7_redo_48 H (fun v6 H => ?_)
    obtain ⟨r7, hr7, H⟩ := bind_some H
    refine st_callVV g (as := [.int v4, .int v5, .int v6]) dX7_redo_49 rfl rfl ml_X7_138 mf_X7_setValue rfl (Nat.le_of_ble_eq_true rfl) (Nat.le_of_ble_eq_true rfl) (c_X7_setValue v4 v5 v6 r3.2 _ hr7) ?_
    refine st_aload_n g dX7_redo_52 rfl ?_
    refine gf_X7_47 g dX7_redo_53 rfl (r := 25) rfl ?_
    refine gf_X7_310 g dX7_redo_56 rfl ?_
    refine st_aload_n g dX7_redo_59 rfl ?_
    refine gf_X7_47 g dX7_redo_60 rfl (r := 25) rfl ?_
    refine gf_X7_298 g dX7_redo_63 rfl ?_
    refine st_isub g dX7_redo_66 ?_
    obtain rfl := Option.some.inj H
    exact st_iret g dX7_redo_67 rfl (fun q => by cases q) K
  · refine st_bipush g dX7_redo_10 bi_m5 ?_
    obtain rfl := Option.some.inj H
    exact st_iret g dX7_redo_12 rfl (fun q => by cases q) K
theorem c_X7_redo (h : Hp) (r : (Int32 × Hp)) (H : f_X7_redo h = some r) : CtI yX7_redo cX7_redo 2 .int 3 [.ref 0] h r.1 r.2 :=
  ct_ofI (own := RX7) [.ref 0, .null] (by decide +kernel) rfl (fun ρ => Nat.le_of_ble_eq_true rfl) (fun ρ => rfl) (fun x g K => t_X7_redo g h r H K)
def f_X7_row (a1 : Int32) (a2 : Int32) (a3 : Int32) (h : Hp) : Option (Int32 × Hp) :=
  (f_X6_isShelf a1).bind fun r1 =>
  if r1 = 0 then
    some ((-1), h)
  else
    (f_X6_isSort a2).bind fun r3 =>
    if r3 = 0 then
      some ((-1), h)
    else
      if a3 ≤ 60 then
        if 0 ≤ a3 then
          (f_X6_setRow a1 a2 a3 h).bind fun r7 =>
          some (1, r7)
        else
          some ((-14), h)
      else
        some ((-1), h)
theorem t_X7_row {x : Cx} (g : Gx x RX7 cX7_row 4 3) (a1 : Int32) (a2 : Int32) (a3 : Int32) (h : Hp) (out : (Int32 × Hp)) (H : f_X7_row a1 a2 a3 h = some out) (K : RtI x .int out.1 out.2) : WA x 0 [.ref 0, .int a1, .int a2, .int a3] [] h := by
  unfold f_X7_row at H
  refine st_aload_n g dX7_row_0 rfl ?_
  refine gf_X7_54 g dX7_row_1 rfl (r := 30) rfl ?_
  refine st_iload_n g dX7_row_4 rfl ?_
  obtain ⟨r1, hr1, H⟩ := bind_some H
  refine st_callVI g (as := [.int a1]) dX7_row_5 rfl rfl ml_X7_107 mf_X6_isShelf rfl (Nat.le_of_ble_eq_true rfl) (Nat.le_of_ble_eq_true rfl) (c_X6_isShelf a1 h _ hr1) (fun hz => ?_)
  have br1 := hz rfl
  refine st_if_eq g dX7_row_8 (tgt := 28) (by decide) H (fun q2 H => ?_) (fun q2 H => ?_)
  · refine st_iconst g dX7_row_28 ic_m1 ?_
    obtain rfl := Option.some.inj H
    exact st_iret g dX7_row_29 rfl (fun q => by cases q) K
  · refine st_aload_n g dX7_row_11 rfl ?_
    refine gf_X7_54 g dX7_row_12 rfl (r := 30) rfl ?_
    refine st_iload_n g dX7_row_15 rfl ?_
    obtain ⟨r3, hr3, H⟩ := bind_some H
    refine st_callVI g (as := [.int a2]) dX7_row_16 rfl rfl ml_X7_334 mf_X6_isSort rfl (Nat.le_of_ble_eq_true rfl) (Nat.le_of_ble_eq_true rfl) (c_X6_isSort a2 h _ hr3) (fun hz => ?_)
    have br3 := hz rfl
    refine st_if_eq g dX7_row_19 (tgt := 28) (by decide) H (fun q4 H => ?_) (fun q4 H => ?_)
    · refine st_iconst g dX7_row_28 ic_m1 ?_
      obtain rfl := Option.some.inj H
      exact st_iret g dX7_row_29 rfl (fun q => by cases q) K
    · refine st_iload_n g dX7_row_22 rfl ?_
      refine st_bipush g dX7_row_23 bi_60 ?_
      refine st_ic_le g dX7_row_25 (tgt := 30) (by decide) H (fun q5 H => ?_) (fun q5 H => ?_)
      · refine st_iload_n g dX7_row_30 rfl ?_
        refine st_if_ge g dX7_row_31 (tgt := 37) (by decide) H (fun q6 H => ?_) (fun q6 H => ?_)
        · refine st_aload_n g dX7_row_37 rfl ?_
          refine gf_X7_54 g dX7_row_38 rfl (r := 30) rfl ?_
          refine st_iload_n g dX7_row_41 rfl ?_
          refine st_iload_n g dX7_row_42 rfl ?_
          refine st_iload_n g dX7_row_43 rfl ?_
          obtain ⟨r7, hr7, H⟩ := bind_some H
          refine st_callVV g (as := [.int a1, .int a2, .int a3]) dX7_row_44 rfl rfl ml_X7_337 mf_X6_setRow rfl (Nat.le_of_ble_eq_true rfl) (Nat.le_of_ble_eq_true rfl) (c_X6_setRow a1 a2 a3 h _ hr7) ?_
          refine st_iconst g dX7_row_47 ic_1 ?_
          obtain rfl := Option.some.inj H
          exact st_iret g dX7_row_48 rfl (fun q => by cases q) K
        · refine st_bipush g dX7_row_34 bi_m14 ?_
          obtain rfl := Option.some.inj H
          exact st_iret g dX7_row_36 rfl (fun q => by cases q) K
      · refine st_iconst g dX7_row_28 ic_m1 ?_
        obtain rfl := Option.some.inj H
        exact st_iret g dX7_row_29 rfl (fun q => by cases q) K
theorem c_X7_row (a1 : Int32) (a2 : Int32) (a3 : Int32) (h : Hp) (r : (Int32 × Hp)) (H : f_X7_row a1 a2 a3 h = some r) : CtI yX7_row cX7_row 4 .int 3 [.ref 0, .int a1, .int a2, .int a3] h r.1 r.2 :=
  ct_ofI (own := RX7) [.ref 0, .int a1, .int a2, .int a3] (by decide +kernel) rfl (fun ρ => Nat.le_of_ble_eq_true rfl) (fun ρ => rfl) (fun x g K => t_X7_row g a1 a2 a3 h r H K)
def f_X7_put (a1 : Int32) (a2 : Int32) (a3 : Int64) (h : Hp) : Option (Int32 × Hp) :=
  (f_X7_placeRefusal a1 a2 h).bind fun r1 =>
  if r1 = 0 then
    (f_X6_store a1 a2 a3 h).bind fun r3 =>
    some (1, r3)
  else
    some (r1, h)
theorem t_X7_put {x : Cx} (g : Gx x RX7 cX7_put 6 3) (a1 : Int32) (a2 : Int32) (a3 : Int64) (h : Hp) (out : (Int32 × Hp)) (H : f_X7_put a1 a2 a3 h = some out) (K : RtI x .int out.1 out.2) : WA x 0 [.ref 0, .int a1, .int a2, .long a3, .null, .null] [] h := by
  unfold f_X7_put at H
  refine st_aload_n g dX7_put_0 rfl ?_
  refine st_iload_n g dX7_put_1 rfl ?_
  refine st_iload_n g dX7_put_2 rfl ?_
  obtain ⟨r1, hr1, H⟩ := bind_some H
  refine st_callVI g (as := [.int a1, .int a2]) dX7_put_3 rfl rfl ml_X7_340 mf_X7_placeRefusal rfl (Nat.le_of_ble_eq_true rfl) (Nat.le_of_ble_eq_true rfl) (c_X7_placeRefusal a1 a2 h _ hr1) (fun hz => ?_)
  refine st_istore g dX7_put_6 (Nat.le_of_ble_eq_true rfl) rfl (ls2 := [.ref 0, .int a1, .int a2, .long a3, .null, .int r1]) rfl ?_
  refine st_iload g dX7_put_8 rfl ?_
  refine st_if_eq g dX7_put_10 (tgt := 16) (by decide) H (fun q2 H => ?_) (fun q2 H => ?_)
  · refine st_aload_n g dX7_put_16 rfl ?_
    refine gf_X7_54 g dX7_put_17 rfl (r := 30) rfl ?_
    refine st_iload_n g dX7_put_20 rfl ?_
    refine st_iload_n g dX7_put_21 rfl ?_
    refine st_lload_n g dX7_put_22 rfl ?_
    obtain ⟨r3, hr3, H⟩ := bind_some H
    refine st_callVV g (as := [.int a1, .int a2, .long a3]) dX7_put_23 rfl rfl ml_X7_343 mf_X6_store rfl (Nat.le_of_ble_eq_true rfl) (Nat.le_of_ble_eq_true rfl) (c_X6_store a1 a2 a3 h _ hr3) ?_
    refine st_iconst g dX7_put_26 ic_1 ?_
    obtain rfl := Option.some.inj H
    exact st_iret g dX7_put_27 rfl (fun q => by cases q) K
  · refine st_iload g dX7_put_13 rfl ?_
    obtain rfl := Option.some.inj H
    exact st_iret g dX7_put_15 rfl (fun q => by cases q) K
theorem c_X7_put (a1 : Int32) (a2 : Int32) (a3 : Int64) (h : Hp) (r : (Int32 × Hp)) (H : f_X7_put a1 a2 a3 h = some r) : CtI yX7_put cX7_put 6 .int 3 [.ref 0, .int a1, .int a2, .long a3] h r.1 r.2 :=
  ct_ofI (own := RX7) [.ref 0, .int a1, .int a2, .long a3, .null, .null] (by decide +kernel) rfl (fun ρ => Nat.le_of_ble_eq_true rfl) (fun ρ => rfl) (fun x g K => t_X7_put g a1 a2 a3 h r H K)
def f_X7_element (a1 : Int32) (a2 : Int32) (h : Hp) : Option Int64 :=
  (f_X7_placeRefusal a1 a2 h).bind fun r1 =>
  if r1 = 0 then
    (f_X6_valueAt a1 a2 h).bind fun r3 =>
    some r3
  else
    some (-9223372036854775808)
theorem t_X7_element {x : Cx} (g : Gx x RX7 cX7_element 3 3) (a1 : Int32) (a2 : Int32) (h : Hp) (out : Int64) (H : f_X7_element a1 a2 h = some out) (K : RtL x out h) : WA x 0 [.ref 0, .int a1, .int a2] [] h := by
  unfold f_X7_element at H
  refine st_aload_n g dX7_element_0 rfl ?_
  refine st_iload_n g dX7_element_1 rfl ?_
  refine st_iload_n g dX7_element_2 rfl ?_
  obtain ⟨r1, hr1, H⟩ := bind_some H
  refine st_callVI g (as := [.int a1, .int a2]) dX7_element_3 rfl rfl ml_X7_340 mf_X7_placeRefusal rfl (Nat.le_of_ble_eq_true rfl) (Nat.le_of_ble_eq_true rfl) (c_X7_placeRefusal a1 a2 h _ hr1) (fun hz => ?_)
  refine st_if_eq g dX7_element_6 (tgt := 13) (by decide) H (fun q2 H => ?_) (fun q2 H => ?_)
  · refine st_aload_n g dX7_element_13 rfl ?_
    refine gf_X7_54 g dX7_element_14 rfl (r := 30) rfl ?_
    refine st_iload_n g dX7_element_17 rfl ?_
    refine st_iload_n g dX7_element_18 rfl ?_
    obtain ⟨r3, hr3, H⟩ := bind_some H
    refine st_callVL g (as := [.int a1, .int a2]) dX7_element_19 rfl rfl ml_X7_120 mf_X6_valueAt rfl (Nat.le_of_ble_eq_true rfl) (Nat.le_of_ble_eq_true rfl) (c_X6_valueAt a1 a2 h _ hr3) ?_
    obtain rfl := Option.some.inj H
    exact st_lret g dX7_element_22 K
  · refine st_ldc2 g dX7_element_9 kn_X7_347 ?_
    obtain rfl := Option.some.inj H
    exact st_lret g dX7_element_12 K
theorem c_X7_element (a1 : Int32) (a2 : Int32) (h : Hp) (r : Int64) (H : f_X7_element a1 a2 h = some r) : CtL yX7_element cX7_element 3 3 [.ref 0, .int a1, .int a2] h r h :=
  ct_ofL (own := RX7) [.ref 0, .int a1, .int a2] (by decide +kernel) rfl (fun ρ => Nat.le_of_ble_eq_true rfl) (fun ρ => rfl) (fun x g K => t_X7_element g a1 a2 h r H K)
def f_X7_shift (a1 : Int32) (a2 : Int32) (a3 : Int32) (a4 : Int32) (a5 : Int32) (h : Hp) : Option (Int32 × Hp) :=
  (f_X6_isShelf a1).bind fun r1 =>
  if r1 = 0 then
    some ((-1), h)
  else
    (f_X6_isShelf a3).bind fun r3 =>
    if r3 = 0 then
      some ((-1), h)
    else
      (f_X6_isEmpty a1 h).bind fun r5 =>
      if r5 = 0 then
        (f_X6_isEmpty a3 h).bind fun r7 =>
        if r7 = 0 then
          (f_X6_areAlike a1 a3 h).bind fun r9 =>
          if r9 = 0 then
            some ((-12), h)
          else
            (f_X6_hasPart a1 a2 a5 h).bind fun r11 =>
            if r11 = 0 then
              some ((-13), h)
            else
              (f_X6_hasPart a3 a4 a5 h).bind fun r13 =>
              if r13 = 0 then
                some ((-13), h)
              else
                (f_X6_copyPart a1 a2 a3 a4 a5 h).bind fun r15 =>
                some (a5, r15)
        else
          some ((-11), h)
      else
        some ((-11), h)
theorem t_X7_shift {x : Cx} (g : Gx x RX7 cX7_shift 6 3) (a1 : Int32) (a2 : Int32) (a3 : Int32) (a4 : Int32) (a5 : Int32) (h : Hp) (out : (Int32 × Hp)) (H : f_X7_shift a1 a2 a3 a4 a5 h = some out) (K : RtI x .int out.1 out.2) : WA x 0 [.ref 0, .int a1, .int a2, .int a3, .int a4, .int a5] [] h := by
  unfold f_X7_shift at H
  refine st_aload_n g dX7_shift_0 rfl ?_
  refine gf_X7_54 g dX7_shift_1 rfl (r := 30) rfl ?_
  refine st_iload_n g dX7_shift_4 rfl ?_
  obtain ⟨r1, hr1, H⟩ := bind_some H
  refine st_callVI g (as := [.int a1]) dX7_shift_5 rfl rfl ml_X7_107 mf_X6_isShelf rfl (Nat.le_of_ble_eq_true rfl) (Nat.le_of_ble_eq_true rfl) (c_X6_isShelf a1 h _ hr1) (fun hz => ?_)
  have br1 := hz rfl
  refine st_if_eq g dX7_shift_8 (tgt := 22) (by decide) H (fun q2 H => ?_) (fun q2 H => ?_)
  · refine st_iconst g dX7_shift_22 ic_m1 ?_
    obtain rfl := Option.some.inj H
    exact st_iret g dX7_shift_23 rfl (fun q => by cases q) K
  · refine st_aload_n g dX7_shift_11 rfl ?_
    refine gf_X7_54 g dX7_shift_12 rfl (r := 30) rfl ?_
    refine st_iload_n g dX7_shift_15 rfl ?_
    obtain ⟨r3, hr3, H⟩ := bind_some H
    refine st_callVI g (as := [.int a3]) dX7_shift_16 rfl rfl ml_X7_107 mf_X6_isShelf rfl (Nat.le_of_ble_eq_true rfl) (Nat.le_of_ble_eq_true rfl) (c_X6_isShelf a3 h _ hr3) (fun hz => ?_)
    have br3 := hz rfl
    refine st_if_ne g dX7_shift_19 (tgt := 24) (by decide) H (fun q4 H => ?_) (fun q4 H => ?_)
    · refine st_aload_n g dX7_shift_24 rfl ?_
      refine gf_X7_54 g dX7_shift_25 rfl (r := 30) rfl ?_
      refine st_iload_n g dX7_shift_28 rfl ?_
      obtain ⟨r5, hr5, H⟩ := bind_some H
      refine st_callVI g (as := [.int a1]) dX7_shift_29 rfl rfl ml_X7_110 mf_X6_isEmpty rfl (Nat.le_of_ble_eq_true rfl) (Nat.le_of_ble_eq_true rfl) (c_X6_isEmpty a1 h _ hr5) (fun hz => ?_)
      have br5 := hz rfl
      refine st_if_ne g dX7_shift_32 (tgt := 46) (by decide) H (fun q6 H => ?_) (fun q6 H => ?_)
      · refine st_bipush g dX7_shift_46 bi_m11 ?_
        obtain rfl := Option.some.inj H
        exact st_iret g dX7_shift_48 rfl (fun q => by cases q) K
      · refine st_aload_n g dX7_shift_35 rfl ?_
        refine gf_X7_54 g dX7_shift_36 rfl (r := 30) rfl ?_
        refine st_iload_n g dX7_shift_39 rfl ?_
        obtain ⟨r7, hr7, H⟩ := bind_some H
        refine st_callVI g (as := [.int a3]) dX7_shift_40 rfl rfl ml_X7_110 mf_X6_isEmpty rfl (Nat.le_of_ble_eq_true rfl) (Nat.le_of_ble_eq_true rfl) (c_X6_isEmpty a3 h _ hr7) (fun hz => ?_)
        have br7 := hz rfl
        refine st_if_eq g dX7_shift_43 (tgt := 49) (by decide) H (fun q8 H => ?_) (fun q8 H => ?_)
        · refine st_aload_n g dX7_shift_49 rfl ?_
          refine gf_X7_54 g dX7_shift_50 rfl (r := 30) rfl ?_
          refine st_iload_n g dX7_shift_53 rfl ?_
          refine st_iload_n g dX7_shift_54 rfl ?_
          obtain ⟨r9, hr9, H⟩ := bind_some H
          refine st_callVI g (as := [.int a1, .int a3]) dX7_shift_55 rfl rfl ml_X7_349 mf_X6_areAlike rfl (Nat.le_of_ble_eq_true rfl) (Nat.le_of_ble_eq_true rfl) (c_X6_areAlike a1 a3 h _ hr9) (fun hz => ?_)
          have br9 := hz rfl
          refine st_if_ne g dX7_shift_58 (tgt := 64) (by decide) H (fun q10 H => ?_) (fun q10 H => ?_)
          · refine st_aload_n g dX7_shift_64 rfl ?_
            refine gf_X7_54 g dX7_shift_65 rfl (r := 30) rfl ?_
            refine st_iload_n g dX7_shift_68 rfl ?_
            refine st_iload_n g dX7_shift_69 rfl ?_
            refine st_iload g dX7_shift_70 rfl ?_
            obtain ⟨r11, hr11, H⟩ := bind_some H
            refine st_callVI g (as := [.int a1, .int a2, .int a5]) dX7_shift_72 rfl rfl ml_X7_117 mf_X6_hasPart rfl (Nat.le_of_ble_eq_true rfl) (Nat.le_of_ble_eq_true rfl) (c_X6_hasPart a1 a2 a5 h _ hr11) (fun hz => ?_)
            have br11 := hz rfl
            refine st_if_eq g dX7_shift_75 (tgt := 93) (by decide) H (fun q12 H => ?_) (fun q12 H => ?_)
            · refine st_bipush g dX7_shift_93 bi_m13 ?_
              obtain rfl := Option.some.inj H
              exact st_iret g dX7_shift_95 rfl (fun q => by cases q) K
            · refine st_aload_n g dX7_shift_78 rfl ?_
              refine gf_X7_54 g dX7_shift_79 rfl (r := 30) rfl ?_
              refine st_iload_n g dX7_shift_82 rfl ?_
              refine st_iload g dX7_shift_83 rfl ?_
              refine st_iload g dX7_shift_85 rfl ?_
              obtain ⟨r13, hr13, H⟩ := bind_some H
              refine st_callVI g (as := [.int a3, .int a4, .int a5]) dX7_shift_87 rfl rfl ml_X7_117 mf_X6_hasPart rfl (Nat.le_of_ble_eq_true rfl) (Nat.le_of_ble_eq_true rfl) (c_X6_hasPart a3 a4 a5 h _ hr13) (fun hz => ?_)
              have br13 := hz rfl
              refine st_if_ne g dX7_shift_90 (tgt := 96) (by decide) H (fun q14 H => ?_) (fun q14 H => ?_)
              · refine st_aload_n g dX7_shift_96 rfl ?_
                refine gf_X7_54 g dX7_shift_97 rfl (r := 30) rfl ?_
                refine st_iload_n g dX7_shift_100 rfl ?_
                refine st_iload_n g dX7_shift_101 rfl ?_
                refine st_iload_n g dX7_shift_102 rfl ?_
                refine st_iload g dX7_shift_103 rfl ?_
                refine st_iload g dX7_shift_105 rfl ?_
                obtain ⟨r15, hr15, H⟩ := bind_some H
                refine st_callVV g (as := [.int a1, .int a2, .int a3, .int a4, .int a5]) dX7_shift_107 rfl rfl ml_X7_352 mf_X6_copyPart rfl (Nat.le_of_ble_eq_true rfl) (Nat.le_of_ble_eq_true rfl) (c_X6_copyPart a1 a2 a3 a4 a5 h _ hr15) ?_
                refine st_iload g dX7_shift_110 rfl ?_
                obtain rfl := Option.some.inj H
                exact st_iret g dX7_shift_112 rfl (fun q => by cases q) K
              · refine st_bipush g dX7_shift_93 bi_m13 ?_
                obtain rfl := Option.some.inj H
                exact st_iret g dX7_shift_95 rfl (fun q => by cases q) K
          · refine st_bipush g dX7_shift_61 bi_m12 ?_
            obtain rfl := Option.some.inj H
            exact st_iret g dX7_shift_63 rfl (fun q => by cases q) K
        · refine st_bipush g dX7_shift_46 bi_m11 ?_
          obtain rfl := Option.some.inj H
          exact st_iret g dX7_shift_48 rfl (fun q => by cases q) K
    · refine st_iconst g dX7_shift_22 ic_m1 ?_
      obtain rfl := Option.some.inj H
      exact st_iret g dX7_shift_23 rfl (fun q => by cases q) K
theorem c_X7_shift (a1 : Int32) (a2 : Int32) (a3 : Int32) (a4 : Int32) (a5 : Int32) (h : Hp) (r : (Int32 × Hp)) (H : f_X7_shift a1 a2 a3 a4 a5 h = some r) : CtI yX7_shift cX7_shift 6 .int 3 [.ref 0, .int a1, .int a2, .int a3, .int a4, .int a5] h r.1 r.2 :=
  ct_ofI (own := RX7) [.ref 0, .int a1, .int a2, .int a3, .int a4, .int a5] (by decide +kernel) rfl (fun ρ => Nat.le_of_ble_eq_true rfl) (fun ρ => rfl) (fun x g K => t_X7_shift g a1 a2 a3 a4 a5 h r H K)
def f_X7_taken (a1 : Int32) (a2 : Int32) (h : Hp) : Option Int32 :=
  (f_X6_isShelf a1).bind fun r1 =>
  if r1 = 0 then
    some (-1)
  else
    (f_X1_isKind a2).bind fun r3 =>
    if r3 = 0 then
      some (-1)
    else
      (f_X6_isEmpty a1 h).bind fun r5 =>
      if r5 = 0 then
        (f_X6_isDoor a1 h).bind fun r7 =>
        if r7 = 0 then
          some (-12)
        else
          (f_X6_doorOn a1 h).bind fun r9 =>
          (f_X1_kindOf r9 h).bind fun r10 =>
          (f_X1_isUnder r10 a2 h).bind fun r11 =>
          if r11 = 0 then
            some (-12)
          else
            some r10
      else
        some (-11)
theorem t_X7_taken {x : Cx} (g : Gx x RX7 cX7_taken 4 3) (a1 : Int32) (a2 : Int32) (h : Hp) (out : Int32) (H : f_X7_taken a1 a2 h = some out) (K : RtI x .int out h) : WA x 0 [.ref 0, .int a1, .int a2, .null] [] h := by
  unfold f_X7_taken at H
  refine st_aload_n g dX7_taken_0 rfl ?_
  refine gf_X7_54 g dX7_taken_1 rfl (r := 30) rfl ?_
  refine st_iload_n g dX7_taken_4 rfl ?_
  obtain ⟨r1, hr1, H⟩ := bind_some H
  refine st_callVI g (as := [.int a1]) dX7_taken_5 rfl rfl ml_X7_107 mf_X6_isShelf rfl (Nat.le_of_ble_eq_true rfl) (Nat.le_of_ble_eq_true rfl) (c_X6_isShelf a1 h _ hr1) (fun hz => ?_)
  have br1 := hz rfl
  refine st_if_eq g dX7_taken_8 (tgt := 22) (by decide) H (fun q2 H => ?_) (fun q2 H => ?_)
  · refine st_iconst g dX7_taken_22 ic_m1 ?_
    obtain rfl := Option.some.inj H
    exact st_iret g dX7_taken_23 rfl (fun q => by cases q) K
  · refine st_aload_n g dX7_taken_11 rfl ?_
    refine gf_X7_61 g dX7_taken_12 rfl (r := 41) rfl ?_
    refine st_iload_n g dX7_taken_15 rfl ?_
    obtain ⟨r3, hr3, H⟩ := bind_some H
    refine st_callVI g (as := [.int a2]) dX7_taken_16 rfl rfl ml_X7_313 mf_X1_isKind rfl (Nat.le_of_ble_eq_true rfl) (Nat.le_of_ble_eq_true rfl) (c_X1_isKind a2 h _ hr3) (fun hz => ?_)
    have br3 := hz rfl
    refine st_if_ne g dX7_taken_19 (tgt := 24) (by decide) H (fun q4 H => ?_) (fun q4 H => ?_)
    · refine st_aload_n g dX7_taken_24 rfl ?_
      refine gf_X7_54 g dX7_taken_25 rfl (r := 30) rfl ?_
      refine st_iload_n g dX7_taken_28 rfl ?_
      obtain ⟨r5, hr5, H⟩ := bind_some H
      refine st_callVI g (as := [.int a1]) dX7_taken_29 rfl rfl ml_X7_110 mf_X6_isEmpty rfl (Nat.le_of_ble_eq_true rfl) (Nat.le_of_ble_eq_true rfl) (c_X6_isEmpty a1 h _ hr5) (fun hz => ?_)
      have br5 := hz rfl
      refine st_if_eq g dX7_taken_32 (tgt := 38) (by decide) H (fun q6 H => ?_) (fun q6 H => ?_)
      · refine st_aload_n g dX7_taken_38 rfl ?_
        refine gf_X7_54 g dX7_taken_39 rfl (r := 30) rfl ?_
        refine st_iload_n g dX7_taken_42 rfl ?_
        obtain ⟨r7, hr7, H⟩ := bind_some H
        refine st_callVI g (as := [.int a1]) dX7_taken_43 rfl rfl ml_X7_356 mf_X6_isDoor rfl (Nat.le_of_ble_eq_true rfl) (Nat.le_of_ble_eq_true rfl) (c_X6_isDoor a1 h _ hr7) (fun hz => ?_)
        have br7 := hz rfl
        refine st_if_ne g dX7_taken_46 (tgt := 52) (by decide) H (fun q8 H => ?_) (fun q8 H => ?_)
        · refine st_aload_n g dX7_taken_52 rfl ?_
          refine gf_X7_61 g dX7_taken_53 rfl (r := 41) rfl ?_
          refine st_aload_n g dX7_taken_56 rfl ?_
          refine gf_X7_54 g dX7_taken_57 rfl (r := 30) rfl ?_
          refine st_iload_n g dX7_taken_60 rfl ?_
          obtain ⟨r9, hr9, H⟩ := bind_some H
          refine st_callVI g (as := [.int a1]) dX7_taken_61 rfl rfl ml_X7_359 mf_X6_doorOn rfl (Nat.le_of_ble_eq_true rfl) (Nat.le_of_ble_eq_true rfl) (c_X6_doorOn a1 h _ hr9) (fun hz => ?_)
          obtain ⟨r10, hr10, H⟩ := bind_some H
          refine st_callVI g (as := [.int r9]) dX7_taken_64 rfl rfl ml_X7_362 mf_X1_kindOf rfl (Nat.le_of_ble_eq_true rfl) (Nat.le_of_ble_eq_true rfl) (c_X1_kindOf r9 h _ hr10) (fun hz => ?_)
          refine st_istore_n g dX7_taken_67 (Nat.le_of_ble_eq_true rfl) rfl (ls2 := [.ref 0, .int a1, .int a2, .int r10]) rfl ?_
          refine st_aload_n g dX7_taken_68 rfl ?_
          refine gf_X7_61 g dX7_taken_69 rfl (r := 41) rfl ?_
          refine st_iload_n g dX7_taken_72 rfl ?_
          refine st_iload_n g dX7_taken_73 rfl ?_
          obtain ⟨r11, hr11, H⟩ := bind_some H
          refine st_callVI g (as := [.int r10, .int a2]) dX7_taken_74 rfl rfl ml_X7_365 mf_X1_isUnder rfl (Nat.le_of_ble_eq_true rfl) (Nat.le_of_ble_eq_true rfl) (c_X1_isUnder r10 a2 h _ hr11) (fun hz => ?_)
          have br11 := hz rfl
          refine st_if_eq g dX7_taken_77 (tgt := 84) (by decide) H (fun q12 H => ?_) (fun q12 H => ?_)
          · refine st_bipush g dX7_taken_84 bi_m12 ?_
            obtain rfl := Option.some.inj H
            exact st_iret g dX7_taken_86 rfl (fun q => by cases q) K
          · refine st_iload_n g dX7_taken_80 rfl ?_
            refine st_goto g dX7_taken_81 (tgt := 86) (by decide) ?_
            obtain rfl := Option.some.inj H
            exact st_iret g dX7_taken_86 rfl (fun q => by cases q) K
        · refine st_bipush g dX7_taken_49 bi_m12 ?_
          obtain rfl := Option.some.inj H
          exact st_iret g dX7_taken_51 rfl (fun q => by cases q) K
      · refine st_bipush g dX7_taken_35 bi_m11 ?_
        obtain rfl := Option.some.inj H
        exact st_iret g dX7_taken_37 rfl (fun q => by cases q) K
    · refine st_iconst g dX7_taken_22 ic_m1 ?_
      obtain rfl := Option.some.inj H
      exact st_iret g dX7_taken_23 rfl (fun q => by cases q) K
theorem c_X7_taken (a1 : Int32) (a2 : Int32) (h : Hp) (r : Int32) (H : f_X7_taken a1 a2 h = some r) : CtI yX7_taken cX7_taken 4 .int 3 [.ref 0, .int a1, .int a2] h r h :=
  ct_ofI (own := RX7) [.ref 0, .int a1, .int a2, .null] (by decide +kernel) rfl (fun ρ => Nat.le_of_ble_eq_true rfl) (fun ρ => rfl) (fun x g K => t_X7_taken g a1 a2 h r H K)
def f_X8_person (a1 : Int32) (h : Hp) : Option (Int32 × Hp) :=
  (f_X8_isHouse a1).bind fun r1 =>
  if r1 = 0 then
    some ((-1), h)
  else
    if (h.1 53 1) = 10 then
      some ((-3), h)
    else
      (wrI h 55 (h.1 53 1) a1).bind fun h4 =>
      (wrI h4 56 (h4.1 53 1) 6).bind fun h5 =>
      lt (stI h5 53 1 ((h5.1 53 1) + 1)) fun h6 =>
      some (h5.1 53 1, h6)
theorem t_X8_person {x : Cx} (g : Gx x RX8 cX8_person 2 3) (a1 : Int32) (h : Hp) (out : (Int32 × Hp)) (H : f_X8_person a1 h = some out) (K : RtI x .int out.1 out.2) : WA x 0 [.ref 53, .int a1] [] h := by
  unfold f_X8_person at H
  refine st_iload_n g dX8_person_0 rfl ?_
  obtain ⟨r1, hr1, H⟩ := bind_some H
  refine st_callSI g (as := [.int a1]) dX8_person_1 ml_X8_120 mf_X8_isHouse rfl (Nat.le_of_ble_eq_true rfl) (Nat.le_of_ble_eq_true rfl) (c_X8_isHouse a1 h _ hr1) (fun hz => ?_)
  have br1 := hz rfl
  refine st_if_ne g dX8_person_4 (tgt := 9) (by decide) H (fun q2 H => ?_) (fun q2 H => ?_)
  · refine st_aload_n g dX8_person_9 rfl ?_
    refine gf_X8_113 g dX8_person_10 rfl ?_
    refine st_bipush g dX8_person_13 bi_10 ?_
    refine st_ic_ne g dX8_person_15 (tgt := 21) (by decide) H (fun q3 H => ?_) (fun q3 H => ?_)
    · refine st_aload_n g dX8_person_21 rfl ?_
      refine gf_X8_15 g dX8_person_22 rfl (r := 55) rfl ?_
      refine st_aload_n g dX8_person_25 rfl ?_
      refine gf_X8_113 g dX8_person_26 rfl ?_
      refine st_iload_n g dX8_person_29 rfl ?_
      refine st_iast g dX8_person_30 H (fun h4 H => ?_)
      refine st_aload_n g dX8_person_31 rfl ?_
      refine gf_X8_18 g dX8_person_32 rfl (r := 56) rfl ?_
      refine st_aload_n g dX8_person_35 rfl ?_
      refine gf_X8_113 g dX8_person_36 rfl ?_
      refine st_bipush g dX8_person_39 bi_6 ?_
      refine st_iast g dX8_person_41 H (fun h5 H => ?_)
      refine st_aload_n g dX8_person_42 rfl ?_
      refine st_dup g dX8_person_43 rfl ?_
      refine gf_X8_113 g dX8_person_44 rfl ?_
      refine st_dup_x1 g dX8_person_47 rfl rfl ?_
      refine st_iconst g dX8_person_48 ic_1 ?_
      refine st_iadd g dX8_person_49 ?_
      refine pu_X8_113 g dX8_person_50 rfl ?_
      refine wa_ltH H (fun h6 H => ?_)
      obtain rfl := Option.some.inj H
      exact st_iret g dX8_person_53 rfl (fun q => by cases q) K
    · refine st_bipush g dX8_person_18 bi_m3 ?_
      obtain rfl := Option.some.inj H
      exact st_iret g dX8_person_20 rfl (fun q => by cases q) K
  · refine st_iconst g dX8_person_7 ic_m1 ?_
    obtain rfl := Option.some.inj H
    exact st_iret g dX8_person_8 rfl (fun q => by cases q) K
theorem c_X8_person (a1 : Int32) (h : Hp) (r : (Int32 × Hp)) (H : f_X8_person a1 h = some r) : CtI yX8_person cX8_person 2 .int 3 [.ref 53, .int a1] h r.1 r.2 :=
  ct_ofI (own := RX8) [.ref 53, .int a1] (by decide +kernel) rfl (fun ρ => Nat.le_of_ble_eq_true rfl) (fun ρ => rfl) (fun x g K => t_X8_person g a1 h r H K)
def f_X8_isSuch (a1 : Int32) (a2 : Int32) (a3 : Int32) (h : Hp) : Option Int32 :=
  (f_X8_isOne a1 h).bind fun r1 =>
  if r1 = 0 then
    some 0
  else
    (f_X8_isOne a2 h).bind fun r3 =>
    if r3 = 0 then
      some 0
    else
      if a1 = a2 then
        some 0
      else
        (f_X8_within a3 1 9).bind fun r6 =>
        if r6 = 0 then
          some 0
        else
          some 1
theorem t_X8_isSuch {x : Cx} (g : Gx x RX8 cX8_isSuch 4 3) (a1 : Int32) (a2 : Int32) (a3 : Int32) (h : Hp) (out : Int32) (H : f_X8_isSuch a1 a2 a3 h = some out) (K : RtI x .boolean out h) : WA x 0 [.ref 53, .int a1, .int a2, .int a3] [] h := by
  unfold f_X8_isSuch at H
  refine st_aload_n g dX8_isSuch_0 rfl ?_
  refine st_iload_n g dX8_isSuch_1 rfl ?_
  obtain ⟨r1, hr1, H⟩ := bind_some H
  refine st_callVI g (as := [.int a1]) dX8_isSuch_2 rfl rfl ml_X8_124 mf_X8_isOne rfl (Nat.le_of_ble_eq_true rfl) (Nat.le_of_ble_eq_true rfl) (c_X8_isOne a1 h _ hr1) (fun hz => ?_)
  have br1 := hz rfl
  refine st_if_eq g dX8_isSuch_5 (tgt := 35) (by decide) H (fun q2 H => ?_) (fun q2 H => ?_)
  · refine st_iconst g dX8_isSuch_35 ic_0 ?_
    obtain rfl := Option.some.inj H
    exact st_iret g dX8_isSuch_36 rfl (fun _ => Or.inl rfl) K
  · refine st_aload_n g dX8_isSuch_8 rfl ?_
    refine st_iload_n g dX8_isSuch_9 rfl ?_
    obtain ⟨r3, hr3, H⟩ := bind_some H
    refine st_callVI g (as := [.int a2]) dX8_isSuch_10 rfl rfl ml_X8_124 mf_X8_isOne rfl (Nat.le_of_ble_eq_true rfl) (Nat.le_of_ble_eq_true rfl) (c_X8_isOne a2 h _ hr3) (fun hz => ?_)
    have br3 := hz rfl
    refine st_if_eq g dX8_isSuch_13 (tgt := 35) (by decide) H (fun q4 H => ?_) (fun q4 H => ?_)
    · refine st_iconst g dX8_isSuch_35 ic_0 ?_
      obtain rfl := Option.some.inj H
      exact st_iret g dX8_isSuch_36 rfl (fun _ => Or.inl rfl) K
    · refine st_iload_n g dX8_isSuch_16 rfl ?_
      refine st_iload_n g dX8_isSuch_17 rfl ?_
      refine st_ic_eq g dX8_isSuch_18 (tgt := 35) (by decide) H (fun q5 H => ?_) (fun q5 H => ?_)
      · refine st_iconst g dX8_isSuch_35 ic_0 ?_
        obtain rfl := Option.some.inj H
        exact st_iret g dX8_isSuch_36 rfl (fun _ => Or.inl rfl) K
      · refine st_iload_n g dX8_isSuch_21 rfl ?_
        refine st_iconst g dX8_isSuch_22 ic_1 ?_
        refine st_bipush g dX8_isSuch_23 bi_9 ?_
        obtain ⟨r6, hr6, H⟩ := bind_some H
        refine st_callSI g (as := [.int a3, .int 1, .int 9]) dX8_isSuch_25 ml_X8_109 mf_X8_within rfl (Nat.le_of_ble_eq_true rfl) (Nat.le_of_ble_eq_true rfl) (c_X8_within a3 1 9 h _ hr6) (fun hz => ?_)
        have br6 := hz rfl
        refine st_if_eq g dX8_isSuch_28 (tgt := 35) (by decide) H (fun q7 H => ?_) (fun q7 H => ?_)
        · refine st_iconst g dX8_isSuch_35 ic_0 ?_
          obtain rfl := Option.some.inj H
          exact st_iret g dX8_isSuch_36 rfl (fun _ => Or.inl rfl) K
        · refine st_iconst g dX8_isSuch_31 ic_1 ?_
          refine st_goto g dX8_isSuch_32 (tgt := 36) (by decide) ?_
          obtain rfl := Option.some.inj H
          exact st_iret g dX8_isSuch_36 rfl (fun _ => Or.inr rfl) K
theorem c_X8_isSuch (a1 : Int32) (a2 : Int32) (a3 : Int32) (h : Hp) (r : Int32) (H : f_X8_isSuch a1 a2 a3 h = some r) : CtI yX8_isSuch cX8_isSuch 4 .boolean 3 [.ref 53, .int a1, .int a2, .int a3] h r h :=
  ct_ofI (own := RX8) [.ref 53, .int a1, .int a2, .int a3] (by decide +kernel) rfl (fun ρ => Nat.le_of_ble_eq_true rfl) (fun ρ => rfl) (fun x g K => t_X8_isSuch g a1 a2 a3 h r H K)
def f_X8_isOf (a1 : Int32) (a2 : Int32) (h : Hp) : Option Int32 :=
  if a2 = 0 then
    (f_X8_isHouse a1).bind fun r10 =>
    some r10
  else
    (f_X8_within a2 1 2).bind fun r2 =>
    if r2 = 0 then
      (f_X8_within a2 3 5).bind fun r4 =>
      if r4 = 0 then
        if a2 = 6 then
          if a1 = 0 then
            some 1
          else
            some 0
        else
          some 0
      else
        (f_X8_isWrong a1 h).bind fun r8 =>
        some r8
    else
      (f_X8_isOne a1 h).bind fun r9 =>
      some r9
theorem t_X8_isOf {x : Cx} (g : Gx x RX8 cX8_isOf 3 3) (a1 : Int32) (a2 : Int32) (h : Hp) (out : Int32) (H : f_X8_isOf a1 a2 h = some out) (K : RtI x .boolean out h) : WA x 0 [.ref 53, .int a1, .int a2] [] h := by
  unfold f_X8_isOf at H
  refine st_iload_n g dX8_isOf_0 rfl ?_
  refine st_if_ne g dX8_isOf_1 (tgt := 11) (by decide) H (fun q1 H => ?_) (fun q1 H => ?_)
  · refine st_iload_n g dX8_isOf_11 rfl ?_
    refine st_iconst g dX8_isOf_12 ic_1 ?_
    refine st_iconst g dX8_isOf_13 ic_2 ?_
    obtain ⟨r2, hr2, H⟩ := bind_some H
    refine st_callSI g (as := [.int a2, .int 1, .int 2]) dX8_isOf_14 ml_X8_109 mf_X8_within rfl (Nat.le_of_ble_eq_true rfl) (Nat.le_of_ble_eq_true rfl) (c_X8_within a2 1 2 h _ hr2) (fun hz => ?_)
    have br2 := hz rfl
    refine st_if_eq g dX8_isOf_17 (tgt := 28) (by decide) H (fun q3 H => ?_) (fun q3 H => ?_)
    · refine st_iload_n g dX8_isOf_28 rfl ?_
      refine st_iconst g dX8_isOf_29 ic_3 ?_
      refine st_iconst g dX8_isOf_30 ic_5 ?_
      obtain ⟨r4, hr4, H⟩ := bind_some H
      refine st_callSI g (as := [.int a2, .int 3, .int 5]) dX8_isOf_31 ml_X8_109 mf_X8_within rfl (Nat.le_of_ble_eq_true rfl) (Nat.le_of_ble_eq_true rfl) (c_X8_within a2 3 5 h _ hr4) (fun hz => ?_)
      have br4 := hz rfl
      refine st_if_eq g dX8_isOf_34 (tgt := 45) (by decide) H (fun q5 H => ?_) (fun q5 H => ?_)
      · refine st_iload_n g dX8_isOf_45 rfl ?_
        refine st_bipush g dX8_isOf_46 bi_6 ?_
        refine st_ic_ne g dX8_isOf_48 (tgt := 59) (by decide) H (fun q6 H => ?_) (fun q6 H => ?_)
        · refine st_iconst g dX8_isOf_59 ic_0 ?_
          obtain rfl := Option.some.inj H
          exact st_iret g dX8_isOf_60 rfl (fun _ => Or.inl rfl) K
        · refine st_iload_n g dX8_isOf_51 rfl ?_
          refine st_if_ne g dX8_isOf_52 (tgt := 59) (by decide) H (fun q7 H => ?_) (fun q7 H => ?_)
          · refine st_iconst g dX8_isOf_59 ic_0 ?_
            obtain rfl := Option.some.inj H
            exact st_iret g dX8_isOf_60 rfl (fun _ => Or.inl rfl) K
          · refine st_iconst g dX8_isOf_55 ic_1 ?_
            refine st_goto g dX8_isOf_56 (tgt := 60) (by decide) ?_
            obtain rfl := Option.some.inj H
            exact st_iret g dX8_isOf_60 rfl (fun _ => Or.inr rfl) K
      · refine st_aload_n g dX8_isOf_37 rfl ?_
        refine st_iload_n g dX8_isOf_38 rfl ?_
        obtain ⟨r8, hr8, H⟩ := bind_some H
        refine st_callVI g (as := [.int a1]) dX8_isOf_39 rfl rfl ml_X8_146 mf_X8_isWrong rfl (Nat.le_of_ble_eq_true rfl) (Nat.le_of_ble_eq_true rfl) (c_X8_isWrong a1 h _ hr8) (fun hz => ?_)
        have br8 := hz rfl
        refine st_goto g dX8_isOf_42 (tgt := 60) (by decide) ?_
        obtain rfl := Option.some.inj H
        exact st_iret g dX8_isOf_60 (bo_nar br8) (fun _ => br8) K
    · refine st_aload_n g dX8_isOf_20 rfl ?_
      refine st_iload_n g dX8_isOf_21 rfl ?_
      obtain ⟨r9, hr9, H⟩ := bind_some H
      refine st_callVI g (as := [.int a1]) dX8_isOf_22 rfl rfl ml_X8_124 mf_X8_isOne rfl (Nat.le_of_ble_eq_true rfl) (Nat.le_of_ble_eq_true rfl) (c_X8_isOne a1 h _ hr9) (fun hz => ?_)
      have br9 := hz rfl
      refine st_goto g dX8_isOf_25 (tgt := 60) (by decide) ?_
      obtain rfl := Option.some.inj H
      exact st_iret g dX8_isOf_60 (bo_nar br9) (fun _ => br9) K
  · refine st_iload_n g dX8_isOf_4 rfl ?_
    obtain ⟨r10, hr10, H⟩ := bind_some H
    refine st_callSI g (as := [.int a1]) dX8_isOf_5 ml_X8_120 mf_X8_isHouse rfl (Nat.le_of_ble_eq_true rfl) (Nat.le_of_ble_eq_true rfl) (c_X8_isHouse a1 h _ hr10) (fun hz => ?_)
    have br10 := hz rfl
    refine st_goto g dX8_isOf_8 (tgt := 60) (by decide) ?_
    obtain rfl := Option.some.inj H
    exact st_iret g dX8_isOf_60 (bo_nar br10) (fun _ => br10) K
theorem c_X8_isOf (a1 : Int32) (a2 : Int32) (h : Hp) (r : Int32) (H : f_X8_isOf a1 a2 h = some r) : CtI yX8_isOf cX8_isOf 3 .boolean 3 [.ref 53, .int a1, .int a2] h r h :=
  ct_ofI (own := RX8) [.ref 53, .int a1, .int a2] (by decide +kernel) rfl (fun ρ => Nat.le_of_ble_eq_true rfl) (fun ρ => rfl) (fun x g K => t_X8_isOf g a1 a2 h r H K)
def f_X8_isFit (a0 : Int32) (a1 : Int32) : Option Int32 :=
  if a0 = 0 then
    (f_X8_within a1 0 999).bind fun r2 =>
    some r2
  else
  if a0 = 1 then
    (f_X8_isHouse a1).bind fun r4 =>
    some r4
  else
  if a0 = 2 then
    (f_X8_within a1 0 12).bind fun r6 =>
    some r6
  else
  if a0 = 3 then
    (f_X8_within a1 1 9).bind fun r8 =>
    some r8
  else
  if a0 = 4 then
    (f_X8_within a1 0 99).bind fun r10 =>
    some r10
  else
  if a0 = 5 then
    (f_X8_within a1 0 1).bind fun r12 =>
    some r12
  else
    (f_X8_within a1 0 99).bind fun r13 =>
    some r13
theorem t_X8_isFit {x : Cx} (g : Gx x RX8 cX8_isFit 2 3) (a0 : Int32) (a1 : Int32) (h : Hp) (out : Int32) (H : f_X8_isFit a0 a1 = some out) (K : RtI x .boolean out h) : WA x 0 [.int a0, .int a1] [] h := by
  unfold f_X8_isFit at H
  refine st_iload_n g dX8_isFit_0 rfl ?_
  by_cases q1 : a0 = 0
  · rw [if_pos q1] at H
    refine st_tsw g dX8_isFit_1 (tgt := 40) q1 (by decide) (by decide) rfl (by decide) ?_
    refine st_iload_n g dX8_isFit_40 rfl ?_
    refine st_iconst g dX8_isFit_41 ic_0 ?_
    refine st_sipush g dX8_isFit_42 si_999 ?_
    obtain ⟨r2, hr2, H⟩ := bind_some H
    refine st_callSI g (as := [.int a1, .int 0, .int 999]) dX8_isFit_45 ml_X8_109 mf_X8_within rfl (Nat.le_of_ble_eq_true rfl) (Nat.le_of_ble_eq_true rfl) (c_X8_within a1 0 999 h _ hr2) (fun hz => ?_)
    have br2 := hz rfl
    obtain rfl := Option.some.inj H
    exact st_iret g dX8_isFit_48 (bo_nar br2) (fun _ => br2) K
  · rw [if_neg q1] at H
    by_cases q3 : a0 = 1
    · rw [if_pos q3] at H
      refine st_tsw g dX8_isFit_1 (tgt := 49) q3 (by decide) (by decide) rfl (by decide) ?_
      refine st_iload_n g dX8_isFit_49 rfl ?_
      obtain ⟨r4, hr4, H⟩ := bind_some H
      refine st_callSI g (as := [.int a1]) dX8_isFit_50 ml_X8_120 mf_X8_isHouse rfl (Nat.le_of_ble_eq_true rfl) (Nat.le_of_ble_eq_true rfl) (c_X8_isHouse a1 h _ hr4) (fun hz => ?_)
      have br4 := hz rfl
      obtain rfl := Option.some.inj H
      exact st_iret g dX8_isFit_53 (bo_nar br4) (fun _ => br4) K
    · rw [if_neg q3] at H
      by_cases q5 : a0 = 2
      · rw [if_pos q5] at H
        refine st_tsw g dX8_isFit_1 (tgt := 54) q5 (by decide) (by decide) rfl (by decide) ?_
        refine st_iload_n g dX8_isFit_54 rfl ?_
        refine st_iconst g dX8_isFit_55 ic_0 ?_
        refine st_bipush g dX8_isFit_56 bi_12 ?_
        obtain ⟨r6, hr6, H⟩ := bind_some H
        refine st_callSI g (as := [.int a1, .int 0, .int 12]) dX8_isFit_58 ml_X8_109 mf_X8_within rfl (Nat.le_of_ble_eq_true rfl) (Nat.le_of_ble_eq_true rfl) (c_X8_within a1 0 12 h _ hr6) (fun hz => ?_)
        have br6 := hz rfl
        obtain rfl := Option.some.inj H
        exact st_iret g dX8_isFit_61 (bo_nar br6) (fun _ => br6) K
      · rw [if_neg q5] at H
        by_cases q7 : a0 = 3
        · rw [if_pos q7] at H
          refine st_tsw g dX8_isFit_1 (tgt := 62) q7 (by decide) (by decide) rfl (by decide) ?_
          refine st_iload_n g dX8_isFit_62 rfl ?_
          refine st_iconst g dX8_isFit_63 ic_1 ?_
          refine st_bipush g dX8_isFit_64 bi_9 ?_
          obtain ⟨r8, hr8, H⟩ := bind_some H
          refine st_callSI g (as := [.int a1, .int 1, .int 9]) dX8_isFit_66 ml_X8_109 mf_X8_within rfl (Nat.le_of_ble_eq_true rfl) (Nat.le_of_ble_eq_true rfl) (c_X8_within a1 1 9 h _ hr8) (fun hz => ?_)
          have br8 := hz rfl
          obtain rfl := Option.some.inj H
          exact st_iret g dX8_isFit_69 (bo_nar br8) (fun _ => br8) K
        · rw [if_neg q7] at H
          by_cases q9 : a0 = 4
          · rw [if_pos q9] at H
            refine st_tsw g dX8_isFit_1 (tgt := 77) q9 (by decide) (by decide) rfl (by decide) ?_
            refine st_iload_n g dX8_isFit_77 rfl ?_
            refine st_iconst g dX8_isFit_78 ic_0 ?_
            refine st_bipush g dX8_isFit_79 bi_99 ?_
            obtain ⟨r10, hr10, H⟩ := bind_some H
            refine st_callSI g (as := [.int a1, .int 0, .int 99]) dX8_isFit_81 ml_X8_109 mf_X8_within rfl (Nat.le_of_ble_eq_true rfl) (Nat.le_of_ble_eq_true rfl) (c_X8_within a1 0 99 h _ hr10) (fun hz => ?_)
            have br10 := hz rfl
            obtain rfl := Option.some.inj H
            exact st_iret g dX8_isFit_84 (bo_nar br10) (fun _ => br10) K
          · rw [if_neg q9] at H
            by_cases q11 : a0 = 5
            · rw [if_pos q11] at H
              refine st_tsw g dX8_isFit_1 (tgt := 70) q11 (by decide) (by decide) rfl (by decide) ?_
              refine st_iload_n g dX8_isFit_70 rfl ?_
              refine st_iconst g dX8_isFit_71 ic_0 ?_
              refine st_iconst g dX8_isFit_72 ic_1 ?_
              obtain ⟨r12, hr12, H⟩ := bind_some H
              refine st_callSI g (as := [.int a1, .int 0, .int 1]) dX8_isFit_73 ml_X8_109 mf_X8_within rfl (Nat.le_of_ble_eq_true rfl) (Nat.le_of_ble_eq_true rfl) (c_X8_within a1 0 1 h _ hr12) (fun hz => ?_)
              have br12 := hz rfl
              obtain rfl := Option.some.inj H
              exact st_iret g dX8_isFit_76 (bo_nar br12) (fun _ => br12) K
            · rw [if_neg q11] at H
              have zq1 := lv_neT q1 (show (0 : Int32).toInt = 0 by decide)
              have zq3 := lv_neT q3 (show (1 : Int32).toInt = 1 by decide)
              have zq5 := lv_neT q5 (show (2 : Int32).toInt = 2 by decide)
              have zq7 := lv_neT q7 (show (3 : Int32).toInt = 3 by decide)
              have zq9 := lv_neT q9 (show (4 : Int32).toInt = 4 by decide)
              have zq11 := lv_neT q11 (show (5 : Int32).toInt = 5 by decide)
              refine st_tswD g dX8_isFit_1 (tgt := 77) (by omega) (by decide) ?_
              refine st_iload_n g dX8_isFit_77 rfl ?_
              refine st_iconst g dX8_isFit_78 ic_0 ?_
              refine st_bipush g dX8_isFit_79 bi_99 ?_
              obtain ⟨r13, hr13, H⟩ := bind_some H
              refine st_callSI g (as := [.int a1, .int 0, .int 99]) dX8_isFit_81 ml_X8_109 mf_X8_within rfl (Nat.le_of_ble_eq_true rfl) (Nat.le_of_ble_eq_true rfl) (c_X8_within a1 0 99 h _ hr13) (fun hz => ?_)
              have br13 := hz rfl
              obtain rfl := Option.some.inj H
              exact st_iret g dX8_isFit_84 (bo_nar br13) (fun _ => br13) K
theorem c_X8_isFit (a0 : Int32) (a1 : Int32) (h : Hp) (r : Int32) (H : f_X8_isFit a0 a1 = some r) : CtI yX8_isFit cX8_isFit 2 .boolean 3 [.int a0, .int a1] h r h :=
  ct_ofI (own := RX8) [.int a0, .int a1] (by decide +kernel) rfl (fun ρ => Nat.le_of_ble_eq_true rfl) (fun ρ => rfl) (fun x g K => t_X8_isFit g a0 a1 h r H K)
def P_X8_byLaw_92 (x : Cx) (s : (Int32 × Hp)) : Prop := WA x 92 [.ref 53, .null, .null, .int s.1] [] s.2
def E_X8_byLaw_92 (x : Cx) : (Int32 × Hp) ⊕ (Int32 × Hp) → Prop := Sum.elim (fun s : (Int32 × Hp) => WA x 160 [.null, .null, .null, .null] [] s.2) (fun r : (Int32 × Hp) => RtI x .int r.1 r.2)
def j_X8_byLaw_137 (c3 : Int32) (h : Hp) : Option ((Int32 × Hp) ⊕ ((Int32 × Hp) ⊕ (Int32 × Hp))) :=
  (rdI h 64 c3).bind fun v20 =>
  (rdI h 65 c3).bind fun v21 =>
  (f_X8_worked v20 v21 h).bind fun r22 =>
  some (.inr (.inr (r22.1, r22.2)))
theorem tj_X8_byLaw_137 {x : Cx} (g : Gx x RX8 cX8_byLaw 4 3) (c3 : Int32) (h : Hp) (out : (Int32 × Hp) ⊕ ((Int32 × Hp) ⊕ (Int32 × Hp))) (H : j_X8_byLaw_137 c3 h = some out) (K : Sum.elim (P_X8_byLaw_92 x) (E_X8_byLaw_92 x) out) : WA x 137 [.ref 53, .null, .null, .int c3] [] h := by
  unfold j_X8_byLaw_137 at H
  refine st_aload_n g dX8_byLaw_137 rfl ?_
  refine st_aload_n g dX8_byLaw_138 rfl ?_
  refine gf_X8_42 g dX8_byLaw_139 rfl (r := 64) rfl ?_
  refine st_iload_n g dX8_byLaw_142 rfl ?_
  refine st_iald g dX8_byLaw_143 H (fun v20 H => ?_)
  refine st_aload_n g dX8_byLaw_144 rfl ?_
  refine gf_X8_45 g dX8_byLaw_145 rfl (r := 65) rfl ?_
  refine st_iload_n g dX8_byLaw_148 rfl ?_
  refine st_iald g dX8_byLaw_149 H (fun v21 H => ?_)
  obtain ⟨r22, hr22, H⟩ := bind_some H
  refine st_callVI g (as := [.int v20, .int v21]) dX8_byLaw_150 rfl rfl ml_X8_245 mf_X8_worked rfl (Nat.le_of_ble_eq_true rfl) (Nat.le_of_ble_eq_true rfl) (c_X8_worked v20 v21 h _ hr22) (fun hz => ?_)
  obtain rfl := Option.some.inj H
  exact st_iret g dX8_byLaw_153 rfl (fun q => by cases q) K
def b_X8_byLaw_92 (s : (Int32 × Hp)) : Option ((Int32 × Hp) ⊕ ((Int32 × Hp) ⊕ (Int32 × Hp))) :=
  if (s.2.1 53 14) ≤ s.1 then
    some (.inr (.inl (s.1, s.2)))
  else
    (rdI s.2 64 s.1).bind fun v17 =>
    (rdI s.2 63 s.1).bind fun v18 =>
    if v17 ≤ v18 then
      j_X8_byLaw_137 s.1 s.2
    else
      (rdI s.2 63 s.1).bind fun v23 =>
      (rdI s.2 64 s.1).bind fun v24 =>
      (f_X8_worked v23 v24 s.2).bind fun r25 =>
      if r25.1 = 0 then
        some (.inl (s.1 + 1, r25.2))
      else
        j_X8_byLaw_137 s.1 r25.2
theorem tb_X8_byLaw_92 {x : Cx} (g : Gx x RX8 cX8_byLaw 4 3) (s : (Int32 × Hp)) (out : (Int32 × Hp) ⊕ ((Int32 × Hp) ⊕ (Int32 × Hp))) (H : b_X8_byLaw_92 s = some out) (K : Sum.elim (P_X8_byLaw_92 x) (E_X8_byLaw_92 x) out) : P_X8_byLaw_92 x s := by
  unfold b_X8_byLaw_92 at H
  show WA x 92 [.ref 53, .null, .null, .int s.1] [] s.2
  refine st_iload_n g dX8_byLaw_92 rfl ?_
  refine st_aload_n g dX8_byLaw_93 rfl ?_
  refine gf_X8_228 g dX8_byLaw_94 rfl ?_
  refine st_ic_ge g dX8_byLaw_97 (tgt := 160) (by decide) H (fun q16 H => ?_) (fun q16 H => ?_)
  · obtain rfl := Option.some.inj H
    exact (wa_drop [0, 3] K)
  · refine st_aload_n g dX8_byLaw_100 rfl ?_
    refine gf_X8_42 g dX8_byLaw_101 rfl (r := 64) rfl ?_
    refine st_iload_n g dX8_byLaw_104 rfl ?_
    refine st_iald g dX8_byLaw_105 H (fun v17 H => ?_)
    refine st_aload_n g dX8_byLaw_106 rfl ?_
    refine gf_X8_39 g dX8_byLaw_107 rfl (r := 63) rfl ?_
    refine st_iload_n g dX8_byLaw_110 rfl ?_
    refine st_iald g dX8_byLaw_111 H (fun v18 H => ?_)
    refine st_ic_le g dX8_byLaw_112 (tgt := 137) (by decide) H (fun q19 H => ?_) (fun q19 H => ?_)
    · exact (tj_X8_byLaw_137 g s.1 s.2 _ H K)
    · refine st_aload_n g dX8_byLaw_115 rfl ?_
      refine st_aload_n g dX8_byLaw_116 rfl ?_
      refine gf_X8_39 g dX8_byLaw_117 rfl (r := 63) rfl ?_
      refine st_iload_n g dX8_byLaw_120 rfl ?_
      refine st_iald g dX8_byLaw_121 H (fun v23 H => ?_)
      refine st_aload_n g dX8_byLaw_122 rfl ?_
      refine gf_X8_42 g dX8_byLaw_123 rfl (r := 64) rfl ?_
      refine st_iload_n g dX8_byLaw_126 rfl ?_
      refine st_iald g dX8_byLaw_127 H (fun v24 H => ?_)
      obtain ⟨r25, hr25, H⟩ := bind_some H
      refine st_callVI g (as := [.int v23, .int v24]) dX8_byLaw_128 rfl rfl ml_X8_245 mf_X8_worked rfl (Nat.le_of_ble_eq_true rfl) (Nat.le_of_ble_eq_true rfl) (c_X8_worked v23 v24 s.2 _ hr25) (fun hz => ?_)
      refine st_if_ne g dX8_byLaw_131 (tgt := 137) (by decide) H (fun q26 H => ?_) (fun q26 H => ?_)
      · exact (tj_X8_byLaw_137 g s.1 r25.2 _ H K)
      · refine st_goto g dX8_byLaw_134 (tgt := 154) (by decide) ?_
        refine st_iinc g dX8_byLaw_154 rfl (ii_1 _) (Nat.le_of_ble_eq_true rfl) rfl (ls2 := [.ref 53, .null, .null, .int (s.1 + 1)]) rfl ?_
        refine st_goto g dX8_byLaw_157 (tgt := 92) (by decide) ?_
        obtain rfl := Option.some.inj H
        exact K
def j_X8_byLaw_89 (t0 : Int32) (t1 : Int32) (h : Hp) : Option ((Int32 × Hp)) :=
  (wrI h 72 t1 t0).bind fun h15 =>
  (iter (b_X8_byLaw_92) FU (0, h15)).bind (Sum.elim (fun a27 =>
    some (0, a27.2)) (fun r => some r))
theorem tj_X8_byLaw_89 {x : Cx} (g : Gx x RX8 cX8_byLaw 4 3) (t0 : Int32) (t1 : Int32) (h : Hp) (out : (Int32 × Hp)) (H : j_X8_byLaw_89 t0 t1 h = some out) (K : RtI x .int out.1 out.2) : WA x 89 [.ref 53, .null, .null, .null] [.int t0, .int t1, .ref 72] h := by
  unfold j_X8_byLaw_89 at H
  refine st_iast g dX8_byLaw_89 H (fun h15 H => ?_)
  refine st_iconst g dX8_byLaw_90 ic_0 ?_
  refine st_istore_n g dX8_byLaw_91 (Nat.le_of_ble_eq_true rfl) rfl (ls2 := [.ref 53, .null, .null, .int 0]) rfl ?_
  show P_X8_byLaw_92 x (0, h15)
  obtain ⟨a27o, ha27, hca27⟩ := it_R H
  refine iter_W (P := P_X8_byLaw_92 x) (E := E_X8_byLaw_92 x) (fun s9 o9 ho9 hK9 => tb_X8_byLaw_92 g s9 o9 ho9 hK9) FU _ a27o ha27 ?_
  rcases hca27 with ⟨a27, rfl, H⟩ | ⟨r, rfl, H⟩
  · show WA x 160 [.null, .null, .null, .null] [] a27.2
    refine st_iconst g dX8_byLaw_160 ic_0 ?_
    obtain rfl := Option.some.inj H
    exact st_iret g dX8_byLaw_161 rfl (fun q => by cases q) K
  · obtain rfl := Option.some.inj H
    exact K
def f_X8_byLaw (a1 : Int32) (a2 : Int32) (h : Hp) : Option (Int32 × Hp) :=
  (rdI h 59 a1).bind fun v1 =>
  (wrI h 72 0 v1).bind fun h2 =>
  (f_X8_ago a1 h2).bind fun r3 =>
  (wrI h2 72 1 r3).bind fun h4 =>
  (rdI h4 58 a1).bind fun v5 =>
  (rdI h4 56 v5).bind fun v6 =>
  (wrI h4 72 2 v6).bind fun h7 =>
  (f_X8_sees a1 a2 h7).bind fun r8 =>
  (wrI h7 72 3 r8).bind fun h9 =>
  (rdI h9 54 a2).bind fun v10 =>
  (wrI h9 72 4 v10).bind fun h11 =>
  (rdI h11 58 a1).bind fun v12 =>
  (rdI h11 55 v12).bind fun v13 =>
  if v13 = a2 then
    j_X8_byLaw_89 1 5 h11
  else
    j_X8_byLaw_89 0 5 h11
theorem t_X8_byLaw {x : Cx} (g : Gx x RX8 cX8_byLaw 4 3) (a1 : Int32) (a2 : Int32) (h : Hp) (out : (Int32 × Hp)) (H : f_X8_byLaw a1 a2 h = some out) (K : RtI x .int out.1 out.2) : WA x 0 [.ref 53, .int a1, .int a2, .null] [] h := by
  unfold f_X8_byLaw at H
  refine st_aload_n g dX8_byLaw_0 rfl ?_
  refine gf_X8_66 g dX8_byLaw_1 rfl (r := 72) rfl ?_
  refine st_iconst g dX8_byLaw_4 ic_0 ?_
  refine st_aload_n g dX8_byLaw_5 rfl ?_
  refine gf_X8_27 g dX8_byLaw_6 rfl (r := 59) rfl ?_
  refine st_iload_n g dX8_byLaw_9 rfl ?_
  refine st_iald g dX8_byLaw_10 H (fun v1 H => ?_)
  refine st_iast g dX8_byLaw_11 H (fun h2 H => ?_)
  refine st_aload_n g dX8_byLaw_12 rfl ?_
  refine gf_X8_66 g dX8_byLaw_13 rfl (r := 72) rfl ?_
  refine st_iconst g dX8_byLaw_16 ic_1 ?_
  refine st_aload_n g dX8_byLaw_17 rfl ?_
  refine st_iload_n g dX8_byLaw_18 rfl ?_
  obtain ⟨r3, hr3, H⟩ := bind_some H
  refine st_callVI g (as := [.int a1]) dX8_byLaw_19 rfl rfl ml_X8_239 mf_X8_ago rfl (Nat.le_of_ble_eq_true rfl) (Nat.le_of_ble_eq_true rfl) (c_X8_ago a1 h2 _ hr3) (fun hz => ?_)
  refine st_iast g dX8_byLaw_22 H (fun h4 H => ?_)
  refine st_aload_n g dX8_byLaw_23 rfl ?_
  refine gf_X8_66 g dX8_byLaw_24 rfl (r := 72) rfl ?_
  refine st_iconst g dX8_byLaw_27 ic_2 ?_
  refine st_aload_n g dX8_byLaw_28 rfl ?_
  refine gf_X8_18 g dX8_byLaw_29 rfl (r := 56) rfl ?_
  refine st_aload_n g dX8_byLaw_32 rfl ?_
  refine gf_X8_24 g dX8_byLaw_33 rfl (r := 58) rfl ?_
  refine st_iload_n g dX8_byLaw_36 rfl ?_
  refine st_iald g dX8_byLaw_37 H (fun v5 H => ?_)
  refine st_iald g dX8_byLaw_38 H (fun v6 H => ?_)
  refine st_iast g dX8_byLaw_39 H (fun h7 H => ?_)
  refine st_aload_n g dX8_byLaw_40 rfl ?_
  refine gf_X8_66 g dX8_byLaw_41 rfl (r := 72) rfl ?_
  refine st_iconst g dX8_byLaw_44 ic_3 ?_
  refine st_aload_n g dX8_byLaw_45 rfl ?_
  refine st_iload_n g dX8_byLaw_46 rfl ?_
  refine st_iload_n g dX8_byLaw_47 rfl ?_
  obtain ⟨r8, hr8, H⟩ := bind_some H
  refine st_callVI g (as := [.int a1, .int a2]) dX8_byLaw_48 rfl rfl ml_X8_242 mf_X8_sees rfl (Nat.le_of_ble_eq_true rfl) (Nat.le_of_ble_eq_true rfl) (c_X8_sees a1 a2 h7 _ hr8) (fun hz => ?_)
  refine st_iast g dX8_byLaw_51 H (fun h9 H => ?_)
  refine st_aload_n g dX8_byLaw_52 rfl ?_
  refine gf_X8_66 g dX8_byLaw_53 rfl (r := 72) rfl ?_
  refine st_iconst g dX8_byLaw_56 ic_4 ?_
  refine st_aload_n g dX8_byLaw_57 rfl ?_
  refine gf_X8_9 g dX8_byLaw_58 rfl (r := 54) rfl ?_
  refine st_iload_n g dX8_byLaw_61 rfl ?_
  refine st_iald g dX8_byLaw_62 H (fun v10 H => ?_)
  refine st_iast g dX8_byLaw_63 H (fun h11 H => ?_)
  refine st_aload_n g dX8_byLaw_64 rfl ?_
  refine gf_X8_66 g dX8_byLaw_65 rfl (r := 72) rfl ?_
  refine st_iconst g dX8_byLaw_68 ic_5 ?_
  refine st_aload_n g dX8_byLaw_69 rfl ?_
  refine gf_X8_15 g dX8_byLaw_70 rfl (r := 55) rfl ?_
  refine st_aload_n g dX8_byLaw_73 rfl ?_
  refine gf_X8_24 g dX8_byLaw_74 rfl (r := 58) rfl ?_
  refine st_iload_n g dX8_byLaw_77 rfl ?_
  refine st_iald g dX8_byLaw_78 H (fun v12 H => ?_)
  refine st_iald g dX8_byLaw_79 H (fun v13 H => ?_)
  refine st_iload_n g dX8_byLaw_80 rfl ?_
  refine st_ic_ne g dX8_byLaw_81 (tgt := 88) (by decide) H (fun q14 H => ?_) (fun q14 H => ?_)
  · refine st_iconst g dX8_byLaw_88 ic_0 ?_
    exact (wa_drop [1, 2] (tj_X8_byLaw_89 g 0 5 h11 _ H K))
  · refine st_iconst g dX8_byLaw_84 ic_1 ?_
    refine st_goto g dX8_byLaw_85 (tgt := 89) (by decide) ?_
    exact (wa_drop [1, 2] (tj_X8_byLaw_89 g 1 5 h11 _ H K))
theorem c_X8_byLaw (a1 : Int32) (a2 : Int32) (h : Hp) (r : (Int32 × Hp)) (H : f_X8_byLaw a1 a2 h = some r) : CtI yX8_byLaw cX8_byLaw 4 .int 3 [.ref 53, .int a1, .int a2] h r.1 r.2 :=
  ct_ofI (own := RX8) [.ref 53, .int a1, .int a2, .null] (by decide +kernel) rfl (fun ρ => Nat.le_of_ble_eq_true rfl) (fun ρ => rfl) (fun x g K => t_X8_byLaw g a1 a2 h r H K)
def P_X8_owes_15 (x : Cx) (a1 : Int32) (h : Hp) (s : (Int32 × Int32)) : Prop := WA x 15 [.ref 53, .int a1, .int s.1, .int s.2] [] h
def E_X8_owes_15 (x : Cx) (a1 : Int32) (h : Hp) : (Int32 × Int32) → Prop := fun s : (Int32 × Int32) => WA x 68 [.null, .null, .int s.1, .null] [] h
def b_X8_owes_15 (a1 : Int32) (h : Hp) (s : (Int32 × Int32)) : Option ((Int32 × Int32) ⊕ (Int32 × Int32)) :=
  if (h.1 53 4) ≤ s.2 then
    some (.inr (s.1, s.2))
  else
    (rdI h 61 s.2).bind fun v4 =>
    if v4 = 1 then
      some (.inl (s.1, s.2 + 1))
    else
      (rdI h 57 s.2).bind fun v6 =>
      if v6 = a1 then
        (rdI h 58 s.2).bind fun v10 =>
        if v10 = a1 then
          some (.inl ((s.1 + 1) - 1, s.2 + 1))
        else
          some (.inl (s.1 + 1, s.2 + 1))
      else
        (rdI h 58 s.2).bind fun v8 =>
        if v8 = a1 then
          some (.inl (s.1 - 1, s.2 + 1))
        else
          some (.inl (s.1, s.2 + 1))
theorem tb_X8_owes_15 {x : Cx} (g : Gx x RX8 cX8_owes 4 3) (a1 : Int32) (h : Hp) (s : (Int32 × Int32)) (out : (Int32 × Int32) ⊕ (Int32 × Int32)) (H : b_X8_owes_15 a1 h s = some out) (K : Sum.elim (P_X8_owes_15 x a1 h) (E_X8_owes_15 x a1 h) out) : P_X8_owes_15 x a1 h s := by
  unfold b_X8_owes_15 at H
  show WA x 15 [.ref 53, .int a1, .int s.1, .int s.2] [] h
  refine st_iload_n g dX8_owes_15 rfl ?_
  refine st_aload_n g dX8_owes_16 rfl ?_
  refine gf_X8_117 g dX8_owes_17 rfl ?_
  refine st_ic_ge g dX8_owes_20 (tgt := 68) (by decide) H (fun q3 H => ?_) (fun q3 H => ?_)
  · obtain rfl := Option.some.inj H
    exact (wa_drop [0, 1, 3] K)
  · refine st_aload_n g dX8_owes_23 rfl ?_
    refine gf_X8_33 g dX8_owes_24 rfl (r := 61) rfl ?_
    refine st_iload_n g dX8_owes_27 rfl ?_
    refine st_iald g dX8_owes_28 H (fun v4 H => ?_)
    refine st_iconst g dX8_owes_29 ic_1 ?_
    refine st_ic_ne g dX8_owes_30 (tgt := 36) (by decide) H (fun q5 H => ?_) (fun q5 H => ?_)
    · refine st_aload_n g dX8_owes_36 rfl ?_
      refine gf_X8_21 g dX8_owes_37 rfl (r := 57) rfl ?_
      refine st_iload_n g dX8_owes_40 rfl ?_
      refine st_iald g dX8_owes_41 H (fun v6 H => ?_)
      refine st_iload_n g dX8_owes_42 rfl ?_
      refine st_ic_ne g dX8_owes_43 (tgt := 49) (by decide) H (fun q7 H => ?_) (fun q7 H => ?_)
      · refine st_aload_n g dX8_owes_49 rfl ?_
        refine gf_X8_24 g dX8_owes_50 rfl (r := 58) rfl ?_
        refine st_iload_n g dX8_owes_53 rfl ?_
        refine st_iald g dX8_owes_54 H (fun v8 H => ?_)
        refine st_iload_n g dX8_owes_55 rfl ?_
        refine st_ic_ne g dX8_owes_56 (tgt := 62) (by decide) H (fun q9 H => ?_) (fun q9 H => ?_)
        · refine st_iinc g dX8_owes_62 rfl (ii_1 _) (Nat.le_of_ble_eq_true rfl) rfl (ls2 := [.ref 53, .int a1, .int s.1, .int (s.2 + 1)]) rfl ?_
          refine st_goto g dX8_owes_65 (tgt := 15) (by decide) ?_
          obtain rfl := Option.some.inj H
          exact K
        · refine st_iinc g dX8_owes_59 rfl (ii_m1 _) (Nat.le_of_ble_eq_true rfl) rfl (ls2 := [.ref 53, .int a1, .int (s.1 - 1), .int s.2]) rfl ?_
          refine st_iinc g dX8_owes_62 rfl (ii_1 _) (Nat.le_of_ble_eq_true rfl) rfl (ls2 := [.ref 53, .int a1, .int (s.1 - 1), .int (s.2 + 1)]) rfl ?_
          refine st_goto g dX8_owes_65 (tgt := 15) (by decide) ?_
          obtain rfl := Option.some.inj H
          exact K
      · refine st_iinc g dX8_owes_46 rfl (ii_1 _) (Nat.le_of_ble_eq_true rfl) rfl (ls2 := [.ref 53, .int a1, .int (s.1 + 1), .int s.2]) rfl ?_
        refine st_aload_n g dX8_owes_49 rfl ?_
        refine gf_X8_24 g dX8_owes_50 rfl (r := 58) rfl ?_
        refine st_iload_n g dX8_owes_53 rfl ?_
        refine st_iald g dX8_owes_54 H (fun v10 H => ?_)
        refine st_iload_n g dX8_owes_55 rfl ?_
        refine st_ic_ne g dX8_owes_56 (tgt := 62) (by decide) H (fun q11 H => ?_) (fun q11 H => ?_)
        · refine st_iinc g dX8_owes_62 rfl (ii_1 _) (Nat.le_of_ble_eq_true rfl) rfl (ls2 := [.ref 53, .int a1, .int (s.1 + 1), .int (s.2 + 1)]) rfl ?_
          refine st_goto g dX8_owes_65 (tgt := 15) (by decide) ?_
          obtain rfl := Option.some.inj H
          exact K
        · refine st_iinc g dX8_owes_59 rfl (ii_m1 _) (Nat.le_of_ble_eq_true rfl) rfl (ls2 := [.ref 53, .int a1, .int ((s.1 + 1) - 1), .int s.2]) rfl ?_
          refine st_iinc g dX8_owes_62 rfl (ii_1 _) (Nat.le_of_ble_eq_true rfl) rfl (ls2 := [.ref 53, .int a1, .int ((s.1 + 1) - 1), .int (s.2 + 1)]) rfl ?_
          refine st_goto g dX8_owes_65 (tgt := 15) (by decide) ?_
          obtain rfl := Option.some.inj H
          exact K
    · refine st_goto g dX8_owes_33 (tgt := 62) (by decide) ?_
      refine st_iinc g dX8_owes_62 rfl (ii_1 _) (Nat.le_of_ble_eq_true rfl) rfl (ls2 := [.ref 53, .int a1, .int s.1, .int (s.2 + 1)]) rfl ?_
      refine st_goto g dX8_owes_65 (tgt := 15) (by decide) ?_
      obtain rfl := Option.some.inj H
      exact K
def f_X8_owes (a1 : Int32) (h : Hp) : Option Int32 :=
  (f_X8_isOne a1 h).bind fun r1 =>
  if r1 = 0 then
    some (-2000000000)
  else
    (iter (b_X8_owes_15 a1 h) FU (0, 0)).bind fun a12 =>
    some a12.1
theorem t_X8_owes {x : Cx} (g : Gx x RX8 cX8_owes 4 3) (a1 : Int32) (h : Hp) (out : Int32) (H : f_X8_owes a1 h = some out) (K : RtI x .int out h) : WA x 0 [.ref 53, .int a1, .null, .null] [] h := by
  unfold f_X8_owes at H
  refine st_aload_n g dX8_owes_0 rfl ?_
  refine st_iload_n g dX8_owes_1 rfl ?_
  obtain ⟨r1, hr1, H⟩ := bind_some H
  refine st_callVI g (as := [.int a1]) dX8_owes_2 rfl rfl ml_X8_124 mf_X8_isOne rfl (Nat.le_of_ble_eq_true rfl) (Nat.le_of_ble_eq_true rfl) (c_X8_isOne a1 h _ hr1) (fun hz => ?_)
  have br1 := hz rfl
  refine st_if_ne g dX8_owes_5 (tgt := 11) (by decide) H (fun q2 H => ?_) (fun q2 H => ?_)
  · refine st_iconst g dX8_owes_11 ic_0 ?_
    refine st_istore_n g dX8_owes_12 (Nat.le_of_ble_eq_true rfl) rfl (ls2 := [.ref 53, .int a1, .int 0, .null]) rfl ?_
    refine st_iconst g dX8_owes_13 ic_0 ?_
    refine st_istore_n g dX8_owes_14 (Nat.le_of_ble_eq_true rfl) rfl (ls2 := [.ref 53, .int a1, .int 0, .int 0]) rfl ?_
    show P_X8_owes_15 x a1 h (0, 0)
    obtain ⟨a12, ha12, H⟩ := bind_some H
    refine iter_W (P := P_X8_owes_15 x a1 h) (E := E_X8_owes_15 x a1 h) (fun s9 o9 ho9 hK9 => tb_X8_owes_15 g a1 h s9 o9 ho9 hK9) FU _ a12 ha12 ?_
    show WA x 68 [.null, .null, .int a12.1, .null] [] h
    refine st_iload_n g dX8_owes_68 rfl ?_
    obtain rfl := Option.some.inj H
    exact st_iret g dX8_owes_69 rfl (fun q => by cases q) K
  · refine st_ldc g dX8_owes_8 kc_X8_156 ?_
    obtain rfl := Option.some.inj H
    exact st_iret g dX8_owes_10 rfl (fun q => by cases q) K
theorem c_X8_owes (a1 : Int32) (h : Hp) (r : Int32) (H : f_X8_owes a1 h = some r) : CtI yX8_owes cX8_owes 4 .int 3 [.ref 53, .int a1] h r h :=
  ct_ofI (own := RX8) [.ref 53, .int a1, .null, .null] (by decide +kernel) rfl (fun ρ => Nat.le_of_ble_eq_true rfl) (fun ρ => rfl) (fun x g K => t_X8_owes g a1 h r H K)
def P_X8_post_22 (x : Cx) (a1 : Int32) (a2 : Int32) (h : Hp) (s : Int32) : Prop := WA x 22 [.ref 53, .int a1, .int a2, .int s] [] h
def E_X8_post_22 (x : Cx) (a1 : Int32) (a2 : Int32) (h : Hp) : Int32 ⊕ Int32 → Prop := Sum.elim (fun s : Int32 => WA x 51 [.null, .null, .null, .null] [] h) (fun r : Int32 => RtI x .int r h)
def b_X8_post_22 (a1 : Int32) (a2 : Int32) (h : Hp) (s : Int32) : Option (Int32 ⊕ (Int32 ⊕ Int32)) :=
  if 12 ≤ s then
    some (.inr (.inl s))
  else
    (rdI h 54 ((a1 + s) % 12)).bind fun v6 =>
    if v6 = a2 then
      some (.inr (.inr s))
    else
      some (.inl (s + 1))
theorem tb_X8_post_22 {x : Cx} (g : Gx x RX8 cX8_post 4 3) (a1 : Int32) (a2 : Int32) (h : Hp) (s : Int32) (out : Int32 ⊕ (Int32 ⊕ Int32)) (H : b_X8_post_22 a1 a2 h s = some out) (K : Sum.elim (P_X8_post_22 x a1 a2 h) (E_X8_post_22 x a1 a2 h) out) : P_X8_post_22 x a1 a2 h s := by
  unfold b_X8_post_22 at H
  show WA x 22 [.ref 53, .int a1, .int a2, .int s] [] h
  refine st_iload_n g dX8_post_22 rfl ?_
  refine st_bipush g dX8_post_23 bi_12 ?_
  refine st_ic_ge g dX8_post_25 (tgt := 51) (by decide) H (fun q5 H => ?_) (fun q5 H => ?_)
  · obtain rfl := Option.some.inj H
    exact (wa_drop [0, 1, 2, 3] K)
  · refine st_aload_n g dX8_post_28 rfl ?_
    refine gf_X8_9 g dX8_post_29 rfl (r := 54) rfl ?_
    refine st_iload_n g dX8_post_32 rfl ?_
    refine st_iload_n g dX8_post_33 rfl ?_
    refine st_iadd g dX8_post_34 ?_
    refine st_bipush g dX8_post_35 bi_12 ?_
    refine st_irem g dX8_post_37 (by decide) ?_
    refine st_iald g dX8_post_38 H (fun v6 H => ?_)
    refine st_iload_n g dX8_post_39 rfl ?_
    refine st_ic_ne g dX8_post_40 (tgt := 45) (by decide) H (fun q7 H => ?_) (fun q7 H => ?_)
    · refine st_iinc g dX8_post_45 rfl (ii_1 _) (Nat.le_of_ble_eq_true rfl) rfl (ls2 := [.ref 53, .int a1, .int a2, .int (s + 1)]) rfl ?_
      refine st_goto g dX8_post_48 (tgt := 22) (by decide) ?_
      obtain rfl := Option.some.inj H
      exact K
    · refine st_iload_n g dX8_post_43 rfl ?_
      obtain rfl := Option.some.inj H
      exact st_iret g dX8_post_44 rfl (fun q => by cases q) K
def f_X8_post (a1 : Int32) (a2 : Int32) (h : Hp) : Option Int32 :=
  (f_X8_isHouse a1).bind fun r1 =>
  if r1 = 0 then
    some (-1)
  else
    (f_X8_within a2 0 999).bind fun r3 =>
    if r3 = 0 then
      some (-1)
    else
      (iter (b_X8_post_22 a1 a2 h) FU 0).bind (Sum.elim (fun a8 =>
        some (-2)) (fun r => some r))
theorem t_X8_post {x : Cx} (g : Gx x RX8 cX8_post 4 3) (a1 : Int32) (a2 : Int32) (h : Hp) (out : Int32) (H : f_X8_post a1 a2 h = some out) (K : RtI x .int out h) : WA x 0 [.ref 53, .int a1, .int a2, .null] [] h := by
  unfold f_X8_post at H
  refine st_iload_n g dX8_post_0 rfl ?_
  obtain ⟨r1, hr1, H⟩ := bind_some H
  refine st_callSI g (as := [.int a1]) dX8_post_1 ml_X8_120 mf_X8_isHouse rfl (Nat.le_of_ble_eq_true rfl) (Nat.le_of_ble_eq_true rfl) (c_X8_isHouse a1 h _ hr1) (fun hz => ?_)
  have br1 := hz rfl
  refine st_if_eq g dX8_post_4 (tgt := 18) (by decide) H (fun q2 H => ?_) (fun q2 H => ?_)
  · refine st_iconst g dX8_post_18 ic_m1 ?_
    obtain rfl := Option.some.inj H
    exact st_iret g dX8_post_19 rfl (fun q => by cases q) K
  · refine st_iload_n g dX8_post_7 rfl ?_
    refine st_iconst g dX8_post_8 ic_0 ?_
    refine st_sipush g dX8_post_9 si_999 ?_
    obtain ⟨r3, hr3, H⟩ := bind_some H
    refine st_callSI g (as := [.int a2, .int 0, .int 999]) dX8_post_12 ml_X8_109 mf_X8_within rfl (Nat.le_of_ble_eq_true rfl) (Nat.le_of_ble_eq_true rfl) (c_X8_within a2 0 999 h _ hr3) (fun hz => ?_)
    have br3 := hz rfl
    refine st_if_ne g dX8_post_15 (tgt := 20) (by decide) H (fun q4 H => ?_) (fun q4 H => ?_)
    · refine st_iconst g dX8_post_20 ic_0 ?_
      refine st_istore_n g dX8_post_21 (Nat.le_of_ble_eq_true rfl) rfl (ls2 := [.ref 53, .int a1, .int a2, .int 0]) rfl ?_
      show P_X8_post_22 x a1 a2 h 0
      obtain ⟨a8o, ha8, hca8⟩ := it_R H
      refine iter_W (P := P_X8_post_22 x a1 a2 h) (E := E_X8_post_22 x a1 a2 h) (fun s9 o9 ho9 hK9 => tb_X8_post_22 g a1 a2 h s9 o9 ho9 hK9) FU _ a8o ha8 ?_
      rcases hca8 with ⟨a8, rfl, H⟩ | ⟨r, rfl, H⟩
      · show WA x 51 [.null, .null, .null, .null] [] h
        refine st_bipush g dX8_post_51 bi_m2 ?_
        obtain rfl := Option.some.inj H
        exact st_iret g dX8_post_53 rfl (fun q => by cases q) K
      · obtain rfl := Option.some.inj H
        exact K
    · refine st_iconst g dX8_post_18 ic_m1 ?_
      obtain rfl := Option.some.inj H
      exact st_iret g dX8_post_19 rfl (fun q => by cases q) K
theorem c_X8_post (a1 : Int32) (a2 : Int32) (h : Hp) (r : Int32) (H : f_X8_post a1 a2 h = some r) : CtI yX8_post cX8_post 4 .int 3 [.ref 53, .int a1, .int a2] h r h :=
  ct_ofI (own := RX8) [.ref 53, .int a1, .int a2, .null] (by decide +kernel) rfl (fun ρ => Nat.le_of_ble_eq_true rfl) (fun ρ => rfl) (fun x g K => t_X8_post g a1 a2 h r H K)
def f_X8_nearest (a1 : Int32) (h : Hp) : Option Int32 :=
  (f_X8_within a1 0 999).bind fun r1 =>
  if r1 = 0 then
    some (-1)
  else
    (f_X8_nearestTo a1 0 h).bind fun r3 =>
    some r3
theorem t_X8_nearest {x : Cx} (g : Gx x RX8 cX8_nearest 2 3) (a1 : Int32) (h : Hp) (out : Int32) (H : f_X8_nearest a1 h = some out) (K : RtI x .int out h) : WA x 0 [.ref 53, .int a1] [] h := by
  unfold f_X8_nearest at H
  refine st_iload_n g dX8_nearest_0 rfl ?_
  refine st_iconst g dX8_nearest_1 ic_0 ?_
  refine st_sipush g dX8_nearest_2 si_999 ?_
  obtain ⟨r1, hr1, H⟩ := bind_some H
  refine st_callSI g (as := [.int a1, .int 0, .int 999]) dX8_nearest_5 ml_X8_109 mf_X8_within rfl (Nat.le_of_ble_eq_true rfl) (Nat.le_of_ble_eq_true rfl) (c_X8_within a1 0 999 h _ hr1) (fun hz => ?_)
  have br1 := hz rfl
  refine st_if_eq g dX8_nearest_8 (tgt := 20) (by decide) H (fun q2 H => ?_) (fun q2 H => ?_)
  · refine st_iconst g dX8_nearest_20 ic_m1 ?_
    obtain rfl := Option.some.inj H
    exact st_iret g dX8_nearest_21 rfl (fun q => by cases q) K
  · refine st_aload_n g dX8_nearest_11 rfl ?_
    refine st_iload_n g dX8_nearest_12 rfl ?_
    refine st_iconst g dX8_nearest_13 ic_0 ?_
    obtain ⟨r3, hr3, H⟩ := bind_some H
    refine st_callVI g (as := [.int a1, .int 0]) dX8_nearest_14 rfl rfl ml_X8_305 mf_X8_nearestTo rfl (Nat.le_of_ble_eq_true rfl) (Nat.le_of_ble_eq_true rfl) (c_X8_nearestTo a1 0 h _ hr3) (fun hz => ?_)
    refine st_goto g dX8_nearest_17 (tgt := 21) (by decide) ?_
    obtain rfl := Option.some.inj H
    exact st_iret g dX8_nearest_21 rfl (fun q => by cases q) K
theorem c_X8_nearest (a1 : Int32) (h : Hp) (r : Int32) (H : f_X8_nearest a1 h = some r) : CtI yX8_nearest cX8_nearest 2 .int 3 [.ref 53, .int a1] h r h :=
  ct_ofI (own := RX8) [.ref 53, .int a1] (by decide +kernel) rfl (fun ρ => Nat.le_of_ble_eq_true rfl) (fun ρ => rfl) (fun x g K => t_X8_nearest g a1 h r H K)
def P_X8_chosen_14 (x : Cx) (a1 : Int32) (s : (Int32 × Int32 × Hp)) : Prop := WA x 14 [.ref 53, .int a1, .int s.1, .int s.2.1] [] s.2.2
def E_X8_chosen_14 (x : Cx) (a1 : Int32) : (Int32 × Int32 × Hp) → Prop := fun s : (Int32 × Int32 × Hp) => WA x 59 [.ref 53, .int a1, .null, .null] [] s.2.2
def b_X8_chosen_14 (a1 : Int32) (s : (Int32 × Int32 × Hp)) : Option ((Int32 × Int32 × Hp) ⊕ (Int32 × Int32 × Hp)) :=
  if (s.2.2.1 53 1) ≤ s.2.1 then
    some (.inr (s.1, s.2.1, s.2.2))
  else
    (rdI s.2.2 56 s.2.1).bind fun v4 =>
    (f_X8_nearestTo (9 * v4) s.1 s.2.2).bind fun r5 =>
    (wrI s.2.2 85 s.2.1 r5).bind fun h6 =>
    (rdI h6 85 s.2.1).bind fun v7 =>
    some (.inl (s.1 ||| ((1 : Int32) <<< (v7 &&& 31)), s.2.1 + 1, h6))
theorem tb_X8_chosen_14 {x : Cx} (g : Gx x RX8 cX8_chosen 4 3) (a1 : Int32) (s : (Int32 × Int32 × Hp)) (out : (Int32 × Int32 × Hp) ⊕ (Int32 × Int32 × Hp)) (H : b_X8_chosen_14 a1 s = some out) (K : Sum.elim (P_X8_chosen_14 x a1) (E_X8_chosen_14 x a1) out) : P_X8_chosen_14 x a1 s := by
  unfold b_X8_chosen_14 at H
  show WA x 14 [.ref 53, .int a1, .int s.1, .int s.2.1] [] s.2.2
  refine st_iload_n g dX8_chosen_14 rfl ?_
  refine st_aload_n g dX8_chosen_15 rfl ?_
  refine gf_X8_113 g dX8_chosen_16 rfl ?_
  refine st_ic_ge g dX8_chosen_19 (tgt := 59) (by decide) H (fun q3 H => ?_) (fun q3 H => ?_)
  · obtain rfl := Option.some.inj H
    exact (wa_drop [2, 3] K)
  · refine st_aload_n g dX8_chosen_22 rfl ?_
    refine gf_X8_106 g dX8_chosen_23 rfl (r := 85) rfl ?_
    refine st_iload_n g dX8_chosen_26 rfl ?_
    refine st_aload_n g dX8_chosen_27 rfl ?_
    refine st_bipush g dX8_chosen_28 bi_9 ?_
    refine st_aload_n g dX8_chosen_30 rfl ?_
    refine gf_X8_18 g dX8_chosen_31 rfl (r := 56) rfl ?_
    refine st_iload_n g dX8_chosen_34 rfl ?_
    refine st_iald g dX8_chosen_35 H (fun v4 H => ?_)
    refine st_imul g dX8_chosen_36 ?_
    refine st_iload_n g dX8_chosen_37 rfl ?_
    obtain ⟨r5, hr5, H⟩ := bind_some H
    refine st_callVI g (as := [.int (9 * v4), .int s.1]) dX8_chosen_38 rfl rfl ml_X8_305 mf_X8_nearestTo rfl (Nat.le_of_ble_eq_true rfl) (Nat.le_of_ble_eq_true rfl) (c_X8_nearestTo (9 * v4) s.1 s.2.2 _ hr5) (fun hz => ?_)
    refine st_iast g dX8_chosen_41 H (fun h6 H => ?_)
    refine st_iload_n g dX8_chosen_42 rfl ?_
    refine st_iconst g dX8_chosen_43 ic_1 ?_
    refine st_aload_n g dX8_chosen_44 rfl ?_
    refine gf_X8_106 g dX8_chosen_45 rfl (r := 85) rfl ?_
    refine st_iload_n g dX8_chosen_48 rfl ?_
    refine st_iald g dX8_chosen_49 H (fun v7 H => ?_)
    refine st_ishl g dX8_chosen_50 ?_
    refine st_ior g dX8_chosen_51 ?_
    refine st_istore_n g dX8_chosen_52 (Nat.le_of_ble_eq_true rfl) rfl (ls2 := [.ref 53, .int a1, .int (s.1 ||| ((1 : Int32) <<< (v7 &&& 31))), .int s.2.1]) rfl ?_
    refine st_iinc g dX8_chosen_53 rfl (ii_1 _) (Nat.le_of_ble_eq_true rfl) rfl (ls2 := [.ref 53, .int a1, .int (s.1 ||| ((1 : Int32) <<< (v7 &&& 31))), .int (s.2.1 + 1)]) rfl ?_
    refine st_goto g dX8_chosen_56 (tgt := 14) (by decide) ?_
    obtain rfl := Option.some.inj H
    exact K
def f_X8_chosen (a1 : Int32) (h : Hp) : Option (Int32 × Hp) :=
  (f_X8_isOne a1 h).bind fun r1 =>
  if r1 = 0 then
    some ((-1), h)
  else
    (iter (b_X8_chosen_14 a1) FU (0, 0, h)).bind fun a8 =>
    (rdI a8.2.2 85 a1).bind fun v9 =>
    some (v9, a8.2.2)
theorem t_X8_chosen {x : Cx} (g : Gx x RX8 cX8_chosen 4 3) (a1 : Int32) (h : Hp) (out : (Int32 × Hp)) (H : f_X8_chosen a1 h = some out) (K : RtI x .int out.1 out.2) : WA x 0 [.ref 53, .int a1, .null, .null] [] h := by
  unfold f_X8_chosen at H
  refine st_aload_n g dX8_chosen_0 rfl ?_
  refine st_iload_n g dX8_chosen_1 rfl ?_
  obtain ⟨r1, hr1, H⟩ := bind_some H
  refine st_callVI g (as := [.int a1]) dX8_chosen_2 rfl rfl ml_X8_124 mf_X8_isOne rfl (Nat.le_of_ble_eq_true rfl) (Nat.le_of_ble_eq_true rfl) (c_X8_isOne a1 h _ hr1) (fun hz => ?_)
  have br1 := hz rfl
  refine st_if_ne g dX8_chosen_5 (tgt := 10) (by decide) H (fun q2 H => ?_) (fun q2 H => ?_)
  · refine st_iconst g dX8_chosen_10 ic_0 ?_
    refine st_istore_n g dX8_chosen_11 (Nat.le_of_ble_eq_true rfl) rfl (ls2 := [.ref 53, .int a1, .int 0, .null]) rfl ?_
    refine st_iconst g dX8_chosen_12 ic_0 ?_
    refine st_istore_n g dX8_chosen_13 (Nat.le_of_ble_eq_true rfl) rfl (ls2 := [.ref 53, .int a1, .int 0, .int 0]) rfl ?_
    show P_X8_chosen_14 x a1 (0, 0, h)
    obtain ⟨a8, ha8, H⟩ := bind_some H
    refine iter_W (P := P_X8_chosen_14 x a1) (E := E_X8_chosen_14 x a1) (fun s9 o9 ho9 hK9 => tb_X8_chosen_14 g a1 s9 o9 ho9 hK9) FU _ a8 ha8 ?_
    show WA x 59 [.ref 53, .int a1, .null, .null] [] a8.2.2
    refine st_aload_n g dX8_chosen_59 rfl ?_
    refine gf_X8_106 g dX8_chosen_60 rfl (r := 85) rfl ?_
    refine st_iload_n g dX8_chosen_63 rfl ?_
    refine st_iald g dX8_chosen_64 H (fun v9 H => ?_)
    obtain rfl := Option.some.inj H
    exact st_iret g dX8_chosen_65 rfl (fun q => by cases q) K
  · refine st_iconst g dX8_chosen_8 ic_m1 ?_
    obtain rfl := Option.some.inj H
    exact st_iret g dX8_chosen_9 rfl (fun q => by cases q) K
theorem c_X8_chosen (a1 : Int32) (h : Hp) (r : (Int32 × Hp)) (H : f_X8_chosen a1 h = some r) : CtI yX8_chosen cX8_chosen 4 .int 3 [.ref 53, .int a1] h r.1 r.2 :=
  ct_ofI (own := RX8) [.ref 53, .int a1, .null, .null] (by decide +kernel) rfl (fun ρ => Nat.le_of_ble_eq_true rfl) (fun ρ => rfl) (fun x g K => t_X8_chosen g a1 h r H K)
def f_X8_noRows (a1 : Int32) (h : Hp) : Option Int32 :=
  if a1 < 0 then
    some (-1)
  else
    (f_X8_isShelf (a1 / 10)).bind fun r2 =>
    if r2 = 0 then
      some (-1)
    else
      (f_X8_isShelf (a1 % 10)).bind fun r4 =>
      if r4 = 0 then
        some (-1)
      else
        (f_X8_noCalls (a1 / 10) h).bind fun r6 =>
        if 0 ≤ r6 then
          (f_X8_noCalls (a1 % 10) h).bind fun r8 =>
          some r8
        else
          some r6
theorem t_X8_noRows {x : Cx} (g : Gx x RX8 cX8_noRows 3 3) (a1 : Int32) (h : Hp) (out : Int32) (H : f_X8_noRows a1 h = some out) (K : RtI x .int out h) : WA x 0 [.ref 53, .int a1, .null] [] h := by
  unfold f_X8_noRows at H
  refine st_iload_n g dX8_noRows_0 rfl ?_
  refine st_if_lt g dX8_noRows_1 (tgt := 24) (by decide) H (fun q1 H => ?_) (fun q1 H => ?_)
  · refine st_iconst g dX8_noRows_24 ic_m1 ?_
    obtain rfl := Option.some.inj H
    exact st_iret g dX8_noRows_25 rfl (fun q => by cases q) K
  · refine st_iload_n g dX8_noRows_4 rfl ?_
    refine st_bipush g dX8_noRows_5 bi_10 ?_
    refine st_idiv g dX8_noRows_7 (by decide) ?_
    obtain ⟨r2, hr2, H⟩ := bind_some H
    refine st_callSI g (as := [.int (a1 / 10)]) dX8_noRows_8 ml_X8_137 mf_X8_isShelf rfl (Nat.le_of_ble_eq_true rfl) (Nat.le_of_ble_eq_true rfl) (c_X8_isShelf (a1 / 10) h _ hr2) (fun hz => ?_)
    have br2 := hz rfl
    refine st_if_eq g dX8_noRows_11 (tgt := 24) (by decide) H (fun q3 H => ?_) (fun q3 H => ?_)
    · refine st_iconst g dX8_noRows_24 ic_m1 ?_
      obtain rfl := Option.some.inj H
      exact st_iret g dX8_noRows_25 rfl (fun q => by cases q) K
    · refine st_iload_n g dX8_noRows_14 rfl ?_
      refine st_bipush g dX8_noRows_15 bi_10 ?_
      refine st_irem g dX8_noRows_17 (by decide) ?_
      obtain ⟨r4, hr4, H⟩ := bind_some H
      refine st_callSI g (as := [.int (a1 % 10)]) dX8_noRows_18 ml_X8_137 mf_X8_isShelf rfl (Nat.le_of_ble_eq_true rfl) (Nat.le_of_ble_eq_true rfl) (c_X8_isShelf (a1 % 10) h _ hr4) (fun hz => ?_)
      have br4 := hz rfl
      refine st_if_ne g dX8_noRows_21 (tgt := 26) (by decide) H (fun q5 H => ?_) (fun q5 H => ?_)
      · refine st_aload_n g dX8_noRows_26 rfl ?_
        refine st_iload_n g dX8_noRows_27 rfl ?_
        refine st_bipush g dX8_noRows_28 bi_10 ?_
        refine st_idiv g dX8_noRows_30 (by decide) ?_
        obtain ⟨r6, hr6, H⟩ := bind_some H
        refine st_callVI g (as := [.int (a1 / 10)]) dX8_noRows_31 rfl rfl ml_X8_263 mf_X8_noCalls rfl (Nat.le_of_ble_eq_true rfl) (Nat.le_of_ble_eq_true rfl) (c_X8_noCalls (a1 / 10) h _ hr6) (fun hz => ?_)
        refine st_istore_n g dX8_noRows_34 (Nat.le_of_ble_eq_true rfl) rfl (ls2 := [.ref 53, .int a1, .int r6]) rfl ?_
        refine st_iload_n g dX8_noRows_35 rfl ?_
        refine st_if_ge g dX8_noRows_36 (tgt := 43) (by decide) H (fun q7 H => ?_) (fun q7 H => ?_)
        · refine st_aload_n g dX8_noRows_43 rfl ?_
          refine st_iload_n g dX8_noRows_44 rfl ?_
          refine st_bipush g dX8_noRows_45 bi_10 ?_
          refine st_irem g dX8_noRows_47 (by decide) ?_
          obtain ⟨r8, hr8, H⟩ := bind_some H
          refine st_callVI g (as := [.int (a1 % 10)]) dX8_noRows_48 rfl rfl ml_X8_263 mf_X8_noCalls rfl (Nat.le_of_ble_eq_true rfl) (Nat.le_of_ble_eq_true rfl) (c_X8_noCalls (a1 % 10) h _ hr8) (fun hz => ?_)
          obtain rfl := Option.some.inj H
          exact st_iret g dX8_noRows_51 rfl (fun q => by cases q) K
        · refine st_iload_n g dX8_noRows_39 rfl ?_
          refine st_goto g dX8_noRows_40 (tgt := 51) (by decide) ?_
          obtain rfl := Option.some.inj H
          exact st_iret g dX8_noRows_51 rfl (fun q => by cases q) K
      · refine st_iconst g dX8_noRows_24 ic_m1 ?_
        obtain rfl := Option.some.inj H
        exact st_iret g dX8_noRows_25 rfl (fun q => by cases q) K
theorem c_X8_noRows (a1 : Int32) (h : Hp) (r : Int32) (H : f_X8_noRows a1 h = some r) : CtI yX8_noRows cX8_noRows 3 .int 3 [.ref 53, .int a1] h r h :=
  ct_ofI (own := RX8) [.ref 53, .int a1, .null] (by decide +kernel) rfl (fun ρ => Nat.le_of_ble_eq_true rfl) (fun ρ => rfl) (fun x g K => t_X8_noRows g a1 h r H K)
def f_X8_again (a1 : Int32) (h : Hp) : Option (Int32 × Hp) :=
  (f_X8_isWrong a1 h).bind fun r1 =>
  if r1 = 0 then
    some ((-1), h)
  else
    (rdI h 61 a1).bind fun v3 =>
    if v3 = 0 then
      some ((-5), h)
    else
      (rdI h 60 a1).bind fun v5 =>
      (wrI h 61 a1 0).bind fun h6 =>
      (wrI h6 60 a1 (h6.1 53 10)).bind fun h7 =>
      (rdI h7 73 3).bind fun v8 =>
      (wrI h7 73 3 (v8 + 1)).bind fun h9 =>
      some (v5, h9)
theorem t_X8_again {x : Cx} (g : Gx x RX8 cX8_again 3 3) (a1 : Int32) (h : Hp) (out : (Int32 × Hp)) (H : f_X8_again a1 h = some out) (K : RtI x .int out.1 out.2) : WA x 0 [.ref 53, .int a1, .null] [] h := by
  unfold f_X8_again at H
  refine st_aload_n g dX8_again_0 rfl ?_
  refine st_iload_n g dX8_again_1 rfl ?_
  obtain ⟨r1, hr1, H⟩ := bind_some H
  refine st_callVI g (as := [.int a1]) dX8_again_2 rfl rfl ml_X8_146 mf_X8_isWrong rfl (Nat.le_of_ble_eq_true rfl) (Nat.le_of_ble_eq_true rfl) (c_X8_isWrong a1 h _ hr1) (fun hz => ?_)
  have br1 := hz rfl
  refine st_if_ne g dX8_again_5 (tgt := 10) (by decide) H (fun q2 H => ?_) (fun q2 H => ?_)
  · refine st_aload_n g dX8_again_10 rfl ?_
    refine gf_X8_33 g dX8_again_11 rfl (r := 61) rfl ?_
    refine st_iload_n g dX8_again_14 rfl ?_
    refine st_iald g dX8_again_15 H (fun v3 H => ?_)
    refine st_if_ne g dX8_again_16 (tgt := 22) (by decide) H (fun q4 H => ?_) (fun q4 H => ?_)
    · refine st_aload_n g dX8_again_22 rfl ?_
      refine gf_X8_30 g dX8_again_23 rfl (r := 60) rfl ?_
      refine st_iload_n g dX8_again_26 rfl ?_
      refine st_iald g dX8_again_27 H (fun v5 H => ?_)
      refine st_istore_n g dX8_again_28 (Nat.le_of_ble_eq_true rfl) rfl (ls2 := [.ref 53, .int a1, .int v5]) rfl ?_
      refine st_aload_n g dX8_again_29 rfl ?_
      refine gf_X8_33 g dX8_again_30 rfl (r := 61) rfl ?_
      refine st_iload_n g dX8_again_33 rfl ?_
      refine st_iconst g dX8_again_34 ic_0 ?_
      refine st_iast g dX8_again_35 H (fun h6 H => ?_)
      refine st_aload_n g dX8_again_36 rfl ?_
      refine gf_X8_30 g dX8_again_37 rfl (r := 60) rfl ?_
      refine st_iload_n g dX8_again_40 rfl ?_
      refine st_aload_n g dX8_again_41 rfl ?_
      refine gf_X8_127 g dX8_again_42 rfl ?_
      refine st_iast g dX8_again_45 H (fun h7 H => ?_)
      refine st_aload_n g dX8_again_46 rfl ?_
      refine gf_X8_69 g dX8_again_47 rfl (r := 73) rfl ?_
      refine st_iconst g dX8_again_50 ic_3 ?_
      refine st_dup2 g dX8_again_51 rfl rfl ?_
      refine st_iald g dX8_again_52 H (fun v8 H => ?_)
      refine st_iconst g dX8_again_53 ic_1 ?_
      refine st_iadd g dX8_again_54 ?_
      refine st_iast g dX8_again_55 H (fun h9 H => ?_)
      refine st_iload_n g dX8_again_56 rfl ?_
      obtain rfl := Option.some.inj H
      exact st_iret g dX8_again_57 rfl (fun q => by cases q) K
    · refine st_bipush g dX8_again_19 bi_m5 ?_
      obtain rfl := Option.some.inj H
      exact st_iret g dX8_again_21 rfl (fun q => by cases q) K
  · refine st_iconst g dX8_again_8 ic_m1 ?_
    obtain rfl := Option.some.inj H
    exact st_iret g dX8_again_9 rfl (fun q => by cases q) K
theorem c_X8_again (a1 : Int32) (h : Hp) (r : (Int32 × Hp)) (H : f_X8_again a1 h = some r) : CtI yX8_again cX8_again 3 .int 3 [.ref 53, .int a1] h r.1 r.2 :=
  ct_ofI (own := RX8) [.ref 53, .int a1, .null] (by decide +kernel) rfl (fun ρ => Nat.le_of_ble_eq_true rfl) (fun ρ => rfl) (fun x g K => t_X8_again g a1 h r H K)
def f_X8_slam (a1 : Int32) (h : Hp) : Option (Int32 × Hp) :=
  (f_X8_isHouse a1).bind fun r1 =>
  if r1 = 0 then
    some ((-1), h)
  else
    (rdI h 54 a1).bind fun v3 =>
    (wrI h 54 a1 (mxI 0 (v3 - 1))).bind fun h4 =>
    (rdI h4 73 5).bind fun v5 =>
    (wrI h4 73 5 (v5 + 1)).bind fun h6 =>
    (rdI h6 54 a1).bind fun v7 =>
    some (v7, h6)
theorem t_X8_slam {x : Cx} (g : Gx x RX8 cX8_slam 2 3) (a1 : Int32) (h : Hp) (out : (Int32 × Hp)) (H : f_X8_slam a1 h = some out) (K : RtI x .int out.1 out.2) : WA x 0 [.ref 53, .int a1] [] h := by
  unfold f_X8_slam at H
  refine st_iload_n g dX8_slam_0 rfl ?_
  obtain ⟨r1, hr1, H⟩ := bind_some H
  refine st_callSI g (as := [.int a1]) dX8_slam_1 ml_X8_120 mf_X8_isHouse rfl (Nat.le_of_ble_eq_true rfl) (Nat.le_of_ble_eq_true rfl) (c_X8_isHouse a1 h _ hr1) (fun hz => ?_)
  have br1 := hz rfl
  refine st_if_ne g dX8_slam_4 (tgt := 9) (by decide) H (fun q2 H => ?_) (fun q2 H => ?_)
  · refine st_aload_n g dX8_slam_9 rfl ?_
    refine gf_X8_9 g dX8_slam_10 rfl (r := 54) rfl ?_
    refine st_iload_n g dX8_slam_13 rfl ?_
    refine st_iconst g dX8_slam_14 ic_0 ?_
    refine st_aload_n g dX8_slam_15 rfl ?_
    refine gf_X8_9 g dX8_slam_16 rfl (r := 54) rfl ?_
    refine st_iload_n g dX8_slam_19 rfl ?_
    refine st_iald g dX8_slam_20 H (fun v3 H => ?_)
    refine st_iconst g dX8_slam_21 ic_1 ?_
    refine st_isub g dX8_slam_22 ?_
    refine st_max g dX8_slam_23 ml_X8_234 (Nat.le_of_ble_eq_true rfl) (Nat.le_of_ble_eq_true rfl) ?_
    refine st_iast g dX8_slam_26 H (fun h4 H => ?_)
    refine st_aload_n g dX8_slam_27 rfl ?_
    refine gf_X8_69 g dX8_slam_28 rfl (r := 73) rfl ?_
    refine st_iconst g dX8_slam_31 ic_5 ?_
    refine st_dup2 g dX8_slam_32 rfl rfl ?_
    refine st_iald g dX8_slam_33 H (fun v5 H => ?_)
    refine st_iconst g dX8_slam_34 ic_1 ?_
    refine st_iadd g dX8_slam_35 ?_
    refine st_iast g dX8_slam_36 H (fun h6 H => ?_)
    refine st_aload_n g dX8_slam_37 rfl ?_
    refine gf_X8_9 g dX8_slam_38 rfl (r := 54) rfl ?_
    refine st_iload_n g dX8_slam_41 rfl ?_
    refine st_iald g dX8_slam_42 H (fun v7 H => ?_)
    obtain rfl := Option.some.inj H
    exact st_iret g dX8_slam_43 rfl (fun q => by cases q) K
  · refine st_iconst g dX8_slam_7 ic_m1 ?_
    obtain rfl := Option.some.inj H
    exact st_iret g dX8_slam_8 rfl (fun q => by cases q) K
theorem c_X8_slam (a1 : Int32) (h : Hp) (r : (Int32 × Hp)) (H : f_X8_slam a1 h = some r) : CtI yX8_slam cX8_slam 2 .int 3 [.ref 53, .int a1] h r.1 r.2 :=
  ct_ofI (own := RX8) [.ref 53, .int a1] (by decide +kernel) rfl (fun ρ => Nat.le_of_ble_eq_true rfl) (fun ρ => rfl) (fun x g K => t_X8_slam g a1 h r H K)
def f_X8_keep (a1 : Int32) (a2 : Int32) (h : Hp) : Option (Int32 × Hp) :=
  (f_X8_isShelf a1).bind fun r1 =>
  if r1 = 0 then
    some ((-1), h)
  else
    (f_X8_within a2 (-1) ((h.1 53 37) - 1)).bind fun r3 =>
    if r3 = 0 then
      some ((-1), h)
    else
      if 0 ≤ a2 then
        (wrI h 79 a1 (10 + a2)).bind fun h6 =>
        (wrI h6 80 a1 0).bind fun h7 =>
        some (1, h7)
      else
        (wrI h 79 a1 (-1)).bind fun h8 =>
        (wrI h8 80 a1 0).bind fun h9 =>
        some (1, h9)
theorem t_X8_keep {x : Cx} (g : Gx x RX8 cX8_keep 3 3) (a1 : Int32) (a2 : Int32) (h : Hp) (out : (Int32 × Hp)) (H : f_X8_keep a1 a2 h = some out) (K : RtI x .int out.1 out.2) : WA x 0 [.ref 53, .int a1, .int a2] [] h := by
  unfold f_X8_keep at H
  refine st_iload_n g dX8_keep_0 rfl ?_
  obtain ⟨r1, hr1, H⟩ := bind_some H
  refine st_callSI g (as := [.int a1]) dX8_keep_1 ml_X8_137 mf_X8_isShelf rfl (Nat.le_of_ble_eq_true rfl) (Nat.le_of_ble_eq_true rfl) (c_X8_isShelf a1 h _ hr1) (fun hz => ?_)
  have br1 := hz rfl
  refine st_if_eq g dX8_keep_4 (tgt := 21) (by decide) H (fun q2 H => ?_) (fun q2 H => ?_)
  · refine st_iconst g dX8_keep_21 ic_m1 ?_
    obtain rfl := Option.some.inj H
    exact st_iret g dX8_keep_22 rfl (fun q => by cases q) K
  · refine st_iload_n g dX8_keep_7 rfl ?_
    refine st_iconst g dX8_keep_8 ic_m1 ?_
    refine st_aload_n g dX8_keep_9 rfl ?_
    refine gf_X8_349 g dX8_keep_10 rfl ?_
    refine st_iconst g dX8_keep_13 ic_1 ?_
    refine st_isub g dX8_keep_14 ?_
    obtain ⟨r3, hr3, H⟩ := bind_some H
    refine st_callSI g (as := [.int a2, .int (-1), .int ((h.1 53 37) - 1)]) dX8_keep_15 ml_X8_109 mf_X8_within rfl (Nat.le_of_ble_eq_true rfl) (Nat.le_of_ble_eq_true rfl) (c_X8_within a2 (-1) ((h.1 53 37) - 1) h _ hr3) (fun hz => ?_)
    have br3 := hz rfl
    refine st_if_ne g dX8_keep_18 (tgt := 23) (by decide) H (fun q4 H => ?_) (fun q4 H => ?_)
    · refine st_aload_n g dX8_keep_23 rfl ?_
      refine gf_X8_87 g dX8_keep_24 rfl (r := 79) rfl ?_
      refine st_iload_n g dX8_keep_27 rfl ?_
      refine st_iload_n g dX8_keep_28 rfl ?_
      refine st_if_ge g dX8_keep_29 (tgt := 36) (by decide) H (fun q5 H => ?_) (fun q5 H => ?_)
      · refine st_bipush g dX8_keep_36 bi_10 ?_
        refine st_iload_n g dX8_keep_38 rfl ?_
        refine st_iadd g dX8_keep_39 ?_
        refine st_iast g dX8_keep_40 H (fun h6 H => ?_)
        refine st_aload_n g dX8_keep_41 rfl ?_
        refine gf_X8_90 g dX8_keep_42 rfl (r := 80) rfl ?_
        refine st_iload_n g dX8_keep_45 rfl ?_
        refine st_iconst g dX8_keep_46 ic_0 ?_
        refine st_iast g dX8_keep_47 H (fun h7 H => ?_)
        refine st_iconst g dX8_keep_48 ic_1 ?_
        obtain rfl := Option.some.inj H
        exact st_iret g dX8_keep_49 rfl (fun q => by cases q) K
      · refine st_iconst g dX8_keep_32 ic_m1 ?_
        refine st_goto g dX8_keep_33 (tgt := 40) (by decide) ?_
        refine st_iast g dX8_keep_40 H (fun h8 H => ?_)
        refine st_aload_n g dX8_keep_41 rfl ?_
        refine gf_X8_90 g dX8_keep_42 rfl (r := 80) rfl ?_
        refine st_iload_n g dX8_keep_45 rfl ?_
        refine st_iconst g dX8_keep_46 ic_0 ?_
        refine st_iast g dX8_keep_47 H (fun h9 H => ?_)
        refine st_iconst g dX8_keep_48 ic_1 ?_
        obtain rfl := Option.some.inj H
        exact st_iret g dX8_keep_49 rfl (fun q => by cases q) K
    · refine st_iconst g dX8_keep_21 ic_m1 ?_
      obtain rfl := Option.some.inj H
      exact st_iret g dX8_keep_22 rfl (fun q => by cases q) K
theorem c_X8_keep (a1 : Int32) (a2 : Int32) (h : Hp) (r : (Int32 × Hp)) (H : f_X8_keep a1 a2 h = some r) : CtI yX8_keep cX8_keep 3 .int 3 [.ref 53, .int a1, .int a2] h r.1 r.2 :=
  ct_ofI (own := RX8) [.ref 53, .int a1, .int a2] (by decide +kernel) rfl (fun ρ => Nat.le_of_ble_eq_true rfl) (fun ρ => rfl) (fun x g K => t_X8_keep g a1 a2 h r H K)
def P_X8_row_48 (x : Cx) (a1 : Int32) (s : (Int32 × Hp)) : Prop := WA x 48 [.ref 53, .int a1, .null, .null, .int s.1] [] s.2
def E_X8_row_48 (x : Cx) (a1 : Int32) : (Int32 × Hp) → Prop := fun s : (Int32 × Hp) => WA x 74 [.null, .null, .null, .null, .null] [] s.2
def b_X8_row_48 (a1 : Int32) (s : (Int32 × Hp)) : Option ((Int32 × Hp) ⊕ (Int32 × Hp)) :=
  if 60 ≤ s.1 then
    some (.inr (s.1, s.2))
  else
    (wrL s.2 81 ((60 * a1) + s.1) 0).bind fun h10 =>
    some (.inl (s.1 + 1, h10))
theorem tb_X8_row_48 {x : Cx} (g : Gx x RX8 cX8_row 5 3) (a1 : Int32) (s : (Int32 × Hp)) (out : (Int32 × Hp) ⊕ (Int32 × Hp)) (H : b_X8_row_48 a1 s = some out) (K : Sum.elim (P_X8_row_48 x a1) (E_X8_row_48 x a1) out) : P_X8_row_48 x a1 s := by
  unfold b_X8_row_48 at H
  show WA x 48 [.ref 53, .int a1, .null, .null, .int s.1] [] s.2
  refine st_iload g dX8_row_48 rfl ?_
  refine st_bipush g dX8_row_50 bi_60 ?_
  refine st_ic_ge g dX8_row_52 (tgt := 74) (by decide) H (fun q9 H => ?_) (fun q9 H => ?_)
  · obtain rfl := Option.some.inj H
    exact (wa_drop [0, 1, 4] K)
  · refine st_aload_n g dX8_row_55 rfl ?_
    refine gf_X8_93 g dX8_row_56 rfl (r := 81) rfl ?_
    refine st_bipush g dX8_row_59 bi_60 ?_
    refine st_iload_n g dX8_row_61 rfl ?_
    refine st_imul g dX8_row_62 ?_
    refine st_iload g dX8_row_63 rfl ?_
    refine st_iadd g dX8_row_65 ?_
    refine st_lconst g dX8_row_66 lc_0 ?_
    refine st_last g dX8_row_67 H (fun h10 H => ?_)
    refine st_iinc g dX8_row_68 rfl (ii_1 _) (Nat.le_of_ble_eq_true rfl) rfl (ls2 := [.ref 53, .int a1, .null, .null, .int (s.1 + 1)]) rfl ?_
    refine st_goto g dX8_row_71 (tgt := 48) (by decide) ?_
    obtain rfl := Option.some.inj H
    exact K
def f_X8_row (a1 : Int32) (a2 : Int32) (a3 : Int32) (h : Hp) : Option (Int32 × Hp) :=
  (f_X8_isShelf a1).bind fun r1 =>
  if r1 = 0 then
    some ((-1), h)
  else
    (f_X8_within a2 0 4).bind fun r3 =>
    if r3 = 0 then
      some ((-1), h)
    else
      if a3 ≤ 60 then
        if 0 ≤ a3 then
          (wrI h 79 a1 a2).bind fun h7 =>
          (wrI h7 80 a1 a3).bind fun h8 =>
          (iter (b_X8_row_48 a1) FU (0, h8)).bind fun a11 =>
          some (1, a11.2)
        else
          some ((-14), h)
      else
        some ((-1), h)
theorem t_X8_row {x : Cx} (g : Gx x RX8 cX8_row 5 3) (a1 : Int32) (a2 : Int32) (a3 : Int32) (h : Hp) (out : (Int32 × Hp)) (H : f_X8_row a1 a2 a3 h = some out) (K : RtI x .int out.1 out.2) : WA x 0 [.ref 53, .int a1, .int a2, .int a3, .null] [] h := by
  unfold f_X8_row at H
  refine st_iload_n g dX8_row_0 rfl ?_
  obtain ⟨r1, hr1, H⟩ := bind_some H
  refine st_callSI g (as := [.int a1]) dX8_row_1 ml_X8_137 mf_X8_isShelf rfl (Nat.le_of_ble_eq_true rfl) (Nat.le_of_ble_eq_true rfl) (c_X8_isShelf a1 h _ hr1) (fun hz => ?_)
  have br1 := hz rfl
  refine st_if_eq g dX8_row_4 (tgt := 22) (by decide) H (fun q2 H => ?_) (fun q2 H => ?_)
  · refine st_iconst g dX8_row_22 ic_m1 ?_
    obtain rfl := Option.some.inj H
    exact st_iret g dX8_row_23 rfl (fun q => by cases q) K
  · refine st_iload_n g dX8_row_7 rfl ?_
    refine st_iconst g dX8_row_8 ic_0 ?_
    refine st_iconst g dX8_row_9 ic_4 ?_
    obtain ⟨r3, hr3, H⟩ := bind_some H
    refine st_callSI g (as := [.int a2, .int 0, .int 4]) dX8_row_10 ml_X8_109 mf_X8_within rfl (Nat.le_of_ble_eq_true rfl) (Nat.le_of_ble_eq_true rfl) (c_X8_within a2 0 4 h _ hr3) (fun hz => ?_)
    have br3 := hz rfl
    refine st_if_eq g dX8_row_13 (tgt := 22) (by decide) H (fun q4 H => ?_) (fun q4 H => ?_)
    · refine st_iconst g dX8_row_22 ic_m1 ?_
      obtain rfl := Option.some.inj H
      exact st_iret g dX8_row_23 rfl (fun q => by cases q) K
    · refine st_iload_n g dX8_row_16 rfl ?_
      refine st_bipush g dX8_row_17 bi_60 ?_
      refine st_ic_le g dX8_row_19 (tgt := 24) (by decide) H (fun q5 H => ?_) (fun q5 H => ?_)
      · refine st_iload_n g dX8_row_24 rfl ?_
        refine st_if_ge g dX8_row_25 (tgt := 31) (by decide) H (fun q6 H => ?_) (fun q6 H => ?_)
        · refine st_aload_n g dX8_row_31 rfl ?_
          refine gf_X8_87 g dX8_row_32 rfl (r := 79) rfl ?_
          refine st_iload_n g dX8_row_35 rfl ?_
          refine st_iload_n g dX8_row_36 rfl ?_
          refine st_iast g dX8_row_37 H (fun h7 H => ?_)
          refine st_aload_n g dX8_row_38 rfl ?_
          refine gf_X8_90 g dX8_row_39 rfl (r := 80) rfl ?_
          refine st_iload_n g dX8_row_42 rfl ?_
          refine st_iload_n g dX8_row_43 rfl ?_
          refine st_iast g dX8_row_44 H (fun h8 H => ?_)
          refine st_iconst g dX8_row_45 ic_0 ?_
          refine st_istore g dX8_row_46 (Nat.le_of_ble_eq_true rfl) rfl (ls2 := [.ref 53, .int a1, .int a2, .int a3, .int 0]) rfl ?_
          refine wa_drop [2, 3] ?_
          show P_X8_row_48 x a1 (0, h8)
          obtain ⟨a11, ha11, H⟩ := bind_some H
          refine iter_W (P := P_X8_row_48 x a1) (E := E_X8_row_48 x a1) (fun s9 o9 ho9 hK9 => tb_X8_row_48 g a1 s9 o9 ho9 hK9) FU _ a11 ha11 ?_
          show WA x 74 [.null, .null, .null, .null, .null] [] a11.2
          refine st_iconst g dX8_row_74 ic_1 ?_
          obtain rfl := Option.some.inj H
          exact st_iret g dX8_row_75 rfl (fun q => by cases q) K
        · refine st_bipush g dX8_row_28 bi_m14 ?_
          obtain rfl := Option.some.inj H
          exact st_iret g dX8_row_30 rfl (fun q => by cases q) K
      · refine st_iconst g dX8_row_22 ic_m1 ?_
        obtain rfl := Option.some.inj H
        exact st_iret g dX8_row_23 rfl (fun q => by cases q) K
theorem c_X8_row (a1 : Int32) (a2 : Int32) (a3 : Int32) (h : Hp) (r : (Int32 × Hp)) (H : f_X8_row a1 a2 a3 h = some r) : CtI yX8_row cX8_row 5 .int 3 [.ref 53, .int a1, .int a2, .int a3] h r.1 r.2 :=
  ct_ofI (own := RX8) [.ref 53, .int a1, .int a2, .int a3, .null] (by decide +kernel) rfl (fun ρ => Nat.le_of_ble_eq_true rfl) (fun ρ => rfl) (fun x g K => t_X8_row g a1 a2 a3 h r H K)
def f_X8_put (a1 : Int32) (a2 : Int32) (a3 : Int64) (h : Hp) : Option (Int32 × Hp) :=
  (f_X8_isShelf a1).bind fun r1 =>
  if r1 = 0 then
    some ((-1), h)
  else
    (rdI h 79 a1).bind fun v3 =>
    if v3 = (-1) then
      some ((-11), h)
    else
      (f_X8_isRow a1 h).bind fun r5 =>
      if r5 = 0 then
        some ((-12), h)
      else
        (rdI h 80 a1).bind fun v7 =>
        (f_X8_within a2 0 (v7 - 1)).bind fun r8 =>
        if r8 = 0 then
          some ((-13), h)
        else
          (rdI h 79 a1).bind fun v10 =>
          (f_X8_kept v10 a3).bind fun r11 =>
          (wrL h 81 ((60 * a1) + a2) r11).bind fun h12 =>
          some (1, h12)
theorem t_X8_put {x : Cx} (g : Gx x RX8 cX8_put 5 3) (a1 : Int32) (a2 : Int32) (a3 : Int64) (h : Hp) (out : (Int32 × Hp)) (H : f_X8_put a1 a2 a3 h = some out) (K : RtI x .int out.1 out.2) : WA x 0 [.ref 53, .int a1, .int a2, .long a3, .null] [] h := by
  unfold f_X8_put at H
  refine st_iload_n g dX8_put_0 rfl ?_
  obtain ⟨r1, hr1, H⟩ := bind_some H
  refine st_callSI g (as := [.int a1]) dX8_put_1 ml_X8_137 mf_X8_isShelf rfl (Nat.le_of_ble_eq_true rfl) (Nat.le_of_ble_eq_true rfl) (c_X8_isShelf a1 h _ hr1) (fun hz => ?_)
  have br1 := hz rfl
  refine st_if_ne g dX8_put_4 (tgt := 9) (by decide) H (fun q2 H => ?_) (fun q2 H => ?_)
  · refine st_aload_n g dX8_put_9 rfl ?_
    refine gf_X8_87 g dX8_put_10 rfl (r := 79) rfl ?_
    refine st_iload_n g dX8_put_13 rfl ?_
    refine st_iald g dX8_put_14 H (fun v3 H => ?_)
    refine st_iconst g dX8_put_15 ic_m1 ?_
    refine st_ic_ne g dX8_put_16 (tgt := 22) (by decide) H (fun q4 H => ?_) (fun q4 H => ?_)
    · refine st_aload_n g dX8_put_22 rfl ?_
      refine st_iload_n g dX8_put_23 rfl ?_
      obtain ⟨r5, hr5, H⟩ := bind_some H
      refine st_callVI g (as := [.int a1]) dX8_put_24 rfl rfl ml_X8_352 mf_X8_isRow rfl (Nat.le_of_ble_eq_true rfl) (Nat.le_of_ble_eq_true rfl) (c_X8_isRow a1 h _ hr5) (fun hz => ?_)
      have br5 := hz rfl
      refine st_if_ne g dX8_put_27 (tgt := 33) (by decide) H (fun q6 H => ?_) (fun q6 H => ?_)
      · refine st_iload_n g dX8_put_33 rfl ?_
        refine st_iconst g dX8_put_34 ic_0 ?_
        refine st_aload_n g dX8_put_35 rfl ?_
        refine gf_X8_90 g dX8_put_36 rfl (r := 80) rfl ?_
        refine st_iload_n g dX8_put_39 rfl ?_
        refine st_iald g dX8_put_40 H (fun v7 H => ?_)
        refine st_iconst g dX8_put_41 ic_1 ?_
        refine st_isub g dX8_put_42 ?_
        obtain ⟨r8, hr8, H⟩ := bind_some H
        refine st_callSI g (as := [.int a2, .int 0, .int (v7 - 1)]) dX8_put_43 ml_X8_109 mf_X8_within rfl (Nat.le_of_ble_eq_true rfl) (Nat.le_of_ble_eq_true rfl) (c_X8_within a2 0 (v7 - 1) h _ hr8) (fun hz => ?_)
        have br8 := hz rfl
        refine st_if_ne g dX8_put_46 (tgt := 52) (by decide) H (fun q9 H => ?_) (fun q9 H => ?_)
        · refine st_aload_n g dX8_put_52 rfl ?_
          refine gf_X8_93 g dX8_put_53 rfl (r := 81) rfl ?_
          refine st_bipush g dX8_put_56 bi_60 ?_
          refine st_iload_n g dX8_put_58 rfl ?_
          refine st_imul g dX8_put_59 ?_
          refine st_iload_n g dX8_put_60 rfl ?_
          refine st_iadd g dX8_put_61 ?_
          refine st_aload_n g dX8_put_62 rfl ?_
          refine gf_X8_87 g dX8_put_63 rfl (r := 79) rfl ?_
          refine st_iload_n g dX8_put_66 rfl ?_
          refine st_iald g dX8_put_67 H (fun v10 H => ?_)
          refine st_lload_n g dX8_put_68 rfl ?_
          obtain ⟨r11, hr11, H⟩ := bind_some H
          refine st_callSL g (as := [.int v10, .long a3]) dX8_put_69 ml_X8_355 mf_X8_kept rfl (Nat.le_of_ble_eq_true rfl) (Nat.le_of_ble_eq_true rfl) (c_X8_kept v10 a3 h _ hr11) ?_
          refine st_last g dX8_put_72 H (fun h12 H => ?_)
          refine st_iconst g dX8_put_73 ic_1 ?_
          obtain rfl := Option.some.inj H
          exact st_iret g dX8_put_74 rfl (fun q => by cases q) K
        · refine st_bipush g dX8_put_49 bi_m13 ?_
          obtain rfl := Option.some.inj H
          exact st_iret g dX8_put_51 rfl (fun q => by cases q) K
      · refine st_bipush g dX8_put_30 bi_m12 ?_
        obtain rfl := Option.some.inj H
        exact st_iret g dX8_put_32 rfl (fun q => by cases q) K
    · refine st_bipush g dX8_put_19 bi_m11 ?_
      obtain rfl := Option.some.inj H
      exact st_iret g dX8_put_21 rfl (fun q => by cases q) K
  · refine st_iconst g dX8_put_7 ic_m1 ?_
    obtain rfl := Option.some.inj H
    exact st_iret g dX8_put_8 rfl (fun q => by cases q) K
theorem c_X8_put (a1 : Int32) (a2 : Int32) (a3 : Int64) (h : Hp) (r : (Int32 × Hp)) (H : f_X8_put a1 a2 a3 h = some r) : CtI yX8_put cX8_put 5 .int 3 [.ref 53, .int a1, .int a2, .long a3] h r.1 r.2 :=
  ct_ofI (own := RX8) [.ref 53, .int a1, .int a2, .long a3, .null] (by decide +kernel) rfl (fun ρ => Nat.le_of_ble_eq_true rfl) (fun ρ => rfl) (fun x g K => t_X8_put g a1 a2 a3 h r H K)
def f_X8_element (a1 : Int32) (a2 : Int32) (h : Hp) : Option Int64 :=
  (f_X8_isShelf a1).bind fun r1 =>
  if r1 = 0 then
    some (-9223372036854775808)
  else
    (f_X8_isRow a1 h).bind fun r3 =>
    if r3 = 0 then
      some (-9223372036854775808)
    else
      (rdI h 80 a1).bind fun v5 =>
      (f_X8_within a2 0 (v5 - 1)).bind fun r6 =>
      if r6 = 0 then
        some (-9223372036854775808)
      else
        (rdL h 81 ((60 * a1) + a2)).bind fun v8 =>
        some v8
theorem t_X8_element {x : Cx} (g : Gx x RX8 cX8_element 3 3) (a1 : Int32) (a2 : Int32) (h : Hp) (out : Int64) (H : f_X8_element a1 a2 h = some out) (K : RtL x out h) : WA x 0 [.ref 53, .int a1, .int a2] [] h := by
  unfold f_X8_element at H
  refine st_iload_n g dX8_element_0 rfl ?_
  obtain ⟨r1, hr1, H⟩ := bind_some H
  refine st_callSI g (as := [.int a1]) dX8_element_1 ml_X8_137 mf_X8_isShelf rfl (Nat.le_of_ble_eq_true rfl) (Nat.le_of_ble_eq_true rfl) (c_X8_isShelf a1 h _ hr1) (fun hz => ?_)
  have br1 := hz rfl
  refine st_if_eq g dX8_element_4 (tgt := 45) (by decide) H (fun q2 H => ?_) (fun q2 H => ?_)
  · refine st_ldc2 g dX8_element_45 kn_X8_359 ?_
    obtain rfl := Option.some.inj H
    exact st_lret g dX8_element_48 K
  · refine st_aload_n g dX8_element_7 rfl ?_
    refine st_iload_n g dX8_element_8 rfl ?_
    obtain ⟨r3, hr3, H⟩ := bind_some H
    refine st_callVI g (as := [.int a1]) dX8_element_9 rfl rfl ml_X8_352 mf_X8_isRow rfl (Nat.le_of_ble_eq_true rfl) (Nat.le_of_ble_eq_true rfl) (c_X8_isRow a1 h _ hr3) (fun hz => ?_)
    have br3 := hz rfl
    refine st_if_eq g dX8_element_12 (tgt := 45) (by decide) H (fun q4 H => ?_) (fun q4 H => ?_)
    · refine st_ldc2 g dX8_element_45 kn_X8_359 ?_
      obtain rfl := Option.some.inj H
      exact st_lret g dX8_element_48 K
    · refine st_iload_n g dX8_element_15 rfl ?_
      refine st_iconst g dX8_element_16 ic_0 ?_
      refine st_aload_n g dX8_element_17 rfl ?_
      refine gf_X8_90 g dX8_element_18 rfl (r := 80) rfl ?_
      refine st_iload_n g dX8_element_21 rfl ?_
      refine st_iald g dX8_element_22 H (fun v5 H => ?_)
      refine st_iconst g dX8_element_23 ic_1 ?_
      refine st_isub g dX8_element_24 ?_
      obtain ⟨r6, hr6, H⟩ := bind_some H
      refine st_callSI g (as := [.int a2, .int 0, .int (v5 - 1)]) dX8_element_25 ml_X8_109 mf_X8_within rfl (Nat.le_of_ble_eq_true rfl) (Nat.le_of_ble_eq_true rfl) (c_X8_within a2 0 (v5 - 1) h _ hr6) (fun hz => ?_)
      have br6 := hz rfl
      refine st_if_eq g dX8_element_28 (tgt := 45) (by decide) H (fun q7 H => ?_) (fun q7 H => ?_)
      · refine st_ldc2 g dX8_element_45 kn_X8_359 ?_
        obtain rfl := Option.some.inj H
        exact st_lret g dX8_element_48 K
      · refine st_aload_n g dX8_element_31 rfl ?_
        refine gf_X8_93 g dX8_element_32 rfl (r := 81) rfl ?_
        refine st_bipush g dX8_element_35 bi_60 ?_
        refine st_iload_n g dX8_element_37 rfl ?_
        refine st_imul g dX8_element_38 ?_
        refine st_iload_n g dX8_element_39 rfl ?_
        refine st_iadd g dX8_element_40 ?_
        refine st_lald g dX8_element_41 H (fun v8 H => ?_)
        refine st_goto g dX8_element_42 (tgt := 48) (by decide) ?_
        obtain rfl := Option.some.inj H
        exact st_lret g dX8_element_48 K
theorem c_X8_element (a1 : Int32) (a2 : Int32) (h : Hp) (r : Int64) (H : f_X8_element a1 a2 h = some r) : CtL yX8_element cX8_element 3 3 [.ref 53, .int a1, .int a2] h r h :=
  ct_ofL (own := RX8) [.ref 53, .int a1, .int a2] (by decide +kernel) rfl (fun ρ => Nat.le_of_ble_eq_true rfl) (fun ρ => rfl) (fun x g K => t_X8_element g a1 a2 h r H K)
def P_X8_shift_188 (x : Cx) (a1 : Int32) (a2 : Int32) (a3 : Int32) (a4 : Int32) (a5 : Int32) (s : (Int32 × Hp)) : Prop := WA x 188 [.ref 53, .int a1, .int a2, .int a3, .int a4, .int a5, .int s.1] [] s.2
def E_X8_shift_188 (x : Cx) (a1 : Int32) (a2 : Int32) (a3 : Int32) (a4 : Int32) (a5 : Int32) : (Int32 × Hp) → Prop := fun s : (Int32 × Hp) => WA x 230 [.null, .null, .null, .null, .null, .int a5, .null] [] s.2
def b_X8_shift_188 (a1 : Int32) (a2 : Int32) (a3 : Int32) (a4 : Int32) (a5 : Int32) (s : (Int32 × Hp)) : Option ((Int32 × Hp) ⊕ (Int32 × Hp)) :=
  if a5 ≤ s.1 then
    some (.inr (s.1, s.2))
  else
    (rdL s.2 81 (((60 * a1) + a2) + s.1)).bind fun v25 =>
    (wrL s.2 81 (((60 * a3) + a4) + s.1) v25).bind fun h26 =>
    some (.inl (s.1 + 1, h26))
theorem tb_X8_shift_188 {x : Cx} (g : Gx x RX8 cX8_shift 7 3) (a1 : Int32) (a2 : Int32) (a3 : Int32) (a4 : Int32) (a5 : Int32) (s : (Int32 × Hp)) (out : (Int32 × Hp) ⊕ (Int32 × Hp)) (H : b_X8_shift_188 a1 a2 a3 a4 a5 s = some out) (K : Sum.elim (P_X8_shift_188 x a1 a2 a3 a4 a5) (E_X8_shift_188 x a1 a2 a3 a4 a5) out) : P_X8_shift_188 x a1 a2 a3 a4 a5 s := by
  unfold b_X8_shift_188 at H
  show WA x 188 [.ref 53, .int a1, .int a2, .int a3, .int a4, .int a5, .int s.1] [] s.2
  refine st_iload g dX8_shift_188 rfl ?_
  refine st_iload g dX8_shift_190 rfl ?_
  refine st_ic_ge g dX8_shift_192 (tgt := 230) (by decide) H (fun q24 H => ?_) (fun q24 H => ?_)
  · obtain rfl := Option.some.inj H
    exact (wa_drop [0, 1, 2, 3, 4, 6] K)
  · refine st_aload_n g dX8_shift_195 rfl ?_
    refine gf_X8_93 g dX8_shift_196 rfl (r := 81) rfl ?_
    refine st_bipush g dX8_shift_199 bi_60 ?_
    refine st_iload_n g dX8_shift_201 rfl ?_
    refine st_imul g dX8_shift_202 ?_
    refine st_iload g dX8_shift_203 rfl ?_
    refine st_iadd g dX8_shift_205 ?_
    refine st_iload g dX8_shift_206 rfl ?_
    refine st_iadd g dX8_shift_208 ?_
    refine st_aload_n g dX8_shift_209 rfl ?_
    refine gf_X8_93 g dX8_shift_210 rfl (r := 81) rfl ?_
    refine st_bipush g dX8_shift_213 bi_60 ?_
    refine st_iload_n g dX8_shift_215 rfl ?_
    refine st_imul g dX8_shift_216 ?_
    refine st_iload_n g dX8_shift_217 rfl ?_
    refine st_iadd g dX8_shift_218 ?_
    refine st_iload g dX8_shift_219 rfl ?_
    refine st_iadd g dX8_shift_221 ?_
    refine st_lald g dX8_shift_222 H (fun v25 H => ?_)
    refine st_last g dX8_shift_223 H (fun h26 H => ?_)
    refine st_iinc g dX8_shift_224 rfl (ii_1 _) (Nat.le_of_ble_eq_true rfl) rfl (ls2 := [.ref 53, .int a1, .int a2, .int a3, .int a4, .int a5, .int (s.1 + 1)]) rfl ?_
    refine st_goto g dX8_shift_227 (tgt := 188) (by decide) ?_
    obtain rfl := Option.some.inj H
    exact K
def j_X8_shift_185 (a1 : Int32) (a2 : Int32) (a3 : Int32) (a4 : Int32) (a5 : Int32) (h : Hp) : Option ((Int32 × Hp)) :=
  (iter (b_X8_shift_188 a1 a2 a3 a4 a5) FU (0, h)).bind fun a27 =>
  some (a5, a27.2)
theorem tj_X8_shift_185 {x : Cx} (g : Gx x RX8 cX8_shift 7 3) (a1 : Int32) (a2 : Int32) (a3 : Int32) (a4 : Int32) (a5 : Int32) (h : Hp) (out : (Int32 × Hp)) (H : j_X8_shift_185 a1 a2 a3 a4 a5 h = some out) (K : RtI x .int out.1 out.2) : WA x 185 [.ref 53, .int a1, .int a2, .int a3, .int a4, .int a5, .null] [] h := by
  unfold j_X8_shift_185 at H
  refine st_iconst g dX8_shift_185 ic_0 ?_
  refine st_istore g dX8_shift_186 (Nat.le_of_ble_eq_true rfl) rfl (ls2 := [.ref 53, .int a1, .int a2, .int a3, .int a4, .int a5, .int 0]) rfl ?_
  show P_X8_shift_188 x a1 a2 a3 a4 a5 (0, h)
  obtain ⟨a27, ha27, H⟩ := bind_some H
  refine iter_W (P := P_X8_shift_188 x a1 a2 a3 a4 a5) (E := E_X8_shift_188 x a1 a2 a3 a4 a5) (fun s9 o9 ho9 hK9 => tb_X8_shift_188 g a1 a2 a3 a4 a5 s9 o9 ho9 hK9) FU _ a27 ha27 ?_
  show WA x 230 [.null, .null, .null, .null, .null, .int a5, .null] [] a27.2
  refine st_iload g dX8_shift_230 rfl ?_
  obtain rfl := Option.some.inj H
  exact st_iret g dX8_shift_232 rfl (fun q => by cases q) K
def P_X8_shift_142 (x : Cx) (a1 : Int32) (a2 : Int32) (a3 : Int32) (a4 : Int32) (a5 : Int32) (s : (Int32 × Hp)) : Prop := WA x 142 [.ref 53, .int a1, .int a2, .int a3, .int a4, .int a5, .int s.1] [] s.2
def E_X8_shift_142 (x : Cx) (a1 : Int32) (a2 : Int32) (a3 : Int32) (a4 : Int32) (a5 : Int32) : (Int32 × Hp) → Prop := fun s : (Int32 × Hp) => WA x 182 [.null, .null, .null, .null, .null, .int a5, .null] [] s.2
def b_X8_shift_142 (a1 : Int32) (a2 : Int32) (a3 : Int32) (a4 : Int32) (a5 : Int32) (s : (Int32 × Hp)) : Option ((Int32 × Hp) ⊕ (Int32 × Hp)) :=
  if s.1 < 0 then
    some (.inr (s.1, s.2))
  else
    (rdL s.2 81 (((60 * a1) + a2) + s.1)).bind fun v30 =>
    (wrL s.2 81 (((60 * a3) + a4) + s.1) v30).bind fun h31 =>
    some (.inl (s.1 - 1, h31))
theorem tb_X8_shift_142 {x : Cx} (g : Gx x RX8 cX8_shift 7 3) (a1 : Int32) (a2 : Int32) (a3 : Int32) (a4 : Int32) (a5 : Int32) (s : (Int32 × Hp)) (out : (Int32 × Hp) ⊕ (Int32 × Hp)) (H : b_X8_shift_142 a1 a2 a3 a4 a5 s = some out) (K : Sum.elim (P_X8_shift_142 x a1 a2 a3 a4 a5) (E_X8_shift_142 x a1 a2 a3 a4 a5) out) : P_X8_shift_142 x a1 a2 a3 a4 a5 s := by
  unfold b_X8_shift_142 at H
  show WA x 142 [.ref 53, .int a1, .int a2, .int a3, .int a4, .int a5, .int s.1] [] s.2
  refine st_iload g dX8_shift_142 rfl ?_
  refine st_if_lt g dX8_shift_144 (tgt := 182) (by decide) H (fun q29 H => ?_) (fun q29 H => ?_)
  · obtain rfl := Option.some.inj H
    exact (wa_drop [0, 1, 2, 3, 4, 6] K)
  · refine st_aload_n g dX8_shift_147 rfl ?_
    refine gf_X8_93 g dX8_shift_148 rfl (r := 81) rfl ?_
    refine st_bipush g dX8_shift_151 bi_60 ?_
    refine st_iload_n g dX8_shift_153 rfl ?_
    refine st_imul g dX8_shift_154 ?_
    refine st_iload g dX8_shift_155 rfl ?_
    refine st_iadd g dX8_shift_157 ?_
    refine st_iload g dX8_shift_158 rfl ?_
    refine st_iadd g dX8_shift_160 ?_
    refine st_aload_n g dX8_shift_161 rfl ?_
    refine gf_X8_93 g dX8_shift_162 rfl (r := 81) rfl ?_
    refine st_bipush g dX8_shift_165 bi_60 ?_
    refine st_iload_n g dX8_shift_167 rfl ?_
    refine st_imul g dX8_shift_168 ?_
    refine st_iload_n g dX8_shift_169 rfl ?_
    refine st_iadd g dX8_shift_170 ?_
    refine st_iload g dX8_shift_171 rfl ?_
    refine st_iadd g dX8_shift_173 ?_
    refine st_lald g dX8_shift_174 H (fun v30 H => ?_)
    refine st_last g dX8_shift_175 H (fun h31 H => ?_)
    refine st_iinc g dX8_shift_176 rfl (ii_m1 _) (Nat.le_of_ble_eq_true rfl) rfl (ls2 := [.ref 53, .int a1, .int a2, .int a3, .int a4, .int a5, .int (s.1 - 1)]) rfl ?_
    refine st_goto g dX8_shift_179 (tgt := 142) (by decide) ?_
    obtain rfl := Option.some.inj H
    exact K
def f_X8_shift (a1 : Int32) (a2 : Int32) (a3 : Int32) (a4 : Int32) (a5 : Int32) (h : Hp) : Option (Int32 × Hp) :=
  (f_X8_isShelf a1).bind fun r1 =>
  if r1 = 0 then
    some ((-1), h)
  else
    (f_X8_isShelf a3).bind fun r3 =>
    if r3 = 0 then
      some ((-1), h)
    else
      (rdI h 79 a1).bind fun v5 =>
      if v5 = (-1) then
        some ((-11), h)
      else
        (rdI h 79 a3).bind fun v7 =>
        if v7 = (-1) then
          some ((-11), h)
        else
          (f_X8_isRow a1 h).bind fun r9 =>
          if r9 = 0 then
            some ((-12), h)
          else
            (f_X8_isRow a3 h).bind fun r11 =>
            if r11 = 0 then
              some ((-12), h)
            else
              (rdI h 79 a1).bind fun v13 =>
              (rdI h 79 a3).bind fun v14 =>
              if v13 = v14 then
                if a5 < 0 then
                  some ((-13), h)
                else
                  if a2 < 0 then
                    some ((-13), h)
                  else
                    if a4 < 0 then
                      some ((-13), h)
                    else
                      (rdI h 80 a1).bind fun v19 =>
                      if 0 < (lg_cmp (a2.toInt64 + a5.toInt64) v19.toInt64) then
                        some ((-13), h)
                      else
                        (rdI h 80 a3).bind fun v21 =>
                        if (lg_cmp (a4.toInt64 + a5.toInt64) v21.toInt64) ≤ 0 then
                          if a1 = a3 then
                            if a4 ≤ a2 then
                              j_X8_shift_185 a1 a2 a3 a4 a5 h
                            else
                              (iter (b_X8_shift_142 a1 a2 a3 a4 a5) FU (a5 - 1, h)).bind fun a32 =>
                              some (a5, a32.2)
                          else
                            j_X8_shift_185 a1 a2 a3 a4 a5 h
                        else
                          some ((-13), h)
              else
                some ((-12), h)
theorem t_X8_shift {x : Cx} (g : Gx x RX8 cX8_shift 7 3) (a1 : Int32) (a2 : Int32) (a3 : Int32) (a4 : Int32) (a5 : Int32) (h : Hp) (out : (Int32 × Hp)) (H : f_X8_shift a1 a2 a3 a4 a5 h = some out) (K : RtI x .int out.1 out.2) : WA x 0 [.ref 53, .int a1, .int a2, .int a3, .int a4, .int a5, .null] [] h := by
  unfold f_X8_shift at H
  refine st_iload_n g dX8_shift_0 rfl ?_
  obtain ⟨r1, hr1, H⟩ := bind_some H
  refine st_callSI g (as := [.int a1]) dX8_shift_1 ml_X8_137 mf_X8_isShelf rfl (Nat.le_of_ble_eq_true rfl) (Nat.le_of_ble_eq_true rfl) (c_X8_isShelf a1 h _ hr1) (fun hz => ?_)
  have br1 := hz rfl
  refine st_if_eq g dX8_shift_4 (tgt := 14) (by decide) H (fun q2 H => ?_) (fun q2 H => ?_)
  · refine st_iconst g dX8_shift_14 ic_m1 ?_
    obtain rfl := Option.some.inj H
    exact st_iret g dX8_shift_15 rfl (fun q => by cases q) K
  · refine st_iload_n g dX8_shift_7 rfl ?_
    obtain ⟨r3, hr3, H⟩ := bind_some H
    refine st_callSI g (as := [.int a3]) dX8_shift_8 ml_X8_137 mf_X8_isShelf rfl (Nat.le_of_ble_eq_true rfl) (Nat.le_of_ble_eq_true rfl) (c_X8_isShelf a3 h _ hr3) (fun hz => ?_)
    have br3 := hz rfl
    refine st_if_ne g dX8_shift_11 (tgt := 16) (by decide) H (fun q4 H => ?_) (fun q4 H => ?_)
    · refine st_aload_n g dX8_shift_16 rfl ?_
      refine gf_X8_87 g dX8_shift_17 rfl (r := 79) rfl ?_
      refine st_iload_n g dX8_shift_20 rfl ?_
      refine st_iald g dX8_shift_21 H (fun v5 H => ?_)
      refine st_iconst g dX8_shift_22 ic_m1 ?_
      refine st_ic_eq g dX8_shift_23 (tgt := 36) (by decide) H (fun q6 H => ?_) (fun q6 H => ?_)
      · refine st_bipush g dX8_shift_36 bi_m11 ?_
        obtain rfl := Option.some.inj H
        exact st_iret g dX8_shift_38 rfl (fun q => by cases q) K
      · refine st_aload_n g dX8_shift_26 rfl ?_
        refine gf_X8_87 g dX8_shift_27 rfl (r := 79) rfl ?_
        refine st_iload_n g dX8_shift_30 rfl ?_
        refine st_iald g dX8_shift_31 H (fun v7 H => ?_)
        refine st_iconst g dX8_shift_32 ic_m1 ?_
        refine st_ic_ne g dX8_shift_33 (tgt := 39) (by decide) H (fun q8 H => ?_) (fun q8 H => ?_)
        · refine st_aload_n g dX8_shift_39 rfl ?_
          refine st_iload_n g dX8_shift_40 rfl ?_
          obtain ⟨r9, hr9, H⟩ := bind_some H
          refine st_callVI g (as := [.int a1]) dX8_shift_41 rfl rfl ml_X8_352 mf_X8_isRow rfl (Nat.le_of_ble_eq_true rfl) (Nat.le_of_ble_eq_true rfl) (c_X8_isRow a1 h _ hr9) (fun hz => ?_)
          have br9 := hz rfl
          refine st_if_eq g dX8_shift_44 (tgt := 70) (by decide) H (fun q10 H => ?_) (fun q10 H => ?_)
          · refine st_bipush g dX8_shift_70 bi_m12 ?_
            obtain rfl := Option.some.inj H
            exact st_iret g dX8_shift_72 rfl (fun q => by cases q) K
          · refine st_aload_n g dX8_shift_47 rfl ?_
            refine st_iload_n g dX8_shift_48 rfl ?_
            obtain ⟨r11, hr11, H⟩ := bind_some H
            refine st_callVI g (as := [.int a3]) dX8_shift_49 rfl rfl ml_X8_352 mf_X8_isRow rfl (Nat.le_of_ble_eq_true rfl) (Nat.le_of_ble_eq_true rfl) (c_X8_isRow a3 h _ hr11) (fun hz => ?_)
            have br11 := hz rfl
            refine st_if_eq g dX8_shift_52 (tgt := 70) (by decide) H (fun q12 H => ?_) (fun q12 H => ?_)
            · refine st_bipush g dX8_shift_70 bi_m12 ?_
              obtain rfl := Option.some.inj H
              exact st_iret g dX8_shift_72 rfl (fun q => by cases q) K
            · refine st_aload_n g dX8_shift_55 rfl ?_
              refine gf_X8_87 g dX8_shift_56 rfl (r := 79) rfl ?_
              refine st_iload_n g dX8_shift_59 rfl ?_
              refine st_iald g dX8_shift_60 H (fun v13 H => ?_)
              refine st_aload_n g dX8_shift_61 rfl ?_
              refine gf_X8_87 g dX8_shift_62 rfl (r := 79) rfl ?_
              refine st_iload_n g dX8_shift_65 rfl ?_
              refine st_iald g dX8_shift_66 H (fun v14 H => ?_)
              refine st_ic_eq g dX8_shift_67 (tgt := 73) (by decide) H (fun q15 H => ?_) (fun q15 H => ?_)
              · refine st_iload g dX8_shift_73 rfl ?_
                refine st_if_lt g dX8_shift_75 (tgt := 122) (by decide) H (fun q16 H => ?_) (fun q16 H => ?_)
                · refine st_bipush g dX8_shift_122 bi_m13 ?_
                  obtain rfl := Option.some.inj H
                  exact st_iret g dX8_shift_124 rfl (fun q => by cases q) K
                · refine st_iload_n g dX8_shift_78 rfl ?_
                  refine st_if_lt g dX8_shift_79 (tgt := 122) (by decide) H (fun q17 H => ?_) (fun q17 H => ?_)
                  · refine st_bipush g dX8_shift_122 bi_m13 ?_
                    obtain rfl := Option.some.inj H
                    exact st_iret g dX8_shift_124 rfl (fun q => by cases q) K
                  · refine st_iload g dX8_shift_82 rfl ?_
                    refine st_if_lt g dX8_shift_84 (tgt := 122) (by decide) H (fun q18 H => ?_) (fun q18 H => ?_)
                    · refine st_bipush g dX8_shift_122 bi_m13 ?_
                      obtain rfl := Option.some.inj H
                      exact st_iret g dX8_shift_124 rfl (fun q => by cases q) K
                    · refine st_iload_n g dX8_shift_87 rfl ?_
                      refine st_i2l g dX8_shift_88 ?_
                      refine st_iload g dX8_shift_89 rfl ?_
                      refine st_i2l g dX8_shift_91 ?_
                      refine st_ladd g dX8_shift_92 ?_
                      refine st_aload_n g dX8_shift_93 rfl ?_
                      refine gf_X8_90 g dX8_shift_94 rfl (r := 80) rfl ?_
                      refine st_iload_n g dX8_shift_97 rfl ?_
                      refine st_iald g dX8_shift_98 H (fun v19 H => ?_)
                      refine st_i2l g dX8_shift_99 ?_
                      refine st_lcmp g dX8_shift_100 ?_
                      refine st_if_gt g dX8_shift_101 (tgt := 122) (by decide) H (fun q20 H => ?_) (fun q20 H => ?_)
                      · refine st_bipush g dX8_shift_122 bi_m13 ?_
                        obtain rfl := Option.some.inj H
                        exact st_iret g dX8_shift_124 rfl (fun q => by cases q) K
                      · refine st_iload g dX8_shift_104 rfl ?_
                        refine st_i2l g dX8_shift_106 ?_
                        refine st_iload g dX8_shift_107 rfl ?_
                        refine st_i2l g dX8_shift_109 ?_
                        refine st_ladd g dX8_shift_110 ?_
                        refine st_aload_n g dX8_shift_111 rfl ?_
                        refine gf_X8_90 g dX8_shift_112 rfl (r := 80) rfl ?_
                        refine st_iload_n g dX8_shift_115 rfl ?_
                        refine st_iald g dX8_shift_116 H (fun v21 H => ?_)
                        refine st_i2l g dX8_shift_117 ?_
                        refine st_lcmp g dX8_shift_118 ?_
                        refine st_if_le g dX8_shift_119 (tgt := 125) (by decide) H (fun q22 H => ?_) (fun q22 H => ?_)
                        · refine st_iload_n g dX8_shift_125 rfl ?_
                          refine st_iload_n g dX8_shift_126 rfl ?_
                          refine st_ic_ne g dX8_shift_127 (tgt := 185) (by decide) H (fun q23 H => ?_) (fun q23 H => ?_)
                          · exact (tj_X8_shift_185 g a1 a2 a3 a4 a5 h _ H K)
                          · refine st_iload_n g dX8_shift_130 rfl ?_
                            refine st_iload g dX8_shift_131 rfl ?_
                            refine st_ic_ge g dX8_shift_133 (tgt := 185) (by decide) H (fun q28 H => ?_) (fun q28 H => ?_)
                            · exact (tj_X8_shift_185 g a1 a2 a3 a4 a5 h _ H K)
                            · refine st_iload g dX8_shift_136 rfl ?_
                              refine st_iconst g dX8_shift_138 ic_1 ?_
                              refine st_isub g dX8_shift_139 ?_
                              refine st_istore g dX8_shift_140 (Nat.le_of_ble_eq_true rfl) rfl (ls2 := [.ref 53, .int a1, .int a2, .int a3, .int a4, .int a5, .int (a5 - 1)]) rfl ?_
                              show P_X8_shift_142 x a1 a2 a3 a4 a5 (a5 - 1, h)
                              obtain ⟨a32, ha32, H⟩ := bind_some H
                              refine iter_W (P := P_X8_shift_142 x a1 a2 a3 a4 a5) (E := E_X8_shift_142 x a1 a2 a3 a4 a5) (fun s9 o9 ho9 hK9 => tb_X8_shift_142 g a1 a2 a3 a4 a5 s9 o9 ho9 hK9) FU _ a32 ha32 ?_
                              show WA x 182 [.null, .null, .null, .null, .null, .int a5, .null] [] a32.2
                              refine st_goto g dX8_shift_182 (tgt := 230) (by decide) ?_
                              refine st_iload g dX8_shift_230 rfl ?_
                              obtain rfl := Option.some.inj H
                              exact st_iret g dX8_shift_232 rfl (fun q => by cases q) K
                        · refine st_bipush g dX8_shift_122 bi_m13 ?_
                          obtain rfl := Option.some.inj H
                          exact st_iret g dX8_shift_124 rfl (fun q => by cases q) K
              · refine st_bipush g dX8_shift_70 bi_m12 ?_
                obtain rfl := Option.some.inj H
                exact st_iret g dX8_shift_72 rfl (fun q => by cases q) K
        · refine st_bipush g dX8_shift_36 bi_m11 ?_
          obtain rfl := Option.some.inj H
          exact st_iret g dX8_shift_38 rfl (fun q => by cases q) K
    · refine st_iconst g dX8_shift_14 ic_m1 ?_
      obtain rfl := Option.some.inj H
      exact st_iret g dX8_shift_15 rfl (fun q => by cases q) K
theorem c_X8_shift (a1 : Int32) (a2 : Int32) (a3 : Int32) (a4 : Int32) (a5 : Int32) (h : Hp) (r : (Int32 × Hp)) (H : f_X8_shift a1 a2 a3 a4 a5 h = some r) : CtI yX8_shift cX8_shift 7 .int 3 [.ref 53, .int a1, .int a2, .int a3, .int a4, .int a5] h r.1 r.2 :=
  ct_ofI (own := RX8) [.ref 53, .int a1, .int a2, .int a3, .int a4, .int a5, .null] (by decide +kernel) rfl (fun ρ => Nat.le_of_ble_eq_true rfl) (fun ρ => rfl) (fun x g K => t_X8_shift g a1 a2 a3 a4 a5 h r H K)
def P_X8_taken_61 (x : Cx) (a2 : Int32) (a3 : Int32) (h : Hp) (s : Int32) : Prop := WA x 61 [.null, .null, .int a2, .int a3, .int s] [] h
def E_X8_taken_61 (x : Cx) (a2 : Int32) (a3 : Int32) (h : Hp) : Int32 → Prop := fun s : Int32 => WA x 82 [.null, .null, .int a2, .int a3, .int s] [] h
def b_X8_taken_61 (a2 : Int32) (a3 : Int32) (h : Hp) (s : Int32) : Option (Int32 ⊕ Int32) :=
  if s = a2 then
    some (.inr s)
  else
    if s ≤ 0 then
      some (.inr s)
    else
      (f_X8_above s).bind fun r13 =>
      some (.inl r13)
theorem tb_X8_taken_61 {x : Cx} (g : Gx x RX8 cX8_taken 5 3) (a2 : Int32) (a3 : Int32) (h : Hp) (s : Int32) (out : Int32 ⊕ Int32) (H : b_X8_taken_61 a2 a3 h s = some out) (K : Sum.elim (P_X8_taken_61 x a2 a3 h) (E_X8_taken_61 x a2 a3 h) out) : P_X8_taken_61 x a2 a3 h s := by
  unfold b_X8_taken_61 at H
  show WA x 61 [.null, .null, .int a2, .int a3, .int s] [] h
  refine st_iload g dX8_taken_61 rfl ?_
  refine st_iload_n g dX8_taken_63 rfl ?_
  refine st_ic_eq g dX8_taken_64 (tgt := 82) (by decide) H (fun q11 H => ?_) (fun q11 H => ?_)
  · obtain rfl := Option.some.inj H
    exact K
  · refine st_iload g dX8_taken_67 rfl ?_
    refine st_if_le g dX8_taken_69 (tgt := 82) (by decide) H (fun q12 H => ?_) (fun q12 H => ?_)
    · obtain rfl := Option.some.inj H
      exact K
    · refine st_iload g dX8_taken_72 rfl ?_
      obtain ⟨r13, hr13, H⟩ := bind_some H
      refine st_callSI g (as := [.int s]) dX8_taken_74 ml_X8_337 mf_X8_above rfl (Nat.le_of_ble_eq_true rfl) (Nat.le_of_ble_eq_true rfl) (c_X8_above s h _ hr13) (fun hz => ?_)
      refine st_istore g dX8_taken_77 (Nat.le_of_ble_eq_true rfl) rfl (ls2 := [.null, .null, .int a2, .int a3, .int r13]) rfl ?_
      refine st_goto g dX8_taken_79 (tgt := 61) (by decide) ?_
      obtain rfl := Option.some.inj H
      exact K
def f_X8_taken (a1 : Int32) (a2 : Int32) (h : Hp) : Option Int32 :=
  (f_X8_isShelf a1).bind fun r1 =>
  if r1 = 0 then
    some (-1)
  else
    (f_X8_within a2 0 7).bind fun r3 =>
    if r3 = 0 then
      some (-1)
    else
      (rdI h 79 a1).bind fun v5 =>
      if v5 = (-1) then
        some (-11)
      else
        (f_X8_isRow a1 h).bind fun r7 =>
        if r7 = 0 then
          (rdI h 79 a1).bind fun v9 =>
          (rdI h 77 (v9 - 10)).bind fun v10 =>
          (iter (b_X8_taken_61 a2 v10 h) FU v10).bind fun a14 =>
          if a14 = a2 then
            some v10
          else
            some (-12)
        else
          some (-12)
theorem t_X8_taken {x : Cx} (g : Gx x RX8 cX8_taken 5 3) (a1 : Int32) (a2 : Int32) (h : Hp) (out : Int32) (H : f_X8_taken a1 a2 h = some out) (K : RtI x .int out h) : WA x 0 [.ref 53, .int a1, .int a2, .null, .null] [] h := by
  unfold f_X8_taken at H
  refine st_iload_n g dX8_taken_0 rfl ?_
  obtain ⟨r1, hr1, H⟩ := bind_some H
  refine st_callSI g (as := [.int a1]) dX8_taken_1 ml_X8_137 mf_X8_isShelf rfl (Nat.le_of_ble_eq_true rfl) (Nat.le_of_ble_eq_true rfl) (c_X8_isShelf a1 h _ hr1) (fun hz => ?_)
  have br1 := hz rfl
  refine st_if_eq g dX8_taken_4 (tgt := 17) (by decide) H (fun q2 H => ?_) (fun q2 H => ?_)
  · refine st_iconst g dX8_taken_17 ic_m1 ?_
    obtain rfl := Option.some.inj H
    exact st_iret g dX8_taken_18 rfl (fun q => by cases q) K
  · refine st_iload_n g dX8_taken_7 rfl ?_
    refine st_iconst g dX8_taken_8 ic_0 ?_
    refine st_bipush g dX8_taken_9 bi_7 ?_
    obtain ⟨r3, hr3, H⟩ := bind_some H
    refine st_callSI g (as := [.int a2, .int 0, .int 7]) dX8_taken_11 ml_X8_109 mf_X8_within rfl (Nat.le_of_ble_eq_true rfl) (Nat.le_of_ble_eq_true rfl) (c_X8_within a2 0 7 h _ hr3) (fun hz => ?_)
    have br3 := hz rfl
    refine st_if_ne g dX8_taken_14 (tgt := 19) (by decide) H (fun q4 H => ?_) (fun q4 H => ?_)
    · refine st_aload_n g dX8_taken_19 rfl ?_
      refine gf_X8_87 g dX8_taken_20 rfl (r := 79) rfl ?_
      refine st_iload_n g dX8_taken_23 rfl ?_
      refine st_iald g dX8_taken_24 H (fun v5 H => ?_)
      refine st_iconst g dX8_taken_25 ic_m1 ?_
      refine st_ic_ne g dX8_taken_26 (tgt := 32) (by decide) H (fun q6 H => ?_) (fun q6 H => ?_)
      · refine st_aload_n g dX8_taken_32 rfl ?_
        refine st_iload_n g dX8_taken_33 rfl ?_
        obtain ⟨r7, hr7, H⟩ := bind_some H
        refine st_callVI g (as := [.int a1]) dX8_taken_34 rfl rfl ml_X8_352 mf_X8_isRow rfl (Nat.le_of_ble_eq_true rfl) (Nat.le_of_ble_eq_true rfl) (c_X8_isRow a1 h _ hr7) (fun hz => ?_)
        have br7 := hz rfl
        refine st_if_eq g dX8_taken_37 (tgt := 43) (by decide) H (fun q8 H => ?_) (fun q8 H => ?_)
        · refine st_aload_n g dX8_taken_43 rfl ?_
          refine gf_X8_81 g dX8_taken_44 rfl (r := 77) rfl ?_
          refine st_aload_n g dX8_taken_47 rfl ?_
          refine gf_X8_87 g dX8_taken_48 rfl (r := 79) rfl ?_
          refine st_iload_n g dX8_taken_51 rfl ?_
          refine st_iald g dX8_taken_52 H (fun v9 H => ?_)
          refine st_bipush g dX8_taken_53 bi_10 ?_
          refine st_isub g dX8_taken_55 ?_
          refine st_iald g dX8_taken_56 H (fun v10 H => ?_)
          refine st_istore_n g dX8_taken_57 (Nat.le_of_ble_eq_true rfl) rfl (ls2 := [.ref 53, .int a1, .int a2, .int v10, .null]) rfl ?_
          refine st_iload_n g dX8_taken_58 rfl ?_
          refine st_istore g dX8_taken_59 (Nat.le_of_ble_eq_true rfl) rfl (ls2 := [.ref 53, .int a1, .int a2, .int v10, .int v10]) rfl ?_
          refine wa_drop [0, 1] ?_
          show P_X8_taken_61 x a2 v10 h v10
          obtain ⟨a14, ha14, H⟩ := bind_some H
          refine iter_W (P := P_X8_taken_61 x a2 v10 h) (E := E_X8_taken_61 x a2 v10 h) (fun s9 o9 ho9 hK9 => tb_X8_taken_61 g a2 v10 h s9 o9 ho9 hK9) FU _ a14 ha14 ?_
          show WA x 82 [.null, .null, .int a2, .int v10, .int a14] [] h
          refine st_iload g dX8_taken_82 rfl ?_
          refine st_iload_n g dX8_taken_84 rfl ?_
          refine st_ic_ne g dX8_taken_85 (tgt := 92) (by decide) H (fun q15 H => ?_) (fun q15 H => ?_)
          · refine st_bipush g dX8_taken_92 bi_m12 ?_
            obtain rfl := Option.some.inj H
            exact st_iret g dX8_taken_94 rfl (fun q => by cases q) K
          · refine st_iload_n g dX8_taken_88 rfl ?_
            refine st_goto g dX8_taken_89 (tgt := 94) (by decide) ?_
            obtain rfl := Option.some.inj H
            exact st_iret g dX8_taken_94 rfl (fun q => by cases q) K
        · refine st_bipush g dX8_taken_40 bi_m12 ?_
          obtain rfl := Option.some.inj H
          exact st_iret g dX8_taken_42 rfl (fun q => by cases q) K
      · refine st_bipush g dX8_taken_29 bi_m11 ?_
        obtain rfl := Option.some.inj H
        exact st_iret g dX8_taken_31 rfl (fun q => by cases q) K
    · refine st_iconst g dX8_taken_17 ic_m1 ?_
      obtain rfl := Option.some.inj H
      exact st_iret g dX8_taken_18 rfl (fun q => by cases q) K
theorem c_X8_taken (a1 : Int32) (a2 : Int32) (h : Hp) (r : Int32) (H : f_X8_taken a1 a2 h = some r) : CtI yX8_taken cX8_taken 5 .int 3 [.ref 53, .int a1, .int a2] h r h :=
  ct_ofI (own := RX8) [.ref 53, .int a1, .int a2, .null, .null] (by decide +kernel) rfl (fun ρ => Nat.le_of_ble_eq_true rfl) (fun ρ => rfl) (fun x g K => t_X8_taken g a1 a2 h r H K)
def f_X7_mend (a1 : Int32) (a2 : Int32) (a3 : Int32) (h : Hp) : Option (Int32 × Hp) :=
  if a2 < 0 then
    some ((-2000000000), h)
  else
    if 6 < a2 then
      some ((-2000000000), h)
    else
      (f_X7_isThere a1 a2 h).bind fun r3 =>
      if r3 = 0 then
        some ((-2000000000), h)
      else
        (rdT 90 a2).bind fun v5 =>
        if a3 < v5 then
          some ((-2000000000), h)
        else
          (rdT 91 a2).bind fun v7 =>
          if a3 ≤ v7 then
            (f_X7_valueOf a1 a2 h).bind fun r9 =>
            if r9 = a3 then
              some (r9, h)
            else
              (f_X7_setValue a1 a2 a3 h).bind fun r11 =>
              (f_X0_note a1 a2 r9 a3 r11).bind fun r12 =>
              some (r9, r12)
          else
            some ((-2000000000), h)
theorem t_X7_mend {x : Cx} (g : Gx x RX7 cX7_mend 5 4) (a1 : Int32) (a2 : Int32) (a3 : Int32) (h : Hp) (out : (Int32 × Hp)) (H : f_X7_mend a1 a2 a3 h = some out) (K : RtI x .int out.1 out.2) : WA x 0 [.ref 0, .int a1, .int a2, .int a3, .null] [] h := by
  unfold f_X7_mend at H
  refine st_iload_n g dX7_mend_0 rfl ?_
  refine st_if_lt g dX7_mend_1 (tgt := 19) (by decide) H (fun q1 H => ?_) (fun q1 H => ?_)
  · refine st_ldc g dX7_mend_19 kc_X7_127 ?_
    obtain rfl := Option.some.inj H
    exact st_iret g dX7_mend_21 rfl (fun q => by cases q) K
  · refine st_iload_n g dX7_mend_4 rfl ?_
    refine st_bipush g dX7_mend_5 bi_6 ?_
    refine st_ic_gt g dX7_mend_7 (tgt := 19) (by decide) H (fun q2 H => ?_) (fun q2 H => ?_)
    · refine st_ldc g dX7_mend_19 kc_X7_127 ?_
      obtain rfl := Option.some.inj H
      exact st_iret g dX7_mend_21 rfl (fun q => by cases q) K
    · refine st_aload_n g dX7_mend_10 rfl ?_
      refine st_iload_n g dX7_mend_11 rfl ?_
      refine st_iload_n g dX7_mend_12 rfl ?_
      obtain ⟨r3, hr3, H⟩ := bind_some H
      refine st_callVI g (as := [.int a1, .int a2]) dX7_mend_13 rfl rfl ml_X7_124 mf_X7_isThere rfl (Nat.le_of_ble_eq_true rfl) (Nat.le_of_ble_eq_true rfl) (c_X7_isThere a1 a2 h _ hr3) (fun hz => ?_)
      have br3 := hz rfl
      refine st_if_ne g dX7_mend_16 (tgt := 22) (by decide) H (fun q4 H => ?_) (fun q4 H => ?_)
      · refine st_iload_n g dX7_mend_22 rfl ?_
        refine st_gets_LEAST g dX7_mend_23 fl_X7_128 ?_
        refine st_iload_n g dX7_mend_26 rfl ?_
        refine st_tald g dX7_mend_27 (by decide) (by decide) H (fun v5 H => ?_)
        refine st_ic_lt g dX7_mend_28 (tgt := 40) (by decide) H (fun q6 H => ?_) (fun q6 H => ?_)
        · refine st_ldc g dX7_mend_40 kc_X7_127 ?_
          obtain rfl := Option.some.inj H
          exact st_iret g dX7_mend_42 rfl (fun q => by cases q) K
        · refine st_iload_n g dX7_mend_31 rfl ?_
          refine st_gets_MOST g dX7_mend_32 fl_X7_131 ?_
          refine st_iload_n g dX7_mend_35 rfl ?_
          refine st_tald g dX7_mend_36 (by decide) (by decide) H (fun v7 H => ?_)
          refine st_ic_le g dX7_mend_37 (tgt := 43) (by decide) H (fun q8 H => ?_) (fun q8 H => ?_)
          · refine st_aload_n g dX7_mend_43 rfl ?_
            refine st_iload_n g dX7_mend_44 rfl ?_
            refine st_iload_n g dX7_mend_45 rfl ?_
            obtain ⟨r9, hr9, H⟩ := bind_some H
            refine st_callVI g (as := [.int a1, .int a2]) dX7_mend_46 rfl rfl ml_X7_134 mf_X7_valueOf rfl (Nat.le_of_ble_eq_true rfl) (Nat.le_of_ble_eq_true rfl) (c_X7_valueOf a1 a2 h _ hr9) (fun hz => ?_)
            refine st_istore g dX7_mend_49 (Nat.le_of_ble_eq_true rfl) rfl (ls2 := [.ref 0, .int a1, .int a2, .int a3, .int r9]) rfl ?_
            refine st_iload g dX7_mend_51 rfl ?_
            refine st_iload_n g dX7_mend_53 rfl ?_
            refine st_ic_eq g dX7_mend_54 (tgt := 76) (by decide) H (fun q10 H => ?_) (fun q10 H => ?_)
            · refine st_iload g dX7_mend_76 rfl ?_
              obtain rfl := Option.some.inj H
              exact st_iret g dX7_mend_78 rfl (fun q => by cases q) K
            · refine st_aload_n g dX7_mend_57 rfl ?_
              refine st_iload_n g dX7_mend_58 rfl ?_
              refine st_iload_n g dX7_mend_59 rfl ?_
              refine st_iload_n g dX7_mend_60 rfl ?_
              obtain ⟨r11, hr11, H⟩ := bind_some H
              refine st_callVV g (as := [.int a1, .int a2, .int a3]) dX7_mend_61 rfl rfl ml_X7_138 mf_X7_setValue rfl (Nat.le_of_ble_eq_true rfl) (Nat.le_of_ble_eq_true rfl) (c_X7_setValue a1 a2 a3 h _ hr11) ?_
              refine st_aload_n g dX7_mend_64 rfl ?_
              refine gf_X7_47 g dX7_mend_65 rfl (r := 25) rfl ?_
              refine st_iload_n g dX7_mend_68 rfl ?_
              refine st_iload_n g dX7_mend_69 rfl ?_
              refine st_iload g dX7_mend_70 rfl ?_
              refine st_iload_n g dX7_mend_72 rfl ?_
              obtain ⟨r12, hr12, H⟩ := bind_some H
              refine st_callVV g (as := [.int a1, .int a2, .int r9, .int a3]) dX7_mend_73 rfl rfl ml_X7_142 mf_X0_note rfl (Nat.le_of_ble_eq_true rfl) (Nat.le_of_ble_eq_true rfl) (c_X0_note a1 a2 r9 a3 r11 _ hr12) ?_
              refine st_iload g dX7_mend_76 rfl ?_
              obtain rfl := Option.some.inj H
              exact st_iret g dX7_mend_78 rfl (fun q => by cases q) K
          · refine st_ldc g dX7_mend_40 kc_X7_127 ?_
            obtain rfl := Option.some.inj H
            exact st_iret g dX7_mend_42 rfl (fun q => by cases q) K
      · refine st_ldc g dX7_mend_19 kc_X7_127 ?_
        obtain rfl := Option.some.inj H
        exact st_iret g dX7_mend_21 rfl (fun q => by cases q) K
theorem c_X7_mend (a1 : Int32) (a2 : Int32) (a3 : Int32) (h : Hp) (r : (Int32 × Hp)) (H : f_X7_mend a1 a2 a3 h = some r) : CtI yX7_mend cX7_mend 5 .int 4 [.ref 0, .int a1, .int a2, .int a3] h r.1 r.2 :=
  ct_ofI (own := RX7) [.ref 0, .int a1, .int a2, .int a3, .null] (by decide +kernel) rfl (fun ρ => Nat.le_of_ble_eq_true rfl) (fun ρ => rfl) (fun x g K => t_X7_mend g a1 a2 a3 h r H K)
def f_X7_counts (a1 : Int32) (a2 : Int32) (h : Hp) : Option (Int32 × Hp) :=
  (f_X3_isWrong a1 h).bind fun r1 =>
  if r1 = 0 then
    some ((-1), h)
  else
    (f_X7_isHouse a2).bind fun r3 =>
    if r3 = 0 then
      some ((-1), h)
    else
      (f_X7_worth 13 a1 a2 h).bind fun r5 =>
      some (r5.1, r5.2)
theorem t_X7_counts {x : Cx} (g : Gx x RX7 cX7_counts 3 4) (a1 : Int32) (a2 : Int32) (h : Hp) (out : (Int32 × Hp)) (H : f_X7_counts a1 a2 h = some out) (K : RtI x .int out.1 out.2) : WA x 0 [.ref 0, .int a1, .int a2] [] h := by
  unfold f_X7_counts at H
  refine st_aload_n g dX7_counts_0 rfl ?_
  refine gf_X7_10 g dX7_counts_1 rfl (r := 1) rfl ?_
  refine st_iload_n g dX7_counts_4 rfl ?_
  obtain ⟨r1, hr1, H⟩ := bind_some H
  refine st_callVI g (as := [.int a1]) dX7_counts_5 rfl rfl ml_X7_153 mf_X3_isWrong rfl (Nat.le_of_ble_eq_true rfl) (Nat.le_of_ble_eq_true rfl) (c_X3_isWrong a1 h _ hr1) (fun hz => ?_)
  have br1 := hz rfl
  refine st_if_eq g dX7_counts_8 (tgt := 18) (by decide) H (fun q2 H => ?_) (fun q2 H => ?_)
  · refine st_iconst g dX7_counts_18 ic_m1 ?_
    obtain rfl := Option.some.inj H
    exact st_iret g dX7_counts_19 rfl (fun q => by cases q) K
  · refine st_iload_n g dX7_counts_11 rfl ?_
    obtain ⟨r3, hr3, H⟩ := bind_some H
    refine st_callSI g (as := [.int a2]) dX7_counts_12 ml_X7_85 mf_X7_isHouse rfl (Nat.le_of_ble_eq_true rfl) (Nat.le_of_ble_eq_true rfl) (c_X7_isHouse a2 h _ hr3) (fun hz => ?_)
    have br3 := hz rfl
    refine st_if_ne g dX7_counts_15 (tgt := 20) (by decide) H (fun q4 H => ?_) (fun q4 H => ?_)
    · refine st_aload_n g dX7_counts_20 rfl ?_
      refine st_aload_n g dX7_counts_21 rfl ?_
      refine gf_X7_26 g dX7_counts_22 rfl (r := 13) rfl ?_
      refine st_iload_n g dX7_counts_25 rfl ?_
      refine st_iload_n g dX7_counts_26 rfl ?_
      obtain ⟨r5, hr5, H⟩ := bind_some H
      refine st_callVI g (as := [.ref 13, .int a1, .int a2]) dX7_counts_27 rfl rfl ml_X7_156 mf_X7_worth rfl (Nat.le_of_ble_eq_true rfl) (Nat.le_of_ble_eq_true rfl) (c_X7_worth 13 a1 a2 h _ hr5) (fun hz => ?_)
      obtain rfl := Option.some.inj H
      exact st_iret g dX7_counts_30 rfl (fun q => by cases q) K
    · refine st_iconst g dX7_counts_18 ic_m1 ?_
      obtain rfl := Option.some.inj H
      exact st_iret g dX7_counts_19 rfl (fun q => by cases q) K
theorem c_X7_counts (a1 : Int32) (a2 : Int32) (h : Hp) (r : (Int32 × Hp)) (H : f_X7_counts a1 a2 h = some r) : CtI yX7_counts cX7_counts 3 .int 4 [.ref 0, .int a1, .int a2] h r.1 r.2 :=
  ct_ofI (own := RX7) [.ref 0, .int a1, .int a2] (by decide +kernel) rfl (fun ρ => Nat.le_of_ble_eq_true rfl) (fun ρ => rfl) (fun x g K => t_X7_counts g a1 a2 h r H K)
def f_X7_forgive (a1 : Nat) (a2 : Int32) (a3 : Int32) (h : Hp) : Option (Int32 × Hp) :=
  if sh a1 = (0, 5) then
    (f_X5_isForgiven a1 a2 h).bind fun r1 =>
    if r1 = 0 then
      (f_X7_worth a1 a2 a3 h).bind fun r3 =>
      if r3.1 = 0 then
        some (0, r3.2)
      else
        (f_X5_setForgiven a1 a2 1 r3.2).bind fun r5 =>
        (rdI r5 (pf a1 0) a3).bind fun v6 =>
        (wrI r5 (pf a1 0) a3 (mnI 999 (v6 + r3.1))).bind fun h7 =>
        some (r3.1, h7)
    else
      some (0, h)
  else none
theorem t_X7_forgive {x : Cx} (g : Gx x RX7 cX7_forgive 5 4) (a1 : Nat) (a2 : Int32) (a3 : Int32) (h : Hp) (out : (Int32 × Hp)) (H : f_X7_forgive a1 a2 a3 h = some out) (K : RtI x .int out.1 out.2) : WA x 0 [.ref 0, .ref a1, .int a2, .int a3, .null] [] h := by
  unfold f_X7_forgive at H
  obtain ⟨hga1, H⟩ := gd_some H
  refine st_aload_n g dX7_forgive_0 rfl ?_
  refine st_iload_n g dX7_forgive_1 rfl ?_
  obtain ⟨r1, hr1, H⟩ := bind_some H
  refine st_callVI g (as := [.int a2]) dX7_forgive_2 hga1 rfl ml_X7_197 mf_X5_isForgiven rfl (Nat.le_of_ble_eq_true rfl) (Nat.le_of_ble_eq_true rfl) (c_X5_isForgiven a1 a2 h _ hr1) (fun hz => ?_)
  have br1 := hz rfl
  refine st_if_eq g dX7_forgive_5 (tgt := 10) (by decide) H (fun q2 H => ?_) (fun q2 H => ?_)
  · refine st_aload_n g dX7_forgive_10 rfl ?_
    refine st_aload_n g dX7_forgive_11 rfl ?_
    refine st_iload_n g dX7_forgive_12 rfl ?_
    refine st_iload_n g dX7_forgive_13 rfl ?_
    obtain ⟨r3, hr3, H⟩ := bind_some H
    refine st_callVI g (as := [.ref a1, .int a2, .int a3]) dX7_forgive_14 rfl rfl ml_X7_156 mf_X7_worth rfl (Nat.le_of_ble_eq_true rfl) (Nat.le_of_ble_eq_true rfl) (c_X7_worth a1 a2 a3 h _ hr3) (fun hz => ?_)
    refine st_istore g dX7_forgive_17 (Nat.le_of_ble_eq_true rfl) rfl (ls2 := [.ref 0, .ref a1, .int a2, .int a3, .int r3.1]) rfl ?_
    refine st_iload g dX7_forgive_19 rfl ?_
    refine st_if_ne g dX7_forgive_21 (tgt := 26) (by decide) H (fun q4 H => ?_) (fun q4 H => ?_)
    · refine st_aload_n g dX7_forgive_26 rfl ?_
      refine st_iload_n g dX7_forgive_27 rfl ?_
      refine st_iconst g dX7_forgive_28 ic_1 ?_
      obtain ⟨r5, hr5, H⟩ := bind_some H
      refine st_callVV g (as := [.int a2, .int 1]) dX7_forgive_29 hga1 rfl ml_X7_377 mf_X5_setForgiven rfl (Nat.le_of_ble_eq_true rfl) (Nat.le_of_ble_eq_true rfl) (c_X5_setForgiven a1 a2 1 r3.2 _ hr5) ?_
      refine st_aload_n g dX7_forgive_32 rfl ?_
      refine gf_X7_169 g dX7_forgive_33 hga1 (r := pf a1 0) rfl ?_
      refine st_iload_n g dX7_forgive_36 rfl ?_
      refine st_sipush g dX7_forgive_37 si_999 ?_
      refine st_aload_n g dX7_forgive_40 rfl ?_
      refine gf_X7_169 g dX7_forgive_41 hga1 (r := pf a1 0) rfl ?_
      refine st_iload_n g dX7_forgive_44 rfl ?_
      refine st_iald g dX7_forgive_45 H (fun v6 H => ?_)
      refine st_iload g dX7_forgive_46 rfl ?_
      refine st_iadd g dX7_forgive_48 ?_
      refine st_min g dX7_forgive_49 ml_X7_393 (Nat.le_of_ble_eq_true rfl) (Nat.le_of_ble_eq_true rfl) ?_
      refine st_iast g dX7_forgive_52 H (fun h7 H => ?_)
      refine st_iload g dX7_forgive_53 rfl ?_
      obtain rfl := Option.some.inj H
      exact st_iret g dX7_forgive_55 rfl (fun q => by cases q) K
    · refine st_iconst g dX7_forgive_24 ic_0 ?_
      obtain rfl := Option.some.inj H
      exact st_iret g dX7_forgive_25 rfl (fun q => by cases q) K
  · refine st_iconst g dX7_forgive_8 ic_0 ?_
    obtain rfl := Option.some.inj H
    exact st_iret g dX7_forgive_9 rfl (fun q => by cases q) K
theorem c_X7_forgive (a1 : Nat) (a2 : Int32) (a3 : Int32) (h : Hp) (r : (Int32 × Hp)) (H : f_X7_forgive a1 a2 a3 h = some r) : CtI yX7_forgive cX7_forgive 5 .int 4 [.ref 0, .ref a1, .int a2, .int a3] h r.1 r.2 :=
  ct_ofI (own := RX7) [.ref 0, .ref a1, .int a2, .int a3, .null] (by decide +kernel) rfl (fun ρ => Nat.le_of_ble_eq_true rfl) (fun ρ => rfl) (fun x g K => t_X7_forgive g a1 a2 a3 h r H K)
def P_X7_mostOf_5 (x : Cx) (a1 : Int32) (a2 : Int32) (s : (Int32 × Int32 × Hp)) : Prop := WA x 5 [.ref 0, .int a1, .int a2, .int s.1, .int s.2.1, .null] [] s.2.2
def E_X7_mostOf_5 (x : Cx) (a1 : Int32) (a2 : Int32) : (Int32 × Int32 × Hp) → Prop := fun s : (Int32 × Int32 × Hp) => WA x 74 [.null, .null, .null, .int s.1, .null, .null] [] s.2.2
def b_X7_mostOf_5 (a1 : Int32) (a2 : Int32) (s : (Int32 × Int32 × Hp)) : Option ((Int32 × Int32 × Hp) ⊕ (Int32 × Int32 × Hp)) :=
  if (s.2.2.1 1 3) ≤ s.2.1 then
    some (.inr (s.1, s.2.1, s.2.2))
  else
    (rdI s.2.2 5 s.2.1).bind fun v2 =>
    if v2 = a1 then
      (f_X5_isForgiven 17 s.2.1 s.2.2).bind fun r4 =>
      if r4 = 0 then
        (f_X7_worth 17 s.2.1 a2 s.2.2).bind fun r6 =>
        if r6.1 ≤ s.1 then
          some (.inl (s.1, s.2.1 + 1, r6.2))
        else
          some (.inl (r6.1, s.2.1 + 1, r6.2))
      else
        some (.inl (s.1, s.2.1 + 1, s.2.2))
    else
      some (.inl (s.1, s.2.1 + 1, s.2.2))
theorem tb_X7_mostOf_5 {x : Cx} (g : Gx x RX7 cX7_mostOf 6 4) (a1 : Int32) (a2 : Int32) (s : (Int32 × Int32 × Hp)) (out : (Int32 × Int32 × Hp) ⊕ (Int32 × Int32 × Hp)) (H : b_X7_mostOf_5 a1 a2 s = some out) (K : Sum.elim (P_X7_mostOf_5 x a1 a2) (E_X7_mostOf_5 x a1 a2) out) : P_X7_mostOf_5 x a1 a2 s := by
  unfold b_X7_mostOf_5 at H
  show WA x 5 [.ref 0, .int a1, .int a2, .int s.1, .int s.2.1, .null] [] s.2.2
  refine st_iload g dX7_mostOf_5 rfl ?_
  refine st_aload_n g dX7_mostOf_7 rfl ?_
  refine gf_X7_10 g dX7_mostOf_8 rfl (r := 1) rfl ?_
  refine gf_X7_100 g dX7_mostOf_11 rfl ?_
  refine st_ic_ge g dX7_mostOf_14 (tgt := 74) (by decide) H (fun q1 H => ?_) (fun q1 H => ?_)
  · obtain rfl := Option.some.inj H
    exact (wa_drop [0, 1, 2, 4] K)
  · refine st_aload_n g dX7_mostOf_17 rfl ?_
    refine gf_X7_10 g dX7_mostOf_18 rfl (r := 1) rfl ?_
    refine gf_X7_203 g dX7_mostOf_21 rfl (r := 5) rfl ?_
    refine st_iload g dX7_mostOf_24 rfl ?_
    refine st_iald g dX7_mostOf_26 H (fun v2 H => ?_)
    refine st_iload_n g dX7_mostOf_27 rfl ?_
    refine st_ic_ne g dX7_mostOf_28 (tgt := 68) (by decide) H (fun q3 H => ?_) (fun q3 H => ?_)
    · refine st_iinc g dX7_mostOf_68 rfl (ii_1 _) (Nat.le_of_ble_eq_true rfl) rfl (ls2 := [.ref 0, .int a1, .int a2, .int s.1, .int (s.2.1 + 1), .null]) rfl ?_
      refine st_goto g dX7_mostOf_71 (tgt := 5) (by decide) ?_
      obtain rfl := Option.some.inj H
      exact K
    · refine st_aload_n g dX7_mostOf_31 rfl ?_
      refine gf_X7_30 g dX7_mostOf_32 rfl (r := 17) rfl ?_
      refine st_iload g dX7_mostOf_35 rfl ?_
      obtain ⟨r4, hr4, H⟩ := bind_some H
      refine st_callVI g (as := [.int s.2.1]) dX7_mostOf_37 rfl rfl ml_X7_197 mf_X5_isForgiven rfl (Nat.le_of_ble_eq_true rfl) (Nat.le_of_ble_eq_true rfl) (c_X5_isForgiven 17 s.2.1 s.2.2 _ hr4) (fun hz => ?_)
      have br4 := hz rfl
      refine st_if_eq g dX7_mostOf_40 (tgt := 46) (by decide) H (fun q5 H => ?_) (fun q5 H => ?_)
      · refine st_aload_n g dX7_mostOf_46 rfl ?_
        refine st_aload_n g dX7_mostOf_47 rfl ?_
        refine gf_X7_30 g dX7_mostOf_48 rfl (r := 17) rfl ?_
        refine st_iload g dX7_mostOf_51 rfl ?_
        refine st_iload_n g dX7_mostOf_53 rfl ?_
        obtain ⟨r6, hr6, H⟩ := bind_some H
        refine st_callVI g (as := [.ref 17, .int s.2.1, .int a2]) dX7_mostOf_54 rfl rfl ml_X7_156 mf_X7_worth rfl (Nat.le_of_ble_eq_true rfl) (Nat.le_of_ble_eq_true rfl) (c_X7_worth 17 s.2.1 a2 s.2.2 _ hr6) (fun hz => ?_)
        refine st_istore g dX7_mostOf_57 (Nat.le_of_ble_eq_true rfl) rfl (ls2 := [.ref 0, .int a1, .int a2, .int s.1, .int s.2.1, .int r6.1]) rfl ?_
        refine st_iload g dX7_mostOf_59 rfl ?_
        refine st_iload_n g dX7_mostOf_61 rfl ?_
        refine st_ic_le g dX7_mostOf_62 (tgt := 68) (by decide) H (fun q7 H => ?_) (fun q7 H => ?_)
        · refine st_iinc g dX7_mostOf_68 rfl (ii_1 _) (Nat.le_of_ble_eq_true rfl) rfl (ls2 := [.ref 0, .int a1, .int a2, .int s.1, .int (s.2.1 + 1), .int r6.1]) rfl ?_
          refine st_goto g dX7_mostOf_71 (tgt := 5) (by decide) ?_
          obtain rfl := Option.some.inj H
          exact (wa_drop [5] K)
        · refine st_iload g dX7_mostOf_65 rfl ?_
          refine st_istore_n g dX7_mostOf_67 (Nat.le_of_ble_eq_true rfl) rfl (ls2 := [.ref 0, .int a1, .int a2, .int r6.1, .int s.2.1, .int r6.1]) rfl ?_
          refine st_iinc g dX7_mostOf_68 rfl (ii_1 _) (Nat.le_of_ble_eq_true rfl) rfl (ls2 := [.ref 0, .int a1, .int a2, .int r6.1, .int (s.2.1 + 1), .int r6.1]) rfl ?_
          refine st_goto g dX7_mostOf_71 (tgt := 5) (by decide) ?_
          obtain rfl := Option.some.inj H
          exact (wa_drop [5] K)
      · refine st_goto g dX7_mostOf_43 (tgt := 68) (by decide) ?_
        refine st_iinc g dX7_mostOf_68 rfl (ii_1 _) (Nat.le_of_ble_eq_true rfl) rfl (ls2 := [.ref 0, .int a1, .int a2, .int s.1, .int (s.2.1 + 1), .null]) rfl ?_
        refine st_goto g dX7_mostOf_71 (tgt := 5) (by decide) ?_
        obtain rfl := Option.some.inj H
        exact K
def f_X7_mostOf (a1 : Int32) (a2 : Int32) (h : Hp) : Option (Int32 × Hp) :=
  (iter (b_X7_mostOf_5 a1 a2) FU (0, 0, h)).bind fun a8 =>
  some (a8.1, a8.2.2)
theorem t_X7_mostOf {x : Cx} (g : Gx x RX7 cX7_mostOf 6 4) (a1 : Int32) (a2 : Int32) (h : Hp) (out : (Int32 × Hp)) (H : f_X7_mostOf a1 a2 h = some out) (K : RtI x .int out.1 out.2) : WA x 0 [.ref 0, .int a1, .int a2, .null, .null, .null] [] h := by
  unfold f_X7_mostOf at H
  refine st_iconst g dX7_mostOf_0 ic_0 ?_
  refine st_istore_n g dX7_mostOf_1 (Nat.le_of_ble_eq_true rfl) rfl (ls2 := [.ref 0, .int a1, .int a2, .int 0, .null, .null]) rfl ?_
  refine st_iconst g dX7_mostOf_2 ic_0 ?_
  refine st_istore g dX7_mostOf_3 (Nat.le_of_ble_eq_true rfl) rfl (ls2 := [.ref 0, .int a1, .int a2, .int 0, .int 0, .null]) rfl ?_
  show P_X7_mostOf_5 x a1 a2 (0, 0, h)
  obtain ⟨a8, ha8, H⟩ := bind_some H
  refine iter_W (P := P_X7_mostOf_5 x a1 a2) (E := E_X7_mostOf_5 x a1 a2) (fun s9 o9 ho9 hK9 => tb_X7_mostOf_5 g a1 a2 s9 o9 ho9 hK9) FU _ a8 ha8 ?_
  show WA x 74 [.null, .null, .null, .int a8.1, .null, .null] [] a8.2.2
  refine st_iload_n g dX7_mostOf_74 rfl ?_
  obtain rfl := Option.some.inj H
  exact st_iret g dX7_mostOf_75 rfl (fun q => by cases q) K
theorem c_X7_mostOf (a1 : Int32) (a2 : Int32) (h : Hp) (r : (Int32 × Hp)) (H : f_X7_mostOf a1 a2 h = some r) : CtI yX7_mostOf cX7_mostOf 6 .int 4 [.ref 0, .int a1, .int a2] h r.1 r.2 :=
  ct_ofI (own := RX7) [.ref 0, .int a1, .int a2, .null, .null, .null] (by decide +kernel) rfl (fun ρ => Nat.le_of_ble_eq_true rfl) (fun ρ => rfl) (fun x g K => t_X7_mostOf g a1 a2 h r H K)
def f_X7_image (h : Hp) : Option (Int32 × Hp) :=
  (f_X5_become 21 13 h).bind fun r1 =>
  lt (stI r1 0 5 1) fun h2 =>
  lt (stI h2 0 6 (h2.1 1 3)) fun h3 =>
  (rdI h3 16 0).bind fun v4 =>
  some (v4, h3)
theorem t_X7_image {x : Cx} (g : Gx x RX7 cX7_image 1 4) (h : Hp) (out : (Int32 × Hp)) (H : f_X7_image h = some out) (K : RtI x .int out.1 out.2) : WA x 0 [.ref 0] [] h := by
  unfold f_X7_image at H
  refine st_aload_n g dX7_image_0 rfl ?_
  refine gf_X7_33 g dX7_image_1 rfl (r := 21) rfl ?_
  refine st_aload_n g dX7_image_4 rfl ?_
  refine gf_X7_26 g dX7_image_5 rfl (r := 13) rfl ?_
  obtain ⟨r1, hr1, H⟩ := bind_some H
  refine st_callVV g (as := [.ref 13]) dX7_image_8 rfl rfl ml_X7_187 mf_X5_become rfl (Nat.le_of_ble_eq_true rfl) (Nat.le_of_ble_eq_true rfl) (c_X5_become 21 13 h _ hr1) ?_
  refine st_aload_n g dX7_image_11 rfl ?_
  refine st_iconst g dX7_image_12 ic_1 ?_
  refine pu_X7_36 g dX7_image_13 rfl rfl rfl ?_
  refine wa_ltH H (fun h2 H => ?_)
  refine st_aload_n g dX7_image_16 rfl ?_
  refine st_aload_n g dX7_image_17 rfl ?_
  refine gf_X7_10 g dX7_image_18 rfl (r := 1) rfl ?_
  refine gf_X7_100 g dX7_image_21 rfl ?_
  refine pu_X7_40 g dX7_image_24 rfl ?_
  refine wa_ltH H (fun h3 H => ?_)
  refine st_aload_n g dX7_image_27 rfl ?_
  refine gf_X7_26 g dX7_image_28 rfl (r := 13) rfl ?_
  refine gf_X7_260 g dX7_image_31 rfl (r := 16) rfl ?_
  refine st_iconst g dX7_image_34 ic_0 ?_
  refine st_iald g dX7_image_35 H (fun v4 H => ?_)
  obtain rfl := Option.some.inj H
  exact st_iret g dX7_image_36 rfl (fun q => by cases q) K
theorem c_X7_image (h : Hp) (r : (Int32 × Hp)) (H : f_X7_image h = some r) : CtI yX7_image cX7_image 1 .int 4 [.ref 0] h r.1 r.2 :=
  ct_ofI (own := RX7) [.ref 0] (by decide +kernel) rfl (fun ρ => Nat.le_of_ble_eq_true rfl) (fun ρ => rfl) (fun x g K => t_X7_image g h r H K)
def f_X8_wrong (a1 : Int32) (a2 : Int32) (h : Hp) : Option (Int32 × Hp) :=
  if a1 < 0 then
    some ((-1), h)
  else
    (f_X8_isSuch (a1 / 10) (a1 % 10) a2 h).bind fun r2 =>
    if r2 = 0 then
      some ((-1), h)
    else
      if (h.1 53 4) = 12 then
        some ((-3), h)
      else
        (f_X8_newWrong (a1 / 10) (a1 % 10) a2 h).bind fun r5 =>
        some (r5.1, r5.2)
theorem t_X8_wrong {x : Cx} (g : Gx x RX8 cX8_wrong 3 4) (a1 : Int32) (a2 : Int32) (h : Hp) (out : (Int32 × Hp)) (H : f_X8_wrong a1 a2 h = some out) (K : RtI x .int out.1 out.2) : WA x 0 [.ref 53, .int a1, .int a2] [] h := by
  unfold f_X8_wrong at H
  refine st_iload_n g dX8_wrong_0 rfl ?_
  refine st_if_lt g dX8_wrong_1 (tgt := 20) (by decide) H (fun q1 H => ?_) (fun q1 H => ?_)
  · refine st_iconst g dX8_wrong_20 ic_m1 ?_
    obtain rfl := Option.some.inj H
    exact st_iret g dX8_wrong_21 rfl (fun q => by cases q) K
  · refine st_aload_n g dX8_wrong_4 rfl ?_
    refine st_iload_n g dX8_wrong_5 rfl ?_
    refine st_bipush g dX8_wrong_6 bi_10 ?_
    refine st_idiv g dX8_wrong_8 (by decide) ?_
    refine st_iload_n g dX8_wrong_9 rfl ?_
    refine st_bipush g dX8_wrong_10 bi_10 ?_
    refine st_irem g dX8_wrong_12 (by decide) ?_
    refine st_iload_n g dX8_wrong_13 rfl ?_
    obtain ⟨r2, hr2, H⟩ := bind_some H
    refine st_callVI g (as := [.int (a1 / 10), .int (a1 % 10), .int a2]) dX8_wrong_14 rfl rfl ml_X8_130 mf_X8_isSuch rfl (Nat.le_of_ble_eq_true rfl) (Nat.le_of_ble_eq_true rfl) (c_X8_isSuch (a1 / 10) (a1 % 10) a2 h _ hr2) (fun hz => ?_)
    have br2 := hz rfl
    refine st_if_ne g dX8_wrong_17 (tgt := 22) (by decide) H (fun q3 H => ?_) (fun q3 H => ?_)
    · refine st_aload_n g dX8_wrong_22 rfl ?_
      refine gf_X8_117 g dX8_wrong_23 rfl ?_
      refine st_bipush g dX8_wrong_26 bi_12 ?_
      refine st_ic_ne g dX8_wrong_28 (tgt := 36) (by decide) H (fun q4 H => ?_) (fun q4 H => ?_)
      · refine st_aload_n g dX8_wrong_36 rfl ?_
        refine st_iload_n g dX8_wrong_37 rfl ?_
        refine st_bipush g dX8_wrong_38 bi_10 ?_
        refine st_idiv g dX8_wrong_40 (by decide) ?_
        refine st_iload_n g dX8_wrong_41 rfl ?_
        refine st_bipush g dX8_wrong_42 bi_10 ?_
        refine st_irem g dX8_wrong_44 (by decide) ?_
        refine st_iload_n g dX8_wrong_45 rfl ?_
        obtain ⟨r5, hr5, H⟩ := bind_some H
        refine st_callVI g (as := [.int (a1 / 10), .int (a1 % 10), .int a2]) dX8_wrong_46 rfl rfl ml_X8_133 mf_X8_newWrong rfl (Nat.le_of_ble_eq_true rfl) (Nat.le_of_ble_eq_true rfl) (c_X8_newWrong (a1 / 10) (a1 % 10) a2 h _ hr5) (fun hz => ?_)
        obtain rfl := Option.some.inj H
        exact st_iret g dX8_wrong_49 rfl (fun q => by cases q) K
      · refine st_bipush g dX8_wrong_31 bi_m3 ?_
        refine st_goto g dX8_wrong_33 (tgt := 49) (by decide) ?_
        obtain rfl := Option.some.inj H
        exact st_iret g dX8_wrong_49 rfl (fun q => by cases q) K
    · refine st_iconst g dX8_wrong_20 ic_m1 ?_
      obtain rfl := Option.some.inj H
      exact st_iret g dX8_wrong_21 rfl (fun q => by cases q) K
theorem c_X8_wrong (a1 : Int32) (a2 : Int32) (h : Hp) (r : (Int32 × Hp)) (H : f_X8_wrong a1 a2 h = some r) : CtI yX8_wrong cX8_wrong 3 .int 4 [.ref 53, .int a1, .int a2] h r.1 r.2 :=
  ct_ofI (own := RX8) [.ref 53, .int a1, .int a2] (by decide +kernel) rfl (fun ρ => Nat.le_of_ble_eq_true rfl) (fun ρ => rfl) (fun x g K => t_X8_wrong g a1 a2 h r H K)
def P_X8_wrongs_49 (x : Cx) (a1 : Int32) (a2 : Int32) (a3 : Int32) (s : (Int32 × Int32 × Hp)) : Prop := WA x 49 [.ref 53, .int a1, .int a2, .int a3, .int s.1, .int s.2.1, .null, .null, .null] [] s.2.2
def E_X8_wrongs_49 (x : Cx) (a1 : Int32) (a2 : Int32) (a3 : Int32) : (Int32 × Int32 × Hp) ⊕ (Int32 × Hp) → Prop := Sum.elim (fun s : (Int32 × Int32 × Hp) => WA x 182 [.null, .null, .null, .null, .int s.1, .null, .null, .null, .null] [] s.2.2) (fun r : (Int32 × Hp) => RtI x .int r.1 r.2)
def b_X8_wrongs_49 (a1 : Int32) (a2 : Int32) (a3 : Int32) (s : (Int32 × Int32 × Hp)) : Option ((Int32 × Int32 × Hp) ⊕ ((Int32 × Int32 × Hp) ⊕ (Int32 × Hp))) :=
  if a3 ≤ s.2.1 then
    some (.inr (.inl (s.1, s.2.1, s.2.2)))
  else
    if (lg_cmp (a2.toInt64 + (3 * s.2.1.toInt64)) 0) < 0 then
      some (.inr (.inr (s.1, s.2.2)))
    else
      (rdI s.2.2 80 a1).bind fun v11 =>
      if 0 < (lg_cmp ((a2.toInt64 + (3 * s.2.1.toInt64)) + 3) v11.toInt64) then
        some (.inr (.inr (s.1, s.2.2)))
      else
        if (s.2.2.1 53 4) = 12 then
          some (.inr (.inr (s.1, s.2.2)))
        else
          (f_X8_toldAt a1 ((a2.toInt64 + (3 * s.2.1.toInt64)).toInt32) s.2.2).bind fun r14 =>
          (f_X8_toldAt a1 (((a2.toInt64 + (3 * s.2.1.toInt64)).toInt32) + 1) s.2.2).bind fun r15 =>
          (f_X8_toldAt a1 (((a2.toInt64 + (3 * s.2.1.toInt64)).toInt32) + 2) s.2.2).bind fun r16 =>
          (f_X8_isSuch r14 r15 r16 s.2.2).bind fun r17 =>
          if r17 = 0 then
            some (.inr (.inr (s.1, s.2.2)))
          else
            (f_X8_toldAt a1 ((a2.toInt64 + (3 * s.2.1.toInt64)).toInt32) s.2.2).bind fun r19 =>
            (f_X8_toldAt a1 (((a2.toInt64 + (3 * s.2.1.toInt64)).toInt32) + 1) s.2.2).bind fun r20 =>
            (f_X8_toldAt a1 (((a2.toInt64 + (3 * s.2.1.toInt64)).toInt32) + 2) s.2.2).bind fun r21 =>
            (f_X8_newWrong r19 r20 r21 s.2.2).bind fun r22 =>
            some (.inl (s.1 + 1, s.2.1 + 1, r22.2))
theorem tb_X8_wrongs_49 {x : Cx} (g : Gx x RX8 cX8_wrongs 9 4) (a1 : Int32) (a2 : Int32) (a3 : Int32) (s : (Int32 × Int32 × Hp)) (out : (Int32 × Int32 × Hp) ⊕ ((Int32 × Int32 × Hp) ⊕ (Int32 × Hp))) (H : b_X8_wrongs_49 a1 a2 a3 s = some out) (K : Sum.elim (P_X8_wrongs_49 x a1 a2 a3) (E_X8_wrongs_49 x a1 a2 a3) out) : P_X8_wrongs_49 x a1 a2 a3 s := by
  unfold b_X8_wrongs_49 at H
  show WA x 49 [.ref 53, .int a1, .int a2, .int a3, .int s.1, .int s.2.1, .null, .null, .null] [] s.2.2
  refine st_iload g dX8_wrongs_49 rfl ?_
  refine st_iload_n g dX8_wrongs_51 rfl ?_
  refine st_ic_ge g dX8_wrongs_52 (tgt := 182) (by decide) H (fun q9 H => ?_) (fun q9 H => ?_)
  · obtain rfl := Option.some.inj H
    exact (wa_drop [0, 1, 2, 3, 5] K)
  · refine st_iload_n g dX8_wrongs_55 rfl ?_
    refine st_i2l g dX8_wrongs_56 ?_
    refine st_ldc2 g dX8_wrongs_57 kn_X8_140 ?_
    refine st_iload g dX8_wrongs_60 rfl ?_
    refine st_i2l g dX8_wrongs_62 ?_
    refine st_lmul g dX8_wrongs_63 ?_
    refine st_ladd g dX8_wrongs_64 ?_
    refine st_lstore g dX8_wrongs_65 (Nat.le_of_ble_eq_true rfl) rfl (ls2 := [.ref 53, .int a1, .int a2, .int a3, .int s.1, .int s.2.1, .long (a2.toInt64 + (3 * s.2.1.toInt64)), .null, .null]) rfl ?_
    refine st_lload g dX8_wrongs_67 rfl ?_
    refine st_lconst g dX8_wrongs_69 lc_0 ?_
    refine st_lcmp g dX8_wrongs_70 ?_
    refine st_if_lt g dX8_wrongs_71 (tgt := 100) (by decide) H (fun q10 H => ?_) (fun q10 H => ?_)
    · refine st_iload g dX8_wrongs_100 rfl ?_
      obtain rfl := Option.some.inj H
      exact st_iret g dX8_wrongs_102 rfl (fun q => by cases q) K
    · refine st_lload g dX8_wrongs_74 rfl ?_
      refine st_ldc2 g dX8_wrongs_76 kn_X8_140 ?_
      refine st_ladd g dX8_wrongs_79 ?_
      refine st_aload_n g dX8_wrongs_80 rfl ?_
      refine gf_X8_90 g dX8_wrongs_81 rfl (r := 80) rfl ?_
      refine st_iload_n g dX8_wrongs_84 rfl ?_
      refine st_iald g dX8_wrongs_85 H (fun v11 H => ?_)
      refine st_i2l g dX8_wrongs_86 ?_
      refine st_lcmp g dX8_wrongs_87 ?_
      refine st_if_gt g dX8_wrongs_88 (tgt := 100) (by decide) H (fun q12 H => ?_) (fun q12 H => ?_)
      · refine st_iload g dX8_wrongs_100 rfl ?_
        obtain rfl := Option.some.inj H
        exact st_iret g dX8_wrongs_102 rfl (fun q => by cases q) K
      · refine st_aload_n g dX8_wrongs_91 rfl ?_
        refine gf_X8_117 g dX8_wrongs_92 rfl ?_
        refine st_bipush g dX8_wrongs_95 bi_12 ?_
        refine st_ic_ne g dX8_wrongs_97 (tgt := 103) (by decide) H (fun q13 H => ?_) (fun q13 H => ?_)
        · refine st_lload g dX8_wrongs_103 rfl ?_
          refine st_l2i g dX8_wrongs_105 ?_
          refine st_istore g dX8_wrongs_106 (Nat.le_of_ble_eq_true rfl) rfl (ls2 := [.ref 53, .int a1, .int a2, .int a3, .int s.1, .int s.2.1, .long (a2.toInt64 + (3 * s.2.1.toInt64)), .null, .int ((a2.toInt64 + (3 * s.2.1.toInt64)).toInt32)]) rfl ?_
          refine st_aload_n g dX8_wrongs_108 rfl ?_
          refine st_aload_n g dX8_wrongs_109 rfl ?_
          refine st_iload_n g dX8_wrongs_110 rfl ?_
          refine st_iload g dX8_wrongs_111 rfl ?_
          obtain ⟨r14, hr14, H⟩ := bind_some H
          refine st_callVI g (as := [.int a1, .int ((a2.toInt64 + (3 * s.2.1.toInt64)).toInt32)]) dX8_wrongs_113 rfl rfl ml_X8_142 mf_X8_toldAt rfl (Nat.le_of_ble_eq_true rfl) (Nat.le_of_ble_eq_true rfl) (c_X8_toldAt a1 ((a2.toInt64 + (3 * s.2.1.toInt64)).toInt32) s.2.2 _ hr14) (fun hz => ?_)
          refine st_aload_n g dX8_wrongs_116 rfl ?_
          refine st_iload_n g dX8_wrongs_117 rfl ?_
          refine st_iload g dX8_wrongs_118 rfl ?_
          refine st_iconst g dX8_wrongs_120 ic_1 ?_
          refine st_iadd g dX8_wrongs_121 ?_
          obtain ⟨r15, hr15, H⟩ := bind_some H
          refine st_callVI g (as := [.int a1, .int (((a2.toInt64 + (3 * s.2.1.toInt64)).toInt32) + 1)]) dX8_wrongs_122 rfl rfl ml_X8_142 mf_X8_toldAt rfl (Nat.le_of_ble_eq_true rfl) (Nat.le_of_ble_eq_true rfl) (c_X8_toldAt a1 (((a2.toInt64 + (3 * s.2.1.toInt64)).toInt32) + 1) s.2.2 _ hr15) (fun hz => ?_)
          refine st_aload_n g dX8_wrongs_125 rfl ?_
          refine st_iload_n g dX8_wrongs_126 rfl ?_
          refine st_iload g dX8_wrongs_127 rfl ?_
          refine st_iconst g dX8_wrongs_129 ic_2 ?_
          refine st_iadd g dX8_wrongs_130 ?_
          obtain ⟨r16, hr16, H⟩ := bind_some H
          refine st_callVI g (as := [.int a1, .int (((a2.toInt64 + (3 * s.2.1.toInt64)).toInt32) + 2)]) dX8_wrongs_131 rfl rfl ml_X8_142 mf_X8_toldAt rfl (Nat.le_of_ble_eq_true rfl) (Nat.le_of_ble_eq_true rfl) (c_X8_toldAt a1 (((a2.toInt64 + (3 * s.2.1.toInt64)).toInt32) + 2) s.2.2 _ hr16) (fun hz => ?_)
          obtain ⟨r17, hr17, H⟩ := bind_some H
          refine st_callVI g (as := [.int r14, .int r15, .int r16]) dX8_wrongs_134 rfl rfl ml_X8_130 mf_X8_isSuch rfl (Nat.le_of_ble_eq_true rfl) (Nat.le_of_ble_eq_true rfl) (c_X8_isSuch r14 r15 r16 s.2.2 _ hr17) (fun hz => ?_)
          have br17 := hz rfl
          refine st_if_ne g dX8_wrongs_137 (tgt := 143) (by decide) H (fun q18 H => ?_) (fun q18 H => ?_)
          · refine st_aload_n g dX8_wrongs_143 rfl ?_
            refine st_aload_n g dX8_wrongs_144 rfl ?_
            refine st_iload_n g dX8_wrongs_145 rfl ?_
            refine st_iload g dX8_wrongs_146 rfl ?_
            obtain ⟨r19, hr19, H⟩ := bind_some H
            refine st_callVI g (as := [.int a1, .int ((a2.toInt64 + (3 * s.2.1.toInt64)).toInt32)]) dX8_wrongs_148 rfl rfl ml_X8_142 mf_X8_toldAt rfl (Nat.le_of_ble_eq_true rfl) (Nat.le_of_ble_eq_true rfl) (c_X8_toldAt a1 ((a2.toInt64 + (3 * s.2.1.toInt64)).toInt32) s.2.2 _ hr19) (fun hz => ?_)
            refine st_aload_n g dX8_wrongs_151 rfl ?_
            refine st_iload_n g dX8_wrongs_152 rfl ?_
            refine st_iload g dX8_wrongs_153 rfl ?_
            refine st_iconst g dX8_wrongs_155 ic_1 ?_
            refine st_iadd g dX8_wrongs_156 ?_
            obtain ⟨r20, hr20, H⟩ := bind_some H
            refine st_callVI g (as := [.int a1, .int (((a2.toInt64 + (3 * s.2.1.toInt64)).toInt32) + 1)]) dX8_wrongs_157 rfl rfl ml_X8_142 mf_X8_toldAt rfl (Nat.le_of_ble_eq_true rfl) (Nat.le_of_ble_eq_true rfl) (c_X8_toldAt a1 (((a2.toInt64 + (3 * s.2.1.toInt64)).toInt32) + 1) s.2.2 _ hr20) (fun hz => ?_)
            refine st_aload_n g dX8_wrongs_160 rfl ?_
            refine st_iload_n g dX8_wrongs_161 rfl ?_
            refine st_iload g dX8_wrongs_162 rfl ?_
            refine st_iconst g dX8_wrongs_164 ic_2 ?_
            refine st_iadd g dX8_wrongs_165 ?_
            obtain ⟨r21, hr21, H⟩ := bind_some H
            refine st_callVI g (as := [.int a1, .int (((a2.toInt64 + (3 * s.2.1.toInt64)).toInt32) + 2)]) dX8_wrongs_166 rfl rfl ml_X8_142 mf_X8_toldAt rfl (Nat.le_of_ble_eq_true rfl) (Nat.le_of_ble_eq_true rfl) (c_X8_toldAt a1 (((a2.toInt64 + (3 * s.2.1.toInt64)).toInt32) + 2) s.2.2 _ hr21) (fun hz => ?_)
            obtain ⟨r22, hr22, H⟩ := bind_some H
            refine st_callVI g (as := [.int r19, .int r20, .int r21]) dX8_wrongs_169 rfl rfl ml_X8_133 mf_X8_newWrong rfl (Nat.le_of_ble_eq_true rfl) (Nat.le_of_ble_eq_true rfl) (c_X8_newWrong r19 r20 r21 s.2.2 _ hr22) (fun hz => ?_)
            refine st_pop g dX8_wrongs_172 rfl ?_
            refine st_iinc g dX8_wrongs_173 rfl (ii_1 _) (Nat.le_of_ble_eq_true rfl) rfl (ls2 := [.ref 53, .int a1, .int a2, .int a3, .int (s.1 + 1), .int s.2.1, .long (a2.toInt64 + (3 * s.2.1.toInt64)), .null, .int ((a2.toInt64 + (3 * s.2.1.toInt64)).toInt32)]) rfl ?_
            refine st_iinc g dX8_wrongs_176 rfl (ii_1 _) (Nat.le_of_ble_eq_true rfl) rfl (ls2 := [.ref 53, .int a1, .int a2, .int a3, .int (s.1 + 1), .int (s.2.1 + 1), .long (a2.toInt64 + (3 * s.2.1.toInt64)), .null, .int ((a2.toInt64 + (3 * s.2.1.toInt64)).toInt32)]) rfl ?_
            refine st_goto g dX8_wrongs_179 (tgt := 49) (by decide) ?_
            obtain rfl := Option.some.inj H
            exact (wa_drop [6, 8] K)
          · refine st_iload g dX8_wrongs_140 rfl ?_
            obtain rfl := Option.some.inj H
            exact st_iret g dX8_wrongs_142 rfl (fun q => by cases q) K
        · refine st_iload g dX8_wrongs_100 rfl ?_
          obtain rfl := Option.some.inj H
          exact st_iret g dX8_wrongs_102 rfl (fun q => by cases q) K
def f_X8_wrongs (a1 : Int32) (a2 : Int32) (a3 : Int32) (h : Hp) : Option (Int32 × Hp) :=
  (f_X8_isShelf a1).bind fun r1 =>
  if r1 = 0 then
    some ((-1), h)
  else
    (f_X8_within a3 1 12).bind fun r3 =>
    if r3 = 0 then
      some ((-1), h)
    else
      (rdI h 79 a1).bind fun v5 =>
      if v5 = (-1) then
        some (0, h)
      else
        (rdI h 79 a1).bind fun v7 =>
        if v7 = 0 then
          (iter (b_X8_wrongs_49 a1 a2 a3) FU (0, 0, h)).bind (Sum.elim (fun a23 =>
            some (a23.1, a23.2.2)) (fun r => some r))
        else
          some ((-12), h)
theorem t_X8_wrongs {x : Cx} (g : Gx x RX8 cX8_wrongs 9 4) (a1 : Int32) (a2 : Int32) (a3 : Int32) (h : Hp) (out : (Int32 × Hp)) (H : f_X8_wrongs a1 a2 a3 h = some out) (K : RtI x .int out.1 out.2) : WA x 0 [.ref 53, .int a1, .int a2, .int a3, .null, .null, .null, .null, .null] [] h := by
  unfold f_X8_wrongs at H
  refine st_iload_n g dX8_wrongs_0 rfl ?_
  obtain ⟨r1, hr1, H⟩ := bind_some H
  refine st_callSI g (as := [.int a1]) dX8_wrongs_1 ml_X8_137 mf_X8_isShelf rfl (Nat.le_of_ble_eq_true rfl) (Nat.le_of_ble_eq_true rfl) (c_X8_isShelf a1 h _ hr1) (fun hz => ?_)
  have br1 := hz rfl
  refine st_if_eq g dX8_wrongs_4 (tgt := 17) (by decide) H (fun q2 H => ?_) (fun q2 H => ?_)
  · refine st_iconst g dX8_wrongs_17 ic_m1 ?_
    obtain rfl := Option.some.inj H
    exact st_iret g dX8_wrongs_18 rfl (fun q => by cases q) K
  · refine st_iload_n g dX8_wrongs_7 rfl ?_
    refine st_iconst g dX8_wrongs_8 ic_1 ?_
    refine st_bipush g dX8_wrongs_9 bi_12 ?_
    obtain ⟨r3, hr3, H⟩ := bind_some H
    refine st_callSI g (as := [.int a3, .int 1, .int 12]) dX8_wrongs_11 ml_X8_109 mf_X8_within rfl (Nat.le_of_ble_eq_true rfl) (Nat.le_of_ble_eq_true rfl) (c_X8_within a3 1 12 h _ hr3) (fun hz => ?_)
    have br3 := hz rfl
    refine st_if_ne g dX8_wrongs_14 (tgt := 19) (by decide) H (fun q4 H => ?_) (fun q4 H => ?_)
    · refine st_aload_n g dX8_wrongs_19 rfl ?_
      refine gf_X8_87 g dX8_wrongs_20 rfl (r := 79) rfl ?_
      refine st_iload_n g dX8_wrongs_23 rfl ?_
      refine st_iald g dX8_wrongs_24 H (fun v5 H => ?_)
      refine st_iconst g dX8_wrongs_25 ic_m1 ?_
      refine st_ic_ne g dX8_wrongs_26 (tgt := 31) (by decide) H (fun q6 H => ?_) (fun q6 H => ?_)
      · refine st_aload_n g dX8_wrongs_31 rfl ?_
        refine gf_X8_87 g dX8_wrongs_32 rfl (r := 79) rfl ?_
        refine st_iload_n g dX8_wrongs_35 rfl ?_
        refine st_iald g dX8_wrongs_36 H (fun v7 H => ?_)
        refine st_if_eq g dX8_wrongs_37 (tgt := 43) (by decide) H (fun q8 H => ?_) (fun q8 H => ?_)
        · refine st_iconst g dX8_wrongs_43 ic_0 ?_
          refine st_istore g dX8_wrongs_44 (Nat.le_of_ble_eq_true rfl) rfl (ls2 := [.ref 53, .int a1, .int a2, .int a3, .int 0, .null, .null, .null, .null]) rfl ?_
          refine st_iconst g dX8_wrongs_46 ic_0 ?_
          refine st_istore g dX8_wrongs_47 (Nat.le_of_ble_eq_true rfl) rfl (ls2 := [.ref 53, .int a1, .int a2, .int a3, .int 0, .int 0, .null, .null, .null]) rfl ?_
          show P_X8_wrongs_49 x a1 a2 a3 (0, 0, h)
          obtain ⟨a23o, ha23, hca23⟩ := it_R H
          refine iter_W (P := P_X8_wrongs_49 x a1 a2 a3) (E := E_X8_wrongs_49 x a1 a2 a3) (fun s9 o9 ho9 hK9 => tb_X8_wrongs_49 g a1 a2 a3 s9 o9 ho9 hK9) FU _ a23o ha23 ?_
          rcases hca23 with ⟨a23, rfl, H⟩ | ⟨r, rfl, H⟩
          · show WA x 182 [.null, .null, .null, .null, .int a23.1, .null, .null, .null, .null] [] a23.2.2
            refine st_iload g dX8_wrongs_182 rfl ?_
            obtain rfl := Option.some.inj H
            exact st_iret g dX8_wrongs_184 rfl (fun q => by cases q) K
          · obtain rfl := Option.some.inj H
            exact K
        · refine st_bipush g dX8_wrongs_40 bi_m12 ?_
          obtain rfl := Option.some.inj H
          exact st_iret g dX8_wrongs_42 rfl (fun q => by cases q) K
      · refine st_iconst g dX8_wrongs_29 ic_0 ?_
        obtain rfl := Option.some.inj H
        exact st_iret g dX8_wrongs_30 rfl (fun q => by cases q) K
    · refine st_iconst g dX8_wrongs_17 ic_m1 ?_
      obtain rfl := Option.some.inj H
      exact st_iret g dX8_wrongs_18 rfl (fun q => by cases q) K
theorem c_X8_wrongs (a1 : Int32) (a2 : Int32) (a3 : Int32) (h : Hp) (r : (Int32 × Hp)) (H : f_X8_wrongs a1 a2 a3 h = some r) : CtI yX8_wrongs cX8_wrongs 9 .int 4 [.ref 53, .int a1, .int a2, .int a3] h r.1 r.2 :=
  ct_ofI (own := RX8) [.ref 53, .int a1, .int a2, .int a3, .null, .null, .null, .null, .null] (by decide +kernel) rfl (fun ρ => Nat.le_of_ble_eq_true rfl) (fun ρ => rfl) (fun x g K => t_X8_wrongs g a1 a2 a3 h r H K)
def j_X8_mend_96 (a1 : Int32) (a2 : Int32) (a3 : Int32) (a4 : Int32) (h : Hp) : Option ((Int32 × Hp)) :=
  (wrI h 76 (4 * (h.1 53 35)) a1).bind fun h9 =>
  (wrI h9 76 ((4 * (h9.1 53 35)) + 1) a2).bind fun h10 =>
  (wrI h10 76 ((4 * (h10.1 53 35)) + 2) a4).bind fun h11 =>
  (wrI h11 76 ((4 * (h11.1 53 35)) + 3) a3).bind fun h12 =>
  lt (stI h12 53 35 ((h12.1 53 35) + 1)) fun h13 =>
  lt (stI h13 53 34 (h13.1 53 35)) fun h14 =>
  some (a4, h14)
theorem tj_X8_mend_96 {x : Cx} (g : Gx x RX8 cX8_mend 6 4) (a1 : Int32) (a2 : Int32) (a3 : Int32) (a4 : Int32) (h : Hp) (out : (Int32 × Hp)) (H : j_X8_mend_96 a1 a2 a3 a4 h = some out) (K : RtI x .int out.1 out.2) : WA x 96 [.ref 53, .int a1, .int a2, .int a3, .int a4, .null] [] h := by
  unfold j_X8_mend_96 at H
  refine st_aload_n g dX8_mend_96 rfl ?_
  refine gf_X8_78 g dX8_mend_97 rfl (r := 76) rfl ?_
  refine st_iconst g dX8_mend_100 ic_4 ?_
  refine st_aload_n g dX8_mend_101 rfl ?_
  refine gf_X8_164 g dX8_mend_102 rfl ?_
  refine st_imul g dX8_mend_105 ?_
  refine st_iload_n g dX8_mend_106 rfl ?_
  refine st_iast g dX8_mend_107 H (fun h9 H => ?_)
  refine st_aload_n g dX8_mend_108 rfl ?_
  refine gf_X8_78 g dX8_mend_109 rfl (r := 76) rfl ?_
  refine st_iconst g dX8_mend_112 ic_4 ?_
  refine st_aload_n g dX8_mend_113 rfl ?_
  refine gf_X8_164 g dX8_mend_114 rfl ?_
  refine st_imul g dX8_mend_117 ?_
  refine st_iconst g dX8_mend_118 ic_1 ?_
  refine st_iadd g dX8_mend_119 ?_
  refine st_iload_n g dX8_mend_120 rfl ?_
  refine st_iast g dX8_mend_121 H (fun h10 H => ?_)
  refine st_aload_n g dX8_mend_122 rfl ?_
  refine gf_X8_78 g dX8_mend_123 rfl (r := 76) rfl ?_
  refine st_iconst g dX8_mend_126 ic_4 ?_
  refine st_aload_n g dX8_mend_127 rfl ?_
  refine gf_X8_164 g dX8_mend_128 rfl ?_
  refine st_imul g dX8_mend_131 ?_
  refine st_iconst g dX8_mend_132 ic_2 ?_
  refine st_iadd g dX8_mend_133 ?_
  refine st_iload g dX8_mend_134 rfl ?_
  refine st_iast g dX8_mend_136 H (fun h11 H => ?_)
  refine st_aload_n g dX8_mend_137 rfl ?_
  refine gf_X8_78 g dX8_mend_138 rfl (r := 76) rfl ?_
  refine st_iconst g dX8_mend_141 ic_4 ?_
  refine st_aload_n g dX8_mend_142 rfl ?_
  refine gf_X8_164 g dX8_mend_143 rfl ?_
  refine st_imul g dX8_mend_146 ?_
  refine st_iconst g dX8_mend_147 ic_3 ?_
  refine st_iadd g dX8_mend_148 ?_
  refine st_iload_n g dX8_mend_149 rfl ?_
  refine st_iast g dX8_mend_150 H (fun h12 H => ?_)
  refine st_aload_n g dX8_mend_151 rfl ?_
  refine st_dup g dX8_mend_152 rfl ?_
  refine gf_X8_164 g dX8_mend_153 rfl ?_
  refine st_iconst g dX8_mend_156 ic_1 ?_
  refine st_iadd g dX8_mend_157 ?_
  refine pu_X8_164 g dX8_mend_158 rfl ?_
  refine wa_ltH H (fun h13 H => ?_)
  refine st_aload_n g dX8_mend_161 rfl ?_
  refine st_aload_n g dX8_mend_162 rfl ?_
  refine gf_X8_164 g dX8_mend_163 rfl ?_
  refine pu_X8_167 g dX8_mend_166 rfl ?_
  refine wa_ltH H (fun h14 H => ?_)
  refine st_iload g dX8_mend_169 rfl ?_
  obtain rfl := Option.some.inj H
  exact st_iret g dX8_mend_171 rfl (fun q => by cases q) K
def P_X8_mend_56 (x : Cx) (a1 : Int32) (a2 : Int32) (a3 : Int32) (a4 : Int32) (s : (Int32 × Hp)) : Prop := WA x 56 [.ref 53, .int a1, .int a2, .int a3, .int a4, .int s.1] [] s.2
def E_X8_mend_56 (x : Cx) (a1 : Int32) (a2 : Int32) (a3 : Int32) (a4 : Int32) : (Int32 × Hp) → Prop := fun s : (Int32 × Hp) => WA x 86 [.ref 53, .int a1, .int a2, .int a3, .int a4, .null] [] s.2
def b_X8_mend_56 (a1 : Int32) (a2 : Int32) (a3 : Int32) (a4 : Int32) (s : (Int32 × Hp)) : Option ((Int32 × Hp) ⊕ (Int32 × Hp)) :=
  if 156 ≤ s.1 then
    some (.inr (s.1, s.2))
  else
    (rdI s.2 76 (s.1 + 4)).bind fun v16 =>
    (wrI s.2 76 s.1 v16).bind fun h17 =>
    some (.inl (s.1 + 1, h17))
theorem tb_X8_mend_56 {x : Cx} (g : Gx x RX8 cX8_mend 6 4) (a1 : Int32) (a2 : Int32) (a3 : Int32) (a4 : Int32) (s : (Int32 × Hp)) (out : (Int32 × Hp) ⊕ (Int32 × Hp)) (H : b_X8_mend_56 a1 a2 a3 a4 s = some out) (K : Sum.elim (P_X8_mend_56 x a1 a2 a3 a4) (E_X8_mend_56 x a1 a2 a3 a4) out) : P_X8_mend_56 x a1 a2 a3 a4 s := by
  unfold b_X8_mend_56 at H
  show WA x 56 [.ref 53, .int a1, .int a2, .int a3, .int a4, .int s.1] [] s.2
  refine st_iload g dX8_mend_56 rfl ?_
  refine st_sipush g dX8_mend_58 si_156 ?_
  refine st_ic_ge g dX8_mend_61 (tgt := 86) (by decide) H (fun q15 H => ?_) (fun q15 H => ?_)
  · obtain rfl := Option.some.inj H
    exact (wa_drop [5] K)
  · refine st_aload_n g dX8_mend_64 rfl ?_
    refine gf_X8_78 g dX8_mend_65 rfl (r := 76) rfl ?_
    refine st_iload g dX8_mend_68 rfl ?_
    refine st_aload_n g dX8_mend_70 rfl ?_
    refine gf_X8_78 g dX8_mend_71 rfl (r := 76) rfl ?_
    refine st_iload g dX8_mend_74 rfl ?_
    refine st_iconst g dX8_mend_76 ic_4 ?_
    refine st_iadd g dX8_mend_77 ?_
    refine st_iald g dX8_mend_78 H (fun v16 H => ?_)
    refine st_iast g dX8_mend_79 H (fun h17 H => ?_)
    refine st_iinc g dX8_mend_80 rfl (ii_1 _) (Nat.le_of_ble_eq_true rfl) rfl (ls2 := [.ref 53, .int a1, .int a2, .int a3, .int a4, .int (s.1 + 1)]) rfl ?_
    refine st_goto g dX8_mend_83 (tgt := 56) (by decide) ?_
    obtain rfl := Option.some.inj H
    exact K
def f_X8_mend (a1 : Int32) (a2 : Int32) (a3 : Int32) (h : Hp) : Option (Int32 × Hp) :=
  (f_X8_isOf a1 a2 h).bind fun r1 =>
  if r1 = 0 then
    some ((-2000000000), h)
  else
    (f_X8_isFit a2 a3).bind fun r3 =>
    if r3 = 0 then
      some ((-2000000000), h)
    else
      (f_X8_get a1 a2 h).bind fun r5 =>
      if r5 = a3 then
        some (r5, h)
      else
        (f_X8_becomes a1 a2 a3 h).bind fun r7 =>
        if (r7.1 53 35) = 40 then
          (iter (b_X8_mend_56 a1 a2 a3 r5) FU (0, r7)).bind fun a18 =>
          lt (stI a18.2 53 35 ((a18.2.1 53 35) - 1)) fun h19 =>
          j_X8_mend_96 a1 a2 a3 r5 h19
        else
          j_X8_mend_96 a1 a2 a3 r5 r7
theorem t_X8_mend {x : Cx} (g : Gx x RX8 cX8_mend 6 4) (a1 : Int32) (a2 : Int32) (a3 : Int32) (h : Hp) (out : (Int32 × Hp)) (H : f_X8_mend a1 a2 a3 h = some out) (K : RtI x .int out.1 out.2) : WA x 0 [.ref 53, .int a1, .int a2, .int a3, .null, .null] [] h := by
  unfold f_X8_mend at H
  refine st_aload_n g dX8_mend_0 rfl ?_
  refine st_iload_n g dX8_mend_1 rfl ?_
  refine st_iload_n g dX8_mend_2 rfl ?_
  obtain ⟨r1, hr1, H⟩ := bind_some H
  refine st_callVI g (as := [.int a1, .int a2]) dX8_mend_3 rfl rfl ml_X8_149 mf_X8_isOf rfl (Nat.le_of_ble_eq_true rfl) (Nat.le_of_ble_eq_true rfl) (c_X8_isOf a1 a2 h _ hr1) (fun hz => ?_)
  have br1 := hz rfl
  refine st_if_eq g dX8_mend_6 (tgt := 17) (by decide) H (fun q2 H => ?_) (fun q2 H => ?_)
  · refine st_ldc g dX8_mend_17 kc_X8_156 ?_
    obtain rfl := Option.some.inj H
    exact st_iret g dX8_mend_19 rfl (fun q => by cases q) K
  · refine st_iload_n g dX8_mend_9 rfl ?_
    refine st_iload_n g dX8_mend_10 rfl ?_
    obtain ⟨r3, hr3, H⟩ := bind_some H
    refine st_callSI g (as := [.int a2, .int a3]) dX8_mend_11 ml_X8_153 mf_X8_isFit rfl (Nat.le_of_ble_eq_true rfl) (Nat.le_of_ble_eq_true rfl) (c_X8_isFit a2 a3 h _ hr3) (fun hz => ?_)
    have br3 := hz rfl
    refine st_if_ne g dX8_mend_14 (tgt := 20) (by decide) H (fun q4 H => ?_) (fun q4 H => ?_)
    · refine st_aload_n g dX8_mend_20 rfl ?_
      refine st_iload_n g dX8_mend_21 rfl ?_
      refine st_iload_n g dX8_mend_22 rfl ?_
      obtain ⟨r5, hr5, H⟩ := bind_some H
      refine st_callVI g (as := [.int a1, .int a2]) dX8_mend_23 rfl rfl ml_X8_157 mf_X8_get rfl (Nat.le_of_ble_eq_true rfl) (Nat.le_of_ble_eq_true rfl) (c_X8_get a1 a2 h _ hr5) (fun hz => ?_)
      refine st_istore g dX8_mend_26 (Nat.le_of_ble_eq_true rfl) rfl (ls2 := [.ref 53, .int a1, .int a2, .int a3, .int r5, .null]) rfl ?_
      refine st_iload g dX8_mend_28 rfl ?_
      refine st_iload_n g dX8_mend_30 rfl ?_
      refine st_ic_ne g dX8_mend_31 (tgt := 37) (by decide) H (fun q6 H => ?_) (fun q6 H => ?_)
      · refine st_aload_n g dX8_mend_37 rfl ?_
        refine st_iload_n g dX8_mend_38 rfl ?_
        refine st_iload_n g dX8_mend_39 rfl ?_
        refine st_iload_n g dX8_mend_40 rfl ?_
        obtain ⟨r7, hr7, H⟩ := bind_some H
        refine st_callVV g (as := [.int a1, .int a2, .int a3]) dX8_mend_41 rfl rfl ml_X8_160 mf_X8_becomes rfl (Nat.le_of_ble_eq_true rfl) (Nat.le_of_ble_eq_true rfl) (c_X8_becomes a1 a2 a3 h _ hr7) ?_
        refine st_aload_n g dX8_mend_44 rfl ?_
        refine gf_X8_164 g dX8_mend_45 rfl ?_
        refine st_bipush g dX8_mend_48 bi_40 ?_
        refine st_ic_ne g dX8_mend_50 (tgt := 96) (by decide) H (fun q8 H => ?_) (fun q8 H => ?_)
        · exact (tj_X8_mend_96 g a1 a2 a3 r5 r7 _ H K)
        · refine st_iconst g dX8_mend_53 ic_0 ?_
          refine st_istore g dX8_mend_54 (Nat.le_of_ble_eq_true rfl) rfl (ls2 := [.ref 53, .int a1, .int a2, .int a3, .int r5, .int 0]) rfl ?_
          show P_X8_mend_56 x a1 a2 a3 r5 (0, r7)
          obtain ⟨a18, ha18, H⟩ := bind_some H
          refine iter_W (P := P_X8_mend_56 x a1 a2 a3 r5) (E := E_X8_mend_56 x a1 a2 a3 r5) (fun s9 o9 ho9 hK9 => tb_X8_mend_56 g a1 a2 a3 r5 s9 o9 ho9 hK9) FU _ a18 ha18 ?_
          show WA x 86 [.ref 53, .int a1, .int a2, .int a3, .int r5, .null] [] a18.2
          refine st_aload_n g dX8_mend_86 rfl ?_
          refine st_dup g dX8_mend_87 rfl ?_
          refine gf_X8_164 g dX8_mend_88 rfl ?_
          refine st_iconst g dX8_mend_91 ic_1 ?_
          refine st_isub g dX8_mend_92 ?_
          refine pu_X8_164 g dX8_mend_93 rfl ?_
          refine wa_ltH H (fun h19 H => ?_)
          exact (tj_X8_mend_96 g a1 a2 a3 r5 h19 _ H K)
      · refine st_iload g dX8_mend_34 rfl ?_
        obtain rfl := Option.some.inj H
        exact st_iret g dX8_mend_36 rfl (fun q => by cases q) K
    · refine st_ldc g dX8_mend_17 kc_X8_156 ?_
      obtain rfl := Option.some.inj H
      exact st_iret g dX8_mend_19 rfl (fun q => by cases q) K
theorem c_X8_mend (a1 : Int32) (a2 : Int32) (a3 : Int32) (h : Hp) (r : (Int32 × Hp)) (H : f_X8_mend a1 a2 a3 h = some r) : CtI yX8_mend cX8_mend 6 .int 4 [.ref 53, .int a1, .int a2, .int a3] h r.1 r.2 :=
  ct_ofI (own := RX8) [.ref 53, .int a1, .int a2, .int a3, .null, .null] (by decide +kernel) rfl (fun ρ => Nat.le_of_ble_eq_true rfl) (fun ρ => rfl) (fun x g K => t_X8_mend g a1 a2 a3 h r H K)
