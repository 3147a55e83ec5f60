def CGR (d k : Nat) (as : List Int32) (h : Hp) (r : Int32 × Hp) : Prop := match k with
  | 0 => CtI yX4_readRank cX4_readRank 5 .boolean d (.ref 7 :: as.map .int) h r.1 r.2
  | 1 => CtI yX4_readOperand cX4_readOperand 4 .boolean d (.ref 7 :: as.map .int) h r.1 r.2
  | 2 => CtI yX4_readClosed cX4_readClosed 2 .boolean d (.ref 7 :: as.map .int) h r.1 r.2
  | _ => False
def P_X4_readRank_26 (x : Cx) (a1 : Int32) (a2 : Int32) (s : (Int32 × Hp)) : Prop := WA x 26 [.ref 7, .int a1, .int a2, .int s.1, .null] [] s.2
def E_X4_readRank_26 (x : Cx) (a1 : Int32) (a2 : Int32) : (Int32 × Hp) ⊕ (Int32 × Hp) → Prop := Sum.elim (fun s : (Int32 × Hp) => WA x 92 [.null, .null, .null, .null, .null] [] s.2) (fun r : (Int32 × Hp) => RtI x .boolean r.1 r.2)
def b_X4_readRank_26 (R : Nat → List Int32 → Hp → Option (Int32 × Hp)) (a1 : Int32) (a2 : Int32) (s : (Int32 × Hp)) : Option ((Int32 × Hp) ⊕ ((Int32 × Hp) ⊕ (Int32 × Hp))) :=
  if 120 ≤ s.1 then
    some (.inr (.inl (s.1, s.2)))
  else
    (f_X4_nextByte s.2).bind fun r5 =>
    (f_X4_rankOf r5).bind fun r6 =>
    if r6 = a1 then
      lt (stI s.2 7 6 ((s.2.1 7 6) + 1)) fun h8 =>
      (R 0 [a1 + 1, a2] h8).bind fun r9 =>
      if r9.1 = 0 then
        some (.inr (.inr (0, r9.2)))
      else
        (f_X4_emit (-r5) r9.2).bind fun r11 =>
        if a1 = 2 then
          some (.inr (.inr (1, r11)))
        else
          some (.inl (s.1 + 1, r11))
    else
      some (.inr (.inr (1, s.2)))
theorem tb_X4_readRank_26 {x : Cx} {dn : Nat} {R : Nat → List Int32 → Hp → Option (Int32 × Hp)} (hdn : 3 ≤ dn) (hR : ∀ k as h r, R k as h = some r → CGR dn k as h r) (g : Gx x RX4 cX4_readRank 5 (dn + 1)) (a1 : Int32) (a2 : Int32) (s : (Int32 × Hp)) (out : (Int32 × Hp) ⊕ ((Int32 × Hp) ⊕ (Int32 × Hp))) (H : b_X4_readRank_26 R a1 a2 s = some out) (K : Sum.elim (P_X4_readRank_26 x a1 a2) (E_X4_readRank_26 x a1 a2) out) : P_X4_readRank_26 x a1 a2 s := by
  unfold b_X4_readRank_26 at H
  show WA x 26 [.ref 7, .int a1, .int a2, .int s.1, .null] [] s.2
  refine st_iload_n g dX4_readRank_26 rfl ?_
  refine st_bipush g dX4_readRank_27 bi_120 ?_
  refine st_ic_ge g dX4_readRank_29 (tgt := 92) (by decide) H (fun q4 H => ?_) (fun q4 H => ?_)
  · obtain rfl := Option.some.inj H
    exact (wa_drop [0, 1, 2, 3] K)
  · refine st_aload_n g dX4_readRank_32 rfl ?_
    obtain ⟨r5, hr5, H⟩ := bind_some H
    refine st_callVI g (as := []) dX4_readRank_33 rfl rfl ml_X4_51 mf_X4_nextByte rfl (Nat.le_of_ble_eq_true rfl) (by omega) (c_X4_nextByte s.2 _ hr5) (fun hz => ?_)
    refine st_istore g dX4_readRank_36 (Nat.le_of_ble_eq_true rfl) rfl (ls2 := [.ref 7, .int a1, .int a2, .int s.1, .int r5]) rfl ?_
    refine st_iload g dX4_readRank_38 rfl ?_
    obtain ⟨r6, hr6, H⟩ := bind_some H
    refine st_callSI g (as := [.int r5]) dX4_readRank_40 ml_X4_63 mf_X4_rankOf rfl (Nat.le_of_ble_eq_true rfl) (by omega) (c_X4_rankOf r5 s.2 _ hr6) (fun hz => ?_)
    refine st_iload_n g dX4_readRank_43 rfl ?_
    refine st_ic_eq g dX4_readRank_44 (tgt := 49) (by decide) H (fun q7 H => ?_) (fun q7 H => ?_)
    · refine st_aload_n g dX4_readRank_49 rfl ?_
      refine st_dup g dX4_readRank_50 rfl ?_
      refine gf_X4_31 g dX4_readRank_51 rfl ?_
      refine st_iconst g dX4_readRank_54 ic_1 ?_
      refine st_iadd g dX4_readRank_55 ?_
      refine pu_X4_31 g dX4_readRank_56 rfl ?_
      refine wa_ltH H (fun h8 H => ?_)
      refine st_aload_n g dX4_readRank_59 rfl ?_
      refine st_iload_n g dX4_readRank_60 rfl ?_
      refine st_iconst g dX4_readRank_61 ic_1 ?_
      refine st_iadd g dX4_readRank_62 ?_
      refine st_iload_n g dX4_readRank_63 rfl ?_
      obtain ⟨r9, hr9, H⟩ := bind_some H
      refine st_callVI g (as := [.int (a1 + 1), .int a2]) dX4_readRank_64 rfl rfl ml_X4_55 mf_X4_readRank rfl (Nat.le_of_ble_eq_true rfl) (by omega) (hR _ _ _ _ hr9) (fun hz => ?_)
      have br9 := hz rfl
      refine st_if_ne g dX4_readRank_67 (tgt := 72) (by decide) H (fun q10 H => ?_) (fun q10 H => ?_)
      · refine st_aload_n g dX4_readRank_72 rfl ?_
        refine st_iload g dX4_readRank_73 rfl ?_
        refine st_ineg g dX4_readRank_75 ?_
        obtain ⟨r11, hr11, H⟩ := bind_some H
        refine st_callVV g (as := [.int (-r5)]) dX4_readRank_76 rfl rfl ml_X4_47 mf_X4_emit rfl (Nat.le_of_ble_eq_true rfl) (by omega) (c_X4_emit (-r5) r9.2 _ hr11) ?_
        refine st_iload_n g dX4_readRank_79 rfl ?_
        refine st_iconst g dX4_readRank_80 ic_2 ?_
        refine st_ic_ne g dX4_readRank_81 (tgt := 86) (by decide) H (fun q12 H => ?_) (fun q12 H => ?_)
        · refine st_iinc g dX4_readRank_86 rfl (ii_1 _) (Nat.le_of_ble_eq_true rfl) rfl (ls2 := [.ref 7, .int a1, .int a2, .int (s.1 + 1), .int r5]) rfl ?_
          refine st_goto g dX4_readRank_89 (tgt := 26) (by decide) ?_
          obtain rfl := Option.some.inj H
          exact (wa_drop [4] K)
        · refine st_iconst g dX4_readRank_84 ic_1 ?_
          obtain rfl := Option.some.inj H
          exact st_iret g dX4_readRank_85 rfl (fun _ => Or.inr rfl) K
      · refine st_iconst g dX4_readRank_70 ic_0 ?_
        obtain rfl := Option.some.inj H
        exact st_iret g dX4_readRank_71 rfl (fun _ => Or.inl rfl) K
    · refine st_iconst g dX4_readRank_47 ic_1 ?_
      obtain rfl := Option.some.inj H
      exact st_iret g dX4_readRank_48 rfl (fun _ => Or.inr rfl) K
def m_X4_readRank (R : Nat → List Int32 → Hp → Option (Int32 × Hp)) (a1 : Int32) (a2 : Int32) (h : Hp) : Option (Int32 × Hp) :=
  if a1 < 5 then
    (R 0 [a1 + 1, a2] h).bind fun r2 =>
    if r2.1 = 0 then
      some (0, r2.2)
    else
      (iter (b_X4_readRank_26 R a1 a2) FU (0, r2.2)).bind (Sum.elim (fun a13 =>
        some (1, a13.2)) (fun r => some r))
  else
    (R 1 [a2] h).bind fun r14 =>
    some (r14.1, r14.2)
theorem t_X4_readRank {x : Cx} {dn : Nat} {R : Nat → List Int32 → Hp → Option (Int32 × Hp)} (hdn : 3 ≤ dn) (hR : ∀ k as h r, R k as h = some r → CGR dn k as h r) (g : Gx x RX4 cX4_readRank 5 (dn + 1)) (a1 : Int32) (a2 : Int32) (h : Hp) (out : (Int32 × Hp)) (H : m_X4_readRank R a1 a2 h = some out) (K : RtI x .boolean out.1 out.2) : WA x 0 [.ref 7, .int a1, .int a2, .null, .null] [] h := by
  unfold m_X4_readRank at H
  refine st_iload_n g dX4_readRank_0 rfl ?_
  refine st_iconst g dX4_readRank_1 ic_5 ?_
  refine st_ic_lt g dX4_readRank_2 (tgt := 11) (by decide) H (fun q1 H => ?_) (fun q1 H => ?_)
  · refine st_aload_n g dX4_readRank_11 rfl ?_
    refine st_iload_n g dX4_readRank_12 rfl ?_
    refine st_iconst g dX4_readRank_13 ic_1 ?_
    refine st_iadd g dX4_readRank_14 ?_
    refine st_iload_n g dX4_readRank_15 rfl ?_
    obtain ⟨r2, hr2, H⟩ := bind_some H
    refine st_callVI g (as := [.int (a1 + 1), .int a2]) dX4_readRank_16 rfl rfl ml_X4_55 mf_X4_readRank rfl (Nat.le_of_ble_eq_true rfl) (by omega) (hR _ _ _ _ hr2) (fun hz => ?_)
    have br2 := hz rfl
    refine st_if_ne g dX4_readRank_19 (tgt := 24) (by decide) H (fun q3 H => ?_) (fun q3 H => ?_)
    · refine st_iconst g dX4_readRank_24 ic_0 ?_
      refine st_istore_n g dX4_readRank_25 (Nat.le_of_ble_eq_true rfl) rfl (ls2 := [.ref 7, .int a1, .int a2, .int 0, .null]) rfl ?_
      show P_X4_readRank_26 x a1 a2 (0, r2.2)
      obtain ⟨a13o, ha13, hca13⟩ := it_R H
      refine iter_W (P := P_X4_readRank_26 x a1 a2) (E := E_X4_readRank_26 x a1 a2) (fun s9 o9 ho9 hK9 => tb_X4_readRank_26 hdn hR g a1 a2 s9 o9 ho9 hK9) FU _ a13o ha13 ?_
      rcases hca13 with ⟨a13, rfl, H⟩ | ⟨r, rfl, H⟩
      · show WA x 92 [.null, .null, .null, .null, .null] [] a13.2
        refine st_iconst g dX4_readRank_92 ic_1 ?_
        obtain rfl := Option.some.inj H
        exact st_iret g dX4_readRank_93 rfl (fun _ => Or.inr rfl) K
      · obtain rfl := Option.some.inj H
        exact K
    · refine st_iconst g dX4_readRank_22 ic_0 ?_
      obtain rfl := Option.some.inj H
      exact st_iret g dX4_readRank_23 rfl (fun _ => Or.inl rfl) K
  · refine st_aload_n g dX4_readRank_5 rfl ?_
    refine st_iload_n g dX4_readRank_6 rfl ?_
    obtain ⟨r14, hr14, H⟩ := bind_some H
    refine st_callVI g (as := [.int a2]) dX4_readRank_7 rfl rfl ml_X4_59 mf_X4_readOperand rfl (Nat.le_of_ble_eq_true rfl) (by omega) (hR _ _ _ _ hr14) (fun hz => ?_)
    have br14 := hz rfl
    obtain rfl := Option.some.inj H
    exact st_iret g dX4_readRank_10 (bo_nar br14) (fun _ => br14) K
def j_X4_readOperand_65 (R : Nat → List Int32 → Hp → Option (Int32 × Hp)) (a1 : Int32) (a2 : Int32) (h : Hp) : Option ((Int32 × Hp)) :=
  if a1 < 6 then
    lt (stI h 7 6 ((h.1 7 6) + 1)) fun h8 =>
    if a2 = 40 then
      (R 2 [a1 + 1] h8).bind fun r15 =>
      some (r15.1, r15.2)
    else
      (R 1 [a1 + 1] h8).bind fun r10 =>
      if r10.1 = 0 then
        some (0, r10.2)
      else
        if a2 = 33 then
          (f_X4_emit (-33) r10.2).bind fun r14 =>
          some (1, r14)
        else
          (f_X4_emit (-126) r10.2).bind fun r13 =>
          some (1, r13)
  else
    some (0, h)
theorem tj_X4_readOperand_65 {x : Cx} {dn : Nat} {R : Nat → List Int32 → Hp → Option (Int32 × Hp)} (hdn : 3 ≤ dn) (hR : ∀ k as h r, R k as h = some r → CGR dn k as h r) (g : Gx x RX4 cX4_readOperand 4 (dn + 1)) (a1 : Int32) (a2 : Int32) (h : Hp) (out : (Int32 × Hp)) (H : j_X4_readOperand_65 R a1 a2 h = some out) (K : RtI x .boolean out.1 out.2) : WA x 65 [.ref 7, .int a1, .int a2, .null] [] h := by
  unfold j_X4_readOperand_65 at H
  refine st_iload_n g dX4_readOperand_65 rfl ?_
  refine st_bipush g dX4_readOperand_66 bi_6 ?_
  refine st_ic_lt g dX4_readOperand_68 (tgt := 73) (by decide) H (fun q7 H => ?_) (fun q7 H => ?_)
  · refine st_aload_n g dX4_readOperand_73 rfl ?_
    refine st_dup g dX4_readOperand_74 rfl ?_
    refine gf_X4_31 g dX4_readOperand_75 rfl ?_
    refine st_iconst g dX4_readOperand_78 ic_1 ?_
    refine st_iadd g dX4_readOperand_79 ?_
    refine pu_X4_31 g dX4_readOperand_80 rfl ?_
    refine wa_ltH H (fun h8 H => ?_)
    refine st_iload_n g dX4_readOperand_83 rfl ?_
    refine st_bipush g dX4_readOperand_84 bi_40 ?_
    refine st_ic_ne g dX4_readOperand_86 (tgt := 97) (by decide) H (fun q9 H => ?_) (fun q9 H => ?_)
    · refine st_aload_n g dX4_readOperand_97 rfl ?_
      refine st_iload_n g dX4_readOperand_98 rfl ?_
      refine st_iconst g dX4_readOperand_99 ic_1 ?_
      refine st_iadd g dX4_readOperand_100 ?_
      obtain ⟨r10, hr10, H⟩ := bind_some H
      refine st_callVI g (as := [.int (a1 + 1)]) dX4_readOperand_101 rfl rfl ml_X4_59 mf_X4_readOperand rfl (Nat.le_of_ble_eq_true rfl) (by omega) (hR _ _ _ _ hr10) (fun hz => ?_)
      have br10 := hz rfl
      refine st_if_ne g dX4_readOperand_104 (tgt := 109) (by decide) H (fun q11 H => ?_) (fun q11 H => ?_)
      · refine st_aload_n g dX4_readOperand_109 rfl ?_
        refine st_iload_n g dX4_readOperand_110 rfl ?_
        refine st_bipush g dX4_readOperand_111 bi_33 ?_
        refine st_ic_ne g dX4_readOperand_113 (tgt := 121) (by decide) H (fun q12 H => ?_) (fun q12 H => ?_)
        · refine st_bipush g dX4_readOperand_121 bi_m126 ?_
          obtain ⟨r13, hr13, H⟩ := bind_some H
          refine st_callVV g (as := [.int (-126)]) dX4_readOperand_123 rfl rfl ml_X4_47 mf_X4_emit rfl (Nat.le_of_ble_eq_true rfl) (by omega) (c_X4_emit (-126) r10.2 _ hr13) ?_
          refine st_iconst g dX4_readOperand_126 ic_1 ?_
          obtain rfl := Option.some.inj H
          exact st_iret g dX4_readOperand_127 rfl (fun _ => Or.inr rfl) K
        · refine st_bipush g dX4_readOperand_116 bi_m33 ?_
          refine st_goto g dX4_readOperand_118 (tgt := 123) (by decide) ?_
          obtain ⟨r14, hr14, H⟩ := bind_some H
          refine st_callVV g (as := [.int (-33)]) dX4_readOperand_123 rfl rfl ml_X4_47 mf_X4_emit rfl (Nat.le_of_ble_eq_true rfl) (by omega) (c_X4_emit (-33) r10.2 _ hr14) ?_
          refine st_iconst g dX4_readOperand_126 ic_1 ?_
          obtain rfl := Option.some.inj H
          exact st_iret g dX4_readOperand_127 rfl (fun _ => Or.inr rfl) K
      · refine st_iconst g dX4_readOperand_107 ic_0 ?_
        obtain rfl := Option.some.inj H
        exact st_iret g dX4_readOperand_108 rfl (fun _ => Or.inl rfl) K
    · refine st_aload_n g dX4_readOperand_89 rfl ?_
      refine st_iload_n g dX4_readOperand_90 rfl ?_
      refine st_iconst g dX4_readOperand_91 ic_1 ?_
      refine st_iadd g dX4_readOperand_92 ?_
      obtain ⟨r15, hr15, H⟩ := bind_some H
      refine st_callVI g (as := [.int (a1 + 1)]) dX4_readOperand_93 rfl rfl ml_X4_76 mf_X4_readClosed rfl (Nat.le_of_ble_eq_true rfl) (by omega) (hR _ _ _ _ hr15) (fun hz => ?_)
      have br15 := hz rfl
      obtain rfl := Option.some.inj H
      exact st_iret g dX4_readOperand_96 (bo_nar br15) (fun _ => br15) K
  · refine st_iconst g dX4_readOperand_71 ic_0 ?_
    obtain rfl := Option.some.inj H
    exact st_iret g dX4_readOperand_72 rfl (fun _ => Or.inl rfl) K
def m_X4_readOperand (R : Nat → List Int32 → Hp → Option (Int32 × Hp)) (a1 : Int32) (h : Hp) : Option (Int32 × Hp) :=
  (f_X4_nextByte h).bind fun r1 =>
  (f_X4_isDigit r1).bind fun r2 =>
  if r2 = 0 then
    (f_X4_nameOf r1).bind fun r4 =>
    if r4 < 0 then
      if r1 = 40 then
        j_X4_readOperand_65 R a1 r1 h
      else
        if r1 = 33 then
          j_X4_readOperand_65 R a1 r1 h
        else
          if r1 = 45 then
            j_X4_readOperand_65 R a1 r1 h
          else
            some (0, h)
    else
      lt (stI h 7 6 ((h.1 7 6) + 1)) fun h18 =>
      (f_X4_emit (10000 + r4) h18).bind fun r19 =>
      some (1, r19)
  else
    (f_X4_readNumber h).bind fun r20 =>
    some (r20.1, r20.2)
theorem t_X4_readOperand {x : Cx} {dn : Nat} {R : Nat → List Int32 → Hp → Option (Int32 × Hp)} (hdn : 3 ≤ dn) (hR : ∀ k as h r, R k as h = some r → CGR dn k as h r) (g : Gx x RX4 cX4_readOperand 4 (dn + 1)) (a1 : Int32) (h : Hp) (out : (Int32 × Hp)) (H : m_X4_readOperand R a1 h = some out) (K : RtI x .boolean out.1 out.2) : WA x 0 [.ref 7, .int a1, .null, .null] [] h := by
  unfold m_X4_readOperand at H
  refine st_aload_n g dX4_readOperand_0 rfl ?_
  obtain ⟨r1, hr1, H⟩ := bind_some H
  refine st_callVI g (as := []) dX4_readOperand_1 rfl rfl ml_X4_51 mf_X4_nextByte rfl (Nat.le_of_ble_eq_true rfl) (by omega) (c_X4_nextByte h _ hr1) (fun hz => ?_)
  refine st_istore_n g dX4_readOperand_4 (Nat.le_of_ble_eq_true rfl) rfl (ls2 := [.ref 7, .int a1, .int r1, .null]) rfl ?_
  refine st_iload_n g dX4_readOperand_5 rfl ?_
  obtain ⟨r2, hr2, H⟩ := bind_some H
  refine st_callSI g (as := [.int r1]) dX4_readOperand_6 ml_X4_67 mf_X4_isDigit rfl (Nat.le_of_ble_eq_true rfl) (by omega) (c_X4_isDigit r1 h _ hr2) (fun hz => ?_)
  have br2 := hz rfl
  refine st_if_eq g dX4_readOperand_9 (tgt := 17) (by decide) H (fun q3 H => ?_) (fun q3 H => ?_)
  · refine st_iload_n g dX4_readOperand_17 rfl ?_
    obtain ⟨r4, hr4, H⟩ := bind_some H
    refine st_callSI g (as := [.int r1]) dX4_readOperand_18 ml_X4_73 mf_X4_nameOf rfl (Nat.le_of_ble_eq_true rfl) (by omega) (c_X4_nameOf r1 h _ hr4) (fun hz => ?_)
    refine st_istore_n g dX4_readOperand_21 (Nat.le_of_ble_eq_true rfl) rfl (ls2 := [.ref 7, .int a1, .int r1, .int r4]) rfl ?_
    refine st_iload_n g dX4_readOperand_22 rfl ?_
    refine st_if_lt g dX4_readOperand_23 (tgt := 47) (by decide) H (fun q5 H => ?_) (fun q5 H => ?_)
    · refine st_iload_n g dX4_readOperand_47 rfl ?_
      refine st_bipush g dX4_readOperand_48 bi_40 ?_
      refine st_ic_eq g dX4_readOperand_50 (tgt := 65) (by decide) H (fun q6 H => ?_) (fun q6 H => ?_)
      · exact (wa_drop [3] (tj_X4_readOperand_65 hdn hR g a1 r1 h _ H K))
      · refine st_iload_n g dX4_readOperand_53 rfl ?_
        refine st_bipush g dX4_readOperand_54 bi_33 ?_
        refine st_ic_eq g dX4_readOperand_56 (tgt := 65) (by decide) H (fun q16 H => ?_) (fun q16 H => ?_)
        · exact (wa_drop [3] (tj_X4_readOperand_65 hdn hR g a1 r1 h _ H K))
        · refine st_iload_n g dX4_readOperand_59 rfl ?_
          refine st_bipush g dX4_readOperand_60 bi_45 ?_
          refine st_ic_ne g dX4_readOperand_62 (tgt := 71) (by decide) H (fun q17 H => ?_) (fun q17 H => ?_)
          · refine st_iconst g dX4_readOperand_71 ic_0 ?_
            obtain rfl := Option.some.inj H
            exact st_iret g dX4_readOperand_72 rfl (fun _ => Or.inl rfl) K
          · exact (wa_drop [3] (tj_X4_readOperand_65 hdn hR g a1 r1 h _ H K))
    · refine st_aload_n g dX4_readOperand_26 rfl ?_
      refine st_dup g dX4_readOperand_27 rfl ?_
      refine gf_X4_31 g dX4_readOperand_28 rfl ?_
      refine st_iconst g dX4_readOperand_31 ic_1 ?_
      refine st_iadd g dX4_readOperand_32 ?_
      refine pu_X4_31 g dX4_readOperand_33 rfl ?_
      refine wa_ltH H (fun h18 H => ?_)
      refine st_aload_n g dX4_readOperand_36 rfl ?_
      refine st_sipush g dX4_readOperand_37 si_10000 ?_
      refine st_iload_n g dX4_readOperand_40 rfl ?_
      refine st_iadd g dX4_readOperand_41 ?_
      obtain ⟨r19, hr19, H⟩ := bind_some H
      refine st_callVV g (as := [.int (10000 + r4)]) dX4_readOperand_42 rfl rfl ml_X4_47 mf_X4_emit rfl (Nat.le_of_ble_eq_true rfl) (by omega) (c_X4_emit (10000 + r4) h18 _ hr19) ?_
      refine st_iconst g dX4_readOperand_45 ic_1 ?_
      obtain rfl := Option.some.inj H
      exact st_iret g dX4_readOperand_46 rfl (fun _ => Or.inr rfl) K
  · refine st_aload_n g dX4_readOperand_12 rfl ?_
    obtain ⟨r20, hr20, H⟩ := bind_some H
    refine st_callVI g (as := []) dX4_readOperand_13 rfl rfl ml_X4_70 mf_X4_readNumber rfl (Nat.le_of_ble_eq_true rfl) (by omega) (c_X4_readNumber h _ hr20) (fun hz => ?_)
    have br20 := hz rfl
    obtain rfl := Option.some.inj H
    exact st_iret g dX4_readOperand_16 (bo_nar br20) (fun _ => br20) K
def m_X4_readClosed (R : Nat → List Int32 → Hp → Option (Int32 × Hp)) (a1 : Int32) (h : Hp) : Option (Int32 × Hp) :=
  (R 0 [0, a1] h).bind fun r1 =>
  if r1.1 = 0 then
    some (0, r1.2)
  else
    (f_X4_nextByte r1.2).bind fun r3 =>
    if r3 = 41 then
      lt (stI r1.2 7 6 ((r1.2.1 7 6) + 1)) fun h5 =>
      some (1, h5)
    else
      some (0, r1.2)
theorem t_X4_readClosed {x : Cx} {dn : Nat} {R : Nat → List Int32 → Hp → Option (Int32 × Hp)} (hdn : 3 ≤ dn) (hR : ∀ k as h r, R k as h = some r → CGR dn k as h r) (g : Gx x RX4 cX4_readClosed 2 (dn + 1)) (a1 : Int32) (h : Hp) (out : (Int32 × Hp)) (H : m_X4_readClosed R a1 h = some out) (K : RtI x .boolean out.1 out.2) : WA x 0 [.ref 7, .int a1] [] h := by
  unfold m_X4_readClosed at H
  refine st_aload_n g dX4_readClosed_0 rfl ?_
  refine st_iconst g dX4_readClosed_1 ic_0 ?_
  refine st_iload_n g dX4_readClosed_2 rfl ?_
  obtain ⟨r1, hr1, H⟩ := bind_some H
  refine st_callVI g (as := [.int 0, .int a1]) dX4_readClosed_3 rfl rfl ml_X4_55 mf_X4_readRank rfl (Nat.le_of_ble_eq_true rfl) (by omega) (hR _ _ _ _ hr1) (fun hz => ?_)
  have br1 := hz rfl
  refine st_if_eq g dX4_readClosed_6 (tgt := 18) (by decide) H (fun q2 H => ?_) (fun q2 H => ?_)
  · refine st_iconst g dX4_readClosed_18 ic_0 ?_
    obtain rfl := Option.some.inj H
    exact st_iret g dX4_readClosed_19 rfl (fun _ => Or.inl rfl) K
  · refine st_aload_n g dX4_readClosed_9 rfl ?_
    obtain ⟨r3, hr3, H⟩ := bind_some H
    refine st_callVI g (as := []) dX4_readClosed_10 rfl rfl ml_X4_51 mf_X4_nextByte rfl (Nat.le_of_ble_eq_true rfl) (by omega) (c_X4_nextByte r1.2 _ hr3) (fun hz => ?_)
    refine st_bipush g dX4_readClosed_13 bi_41 ?_
    refine st_ic_eq g dX4_readClosed_15 (tgt := 20) (by decide) H (fun q4 H => ?_) (fun q4 H => ?_)
    · refine st_aload_n g dX4_readClosed_20 rfl ?_
      refine st_dup g dX4_readClosed_21 rfl ?_
      refine gf_X4_31 g dX4_readClosed_22 rfl ?_
      refine st_iconst g dX4_readClosed_25 ic_1 ?_
      refine st_iadd g dX4_readClosed_26 ?_
      refine pu_X4_31 g dX4_readClosed_27 rfl ?_
      refine wa_ltH H (fun h5 H => ?_)
      refine st_iconst g dX4_readClosed_30 ic_1 ?_
      obtain rfl := Option.some.inj H
      exact st_iret g dX4_readClosed_31 rfl (fun _ => Or.inr rfl) K
    · refine st_iconst g dX4_readClosed_18 ic_0 ?_
      obtain rfl := Option.some.inj H
      exact st_iret g dX4_readClosed_19 rfl (fun _ => Or.inl rfl) K
theorem cm_X4_readRank {dn : Nat} {R : Nat → List Int32 → Hp → Option (Int32 × Hp)} (hdn : 3 ≤ dn) (hR : ∀ k as h r, R k as h = some r → CGR dn k as h r) (a1 : Int32) (a2 : Int32) (h : Hp) (r : Int32 × Hp) (H : m_X4_readRank R a1 a2 h = some r) : CtI yX4_readRank cX4_readRank 5 .boolean (dn + 1) [.ref 7, .int a1, .int a2] h r.1 r.2 :=
  ct_ofI (own := RX4) [.ref 7, .int a1, .int a2, .null, .null] (by decide +kernel) rfl (fun ρ => Nat.le_of_ble_eq_true rfl) (fun ρ => rfl) (fun x g K => t_X4_readRank hdn hR g a1 a2 h r H K)
theorem cm_X4_readOperand {dn : Nat} {R : Nat → List Int32 → Hp → Option (Int32 × Hp)} (hdn : 3 ≤ dn) (hR : ∀ k as h r, R k as h = some r → CGR dn k as h r) (a1 : Int32) (h : Hp) (r : Int32 × Hp) (H : m_X4_readOperand R a1 h = some r) : CtI yX4_readOperand cX4_readOperand 4 .boolean (dn + 1) [.ref 7, .int a1] h r.1 r.2 :=
  ct_ofI (own := RX4) [.ref 7, .int a1, .null, .null] (by decide +kernel) rfl (fun ρ => Nat.le_of_ble_eq_true rfl) (fun ρ => rfl) (fun x g K => t_X4_readOperand hdn hR g a1 h r H K)
theorem cm_X4_readClosed {dn : Nat} {R : Nat → List Int32 → Hp → Option (Int32 × Hp)} (hdn : 3 ≤ dn) (hR : ∀ k as h r, R k as h = some r → CGR dn k as h r) (a1 : Int32) (h : Hp) (r : Int32 × Hp) (H : m_X4_readClosed R a1 h = some r) : CtI yX4_readClosed cX4_readClosed 2 .boolean (dn + 1) [.ref 7, .int a1] h r.1 r.2 :=
  ct_ofI (own := RX4) [.ref 7, .int a1] (by decide +kernel) rfl (fun ρ => Nat.le_of_ble_eq_true rfl) (fun ρ => rfl) (fun x g K => t_X4_readClosed hdn hR g a1 h r H K)
def fG_GR : Nat → Nat → List Int32 → Hp → Option (Int32 × Hp)
  | 0, _, _, _ => none
  | n + 1, k, as, h => match k, as with
    | 0, [a1, a2] => m_X4_readRank (fG_GR n) a1 a2 h
    | 1, [a1] => m_X4_readOperand (fG_GR n) a1 h
    | 2, [a1] => m_X4_readClosed (fG_GR n) a1 h
    | _, _ => none
theorem cG_GR : ∀ (n k : Nat) (as : List Int32) (h : Hp) (r : Int32 × Hp), fG_GR n k as h = some r → CGR (3 + n) k as h r := by
  intro n
  induction n with
  | zero => intro k as h r H; cases H
  | succ n ih =>
    intro k as h r H
    unfold fG_GR at H
    split at H
    · exact cm_X4_readRank (Nat.le_add_right _ _) ih _ _ h r H
    · exact cm_X4_readOperand (Nat.le_add_right _ _) ih _ h r H
    · exact cm_X4_readClosed (Nat.le_add_right _ _) ih _ h r H
    · cases H
def f_X4_readRank (a1 : Int32) (a2 : Int32) (h : Hp) : Option (Int32 × Hp) := fG_GR 100 0 [a1, a2] h
theorem c_X4_readRank (a1 : Int32) (a2 : Int32) (h : Hp) (r : Int32 × Hp) (H : f_X4_readRank a1 a2 h = some r) : CtI yX4_readRank cX4_readRank 5 .boolean 103 [.ref 7, .int a1, .int a2] h r.1 r.2 := cG_GR 100 0 [a1, a2] h r H
def f_X4_readOperand (a1 : Int32) (h : Hp) : Option (Int32 × Hp) := fG_GR 100 1 [a1] h
theorem c_X4_readOperand (a1 : Int32) (h : Hp) (r : Int32 × Hp) (H : f_X4_readOperand a1 h = some r) : CtI yX4_readOperand cX4_readOperand 4 .boolean 103 [.ref 7, .int a1] h r.1 r.2 := cG_GR 100 1 [a1] h r H
def f_X4_readClosed (a1 : Int32) (h : Hp) : Option (Int32 × Hp) := fG_GR 100 2 [a1] h
theorem c_X4_readClosed (a1 : Int32) (h : Hp) (r : Int32 × Hp) (H : f_X4_readClosed a1 h = some r) : CtI yX4_readClosed cX4_readClosed 2 .boolean 103 [.ref 7, .int a1] h r.1 r.2 := cG_GR 100 2 [a1] h r H
def f_X4_readLine (h : Hp) : Option (Int32 × Hp) :=
  (f_X4_readRank 0 0 h).bind fun r1 =>
  if r1.1 = 0 then
    some (0, r1.2)
  else
    (f_X4_nextByte r1.2).bind fun r3 =>
    if r3 = 63 then
      lt (stI r1.2 7 6 ((r1.2.1 7 6) + 1)) fun h5 =>
      (f_X4_emit (-63) h5).bind fun r6 =>
      (f_X4_readRank 0 0 r6).bind fun r7 =>
      some (r7.1, r7.2)
    else
      some (1, r1.2)
theorem t_X4_readLine {x : Cx} (g : Gx x RX4 cX4_readLine 1 104) (h : Hp) (out : (Int32 × Hp)) (H : f_X4_readLine h = some out) (K : RtI x .boolean out.1 out.2) : WA x 0 [.ref 7] [] h := by
  unfold f_X4_readLine at H
  refine st_aload_n g dX4_readLine_0 rfl ?_
  refine st_iconst g dX4_readLine_1 ic_0 ?_
  refine st_iconst g dX4_readLine_2 ic_0 ?_
  obtain ⟨r1, hr1, H⟩ := bind_some H
  refine st_callVI g (as := [.int 0, .int 0]) dX4_readLine_3 rfl rfl ml_X4_55 mf_X4_readRank rfl (Nat.le_of_ble_eq_true rfl) (Nat.le_of_ble_eq_true rfl) (c_X4_readRank 0 0 h _ hr1) (fun hz => ?_)
  have br1 := hz rfl
  refine st_if_ne g dX4_readLine_6 (tgt := 11) (by decide) H (fun q2 H => ?_) (fun q2 H => ?_)
  · refine st_aload_n g dX4_readLine_11 rfl ?_
    obtain ⟨r3, hr3, H⟩ := bind_some H
    refine st_callVI g (as := []) dX4_readLine_12 rfl rfl ml_X4_51 mf_X4_nextByte rfl (Nat.le_of_ble_eq_true rfl) (Nat.le_of_ble_eq_true rfl) (c_X4_nextByte r1.2 _ hr3) (fun hz => ?_)
    refine st_bipush g dX4_readLine_15 bi_63 ?_
    refine st_ic_eq g dX4_readLine_17 (tgt := 22) (by decide) H (fun q4 H => ?_) (fun q4 H => ?_)
    · refine st_aload_n g dX4_readLine_22 rfl ?_
      refine st_dup g dX4_readLine_23 rfl ?_
      refine gf_X4_31 g dX4_readLine_24 rfl ?_
      refine st_iconst g dX4_readLine_27 ic_1 ?_
      refine st_iadd g dX4_readLine_28 ?_
      refine pu_X4_31 g dX4_readLine_29 rfl ?_
      refine wa_ltH H (fun h5 H => ?_)
      refine st_aload_n g dX4_readLine_32 rfl ?_
      refine st_bipush g dX4_readLine_33 bi_m63 ?_
      obtain ⟨r6, hr6, H⟩ := bind_some H
      refine st_callVV g (as := [.int (-63)]) dX4_readLine_35 rfl rfl ml_X4_47 mf_X4_emit rfl (Nat.le_of_ble_eq_true rfl) (Nat.le_of_ble_eq_true rfl) (c_X4_emit (-63) h5 _ hr6) ?_
      refine st_aload_n g dX4_readLine_38 rfl ?_
      refine st_iconst g dX4_readLine_39 ic_0 ?_
      refine st_iconst g dX4_readLine_40 ic_0 ?_
      obtain ⟨r7, hr7, H⟩ := bind_some H
      refine st_callVI g (as := [.int 0, .int 0]) dX4_readLine_41 rfl rfl ml_X4_55 mf_X4_readRank rfl (Nat.le_of_ble_eq_true rfl) (Nat.le_of_ble_eq_true rfl) (c_X4_readRank 0 0 r6 _ hr7) (fun hz => ?_)
      have br7 := hz rfl
      obtain rfl := Option.some.inj H
      exact st_iret g dX4_readLine_44 (bo_nar br7) (fun _ => br7) K
    · refine st_iconst g dX4_readLine_20 ic_1 ?_
      obtain rfl := Option.some.inj H
      exact st_iret g dX4_readLine_21 rfl (fun _ => Or.inr rfl) K
  · refine st_iconst g dX4_readLine_9 ic_0 ?_
    obtain rfl := Option.some.inj H
    exact st_iret g dX4_readLine_10 rfl (fun _ => Or.inl rfl) K
theorem c_X4_readLine (h : Hp) (r : (Int32 × Hp)) (H : f_X4_readLine h = some r) : CtI yX4_readLine cX4_readLine 1 .boolean 104 [.ref 7] h r.1 r.2 :=
  ct_ofI (own := RX4) [.ref 7] (by decide +kernel) rfl (fun ρ => Nat.le_of_ble_eq_true rfl) (fun ρ => rfl) (fun x g K => t_X4_readLine g h r H K)
def j_X8_isLine_71 (h : Hp) : Option ((Int32 × Hp)) :=
  lt (stI h 53 22 ((h.1 53 22) + 1)) fun h8 =>
  (wrI h8 69 (h.1 53 22) (h8.1 53 21)).bind fun h9 =>
  some (1, h9)
theorem tj_X8_isLine_71 {x : Cx} (g : Gx x RX8 cX8_isLine 1 104) (h : Hp) (out : (Int32 × Hp)) (H : j_X8_isLine_71 h = some out) (K : RtI x .boolean out.1 out.2) : WA x 71 [.ref 53] [] h := by
  unfold j_X8_isLine_71 at H
  refine st_aload_n g dX8_isLine_71 rfl ?_
  refine gf_X8_57 g dX8_isLine_72 rfl (r := 69) rfl ?_
  refine st_aload_n g dX8_isLine_75 rfl ?_
  refine st_dup g dX8_isLine_76 rfl ?_
  refine gf_X8_218 g dX8_isLine_77 rfl ?_
  refine st_dup_x1 g dX8_isLine_80 rfl rfl ?_
  refine st_iconst g dX8_isLine_81 ic_1 ?_
  refine st_iadd g dX8_isLine_82 ?_
  refine pu_X8_218 g dX8_isLine_83 rfl ?_
  refine wa_ltH H (fun h8 H => ?_)
  refine st_aload_n g dX8_isLine_86 rfl ?_
  refine gf_X8_180 g dX8_isLine_87 rfl ?_
  refine st_iast g dX8_isLine_90 H (fun h9 H => ?_)
  refine st_iconst g dX8_isLine_91 ic_1 ?_
  obtain rfl := Option.some.inj H
  exact st_iret g dX8_isLine_92 rfl (fun _ => Or.inr rfl) K
def f_X8_isLine (h : Hp) : Option (Int32 × Hp) :=
  (wrI h 67 (h.1 53 22) (h.1 53 21)).bind fun h1 =>
  (f_X8_isE h1).bind fun r2 =>
  if r2.1 = 0 then
    some (0, r2.2)
  else
    (rdI r2.2 67 (r2.2.1 53 22)).bind fun v4 =>
    (wrI r2.2 68 (r2.2.1 53 22) v4).bind fun h5 =>
    (f_X8_is 63 h5).bind fun r6 =>
    if r6.1 = 0 then
      j_X8_isLine_71 r6.2
    else
      (wrI r6.2 68 (r6.2.1 53 22) (r6.2.1 53 21)).bind fun h10 =>
      (f_X8_isE h10).bind fun r11 =>
      if r11.1 = 0 then
        some (0, r11.2)
      else
        j_X8_isLine_71 r11.2
theorem t_X8_isLine {x : Cx} (g : Gx x RX8 cX8_isLine 1 104) (h : Hp) (out : (Int32 × Hp)) (H : f_X8_isLine h = some out) (K : RtI x .boolean out.1 out.2) : WA x 0 [.ref 53] [] h := by
  unfold f_X8_isLine at H
  refine st_aload_n g dX8_isLine_0 rfl ?_
  refine gf_X8_51 g dX8_isLine_1 rfl (r := 67) rfl ?_
  refine st_aload_n g dX8_isLine_4 rfl ?_
  refine gf_X8_218 g dX8_isLine_5 rfl ?_
  refine st_aload_n g dX8_isLine_8 rfl ?_
  refine gf_X8_180 g dX8_isLine_9 rfl ?_
  refine st_iast g dX8_isLine_12 H (fun h1 H => ?_)
  refine st_aload_n g dX8_isLine_13 rfl ?_
  obtain ⟨r2, hr2, H⟩ := bind_some H
  refine st_callVI g (as := []) dX8_isLine_14 rfl rfl ml_X8_203 mf_X8_isE rfl (Nat.le_of_ble_eq_true rfl) (Nat.le_of_ble_eq_true rfl) (c_X8_isE h1 _ hr2) (fun hz => ?_)
  have br2 := hz rfl
  refine st_if_ne g dX8_isLine_17 (tgt := 22) (by decide) H (fun q3 H => ?_) (fun q3 H => ?_)
  · refine st_aload_n g dX8_isLine_22 rfl ?_
    refine gf_X8_54 g dX8_isLine_23 rfl (r := 68) rfl ?_
    refine st_aload_n g dX8_isLine_26 rfl ?_
    refine gf_X8_218 g dX8_isLine_27 rfl ?_
    refine st_aload_n g dX8_isLine_30 rfl ?_
    refine gf_X8_51 g dX8_isLine_31 rfl (r := 67) rfl ?_
    refine st_aload_n g dX8_isLine_34 rfl ?_
    refine gf_X8_218 g dX8_isLine_35 rfl ?_
    refine st_iald g dX8_isLine_38 H (fun v4 H => ?_)
    refine st_iast g dX8_isLine_39 H (fun h5 H => ?_)
    refine st_aload_n g dX8_isLine_40 rfl ?_
    refine st_bipush g dX8_isLine_41 bi_63 ?_
    obtain ⟨r6, hr6, H⟩ := bind_some H
    refine st_callVI g (as := [.int 63]) dX8_isLine_43 rfl rfl ml_X8_197 mf_X8_is rfl (Nat.le_of_ble_eq_true rfl) (Nat.le_of_ble_eq_true rfl) (c_X8_is 63 h5 _ hr6) (fun hz => ?_)
    have br6 := hz rfl
    refine st_if_eq g dX8_isLine_46 (tgt := 71) (by decide) H (fun q7 H => ?_) (fun q7 H => ?_)
    · exact (tj_X8_isLine_71 g r6.2 _ H K)
    · refine st_aload_n g dX8_isLine_49 rfl ?_
      refine gf_X8_54 g dX8_isLine_50 rfl (r := 68) rfl ?_
      refine st_aload_n g dX8_isLine_53 rfl ?_
      refine gf_X8_218 g dX8_isLine_54 rfl ?_
      refine st_aload_n g dX8_isLine_57 rfl ?_
      refine gf_X8_180 g dX8_isLine_58 rfl ?_
      refine st_iast g dX8_isLine_61 H (fun h10 H => ?_)
      refine st_aload_n g dX8_isLine_62 rfl ?_
      obtain ⟨r11, hr11, H⟩ := bind_some H
      refine st_callVI g (as := []) dX8_isLine_63 rfl rfl ml_X8_203 mf_X8_isE rfl (Nat.le_of_ble_eq_true rfl) (Nat.le_of_ble_eq_true rfl) (c_X8_isE h10 _ hr11) (fun hz => ?_)
      have br11 := hz rfl
      refine st_if_ne g dX8_isLine_66 (tgt := 71) (by decide) H (fun q12 H => ?_) (fun q12 H => ?_)
      · exact (tj_X8_isLine_71 g r11.2 _ H K)
      · refine st_iconst g dX8_isLine_69 ic_0 ?_
        obtain rfl := Option.some.inj H
        exact st_iret g dX8_isLine_70 rfl (fun _ => Or.inl rfl) K
  · refine st_iconst g dX8_isLine_20 ic_0 ?_
    obtain rfl := Option.some.inj H
    exact st_iret g dX8_isLine_21 rfl (fun _ => Or.inl rfl) K
theorem c_X8_isLine (h : Hp) (r : (Int32 × Hp)) (H : f_X8_isLine h = some r) : CtI yX8_isLine cX8_isLine 1 .boolean 104 [.ref 53] h r.1 r.2 :=
  ct_ofI (own := RX8) [.ref 53] (by decide +kernel) rfl (fun ρ => Nat.le_of_ble_eq_true rfl) (fun ρ => rfl) (fun x g K => t_X8_isLine g h r H K)
def P_X4_readLines_2 (x : Cx) (s : (Int32 × Hp)) : Prop := WA x 2 [.ref 7, .int s.1] [] s.2
def E_X4_readLines_2 (x : Cx) : (Int32 × Hp) ⊕ (Int32 × Hp) → Prop := Sum.elim (fun s : (Int32 × Hp) => WA x 60 [.null, .null] [] s.2) (fun r : (Int32 × Hp) => RtI x .boolean r.1 r.2)
def b_X4_readLines_2 (s : (Int32 × Hp)) : Option ((Int32 × Hp) ⊕ ((Int32 × Hp) ⊕ (Int32 × Hp))) :=
  if 120 < s.1 then
    some (.inr (.inl (s.1, s.2)))
  else
    (f_X4_readLine s.2).bind fun r2 =>
    if r2.1 = 0 then
      some (.inr (.inr (0, r2.2)))
    else
      (f_X4_emit (-59) r2.2).bind fun r4 =>
      (f_X4_nextByte r4).bind fun r5 =>
      if r5 = (-1) then
        some (.inr (.inr (1, r4)))
      else
        (f_X4_nextByte r4).bind fun r7 =>
        if r7 = 59 then
          lt (stI r4 7 6 ((r4.1 7 6) + 1)) fun h9 =>
          some (.inl (s.1 + 1, h9))
        else
          some (.inr (.inr (0, r4)))
theorem tb_X4_readLines_2 {x : Cx} (g : Gx x RX4 cX4_readLines 2 105) (s : (Int32 × Hp)) (out : (Int32 × Hp) ⊕ ((Int32 × Hp) ⊕ (Int32 × Hp))) (H : b_X4_readLines_2 s = some out) (K : Sum.elim (P_X4_readLines_2 x) (E_X4_readLines_2 x) out) : P_X4_readLines_2 x s := by
  unfold b_X4_readLines_2 at H
  show WA x 2 [.ref 7, .int s.1] [] s.2
  refine st_iload_n g dX4_readLines_2 rfl ?_
  refine st_bipush g dX4_readLines_3 bi_120 ?_
  refine st_ic_gt g dX4_readLines_5 (tgt := 60) (by decide) H (fun q1 H => ?_) (fun q1 H => ?_)
  · obtain rfl := Option.some.inj H
    exact (wa_drop [0, 1] K)
  · refine st_aload_n g dX4_readLines_8 rfl ?_
    obtain ⟨r2, hr2, H⟩ := bind_some H
    refine st_callVI g (as := []) dX4_readLines_9 rfl rfl ml_X4_44 mf_X4_readLine rfl (Nat.le_of_ble_eq_true rfl) (Nat.le_of_ble_eq_true rfl) (c_X4_readLine s.2 _ hr2) (fun hz => ?_)
    have br2 := hz rfl
    refine st_if_ne g dX4_readLines_12 (tgt := 17) (by decide) H (fun q3 H => ?_) (fun q3 H => ?_)
    · refine st_aload_n g dX4_readLines_17 rfl ?_
      refine st_bipush g dX4_readLines_18 bi_m59 ?_
      obtain ⟨r4, hr4, H⟩ := bind_some H
      refine st_callVV g (as := [.int (-59)]) dX4_readLines_20 rfl rfl ml_X4_47 mf_X4_emit rfl (Nat.le_of_ble_eq_true rfl) (Nat.le_of_ble_eq_true rfl) (c_X4_emit (-59) r2.2 _ hr4) ?_
      refine st_aload_n g dX4_readLines_23 rfl ?_
      obtain ⟨r5, hr5, H⟩ := bind_some H
      refine st_callVI g (as := []) dX4_readLines_24 rfl rfl ml_X4_51 mf_X4_nextByte rfl (Nat.le_of_ble_eq_true rfl) (Nat.le_of_ble_eq_true rfl) (c_X4_nextByte r4 _ hr5) (fun hz => ?_)
      refine st_iconst g dX4_readLines_27 ic_m1 ?_
      refine st_ic_ne g dX4_readLines_28 (tgt := 33) (by decide) H (fun q6 H => ?_) (fun q6 H => ?_)
      · refine st_aload_n g dX4_readLines_33 rfl ?_
        obtain ⟨r7, hr7, H⟩ := bind_some H
        refine st_callVI g (as := []) dX4_readLines_34 rfl rfl ml_X4_51 mf_X4_nextByte rfl (Nat.le_of_ble_eq_true rfl) (Nat.le_of_ble_eq_true rfl) (c_X4_nextByte r4 _ hr7) (fun hz => ?_)
        refine st_bipush g dX4_readLines_37 bi_59 ?_
        refine st_ic_eq g dX4_readLines_39 (tgt := 44) (by decide) H (fun q8 H => ?_) (fun q8 H => ?_)
        · refine st_aload_n g dX4_readLines_44 rfl ?_
          refine st_dup g dX4_readLines_45 rfl ?_
          refine gf_X4_31 g dX4_readLines_46 rfl ?_
          refine st_iconst g dX4_readLines_49 ic_1 ?_
          refine st_iadd g dX4_readLines_50 ?_
          refine pu_X4_31 g dX4_readLines_51 rfl ?_
          refine wa_ltH H (fun h9 H => ?_)
          refine st_iinc g dX4_readLines_54 rfl (ii_1 _) (Nat.le_of_ble_eq_true rfl) rfl (ls2 := [.ref 7, .int (s.1 + 1)]) rfl ?_
          refine st_goto g dX4_readLines_57 (tgt := 2) (by decide) ?_
          obtain rfl := Option.some.inj H
          exact K
        · refine st_iconst g dX4_readLines_42 ic_0 ?_
          obtain rfl := Option.some.inj H
          exact st_iret g dX4_readLines_43 rfl (fun _ => Or.inl rfl) K
      · refine st_iconst g dX4_readLines_31 ic_1 ?_
        obtain rfl := Option.some.inj H
        exact st_iret g dX4_readLines_32 rfl (fun _ => Or.inr rfl) K
    · refine st_iconst g dX4_readLines_15 ic_0 ?_
      obtain rfl := Option.some.inj H
      exact st_iret g dX4_readLines_16 rfl (fun _ => Or.inl rfl) K
def f_X4_readLines (h : Hp) : Option (Int32 × Hp) :=
  (iter (b_X4_readLines_2) FU (0, h)).bind (Sum.elim (fun a10 =>
    some (0, a10.2)) (fun r => some r))
theorem t_X4_readLines {x : Cx} (g : Gx x RX4 cX4_readLines 2 105) (h : Hp) (out : (Int32 × Hp)) (H : f_X4_readLines h = some out) (K : RtI x .boolean out.1 out.2) : WA x 0 [.ref 7, .null] [] h := by
  unfold f_X4_readLines at H
  refine st_iconst g dX4_readLines_0 ic_0 ?_
  refine st_istore_n g dX4_readLines_1 (Nat.le_of_ble_eq_true rfl) rfl (ls2 := [.ref 7, .int 0]) rfl ?_
  show P_X4_readLines_2 x (0, h)
  obtain ⟨a10o, ha10, hca10⟩ := it_R H
  refine iter_W (P := P_X4_readLines_2 x) (E := E_X4_readLines_2 x) (fun s9 o9 ho9 hK9 => tb_X4_readLines_2 g s9 o9 ho9 hK9) FU _ a10o ha10 ?_
  rcases hca10 with ⟨a10, rfl, H⟩ | ⟨r, rfl, H⟩
  · show WA x 60 [.null, .null] [] a10.2
    refine st_iconst g dX4_readLines_60 ic_0 ?_
    obtain rfl := Option.some.inj H
    exact st_iret g dX4_readLines_61 rfl (fun _ => Or.inl rfl) K
  · obtain rfl := Option.some.inj H
    exact K
theorem c_X4_readLines (h : Hp) (r : (Int32 × Hp)) (H : f_X4_readLines h = some r) : CtI yX4_readLines cX4_readLines 2 .boolean 105 [.ref 7] h r.1 r.2 :=
  ct_ofI (own := RX4) [.ref 7, .null] (by decide +kernel) rfl (fun ρ => Nat.le_of_ble_eq_true rfl) (fun ρ => rfl) (fun x g K => t_X4_readLines g h r H K)
def P_X8_law_25 (x : Cx) (s : (Int32 × Hp)) : Prop := WA x 25 [.ref 53, .int s.1, .null, .null] [] s.2
def E_X8_law_25 (x : Cx) : (Int32 × Hp) → Prop := fun s : (Int32 × Hp) => WA x 46 [.ref 53, .int s.1, .null, .null] [] s.2
def b_X8_law_25 (s : (Int32 × Hp)) : Option ((Int32 × Hp) ⊕ (Int32 × Hp)) :=
  if s.1 = 0 then
    some (.inr (s.1, s.2))
  else
    (f_X8_is 59 s.2).bind fun r7 =>
    if r7.1 = 0 then
      some (.inr (s.1, r7.2))
    else
      (f_X8_isLine r7.2).bind fun r9 =>
      some (.inl (r9.1, r9.2))
theorem tb_X8_law_25 {x : Cx} (g : Gx x RX8 cX8_law 4 105) (s : (Int32 × Hp)) (out : (Int32 × Hp) ⊕ (Int32 × Hp)) (H : b_X8_law_25 s = some out) (K : Sum.elim (P_X8_law_25 x) (E_X8_law_25 x) out) : P_X8_law_25 x s := by
  unfold b_X8_law_25 at H
  show WA x 25 [.ref 53, .int s.1, .null, .null] [] s.2
  refine st_iload_n g dX8_law_25 rfl ?_
  refine st_if_eq g dX8_law_26 (tgt := 46) (by decide) H (fun q6 H => ?_) (fun q6 H => ?_)
  · obtain rfl := Option.some.inj H
    exact K
  · refine st_aload_n g dX8_law_29 rfl ?_
    refine st_bipush g dX8_law_30 bi_59 ?_
    obtain ⟨r7, hr7, H⟩ := bind_some H
    refine st_callVI g (as := [.int 59]) dX8_law_32 rfl rfl ml_X8_197 mf_X8_is rfl (Nat.le_of_ble_eq_true rfl) (Nat.le_of_ble_eq_true rfl) (c_X8_is 59 s.2 _ hr7) (fun hz => ?_)
    have br7 := hz rfl
    refine st_if_eq g dX8_law_35 (tgt := 46) (by decide) H (fun q8 H => ?_) (fun q8 H => ?_)
    · obtain rfl := Option.some.inj H
      exact K
    · refine st_aload_n g dX8_law_38 rfl ?_
      obtain ⟨r9, hr9, H⟩ := bind_some H
      refine st_callVI g (as := []) dX8_law_39 rfl rfl ml_X8_221 mf_X8_isLine rfl (Nat.le_of_ble_eq_true rfl) (Nat.le_of_ble_eq_true rfl) (c_X8_isLine r7.2 _ hr9) (fun hz => ?_)
      have br9 := hz rfl
      refine st_istore_n g dX8_law_42 (Nat.le_of_ble_eq_true rfl) rfl (ls2 := [.ref 53, .int r9.1, .null, .null]) rfl ?_
      refine st_goto g dX8_law_43 (tgt := 25) (by decide) ?_
      obtain rfl := Option.some.inj H
      exact K
def P_X8_law_99 (x : Cx) (s : (Int32 × Hp)) : Prop := WA x 99 [.ref 53, .null, .null, .int s.1] [] s.2
def E_X8_law_99 (x : Cx) : (Int32 × Hp) → Prop := fun s : (Int32 × Hp) => WA x 149 [.ref 53, .null, .null, .null] [] s.2
def b_X8_law_99 (s : (Int32 × Hp)) : Option ((Int32 × Hp) ⊕ (Int32 × Hp)) :=
  if (s.2.1 53 14) ≤ s.1 then
    some (.inr (s.1, s.2))
  else
    (rdI s.2 67 s.1).bind fun v17 =>
    (wrI s.2 63 s.1 v17).bind fun h18 =>
    (rdI h18 68 s.1).bind fun v19 =>
    (wrI h18 64 s.1 v19).bind fun h20 =>
    (rdI h20 69 s.1).bind fun v21 =>
    (wrI h20 65 s.1 v21).bind fun h22 =>
    some (.inl (s.1 + 1, h22))
theorem tb_X8_law_99 {x : Cx} (g : Gx x RX8 cX8_law 4 105) (s : (Int32 × Hp)) (out : (Int32 × Hp) ⊕ (Int32 × Hp)) (H : b_X8_law_99 s = some out) (K : Sum.elim (P_X8_law_99 x) (E_X8_law_99 x) out) : P_X8_law_99 x s := by
  unfold b_X8_law_99 at H
  show WA x 99 [.ref 53, .null, .null, .int s.1] [] s.2
  refine st_iload_n g dX8_law_99 rfl ?_
  refine st_aload_n g dX8_law_100 rfl ?_
  refine gf_X8_228 g dX8_law_101 rfl ?_
  refine st_ic_ge g dX8_law_104 (tgt := 149) (by decide) H (fun q16 H => ?_) (fun q16 H => ?_)
  · obtain rfl := Option.some.inj H
    exact (wa_drop [3] K)
  · refine st_aload_n g dX8_law_107 rfl ?_
    refine gf_X8_39 g dX8_law_108 rfl (r := 63) rfl ?_
    refine st_iload_n g dX8_law_111 rfl ?_
    refine st_aload_n g dX8_law_112 rfl ?_
    refine gf_X8_51 g dX8_law_113 rfl (r := 67) rfl ?_
    refine st_iload_n g dX8_law_116 rfl ?_
    refine st_iald g dX8_law_117 H (fun v17 H => ?_)
    refine st_iast g dX8_law_118 H (fun h18 H => ?_)
    refine st_aload_n g dX8_law_119 rfl ?_
    refine gf_X8_42 g dX8_law_120 rfl (r := 64) rfl ?_
    refine st_iload_n g dX8_law_123 rfl ?_
    refine st_aload_n g dX8_law_124 rfl ?_
    refine gf_X8_54 g dX8_law_125 rfl (r := 68) rfl ?_
    refine st_iload_n g dX8_law_128 rfl ?_
    refine st_iald g dX8_law_129 H (fun v19 H => ?_)
    refine st_iast g dX8_law_130 H (fun h20 H => ?_)
    refine st_aload_n g dX8_law_131 rfl ?_
    refine gf_X8_45 g dX8_law_132 rfl (r := 65) rfl ?_
    refine st_iload_n g dX8_law_135 rfl ?_
    refine st_aload_n g dX8_law_136 rfl ?_
    refine gf_X8_57 g dX8_law_137 rfl (r := 69) rfl ?_
    refine st_iload_n g dX8_law_140 rfl ?_
    refine st_iald g dX8_law_141 H (fun v21 H => ?_)
    refine st_iast g dX8_law_142 H (fun h22 H => ?_)
    refine st_iinc g dX8_law_143 rfl (ii_1 _) (Nat.le_of_ble_eq_true rfl) rfl (ls2 := [.ref 53, .null, .null, .int (s.1 + 1)]) rfl ?_
    refine st_goto g dX8_law_146 (tgt := 99) (by decide) ?_
    obtain rfl := Option.some.inj H
    exact K
def P_X8_law_151 (x : Cx) (s : (Int32 × Hp)) : Prop := WA x 151 [.ref 53, .null, .null, .int s.1] [] s.2
def E_X8_law_151 (x : Cx) : (Int32 × Hp) → Prop := fun s : (Int32 × Hp) => WA x 177 [.null, .null, .null, .null] [] s.2
def b_X8_law_151 (s : (Int32 × Hp)) : Option ((Int32 × Hp) ⊕ (Int32 × Hp)) :=
  if (s.2.1 53 21) ≤ s.1 then
    some (.inr (s.1, s.2))
  else
    (rdI s.2 70 s.1).bind fun v25 =>
    (wrI s.2 66 s.1 v25).bind fun h26 =>
    some (.inl (s.1 + 1, h26))
theorem tb_X8_law_151 {x : Cx} (g : Gx x RX8 cX8_law 4 105) (s : (Int32 × Hp)) (out : (Int32 × Hp) ⊕ (Int32 × Hp)) (H : b_X8_law_151 s = some out) (K : Sum.elim (P_X8_law_151 x) (E_X8_law_151 x) out) : P_X8_law_151 x s := by
  unfold b_X8_law_151 at H
  show WA x 151 [.ref 53, .null, .null, .int s.1] [] s.2
  refine st_iload_n g dX8_law_151 rfl ?_
  refine st_aload_n g dX8_law_152 rfl ?_
  refine gf_X8_180 g dX8_law_153 rfl ?_
  refine st_ic_ge g dX8_law_156 (tgt := 177) (by decide) H (fun q24 H => ?_) (fun q24 H => ?_)
  · obtain rfl := Option.some.inj H
    exact (wa_drop [0, 3] K)
  · refine st_aload_n g dX8_law_159 rfl ?_
    refine gf_X8_48 g dX8_law_160 rfl (r := 66) rfl ?_
    refine st_iload_n g dX8_law_163 rfl ?_
    refine st_aload_n g dX8_law_164 rfl ?_
    refine gf_X8_60 g dX8_law_165 rfl (r := 70) rfl ?_
    refine st_iload_n g dX8_law_168 rfl ?_
    refine st_iald g dX8_law_169 H (fun v25 H => ?_)
    refine st_iast g dX8_law_170 H (fun h26 H => ?_)
    refine st_iinc g dX8_law_171 rfl (ii_1 _) (Nat.le_of_ble_eq_true rfl) rfl (ls2 := [.ref 53, .null, .null, .int (s.1 + 1)]) rfl ?_
    refine st_goto g dX8_law_174 (tgt := 151) (by decide) ?_
    obtain rfl := Option.some.inj H
    exact K
def j_X8_law_66 (t0 : Int32) (h : Hp) : Option ((Int32 × Hp)) :=
  lt (stI h 53 11 0) fun h12 =>
  if t0 = 0 then
    some ((-100) - (h12.1 53 19), h12)
  else
    lt (stI h12 53 13 1) fun h14 =>
    lt (stI h14 53 14 (h14.1 53 22)) fun h15 =>
    (iter (b_X8_law_99) FU (0, h15)).bind fun a23 =>
    (iter (b_X8_law_151) FU (0, a23.2)).bind fun a27 =>
    some (1, a27.2)
theorem tj_X8_law_66 {x : Cx} (g : Gx x RX8 cX8_law 4 105) (t0 : Int32) (h : Hp) (out : (Int32 × Hp)) (H : j_X8_law_66 t0 h = some out) (K : RtI x .int out.1 out.2) : WA x 66 [.ref 53, .null, .null, .null] [.int t0] h := by
  unfold j_X8_law_66 at H
  refine st_istore_n g dX8_law_66 (Nat.le_of_ble_eq_true rfl) rfl (ls2 := [.ref 53, .null, .int t0, .null]) rfl ?_
  refine st_aload_n g dX8_law_67 rfl ?_
  refine st_iconst g dX8_law_68 ic_0 ?_
  refine pu_X8_170 g dX8_law_69 rfl ?_
  refine wa_ltH H (fun h12 H => ?_)
  refine st_iload_n g dX8_law_72 rfl ?_
  refine st_if_ne g dX8_law_73 (tgt := 84) (by decide) H (fun q13 H => ?_) (fun q13 H => ?_)
  · refine st_aload_n g dX8_law_84 rfl ?_
    refine st_iconst g dX8_law_85 ic_1 ?_
    refine pu_X8_224 g dX8_law_86 rfl rfl rfl ?_
    refine wa_ltH H (fun h14 H => ?_)
    refine st_aload_n g dX8_law_89 rfl ?_
    refine st_aload_n g dX8_law_90 rfl ?_
    refine gf_X8_218 g dX8_law_91 rfl ?_
    refine pu_X8_228 g dX8_law_94 rfl ?_
    refine wa_ltH H (fun h15 H => ?_)
    refine st_iconst g dX8_law_97 ic_0 ?_
    refine st_istore_n g dX8_law_98 (Nat.le_of_ble_eq_true rfl) rfl (ls2 := [.ref 53, .null, .int t0, .int 0]) rfl ?_
    refine wa_drop [2] ?_
    show P_X8_law_99 x (0, h15)
    obtain ⟨a23, ha23, H⟩ := bind_some H
    refine iter_W (P := P_X8_law_99 x) (E := E_X8_law_99 x) (fun s9 o9 ho9 hK9 => tb_X8_law_99 g s9 o9 ho9 hK9) FU _ a23 ha23 ?_
    show WA x 149 [.ref 53, .null, .null, .null] [] a23.2
    refine st_iconst g dX8_law_149 ic_0 ?_
    refine st_istore_n g dX8_law_150 (Nat.le_of_ble_eq_true rfl) rfl (ls2 := [.ref 53, .null, .null, .int 0]) rfl ?_
    show P_X8_law_151 x (0, a23.2)
    obtain ⟨a27, ha27, H⟩ := bind_some H
    refine iter_W (P := P_X8_law_151 x) (E := E_X8_law_151 x) (fun s9 o9 ho9 hK9 => tb_X8_law_151 g s9 o9 ho9 hK9) FU _ a27 ha27 ?_
    show WA x 177 [.null, .null, .null, .null] [] a27.2
    refine st_iconst g dX8_law_177 ic_1 ?_
    obtain rfl := Option.some.inj H
    exact st_iret g dX8_law_178 rfl (fun q => by cases q) K
  · refine st_bipush g dX8_law_76 bi_m100 ?_
    refine st_aload_n g dX8_law_78 rfl ?_
    refine gf_X8_173 g dX8_law_79 rfl ?_
    refine st_isub g dX8_law_82 ?_
    obtain rfl := Option.some.inj H
    exact st_iret g dX8_law_83 rfl (fun q => by cases q) K
def j_X8_law_65 (h : Hp) : Option ((Int32 × Hp)) :=
  j_X8_law_66 0 h
theorem tj_X8_law_65 {x : Cx} (g : Gx x RX8 cX8_law 4 105) (h : Hp) (out : (Int32 × Hp)) (H : j_X8_law_65 h = some out) (K : RtI x .int out.1 out.2) : WA x 65 [.ref 53, .null, .null, .null] [] h := by
  unfold j_X8_law_65 at H
  refine st_iconst g dX8_law_65 ic_0 ?_
  exact (tj_X8_law_66 g 0 h _ H K)
def j_X8_law_46 (a1 : Int32) (h : Hp) : Option ((Int32 × Hp)) :=
  if a1 = 0 then
    j_X8_law_65 h
  else
    if (h.1 53 19) = (h.1 53 11) then
      j_X8_law_66 1 h
    else
      j_X8_law_65 h
theorem tj_X8_law_46 {x : Cx} (g : Gx x RX8 cX8_law 4 105) (a1 : Int32) (h : Hp) (out : (Int32 × Hp)) (H : j_X8_law_46 a1 h = some out) (K : RtI x .int out.1 out.2) : WA x 46 [.ref 53, .int a1, .null, .null] [] h := by
  unfold j_X8_law_46 at H
  refine st_iload_n g dX8_law_46 rfl ?_
  refine st_if_eq g dX8_law_47 (tgt := 65) (by decide) H (fun q11 H => ?_) (fun q11 H => ?_)
  · exact (wa_drop [1] (tj_X8_law_65 g h _ H K))
  · refine st_aload_n g dX8_law_50 rfl ?_
    refine gf_X8_173 g dX8_law_51 rfl ?_
    refine st_aload_n g dX8_law_54 rfl ?_
    refine gf_X8_170 g dX8_law_55 rfl ?_
    refine st_ic_ne g dX8_law_58 (tgt := 65) (by decide) H (fun q28 H => ?_) (fun q28 H => ?_)
    · exact (wa_drop [1] (tj_X8_law_65 g h _ H K))
    · refine st_iconst g dX8_law_61 ic_1 ?_
      refine st_goto g dX8_law_62 (tgt := 66) (by decide) ?_
      exact (wa_drop [1] (tj_X8_law_66 g 1 h _ H K))
def f_X8_law (h : Hp) : Option (Int32 × Hp) :=
  lt (stI h 53 19 0) fun h1 =>
  lt (stI h1 53 20 0) fun h2 =>
  lt (stI h2 53 21 0) fun h3 =>
  lt (stI h3 53 22 0) fun h4 =>
  (f_X8_isLine h4).bind fun r5 =>
  (iter (b_X8_law_25) FU (r5.1, r5.2)).bind fun a10 =>
  j_X8_law_46 a10.1 a10.2
theorem t_X8_law {x : Cx} (g : Gx x RX8 cX8_law 4 105) (h : Hp) (out : (Int32 × Hp)) (H : f_X8_law h = some out) (K : RtI x .int out.1 out.2) : WA x 0 [.ref 53, .null, .null, .null] [] h := by
  unfold f_X8_law at H
  refine st_aload_n g dX8_law_0 rfl ?_
  refine st_iconst g dX8_law_1 ic_0 ?_
  refine pu_X8_173 g dX8_law_2 rfl ?_
  refine wa_ltH H (fun h1 H => ?_)
  refine st_aload_n g dX8_law_5 rfl ?_
  refine st_iconst g dX8_law_6 ic_0 ?_
  refine pu_X8_194 g dX8_law_7 rfl ?_
  refine wa_ltH H (fun h2 H => ?_)
  refine st_aload_n g dX8_law_10 rfl ?_
  refine st_iconst g dX8_law_11 ic_0 ?_
  refine pu_X8_180 g dX8_law_12 rfl ?_
  refine wa_ltH H (fun h3 H => ?_)
  refine st_aload_n g dX8_law_15 rfl ?_
  refine st_iconst g dX8_law_16 ic_0 ?_
  refine pu_X8_218 g dX8_law_17 rfl ?_
  refine wa_ltH H (fun h4 H => ?_)
  refine st_aload_n g dX8_law_20 rfl ?_
  obtain ⟨r5, hr5, H⟩ := bind_some H
  refine st_callVI g (as := []) dX8_law_21 rfl rfl ml_X8_221 mf_X8_isLine rfl (Nat.le_of_ble_eq_true rfl) (Nat.le_of_ble_eq_true rfl) (c_X8_isLine h4 _ hr5) (fun hz => ?_)
  have br5 := hz rfl
  refine st_istore_n g dX8_law_24 (Nat.le_of_ble_eq_true rfl) rfl (ls2 := [.ref 53, .int r5.1, .null, .null]) rfl ?_
  show P_X8_law_25 x (r5.1, r5.2)
  obtain ⟨a10, ha10, H⟩ := bind_some H
  refine iter_W (P := P_X8_law_25 x) (E := E_X8_law_25 x) (fun s9 o9 ho9 hK9 => tb_X8_law_25 g s9 o9 ho9 hK9) FU _ a10 ha10 ?_
  show WA x 46 [.ref 53, .int a10.1, .null, .null] [] a10.2
  exact (tj_X8_law_46 g a10.1 a10.2 _ H K)
theorem c_X8_law (h : Hp) (r : (Int32 × Hp)) (H : f_X8_law h = some r) : CtI yX8_law cX8_law 4 .int 105 [.ref 53] h r.1 r.2 :=
  ct_ofI (own := RX8) [.ref 53, .null, .null, .null] (by decide +kernel) rfl (fun ρ => Nat.le_of_ble_eq_true rfl) (fun ρ => rfl) (fun x g K => t_X8_law g h r H K)
def f_X4_enact (h : Hp) : Option (Int32 × Hp) :=
  lt (stI h 7 6 0) fun h1 =>
  lt (stI h1 7 5 0) fun h2 =>
  (f_X4_readLines h2).bind fun r3 =>
  lt (stI r3.2 7 0 0) fun h4 =>
  if r3.1 = 0 then
    some ((-100) - (h4.1 7 6), h4)
  else
    lt (upR h4 7 2 (h4.2.2 7 4)) fun h6 =>
    lt (stI h6 7 3 (h6.1 7 5)) fun h7 =>
    lt (upR h7 7 4 (h4.2.2 7 2)) fun h8 =>
    some (1, h8)
theorem t_X4_enact {x : Cx} (g : Gx x RX4 cX4_enact 3 106) (h : Hp) (out : (Int32 × Hp)) (H : f_X4_enact h = some out) (K : RtI x .int out.1 out.2) : WA x 0 [.ref 7, .null, .null] [] h := by
  unfold f_X4_enact at H
  refine st_aload_n g dX4_enact_0 rfl ?_
  refine st_iconst g dX4_enact_1 ic_0 ?_
  refine pu_X4_31 g dX4_enact_2 rfl ?_
  refine wa_ltH H (fun h1 H => ?_)
  refine st_aload_n g dX4_enact_5 rfl ?_
  refine st_iconst g dX4_enact_6 ic_0 ?_
  refine pu_X4_28 g dX4_enact_7 rfl ?_
  refine wa_ltH H (fun h2 H => ?_)
  refine st_aload_n g dX4_enact_10 rfl ?_
  obtain ⟨r3, hr3, H⟩ := bind_some H
  refine st_callVI g (as := []) dX4_enact_11 rfl rfl ml_X4_40 mf_X4_readLines rfl (Nat.le_of_ble_eq_true rfl) (Nat.le_of_ble_eq_true rfl) (c_X4_readLines h2 _ hr3) (fun hz => ?_)
  have br3 := hz rfl
  refine st_istore_n g dX4_enact_14 (Nat.le_of_ble_eq_true rfl) rfl (ls2 := [.ref 7, .int r3.1, .null]) rfl ?_
  refine st_aload_n g dX4_enact_15 rfl ?_
  refine st_iconst g dX4_enact_16 ic_0 ?_
  refine pu_X4_9 g dX4_enact_17 rfl ?_
  refine wa_ltH H (fun h4 H => ?_)
  refine st_iload_n g dX4_enact_20 rfl ?_
  refine st_if_ne g dX4_enact_21 (tgt := 32) (by decide) H (fun q5 H => ?_) (fun q5 H => ?_)
  · refine st_aload_n g dX4_enact_32 rfl ?_
    refine gf_X4_19 g dX4_enact_33 rfl ?_
    refine st_astore_n g dX4_enact_36 (Nat.le_of_ble_eq_true rfl) rfl (ls2 := [.ref 7, .int r3.1, .ref (h4.2.2 7 2)]) rfl ?_
    refine st_aload_n g dX4_enact_37 rfl ?_
    refine st_aload_n g dX4_enact_38 rfl ?_
    refine gf_X4_25 g dX4_enact_39 rfl ?_
    refine pu_X4_19 g dX4_enact_42 rfl ?_
    refine wa_ltH H (fun h6 H => ?_)
    refine st_aload_n g dX4_enact_45 rfl ?_
    refine st_aload_n g dX4_enact_46 rfl ?_
    refine gf_X4_28 g dX4_enact_47 rfl ?_
    refine pu_X4_22 g dX4_enact_50 rfl ?_
    refine wa_ltH H (fun h7 H => ?_)
    refine st_aload_n g dX4_enact_53 rfl ?_
    refine st_aload_n g dX4_enact_54 rfl ?_
    refine pu_X4_25 g dX4_enact_55 rfl ?_
    refine wa_ltH H (fun h8 H => ?_)
    refine st_iconst g dX4_enact_58 ic_1 ?_
    obtain rfl := Option.some.inj H
    exact st_iret g dX4_enact_59 rfl (fun q => by cases q) K
  · refine st_bipush g dX4_enact_24 bi_m100 ?_
    refine st_aload_n g dX4_enact_26 rfl ?_
    refine gf_X4_31 g dX4_enact_27 rfl ?_
    refine st_isub g dX4_enact_30 ?_
    obtain rfl := Option.some.inj H
    exact st_iret g dX4_enact_31 rfl (fun q => by cases q) K
theorem c_X4_enact (h : Hp) (r : (Int32 × Hp)) (H : f_X4_enact h = some r) : CtI yX4_enact cX4_enact 3 .int 106 [.ref 7] h r.1 r.2 :=
  ct_ofI (own := RX4) [.ref 7, .null, .null] (by decide +kernel) rfl (fun ρ => Nat.le_of_ble_eq_true rfl) (fun ρ => rfl) (fun x g K => t_X4_enact g h r H K)
def f_X7_law (h : Hp) : Option (Int32 × Hp) :=
  (f_X4_enact h).bind fun r1 =>
  some (r1.1, r1.2)
theorem t_X7_law {x : Cx} (g : Gx x RX7 cX7_law 1 107) (h : Hp) (out : (Int32 × Hp)) (H : f_X7_law h = some out) (K : RtI x .int out.1 out.2) : WA x 0 [.ref 0] [] h := by
  unfold f_X7_law at H
  refine st_aload_n g dX7_law_0 rfl ?_
  refine gf_X7_19 g dX7_law_1 rfl (r := 7) rfl ?_
  obtain ⟨r1, hr1, H⟩ := bind_some H
  refine st_callVI g (as := []) dX7_law_4 rfl rfl ml_X7_149 mf_X4_enact rfl (Nat.le_of_ble_eq_true rfl) (Nat.le_of_ble_eq_true rfl) (c_X4_enact h _ hr1) (fun hz => ?_)
  obtain rfl := Option.some.inj H
  exact st_iret g dX7_law_7 rfl (fun q => by cases q) K
theorem c_X7_law (h : Hp) (r : (Int32 × Hp)) (H : f_X7_law h = some r) : CtI yX7_law cX7_law 1 .int 107 [.ref 0] h r.1 r.2 :=
  ct_ofI (own := RX7) [.ref 0] (by decide +kernel) rfl (fun ρ => Nat.le_of_ble_eq_true rfl) (fun ρ => rfl) (fun x g K => t_X7_law g h r H K)
