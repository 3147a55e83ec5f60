def f_X8_passes (h : Hp) : Option Hp :=
  if 99 ≤ (h.1 53 10) then
    some h
  else
    lt (stI h 53 10 ((h.1 53 10) + 1)) fun h2 =>
    some h2
theorem t_X8_passes {x : Cx} (g : Gx x RX8 cX8_passes 1 1) (h : Hp) (out : Hp) (H : f_X8_passes h = some out) (K : RtV x out) : WA x 0 [.ref 53] [] h := by
  unfold f_X8_passes at H
  refine st_aload_n g dX8_passes_0 rfl ?_
  refine gf_X8_127 g dX8_passes_1 rfl ?_
  refine st_bipush g dX8_passes_4 bi_99 ?_
  refine st_ic_ge g dX8_passes_6 (tgt := 19) (by decide) H (fun q1 H => ?_) (fun q1 H => ?_)
  · obtain rfl := Option.some.inj H
    exact st_vret g dX8_passes_19 K
  · refine st_aload_n g dX8_passes_9 rfl ?_
    refine st_dup g dX8_passes_10 rfl ?_
    refine gf_X8_127 g dX8_passes_11 rfl ?_
    refine st_iconst g dX8_passes_14 ic_1 ?_
    refine st_iadd g dX8_passes_15 ?_
    refine pu_X8_127 g dX8_passes_16 rfl ?_
    refine wa_ltH H (fun h2 H => ?_)
    obtain rfl := Option.some.inj H
    exact st_vret g dX8_passes_19 K
theorem c_X8_passes (h : Hp) (r : Hp) (H : f_X8_passes h = some r) : CtV yX8_passes cX8_passes 1 1 [.ref 53] h r :=
  ct_ofV (own := RX8) [.ref 53] (by decide +kernel) rfl (fun ρ => Nat.le_of_ble_eq_true rfl) (fun ρ => rfl) (fun x g K => t_X8_passes g h r H K)
def P_X8_back_12 (x : Cx) (s : (Int32 × Hp)) : Prop := WA x 12 [.ref 53, .int s.1] [] s.2
def E_X8_back_12 (x : Cx) : (Int32 × Hp) → Prop := fun s : (Int32 × Hp) => WA x 36 [.ref 53, .null] [] s.2
def b_X8_back_12 (s : (Int32 × Hp)) : Option ((Int32 × Hp) ⊕ (Int32 × Hp)) :=
  if 12 ≤ s.1 then
    some (.inr (s.1, s.2))
  else
    (rdI s.2 74 s.1).bind fun v3 =>
    (wrI s.2 54 s.1 v3).bind fun h4 =>
    some (.inl (s.1 + 1, h4))
theorem tb_X8_back_12 {x : Cx} (g : Gx x RX8 cX8_back 2 1) (s : (Int32 × Hp)) (out : (Int32 × Hp) ⊕ (Int32 × Hp)) (H : b_X8_back_12 s = some out) (K : Sum.elim (P_X8_back_12 x) (E_X8_back_12 x) out) : P_X8_back_12 x s := by
  unfold b_X8_back_12 at H
  show WA x 12 [.ref 53, .int s.1] [] s.2
  refine st_iload_n g dX8_back_12 rfl ?_
  refine st_bipush g dX8_back_13 bi_12 ?_
  refine st_ic_ge g dX8_back_15 (tgt := 36) (by decide) H (fun q2 H => ?_) (fun q2 H => ?_)
  · obtain rfl := Option.some.inj H
    exact (wa_drop [1] K)
  · refine st_aload_n g dX8_back_18 rfl ?_
    refine gf_X8_9 g dX8_back_19 rfl (r := 54) rfl ?_
    refine st_iload_n g dX8_back_22 rfl ?_
    refine st_aload_n g dX8_back_23 rfl ?_
    refine gf_X8_72 g dX8_back_24 rfl (r := 74) rfl ?_
    refine st_iload_n g dX8_back_27 rfl ?_
    refine st_iald g dX8_back_28 H (fun v3 H => ?_)
    refine st_iast g dX8_back_29 H (fun h4 H => ?_)
    refine st_iinc g dX8_back_30 rfl (ii_1 _) (Nat.le_of_ble_eq_true rfl) rfl (ls2 := [.ref 53, .int (s.1 + 1)]) rfl ?_
    refine st_goto g dX8_back_33 (tgt := 12) (by decide) ?_
    obtain rfl := Option.some.inj H
    exact K
def P_X8_back_38 (x : Cx) (s : (Int32 × Hp)) : Prop := WA x 38 [.ref 53, .int s.1] [] s.2
def E_X8_back_38 (x : Cx) : (Int32 × Hp) → Prop := fun s : (Int32 × Hp) => WA x 82 [.ref 53, .null] [] s.2
def b_X8_back_38 (s : (Int32 × Hp)) : Option ((Int32 × Hp) ⊕ (Int32 × Hp)) :=
  if (s.2.1 53 31) ≤ s.1 then
    some (.inr (s.1, s.2))
  else
    (rdI s.2 74 (12 + s.1)).bind fun v7 =>
    (wrI s.2 61 s.1 v7).bind fun h8 =>
    (rdI h8 74 (24 + s.1)).bind fun v9 =>
    (wrI h8 60 s.1 v9).bind fun h10 =>
    some (.inl (s.1 + 1, h10))
theorem tb_X8_back_38 {x : Cx} (g : Gx x RX8 cX8_back 2 1) (s : (Int32 × Hp)) (out : (Int32 × Hp) ⊕ (Int32 × Hp)) (H : b_X8_back_38 s = some out) (K : Sum.elim (P_X8_back_38 x) (E_X8_back_38 x) out) : P_X8_back_38 x s := by
  unfold b_X8_back_38 at H
  show WA x 38 [.ref 53, .int s.1] [] s.2
  refine st_iload_n g dX8_back_38 rfl ?_
  refine st_aload_n g dX8_back_39 rfl ?_
  refine gf_X8_324 g dX8_back_40 rfl ?_
  refine st_ic_ge g dX8_back_43 (tgt := 82) (by decide) H (fun q6 H => ?_) (fun q6 H => ?_)
  · obtain rfl := Option.some.inj H
    exact (wa_drop [1] K)
  · refine st_aload_n g dX8_back_46 rfl ?_
    refine gf_X8_33 g dX8_back_47 rfl (r := 61) rfl ?_
    refine st_iload_n g dX8_back_50 rfl ?_
    refine st_aload_n g dX8_back_51 rfl ?_
    refine gf_X8_72 g dX8_back_52 rfl (r := 74) rfl ?_
    refine st_bipush g dX8_back_55 bi_12 ?_
    refine st_iload_n g dX8_back_57 rfl ?_
    refine st_iadd g dX8_back_58 ?_
    refine st_iald g dX8_back_59 H (fun v7 H => ?_)
    refine st_iast g dX8_back_60 H (fun h8 H => ?_)
    refine st_aload_n g dX8_back_61 rfl ?_
    refine gf_X8_30 g dX8_back_62 rfl (r := 60) rfl ?_
    refine st_iload_n g dX8_back_65 rfl ?_
    refine st_aload_n g dX8_back_66 rfl ?_
    refine gf_X8_72 g dX8_back_67 rfl (r := 74) rfl ?_
    refine st_bipush g dX8_back_70 bi_24 ?_
    refine st_iload_n g dX8_back_72 rfl ?_
    refine st_iadd g dX8_back_73 ?_
    refine st_iald g dX8_back_74 H (fun v9 H => ?_)
    refine st_iast g dX8_back_75 H (fun h10 H => ?_)
    refine st_iinc g dX8_back_76 rfl (ii_1 _) (Nat.le_of_ble_eq_true rfl) rfl (ls2 := [.ref 53, .int (s.1 + 1)]) rfl ?_
    refine st_goto g dX8_back_79 (tgt := 38) (by decide) ?_
    obtain rfl := Option.some.inj H
    exact K
def P_X8_back_95 (x : Cx) (s : (Int32 × Hp)) : Prop := WA x 95 [.ref 53, .int s.1] [] s.2
def E_X8_back_95 (x : Cx) : (Int32 × Hp) → Prop := fun s : (Int32 × Hp) => WA x 119 [.ref 53, .null] [] s.2
def b_X8_back_95 (s : (Int32 × Hp)) : Option ((Int32 × Hp) ⊕ (Int32 × Hp)) :=
  if 6 ≤ s.1 then
    some (.inr (s.1, s.2))
  else
    (rdI s.2 75 s.1).bind fun v15 =>
    (wrI s.2 73 s.1 v15).bind fun h16 =>
    some (.inl (s.1 + 1, h16))
theorem tb_X8_back_95 {x : Cx} (g : Gx x RX8 cX8_back 2 1) (s : (Int32 × Hp)) (out : (Int32 × Hp) ⊕ (Int32 × Hp)) (H : b_X8_back_95 s = some out) (K : Sum.elim (P_X8_back_95 x) (E_X8_back_95 x) out) : P_X8_back_95 x s := by
  unfold b_X8_back_95 at H
  show WA x 95 [.ref 53, .int s.1] [] s.2
  refine st_iload_n g dX8_back_95 rfl ?_
  refine st_bipush g dX8_back_96 bi_6 ?_
  refine st_ic_ge g dX8_back_98 (tgt := 119) (by decide) H (fun q14 H => ?_) (fun q14 H => ?_)
  · obtain rfl := Option.some.inj H
    exact (wa_drop [1] K)
  · refine st_aload_n g dX8_back_101 rfl ?_
    refine gf_X8_69 g dX8_back_102 rfl (r := 73) rfl ?_
    refine st_iload_n g dX8_back_105 rfl ?_
    refine st_aload_n g dX8_back_106 rfl ?_
    refine gf_X8_75 g dX8_back_107 rfl (r := 75) rfl ?_
    refine st_iload_n g dX8_back_110 rfl ?_
    refine st_iald g dX8_back_111 H (fun v15 H => ?_)
    refine st_iast g dX8_back_112 H (fun h16 H => ?_)
    refine st_iinc g dX8_back_113 rfl (ii_1 _) (Nat.le_of_ble_eq_true rfl) rfl (ls2 := [.ref 53, .int (s.1 + 1)]) rfl ?_
    refine st_goto g dX8_back_116 (tgt := 95) (by decide) ?_
    obtain rfl := Option.some.inj H
    exact K
def f_X8_back (h : Hp) : Option (Int32 × Hp) :=
  if (h.1 53 30) = 0 then
    some ((-5), h)
  else
    (iter (b_X8_back_12) FU (0, h)).bind fun a5 =>
    (iter (b_X8_back_38) FU (0, a5.2)).bind fun a11 =>
    (rdI a11.2 74 36).bind fun v12 =>
    lt (stI a11.2 53 10 v12) fun h13 =>
    (iter (b_X8_back_95) FU (0, h13)).bind fun a17 =>
    (rdI a17.2 73 0).bind fun v18 =>
    some (v18, a17.2)
theorem t_X8_back {x : Cx} (g : Gx x RX8 cX8_back 2 1) (h : Hp) (out : (Int32 × Hp)) (H : f_X8_back h = some out) (K : RtI x .int out.1 out.2) : WA x 0 [.ref 53, .null] [] h := by
  unfold f_X8_back at H
  refine st_aload_n g dX8_back_0 rfl ?_
  refine gf_X8_321 g dX8_back_1 rfl ?_
  refine st_if_ne g dX8_back_4 (tgt := 10) (by decide) H (fun q1 H => ?_) (fun q1 H => ?_)
  · refine st_iconst g dX8_back_10 ic_0 ?_
    refine st_istore_n g dX8_back_11 (Nat.le_of_ble_eq_true rfl) rfl (ls2 := [.ref 53, .int 0]) rfl ?_
    show P_X8_back_12 x (0, h)
    obtain ⟨a5, ha5, H⟩ := bind_some H
    refine iter_W (P := P_X8_back_12 x) (E := E_X8_back_12 x) (fun s9 o9 ho9 hK9 => tb_X8_back_12 g s9 o9 ho9 hK9) FU _ a5 ha5 ?_
    show WA x 36 [.ref 53, .null] [] a5.2
    refine st_iconst g dX8_back_36 ic_0 ?_
    refine st_istore_n g dX8_back_37 (Nat.le_of_ble_eq_true rfl) rfl (ls2 := [.ref 53, .int 0]) rfl ?_
    show P_X8_back_38 x (0, a5.2)
    obtain ⟨a11, ha11, H⟩ := bind_some H
    refine iter_W (P := P_X8_back_38 x) (E := E_X8_back_38 x) (fun s9 o9 ho9 hK9 => tb_X8_back_38 g s9 o9 ho9 hK9) FU _ a11 ha11 ?_
    show WA x 82 [.ref 53, .null] [] a11.2
    refine st_aload_n g dX8_back_82 rfl ?_
    refine st_aload_n g dX8_back_83 rfl ?_
    refine gf_X8_72 g dX8_back_84 rfl (r := 74) rfl ?_
    refine st_bipush g dX8_back_87 bi_36 ?_
    refine st_iald g dX8_back_89 H (fun v12 H => ?_)
    refine pu_X8_127 g dX8_back_90 rfl ?_
    refine wa_ltH H (fun h13 H => ?_)
    refine st_iconst g dX8_back_93 ic_0 ?_
    refine st_istore_n g dX8_back_94 (Nat.le_of_ble_eq_true rfl) rfl (ls2 := [.ref 53, .int 0]) rfl ?_
    show P_X8_back_95 x (0, h13)
    obtain ⟨a17, ha17, H⟩ := bind_some H
    refine iter_W (P := P_X8_back_95 x) (E := E_X8_back_95 x) (fun s9 o9 ho9 hK9 => tb_X8_back_95 g s9 o9 ho9 hK9) FU _ a17 ha17 ?_
    show WA x 119 [.ref 53, .null] [] a17.2
    refine st_aload_n g dX8_back_119 rfl ?_
    refine gf_X8_69 g dX8_back_120 rfl (r := 73) rfl ?_
    refine st_iconst g dX8_back_123 ic_0 ?_
    refine st_iald g dX8_back_124 H (fun v18 H => ?_)
    obtain rfl := Option.some.inj H
    exact st_iret g dX8_back_125 rfl (fun q => by cases q) K
  · refine st_bipush g dX8_back_7 bi_m5 ?_
    obtain rfl := Option.some.inj H
    exact st_iret g dX8_back_9 rfl (fun q => by cases q) K
theorem c_X8_back (h : Hp) (r : (Int32 × Hp)) (H : f_X8_back h = some r) : CtI yX8_back cX8_back 2 .int 1 [.ref 53] h r.1 r.2 :=
  ct_ofI (own := RX8) [.ref 53, .null] (by decide +kernel) rfl (fun ρ => Nat.le_of_ble_eq_true rfl) (fun ρ => rfl) (fun x g K => t_X8_back g h r H K)
def f_X8_ran (a1 : Int32) (h : Hp) : Option Hp :=
  if 24 ≤ (h.1 53 39) then
    lt (stI h 53 39 ((h.1 53 39) + 1)) fun h2 =>
    some h2
  else
    (wrI h 78 (h.1 53 39) a1).bind fun h3 =>
    lt (stI h3 53 39 ((h3.1 53 39) + 1)) fun h4 =>
    some h4
theorem t_X8_ran {x : Cx} (g : Gx x RX8 cX8_ran 2 1) (a1 : Int32) (h : Hp) (out : Hp) (H : f_X8_ran a1 h = some out) (K : RtV x out) : WA x 0 [.ref 53, .int a1] [] h := by
  unfold f_X8_ran at H
  refine st_aload_n g dX8_ran_0 rfl ?_
  refine gf_X8_327 g dX8_ran_1 rfl ?_
  refine st_bipush g dX8_ran_4 bi_24 ?_
  refine st_ic_ge g dX8_ran_6 (tgt := 19) (by decide) H (fun q1 H => ?_) (fun q1 H => ?_)
  · refine st_aload_n g dX8_ran_19 rfl ?_
    refine st_dup g dX8_ran_20 rfl ?_
    refine gf_X8_327 g dX8_ran_21 rfl ?_
    refine st_iconst g dX8_ran_24 ic_1 ?_
    refine st_iadd g dX8_ran_25 ?_
    refine pu_X8_327 g dX8_ran_26 rfl ?_
    refine wa_ltH H (fun h2 H => ?_)
    obtain rfl := Option.some.inj H
    exact st_vret g dX8_ran_29 K
  · refine st_aload_n g dX8_ran_9 rfl ?_
    refine gf_X8_84 g dX8_ran_10 rfl (r := 78) rfl ?_
    refine st_aload_n g dX8_ran_13 rfl ?_
    refine gf_X8_327 g dX8_ran_14 rfl ?_
    refine st_iload_n g dX8_ran_17 rfl ?_
    refine st_iast g dX8_ran_18 H (fun h3 H => ?_)
    refine st_aload_n g dX8_ran_19 rfl ?_
    refine st_dup g dX8_ran_20 rfl ?_
    refine gf_X8_327 g dX8_ran_21 rfl ?_
    refine st_iconst g dX8_ran_24 ic_1 ?_
    refine st_iadd g dX8_ran_25 ?_
    refine pu_X8_327 g dX8_ran_26 rfl ?_
    refine wa_ltH H (fun h4 H => ?_)
    obtain rfl := Option.some.inj H
    exact st_vret g dX8_ran_29 K
theorem c_X8_ran (a1 : Int32) (h : Hp) (r : Hp) (H : f_X8_ran a1 h = some r) : CtV yX8_ran cX8_ran 2 1 [.ref 53, .int a1] h r :=
  ct_ofV (own := RX8) [.ref 53, .int a1] (by decide +kernel) rfl (fun ρ => Nat.le_of_ble_eq_true rfl) (fun ρ => rfl) (fun x g K => t_X8_ran g a1 h r H K)
def f_X8_above (a0 : Int32) : Option Int32 :=
  if a0 = 3 then
    some 2
  else
  if a0 = 4 then
    some 1
  else
  if a0 = 5 then
    some 3
  else
  if a0 = 6 then
    some 0
  else
  if a0 = 7 then
    some 4
  else
    some 0
theorem t_X8_above {x : Cx} (g : Gx x RX8 cX8_above 1 1) (a0 : Int32) (h : Hp) (out : Int32) (H : f_X8_above a0 = some out) (K : RtI x .int out h) : WA x 0 [.int a0] [] h := by
  unfold f_X8_above at H
  refine st_iload_n g dX8_above_0 rfl ?_
  by_cases q1 : a0 = 3
  · rw [if_pos q1] at H
    refine st_tsw g dX8_above_1 (tgt := 36) q1 (by decide) (by decide) rfl (by decide) ?_
    refine st_iconst g dX8_above_36 ic_2 ?_
    obtain rfl := Option.some.inj H
    exact st_iret g dX8_above_37 rfl (fun q => by cases q) K
  · rw [if_neg q1] at H
    by_cases q2 : a0 = 4
    · rw [if_pos q2] at H
      refine st_tsw g dX8_above_1 (tgt := 38) q2 (by decide) (by decide) rfl (by decide) ?_
      refine st_iconst g dX8_above_38 ic_1 ?_
      obtain rfl := Option.some.inj H
      exact st_iret g dX8_above_39 rfl (fun q => by cases q) K
    · rw [if_neg q2] at H
      by_cases q3 : a0 = 5
      · rw [if_pos q3] at H
        refine st_tsw g dX8_above_1 (tgt := 40) q3 (by decide) (by decide) rfl (by decide) ?_
        refine st_iconst g dX8_above_40 ic_3 ?_
        obtain rfl := Option.some.inj H
        exact st_iret g dX8_above_41 rfl (fun q => by cases q) K
      · rw [if_neg q3] at H
        by_cases q4 : a0 = 6
        · rw [if_pos q4] at H
          refine st_tsw g dX8_above_1 (tgt := 44) q4 (by decide) (by decide) rfl (by decide) ?_
          refine st_iconst g dX8_above_44 ic_0 ?_
          obtain rfl := Option.some.inj H
          exact st_iret g dX8_above_45 rfl (fun q => by cases q) K
        · rw [if_neg q4] at H
          by_cases q5 : a0 = 7
          · rw [if_pos q5] at H
            refine st_tsw g dX8_above_1 (tgt := 42) q5 (by decide) (by decide) rfl (by decide) ?_
            refine st_iconst g dX8_above_42 ic_4 ?_
            obtain rfl := Option.some.inj H
            exact st_iret g dX8_above_43 rfl (fun q => by cases q) K
          · rw [if_neg q5] at H
            have zq1 := lv_neT q1 (show (3 : Int32).toInt = 3 by decide)
            have zq2 := lv_neT q2 (show (4 : Int32).toInt = 4 by decide)
            have zq3 := lv_neT q3 (show (5 : Int32).toInt = 5 by decide)
            have zq4 := lv_neT q4 (show (6 : Int32).toInt = 6 by decide)
            have zq5 := lv_neT q5 (show (7 : Int32).toInt = 7 by decide)
            refine st_tswD g dX8_above_1 (tgt := 44) (by omega) (by decide) ?_
            refine st_iconst g dX8_above_44 ic_0 ?_
            obtain rfl := Option.some.inj H
            exact st_iret g dX8_above_45 rfl (fun q => by cases q) K
theorem c_X8_above (a0 : Int32) (h : Hp) (r : Int32) (H : f_X8_above a0 = some r) : CtI yX8_above cX8_above 1 .int 1 [.int a0] h r h :=
  ct_ofI (own := RX8) [.int a0] (by decide +kernel) rfl (fun ρ => Nat.le_of_ble_eq_true rfl) (fun ρ => rfl) (fun x g K => t_X8_above g a0 h r H K)
def f_X8_kept (a0 : Int32) (a1 : Int64) : Option Int64 :=
  if a0 = 0 then
    some a1.toInt32.toInt8.toInt32.toInt64
  else
  if a0 = 1 then
    some a1.toInt32.toInt16.toInt32.toInt64
  else
  if a0 = 2 then
    some a1.toInt32.toInt64
  else
  if a0 = 3 then
    some a1
  else
    if (lg_cmp a1 0) = 0 then
      some 0
    else
      some 1
theorem t_X8_kept {x : Cx} (g : Gx x RX8 cX8_kept 3 1) (a0 : Int32) (a1 : Int64) (h : Hp) (out : Int64) (H : f_X8_kept a0 a1 = some out) (K : RtL x out h) : WA x 0 [.int a0, .long a1, .null] [] h := by
  unfold f_X8_kept at H
  refine st_iload_n g dX8_kept_0 rfl ?_
  by_cases q1 : a0 = 0
  · rw [if_pos q1] at H
    refine st_tsw g dX8_kept_1 (tgt := 32) q1 (by decide) (by decide) rfl (by decide) ?_
    refine st_lload_n g dX8_kept_32 rfl ?_
    refine st_l2i g dX8_kept_33 ?_
    refine st_i2b g dX8_kept_34 ?_
    refine st_i2l g dX8_kept_35 ?_
    obtain rfl := Option.some.inj H
    exact st_lret g dX8_kept_36 K
  · rw [if_neg q1] at H
    by_cases q2 : a0 = 1
    · rw [if_pos q2] at H
      refine st_tsw g dX8_kept_1 (tgt := 37) q2 (by decide) (by decide) rfl (by decide) ?_
      refine st_lload_n g dX8_kept_37 rfl ?_
      refine st_l2i g dX8_kept_38 ?_
      refine st_i2s g dX8_kept_39 ?_
      refine st_i2l g dX8_kept_40 ?_
      obtain rfl := Option.some.inj H
      exact st_lret g dX8_kept_41 K
    · rw [if_neg q2] at H
      by_cases q3 : a0 = 2
      · rw [if_pos q3] at H
        refine st_tsw g dX8_kept_1 (tgt := 42) q3 (by decide) (by decide) rfl (by decide) ?_
        refine st_lload_n g dX8_kept_42 rfl ?_
        refine st_l2i g dX8_kept_43 ?_
        refine st_i2l g dX8_kept_44 ?_
        obtain rfl := Option.some.inj H
        exact st_lret g dX8_kept_45 K
      · rw [if_neg q3] at H
        by_cases q4 : a0 = 3
        · rw [if_pos q4] at H
          refine st_tsw g dX8_kept_1 (tgt := 46) q4 (by decide) (by decide) rfl (by decide) ?_
          refine st_lload_n g dX8_kept_46 rfl ?_
          obtain rfl := Option.some.inj H
          exact st_lret g dX8_kept_47 K
        · rw [if_neg q4] at H
          have zq1 := lv_neT q1 (show (0 : Int32).toInt = 0 by decide)
          have zq2 := lv_neT q2 (show (1 : Int32).toInt = 1 by decide)
          have zq3 := lv_neT q3 (show (2 : Int32).toInt = 2 by decide)
          have zq4 := lv_neT q4 (show (3 : Int32).toInt = 3 by decide)
          refine st_tswD g dX8_kept_1 (tgt := 48) (by omega) (by decide) ?_
          refine st_lload_n g dX8_kept_48 rfl ?_
          refine st_lconst g dX8_kept_49 lc_0 ?_
          refine st_lcmp g dX8_kept_50 ?_
          refine st_if_eq g dX8_kept_51 (tgt := 58) (by decide) H (fun q5 H => ?_) (fun q5 H => ?_)
          · refine st_lconst g dX8_kept_58 lc_0 ?_
            obtain rfl := Option.some.inj H
            exact st_lret g dX8_kept_59 K
          · refine st_lconst g dX8_kept_54 lc_1 ?_
            refine st_goto g dX8_kept_55 (tgt := 59) (by decide) ?_
            obtain rfl := Option.some.inj H
            exact st_lret g dX8_kept_59 K
theorem c_X8_kept (a0 : Int32) (a1 : Int64) (h : Hp) (r : Int64) (H : f_X8_kept a0 a1 = some r) : CtL yX8_kept cX8_kept 3 1 [.int a0, .long a1] h r h :=
  ct_ofL (own := RX8) [.int a0, .long a1, .null] (by decide +kernel) rfl (fun ρ => Nat.le_of_ble_eq_true rfl) (fun ρ => rfl) (fun x g K => t_X8_kept g a0 a1 h r H K)
def f_X8_count (a1 : Int32) (h : Hp) : Option Int32 :=
  if a1 = 0 then
    some (h.1 53 1)
  else
  if a1 = 1 then
    some (h.1 53 4)
  else
  if a1 = 2 then
    some (h.1 53 11)
  else
  if a1 = 3 then
    some (h.1 53 35)
  else
  if a1 = 4 then
    some (h.1 53 37)
  else
  if a1 = 5 then
    some (h.1 53 39)
  else
    some (-1)
theorem t_X8_count {x : Cx} (g : Gx x RX8 cX8_count 2 1) (a1 : Int32) (h : Hp) (out : Int32) (H : f_X8_count a1 h = some out) (K : RtI x .int out h) : WA x 0 [.ref 53, .int a1] [] h := by
  unfold f_X8_count at H
  refine st_iload_n g dX8_count_0 rfl ?_
  by_cases q1 : a1 = 0
  · rw [if_pos q1] at H
    refine st_tsw g dX8_count_1 (tgt := 40) q1 (by decide) (by decide) rfl (by decide) ?_
    refine st_aload_n g dX8_count_40 rfl ?_
    refine gf_X8_113 g dX8_count_41 rfl ?_
    obtain rfl := Option.some.inj H
    exact st_iret g dX8_count_44 rfl (fun q => by cases q) K
  · rw [if_neg q1] at H
    by_cases q2 : a1 = 1
    · rw [if_pos q2] at H
      refine st_tsw g dX8_count_1 (tgt := 45) q2 (by decide) (by decide) rfl (by decide) ?_
      refine st_aload_n g dX8_count_45 rfl ?_
      refine gf_X8_117 g dX8_count_46 rfl ?_
      obtain rfl := Option.some.inj H
      exact st_iret g dX8_count_49 rfl (fun q => by cases q) K
    · rw [if_neg q2] at H
      by_cases q3 : a1 = 2
      · rw [if_pos q3] at H
        refine st_tsw g dX8_count_1 (tgt := 50) q3 (by decide) (by decide) rfl (by decide) ?_
        refine st_aload_n g dX8_count_50 rfl ?_
        refine gf_X8_170 g dX8_count_51 rfl ?_
        obtain rfl := Option.some.inj H
        exact st_iret g dX8_count_54 rfl (fun q => by cases q) K
      · rw [if_neg q3] at H
        by_cases q4 : a1 = 3
        · rw [if_pos q4] at H
          refine st_tsw g dX8_count_1 (tgt := 55) q4 (by decide) (by decide) rfl (by decide) ?_
          refine st_aload_n g dX8_count_55 rfl ?_
          refine gf_X8_164 g dX8_count_56 rfl ?_
          obtain rfl := Option.some.inj H
          exact st_iret g dX8_count_59 rfl (fun q => by cases q) K
        · rw [if_neg q4] at H
          by_cases q5 : a1 = 4
          · rw [if_pos q5] at H
            refine st_tsw g dX8_count_1 (tgt := 60) q5 (by decide) (by decide) rfl (by decide) ?_
            refine st_aload_n g dX8_count_60 rfl ?_
            refine gf_X8_349 g dX8_count_61 rfl ?_
            obtain rfl := Option.some.inj H
            exact st_iret g dX8_count_64 rfl (fun q => by cases q) K
          · rw [if_neg q5] at H
            by_cases q6 : a1 = 5
            · rw [if_pos q6] at H
              refine st_tsw g dX8_count_1 (tgt := 65) q6 (by decide) (by decide) rfl (by decide) ?_
              refine st_aload_n g dX8_count_65 rfl ?_
              refine gf_X8_327 g dX8_count_66 rfl ?_
              obtain rfl := Option.some.inj H
              exact st_iret g dX8_count_69 rfl (fun q => by cases q) K
            · rw [if_neg q6] at H
              have zq1 := lv_neT q1 (show (0 : Int32).toInt = 0 by decide)
              have zq2 := lv_neT q2 (show (1 : Int32).toInt = 1 by decide)
              have zq3 := lv_neT q3 (show (2 : Int32).toInt = 2 by decide)
              have zq4 := lv_neT q4 (show (3 : Int32).toInt = 3 by decide)
              have zq5 := lv_neT q5 (show (4 : Int32).toInt = 4 by decide)
              have zq6 := lv_neT q6 (show (5 : Int32).toInt = 5 by decide)
              refine st_tswD g dX8_count_1 (tgt := 70) (by omega) (by decide) ?_
              refine st_iconst g dX8_count_70 ic_m1 ?_
              obtain rfl := Option.some.inj H
              exact st_iret g dX8_count_71 rfl (fun q => by cases q) K
theorem c_X8_count (a1 : Int32) (h : Hp) (r : Int32) (H : f_X8_count a1 h = some r) : CtI yX8_count cX8_count 2 .int 1 [.ref 53, .int a1] h r h :=
  ct_ofI (own := RX8) [.ref 53, .int a1] (by decide +kernel) rfl (fun ρ => Nat.le_of_ble_eq_true rfl) (fun ρ => rfl) (fun x g K => t_X8_count g a1 h r H K)
def f_X7_person (a1 : Int32) (h : Hp) : Option (Int32 × Hp) :=
  (f_X7_isHouse a1).bind fun r1 =>
  if r1 = 0 then
    some ((-1), h)
  else
    if (h.1 1 0) = 10 then
      some ((-3), h)
    else
      (f_X3_settle a1 h).bind fun r4 =>
      some (r4.1, r4.2)
theorem t_X7_person {x : Cx} (g : Gx x RX7 cX7_person 2 2) (a1 : Int32) (h : Hp) (out : (Int32 × Hp)) (H : f_X7_person a1 h = some out) (K : RtI x .int out.1 out.2) : WA x 0 [.ref 0, .int a1] [] h := by
  unfold f_X7_person at H
  refine st_iload_n g dX7_person_0 rfl ?_
  obtain ⟨r1, hr1, H⟩ := bind_some H
  refine st_callSI g (as := [.int a1]) dX7_person_1 ml_X7_85 mf_X7_isHouse rfl (Nat.le_of_ble_eq_true rfl) (Nat.le_of_ble_eq_true rfl) (c_X7_isHouse a1 h _ hr1) (fun hz => ?_)
  have br1 := hz rfl
  refine st_if_ne g dX7_person_4 (tgt := 9) (by decide) H (fun q2 H => ?_) (fun q2 H => ?_)
  · refine st_aload_n g dX7_person_9 rfl ?_
    refine gf_X7_10 g dX7_person_10 rfl (r := 1) rfl ?_
    refine gf_X7_89 g dX7_person_13 rfl ?_
    refine st_bipush g dX7_person_16 bi_10 ?_
    refine st_ic_ne g dX7_person_18 (tgt := 24) (by decide) H (fun q3 H => ?_) (fun q3 H => ?_)
    · refine st_aload_n g dX7_person_24 rfl ?_
      refine gf_X7_10 g dX7_person_25 rfl (r := 1) rfl ?_
      refine st_iload_n g dX7_person_28 rfl ?_
      obtain ⟨r4, hr4, H⟩ := bind_some H
      refine st_callVI g (as := [.int a1]) dX7_person_29 rfl rfl ml_X7_92 mf_X3_settle rfl (Nat.le_of_ble_eq_true rfl) (Nat.le_of_ble_eq_true rfl) (c_X3_settle a1 h _ hr4) (fun hz => ?_)
      obtain rfl := Option.some.inj H
      exact st_iret g dX7_person_32 rfl (fun q => by cases q) K
    · refine st_bipush g dX7_person_21 bi_m3 ?_
      obtain rfl := Option.some.inj H
      exact st_iret g dX7_person_23 rfl (fun q => by cases q) K
  · refine st_iconst g dX7_person_7 ic_m1 ?_
    obtain rfl := Option.some.inj H
    exact st_iret g dX7_person_8 rfl (fun q => by cases q) K
theorem c_X7_person (a1 : Int32) (h : Hp) (r : (Int32 × Hp)) (H : f_X7_person a1 h = some r) : CtI yX7_person cX7_person 2 .int 2 [.ref 0, .int a1] h r.1 r.2 :=
  ct_ofI (own := RX7) [.ref 0, .int a1] (by decide +kernel) rfl (fun ρ => Nat.le_of_ble_eq_true rfl) (fun ρ => rfl) (fun x g K => t_X7_person g a1 h r H K)
def f_X3_isSo (a1 : Int32) (a2 : Int32) (a3 : Int32) (h : Hp) : Option Int32 :=
  (f_X3_isOne a1 h).bind fun r1 =>
  if r1 = 0 then
    some 0
  else
    (f_X3_isOne a2 h).bind fun r3 =>
    if r3 = 0 then
      some 0
    else
      if a1 = a2 then
        some 0
      else
        if a3 < 1 then
          some 0
        else
          if 9 < a3 then
            some 0
          else
            some 1
theorem t_X3_isSo {x : Cx} (g : Gx x RX3 cX3_isSo 4 2) (a1 : Int32) (a2 : Int32) (a3 : Int32) (h : Hp) (out : Int32) (H : f_X3_isSo a1 a2 a3 h = some out) (K : RtI x .boolean out h) : WA x 0 [.ref 1, .int a1, .int a2, .int a3] [] h := by
  unfold f_X3_isSo at H
  refine st_aload_n g dX3_isSo_0 rfl ?_
  refine st_iload_n g dX3_isSo_1 rfl ?_
  obtain ⟨r1, hr1, H⟩ := bind_some H
  refine st_callVI g (as := [.int a1]) dX3_isSo_2 rfl rfl ml_X3_34 mf_X3_isOne rfl (Nat.le_of_ble_eq_true rfl) (Nat.le_of_ble_eq_true rfl) (c_X3_isOne a1 h _ hr1) (fun hz => ?_)
  have br1 := hz rfl
  refine st_if_eq g dX3_isSo_5 (tgt := 36) (by decide) H (fun q2 H => ?_) (fun q2 H => ?_)
  · refine st_iconst g dX3_isSo_36 ic_0 ?_
    obtain rfl := Option.some.inj H
    exact st_iret g dX3_isSo_37 rfl (fun _ => Or.inl rfl) K
  · refine st_aload_n g dX3_isSo_8 rfl ?_
    refine st_iload_n g dX3_isSo_9 rfl ?_
    obtain ⟨r3, hr3, H⟩ := bind_some H
    refine st_callVI g (as := [.int a2]) dX3_isSo_10 rfl rfl ml_X3_34 mf_X3_isOne rfl (Nat.le_of_ble_eq_true rfl) (Nat.le_of_ble_eq_true rfl) (c_X3_isOne a2 h _ hr3) (fun hz => ?_)
    have br3 := hz rfl
    refine st_if_eq g dX3_isSo_13 (tgt := 36) (by decide) H (fun q4 H => ?_) (fun q4 H => ?_)
    · refine st_iconst g dX3_isSo_36 ic_0 ?_
      obtain rfl := Option.some.inj H
      exact st_iret g dX3_isSo_37 rfl (fun _ => Or.inl rfl) K
    · refine st_iload_n g dX3_isSo_16 rfl ?_
      refine st_iload_n g dX3_isSo_17 rfl ?_
      refine st_ic_eq g dX3_isSo_18 (tgt := 36) (by decide) H (fun q5 H => ?_) (fun q5 H => ?_)
      · refine st_iconst g dX3_isSo_36 ic_0 ?_
        obtain rfl := Option.some.inj H
        exact st_iret g dX3_isSo_37 rfl (fun _ => Or.inl rfl) K
      · refine st_iload_n g dX3_isSo_21 rfl ?_
        refine st_iconst g dX3_isSo_22 ic_1 ?_
        refine st_ic_lt g dX3_isSo_23 (tgt := 36) (by decide) H (fun q6 H => ?_) (fun q6 H => ?_)
        · refine st_iconst g dX3_isSo_36 ic_0 ?_
          obtain rfl := Option.some.inj H
          exact st_iret g dX3_isSo_37 rfl (fun _ => Or.inl rfl) K
        · refine st_iload_n g dX3_isSo_26 rfl ?_
          refine st_bipush g dX3_isSo_27 bi_9 ?_
          refine st_ic_gt g dX3_isSo_29 (tgt := 36) (by decide) H (fun q7 H => ?_) (fun q7 H => ?_)
          · refine st_iconst g dX3_isSo_36 ic_0 ?_
            obtain rfl := Option.some.inj H
            exact st_iret g dX3_isSo_37 rfl (fun _ => Or.inl rfl) K
          · refine st_iconst g dX3_isSo_32 ic_1 ?_
            refine st_goto g dX3_isSo_33 (tgt := 37) (by decide) ?_
            obtain rfl := Option.some.inj H
            exact st_iret g dX3_isSo_37 rfl (fun _ => Or.inr rfl) K
theorem c_X3_isSo (a1 : Int32) (a2 : Int32) (a3 : Int32) (h : Hp) (r : Int32) (H : f_X3_isSo a1 a2 a3 h = some r) : CtI yX3_isSo cX3_isSo 4 .boolean 2 [.ref 1, .int a1, .int a2, .int a3] h r h :=
  ct_ofI (own := RX3) [.ref 1, .int a1, .int a2, .int a3] (by decide +kernel) rfl (fun ρ => Nat.le_of_ble_eq_true rfl) (fun ρ => rfl) (fun x g K => t_X3_isSo g a1 a2 a3 h r H K)
def f_X7_addWrong (a1 : Int32) (a2 : Int32) (a3 : Int32) (h : Hp) : Option (Int32 × Hp) :=
  (f_X3_offend a1 a2 a3 h).bind fun r1 =>
  (wrI r1.2 15 r1.1 (r1.2.1 13 4)).bind fun h2 =>
  some (r1.1, h2)
theorem t_X7_addWrong {x : Cx} (g : Gx x RX7 cX7_addWrong 5 2) (a1 : Int32) (a2 : Int32) (a3 : Int32) (h : Hp) (out : (Int32 × Hp)) (H : f_X7_addWrong a1 a2 a3 h = some out) (K : RtI x .int out.1 out.2) : WA x 0 [.ref 0, .int a1, .int a2, .int a3, .null] [] h := by
  unfold f_X7_addWrong at H
  refine st_aload_n g dX7_addWrong_0 rfl ?_
  refine gf_X7_10 g dX7_addWrong_1 rfl (r := 1) rfl ?_
  refine st_iload_n g dX7_addWrong_4 rfl ?_
  refine st_iload_n g dX7_addWrong_5 rfl ?_
  refine st_iload_n g dX7_addWrong_6 rfl ?_
  obtain ⟨r1, hr1, H⟩ := bind_some H
  refine st_callVI g (as := [.int a1, .int a2, .int a3]) dX7_addWrong_7 rfl rfl ml_X7_381 mf_X3_offend rfl (Nat.le_of_ble_eq_true rfl) (Nat.le_of_ble_eq_true rfl) (c_X3_offend a1 a2 a3 h _ hr1) (fun hz => ?_)
  refine st_istore g dX7_addWrong_10 (Nat.le_of_ble_eq_true rfl) rfl (ls2 := [.ref 0, .int a1, .int a2, .int a3, .int r1.1]) rfl ?_
  refine st_aload_n g dX7_addWrong_12 rfl ?_
  refine gf_X7_26 g dX7_addWrong_13 rfl (r := 13) rfl ?_
  refine gf_X7_263 g dX7_addWrong_16 rfl (r := 15) rfl ?_
  refine st_iload g dX7_addWrong_19 rfl ?_
  refine st_aload_n g dX7_addWrong_21 rfl ?_
  refine gf_X7_26 g dX7_addWrong_22 rfl (r := 13) rfl ?_
  refine gf_X7_272 g dX7_addWrong_25 rfl ?_
  refine st_iast g dX7_addWrong_28 H (fun h2 H => ?_)
  refine st_iload g dX7_addWrong_29 rfl ?_
  obtain rfl := Option.some.inj H
  exact st_iret g dX7_addWrong_31 rfl (fun q => by cases q) K
theorem c_X7_addWrong (a1 : Int32) (a2 : Int32) (a3 : Int32) (h : Hp) (r : (Int32 × Hp)) (H : f_X7_addWrong a1 a2 a3 h = some r) : CtI yX7_addWrong cX7_addWrong 5 .int 2 [.ref 0, .int a1, .int a2, .int a3] h r.1 r.2 :=
  ct_ofI (own := RX7) [.ref 0, .int a1, .int a2, .int a3, .null] (by decide +kernel) rfl (fun ρ => Nat.le_of_ble_eq_true rfl) (fun ρ => rfl) (fun x g K => t_X7_addWrong g a1 a2 a3 h r H K)
def f_X7_isThere (a1 : Int32) (a2 : Int32) (h : Hp) : Option Int32 :=
  if a2 = 0 then
    (f_X7_isHouse a1).bind fun r2 =>
    some r2
  else
  if a2 = 1 then
    (f_X3_isOne a1 h).bind fun r4 =>
    some r4
  else
  if a2 = 2 then
    (f_X3_isOne a1 h).bind fun r6 =>
    some r6
  else
  if a2 = 3 then
    (f_X3_isWrong a1 h).bind fun r8 =>
    some r8
  else
  if a2 = 4 then
    (f_X3_isWrong a1 h).bind fun r10 =>
    some r10
  else
  if a2 = 5 then
    (f_X3_isWrong a1 h).bind fun r12 =>
    some r12
  else
  if a2 = 6 then
    if a1 = 0 then
      some 1
    else
      some 0
  else
  if a2 = 7 then
    (f_X3_isWrong a1 h).bind fun r16 =>
    some r16
  else
  if a2 = 8 then
    (f_X3_isWrong a1 h).bind fun r18 =>
    some r18
  else
    some 0
theorem t_X7_isThere {x : Cx} (g : Gx x RX7 cX7_isThere 3 2) (a1 : Int32) (a2 : Int32) (h : Hp) (out : Int32) (H : f_X7_isThere a1 a2 h = some out) (K : RtI x .boolean out h) : WA x 0 [.ref 0, .int a1, .int a2] [] h := by
  unfold f_X7_isThere at H
  refine st_iload_n g dX7_isThere_0 rfl ?_
  by_cases q1 : a2 = 0
  · rw [if_pos q1] at H
    refine st_tsw g dX7_isThere_1 (tgt := 52) q1 (by decide) (by decide) rfl (by decide) ?_
    refine st_iload_n g dX7_isThere_52 rfl ?_
    obtain ⟨r2, hr2, H⟩ := bind_some H
    refine st_callSI g (as := [.int a1]) dX7_isThere_53 ml_X7_85 mf_X7_isHouse rfl (Nat.le_of_ble_eq_true rfl) (Nat.le_of_ble_eq_true rfl) (c_X7_isHouse a1 h _ hr2) (fun hz => ?_)
    have br2 := hz rfl
    obtain rfl := Option.some.inj H
    exact st_iret g dX7_isThere_56 (bo_nar br2) (fun _ => br2) K
  · rw [if_neg q1] at H
    by_cases q3 : a2 = 1
    · rw [if_pos q3] at H
      refine st_tsw g dX7_isThere_1 (tgt := 57) q3 (by decide) (by decide) rfl (by decide) ?_
      refine st_aload_n g dX7_isThere_57 rfl ?_
      refine gf_X7_10 g dX7_isThere_58 rfl (r := 1) rfl ?_
      refine st_iload_n g dX7_isThere_61 rfl ?_
      obtain ⟨r4, hr4, H⟩ := bind_some H
      refine st_callVI g (as := [.int a1]) dX7_isThere_62 rfl rfl ml_X7_230 mf_X3_isOne rfl (Nat.le_of_ble_eq_true rfl) (Nat.le_of_ble_eq_true rfl) (c_X3_isOne a1 h _ hr4) (fun hz => ?_)
      have br4 := hz rfl
      obtain rfl := Option.some.inj H
      exact st_iret g dX7_isThere_65 (bo_nar br4) (fun _ => br4) K
    · rw [if_neg q3] at H
      by_cases q5 : a2 = 2
      · rw [if_pos q5] at H
        refine st_tsw g dX7_isThere_1 (tgt := 57) q5 (by decide) (by decide) rfl (by decide) ?_
        refine st_aload_n g dX7_isThere_57 rfl ?_
        refine gf_X7_10 g dX7_isThere_58 rfl (r := 1) rfl ?_
        refine st_iload_n g dX7_isThere_61 rfl ?_
        obtain ⟨r6, hr6, H⟩ := bind_some H
        refine st_callVI g (as := [.int a1]) dX7_isThere_62 rfl rfl ml_X7_230 mf_X3_isOne rfl (Nat.le_of_ble_eq_true rfl) (Nat.le_of_ble_eq_true rfl) (c_X3_isOne a1 h _ hr6) (fun hz => ?_)
        have br6 := hz rfl
        obtain rfl := Option.some.inj H
        exact st_iret g dX7_isThere_65 (bo_nar br6) (fun _ => br6) K
      · rw [if_neg q5] at H
        by_cases q7 : a2 = 3
        · rw [if_pos q7] at H
          refine st_tsw g dX7_isThere_1 (tgt := 76) q7 (by decide) (by decide) rfl (by decide) ?_
          refine st_aload_n g dX7_isThere_76 rfl ?_
          refine gf_X7_10 g dX7_isThere_77 rfl (r := 1) rfl ?_
          refine st_iload_n g dX7_isThere_80 rfl ?_
          obtain ⟨r8, hr8, H⟩ := bind_some H
          refine st_callVI g (as := [.int a1]) dX7_isThere_81 rfl rfl ml_X7_153 mf_X3_isWrong rfl (Nat.le_of_ble_eq_true rfl) (Nat.le_of_ble_eq_true rfl) (c_X3_isWrong a1 h _ hr8) (fun hz => ?_)
          have br8 := hz rfl
          obtain rfl := Option.some.inj H
          exact st_iret g dX7_isThere_84 (bo_nar br8) (fun _ => br8) K
        · rw [if_neg q7] at H
          by_cases q9 : a2 = 4
          · rw [if_pos q9] at H
            refine st_tsw g dX7_isThere_1 (tgt := 76) q9 (by decide) (by decide) rfl (by decide) ?_
            refine st_aload_n g dX7_isThere_76 rfl ?_
            refine gf_X7_10 g dX7_isThere_77 rfl (r := 1) rfl ?_
            refine st_iload_n g dX7_isThere_80 rfl ?_
            obtain ⟨r10, hr10, H⟩ := bind_some H
            refine st_callVI g (as := [.int a1]) dX7_isThere_81 rfl rfl ml_X7_153 mf_X3_isWrong rfl (Nat.le_of_ble_eq_true rfl) (Nat.le_of_ble_eq_true rfl) (c_X3_isWrong a1 h _ hr10) (fun hz => ?_)
            have br10 := hz rfl
            obtain rfl := Option.some.inj H
            exact st_iret g dX7_isThere_84 (bo_nar br10) (fun _ => br10) K
          · rw [if_neg q9] at H
            by_cases q11 : a2 = 5
            · rw [if_pos q11] at H
              refine st_tsw g dX7_isThere_1 (tgt := 76) q11 (by decide) (by decide) rfl (by decide) ?_
              refine st_aload_n g dX7_isThere_76 rfl ?_
              refine gf_X7_10 g dX7_isThere_77 rfl (r := 1) rfl ?_
              refine st_iload_n g dX7_isThere_80 rfl ?_
              obtain ⟨r12, hr12, H⟩ := bind_some H
              refine st_callVI g (as := [.int a1]) dX7_isThere_81 rfl rfl ml_X7_153 mf_X3_isWrong rfl (Nat.le_of_ble_eq_true rfl) (Nat.le_of_ble_eq_true rfl) (c_X3_isWrong a1 h _ hr12) (fun hz => ?_)
              have br12 := hz rfl
              obtain rfl := Option.some.inj H
              exact st_iret g dX7_isThere_84 (bo_nar br12) (fun _ => br12) K
            · rw [if_neg q11] at H
              by_cases q13 : a2 = 6
              · rw [if_pos q13] at H
                refine st_tsw g dX7_isThere_1 (tgt := 66) q13 (by decide) (by decide) rfl (by decide) ?_
                refine st_iload_n g dX7_isThere_66 rfl ?_
                refine st_if_ne g dX7_isThere_67 (tgt := 74) (by decide) H (fun q14 H => ?_) (fun q14 H => ?_)
                · refine st_iconst g dX7_isThere_74 ic_0 ?_
                  obtain rfl := Option.some.inj H
                  exact st_iret g dX7_isThere_75 rfl (fun _ => Or.inl rfl) K
                · refine st_iconst g dX7_isThere_70 ic_1 ?_
                  refine st_goto g dX7_isThere_71 (tgt := 75) (by decide) ?_
                  obtain rfl := Option.some.inj H
                  exact st_iret g dX7_isThere_75 rfl (fun _ => Or.inr rfl) K
              · rw [if_neg q13] at H
                by_cases q15 : a2 = 7
                · rw [if_pos q15] at H
                  refine st_tsw g dX7_isThere_1 (tgt := 76) q15 (by decide) (by decide) rfl (by decide) ?_
                  refine st_aload_n g dX7_isThere_76 rfl ?_
                  refine gf_X7_10 g dX7_isThere_77 rfl (r := 1) rfl ?_
                  refine st_iload_n g dX7_isThere_80 rfl ?_
                  obtain ⟨r16, hr16, H⟩ := bind_some H
                  refine st_callVI g (as := [.int a1]) dX7_isThere_81 rfl rfl ml_X7_153 mf_X3_isWrong rfl (Nat.le_of_ble_eq_true rfl) (Nat.le_of_ble_eq_true rfl) (c_X3_isWrong a1 h _ hr16) (fun hz => ?_)
                  have br16 := hz rfl
                  obtain rfl := Option.some.inj H
                  exact st_iret g dX7_isThere_84 (bo_nar br16) (fun _ => br16) K
                · rw [if_neg q15] at H
                  by_cases q17 : a2 = 8
                  · rw [if_pos q17] at H
                    refine st_tsw g dX7_isThere_1 (tgt := 76) q17 (by decide) (by decide) rfl (by decide) ?_
                    refine st_aload_n g dX7_isThere_76 rfl ?_
                    refine gf_X7_10 g dX7_isThere_77 rfl (r := 1) rfl ?_
                    refine st_iload_n g dX7_isThere_80 rfl ?_
                    obtain ⟨r18, hr18, H⟩ := bind_some H
                    refine st_callVI g (as := [.int a1]) dX7_isThere_81 rfl rfl ml_X7_153 mf_X3_isWrong rfl (Nat.le_of_ble_eq_true rfl) (Nat.le_of_ble_eq_true rfl) (c_X3_isWrong a1 h _ hr18) (fun hz => ?_)
                    have br18 := hz rfl
                    obtain rfl := Option.some.inj H
                    exact st_iret g dX7_isThere_84 (bo_nar br18) (fun _ => br18) K
                  · rw [if_neg q17] at H
                    have zq1 := lv_neT q1 (show (0 : Int32).toInt = 0 by decide)
                    have zq3 := lv_neT q3 (show (1 : Int32).toInt = 1 by decide)
                    have zq5 := lv_neT q5 (show (2 : Int32).toInt = 2 by decide)
                    have zq7 := lv_neT q7 (show (3 : Int32).toInt = 3 by decide)
                    have zq9 := lv_neT q9 (show (4 : Int32).toInt = 4 by decide)
                    have zq11 := lv_neT q11 (show (5 : Int32).toInt = 5 by decide)
                    have zq13 := lv_neT q13 (show (6 : Int32).toInt = 6 by decide)
                    have zq15 := lv_neT q15 (show (7 : Int32).toInt = 7 by decide)
                    have zq17 := lv_neT q17 (show (8 : Int32).toInt = 8 by decide)
                    refine st_tswD g dX7_isThere_1 (tgt := 85) (by omega) (by decide) ?_
                    refine st_iconst g dX7_isThere_85 ic_0 ?_
                    obtain rfl := Option.some.inj H
                    exact st_iret g dX7_isThere_86 rfl (fun _ => Or.inl rfl) K
theorem c_X7_isThere (a1 : Int32) (a2 : Int32) (h : Hp) (r : Int32) (H : f_X7_isThere a1 a2 h = some r) : CtI yX7_isThere cX7_isThere 3 .boolean 2 [.ref 0, .int a1, .int a2] h r h :=
  ct_ofI (own := RX7) [.ref 0, .int a1, .int a2] (by decide +kernel) rfl (fun ρ => Nat.le_of_ble_eq_true rfl) (fun ρ => rfl) (fun x g K => t_X7_isThere g a1 a2 h r H K)
def f_X7_valueOf (a1 : Int32) (a2 : Int32) (h : Hp) : Option Int32 :=
  if a2 = 0 then
    (rdI h 14 a1).bind fun v2 =>
    some v2
  else
  if a2 = 1 then
    (rdI h 2 a1).bind fun v4 =>
    some v4
  else
  if a2 = 2 then
    (rdI h 3 a1).bind fun v6 =>
    some v6
  else
  if a2 = 3 then
    (rdI h 6 a1).bind fun v8 =>
    some v8
  else
  if a2 = 4 then
    (rdI h 15 a1).bind fun v10 =>
    some v10
  else
  if a2 = 5 then
    (f_X5_isForgiven 13 a1 h).bind fun r12 =>
    if r12 = 0 then
      some 0
    else
      some 1
  else
  if a2 = 6 then
    some (h.1 13 4)
  else
  if a2 = 7 then
    (rdI h 4 a1).bind fun v16 =>
    some v16
  else
    (rdI h 5 a1).bind fun v17 =>
    some v17
theorem t_X7_valueOf {x : Cx} (g : Gx x RX7 cX7_valueOf 3 2) (a1 : Int32) (a2 : Int32) (h : Hp) (out : Int32) (H : f_X7_valueOf a1 a2 h = some out) (K : RtI x .int out h) : WA x 0 [.ref 0, .int a1, .int a2] [] h := by
  unfold f_X7_valueOf at H
  refine st_iload_n g dX7_valueOf_0 rfl ?_
  by_cases q1 : a2 = 0
  · rw [if_pos q1] at H
    refine st_tsw g dX7_valueOf_1 (tgt := 48) q1 (by decide) (by decide) rfl (by decide) ?_
    refine st_aload_n g dX7_valueOf_48 rfl ?_
    refine gf_X7_26 g dX7_valueOf_49 rfl (r := 13) rfl ?_
    refine gf_X7_169 g dX7_valueOf_52 rfl (r := 14) rfl ?_
    refine st_iload_n g dX7_valueOf_55 rfl ?_
    refine st_iald g dX7_valueOf_56 H (fun v2 H => ?_)
    obtain rfl := Option.some.inj H
    exact st_iret g dX7_valueOf_57 rfl (fun q => by cases q) K
  · rw [if_neg q1] at H
    by_cases q3 : a2 = 1
    · rw [if_pos q3] at H
      refine st_tsw g dX7_valueOf_1 (tgt := 58) q3 (by decide) (by decide) rfl (by decide) ?_
      refine st_aload_n g dX7_valueOf_58 rfl ?_
      refine gf_X7_10 g dX7_valueOf_59 rfl (r := 1) rfl ?_
      refine gf_X7_200 g dX7_valueOf_62 rfl (r := 2) rfl ?_
      refine st_iload_n g dX7_valueOf_65 rfl ?_
      refine st_iald g dX7_valueOf_66 H (fun v4 H => ?_)
      obtain rfl := Option.some.inj H
      exact st_iret g dX7_valueOf_67 rfl (fun q => by cases q) K
    · rw [if_neg q3] at H
      by_cases q5 : a2 = 2
      · rw [if_pos q5] at H
        refine st_tsw g dX7_valueOf_1 (tgt := 68) q5 (by decide) (by decide) rfl (by decide) ?_
        refine st_aload_n g dX7_valueOf_68 rfl ?_
        refine gf_X7_10 g dX7_valueOf_69 rfl (r := 1) rfl ?_
        refine gf_X7_236 g dX7_valueOf_72 rfl (r := 3) rfl ?_
        refine st_iload_n g dX7_valueOf_75 rfl ?_
        refine st_iald g dX7_valueOf_76 H (fun v6 H => ?_)
        obtain rfl := Option.some.inj H
        exact st_iret g dX7_valueOf_77 rfl (fun q => by cases q) K
      · rw [if_neg q5] at H
        by_cases q7 : a2 = 3
        · rw [if_pos q7] at H
          refine st_tsw g dX7_valueOf_1 (tgt := 78) q7 (by decide) (by decide) rfl (by decide) ?_
          refine st_aload_n g dX7_valueOf_78 rfl ?_
          refine gf_X7_10 g dX7_valueOf_79 rfl (r := 1) rfl ?_
          refine gf_X7_248 g dX7_valueOf_82 rfl (r := 6) rfl ?_
          refine st_iload_n g dX7_valueOf_85 rfl ?_
          refine st_iald g dX7_valueOf_86 H (fun v8 H => ?_)
          obtain rfl := Option.some.inj H
          exact st_iret g dX7_valueOf_87 rfl (fun q => by cases q) K
        · rw [if_neg q7] at H
          by_cases q9 : a2 = 4
          · rw [if_pos q9] at H
            refine st_tsw g dX7_valueOf_1 (tgt := 88) q9 (by decide) (by decide) rfl (by decide) ?_
            refine st_aload_n g dX7_valueOf_88 rfl ?_
            refine gf_X7_26 g dX7_valueOf_89 rfl (r := 13) rfl ?_
            refine gf_X7_263 g dX7_valueOf_92 rfl (r := 15) rfl ?_
            refine st_iload_n g dX7_valueOf_95 rfl ?_
            refine st_iald g dX7_valueOf_96 H (fun v10 H => ?_)
            obtain rfl := Option.some.inj H
            exact st_iret g dX7_valueOf_97 rfl (fun q => by cases q) K
          · rw [if_neg q9] at H
            by_cases q11 : a2 = 5
            · rw [if_pos q11] at H
              refine st_tsw g dX7_valueOf_1 (tgt := 98) q11 (by decide) (by decide) rfl (by decide) ?_
              refine st_aload_n g dX7_valueOf_98 rfl ?_
              refine gf_X7_26 g dX7_valueOf_99 rfl (r := 13) rfl ?_
              refine st_iload_n g dX7_valueOf_102 rfl ?_
              obtain ⟨r12, hr12, H⟩ := bind_some H
              refine st_callVI g (as := [.int a1]) dX7_valueOf_103 rfl rfl ml_X7_197 mf_X5_isForgiven rfl (Nat.le_of_ble_eq_true rfl) (Nat.le_of_ble_eq_true rfl) (c_X5_isForgiven 13 a1 h _ hr12) (fun hz => ?_)
              have br12 := hz rfl
              refine st_if_eq g dX7_valueOf_106 (tgt := 113) (by decide) H (fun q13 H => ?_) (fun q13 H => ?_)
              · refine st_iconst g dX7_valueOf_113 ic_0 ?_
                obtain rfl := Option.some.inj H
                exact st_iret g dX7_valueOf_114 rfl (fun q => by cases q) K
              · refine st_iconst g dX7_valueOf_109 ic_1 ?_
                refine st_goto g dX7_valueOf_110 (tgt := 114) (by decide) ?_
                obtain rfl := Option.some.inj H
                exact st_iret g dX7_valueOf_114 rfl (fun q => by cases q) K
            · rw [if_neg q11] at H
              by_cases q14 : a2 = 6
              · rw [if_pos q14] at H
                refine st_tsw g dX7_valueOf_1 (tgt := 115) q14 (by decide) (by decide) rfl (by decide) ?_
                refine st_aload_n g dX7_valueOf_115 rfl ?_
                refine gf_X7_26 g dX7_valueOf_116 rfl (r := 13) rfl ?_
                refine gf_X7_272 g dX7_valueOf_119 rfl ?_
                obtain rfl := Option.some.inj H
                exact st_iret g dX7_valueOf_122 rfl (fun q => by cases q) K
              · rw [if_neg q14] at H
                by_cases q15 : a2 = 7
                · rw [if_pos q15] at H
                  refine st_tsw g dX7_valueOf_1 (tgt := 123) q15 (by decide) (by decide) rfl (by decide) ?_
                  refine st_aload_n g dX7_valueOf_123 rfl ?_
                  refine gf_X7_10 g dX7_valueOf_124 rfl (r := 1) rfl ?_
                  refine gf_X7_206 g dX7_valueOf_127 rfl (r := 4) rfl ?_
                  refine st_iload_n g dX7_valueOf_130 rfl ?_
                  refine st_iald g dX7_valueOf_131 H (fun v16 H => ?_)
                  obtain rfl := Option.some.inj H
                  exact st_iret g dX7_valueOf_132 rfl (fun q => by cases q) K
                · rw [if_neg q15] at H
                  have zq1 := lv_neT q1 (show (0 : Int32).toInt = 0 by decide)
                  have zq3 := lv_neT q3 (show (1 : Int32).toInt = 1 by decide)
                  have zq5 := lv_neT q5 (show (2 : Int32).toInt = 2 by decide)
                  have zq7 := lv_neT q7 (show (3 : Int32).toInt = 3 by decide)
                  have zq9 := lv_neT q9 (show (4 : Int32).toInt = 4 by decide)
                  have zq11 := lv_neT q11 (show (5 : Int32).toInt = 5 by decide)
                  have zq14 := lv_neT q14 (show (6 : Int32).toInt = 6 by decide)
                  have zq15 := lv_neT q15 (show (7 : Int32).toInt = 7 by decide)
                  refine st_tswD g dX7_valueOf_1 (tgt := 133) (by omega) (by decide) ?_
                  refine st_aload_n g dX7_valueOf_133 rfl ?_
                  refine gf_X7_10 g dX7_valueOf_134 rfl (r := 1) rfl ?_
                  refine gf_X7_203 g dX7_valueOf_137 rfl (r := 5) rfl ?_
                  refine st_iload_n g dX7_valueOf_140 rfl ?_
                  refine st_iald g dX7_valueOf_141 H (fun v17 H => ?_)
                  obtain rfl := Option.some.inj H
                  exact st_iret g dX7_valueOf_142 rfl (fun q => by cases q) K
theorem c_X7_valueOf (a1 : Int32) (a2 : Int32) (h : Hp) (r : Int32) (H : f_X7_valueOf a1 a2 h = some r) : CtI yX7_valueOf cX7_valueOf 3 .int 2 [.ref 0, .int a1, .int a2] h r h :=
  ct_ofI (own := RX7) [.ref 0, .int a1, .int a2] (by decide +kernel) rfl (fun ρ => Nat.le_of_ble_eq_true rfl) (fun ρ => rfl) (fun x g K => t_X7_valueOf g a1 a2 h r H K)
def f_X7_setValue (a1 : Int32) (a2 : Int32) (a3 : Int32) (h : Hp) : Option Hp :=
  if a2 = 0 then
    (wrI h 14 a1 a3).bind fun h2 =>
    some h2
  else
  if a2 = 1 then
    (wrI h 2 a1 a3).bind fun h4 =>
    some h4
  else
  if a2 = 2 then
    (wrI h 3 a1 a3).bind fun h6 =>
    some h6
  else
  if a2 = 3 then
    (wrI h 6 a1 a3).bind fun h8 =>
    some h8
  else
  if a2 = 4 then
    (wrI h 15 a1 a3).bind fun h10 =>
    some h10
  else
  if a2 = 5 then
    if a3 = 0 then
      (f_X5_setForgiven 13 a1 0 h).bind fun r13 =>
      some r13
    else
      (f_X5_setForgiven 13 a1 1 h).bind fun r14 =>
      some r14
  else
    lt (stI h 13 4 a3) fun h15 =>
    some h15
theorem t_X7_setValue {x : Cx} (g : Gx x RX7 cX7_setValue 4 2) (a1 : Int32) (a2 : Int32) (a3 : Int32) (h : Hp) (out : Hp) (H : f_X7_setValue a1 a2 a3 h = some out) (K : RtV x out) : WA x 0 [.ref 0, .int a1, .int a2, .int a3] [] h := by
  unfold f_X7_setValue at H
  refine st_iload_n g dX7_setValue_0 rfl ?_
  by_cases q1 : a2 = 0
  · rw [if_pos q1] at H
    refine st_tsw g dX7_setValue_1 (tgt := 40) q1 (by decide) (by decide) rfl (by decide) ?_
    refine st_aload_n g dX7_setValue_40 rfl ?_
    refine gf_X7_26 g dX7_setValue_41 rfl (r := 13) rfl ?_
    refine gf_X7_169 g dX7_setValue_44 rfl (r := 14) rfl ?_
    refine st_iload_n g dX7_setValue_47 rfl ?_
    refine st_iload_n g dX7_setValue_48 rfl ?_
    refine st_iast g dX7_setValue_49 H (fun h2 H => ?_)
    refine st_goto g dX7_setValue_50 (tgt := 133) (by decide) ?_
    obtain rfl := Option.some.inj H
    exact st_vret g dX7_setValue_133 K
  · rw [if_neg q1] at H
    by_cases q3 : a2 = 1
    · rw [if_pos q3] at H
      refine st_tsw g dX7_setValue_1 (tgt := 53) q3 (by decide) (by decide) rfl (by decide) ?_
      refine st_aload_n g dX7_setValue_53 rfl ?_
      refine gf_X7_10 g dX7_setValue_54 rfl (r := 1) rfl ?_
      refine gf_X7_200 g dX7_setValue_57 rfl (r := 2) rfl ?_
      refine st_iload_n g dX7_setValue_60 rfl ?_
      refine st_iload_n g dX7_setValue_61 rfl ?_
      refine st_iast g dX7_setValue_62 H (fun h4 H => ?_)
      refine st_goto g dX7_setValue_63 (tgt := 133) (by decide) ?_
      obtain rfl := Option.some.inj H
      exact st_vret g dX7_setValue_133 K
    · rw [if_neg q3] at H
      by_cases q5 : a2 = 2
      · rw [if_pos q5] at H
        refine st_tsw g dX7_setValue_1 (tgt := 66) q5 (by decide) (by decide) rfl (by decide) ?_
        refine st_aload_n g dX7_setValue_66 rfl ?_
        refine gf_X7_10 g dX7_setValue_67 rfl (r := 1) rfl ?_
        refine gf_X7_236 g dX7_setValue_70 rfl (r := 3) rfl ?_
        refine st_iload_n g dX7_setValue_73 rfl ?_
        refine st_iload_n g dX7_setValue_74 rfl ?_
        refine st_iast g dX7_setValue_75 H (fun h6 H => ?_)
        refine st_goto g dX7_setValue_76 (tgt := 133) (by decide) ?_
        obtain rfl := Option.some.inj H
        exact st_vret g dX7_setValue_133 K
      · rw [if_neg q5] at H
        by_cases q7 : a2 = 3
        · rw [if_pos q7] at H
          refine st_tsw g dX7_setValue_1 (tgt := 79) q7 (by decide) (by decide) rfl (by decide) ?_
          refine st_aload_n g dX7_setValue_79 rfl ?_
          refine gf_X7_10 g dX7_setValue_80 rfl (r := 1) rfl ?_
          refine gf_X7_248 g dX7_setValue_83 rfl (r := 6) rfl ?_
          refine st_iload_n g dX7_setValue_86 rfl ?_
          refine st_iload_n g dX7_setValue_87 rfl ?_
          refine st_iast g dX7_setValue_88 H (fun h8 H => ?_)
          refine st_goto g dX7_setValue_89 (tgt := 133) (by decide) ?_
          obtain rfl := Option.some.inj H
          exact st_vret g dX7_setValue_133 K
        · rw [if_neg q7] at H
          by_cases q9 : a2 = 4
          · rw [if_pos q9] at H
            refine st_tsw g dX7_setValue_1 (tgt := 92) q9 (by decide) (by decide) rfl (by decide) ?_
            refine st_aload_n g dX7_setValue_92 rfl ?_
            refine gf_X7_26 g dX7_setValue_93 rfl (r := 13) rfl ?_
            refine gf_X7_263 g dX7_setValue_96 rfl (r := 15) rfl ?_
            refine st_iload_n g dX7_setValue_99 rfl ?_
            refine st_iload_n g dX7_setValue_100 rfl ?_
            refine st_iast g dX7_setValue_101 H (fun h10 H => ?_)
            refine st_goto g dX7_setValue_102 (tgt := 133) (by decide) ?_
            obtain rfl := Option.some.inj H
            exact st_vret g dX7_setValue_133 K
          · rw [if_neg q9] at H
            by_cases q11 : a2 = 5
            · rw [if_pos q11] at H
              refine st_tsw g dX7_setValue_1 (tgt := 105) q11 (by decide) (by decide) rfl (by decide) ?_
              refine st_aload_n g dX7_setValue_105 rfl ?_
              refine gf_X7_26 g dX7_setValue_106 rfl (r := 13) rfl ?_
              refine st_iload_n g dX7_setValue_109 rfl ?_
              refine st_iload_n g dX7_setValue_110 rfl ?_
              refine st_if_eq g dX7_setValue_111 (tgt := 118) (by decide) H (fun q12 H => ?_) (fun q12 H => ?_)
              · refine st_iconst g dX7_setValue_118 ic_0 ?_
                obtain ⟨r13, hr13, H⟩ := bind_some H
                refine st_callVV g (as := [.int a1, .int 0]) dX7_setValue_119 rfl rfl ml_X7_377 mf_X5_setForgiven rfl (Nat.le_of_ble_eq_true rfl) (Nat.le_of_ble_eq_true rfl) (c_X5_setForgiven 13 a1 0 h _ hr13) ?_
                refine st_goto g dX7_setValue_122 (tgt := 133) (by decide) ?_
                obtain rfl := Option.some.inj H
                exact st_vret g dX7_setValue_133 K
              · refine st_iconst g dX7_setValue_114 ic_1 ?_
                refine st_goto g dX7_setValue_115 (tgt := 119) (by decide) ?_
                obtain ⟨r14, hr14, H⟩ := bind_some H
                refine st_callVV g (as := [.int a1, .int 1]) dX7_setValue_119 rfl rfl ml_X7_377 mf_X5_setForgiven rfl (Nat.le_of_ble_eq_true rfl) (Nat.le_of_ble_eq_true rfl) (c_X5_setForgiven 13 a1 1 h _ hr14) ?_
                refine st_goto g dX7_setValue_122 (tgt := 133) (by decide) ?_
                obtain rfl := Option.some.inj H
                exact st_vret g dX7_setValue_133 K
            · rw [if_neg q11] at H
              have zq1 := lv_neT q1 (show (0 : Int32).toInt = 0 by decide)
              have zq3 := lv_neT q3 (show (1 : Int32).toInt = 1 by decide)
              have zq5 := lv_neT q5 (show (2 : Int32).toInt = 2 by decide)
              have zq7 := lv_neT q7 (show (3 : Int32).toInt = 3 by decide)
              have zq9 := lv_neT q9 (show (4 : Int32).toInt = 4 by decide)
              have zq11 := lv_neT q11 (show (5 : Int32).toInt = 5 by decide)
              refine st_tswD g dX7_setValue_1 (tgt := 125) (by omega) (by decide) ?_
              refine st_aload_n g dX7_setValue_125 rfl ?_
              refine gf_X7_26 g dX7_setValue_126 rfl (r := 13) rfl ?_
              refine st_iload_n g dX7_setValue_129 rfl ?_
              refine pu_X7_272 g dX7_setValue_130 rfl ?_
              refine wa_ltH H (fun h15 H => ?_)
              obtain rfl := Option.some.inj H
              exact st_vret g dX7_setValue_133 K
theorem c_X7_setValue (a1 : Int32) (a2 : Int32) (a3 : Int32) (h : Hp) (r : Hp) (H : f_X7_setValue a1 a2 a3 h = some r) : CtV yX7_setValue cX7_setValue 4 2 [.ref 0, .int a1, .int a2, .int a3] h r :=
  ct_ofV (own := RX7) [.ref 0, .int a1, .int a2, .int a3] (by decide +kernel) rfl (fun ρ => Nat.le_of_ble_eq_true rfl) (fun ρ => rfl) (fun x g K => t_X7_setValue g a1 a2 a3 h r H K)
def f_X0_dropOldest (h : Hp) : Option Hp :=
  (cpI h 26 1 26 0 39).bind fun h1 =>
  (cpI h1 27 1 27 0 39).bind fun h2 =>
  (cpI h2 28 1 28 0 39).bind fun h3 =>
  (cpI h3 29 1 29 0 39).bind fun h4 =>
  lt (stI h4 25 5 ((h4.1 25 5) - 1)) fun h5 =>
  some h5
theorem t_X0_dropOldest {x : Cx} (g : Gx x RX0 cX0_dropOldest 1 2) (h : Hp) (out : Hp) (H : f_X0_dropOldest h = some out) (K : RtV x out) : WA x 0 [.ref 25] [] h := by
  unfold f_X0_dropOldest at H
  refine st_aload_n g dX0_dropOldest_0 rfl ?_
  refine gf_X0_9 g dX0_dropOldest_1 rfl (r := 26) rfl ?_
  refine st_iconst g dX0_dropOldest_4 ic_1 ?_
  refine st_aload_n g dX0_dropOldest_5 rfl ?_
  refine gf_X0_9 g dX0_dropOldest_6 rfl (r := 26) rfl ?_
  refine st_iconst g dX0_dropOldest_9 ic_0 ?_
  refine st_bipush g dX0_dropOldest_10 bi_39 ?_
  refine st_cpI g dX0_dropOldest_12 ml_X0_32 (Nat.le_of_ble_eq_true rfl) (Nat.le_of_ble_eq_true rfl) H (fun h1 H => ?_)
  refine st_aload_n g dX0_dropOldest_15 rfl ?_
  refine gf_X0_13 g dX0_dropOldest_16 rfl (r := 27) rfl ?_
  refine st_iconst g dX0_dropOldest_19 ic_1 ?_
  refine st_aload_n g dX0_dropOldest_20 rfl ?_
  refine gf_X0_13 g dX0_dropOldest_21 rfl (r := 27) rfl ?_
  refine st_iconst g dX0_dropOldest_24 ic_0 ?_
  refine st_bipush g dX0_dropOldest_25 bi_39 ?_
  refine st_cpI g dX0_dropOldest_27 ml_X0_32 (Nat.le_of_ble_eq_true rfl) (Nat.le_of_ble_eq_true rfl) H (fun h2 H => ?_)
  refine st_aload_n g dX0_dropOldest_30 rfl ?_
  refine gf_X0_16 g dX0_dropOldest_31 rfl (r := 28) rfl ?_
  refine st_iconst g dX0_dropOldest_34 ic_1 ?_
  refine st_aload_n g dX0_dropOldest_35 rfl ?_
  refine gf_X0_16 g dX0_dropOldest_36 rfl (r := 28) rfl ?_
  refine st_iconst g dX0_dropOldest_39 ic_0 ?_
  refine st_bipush g dX0_dropOldest_40 bi_39 ?_
  refine st_cpI g dX0_dropOldest_42 ml_X0_32 (Nat.le_of_ble_eq_true rfl) (Nat.le_of_ble_eq_true rfl) H (fun h3 H => ?_)
  refine st_aload_n g dX0_dropOldest_45 rfl ?_
  refine gf_X0_19 g dX0_dropOldest_46 rfl (r := 29) rfl ?_
  refine st_iconst g dX0_dropOldest_49 ic_1 ?_
  refine st_aload_n g dX0_dropOldest_50 rfl ?_
  refine gf_X0_19 g dX0_dropOldest_51 rfl (r := 29) rfl ?_
  refine st_iconst g dX0_dropOldest_54 ic_0 ?_
  refine st_bipush g dX0_dropOldest_55 bi_39 ?_
  refine st_cpI g dX0_dropOldest_57 ml_X0_32 (Nat.le_of_ble_eq_true rfl) (Nat.le_of_ble_eq_true rfl) H (fun h4 H => ?_)
  refine st_aload_n g dX0_dropOldest_60 rfl ?_
  refine st_dup g dX0_dropOldest_61 rfl ?_
  refine gf_X0_26 g dX0_dropOldest_62 rfl ?_
  refine st_iconst g dX0_dropOldest_65 ic_1 ?_
  refine st_isub g dX0_dropOldest_66 ?_
  refine pu_X0_26 g dX0_dropOldest_67 rfl ?_
  refine wa_ltH H (fun h5 H => ?_)
  obtain rfl := Option.some.inj H
  exact st_vret g dX0_dropOldest_70 K
theorem c_X0_dropOldest (h : Hp) (r : Hp) (H : f_X0_dropOldest h = some r) : CtV yX0_dropOldest cX0_dropOldest 1 2 [.ref 25] h r :=
  ct_ofV (own := RX0) [.ref 25] (by decide +kernel) rfl (fun ρ => Nat.le_of_ble_eq_true rfl) (fun ρ => rfl) (fun x g K => t_X0_dropOldest g h r H K)
def f_X7_feed (a1 : Int32) (h : Hp) : Option (Int32 × Hp) :=
  if a1 < 0 then
    some ((-1), h)
  else
    if a1 ≤ 255 then
      (f_X4_take a1 h).bind fun r3 =>
      some (r3.1, r3.2)
    else
      some ((-1), h)
theorem t_X7_feed {x : Cx} (g : Gx x RX7 cX7_feed 2 2) (a1 : Int32) (h : Hp) (out : (Int32 × Hp)) (H : f_X7_feed a1 h = some out) (K : RtI x .int out.1 out.2) : WA x 0 [.ref 0, .int a1] [] h := by
  unfold f_X7_feed at H
  refine st_iload_n g dX7_feed_0 rfl ?_
  refine st_if_lt g dX7_feed_1 (tgt := 11) (by decide) H (fun q1 H => ?_) (fun q1 H => ?_)
  · refine st_iconst g dX7_feed_11 ic_m1 ?_
    obtain rfl := Option.some.inj H
    exact st_iret g dX7_feed_12 rfl (fun q => by cases q) K
  · refine st_iload_n g dX7_feed_4 rfl ?_
    refine st_sipush g dX7_feed_5 si_255 ?_
    refine st_ic_le g dX7_feed_8 (tgt := 13) (by decide) H (fun q2 H => ?_) (fun q2 H => ?_)
    · refine st_aload_n g dX7_feed_13 rfl ?_
      refine gf_X7_19 g dX7_feed_14 rfl (r := 7) rfl ?_
      refine st_iload_n g dX7_feed_17 rfl ?_
      obtain ⟨r3, hr3, H⟩ := bind_some H
      refine st_callVI g (as := [.int a1]) dX7_feed_18 rfl rfl ml_X7_146 mf_X4_take rfl (Nat.le_of_ble_eq_true rfl) (Nat.le_of_ble_eq_true rfl) (c_X4_take a1 h _ hr3) (fun hz => ?_)
      obtain rfl := Option.some.inj H
      exact st_iret g dX7_feed_21 rfl (fun q => by cases q) K
    · refine st_iconst g dX7_feed_11 ic_m1 ?_
      obtain rfl := Option.some.inj H
      exact st_iret g dX7_feed_12 rfl (fun q => by cases q) K
theorem c_X7_feed (a1 : Int32) (h : Hp) (r : (Int32 × Hp)) (H : f_X7_feed a1 h = some r) : CtI yX7_feed cX7_feed 2 .int 2 [.ref 0, .int a1] h r.1 r.2 :=
  ct_ofI (own := RX7) [.ref 0, .int a1] (by decide +kernel) rfl (fun ρ => Nat.le_of_ble_eq_true rfl) (fun ρ => rfl) (fun x g K => t_X7_feed g a1 h r H K)
def P_X4_readNumber_4 (x : Cx) (s : (Int32 × Int32 × Hp)) : Prop := WA x 4 [.ref 7, .int s.1, .int s.2.1] [] s.2.2
def E_X4_readNumber_4 (x : Cx) : (Int32 × Int32 × Hp) → Prop := fun s : (Int32 × Int32 × Hp) => WA x 48 [.ref 7, .int s.1, .null] [] s.2.2
def b_X4_readNumber_4 (s : (Int32 × Int32 × Hp)) : Option ((Int32 × Int32 × Hp) ⊕ (Int32 × Int32 × Hp)) :=
  if 4 ≤ s.2.1 then
    some (.inr (s.1, s.2.1, s.2.2))
  else
    (f_X4_nextByte s.2.2).bind fun r2 =>
    (f_X4_isDigit r2).bind fun r3 =>
    if r3 = 0 then
      some (.inr (s.1, s.2.1, s.2.2))
    else
      (f_X4_nextByte s.2.2).bind fun r5 =>
      lt (stI s.2.2 7 6 ((s.2.2.1 7 6) + 1)) fun h6 =>
      some (.inl (((s.1 * 10) + r5) - 48, s.2.1 + 1, h6))
theorem tb_X4_readNumber_4 {x : Cx} (g : Gx x RX4 cX4_readNumber 3 2) (s : (Int32 × Int32 × Hp)) (out : (Int32 × Int32 × Hp) ⊕ (Int32 × Int32 × Hp)) (H : b_X4_readNumber_4 s = some out) (K : Sum.elim (P_X4_readNumber_4 x) (E_X4_readNumber_4 x) out) : P_X4_readNumber_4 x s := by
  unfold b_X4_readNumber_4 at H
  show WA x 4 [.ref 7, .int s.1, .int s.2.1] [] s.2.2
  refine st_iload_n g dX4_readNumber_4 rfl ?_
  refine st_iconst g dX4_readNumber_5 ic_4 ?_
  refine st_ic_ge g dX4_readNumber_6 (tgt := 48) (by decide) H (fun q1 H => ?_) (fun q1 H => ?_)
  · obtain rfl := Option.some.inj H
    exact (wa_drop [2] K)
  · refine st_aload_n g dX4_readNumber_9 rfl ?_
    obtain ⟨r2, hr2, H⟩ := bind_some H
    refine st_callVI g (as := []) dX4_readNumber_10 rfl rfl ml_X4_51 mf_X4_nextByte rfl (Nat.le_of_ble_eq_true rfl) (Nat.le_of_ble_eq_true rfl) (c_X4_nextByte s.2.2 _ hr2) (fun hz => ?_)
    obtain ⟨r3, hr3, H⟩ := bind_some H
    refine st_callSI g (as := [.int r2]) dX4_readNumber_13 ml_X4_67 mf_X4_isDigit rfl (Nat.le_of_ble_eq_true rfl) (Nat.le_of_ble_eq_true rfl) (c_X4_isDigit r2 s.2.2 _ hr3) (fun hz => ?_)
    have br3 := hz rfl
    refine st_if_eq g dX4_readNumber_16 (tgt := 48) (by decide) H (fun q4 H => ?_) (fun q4 H => ?_)
    · obtain rfl := Option.some.inj H
      exact (wa_drop [2] K)
    · refine st_iload_n g dX4_readNumber_19 rfl ?_
      refine st_bipush g dX4_readNumber_20 bi_10 ?_
      refine st_imul g dX4_readNumber_22 ?_
      refine st_aload_n g dX4_readNumber_23 rfl ?_
      obtain ⟨r5, hr5, H⟩ := bind_some H
      refine st_callVI g (as := []) dX4_readNumber_24 rfl rfl ml_X4_51 mf_X4_nextByte rfl (Nat.le_of_ble_eq_true rfl) (Nat.le_of_ble_eq_true rfl) (c_X4_nextByte s.2.2 _ hr5) (fun hz => ?_)
      refine st_iadd g dX4_readNumber_27 ?_
      refine st_bipush g dX4_readNumber_28 bi_48 ?_
      refine st_isub g dX4_readNumber_30 ?_
      refine st_istore_n g dX4_readNumber_31 (Nat.le_of_ble_eq_true rfl) rfl (ls2 := [.ref 7, .int (((s.1 * 10) + r5) - 48), .int s.2.1]) rfl ?_
      refine st_aload_n g dX4_readNumber_32 rfl ?_
      refine st_dup g dX4_readNumber_33 rfl ?_
      refine gf_X4_31 g dX4_readNumber_34 rfl ?_
      refine st_iconst g dX4_readNumber_37 ic_1 ?_
      refine st_iadd g dX4_readNumber_38 ?_
      refine pu_X4_31 g dX4_readNumber_39 rfl ?_
      refine wa_ltH H (fun h6 H => ?_)
      refine st_iinc g dX4_readNumber_42 rfl (ii_1 _) (Nat.le_of_ble_eq_true rfl) rfl (ls2 := [.ref 7, .int (((s.1 * 10) + r5) - 48), .int (s.2.1 + 1)]) rfl ?_
      refine st_goto g dX4_readNumber_45 (tgt := 4) (by decide) ?_
      obtain rfl := Option.some.inj H
      exact K
def f_X4_readNumber (h : Hp) : Option (Int32 × Hp) :=
  (iter (b_X4_readNumber_4) FU (0, 0, h)).bind fun a7 =>
  (f_X4_emit a7.1 a7.2.2).bind fun r8 =>
  some (1, r8)
theorem t_X4_readNumber {x : Cx} (g : Gx x RX4 cX4_readNumber 3 2) (h : Hp) (out : (Int32 × Hp)) (H : f_X4_readNumber h = some out) (K : RtI x .boolean out.1 out.2) : WA x 0 [.ref 7, .null, .null] [] h := by
  unfold f_X4_readNumber at H
  refine st_iconst g dX4_readNumber_0 ic_0 ?_
  refine st_istore_n g dX4_readNumber_1 (Nat.le_of_ble_eq_true rfl) rfl (ls2 := [.ref 7, .int 0, .null]) rfl ?_
  refine st_iconst g dX4_readNumber_2 ic_0 ?_
  refine st_istore_n g dX4_readNumber_3 (Nat.le_of_ble_eq_true rfl) rfl (ls2 := [.ref 7, .int 0, .int 0]) rfl ?_
  show P_X4_readNumber_4 x (0, 0, h)
  obtain ⟨a7, ha7, H⟩ := bind_some H
  refine iter_W (P := P_X4_readNumber_4 x) (E := E_X4_readNumber_4 x) (fun s9 o9 ho9 hK9 => tb_X4_readNumber_4 g s9 o9 ho9 hK9) FU _ a7 ha7 ?_
  show WA x 48 [.ref 7, .int a7.1, .null] [] a7.2.2
  refine st_aload_n g dX4_readNumber_48 rfl ?_
  refine st_iload_n g dX4_readNumber_49 rfl ?_
  obtain ⟨r8, hr8, H⟩ := bind_some H
  refine st_callVV g (as := [.int a7.1]) dX4_readNumber_50 rfl rfl ml_X4_47 mf_X4_emit rfl (Nat.le_of_ble_eq_true rfl) (Nat.le_of_ble_eq_true rfl) (c_X4_emit a7.1 a7.2.2 _ hr8) ?_
  refine st_iconst g dX4_readNumber_53 ic_1 ?_
  obtain rfl := Option.some.inj H
  exact st_iret g dX4_readNumber_54 rfl (fun _ => Or.inr rfl) K
theorem c_X4_readNumber (h : Hp) (r : (Int32 × Hp)) (H : f_X4_readNumber h = some r) : CtI yX4_readNumber cX4_readNumber 3 .boolean 2 [.ref 7] h r.1 r.2 :=
  ct_ofI (own := RX4) [.ref 7, .null, .null] (by decide +kernel) rfl (fun ρ => Nat.le_of_ble_eq_true rfl) (fun ρ => rfl) (fun x g K => t_X4_readNumber g h r H K)
def P_X4_worth_44 (x : Cx) (s : (Int32 × Int32 × Int32 × Hp)) : Prop := WA x 44 [.ref 7, .int s.1, .int s.2.1, .int s.2.2.1, .null, .null] [] s.2.2.2
def E_X4_worth_44 (x : Cx) : (Int32 × Int32 × Int32 × Hp) ⊕ (Int32 × Hp) → Prop := Sum.elim (fun s : (Int32 × Int32 × Int32 × Hp) => WA x 272 [.null, .null, .null, .null, .null, .null] [] s.2.2.2) (fun r : (Int32 × Hp) => RtI x .int r.1 r.2)
def b_X4_worth_44 (s : (Int32 × Int32 × Int32 × Hp)) : Option ((Int32 × Int32 × Int32 × Hp) ⊕ ((Int32 × Int32 × Int32 × Hp) ⊕ (Int32 × Hp))) :=
  if (s.2.2.2.1 7 3) ≤ s.2.2.1 then
    some (.inr (.inl (s.1, s.2.1, s.2.2.1, s.2.2.2)))
  else
    (rdI s.2.2.2 (s.2.2.2.2.2 7 2) s.2.2.1).bind fun v3 =>
    if s.2.1 = 0 then
      if v3 < 0 then
        if 1 ≤ s.1 then
          (rdI s.2.2.2 12 (s.1 - 1)).bind fun v7 =>
          if v3 = (-59) then
            (f_X4_held v7).bind fun r21 =>
            some (.inr (.inr (r21, s.2.2.2)))
          else
            if v3 = (-33) then
              if v7 = 0 then
                (wrI s.2.2.2 12 (s.1 - 1) 1).bind fun h20 =>
                some (.inl (s.1, s.2.1, s.2.2.1 + 1, h20))
              else
                (wrI s.2.2.2 12 (s.1 - 1) 0).bind fun h19 =>
                some (.inl (s.1, s.2.1, s.2.2.1 + 1, h19))
            else
              if v3 = (-126) then
                (wrI s.2.2.2 12 (s.1 - 1) (-v7)).bind fun h17 =>
                some (.inl (s.1, s.2.1, s.2.2.1 + 1, h17))
              else
                if v3 = (-63) then
                  if v7 = 0 then
                    some (.inl (s.1 - 1, 1, s.2.2.1 + 1, s.2.2.2))
                  else
                    some (.inl (s.1 - 1, 0, s.2.2.1 + 1, s.2.2.2))
                else
                  if 1 ≤ (s.1 - 1) then
                    (rdI s.2.2.2 12 ((s.1 - 1) - 1)).bind fun v13 =>
                    (f_X4_joined v13 (-v3) v7).bind fun r14 =>
                    (wrI s.2.2.2 12 ((s.1 - 1) - 1) r14).bind fun h15 =>
                    some (.inl (s.1 - 1, s.2.1, s.2.2.1 + 1, h15))
                  else
                    some (.inr (.inr (0, s.2.2.2)))
        else
          some (.inr (.inr (0, s.2.2.2)))
      else
        (lnI 12).bind fun v22 =>
        if s.1 < v22 then
          if v3 < 10000 then
            (wrI s.2.2.2 12 s.1 v3).bind fun h25 =>
            some (.inl (s.1 + 1, s.2.1, s.2.2.1 + 1, h25))
          else
            (rdI s.2.2.2 11 (v3 - 10000)).bind fun v26 =>
            (wrI s.2.2.2 12 s.1 v26).bind fun h27 =>
            some (.inl (s.1 + 1, s.2.1, s.2.2.1 + 1, h27))
        else
          some (.inr (.inr (0, s.2.2.2)))
    else
      if v3 = (-59) then
        some (.inl (s.1, 0, s.2.2.1 + 1, s.2.2.2))
      else
        some (.inl (s.1, 1, s.2.2.1 + 1, s.2.2.2))
theorem tb_X4_worth_44 {x : Cx} (g : Gx x RX4 cX4_worth 6 2) (s : (Int32 × Int32 × Int32 × Hp)) (out : (Int32 × Int32 × Int32 × Hp) ⊕ ((Int32 × Int32 × Int32 × Hp) ⊕ (Int32 × Hp))) (H : b_X4_worth_44 s = some out) (K : Sum.elim (P_X4_worth_44 x) (E_X4_worth_44 x) out) : P_X4_worth_44 x s := by
  unfold b_X4_worth_44 at H
  show WA x 44 [.ref 7, .int s.1, .int s.2.1, .int s.2.2.1, .null, .null] [] s.2.2.2
  refine st_iload_n g dX4_worth_44 rfl ?_
  refine st_aload_n g dX4_worth_45 rfl ?_
  refine gf_X4_22 g dX4_worth_46 rfl ?_
  refine st_ic_ge g dX4_worth_49 (tgt := 272) (by decide) H (fun q2 H => ?_) (fun q2 H => ?_)
  · obtain rfl := Option.some.inj H
    exact (wa_drop [0, 1, 2, 3] K)
  · refine st_aload_n g dX4_worth_52 rfl ?_
    refine gf_X4_19 g dX4_worth_53 rfl ?_
    refine st_iload_n g dX4_worth_56 rfl ?_
    refine st_iald g dX4_worth_57 H (fun v3 H => ?_)
    refine st_istore g dX4_worth_58 (Nat.le_of_ble_eq_true rfl) rfl (ls2 := [.ref 7, .int s.1, .int s.2.1, .int s.2.2.1, .int v3, .null]) rfl ?_
    refine st_iload_n g dX4_worth_60 rfl ?_
    refine st_if_eq g dX4_worth_61 (tgt := 80) (by decide) H (fun q4 H => ?_) (fun q4 H => ?_)
    · refine st_iload g dX4_worth_80 rfl ?_
      refine st_if_lt g dX4_worth_82 (tgt := 132) (by decide) H (fun q5 H => ?_) (fun q5 H => ?_)
      · refine st_iload_n g dX4_worth_132 rfl ?_
        refine st_iconst g dX4_worth_133 ic_1 ?_
        refine st_ic_ge g dX4_worth_134 (tgt := 139) (by decide) H (fun q6 H => ?_) (fun q6 H => ?_)
        · refine st_aload_n g dX4_worth_139 rfl ?_
          refine gf_X4_37 g dX4_worth_140 rfl (r := 12) rfl ?_
          refine st_iload_n g dX4_worth_143 rfl ?_
          refine st_iconst g dX4_worth_144 ic_1 ?_
          refine st_isub g dX4_worth_145 ?_
          refine st_iald g dX4_worth_146 H (fun v7 H => ?_)
          refine st_istore g dX4_worth_147 (Nat.le_of_ble_eq_true rfl) rfl (ls2 := [.ref 7, .int s.1, .int s.2.1, .int s.2.2.1, .int v3, .int v7]) rfl ?_
          refine st_iload g dX4_worth_149 rfl ?_
          refine st_bipush g dX4_worth_151 bi_m59 ?_
          refine st_ic_ne g dX4_worth_153 (tgt := 162) (by decide) H (fun q8 H => ?_) (fun q8 H => ?_)
          · refine st_iload g dX4_worth_162 rfl ?_
            refine st_bipush g dX4_worth_164 bi_m33 ?_
            refine st_ic_ne g dX4_worth_166 (tgt := 190) (by decide) H (fun q9 H => ?_) (fun q9 H => ?_)
            · refine st_iload g dX4_worth_190 rfl ?_
              refine st_bipush g dX4_worth_192 bi_m126 ?_
              refine st_ic_ne g dX4_worth_194 (tgt := 211) (by decide) H (fun q10 H => ?_) (fun q10 H => ?_)
              · refine st_iinc g dX4_worth_211 rfl (ii_m1 _) (Nat.le_of_ble_eq_true rfl) rfl (ls2 := [.ref 7, .int (s.1 - 1), .int s.2.1, .int s.2.2.1, .int v3, .int v7]) rfl ?_
                refine st_iload g dX4_worth_214 rfl ?_
                refine st_bipush g dX4_worth_216 bi_m63 ?_
                refine st_ic_ne g dX4_worth_218 (tgt := 235) (by decide) H (fun q11 H => ?_) (fun q11 H => ?_)
                · refine st_iload_n g dX4_worth_235 rfl ?_
                  refine st_iconst g dX4_worth_236 ic_1 ?_
                  refine st_ic_ge g dX4_worth_237 (tgt := 242) (by decide) H (fun q12 H => ?_) (fun q12 H => ?_)
                  · refine st_aload_n g dX4_worth_242 rfl ?_
                    refine gf_X4_37 g dX4_worth_243 rfl (r := 12) rfl ?_
                    refine st_iload_n g dX4_worth_246 rfl ?_
                    refine st_iconst g dX4_worth_247 ic_1 ?_
                    refine st_isub g dX4_worth_248 ?_
                    refine st_aload_n g dX4_worth_249 rfl ?_
                    refine gf_X4_37 g dX4_worth_250 rfl (r := 12) rfl ?_
                    refine st_iload_n g dX4_worth_253 rfl ?_
                    refine st_iconst g dX4_worth_254 ic_1 ?_
                    refine st_isub g dX4_worth_255 ?_
                    refine st_iald g dX4_worth_256 H (fun v13 H => ?_)
                    refine st_iload g dX4_worth_257 rfl ?_
                    refine st_ineg g dX4_worth_259 ?_
                    refine st_iload g dX4_worth_260 rfl ?_
                    obtain ⟨r14, hr14, H⟩ := bind_some H
                    refine st_callSI g (as := [.int v13, .int (-v3), .int v7]) dX4_worth_262 ml_X4_82 mf_X4_joined rfl (Nat.le_of_ble_eq_true rfl) (Nat.le_of_ble_eq_true rfl) (c_X4_joined v13 (-v3) v7 s.2.2.2 _ hr14) (fun hz => ?_)
                    refine st_iast g dX4_worth_265 H (fun h15 H => ?_)
                    refine st_iinc g dX4_worth_266 rfl (ii_1 _) (Nat.le_of_ble_eq_true rfl) rfl (ls2 := [.ref 7, .int (s.1 - 1), .int s.2.1, .int (s.2.2.1 + 1), .int v3, .int v7]) rfl ?_
                    refine st_goto g dX4_worth_269 (tgt := 44) (by decide) ?_
                    obtain rfl := Option.some.inj H
                    exact (wa_drop [4, 5] K)
                  · refine st_iconst g dX4_worth_240 ic_0 ?_
                    obtain rfl := Option.some.inj H
                    exact st_iret g dX4_worth_241 rfl (fun q => by cases q) K
                · refine st_iload g dX4_worth_221 rfl ?_
                  refine st_if_ne g dX4_worth_223 (tgt := 230) (by decide) H (fun q16 H => ?_) (fun q16 H => ?_)
                  · refine st_iconst g dX4_worth_230 ic_0 ?_
                    refine st_istore_n g dX4_worth_231 (Nat.le_of_ble_eq_true rfl) rfl (ls2 := [.ref 7, .int (s.1 - 1), .int 0, .int s.2.2.1, .int v3, .int v7]) rfl ?_
                    refine st_goto g dX4_worth_232 (tgt := 266) (by decide) ?_
                    refine st_iinc g dX4_worth_266 rfl (ii_1 _) (Nat.le_of_ble_eq_true rfl) rfl (ls2 := [.ref 7, .int (s.1 - 1), .int 0, .int (s.2.2.1 + 1), .int v3, .int v7]) rfl ?_
                    refine st_goto g dX4_worth_269 (tgt := 44) (by decide) ?_
                    obtain rfl := Option.some.inj H
                    exact (wa_drop [4, 5] K)
                  · refine st_iconst g dX4_worth_226 ic_1 ?_
                    refine st_goto g dX4_worth_227 (tgt := 231) (by decide) ?_
                    refine st_istore_n g dX4_worth_231 (Nat.le_of_ble_eq_true rfl) rfl (ls2 := [.ref 7, .int (s.1 - 1), .int 1, .int s.2.2.1, .int v3, .int v7]) rfl ?_
                    refine st_goto g dX4_worth_232 (tgt := 266) (by decide) ?_
                    refine st_iinc g dX4_worth_266 rfl (ii_1 _) (Nat.le_of_ble_eq_true rfl) rfl (ls2 := [.ref 7, .int (s.1 - 1), .int 1, .int (s.2.2.1 + 1), .int v3, .int v7]) rfl ?_
                    refine st_goto g dX4_worth_269 (tgt := 44) (by decide) ?_
                    obtain rfl := Option.some.inj H
                    exact (wa_drop [4, 5] K)
              · refine st_aload_n g dX4_worth_197 rfl ?_
                refine gf_X4_37 g dX4_worth_198 rfl (r := 12) rfl ?_
                refine st_iload_n g dX4_worth_201 rfl ?_
                refine st_iconst g dX4_worth_202 ic_1 ?_
                refine st_isub g dX4_worth_203 ?_
                refine st_iload g dX4_worth_204 rfl ?_
                refine st_ineg g dX4_worth_206 ?_
                refine st_iast g dX4_worth_207 H (fun h17 H => ?_)
                refine st_goto g dX4_worth_208 (tgt := 266) (by decide) ?_
                refine st_iinc g dX4_worth_266 rfl (ii_1 _) (Nat.le_of_ble_eq_true rfl) rfl (ls2 := [.ref 7, .int s.1, .int s.2.1, .int (s.2.2.1 + 1), .int v3, .int v7]) rfl ?_
                refine st_goto g dX4_worth_269 (tgt := 44) (by decide) ?_
                obtain rfl := Option.some.inj H
                exact (wa_drop [4, 5] K)
            · refine st_aload_n g dX4_worth_169 rfl ?_
              refine gf_X4_37 g dX4_worth_170 rfl (r := 12) rfl ?_
              refine st_iload_n g dX4_worth_173 rfl ?_
              refine st_iconst g dX4_worth_174 ic_1 ?_
              refine st_isub g dX4_worth_175 ?_
              refine st_iload g dX4_worth_176 rfl ?_
              refine st_if_ne g dX4_worth_178 (tgt := 185) (by decide) H (fun q18 H => ?_) (fun q18 H => ?_)
              · refine st_iconst g dX4_worth_185 ic_0 ?_
                refine st_iast g dX4_worth_186 H (fun h19 H => ?_)
                refine st_goto g dX4_worth_187 (tgt := 266) (by decide) ?_
                refine st_iinc g dX4_worth_266 rfl (ii_1 _) (Nat.le_of_ble_eq_true rfl) rfl (ls2 := [.ref 7, .int s.1, .int s.2.1, .int (s.2.2.1 + 1), .int v3, .int v7]) rfl ?_
                refine st_goto g dX4_worth_269 (tgt := 44) (by decide) ?_
                obtain rfl := Option.some.inj H
                exact (wa_drop [4, 5] K)
              · refine st_iconst g dX4_worth_181 ic_1 ?_
                refine st_goto g dX4_worth_182 (tgt := 186) (by decide) ?_
                refine st_iast g dX4_worth_186 H (fun h20 H => ?_)
                refine st_goto g dX4_worth_187 (tgt := 266) (by decide) ?_
                refine st_iinc g dX4_worth_266 rfl (ii_1 _) (Nat.le_of_ble_eq_true rfl) rfl (ls2 := [.ref 7, .int s.1, .int s.2.1, .int (s.2.2.1 + 1), .int v3, .int v7]) rfl ?_
                refine st_goto g dX4_worth_269 (tgt := 44) (by decide) ?_
                obtain rfl := Option.some.inj H
                exact (wa_drop [4, 5] K)
          · refine st_iload g dX4_worth_156 rfl ?_
            obtain ⟨r21, hr21, H⟩ := bind_some H
            refine st_callSI g (as := [.int v7]) dX4_worth_158 ml_X4_79 mf_X4_held rfl (Nat.le_of_ble_eq_true rfl) (Nat.le_of_ble_eq_true rfl) (c_X4_held v7 s.2.2.2 _ hr21) (fun hz => ?_)
            obtain rfl := Option.some.inj H
            exact st_iret g dX4_worth_161 rfl (fun q => by cases q) K
        · refine st_iconst g dX4_worth_137 ic_0 ?_
          obtain rfl := Option.some.inj H
          exact st_iret g dX4_worth_138 rfl (fun q => by cases q) K
      · refine st_iload_n g dX4_worth_85 rfl ?_
        refine st_aload_n g dX4_worth_86 rfl ?_
        refine gf_X4_37 g dX4_worth_87 rfl (r := 12) rfl ?_
        refine st_alen g dX4_worth_90 H (fun v22 H => ?_)
        refine st_ic_lt g dX4_worth_91 (tgt := 96) (by decide) H (fun q23 H => ?_) (fun q23 H => ?_)
        · refine st_aload_n g dX4_worth_96 rfl ?_
          refine gf_X4_37 g dX4_worth_97 rfl (r := 12) rfl ?_
          refine st_iload_n g dX4_worth_100 rfl ?_
          refine st_iload g dX4_worth_101 rfl ?_
          refine st_sipush g dX4_worth_103 si_10000 ?_
          refine st_ic_lt g dX4_worth_106 (tgt := 123) (by decide) H (fun q24 H => ?_) (fun q24 H => ?_)
          · refine st_iload g dX4_worth_123 rfl ?_
            refine st_iast g dX4_worth_125 H (fun h25 H => ?_)
            refine st_iinc g dX4_worth_126 rfl (ii_1 _) (Nat.le_of_ble_eq_true rfl) rfl (ls2 := [.ref 7, .int (s.1 + 1), .int s.2.1, .int s.2.2.1, .int v3, .null]) rfl ?_
            refine st_goto g dX4_worth_129 (tgt := 266) (by decide) ?_
            refine st_iinc g dX4_worth_266 rfl (ii_1 _) (Nat.le_of_ble_eq_true rfl) rfl (ls2 := [.ref 7, .int (s.1 + 1), .int s.2.1, .int (s.2.2.1 + 1), .int v3, .null]) rfl ?_
            refine st_goto g dX4_worth_269 (tgt := 44) (by decide) ?_
            obtain rfl := Option.some.inj H
            exact (wa_drop [4] K)
          · refine st_aload_n g dX4_worth_109 rfl ?_
            refine gf_X4_34 g dX4_worth_110 rfl (r := 11) rfl ?_
            refine st_iload g dX4_worth_113 rfl ?_
            refine st_sipush g dX4_worth_115 si_10000 ?_
            refine st_isub g dX4_worth_118 ?_
            refine st_iald g dX4_worth_119 H (fun v26 H => ?_)
            refine st_goto g dX4_worth_120 (tgt := 125) (by decide) ?_
            refine st_iast g dX4_worth_125 H (fun h27 H => ?_)
            refine st_iinc g dX4_worth_126 rfl (ii_1 _) (Nat.le_of_ble_eq_true rfl) rfl (ls2 := [.ref 7, .int (s.1 + 1), .int s.2.1, .int s.2.2.1, .int v3, .null]) rfl ?_
            refine st_goto g dX4_worth_129 (tgt := 266) (by decide) ?_
            refine st_iinc g dX4_worth_266 rfl (ii_1 _) (Nat.le_of_ble_eq_true rfl) rfl (ls2 := [.ref 7, .int (s.1 + 1), .int s.2.1, .int (s.2.2.1 + 1), .int v3, .null]) rfl ?_
            refine st_goto g dX4_worth_269 (tgt := 44) (by decide) ?_
            obtain rfl := Option.some.inj H
            exact (wa_drop [4] K)
        · refine st_iconst g dX4_worth_94 ic_0 ?_
          obtain rfl := Option.some.inj H
          exact st_iret g dX4_worth_95 rfl (fun q => by cases q) K
    · refine st_iload g dX4_worth_64 rfl ?_
      refine st_bipush g dX4_worth_66 bi_m59 ?_
      refine st_ic_eq g dX4_worth_68 (tgt := 75) (by decide) H (fun q28 H => ?_) (fun q28 H => ?_)
      · refine st_iconst g dX4_worth_75 ic_0 ?_
        refine st_istore_n g dX4_worth_76 (Nat.le_of_ble_eq_true rfl) rfl (ls2 := [.ref 7, .int s.1, .int 0, .int s.2.2.1, .int v3, .null]) rfl ?_
        refine st_goto g dX4_worth_77 (tgt := 266) (by decide) ?_
        refine st_iinc g dX4_worth_266 rfl (ii_1 _) (Nat.le_of_ble_eq_true rfl) rfl (ls2 := [.ref 7, .int s.1, .int 0, .int (s.2.2.1 + 1), .int v3, .null]) rfl ?_
        refine st_goto g dX4_worth_269 (tgt := 44) (by decide) ?_
        obtain rfl := Option.some.inj H
        exact (wa_drop [4] K)
      · refine st_iconst g dX4_worth_71 ic_1 ?_
        refine st_goto g dX4_worth_72 (tgt := 76) (by decide) ?_
        refine st_istore_n g dX4_worth_76 (Nat.le_of_ble_eq_true rfl) rfl (ls2 := [.ref 7, .int s.1, .int 1, .int s.2.2.1, .int v3, .null]) rfl ?_
        refine st_goto g dX4_worth_77 (tgt := 266) (by decide) ?_
        refine st_iinc g dX4_worth_266 rfl (ii_1 _) (Nat.le_of_ble_eq_true rfl) rfl (ls2 := [.ref 7, .int s.1, .int 1, .int (s.2.2.1 + 1), .int v3, .null]) rfl ?_
        refine st_goto g dX4_worth_269 (tgt := 44) (by decide) ?_
        obtain rfl := Option.some.inj H
        exact (wa_drop [4] K)
def f_X4_worth (h : Hp) : Option (Int32 × Hp) :=
  if (h.1 7 3) = 0 then
    (rdI h 11 0).bind fun v30 =>
    (rdI h 11 5).bind fun v31 =>
    (rdI h 11 1).bind fun v32 =>
    (f_X4_held (((1 + (v30 / 3)) + v31) - (v32 / 20))).bind fun r33 =>
    some (r33, h)
  else
    (iter (b_X4_worth_44) FU (0, 0, 0, h)).bind (Sum.elim (fun a29 =>
      some (0, a29.2.2.2)) (fun r => some r))
theorem t_X4_worth {x : Cx} (g : Gx x RX4 cX4_worth 6 2) (h : Hp) (out : (Int32 × Hp)) (H : f_X4_worth h = some out) (K : RtI x .int out.1 out.2) : WA x 0 [.ref 7, .null, .null, .null, .null, .null] [] h := by
  unfold f_X4_worth at H
  refine st_aload_n g dX4_worth_0 rfl ?_
  refine gf_X4_22 g dX4_worth_1 rfl ?_
  refine st_if_ne g dX4_worth_4 (tgt := 38) (by decide) H (fun q1 H => ?_) (fun q1 H => ?_)
  · refine st_iconst g dX4_worth_38 ic_0 ?_
    refine st_istore_n g dX4_worth_39 (Nat.le_of_ble_eq_true rfl) rfl (ls2 := [.ref 7, .int 0, .null, .null, .null, .null]) rfl ?_
    refine st_iconst g dX4_worth_40 ic_0 ?_
    refine st_istore_n g dX4_worth_41 (Nat.le_of_ble_eq_true rfl) rfl (ls2 := [.ref 7, .int 0, .int 0, .null, .null, .null]) rfl ?_
    refine st_iconst g dX4_worth_42 ic_0 ?_
    refine st_istore_n g dX4_worth_43 (Nat.le_of_ble_eq_true rfl) rfl (ls2 := [.ref 7, .int 0, .int 0, .int 0, .null, .null]) rfl ?_
    show P_X4_worth_44 x (0, 0, 0, h)
    obtain ⟨a29o, ha29, hca29⟩ := it_R H
    refine iter_W (P := P_X4_worth_44 x) (E := E_X4_worth_44 x) (fun s9 o9 ho9 hK9 => tb_X4_worth_44 g s9 o9 ho9 hK9) FU _ a29o ha29 ?_
    rcases hca29 with ⟨a29, rfl, H⟩ | ⟨r, rfl, H⟩
    · show WA x 272 [.null, .null, .null, .null, .null, .null] [] a29.2.2.2
      refine st_iconst g dX4_worth_272 ic_0 ?_
      obtain rfl := Option.some.inj H
      exact st_iret g dX4_worth_273 rfl (fun q => by cases q) K
    · obtain rfl := Option.some.inj H
      exact K
  · refine st_iconst g dX4_worth_7 ic_1 ?_
    refine st_aload_n g dX4_worth_8 rfl ?_
    refine gf_X4_34 g dX4_worth_9 rfl (r := 11) rfl ?_
    refine st_iconst g dX4_worth_12 ic_0 ?_
    refine st_iald g dX4_worth_13 H (fun v30 H => ?_)
    refine st_iconst g dX4_worth_14 ic_3 ?_
    refine st_idiv g dX4_worth_15 (by decide) ?_
    refine st_iadd g dX4_worth_16 ?_
    refine st_aload_n g dX4_worth_17 rfl ?_
    refine gf_X4_34 g dX4_worth_18 rfl (r := 11) rfl ?_
    refine st_iconst g dX4_worth_21 ic_5 ?_
    refine st_iald g dX4_worth_22 H (fun v31 H => ?_)
    refine st_iadd g dX4_worth_23 ?_
    refine st_aload_n g dX4_worth_24 rfl ?_
    refine gf_X4_34 g dX4_worth_25 rfl (r := 11) rfl ?_
    refine st_iconst g dX4_worth_28 ic_1 ?_
    refine st_iald g dX4_worth_29 H (fun v32 H => ?_)
    refine st_bipush g dX4_worth_30 bi_20 ?_
    refine st_idiv g dX4_worth_32 (by decide) ?_
    refine st_isub g dX4_worth_33 ?_
    obtain ⟨r33, hr33, H⟩ := bind_some H
    refine st_callSI g (as := [.int (((1 + (v30 / 3)) + v31) - (v32 / 20))]) dX4_worth_34 ml_X4_79 mf_X4_held rfl (Nat.le_of_ble_eq_true rfl) (Nat.le_of_ble_eq_true rfl) (c_X4_held (((1 + (v30 / 3)) + v31) - (v32 / 20)) h _ hr33) (fun hz => ?_)
    obtain rfl := Option.some.inj H
    exact st_iret g dX4_worth_37 rfl (fun q => by cases q) K
theorem c_X4_worth (h : Hp) (r : (Int32 × Hp)) (H : f_X4_worth h = some r) : CtI yX4_worth cX4_worth 6 .int 2 [.ref 7] h r.1 r.2 :=
  ct_ofI (own := RX4) [.ref 7, .null, .null, .null, .null, .null] (by decide +kernel) rfl (fun ρ => Nat.le_of_ble_eq_true rfl) (fun ρ => rfl) (fun x g K => t_X4_worth g h r H K)
def f_X6_refusal (a1 : Int32) (a2 : Int32) (h : Hp) : Option Int32 :=
  (f_X6_isEmpty a1 h).bind fun r1 =>
  if r1 = 0 then
    (f_X6_isRowOf a1 a2 h).bind fun r3 =>
    if r3 = 0 then
      some (-12)
    else
      some 0
  else
    some (-11)
theorem t_X6_refusal {x : Cx} (g : Gx x RX6 cX6_refusal 3 2) (a1 : Int32) (a2 : Int32) (h : Hp) (out : Int32) (H : f_X6_refusal a1 a2 h = some out) (K : RtI x .int out h) : WA x 0 [.ref 30, .int a1, .int a2] [] h := by
  unfold f_X6_refusal at H
  refine st_aload_n g dX6_refusal_0 rfl ?_
  refine st_iload_n g dX6_refusal_1 rfl ?_
  obtain ⟨r1, hr1, H⟩ := bind_some H
  refine st_callVI g (as := [.int a1]) dX6_refusal_2 rfl rfl ml_X6_30 mf_X6_isEmpty rfl (Nat.le_of_ble_eq_true rfl) (Nat.le_of_ble_eq_true rfl) (c_X6_isEmpty a1 h _ hr1) (fun hz => ?_)
  have br1 := hz rfl
  refine st_if_eq g dX6_refusal_5 (tgt := 11) (by decide) H (fun q2 H => ?_) (fun q2 H => ?_)
  · refine st_aload_n g dX6_refusal_11 rfl ?_
    refine st_iload_n g dX6_refusal_12 rfl ?_
    refine st_iload_n g dX6_refusal_13 rfl ?_
    obtain ⟨r3, hr3, H⟩ := bind_some H
    refine st_callVI g (as := [.int a1, .int a2]) dX6_refusal_14 rfl rfl ml_X6_33 mf_X6_isRowOf rfl (Nat.le_of_ble_eq_true rfl) (Nat.le_of_ble_eq_true rfl) (c_X6_isRowOf a1 a2 h _ hr3) (fun hz => ?_)
    have br3 := hz rfl
    refine st_if_eq g dX6_refusal_17 (tgt := 24) (by decide) H (fun q4 H => ?_) (fun q4 H => ?_)
    · refine st_bipush g dX6_refusal_24 bi_m12 ?_
      obtain rfl := Option.some.inj H
      exact st_iret g dX6_refusal_26 rfl (fun q => by cases q) K
    · refine st_iconst g dX6_refusal_20 ic_0 ?_
      refine st_goto g dX6_refusal_21 (tgt := 26) (by decide) ?_
      obtain rfl := Option.some.inj H
      exact st_iret g dX6_refusal_26 rfl (fun q => by cases q) K
  · refine st_bipush g dX6_refusal_8 bi_m11 ?_
    obtain rfl := Option.some.inj H
    exact st_iret g dX6_refusal_10 rfl (fun q => by cases q) K
theorem c_X6_refusal (a1 : Int32) (a2 : Int32) (h : Hp) (r : Int32) (H : f_X6_refusal a1 a2 h = some r) : CtI yX6_refusal cX6_refusal 3 .int 2 [.ref 30, .int a1, .int a2] h r h :=
  ct_ofI (own := RX6) [.ref 30, .int a1, .int a2] (by decide +kernel) rfl (fun ρ => Nat.le_of_ble_eq_true rfl) (fun ρ => rfl) (fun x g K => t_X6_refusal g a1 a2 h r H K)
def f_X5_becomeUpTo (o : Nat) (a1 : Nat) (a2 : Int32) (h : Hp) : Option Hp :=
  if sh o = (0, 5) then
    if sh a1 = (0, 5) then
      (cpI h (pf a1 0) 0 (pf o 0) 0 12).bind fun h1 =>
      (cpI h1 (pf a1 1) 0 (pf o 1) 0 a2).bind fun h2 =>
      (lnI (pf o 2)).bind fun v3 =>
      (cpI h2 (pf a1 2) 0 (pf o 2) 0 v3).bind fun h4 =>
      lt (stI h4 o 3 (((h4.1 a1 3) &&& (((1 : Int32) <<< (a2 &&& 31)) - 1)) ||| ((h4.1 o 3) &&& ((((1 : Int32) <<< (a2 &&& 31)) - 1) ^^^ (-1))))) fun h5 =>
      lt (stI h5 o 4 (h5.1 a1 4)) fun h6 =>
      some h6
    else none
  else none
theorem t_X5_becomeUpTo {x : Cx} (g : Gx x RX5 cX5_becomeUpTo 4 2) (o : Nat) (a1 : Nat) (a2 : Int32) (h : Hp) (out : Hp) (H : f_X5_becomeUpTo o a1 a2 h = some out) (K : RtV x out) : WA x 0 [.ref o, .ref a1, .int a2, .null] [] h := by
  unfold f_X5_becomeUpTo at H
  obtain ⟨hgo, H⟩ := gd_some H
  obtain ⟨hga1, H⟩ := gd_some H
  refine st_iconst g dX5_becomeUpTo_0 ic_1 ?_
  refine st_iload_n g dX5_becomeUpTo_1 rfl ?_
  refine st_ishl g dX5_becomeUpTo_2 ?_
  refine st_iconst g dX5_becomeUpTo_3 ic_1 ?_
  refine st_isub g dX5_becomeUpTo_4 ?_
  refine st_istore_n g dX5_becomeUpTo_5 (Nat.le_of_ble_eq_true rfl) rfl (ls2 := [.ref o, .ref a1, .int a2, .int (((1 : Int32) <<< (a2 &&& 31)) - 1)]) rfl ?_
  refine st_aload_n g dX5_becomeUpTo_6 rfl ?_
  refine gf_X5_9 g dX5_becomeUpTo_7 hga1 (r := pf a1 0) rfl ?_
  refine st_iconst g dX5_becomeUpTo_10 ic_0 ?_
  refine st_aload_n g dX5_becomeUpTo_11 rfl ?_
  refine gf_X5_9 g dX5_becomeUpTo_12 hgo (r := pf o 0) rfl ?_
  refine st_iconst g dX5_becomeUpTo_15 ic_0 ?_
  refine st_bipush g dX5_becomeUpTo_16 bi_12 ?_
  refine st_cpI g dX5_becomeUpTo_18 ml_X5_32 (Nat.le_of_ble_eq_true rfl) (Nat.le_of_ble_eq_true rfl) H (fun h1 H => ?_)
  refine st_aload_n g dX5_becomeUpTo_21 rfl ?_
  refine gf_X5_15 g dX5_becomeUpTo_22 hga1 (r := pf a1 1) rfl ?_
  refine st_iconst g dX5_becomeUpTo_25 ic_0 ?_
  refine st_aload_n g dX5_becomeUpTo_26 rfl ?_
  refine gf_X5_15 g dX5_becomeUpTo_27 hgo (r := pf o 1) rfl ?_
  refine st_iconst g dX5_becomeUpTo_30 ic_0 ?_
  refine st_iload_n g dX5_becomeUpTo_31 rfl ?_
  refine st_cpI g dX5_becomeUpTo_32 ml_X5_32 (Nat.le_of_ble_eq_true rfl) (Nat.le_of_ble_eq_true rfl) H (fun h2 H => ?_)
  refine st_aload_n g dX5_becomeUpTo_35 rfl ?_
  refine gf_X5_18 g dX5_becomeUpTo_36 hga1 (r := pf a1 2) rfl ?_
  refine st_iconst g dX5_becomeUpTo_39 ic_0 ?_
  refine st_aload_n g dX5_becomeUpTo_40 rfl ?_
  refine gf_X5_18 g dX5_becomeUpTo_41 hgo (r := pf o 2) rfl ?_
  refine st_iconst g dX5_becomeUpTo_44 ic_0 ?_
  refine st_aload_n g dX5_becomeUpTo_45 rfl ?_
  refine gf_X5_18 g dX5_becomeUpTo_46 hgo (r := pf o 2) rfl ?_
  refine st_alen g dX5_becomeUpTo_49 H (fun v3 H => ?_)
  refine st_cpI g dX5_becomeUpTo_50 ml_X5_32 (Nat.le_of_ble_eq_true rfl) (Nat.le_of_ble_eq_true rfl) H (fun h4 H => ?_)
  refine st_aload_n g dX5_becomeUpTo_53 rfl ?_
  refine st_aload_n g dX5_becomeUpTo_54 rfl ?_
  refine gf_X5_21 g dX5_becomeUpTo_55 hga1 ?_
  refine st_iload_n g dX5_becomeUpTo_58 rfl ?_
  refine st_iand g dX5_becomeUpTo_59 ?_
  refine st_aload_n g dX5_becomeUpTo_60 rfl ?_
  refine gf_X5_21 g dX5_becomeUpTo_61 hgo ?_
  refine st_iload_n g dX5_becomeUpTo_64 rfl ?_
  refine st_iconst g dX5_becomeUpTo_65 ic_m1 ?_
  refine st_ixor g dX5_becomeUpTo_66 ?_
  refine st_iand g dX5_becomeUpTo_67 ?_
  refine st_ior g dX5_becomeUpTo_68 ?_
  refine pu_X5_21 g dX5_becomeUpTo_69 hgo ?_
  refine wa_ltH H (fun h5 H => ?_)
  refine st_aload_n g dX5_becomeUpTo_72 rfl ?_
  refine st_aload_n g dX5_becomeUpTo_73 rfl ?_
  refine gf_X5_25 g dX5_becomeUpTo_74 hga1 ?_
  refine pu_X5_25 g dX5_becomeUpTo_77 hgo ?_
  refine wa_ltH H (fun h6 H => ?_)
  obtain rfl := Option.some.inj H
  exact st_vret g dX5_becomeUpTo_80 K
theorem c_X5_becomeUpTo (o : Nat) (a1 : Nat) (a2 : Int32) (h : Hp) (r : Hp) (H : f_X5_becomeUpTo o a1 a2 h = some r) : CtV yX5_becomeUpTo cX5_becomeUpTo 4 2 [.ref o, .ref a1, .int a2] h r :=
  ct_ofV (own := RX5) [.ref o, .ref a1, .int a2, .null] (by decide +kernel) rfl (fun ρ => Nat.le_of_ble_eq_true rfl) (fun ρ => rfl) (fun x g K => t_X5_becomeUpTo g o a1 a2 h r H K)
def P_X7_callsOn_16 (x : Cx) (a1 : Int32) (a2 : Int32) (h : Hp) (s : Int32) : Prop := WA x 16 [.ref 0, .int a1, .int a2, .int s, .null] [] h
def E_X7_callsOn_16 (x : Cx) (a1 : Int32) (a2 : Int32) (h : Hp) : Int32 ⊕ Int32 → Prop := Sum.elim (fun s : Int32 => WA x 61 [.null, .null, .int a2, .null, .null] [] h) (fun r : Int32 => RtI x .int r h)
def b_X7_callsOn_16 (a1 : Int32) (a2 : Int32) (h : Hp) (s : Int32) : Option (Int32 ⊕ (Int32 ⊕ Int32)) :=
  if a2 ≤ s then
    some (.inr (.inl s))
  else
    (f_X6_valueAt a1 s h).bind fun r3 =>
    if r3.toInt32 < 0 then
      some (.inr (.inr s))
    else
      if (r3.toInt32 / 12) < (h.1 1 3) then
        some (.inl (s + 1))
      else
        some (.inr (.inr s))
theorem tb_X7_callsOn_16 {x : Cx} (g : Gx x RX7 cX7_callsOn 5 2) (a1 : Int32) (a2 : Int32) (h : Hp) (s : Int32) (out : Int32 ⊕ (Int32 ⊕ Int32)) (H : b_X7_callsOn_16 a1 a2 h s = some out) (K : Sum.elim (P_X7_callsOn_16 x a1 a2 h) (E_X7_callsOn_16 x a1 a2 h) out) : P_X7_callsOn_16 x a1 a2 h s := by
  unfold b_X7_callsOn_16 at H
  show WA x 16 [.ref 0, .int a1, .int a2, .int s, .null] [] h
  refine st_iload_n g dX7_callsOn_16 rfl ?_
  refine st_iload_n g dX7_callsOn_17 rfl ?_
  refine st_ic_ge g dX7_callsOn_18 (tgt := 61) (by decide) H (fun q2 H => ?_) (fun q2 H => ?_)
  · obtain rfl := Option.some.inj H
    exact (wa_drop [0, 1, 3] K)
  · refine st_aload_n g dX7_callsOn_21 rfl ?_
    refine gf_X7_54 g dX7_callsOn_22 rfl (r := 30) rfl ?_
    refine st_iload_n g dX7_callsOn_25 rfl ?_
    refine st_iload_n g dX7_callsOn_26 rfl ?_
    obtain ⟨r3, hr3, H⟩ := bind_some H
    refine st_callVL g (as := [.int a1, .int s]) dX7_callsOn_27 rfl rfl ml_X7_120 mf_X6_valueAt rfl (Nat.le_of_ble_eq_true rfl) (Nat.le_of_ble_eq_true rfl) (c_X6_valueAt a1 s h _ hr3) ?_
    refine st_l2i g dX7_callsOn_30 ?_
    refine st_istore g dX7_callsOn_31 (Nat.le_of_ble_eq_true rfl) rfl (ls2 := [.ref 0, .int a1, .int a2, .int s, .int r3.toInt32]) rfl ?_
    refine st_iload g dX7_callsOn_33 rfl ?_
    refine st_if_lt g dX7_callsOn_35 (tgt := 53) (by decide) H (fun q4 H => ?_) (fun q4 H => ?_)
    · refine st_iload_n g dX7_callsOn_53 rfl ?_
      obtain rfl := Option.some.inj H
      exact st_iret g dX7_callsOn_54 rfl (fun q => by cases q) K
    · refine st_iload g dX7_callsOn_38 rfl ?_
      refine st_bipush g dX7_callsOn_40 bi_12 ?_
      refine st_idiv g dX7_callsOn_42 (by decide) ?_
      refine st_aload_n g dX7_callsOn_43 rfl ?_
      refine gf_X7_10 g dX7_callsOn_44 rfl (r := 1) rfl ?_
      refine gf_X7_100 g dX7_callsOn_47 rfl ?_
      refine st_ic_lt g dX7_callsOn_50 (tgt := 55) (by decide) H (fun q5 H => ?_) (fun q5 H => ?_)
      · refine st_iinc g dX7_callsOn_55 rfl (ii_1 _) (Nat.le_of_ble_eq_true rfl) rfl (ls2 := [.ref 0, .int a1, .int a2, .int (s + 1), .int r3.toInt32]) rfl ?_
        refine st_goto g dX7_callsOn_58 (tgt := 16) (by decide) ?_
        obtain rfl := Option.some.inj H
        exact (wa_drop [4] K)
      · refine st_iload_n g dX7_callsOn_53 rfl ?_
        obtain rfl := Option.some.inj H
        exact st_iret g dX7_callsOn_54 rfl (fun q => by cases q) K
def f_X7_callsOn (a1 : Int32) (h : Hp) : Option Int32 :=
  (f_X6_size a1 h).bind fun r1 =>
  (iter (b_X7_callsOn_16 a1 (mnI 40 r1) h) FU 0).bind (Sum.elim (fun a6 =>
    some (mnI 40 r1)) (fun r => some r))
theorem t_X7_callsOn {x : Cx} (g : Gx x RX7 cX7_callsOn 5 2) (a1 : Int32) (h : Hp) (out : Int32) (H : f_X7_callsOn a1 h = some out) (K : RtI x .int out h) : WA x 0 [.ref 0, .int a1, .null, .null, .null] [] h := by
  unfold f_X7_callsOn at H
  refine st_bipush g dX7_callsOn_0 bi_40 ?_
  refine st_aload_n g dX7_callsOn_2 rfl ?_
  refine gf_X7_54 g dX7_callsOn_3 rfl (r := 30) rfl ?_
  refine st_iload_n g dX7_callsOn_6 rfl ?_
  obtain ⟨r1, hr1, H⟩ := bind_some H
  refine st_callVI g (as := [.int a1]) dX7_callsOn_7 rfl rfl ml_X7_396 mf_X6_size rfl (Nat.le_of_ble_eq_true rfl) (Nat.le_of_ble_eq_true rfl) (c_X6_size a1 h _ hr1) (fun hz => ?_)
  refine st_min g dX7_callsOn_10 ml_X7_393 (Nat.le_of_ble_eq_true rfl) (Nat.le_of_ble_eq_true rfl) ?_
  refine st_istore_n g dX7_callsOn_13 (Nat.le_of_ble_eq_true rfl) rfl (ls2 := [.ref 0, .int a1, .int (mnI 40 r1), .null, .null]) rfl ?_
  refine st_iconst g dX7_callsOn_14 ic_0 ?_
  refine st_istore_n g dX7_callsOn_15 (Nat.le_of_ble_eq_true rfl) rfl (ls2 := [.ref 0, .int a1, .int (mnI 40 r1), .int 0, .null]) rfl ?_
  show P_X7_callsOn_16 x a1 (mnI 40 r1) h 0
  obtain ⟨a6o, ha6, hca6⟩ := it_R H
  refine iter_W (P := P_X7_callsOn_16 x a1 (mnI 40 r1) h) (E := E_X7_callsOn_16 x a1 (mnI 40 r1) h) (fun s9 o9 ho9 hK9 => tb_X7_callsOn_16 g a1 (mnI 40 r1) h s9 o9 ho9 hK9) FU _ a6o ha6 ?_
  rcases hca6 with ⟨a6, rfl, H⟩ | ⟨r, rfl, H⟩
  · show WA x 61 [.null, .null, .int (mnI 40 r1), .null, .null] [] h
    refine st_iload_n g dX7_callsOn_61 rfl ?_
    obtain rfl := Option.some.inj H
    exact st_iret g dX7_callsOn_62 rfl (fun q => by cases q) K
  · obtain rfl := Option.some.inj H
    exact K
theorem c_X7_callsOn (a1 : Int32) (h : Hp) (r : Int32) (H : f_X7_callsOn a1 h = some r) : CtI yX7_callsOn cX7_callsOn 5 .int 2 [.ref 0, .int a1] h r h :=
  ct_ofI (own := RX7) [.ref 0, .int a1, .null, .null, .null] (by decide +kernel) rfl (fun ρ => Nat.le_of_ble_eq_true rfl) (fun ρ => rfl) (fun x g K => t_X7_callsOn g a1 h r H K)
def f_X7_run (a1 : Int32) (h : Hp) : Option (Int32 × Hp) :=
  if a1 < 0 then
    some ((-1), h)
  else
    if a1 ≤ 1 then
      (f_X7_longestRise h).bind fun r3 =>
      if a1 = 0 then
        (rdI r3.2 50 r3.1).bind fun v6 =>
        some (v6, r3.2)
      else
        (rdI r3.2 51 r3.1).bind fun v5 =>
        some (v5, r3.2)
    else
      some ((-1), h)
theorem t_X7_run {x : Cx} (g : Gx x RX7 cX7_run 3 2) (a1 : Int32) (h : Hp) (out : (Int32 × Hp)) (H : f_X7_run a1 h = some out) (K : RtI x .int out.1 out.2) : WA x 0 [.ref 0, .int a1, .null] [] h := by
  unfold f_X7_run at H
  refine st_iload_n g dX7_run_0 rfl ?_
  refine st_if_lt g dX7_run_1 (tgt := 9) (by decide) H (fun q1 H => ?_) (fun q1 H => ?_)
  · refine st_iconst g dX7_run_9 ic_m1 ?_
    obtain rfl := Option.some.inj H
    exact st_iret g dX7_run_10 rfl (fun q => by cases q) K
  · refine st_iload_n g dX7_run_4 rfl ?_
    refine st_iconst g dX7_run_5 ic_1 ?_
    refine st_ic_le g dX7_run_6 (tgt := 11) (by decide) H (fun q2 H => ?_) (fun q2 H => ?_)
    · refine st_aload_n g dX7_run_11 rfl ?_
      obtain ⟨r3, hr3, H⟩ := bind_some H
      refine st_callVI g (as := []) dX7_run_12 rfl rfl ml_X7_181 mf_X7_longestRise rfl (Nat.le_of_ble_eq_true rfl) (Nat.le_of_ble_eq_true rfl) (c_X7_longestRise h _ hr3) (fun hz => ?_)
      refine st_istore_n g dX7_run_15 (Nat.le_of_ble_eq_true rfl) rfl (ls2 := [.ref 0, .int a1, .int r3.1]) rfl ?_
      refine st_iload_n g dX7_run_16 rfl ?_
      refine st_if_ne g dX7_run_17 (tgt := 29) (by decide) H (fun q4 H => ?_) (fun q4 H => ?_)
      · refine st_aload_n g dX7_run_29 rfl ?_
        refine gf_X7_79 g dX7_run_30 rfl (r := 51) rfl ?_
        refine st_iload_n g dX7_run_33 rfl ?_
        refine st_iald g dX7_run_34 H (fun v5 H => ?_)
        obtain rfl := Option.some.inj H
        exact st_iret g dX7_run_35 rfl (fun q => by cases q) K
      · refine st_aload_n g dX7_run_20 rfl ?_
        refine gf_X7_76 g dX7_run_21 rfl (r := 50) rfl ?_
        refine st_iload_n g dX7_run_24 rfl ?_
        refine st_iald g dX7_run_25 H (fun v6 H => ?_)
        refine st_goto g dX7_run_26 (tgt := 35) (by decide) ?_
        obtain rfl := Option.some.inj H
        exact st_iret g dX7_run_35 rfl (fun q => by cases q) K
    · refine st_iconst g dX7_run_9 ic_m1 ?_
      obtain rfl := Option.some.inj H
      exact st_iret g dX7_run_10 rfl (fun q => by cases q) K
theorem c_X7_run (a1 : Int32) (h : Hp) (r : (Int32 × Hp)) (H : f_X7_run a1 h = some r) : CtI yX7_run cX7_run 3 .int 2 [.ref 0, .int a1] h r.1 r.2 :=
  ct_ofI (own := RX7) [.ref 0, .int a1, .null] (by decide +kernel) rfl (fun ρ => Nat.le_of_ble_eq_true rfl) (fun ρ => rfl) (fun x g K => t_X7_run g a1 h r H K)
def f_X2_isBetter (a1 : Int32) (a2 : Int32) (h : Hp) : Option Int32 :=
  if a1 = (h.1 44 5) then
    (f_J6_bitCount_0f7a4 a2).bind fun r2 =>
    (f_J6_bitCount_0f7a4 (h.1 44 6)).bind fun r3 =>
    if (r2 - r3) = 0 then
      if (h.1 44 6) ≤ a2 then
        some 0
      else
        some 1
    else
      if 0 ≤ (r2 - r3) then
        some 0
      else
        some 1
  else
    if a1 ≤ (h.1 44 5) then
      some 0
    else
      some 1
theorem t_X2_isBetter {x : Cx} (g : Gx x RX2 cX2_isBetter 4 2) (a1 : Int32) (a2 : Int32) (h : Hp) (out : Int32) (H : f_X2_isBetter a1 a2 h = some out) (K : RtI x .boolean out h) : WA x 0 [.ref 44, .int a1, .int a2, .null] [] h := by
  unfold f_X2_isBetter at H
  refine st_iload_n g dX2_isBetter_0 rfl ?_
  refine st_aload_n g dX2_isBetter_1 rfl ?_
  refine gf_X2_28 g dX2_isBetter_2 rfl ?_
  refine st_ic_eq g dX2_isBetter_5 (tgt := 22) (by decide) H (fun q1 H => ?_) (fun q1 H => ?_)
  · refine st_iload_n g dX2_isBetter_22 rfl ?_
    obtain ⟨r2, hr2, H⟩ := bind_some H
    refine st_callSI g (as := [.int a2]) dX2_isBetter_23 ml_X2_46 mf_J6_bitCount_0f7a4 rfl (Nat.le_of_ble_eq_true rfl) (Nat.le_of_ble_eq_true rfl) (c_J6_bitCount_0f7a4 a2 h _ hr2) (fun hz => ?_)
    refine st_aload_n g dX2_isBetter_26 rfl ?_
    refine gf_X2_31 g dX2_isBetter_27 rfl ?_
    obtain ⟨r3, hr3, H⟩ := bind_some H
    refine st_callSI g (as := [.int (h.1 44 6)]) dX2_isBetter_30 ml_X2_46 mf_J6_bitCount_0f7a4 rfl (Nat.le_of_ble_eq_true rfl) (Nat.le_of_ble_eq_true rfl) (c_J6_bitCount_0f7a4 (h.1 44 6) h _ hr3) (fun hz => ?_)
    refine st_isub g dX2_isBetter_33 ?_
    refine st_istore_n g dX2_isBetter_34 (Nat.le_of_ble_eq_true rfl) rfl (ls2 := [.ref 44, .int a1, .int a2, .int (r2 - r3)]) rfl ?_
    refine st_iload_n g dX2_isBetter_35 rfl ?_
    refine st_if_eq g dX2_isBetter_36 (tgt := 51) (by decide) H (fun q4 H => ?_) (fun q4 H => ?_)
    · refine st_iload_n g dX2_isBetter_51 rfl ?_
      refine st_aload_n g dX2_isBetter_52 rfl ?_
      refine gf_X2_31 g dX2_isBetter_53 rfl ?_
      refine st_ic_ge g dX2_isBetter_56 (tgt := 63) (by decide) H (fun q5 H => ?_) (fun q5 H => ?_)
      · refine st_iconst g dX2_isBetter_63 ic_0 ?_
        obtain rfl := Option.some.inj H
        exact st_iret g dX2_isBetter_64 rfl (fun _ => Or.inl rfl) K
      · refine st_iconst g dX2_isBetter_59 ic_1 ?_
        refine st_goto g dX2_isBetter_60 (tgt := 64) (by decide) ?_
        obtain rfl := Option.some.inj H
        exact st_iret g dX2_isBetter_64 rfl (fun _ => Or.inr rfl) K
    · refine st_iload_n g dX2_isBetter_39 rfl ?_
      refine st_if_ge g dX2_isBetter_40 (tgt := 47) (by decide) H (fun q6 H => ?_) (fun q6 H => ?_)
      · refine st_iconst g dX2_isBetter_47 ic_0 ?_
        refine st_goto g dX2_isBetter_48 (tgt := 64) (by decide) ?_
        obtain rfl := Option.some.inj H
        exact st_iret g dX2_isBetter_64 rfl (fun _ => Or.inl rfl) K
      · refine st_iconst g dX2_isBetter_43 ic_1 ?_
        refine st_goto g dX2_isBetter_44 (tgt := 64) (by decide) ?_
        obtain rfl := Option.some.inj H
        exact st_iret g dX2_isBetter_64 rfl (fun _ => Or.inr rfl) K
  · refine st_iload_n g dX2_isBetter_8 rfl ?_
    refine st_aload_n g dX2_isBetter_9 rfl ?_
    refine gf_X2_28 g dX2_isBetter_10 rfl ?_
    refine st_ic_le g dX2_isBetter_13 (tgt := 20) (by decide) H (fun q7 H => ?_) (fun q7 H => ?_)
    · refine st_iconst g dX2_isBetter_20 ic_0 ?_
      obtain rfl := Option.some.inj H
      exact st_iret g dX2_isBetter_21 rfl (fun _ => Or.inl rfl) K
    · refine st_iconst g dX2_isBetter_16 ic_1 ?_
      refine st_goto g dX2_isBetter_17 (tgt := 21) (by decide) ?_
      obtain rfl := Option.some.inj H
      exact st_iret g dX2_isBetter_21 rfl (fun _ => Or.inr rfl) K
theorem c_X2_isBetter (a1 : Int32) (a2 : Int32) (h : Hp) (r : Int32) (H : f_X2_isBetter a1 a2 h = some r) : CtI yX2_isBetter cX2_isBetter 4 .boolean 2 [.ref 44, .int a1, .int a2] h r h :=
  ct_ofI (own := RX2) [.ref 44, .int a1, .int a2, .null] (by decide +kernel) rfl (fun ρ => Nat.le_of_ble_eq_true rfl) (fun ρ => rfl) (fun x g K => t_X2_isBetter g a1 a2 h r H K)
def P_X7_ring_10 (x : Cx) (s : (Int32 × Hp)) : Prop := WA x 10 [.ref 0, .int s.1, .null, .null] [] s.2
def E_X7_ring_10 (x : Cx) : (Int32 × Hp) → Prop := fun s : (Int32 × Hp) => WA x 66 [.ref 0, .null, .null, .null] [] s.2
def b_X7_ring_10 (s : (Int32 × Hp)) : Option ((Int32 × Hp) ⊕ (Int32 × Hp)) :=
  if (s.2.1 1 3) ≤ s.1 then
    some (.inr (s.1, s.2))
  else
    (f_X5_isForgiven 13 s.1 s.2).bind fun r3 =>
    if r3 = 0 then
      (rdI s.2 4 s.1).bind fun v5 =>
      (rdI s.2 52 v5).bind fun v6 =>
      (rdI s.2 5 s.1).bind fun v7 =>
      (wrI s.2 52 v5 (v6 ||| ((1 : Int32) <<< (v7 &&& 31)))).bind fun h8 =>
      some (.inl (s.1 + 1, h8))
    else
      some (.inl (s.1 + 1, s.2))
theorem tb_X7_ring_10 {x : Cx} (g : Gx x RX7 cX7_ring 4 2) (s : (Int32 × Hp)) (out : (Int32 × Hp) ⊕ (Int32 × Hp)) (H : b_X7_ring_10 s = some out) (K : Sum.elim (P_X7_ring_10 x) (E_X7_ring_10 x) out) : P_X7_ring_10 x s := by
  unfold b_X7_ring_10 at H
  show WA x 10 [.ref 0, .int s.1, .null, .null] [] s.2
  refine st_iload_n g dX7_ring_10 rfl ?_
  refine st_aload_n g dX7_ring_11 rfl ?_
  refine gf_X7_10 g dX7_ring_12 rfl (r := 1) rfl ?_
  refine gf_X7_100 g dX7_ring_15 rfl ?_
  refine st_ic_ge g dX7_ring_18 (tgt := 66) (by decide) H (fun q2 H => ?_) (fun q2 H => ?_)
  · obtain rfl := Option.some.inj H
    exact (wa_drop [1] K)
  · refine st_aload_n g dX7_ring_21 rfl ?_
    refine gf_X7_26 g dX7_ring_22 rfl (r := 13) rfl ?_
    refine st_iload_n g dX7_ring_25 rfl ?_
    obtain ⟨r3, hr3, H⟩ := bind_some H
    refine st_callVI g (as := [.int s.1]) dX7_ring_26 rfl rfl ml_X7_197 mf_X5_isForgiven rfl (Nat.le_of_ble_eq_true rfl) (Nat.le_of_ble_eq_true rfl) (c_X5_isForgiven 13 s.1 s.2 _ hr3) (fun hz => ?_)
    have br3 := hz rfl
    refine st_if_ne g dX7_ring_29 (tgt := 60) (by decide) H (fun q4 H => ?_) (fun q4 H => ?_)
    · refine st_iinc g dX7_ring_60 rfl (ii_1 _) (Nat.le_of_ble_eq_true rfl) rfl (ls2 := [.ref 0, .int (s.1 + 1), .null, .null]) rfl ?_
      refine st_goto g dX7_ring_63 (tgt := 10) (by decide) ?_
      obtain rfl := Option.some.inj H
      exact K
    · refine st_aload_n g dX7_ring_32 rfl ?_
      refine gf_X7_82 g dX7_ring_33 rfl (r := 52) rfl ?_
      refine st_aload_n g dX7_ring_36 rfl ?_
      refine gf_X7_10 g dX7_ring_37 rfl (r := 1) rfl ?_
      refine gf_X7_206 g dX7_ring_40 rfl (r := 4) rfl ?_
      refine st_iload_n g dX7_ring_43 rfl ?_
      refine st_iald g dX7_ring_44 H (fun v5 H => ?_)
      refine st_dup2 g dX7_ring_45 rfl rfl ?_
      refine st_iald g dX7_ring_46 H (fun v6 H => ?_)
      refine st_iconst g dX7_ring_47 ic_1 ?_
      refine st_aload_n g dX7_ring_48 rfl ?_
      refine gf_X7_10 g dX7_ring_49 rfl (r := 1) rfl ?_
      refine gf_X7_203 g dX7_ring_52 rfl (r := 5) rfl ?_
      refine st_iload_n g dX7_ring_55 rfl ?_
      refine st_iald g dX7_ring_56 H (fun v7 H => ?_)
      refine st_ishl g dX7_ring_57 ?_
      refine st_ior g dX7_ring_58 ?_
      refine st_iast g dX7_ring_59 H (fun h8 H => ?_)
      refine st_iinc g dX7_ring_60 rfl (ii_1 _) (Nat.le_of_ble_eq_true rfl) rfl (ls2 := [.ref 0, .int (s.1 + 1), .null, .null]) rfl ?_
      refine st_goto g dX7_ring_63 (tgt := 10) (by decide) ?_
      obtain rfl := Option.some.inj H
      exact K
def P_X7_ring_71 (x : Cx) (h : Hp) (s : (Int32 × Int32)) : Prop := WA x 71 [.ref 0, .int s.1, .int s.2, .null] [] h
def E_X7_ring_71 (x : Cx) (h : Hp) : (Int32 × Int32) → Prop := fun s : (Int32 × Int32) => WA x 107 [.null, .int s.1, .null, .null] [] h
def b_X7_ring_71 (h : Hp) (s : (Int32 × Int32)) : Option ((Int32 × Int32) ⊕ (Int32 × Int32)) :=
  if (h.1 1 0) ≤ s.2 then
    some (.inr (s.1, s.2))
  else
    (f_X7_stepsHome s.2 h).bind fun r11 =>
    if r11 = (-2) then
      some (.inl (s.1, s.2 + 1))
    else
      if s.1 ≤ r11 then
        some (.inl (s.1, s.2 + 1))
      else
        some (.inl (r11, s.2 + 1))
theorem tb_X7_ring_71 {x : Cx} (g : Gx x RX7 cX7_ring 4 2) (h : Hp) (s : (Int32 × Int32)) (out : (Int32 × Int32) ⊕ (Int32 × Int32)) (H : b_X7_ring_71 h s = some out) (K : Sum.elim (P_X7_ring_71 x h) (E_X7_ring_71 x h) out) : P_X7_ring_71 x h s := by
  unfold b_X7_ring_71 at H
  show WA x 71 [.ref 0, .int s.1, .int s.2, .null] [] h
  refine st_iload_n g dX7_ring_71 rfl ?_
  refine st_aload_n g dX7_ring_72 rfl ?_
  refine gf_X7_10 g dX7_ring_73 rfl (r := 1) rfl ?_
  refine gf_X7_89 g dX7_ring_76 rfl ?_
  refine st_ic_ge g dX7_ring_79 (tgt := 107) (by decide) H (fun q10 H => ?_) (fun q10 H => ?_)
  · obtain rfl := Option.some.inj H
    exact (wa_drop [0, 2] K)
  · refine st_aload_n g dX7_ring_82 rfl ?_
    refine st_iload_n g dX7_ring_83 rfl ?_
    obtain ⟨r11, hr11, H⟩ := bind_some H
    refine st_callVI g (as := [.int s.2]) dX7_ring_84 rfl rfl ml_X7_227 mf_X7_stepsHome rfl (Nat.le_of_ble_eq_true rfl) (Nat.le_of_ble_eq_true rfl) (c_X7_stepsHome s.2 h _ hr11) (fun hz => ?_)
    refine st_istore_n g dX7_ring_87 (Nat.le_of_ble_eq_true rfl) rfl (ls2 := [.ref 0, .int s.1, .int s.2, .int r11]) rfl ?_
    refine st_iload_n g dX7_ring_88 rfl ?_
    refine st_bipush g dX7_ring_89 bi_m2 ?_
    refine st_ic_eq g dX7_ring_91 (tgt := 101) (by decide) H (fun q12 H => ?_) (fun q12 H => ?_)
    · refine st_iinc g dX7_ring_101 rfl (ii_1 _) (Nat.le_of_ble_eq_true rfl) rfl (ls2 := [.ref 0, .int s.1, .int (s.2 + 1), .int r11]) rfl ?_
      refine st_goto g dX7_ring_104 (tgt := 71) (by decide) ?_
      obtain rfl := Option.some.inj H
      exact (wa_drop [3] K)
    · refine st_iload_n g dX7_ring_94 rfl ?_
      refine st_iload_n g dX7_ring_95 rfl ?_
      refine st_ic_ge g dX7_ring_96 (tgt := 101) (by decide) H (fun q13 H => ?_) (fun q13 H => ?_)
      · refine st_iinc g dX7_ring_101 rfl (ii_1 _) (Nat.le_of_ble_eq_true rfl) rfl (ls2 := [.ref 0, .int s.1, .int (s.2 + 1), .int r11]) rfl ?_
        refine st_goto g dX7_ring_104 (tgt := 71) (by decide) ?_
        obtain rfl := Option.some.inj H
        exact (wa_drop [3] K)
      · refine st_iload_n g dX7_ring_99 rfl ?_
        refine st_istore_n g dX7_ring_100 (Nat.le_of_ble_eq_true rfl) rfl (ls2 := [.ref 0, .int r11, .int s.2, .int r11]) rfl ?_
        refine st_iinc g dX7_ring_101 rfl (ii_1 _) (Nat.le_of_ble_eq_true rfl) rfl (ls2 := [.ref 0, .int r11, .int (s.2 + 1), .int r11]) rfl ?_
        refine st_goto g dX7_ring_104 (tgt := 71) (by decide) ?_
        obtain rfl := Option.some.inj H
        exact (wa_drop [3] K)
def f_X7_ring (h : Hp) : Option (Int32 × Hp) :=
  (f_J7_fill_53178 52 0 h).bind fun r1 =>
  (iter (b_X7_ring_10) FU (0, r1)).bind fun a9 =>
  (iter (b_X7_ring_71 a9.2) FU (11, 0)).bind fun a14 =>
  if a14.1 ≤ 10 then
    some (a14.1, a9.2)
  else
    some ((-2), a9.2)
theorem t_X7_ring {x : Cx} (g : Gx x RX7 cX7_ring 4 2) (h : Hp) (out : (Int32 × Hp)) (H : f_X7_ring h = some out) (K : RtI x .int out.1 out.2) : WA x 0 [.ref 0, .null, .null, .null] [] h := by
  unfold f_X7_ring at H
  refine st_aload_n g dX7_ring_0 rfl ?_
  refine gf_X7_82 g dX7_ring_1 rfl (r := 52) rfl ?_
  refine st_iconst g dX7_ring_4 ic_0 ?_
  obtain ⟨r1, hr1, H⟩ := bind_some H
  refine st_callSV g (as := [.ref 52, .int 0]) dX7_ring_5 ml_X7_221 mf_J7_fill_53178 rfl (Nat.le_of_ble_eq_true rfl) (Nat.le_of_ble_eq_true rfl) (c_J7_fill_53178 52 0 h _ hr1) ?_
  refine st_iconst g dX7_ring_8 ic_0 ?_
  refine st_istore_n g dX7_ring_9 (Nat.le_of_ble_eq_true rfl) rfl (ls2 := [.ref 0, .int 0, .null, .null]) rfl ?_
  show P_X7_ring_10 x (0, r1)
  obtain ⟨a9, ha9, H⟩ := bind_some H
  refine iter_W (P := P_X7_ring_10 x) (E := E_X7_ring_10 x) (fun s9 o9 ho9 hK9 => tb_X7_ring_10 g s9 o9 ho9 hK9) FU _ a9 ha9 ?_
  show WA x 66 [.ref 0, .null, .null, .null] [] a9.2
  refine st_bipush g dX7_ring_66 bi_11 ?_
  refine st_istore_n g dX7_ring_68 (Nat.le_of_ble_eq_true rfl) rfl (ls2 := [.ref 0, .int 11, .null, .null]) rfl ?_
  refine st_iconst g dX7_ring_69 ic_0 ?_
  refine st_istore_n g dX7_ring_70 (Nat.le_of_ble_eq_true rfl) rfl (ls2 := [.ref 0, .int 11, .int 0, .null]) rfl ?_
  show P_X7_ring_71 x a9.2 (11, 0)
  obtain ⟨a14, ha14, H⟩ := bind_some H
  refine iter_W (P := P_X7_ring_71 x a9.2) (E := E_X7_ring_71 x a9.2) (fun s9 o9 ho9 hK9 => tb_X7_ring_71 g a9.2 s9 o9 ho9 hK9) FU _ a14 ha14 ?_
  show WA x 107 [.null, .int a14.1, .null, .null] [] a9.2
  refine st_iload_n g dX7_ring_107 rfl ?_
  refine st_bipush g dX7_ring_108 bi_10 ?_
  refine st_ic_le g dX7_ring_110 (tgt := 118) (by decide) H (fun q15 H => ?_) (fun q15 H => ?_)
  · refine st_iload_n g dX7_ring_118 rfl ?_
    obtain rfl := Option.some.inj H
    exact st_iret g dX7_ring_119 rfl (fun q => by cases q) K
  · refine st_bipush g dX7_ring_113 bi_m2 ?_
    refine st_goto g dX7_ring_115 (tgt := 119) (by decide) ?_
    obtain rfl := Option.some.inj H
    exact st_iret g dX7_ring_119 rfl (fun q => by cases q) K
theorem c_X7_ring (h : Hp) (r : (Int32 × Hp)) (H : f_X7_ring h = some r) : CtI yX7_ring cX7_ring 4 .int 2 [.ref 0] h r.1 r.2 :=
  ct_ofI (own := RX7) [.ref 0, .null, .null, .null] (by decide +kernel) rfl (fun ρ => Nat.le_of_ble_eq_true rfl) (fun ρ => rfl) (fun x g K => t_X7_ring g h r H K)
def P_X7_owes_18 (x : Cx) (a1 : Int32) (h : Hp) (s : (Int32 × Int32)) : Prop := WA x 18 [.ref 0, .int a1, .int s.1, .int s.2] [] h
def E_X7_owes_18 (x : Cx) (a1 : Int32) (h : Hp) : (Int32 × Int32) → Prop := fun s : (Int32 × Int32) => WA x 81 [.null, .null, .int s.1, .null] [] h
def j_X7_owes_59 (a1 : Int32) (h : Hp) (c2 : Int32) (c3 : Int32) : Option ((Int32 × Int32) ⊕ (Int32 × Int32)) :=
  (rdI h 5 c3).bind fun v8 =>
  if v8 = a1 then
    some (.inl (c2 - 1, c3 + 1))
  else
    some (.inl (c2, c3 + 1))
theorem tj_X7_owes_59 {x : Cx} (g : Gx x RX7 cX7_owes 4 2) (a1 : Int32) (h : Hp) (c2 : Int32) (c3 : Int32) (out : (Int32 × Int32) ⊕ (Int32 × Int32)) (H : j_X7_owes_59 a1 h c2 c3 = some out) (K : Sum.elim (P_X7_owes_18 x a1 h) (E_X7_owes_18 x a1 h) out) : WA x 59 [.ref 0, .int a1, .int c2, .int c3] [] h := by
  unfold j_X7_owes_59 at H
  refine st_aload_n g dX7_owes_59 rfl ?_
  refine gf_X7_10 g dX7_owes_60 rfl (r := 1) rfl ?_
  refine gf_X7_203 g dX7_owes_63 rfl (r := 5) rfl ?_
  refine st_iload_n g dX7_owes_66 rfl ?_
  refine st_iald g dX7_owes_67 H (fun v8 H => ?_)
  refine st_iload_n g dX7_owes_68 rfl ?_
  refine st_ic_ne g dX7_owes_69 (tgt := 75) (by decide) H (fun q9 H => ?_) (fun q9 H => ?_)
  · refine st_iinc g dX7_owes_75 rfl (ii_1 _) (Nat.le_of_ble_eq_true rfl) rfl (ls2 := [.ref 0, .int a1, .int c2, .int (c3 + 1)]) rfl ?_
    refine st_goto g dX7_owes_78 (tgt := 18) (by decide) ?_
    obtain rfl := Option.some.inj H
    exact K
  · refine st_iinc g dX7_owes_72 rfl (ii_m1 _) (Nat.le_of_ble_eq_true rfl) rfl (ls2 := [.ref 0, .int a1, .int (c2 - 1), .int c3]) rfl ?_
    refine st_iinc g dX7_owes_75 rfl (ii_1 _) (Nat.le_of_ble_eq_true rfl) rfl (ls2 := [.ref 0, .int a1, .int (c2 - 1), .int (c3 + 1)]) rfl ?_
    refine st_goto g dX7_owes_78 (tgt := 18) (by decide) ?_
    obtain rfl := Option.some.inj H
    exact K
def b_X7_owes_18 (a1 : Int32) (h : Hp) (s : (Int32 × Int32)) : Option ((Int32 × Int32) ⊕ (Int32 × Int32)) :=
  if (h.1 1 3) ≤ s.2 then
    some (.inr (s.1, s.2))
  else
    (f_X5_isForgiven 13 s.2 h).bind fun r4 =>
    if r4 = 0 then
      (rdI h 4 s.2).bind fun v6 =>
      if v6 = a1 then
        j_X7_owes_59 a1 h (s.1 + 1) s.2
      else
        j_X7_owes_59 a1 h s.1 s.2
    else
      some (.inl (s.1, s.2 + 1))
theorem tb_X7_owes_18 {x : Cx} (g : Gx x RX7 cX7_owes 4 2) (a1 : Int32) (h : Hp) (s : (Int32 × Int32)) (out : (Int32 × Int32) ⊕ (Int32 × Int32)) (H : b_X7_owes_18 a1 h s = some out) (K : Sum.elim (P_X7_owes_18 x a1 h) (E_X7_owes_18 x a1 h) out) : P_X7_owes_18 x a1 h s := by
  unfold b_X7_owes_18 at H
  show WA x 18 [.ref 0, .int a1, .int s.1, .int s.2] [] h
  refine st_iload_n g dX7_owes_18 rfl ?_
  refine st_aload_n g dX7_owes_19 rfl ?_
  refine gf_X7_10 g dX7_owes_20 rfl (r := 1) rfl ?_
  refine gf_X7_100 g dX7_owes_23 rfl ?_
  refine st_ic_ge g dX7_owes_26 (tgt := 81) (by decide) H (fun q3 H => ?_) (fun q3 H => ?_)
  · obtain rfl := Option.some.inj H
    exact (wa_drop [0, 1, 3] K)
  · refine st_aload_n g dX7_owes_29 rfl ?_
    refine gf_X7_26 g dX7_owes_30 rfl (r := 13) rfl ?_
    refine st_iload_n g dX7_owes_33 rfl ?_
    obtain ⟨r4, hr4, H⟩ := bind_some H
    refine st_callVI g (as := [.int s.2]) dX7_owes_34 rfl rfl ml_X7_197 mf_X5_isForgiven rfl (Nat.le_of_ble_eq_true rfl) (Nat.le_of_ble_eq_true rfl) (c_X5_isForgiven 13 s.2 h _ hr4) (fun hz => ?_)
    have br4 := hz rfl
    refine st_if_eq g dX7_owes_37 (tgt := 43) (by decide) H (fun q5 H => ?_) (fun q5 H => ?_)
    · refine st_aload_n g dX7_owes_43 rfl ?_
      refine gf_X7_10 g dX7_owes_44 rfl (r := 1) rfl ?_
      refine gf_X7_206 g dX7_owes_47 rfl (r := 4) rfl ?_
      refine st_iload_n g dX7_owes_50 rfl ?_
      refine st_iald g dX7_owes_51 H (fun v6 H => ?_)
      refine st_iload_n g dX7_owes_52 rfl ?_
      refine st_ic_ne g dX7_owes_53 (tgt := 59) (by decide) H (fun q7 H => ?_) (fun q7 H => ?_)
      · exact (tj_X7_owes_59 g a1 h s.1 s.2 _ H K)
      · refine st_iinc g dX7_owes_56 rfl (ii_1 _) (Nat.le_of_ble_eq_true rfl) rfl (ls2 := [.ref 0, .int a1, .int (s.1 + 1), .int s.2]) rfl ?_
        exact (tj_X7_owes_59 g a1 h (s.1 + 1) s.2 _ H K)
    · refine st_goto g dX7_owes_40 (tgt := 75) (by decide) ?_
      refine st_iinc g dX7_owes_75 rfl (ii_1 _) (Nat.le_of_ble_eq_true rfl) rfl (ls2 := [.ref 0, .int a1, .int s.1, .int (s.2 + 1)]) rfl ?_
      refine st_goto g dX7_owes_78 (tgt := 18) (by decide) ?_
      obtain rfl := Option.some.inj H
      exact K
def f_X7_owes (a1 : Int32) (h : Hp) : Option Int32 :=
  (f_X3_isOne a1 h).bind fun r1 =>
  if r1 = 0 then
    some (-2000000000)
  else
    (iter (b_X7_owes_18 a1 h) FU (0, 0)).bind fun a10 =>
    some a10.1
theorem t_X7_owes {x : Cx} (g : Gx x RX7 cX7_owes 4 2) (a1 : Int32) (h : Hp) (out : Int32) (H : f_X7_owes a1 h = some out) (K : RtI x .int out h) : WA x 0 [.ref 0, .int a1, .null, .null] [] h := by
  unfold f_X7_owes at H
  refine st_aload_n g dX7_owes_0 rfl ?_
  refine gf_X7_10 g dX7_owes_1 rfl (r := 1) rfl ?_
  refine st_iload_n g dX7_owes_4 rfl ?_
  obtain ⟨r1, hr1, H⟩ := bind_some H
  refine st_callVI g (as := [.int a1]) dX7_owes_5 rfl rfl ml_X7_230 mf_X3_isOne rfl (Nat.le_of_ble_eq_true rfl) (Nat.le_of_ble_eq_true rfl) (c_X3_isOne a1 h _ hr1) (fun hz => ?_)
  have br1 := hz rfl
  refine st_if_ne g dX7_owes_8 (tgt := 14) (by decide) H (fun q2 H => ?_) (fun q2 H => ?_)
  · refine st_iconst g dX7_owes_14 ic_0 ?_
    refine st_istore_n g dX7_owes_15 (Nat.le_of_ble_eq_true rfl) rfl (ls2 := [.ref 0, .int a1, .int 0, .null]) rfl ?_
    refine st_iconst g dX7_owes_16 ic_0 ?_
    refine st_istore_n g dX7_owes_17 (Nat.le_of_ble_eq_true rfl) rfl (ls2 := [.ref 0, .int a1, .int 0, .int 0]) rfl ?_
    show P_X7_owes_18 x a1 h (0, 0)
    obtain ⟨a10, ha10, H⟩ := bind_some H
    refine iter_W (P := P_X7_owes_18 x a1 h) (E := E_X7_owes_18 x a1 h) (fun s9 o9 ho9 hK9 => tb_X7_owes_18 g a1 h s9 o9 ho9 hK9) FU _ a10 ha10 ?_
    show WA x 81 [.null, .null, .int a10.1, .null] [] h
    refine st_iload_n g dX7_owes_81 rfl ?_
    obtain rfl := Option.some.inj H
    exact st_iret g dX7_owes_82 rfl (fun q => by cases q) K
  · refine st_ldc g dX7_owes_11 kc_X7_127 ?_
    obtain rfl := Option.some.inj H
    exact st_iret g dX7_owes_13 rfl (fun q => by cases q) K
theorem c_X7_owes (a1 : Int32) (h : Hp) (r : Int32) (H : f_X7_owes a1 h = some r) : CtI yX7_owes cX7_owes 4 .int 2 [.ref 0, .int a1] h r h :=
  ct_ofI (own := RX7) [.ref 0, .int a1, .null, .null] (by decide +kernel) rfl (fun ρ => Nat.le_of_ble_eq_true rfl) (fun ρ => rfl) (fun x g K => t_X7_owes g a1 h r H K)
def P_X7_post_22 (x : Cx) (a1 : Int32) (a2 : Int32) (h : Hp) (s : Int32) : Prop := WA x 22 [.ref 0, .int a1, .int a2, .int s] [] h
def E_X7_post_22 (x : Cx) (a1 : Int32) (a2 : Int32) (h : Hp) : Int32 ⊕ Int32 → Prop := Sum.elim (fun s : Int32 => WA x 54 [.null, .null, .null, .null] [] h) (fun r : Int32 => RtI x .int r h)
def b_X7_post_22 (a1 : Int32) (a2 : Int32) (h : Hp) (s : Int32) : Option (Int32 ⊕ (Int32 ⊕ Int32)) :=
  if 12 ≤ s then
    some (.inr (.inl s))
  else
    (rdI h 14 ((a1 + s) % 12)).bind fun v6 =>
    if v6 = a2 then
      some (.inr (.inr s))
    else
      some (.inl (s + 1))
theorem tb_X7_post_22 {x : Cx} (g : Gx x RX7 cX7_post 4 2) (a1 : Int32) (a2 : Int32) (h : Hp) (s : Int32) (out : Int32 ⊕ (Int32 ⊕ Int32)) (H : b_X7_post_22 a1 a2 h s = some out) (K : Sum.elim (P_X7_post_22 x a1 a2 h) (E_X7_post_22 x a1 a2 h) out) : P_X7_post_22 x a1 a2 h s := by
  unfold b_X7_post_22 at H
  show WA x 22 [.ref 0, .int a1, .int a2, .int s] [] h
  refine st_iload_n g dX7_post_22 rfl ?_
  refine st_bipush g dX7_post_23 bi_12 ?_
  refine st_ic_ge g dX7_post_25 (tgt := 54) (by decide) H (fun q5 H => ?_) (fun q5 H => ?_)
  · obtain rfl := Option.some.inj H
    exact (wa_drop [0, 1, 2, 3] K)
  · refine st_aload_n g dX7_post_28 rfl ?_
    refine gf_X7_26 g dX7_post_29 rfl (r := 13) rfl ?_
    refine gf_X7_169 g dX7_post_32 rfl (r := 14) rfl ?_
    refine st_iload_n g dX7_post_35 rfl ?_
    refine st_iload_n g dX7_post_36 rfl ?_
    refine st_iadd g dX7_post_37 ?_
    refine st_bipush g dX7_post_38 bi_12 ?_
    refine st_irem g dX7_post_40 (by decide) ?_
    refine st_iald g dX7_post_41 H (fun v6 H => ?_)
    refine st_iload_n g dX7_post_42 rfl ?_
    refine st_ic_ne g dX7_post_43 (tgt := 48) (by decide) H (fun q7 H => ?_) (fun q7 H => ?_)
    · refine st_iinc g dX7_post_48 rfl (ii_1 _) (Nat.le_of_ble_eq_true rfl) rfl (ls2 := [.ref 0, .int a1, .int a2, .int (s + 1)]) rfl ?_
      refine st_goto g dX7_post_51 (tgt := 22) (by decide) ?_
      obtain rfl := Option.some.inj H
      exact K
    · refine st_iload_n g dX7_post_46 rfl ?_
      obtain rfl := Option.some.inj H
      exact st_iret g dX7_post_47 rfl (fun q => by cases q) K
def f_X7_post (a1 : Int32) (a2 : Int32) (h : Hp) : Option Int32 :=
  (f_X7_isHouse a1).bind fun r1 =>
  if r1 = 0 then
    some (-1)
  else
    if a2 < 0 then
      some (-1)
    else
      if a2 ≤ 999 then
        (iter (b_X7_post_22 a1 a2 h) FU 0).bind (Sum.elim (fun a8 =>
          some (-2)) (fun r => some r))
      else
        some (-1)
theorem t_X7_post {x : Cx} (g : Gx x RX7 cX7_post 4 2) (a1 : Int32) (a2 : Int32) (h : Hp) (out : Int32) (H : f_X7_post a1 a2 h = some out) (K : RtI x .int out h) : WA x 0 [.ref 0, .int a1, .int a2, .null] [] h := by
  unfold f_X7_post at H
  refine st_iload_n g dX7_post_0 rfl ?_
  obtain ⟨r1, hr1, H⟩ := bind_some H
  refine st_callSI g (as := [.int a1]) dX7_post_1 ml_X7_85 mf_X7_isHouse rfl (Nat.le_of_ble_eq_true rfl) (Nat.le_of_ble_eq_true rfl) (c_X7_isHouse a1 h _ hr1) (fun hz => ?_)
  have br1 := hz rfl
  refine st_if_eq g dX7_post_4 (tgt := 18) (by decide) H (fun q2 H => ?_) (fun q2 H => ?_)
  · refine st_iconst g dX7_post_18 ic_m1 ?_
    obtain rfl := Option.some.inj H
    exact st_iret g dX7_post_19 rfl (fun q => by cases q) K
  · refine st_iload_n g dX7_post_7 rfl ?_
    refine st_if_lt g dX7_post_8 (tgt := 18) (by decide) H (fun q3 H => ?_) (fun q3 H => ?_)
    · refine st_iconst g dX7_post_18 ic_m1 ?_
      obtain rfl := Option.some.inj H
      exact st_iret g dX7_post_19 rfl (fun q => by cases q) K
    · refine st_iload_n g dX7_post_11 rfl ?_
      refine st_sipush g dX7_post_12 si_999 ?_
      refine st_ic_le g dX7_post_15 (tgt := 20) (by decide) H (fun q4 H => ?_) (fun q4 H => ?_)
      · refine st_iconst g dX7_post_20 ic_0 ?_
        refine st_istore_n g dX7_post_21 (Nat.le_of_ble_eq_true rfl) rfl (ls2 := [.ref 0, .int a1, .int a2, .int 0]) rfl ?_
        show P_X7_post_22 x a1 a2 h 0
        obtain ⟨a8o, ha8, hca8⟩ := it_R H
        refine iter_W (P := P_X7_post_22 x a1 a2 h) (E := E_X7_post_22 x a1 a2 h) (fun s9 o9 ho9 hK9 => tb_X7_post_22 g a1 a2 h s9 o9 ho9 hK9) FU _ a8o ha8 ?_
        rcases hca8 with ⟨a8, rfl, H⟩ | ⟨r, rfl, H⟩
        · show WA x 54 [.null, .null, .null, .null] [] h
          refine st_bipush g dX7_post_54 bi_m2 ?_
          obtain rfl := Option.some.inj H
          exact st_iret g dX7_post_56 rfl (fun q => by cases q) K
        · obtain rfl := Option.some.inj H
          exact K
      · refine st_iconst g dX7_post_18 ic_m1 ?_
        obtain rfl := Option.some.inj H
        exact st_iret g dX7_post_19 rfl (fun q => by cases q) K
theorem c_X7_post (a1 : Int32) (a2 : Int32) (h : Hp) (r : Int32) (H : f_X7_post a1 a2 h = some r) : CtI yX7_post cX7_post 4 .int 2 [.ref 0, .int a1, .int a2] h r h :=
  ct_ofI (own := RX7) [.ref 0, .int a1, .int a2, .null] (by decide +kernel) rfl (fun ρ => Nat.le_of_ble_eq_true rfl) (fun ρ => rfl) (fun x g K => t_X7_post g a1 a2 h r H K)
def P_X7_nearestFree_10 (x : Cx) (a1 : Int32) (a2 : Int32) (h : Hp) (s : (Int32 × Int32 × Int32)) : Prop := WA x 10 [.ref 0, .int a1, .int a2, .int s.1, .int s.2.1, .int s.2.2, .null] [] h
def E_X7_nearestFree_10 (x : Cx) (a1 : Int32) (a2 : Int32) (h : Hp) : (Int32 × Int32 × Int32) → Prop := fun s : (Int32 × Int32 × Int32) => WA x 63 [.null, .null, .null, .int s.1, .null, .null, .null] [] h
def b_X7_nearestFree_10 (a1 : Int32) (a2 : Int32) (h : Hp) (s : (Int32 × Int32 × Int32)) : Option ((Int32 × Int32 × Int32) ⊕ (Int32 × Int32 × Int32)) :=
  if 12 ≤ s.2.2 then
    some (.inr (s.1, s.2.1, s.2.2))
  else
    (rdI h 14 s.2.2).bind fun v2 =>
    if ((a2 >>> (s.2.2 &&& 31)) &&& 1) = 0 then
      if s.2.1 ≤ (abI (v2 - a1)) then
        some (.inl (s.1, s.2.1, s.2.2 + 1))
      else
        some (.inl (s.2.2, abI (v2 - a1), s.2.2 + 1))
    else
      some (.inl (s.1, s.2.1, s.2.2 + 1))
theorem tb_X7_nearestFree_10 {x : Cx} (g : Gx x RX7 cX7_nearestFree 7 2) (a1 : Int32) (a2 : Int32) (h : Hp) (s : (Int32 × Int32 × Int32)) (out : (Int32 × Int32 × Int32) ⊕ (Int32 × Int32 × Int32)) (H : b_X7_nearestFree_10 a1 a2 h s = some out) (K : Sum.elim (P_X7_nearestFree_10 x a1 a2 h) (E_X7_nearestFree_10 x a1 a2 h) out) : P_X7_nearestFree_10 x a1 a2 h s := by
  unfold b_X7_nearestFree_10 at H
  show WA x 10 [.ref 0, .int a1, .int a2, .int s.1, .int s.2.1, .int s.2.2, .null] [] h
  refine st_iload g dX7_nearestFree_10 rfl ?_
  refine st_bipush g dX7_nearestFree_12 bi_12 ?_
  refine st_ic_ge g dX7_nearestFree_14 (tgt := 63) (by decide) H (fun q1 H => ?_) (fun q1 H => ?_)
  · obtain rfl := Option.some.inj H
    exact (wa_drop [0, 1, 2, 4, 5] K)
  · refine st_aload_n g dX7_nearestFree_17 rfl ?_
    refine gf_X7_26 g dX7_nearestFree_18 rfl (r := 13) rfl ?_
    refine gf_X7_169 g dX7_nearestFree_21 rfl (r := 14) rfl ?_
    refine st_iload g dX7_nearestFree_24 rfl ?_
    refine st_iald g dX7_nearestFree_26 H (fun v2 H => ?_)
    refine st_iload_n g dX7_nearestFree_27 rfl ?_
    refine st_isub g dX7_nearestFree_28 ?_
    refine st_abs g dX7_nearestFree_29 ml_X7_414 (Nat.le_of_ble_eq_true rfl) (Nat.le_of_ble_eq_true rfl) ?_
    refine st_istore g dX7_nearestFree_32 (Nat.le_of_ble_eq_true rfl) rfl (ls2 := [.ref 0, .int a1, .int a2, .int s.1, .int s.2.1, .int s.2.2, .int (abI (v2 - a1))]) rfl ?_
    refine st_iload_n g dX7_nearestFree_34 rfl ?_
    refine st_iload g dX7_nearestFree_35 rfl ?_
    refine st_ishr g dX7_nearestFree_37 ?_
    refine st_iconst g dX7_nearestFree_38 ic_1 ?_
    refine st_iand g dX7_nearestFree_39 ?_
    refine st_if_ne g dX7_nearestFree_40 (tgt := 57) (by decide) H (fun q3 H => ?_) (fun q3 H => ?_)
    · refine st_iinc g dX7_nearestFree_57 rfl (ii_1 _) (Nat.le_of_ble_eq_true rfl) rfl (ls2 := [.ref 0, .int a1, .int a2, .int s.1, .int s.2.1, .int (s.2.2 + 1), .int (abI (v2 - a1))]) rfl ?_
      refine st_goto g dX7_nearestFree_60 (tgt := 10) (by decide) ?_
      obtain rfl := Option.some.inj H
      exact (wa_drop [6] K)
    · refine st_iload g dX7_nearestFree_43 rfl ?_
      refine st_iload g dX7_nearestFree_45 rfl ?_
      refine st_ic_ge g dX7_nearestFree_47 (tgt := 57) (by decide) H (fun q4 H => ?_) (fun q4 H => ?_)
      · refine st_iinc g dX7_nearestFree_57 rfl (ii_1 _) (Nat.le_of_ble_eq_true rfl) rfl (ls2 := [.ref 0, .int a1, .int a2, .int s.1, .int s.2.1, .int (s.2.2 + 1), .int (abI (v2 - a1))]) rfl ?_
        refine st_goto g dX7_nearestFree_60 (tgt := 10) (by decide) ?_
        obtain rfl := Option.some.inj H
        exact (wa_drop [6] K)
      · refine st_iload g dX7_nearestFree_50 rfl ?_
        refine st_istore_n g dX7_nearestFree_52 (Nat.le_of_ble_eq_true rfl) rfl (ls2 := [.ref 0, .int a1, .int a2, .int s.2.2, .int s.2.1, .int s.2.2, .int (abI (v2 - a1))]) rfl ?_
        refine st_iload g dX7_nearestFree_53 rfl ?_
        refine st_istore g dX7_nearestFree_55 (Nat.le_of_ble_eq_true rfl) rfl (ls2 := [.ref 0, .int a1, .int a2, .int s.2.2, .int (abI (v2 - a1)), .int s.2.2, .int (abI (v2 - a1))]) rfl ?_
        refine st_iinc g dX7_nearestFree_57 rfl (ii_1 _) (Nat.le_of_ble_eq_true rfl) rfl (ls2 := [.ref 0, .int a1, .int a2, .int s.2.2, .int (abI (v2 - a1)), .int (s.2.2 + 1), .int (abI (v2 - a1))]) rfl ?_
        refine st_goto g dX7_nearestFree_60 (tgt := 10) (by decide) ?_
        obtain rfl := Option.some.inj H
        exact (wa_drop [6] K)
def f_X7_nearestFree (a1 : Int32) (a2 : Int32) (h : Hp) : Option Int32 :=
  (iter (b_X7_nearestFree_10 a1 a2 h) FU (0, 1000, 0)).bind fun a5 =>
  some a5.1
theorem t_X7_nearestFree {x : Cx} (g : Gx x RX7 cX7_nearestFree 7 2) (a1 : Int32) (a2 : Int32) (h : Hp) (out : Int32) (H : f_X7_nearestFree a1 a2 h = some out) (K : RtI x .int out h) : WA x 0 [.ref 0, .int a1, .int a2, .null, .null, .null, .null] [] h := by
  unfold f_X7_nearestFree at H
  refine st_iconst g dX7_nearestFree_0 ic_0 ?_
  refine st_istore_n g dX7_nearestFree_1 (Nat.le_of_ble_eq_true rfl) rfl (ls2 := [.ref 0, .int a1, .int a2, .int 0, .null, .null, .null]) rfl ?_
  refine st_sipush g dX7_nearestFree_2 si_1000 ?_
  refine st_istore g dX7_nearestFree_5 (Nat.le_of_ble_eq_true rfl) rfl (ls2 := [.ref 0, .int a1, .int a2, .int 0, .int 1000, .null, .null]) rfl ?_
  refine st_iconst g dX7_nearestFree_7 ic_0 ?_
  refine st_istore g dX7_nearestFree_8 (Nat.le_of_ble_eq_true rfl) rfl (ls2 := [.ref 0, .int a1, .int a2, .int 0, .int 1000, .int 0, .null]) rfl ?_
  show P_X7_nearestFree_10 x a1 a2 h (0, 1000, 0)
  obtain ⟨a5, ha5, H⟩ := bind_some H
  refine iter_W (P := P_X7_nearestFree_10 x a1 a2 h) (E := E_X7_nearestFree_10 x a1 a2 h) (fun s9 o9 ho9 hK9 => tb_X7_nearestFree_10 g a1 a2 h s9 o9 ho9 hK9) FU _ a5 ha5 ?_
  show WA x 63 [.null, .null, .null, .int a5.1, .null, .null, .null] [] h
  refine st_iload_n g dX7_nearestFree_63 rfl ?_
  obtain rfl := Option.some.inj H
  exact st_iret g dX7_nearestFree_64 rfl (fun q => by cases q) K
theorem c_X7_nearestFree (a1 : Int32) (a2 : Int32) (h : Hp) (r : Int32) (H : f_X7_nearestFree a1 a2 h = some r) : CtI yX7_nearestFree cX7_nearestFree 7 .int 2 [.ref 0, .int a1, .int a2] h r h :=
  ct_ofI (own := RX7) [.ref 0, .int a1, .int a2, .null, .null, .null, .null] (by decide +kernel) rfl (fun ρ => Nat.le_of_ble_eq_true rfl) (fun ρ => rfl) (fun x g K => t_X7_nearestFree g a1 a2 h r H K)
def f_X7_areShelves (a1 : Int32) : Option Int32 :=
  if a1 < 0 then
    some 0
  else
    (f_X6_isShelf (a1 / 10)).bind fun r2 =>
    if r2 = 0 then
      some 0
    else
      (f_X6_isShelf (a1 % 10)).bind fun r4 =>
      if r4 = 0 then
        some 0
      else
        some 1
theorem t_X7_areShelves {x : Cx} (g : Gx x RX7 cX7_areShelves 2 2) (a1 : Int32) (h : Hp) (out : Int32) (H : f_X7_areShelves a1 = some out) (K : RtI x .boolean out h) : WA x 0 [.ref 0, .int a1] [] h := by
  unfold f_X7_areShelves at H
  refine st_iload_n g dX7_areShelves_0 rfl ?_
  refine st_if_lt g dX7_areShelves_1 (tgt := 36) (by decide) H (fun q1 H => ?_) (fun q1 H => ?_)
  · refine st_iconst g dX7_areShelves_36 ic_0 ?_
    obtain rfl := Option.some.inj H
    exact st_iret g dX7_areShelves_37 rfl (fun _ => Or.inl rfl) K
  · refine st_aload_n g dX7_areShelves_4 rfl ?_
    refine gf_X7_54 g dX7_areShelves_5 rfl (r := 30) rfl ?_
    refine st_iload_n g dX7_areShelves_8 rfl ?_
    refine st_bipush g dX7_areShelves_9 bi_10 ?_
    refine st_idiv g dX7_areShelves_11 (by decide) ?_
    obtain ⟨r2, hr2, H⟩ := bind_some H
    refine st_callVI g (as := [.int (a1 / 10)]) dX7_areShelves_12 rfl rfl ml_X7_107 mf_X6_isShelf rfl (Nat.le_of_ble_eq_true rfl) (Nat.le_of_ble_eq_true rfl) (c_X6_isShelf (a1 / 10) h _ hr2) (fun hz => ?_)
    have br2 := hz rfl
    refine st_if_eq g dX7_areShelves_15 (tgt := 36) (by decide) H (fun q3 H => ?_) (fun q3 H => ?_)
    · refine st_iconst g dX7_areShelves_36 ic_0 ?_
      obtain rfl := Option.some.inj H
      exact st_iret g dX7_areShelves_37 rfl (fun _ => Or.inl rfl) K
    · refine st_aload_n g dX7_areShelves_18 rfl ?_
      refine gf_X7_54 g dX7_areShelves_19 rfl (r := 30) rfl ?_
      refine st_iload_n g dX7_areShelves_22 rfl ?_
      refine st_bipush g dX7_areShelves_23 bi_10 ?_
      refine st_irem g dX7_areShelves_25 (by decide) ?_
      obtain ⟨r4, hr4, H⟩ := bind_some H
      refine st_callVI g (as := [.int (a1 % 10)]) dX7_areShelves_26 rfl rfl ml_X7_107 mf_X6_isShelf rfl (Nat.le_of_ble_eq_true rfl) (Nat.le_of_ble_eq_true rfl) (c_X6_isShelf (a1 % 10) h _ hr4) (fun hz => ?_)
      have br4 := hz rfl
      refine st_if_eq g dX7_areShelves_29 (tgt := 36) (by decide) H (fun q5 H => ?_) (fun q5 H => ?_)
      · refine st_iconst g dX7_areShelves_36 ic_0 ?_
        obtain rfl := Option.some.inj H
        exact st_iret g dX7_areShelves_37 rfl (fun _ => Or.inl rfl) K
      · refine st_iconst g dX7_areShelves_32 ic_1 ?_
        refine st_goto g dX7_areShelves_33 (tgt := 37) (by decide) ?_
        obtain rfl := Option.some.inj H
        exact st_iret g dX7_areShelves_37 rfl (fun _ => Or.inr rfl) K
theorem c_X7_areShelves (a1 : Int32) (h : Hp) (r : Int32) (H : f_X7_areShelves a1 = some r) : CtI yX7_areShelves cX7_areShelves 2 .boolean 2 [.ref 0, .int a1] h r h :=
  ct_ofI (own := RX7) [.ref 0, .int a1] (by decide +kernel) rfl (fun ρ => Nat.le_of_ble_eq_true rfl) (fun ρ => rfl) (fun x g K => t_X7_areShelves g a1 h r H K)
def f_X5_doAgain (o : Nat) (a1 : Int32) (h : Hp) : Option Hp :=
  if sh o = (0, 5) then
    (f_X5_setForgiven o a1 0 h).bind fun r1 =>
    (wrI r1 (pf o 1) a1 (r1.1 o 4)).bind fun h2 =>
    some h2
  else none
theorem t_X5_doAgain {x : Cx} (g : Gx x RX5 cX5_doAgain 2 2) (o : Nat) (a1 : Int32) (h : Hp) (out : Hp) (H : f_X5_doAgain o a1 h = some out) (K : RtV x out) : WA x 0 [.ref o, .int a1] [] h := by
  unfold f_X5_doAgain at H
  obtain ⟨hgo, H⟩ := gd_some H
  refine st_aload_n g dX5_doAgain_0 rfl ?_
  refine st_iload_n g dX5_doAgain_1 rfl ?_
  refine st_iconst g dX5_doAgain_2 ic_0 ?_
  obtain ⟨r1, hr1, H⟩ := bind_some H
  refine st_callVV g (as := [.int a1, .int 0]) dX5_doAgain_3 hgo rfl ml_X5_38 mf_X5_setForgiven rfl (Nat.le_of_ble_eq_true rfl) (Nat.le_of_ble_eq_true rfl) (c_X5_setForgiven o a1 0 h _ hr1) ?_
  refine st_aload_n g dX5_doAgain_6 rfl ?_
  refine gf_X5_15 g dX5_doAgain_7 hgo (r := pf o 1) rfl ?_
  refine st_iload_n g dX5_doAgain_10 rfl ?_
  refine st_aload_n g dX5_doAgain_11 rfl ?_
  refine gf_X5_25 g dX5_doAgain_12 hgo ?_
  refine st_iast g dX5_doAgain_15 H (fun h2 H => ?_)
  obtain rfl := Option.some.inj H
  exact st_vret g dX5_doAgain_16 K
theorem c_X5_doAgain (o : Nat) (a1 : Int32) (h : Hp) (r : Hp) (H : f_X5_doAgain o a1 h = some r) : CtV yX5_doAgain cX5_doAgain 2 2 [.ref o, .int a1] h r :=
  ct_ofV (own := RX5) [.ref o, .int a1] (by decide +kernel) rfl (fun ρ => Nat.le_of_ble_eq_true rfl) (fun ρ => rfl) (fun x g K => t_X5_doAgain g o a1 h r H K)
def f_X5_pass (o : Nat) (a1 : Int32) (h : Hp) : Option Hp :=
  if sh o = (0, 5) then
    lt (stI h o 4 (mnI 99 ((h.1 o 4) + a1))) fun h1 =>
    some h1
  else none
theorem t_X5_pass {x : Cx} (g : Gx x RX5 cX5_pass 2 2) (o : Nat) (a1 : Int32) (h : Hp) (out : Hp) (H : f_X5_pass o a1 h = some out) (K : RtV x out) : WA x 0 [.ref o, .int a1] [] h := by
  unfold f_X5_pass at H
  obtain ⟨hgo, H⟩ := gd_some H
  refine st_aload_n g dX5_pass_0 rfl ?_
  refine st_bipush g dX5_pass_1 bi_99 ?_
  refine st_aload_n g dX5_pass_3 rfl ?_
  refine gf_X5_25 g dX5_pass_4 hgo ?_
  refine st_iload_n g dX5_pass_7 rfl ?_
  refine st_iadd g dX5_pass_8 ?_
  refine st_min g dX5_pass_9 ml_X5_42 (Nat.le_of_ble_eq_true rfl) (Nat.le_of_ble_eq_true rfl) ?_
  refine pu_X5_25 g dX5_pass_12 hgo ?_
  refine wa_ltH H (fun h1 H => ?_)
  obtain rfl := Option.some.inj H
  exact st_vret g dX5_pass_15 K
theorem c_X5_pass (o : Nat) (a1 : Int32) (h : Hp) (r : Hp) (H : f_X5_pass o a1 h = some r) : CtV yX5_pass cX5_pass 2 2 [.ref o, .int a1] h r :=
  ct_ofV (own := RX5) [.ref o, .int a1] (by decide +kernel) rfl (fun ρ => Nat.le_of_ble_eq_true rfl) (fun ρ => rfl) (fun x g K => t_X5_pass g o a1 h r H K)
def f_X7_slam (a1 : Int32) (h : Hp) : Option (Int32 × Hp) :=
  (f_X7_isHouse a1).bind fun r1 =>
  if r1 = 0 then
    some ((-1), h)
  else
    (rdI h 14 a1).bind fun v3 =>
    (wrI h 14 a1 (mxI 0 (v3 - 1))).bind fun h4 =>
    (rdI h4 16 5).bind fun v5 =>
    (wrI h4 16 5 (v5 + 1)).bind fun h6 =>
    (rdI h6 14 a1).bind fun v7 =>
    some (v7, h6)
theorem t_X7_slam {x : Cx} (g : Gx x RX7 cX7_slam 2 2) (a1 : Int32) (h : Hp) (out : (Int32 × Hp)) (H : f_X7_slam a1 h = some out) (K : RtI x .int out.1 out.2) : WA x 0 [.ref 0, .int a1] [] h := by
  unfold f_X7_slam at H
  refine st_iload_n g dX7_slam_0 rfl ?_
  obtain ⟨r1, hr1, H⟩ := bind_some H
  refine st_callSI g (as := [.int a1]) dX7_slam_1 ml_X7_85 mf_X7_isHouse rfl (Nat.le_of_ble_eq_true rfl) (Nat.le_of_ble_eq_true rfl) (c_X7_isHouse a1 h _ hr1) (fun hz => ?_)
  have br1 := hz rfl
  refine st_if_ne g dX7_slam_4 (tgt := 9) (by decide) H (fun q2 H => ?_) (fun q2 H => ?_)
  · refine st_aload_n g dX7_slam_9 rfl ?_
    refine gf_X7_26 g dX7_slam_10 rfl (r := 13) rfl ?_
    refine gf_X7_169 g dX7_slam_13 rfl (r := 14) rfl ?_
    refine st_iload_n g dX7_slam_16 rfl ?_
    refine st_iconst g dX7_slam_17 ic_0 ?_
    refine st_aload_n g dX7_slam_18 rfl ?_
    refine gf_X7_26 g dX7_slam_19 rfl (r := 13) rfl ?_
    refine gf_X7_169 g dX7_slam_22 rfl (r := 14) rfl ?_
    refine st_iload_n g dX7_slam_25 rfl ?_
    refine st_iald g dX7_slam_26 H (fun v3 H => ?_)
    refine st_iconst g dX7_slam_27 ic_1 ?_
    refine st_isub g dX7_slam_28 ?_
    refine st_max g dX7_slam_29 ml_X7_275 (Nat.le_of_ble_eq_true rfl) (Nat.le_of_ble_eq_true rfl) ?_
    refine st_iast g dX7_slam_32 H (fun h4 H => ?_)
    refine st_aload_n g dX7_slam_33 rfl ?_
    refine gf_X7_26 g dX7_slam_34 rfl (r := 13) rfl ?_
    refine gf_X7_260 g dX7_slam_37 rfl (r := 16) rfl ?_
    refine st_iconst g dX7_slam_40 ic_5 ?_
    refine st_dup2 g dX7_slam_41 rfl rfl ?_
    refine st_iald g dX7_slam_42 H (fun v5 H => ?_)
    refine st_iconst g dX7_slam_43 ic_1 ?_
    refine st_iadd g dX7_slam_44 ?_
    refine st_iast g dX7_slam_45 H (fun h6 H => ?_)
    refine st_aload_n g dX7_slam_46 rfl ?_
    refine gf_X7_26 g dX7_slam_47 rfl (r := 13) rfl ?_
    refine gf_X7_169 g dX7_slam_50 rfl (r := 14) rfl ?_
    refine st_iload_n g dX7_slam_53 rfl ?_
    refine st_iald g dX7_slam_54 H (fun v7 H => ?_)
    obtain rfl := Option.some.inj H
    exact st_iret g dX7_slam_55 rfl (fun q => by cases q) K
  · refine st_iconst g dX7_slam_7 ic_m1 ?_
    obtain rfl := Option.some.inj H
    exact st_iret g dX7_slam_8 rfl (fun q => by cases q) K
theorem c_X7_slam (a1 : Int32) (h : Hp) (r : (Int32 × Hp)) (H : f_X7_slam a1 h = some r) : CtI yX7_slam cX7_slam 2 .int 2 [.ref 0, .int a1] h r.1 r.2 :=
  ct_ofI (own := RX7) [.ref 0, .int a1] (by decide +kernel) rfl (fun ρ => Nat.le_of_ble_eq_true rfl) (fun ρ => rfl) (fun x g K => t_X7_slam g a1 h r H K)
def f_X7_body (a1 : Int32) (h : Hp) : Option (Int32 × Hp) :=
  (f_X1_isKind a1).bind fun r1 =>
  if r1 = 0 then
    some ((-1), h)
  else
    (f_X1_add a1 h).bind fun r3 =>
    some (r3.1, r3.2)
theorem t_X7_body {x : Cx} (g : Gx x RX7 cX7_body 2 2) (a1 : Int32) (h : Hp) (out : (Int32 × Hp)) (H : f_X7_body a1 h = some out) (K : RtI x .int out.1 out.2) : WA x 0 [.ref 0, .int a1] [] h := by
  unfold f_X7_body at H
  refine st_aload_n g dX7_body_0 rfl ?_
  refine gf_X7_61 g dX7_body_1 rfl (r := 41) rfl ?_
  refine st_iload_n g dX7_body_4 rfl ?_
  obtain ⟨r1, hr1, H⟩ := bind_some H
  refine st_callVI g (as := [.int a1]) dX7_body_5 rfl rfl ml_X7_313 mf_X1_isKind rfl (Nat.le_of_ble_eq_true rfl) (Nat.le_of_ble_eq_true rfl) (c_X1_isKind a1 h _ hr1) (fun hz => ?_)
  have br1 := hz rfl
  refine st_if_ne g dX7_body_8 (tgt := 13) (by decide) H (fun q2 H => ?_) (fun q2 H => ?_)
  · refine st_aload_n g dX7_body_13 rfl ?_
    refine gf_X7_61 g dX7_body_14 rfl (r := 41) rfl ?_
    refine st_iload_n g dX7_body_17 rfl ?_
    obtain ⟨r3, hr3, H⟩ := bind_some H
    refine st_callVI g (as := [.int a1]) dX7_body_18 rfl rfl ml_X7_316 mf_X1_add rfl (Nat.le_of_ble_eq_true rfl) (Nat.le_of_ble_eq_true rfl) (c_X1_add a1 h _ hr3) (fun hz => ?_)
    obtain rfl := Option.some.inj H
    exact st_iret g dX7_body_21 rfl (fun q => by cases q) K
  · refine st_iconst g dX7_body_11 ic_m1 ?_
    obtain rfl := Option.some.inj H
    exact st_iret g dX7_body_12 rfl (fun q => by cases q) K
theorem c_X7_body (a1 : Int32) (h : Hp) (r : (Int32 × Hp)) (H : f_X7_body a1 h = some r) : CtI yX7_body cX7_body 2 .int 2 [.ref 0, .int a1] h r.1 r.2 :=
  ct_ofI (own := RX7) [.ref 0, .int a1] (by decide +kernel) rfl (fun ρ => Nat.le_of_ble_eq_true rfl) (fun ρ => rfl) (fun x g K => t_X7_body g a1 h r H K)
def f_X7_trace (a1 : Int32) (h : Hp) : Option Int32 :=
  (f_X1_ranAs a1 h).bind fun r1 =>
  some r1
theorem t_X7_trace {x : Cx} (g : Gx x RX7 cX7_trace 2 2) (a1 : Int32) (h : Hp) (out : Int32) (H : f_X7_trace a1 h = some out) (K : RtI x .int out h) : WA x 0 [.ref 0, .int a1] [] h := by
  unfold f_X7_trace at H
  refine st_aload_n g dX7_trace_0 rfl ?_
  refine gf_X7_61 g dX7_trace_1 rfl (r := 41) rfl ?_
  refine st_iload_n g dX7_trace_4 rfl ?_
  obtain ⟨r1, hr1, H⟩ := bind_some H
  refine st_callVI g (as := [.int a1]) dX7_trace_5 rfl rfl ml_X7_322 mf_X1_ranAs rfl (Nat.le_of_ble_eq_true rfl) (Nat.le_of_ble_eq_true rfl) (c_X1_ranAs a1 h _ hr1) (fun hz => ?_)
  obtain rfl := Option.some.inj H
  exact st_iret g dX7_trace_8 rfl (fun q => by cases q) K
theorem c_X7_trace (a1 : Int32) (h : Hp) (r : Int32) (H : f_X7_trace a1 h = some r) : CtI yX7_trace cX7_trace 2 .int 2 [.ref 0, .int a1] h r h :=
  ct_ofI (own := RX7) [.ref 0, .int a1] (by decide +kernel) rfl (fun ρ => Nat.le_of_ble_eq_true rfl) (fun ρ => rfl) (fun x g K => t_X7_trace g a1 h r H K)
def f_X7_keep (a1 : Int32) (a2 : Int32) (h : Hp) : Option (Int32 × Hp) :=
  (f_X6_isShelf a1).bind fun r1 =>
  if r1 = 0 then
    some ((-1), h)
  else
    if a2 = (-1) then
      (f_X6_setEmpty a1 h).bind fun r7 =>
      some (1, r7)
    else
      (f_X1_isBody a2 h).bind fun r4 =>
      if r4 = 0 then
        some ((-1), h)
      else
        (f_X6_setDoor a1 a2 h).bind fun r6 =>
        some (1, r6)
theorem t_X7_keep {x : Cx} (g : Gx x RX7 cX7_keep 3 2) (a1 : Int32) (a2 : Int32) (h : Hp) (out : (Int32 × Hp)) (H : f_X7_keep a1 a2 h = some out) (K : RtI x .int out.1 out.2) : WA x 0 [.ref 0, .int a1, .int a2] [] h := by
  unfold f_X7_keep at H
  refine st_aload_n g dX7_keep_0 rfl ?_
  refine gf_X7_54 g dX7_keep_1 rfl (r := 30) rfl ?_
  refine st_iload_n g dX7_keep_4 rfl ?_
  obtain ⟨r1, hr1, H⟩ := bind_some H
  refine st_callVI g (as := [.int a1]) dX7_keep_5 rfl rfl ml_X7_107 mf_X6_isShelf rfl (Nat.le_of_ble_eq_true rfl) (Nat.le_of_ble_eq_true rfl) (c_X6_isShelf a1 h _ hr1) (fun hz => ?_)
  have br1 := hz rfl
  refine st_if_ne g dX7_keep_8 (tgt := 13) (by decide) H (fun q2 H => ?_) (fun q2 H => ?_)
  · refine st_iload_n g dX7_keep_13 rfl ?_
    refine st_iconst g dX7_keep_14 ic_m1 ?_
    refine st_ic_ne g dX7_keep_15 (tgt := 28) (by decide) H (fun q3 H => ?_) (fun q3 H => ?_)
    · refine st_aload_n g dX7_keep_28 rfl ?_
      refine gf_X7_61 g dX7_keep_29 rfl (r := 41) rfl ?_
      refine st_iload_n g dX7_keep_32 rfl ?_
      obtain ⟨r4, hr4, H⟩ := bind_some H
      refine st_callVI g (as := [.int a2]) dX7_keep_33 rfl rfl ml_X7_328 mf_X1_isBody rfl (Nat.le_of_ble_eq_true rfl) (Nat.le_of_ble_eq_true rfl) (c_X1_isBody a2 h _ hr4) (fun hz => ?_)
      have br4 := hz rfl
      refine st_if_ne g dX7_keep_36 (tgt := 41) (by decide) H (fun q5 H => ?_) (fun q5 H => ?_)
      · refine st_aload_n g dX7_keep_41 rfl ?_
        refine gf_X7_54 g dX7_keep_42 rfl (r := 30) rfl ?_
        refine st_iload_n g dX7_keep_45 rfl ?_
        refine st_iload_n g dX7_keep_46 rfl ?_
        obtain ⟨r6, hr6, H⟩ := bind_some H
        refine st_callVV g (as := [.int a1, .int a2]) dX7_keep_47 rfl rfl ml_X7_331 mf_X6_setDoor rfl (Nat.le_of_ble_eq_true rfl) (Nat.le_of_ble_eq_true rfl) (c_X6_setDoor a1 a2 h _ hr6) ?_
        refine st_iconst g dX7_keep_50 ic_1 ?_
        obtain rfl := Option.some.inj H
        exact st_iret g dX7_keep_51 rfl (fun q => by cases q) K
      · refine st_iconst g dX7_keep_39 ic_m1 ?_
        obtain rfl := Option.some.inj H
        exact st_iret g dX7_keep_40 rfl (fun q => by cases q) K
    · refine st_aload_n g dX7_keep_18 rfl ?_
      refine gf_X7_54 g dX7_keep_19 rfl (r := 30) rfl ?_
      refine st_iload_n g dX7_keep_22 rfl ?_
      obtain ⟨r7, hr7, H⟩ := bind_some H
      refine st_callVV g (as := [.int a1]) dX7_keep_23 rfl rfl ml_X7_325 mf_X6_setEmpty rfl (Nat.le_of_ble_eq_true rfl) (Nat.le_of_ble_eq_true rfl) (c_X6_setEmpty a1 h _ hr7) ?_
      refine st_iconst g dX7_keep_26 ic_1 ?_
      obtain rfl := Option.some.inj H
      exact st_iret g dX7_keep_27 rfl (fun q => by cases q) K
  · refine st_iconst g dX7_keep_11 ic_m1 ?_
    obtain rfl := Option.some.inj H
    exact st_iret g dX7_keep_12 rfl (fun q => by cases q) K
theorem c_X7_keep (a1 : Int32) (a2 : Int32) (h : Hp) (r : (Int32 × Hp)) (H : f_X7_keep a1 a2 h = some r) : CtI yX7_keep cX7_keep 3 .int 2 [.ref 0, .int a1, .int a2] h r.1 r.2 :=
  ct_ofI (own := RX7) [.ref 0, .int a1, .int a2] (by decide +kernel) rfl (fun ρ => Nat.le_of_ble_eq_true rfl) (fun ρ => rfl) (fun x g K => t_X7_keep g a1 a2 h r H K)
def f_X6_setRow (a1 : Int32) (a2 : Int32) (a3 : Int32) (h : Hp) : Option Hp :=
  (wrI h 39 a1 a2).bind fun h1 =>
  (wrI h1 38 a1 a3).bind fun h2 =>
  (rdR 31 a1).bind fun v3 =>
  (f_J7_fill_d0a16 v3 0 h2).bind fun r4 =>
  some r4
theorem t_X6_setRow {x : Cx} (g : Gx x RX6 cX6_setRow 4 2) (a1 : Int32) (a2 : Int32) (a3 : Int32) (h : Hp) (out : Hp) (H : f_X6_setRow a1 a2 a3 h = some out) (K : RtV x out) : WA x 0 [.ref 30, .int a1, .int a2, .int a3] [] h := by
  unfold f_X6_setRow at H
  refine st_aload_n g dX6_setRow_0 rfl ?_
  refine gf_X6_20 g dX6_setRow_1 rfl (r := 39) rfl ?_
  refine st_iload_n g dX6_setRow_4 rfl ?_
  refine st_iload_n g dX6_setRow_5 rfl ?_
  refine st_iast g dX6_setRow_6 H (fun h1 H => ?_)
  refine st_aload_n g dX6_setRow_7 rfl ?_
  refine gf_X6_16 g dX6_setRow_8 rfl (r := 38) rfl ?_
  refine st_iload_n g dX6_setRow_11 rfl ?_
  refine st_iload_n g dX6_setRow_12 rfl ?_
  refine st_iast g dX6_setRow_13 H (fun h2 H => ?_)
  refine st_aload_n g dX6_setRow_14 rfl ?_
  refine gf_X6_13 g dX6_setRow_15 rfl (r := 31) rfl ?_
  refine st_iload_n g dX6_setRow_18 rfl ?_
  refine st_aald g dX6_setRow_19 H (fun v3 H => ?_)
  refine st_lconst g dX6_setRow_20 lc_0 ?_
  obtain ⟨r4, hr4, H⟩ := bind_some H
  refine st_callSV g (as := [.ref v3, .long 0]) dX6_setRow_21 ml_X6_37 mf_J7_fill_d0a16 rfl (Nat.le_of_ble_eq_true rfl) (Nat.le_of_ble_eq_true rfl) (c_J7_fill_d0a16 v3 0 h2 _ hr4) ?_
  obtain rfl := Option.some.inj H
  exact st_vret g dX6_setRow_24 K
theorem c_X6_setRow (a1 : Int32) (a2 : Int32) (a3 : Int32) (h : Hp) (r : Hp) (H : f_X6_setRow a1 a2 a3 h = some r) : CtV yX6_setRow cX6_setRow 4 2 [.ref 30, .int a1, .int a2, .int a3] h r :=
  ct_ofV (own := RX6) [.ref 30, .int a1, .int a2, .int a3] (by decide +kernel) rfl (fun ρ => Nat.le_of_ble_eq_true rfl) (fun ρ => rfl) (fun x g K => t_X6_setRow g a1 a2 a3 h r H K)
def f_X7_placeRefusal (a1 : Int32) (a2 : Int32) (h : Hp) : Option Int32 :=
  (f_X6_isShelf a1).bind fun r1 =>
  if r1 = 0 then
    some (-1)
  else
    (f_X6_isEmpty a1 h).bind fun r3 =>
    if r3 = 0 then
      (f_X6_isDoor a1 h).bind fun r5 =>
      if r5 = 0 then
        (f_X6_hasPart a1 a2 1 h).bind fun r7 =>
        if r7 = 0 then
          some (-13)
        else
          some 0
      else
        some (-12)
    else
      some (-11)
theorem t_X7_placeRefusal {x : Cx} (g : Gx x RX7 cX7_placeRefusal 3 2) (a1 : Int32) (a2 : Int32) (h : Hp) (out : Int32) (H : f_X7_placeRefusal a1 a2 h = some out) (K : RtI x .int out h) : WA x 0 [.ref 0, .int a1, .int a2] [] h := by
  unfold f_X7_placeRefusal at H
  refine st_aload_n g dX7_placeRefusal_0 rfl ?_
  refine gf_X7_54 g dX7_placeRefusal_1 rfl (r := 30) rfl ?_
  refine st_iload_n g dX7_placeRefusal_4 rfl ?_
  obtain ⟨r1, hr1, H⟩ := bind_some H
  refine st_callVI g (as := [.int a1]) dX7_placeRefusal_5 rfl rfl ml_X7_107 mf_X6_isShelf rfl (Nat.le_of_ble_eq_true rfl) (Nat.le_of_ble_eq_true rfl) (c_X6_isShelf a1 h _ hr1) (fun hz => ?_)
  have br1 := hz rfl
  refine st_if_ne g dX7_placeRefusal_8 (tgt := 13) (by decide) H (fun q2 H => ?_) (fun q2 H => ?_)
  · refine st_aload_n g dX7_placeRefusal_13 rfl ?_
    refine gf_X7_54 g dX7_placeRefusal_14 rfl (r := 30) rfl ?_
    refine st_iload_n g dX7_placeRefusal_17 rfl ?_
    obtain ⟨r3, hr3, H⟩ := bind_some H
    refine st_callVI g (as := [.int a1]) dX7_placeRefusal_18 rfl rfl ml_X7_110 mf_X6_isEmpty rfl (Nat.le_of_ble_eq_true rfl) (Nat.le_of_ble_eq_true rfl) (c_X6_isEmpty a1 h _ hr3) (fun hz => ?_)
    have br3 := hz rfl
    refine st_if_eq g dX7_placeRefusal_21 (tgt := 27) (by decide) H (fun q4 H => ?_) (fun q4 H => ?_)
    · refine st_aload_n g dX7_placeRefusal_27 rfl ?_
      refine gf_X7_54 g dX7_placeRefusal_28 rfl (r := 30) rfl ?_
      refine st_iload_n g dX7_placeRefusal_31 rfl ?_
      obtain ⟨r5, hr5, H⟩ := bind_some H
      refine st_callVI g (as := [.int a1]) dX7_placeRefusal_32 rfl rfl ml_X7_356 mf_X6_isDoor rfl (Nat.le_of_ble_eq_true rfl) (Nat.le_of_ble_eq_true rfl) (c_X6_isDoor a1 h _ hr5) (fun hz => ?_)
      have br5 := hz rfl
      refine st_if_eq g dX7_placeRefusal_35 (tgt := 41) (by decide) H (fun q6 H => ?_) (fun q6 H => ?_)
      · refine st_aload_n g dX7_placeRefusal_41 rfl ?_
        refine gf_X7_54 g dX7_placeRefusal_42 rfl (r := 30) rfl ?_
        refine st_iload_n g dX7_placeRefusal_45 rfl ?_
        refine st_iload_n g dX7_placeRefusal_46 rfl ?_
        refine st_iconst g dX7_placeRefusal_47 ic_1 ?_
        obtain ⟨r7, hr7, H⟩ := bind_some H
        refine st_callVI g (as := [.int a1, .int a2, .int 1]) dX7_placeRefusal_48 rfl rfl ml_X7_117 mf_X6_hasPart rfl (Nat.le_of_ble_eq_true rfl) (Nat.le_of_ble_eq_true rfl) (c_X6_hasPart a1 a2 1 h _ hr7) (fun hz => ?_)
        have br7 := hz rfl
        refine st_if_eq g dX7_placeRefusal_51 (tgt := 58) (by decide) H (fun q8 H => ?_) (fun q8 H => ?_)
        · refine st_bipush g dX7_placeRefusal_58 bi_m13 ?_
          obtain rfl := Option.some.inj H
          exact st_iret g dX7_placeRefusal_60 rfl (fun q => by cases q) K
        · refine st_iconst g dX7_placeRefusal_54 ic_0 ?_
          refine st_goto g dX7_placeRefusal_55 (tgt := 60) (by decide) ?_
          obtain rfl := Option.some.inj H
          exact st_iret g dX7_placeRefusal_60 rfl (fun q => by cases q) K
      · refine st_bipush g dX7_placeRefusal_38 bi_m12 ?_
        obtain rfl := Option.some.inj H
        exact st_iret g dX7_placeRefusal_40 rfl (fun q => by cases q) K
    · refine st_bipush g dX7_placeRefusal_24 bi_m11 ?_
      obtain rfl := Option.some.inj H
      exact st_iret g dX7_placeRefusal_26 rfl (fun q => by cases q) K
  · refine st_iconst g dX7_placeRefusal_11 ic_m1 ?_
    obtain rfl := Option.some.inj H
    exact st_iret g dX7_placeRefusal_12 rfl (fun q => by cases q) K
theorem c_X7_placeRefusal (a1 : Int32) (a2 : Int32) (h : Hp) (r : Int32) (H : f_X7_placeRefusal a1 a2 h = some r) : CtI yX7_placeRefusal cX7_placeRefusal 3 .int 2 [.ref 0, .int a1, .int a2] h r h :=
  ct_ofI (own := RX7) [.ref 0, .int a1, .int a2] (by decide +kernel) rfl (fun ρ => Nat.le_of_ble_eq_true rfl) (fun ρ => rfl) (fun x g K => t_X7_placeRefusal g a1 a2 h r H K)
def f_X6_store (a1 : Int32) (a2 : Int32) (a3 : Int64) (h : Hp) : Option Hp :=
  (rdR 31 a1).bind fun v1 =>
  (rdI h 39 a1).bind fun v2 =>
  (f_X6_cut v2 a3).bind fun r3 =>
  (wrL h v1 a2 r3).bind fun h4 =>
  some h4
theorem t_X6_store {x : Cx} (g : Gx x RX6 cX6_store 5 2) (a1 : Int32) (a2 : Int32) (a3 : Int64) (h : Hp) (out : Hp) (H : f_X6_store a1 a2 a3 h = some out) (K : RtV x out) : WA x 0 [.ref 30, .int a1, .int a2, .long a3, .null] [] h := by
  unfold f_X6_store at H
  refine st_aload_n g dX6_store_0 rfl ?_
  refine gf_X6_13 g dX6_store_1 rfl (r := 31) rfl ?_
  refine st_iload_n g dX6_store_4 rfl ?_
  refine st_aald g dX6_store_5 H (fun v1 H => ?_)
  refine st_iload_n g dX6_store_6 rfl ?_
  refine st_aload_n g dX6_store_7 rfl ?_
  refine gf_X6_20 g dX6_store_8 rfl (r := 39) rfl ?_
  refine st_iload_n g dX6_store_11 rfl ?_
  refine st_iald g dX6_store_12 H (fun v2 H => ?_)
  refine st_lload_n g dX6_store_13 rfl ?_
  obtain ⟨r3, hr3, H⟩ := bind_some H
  refine st_callSL g (as := [.int v2, .long a3]) dX6_store_14 ml_X6_43 mf_X6_cut rfl (Nat.le_of_ble_eq_true rfl) (Nat.le_of_ble_eq_true rfl) (c_X6_cut v2 a3 h _ hr3) ?_
  refine st_last g dX6_store_17 H (fun h4 H => ?_)
  obtain rfl := Option.some.inj H
  exact st_vret g dX6_store_18 K
theorem c_X6_store (a1 : Int32) (a2 : Int32) (a3 : Int64) (h : Hp) (r : Hp) (H : f_X6_store a1 a2 a3 h = some r) : CtV yX6_store cX6_store 5 2 [.ref 30, .int a1, .int a2, .long a3] h r :=
  ct_ofV (own := RX6) [.ref 30, .int a1, .int a2, .long a3, .null] (by decide +kernel) rfl (fun ρ => Nat.le_of_ble_eq_true rfl) (fun ρ => rfl) (fun x g K => t_X6_store g a1 a2 a3 h r H K)
def f_X6_areAlike (a1 : Int32) (a2 : Int32) (h : Hp) : Option Int32 :=
  (rdI h 39 a1).bind fun v1 =>
  (f_X6_isSort v1).bind fun r2 =>
  if r2 = 0 then
    some 0
  else
    (rdI h 39 a1).bind fun v4 =>
    (rdI h 39 a2).bind fun v5 =>
    if v4 = v5 then
      some 1
    else
      some 0
theorem t_X6_areAlike {x : Cx} (g : Gx x RX6 cX6_areAlike 3 2) (a1 : Int32) (a2 : Int32) (h : Hp) (out : Int32) (H : f_X6_areAlike a1 a2 h = some out) (K : RtI x .boolean out h) : WA x 0 [.ref 30, .int a1, .int a2] [] h := by
  unfold f_X6_areAlike at H
  refine st_aload_n g dX6_areAlike_0 rfl ?_
  refine st_aload_n g dX6_areAlike_1 rfl ?_
  refine gf_X6_20 g dX6_areAlike_2 rfl (r := 39) rfl ?_
  refine st_iload_n g dX6_areAlike_5 rfl ?_
  refine st_iald g dX6_areAlike_6 H (fun v1 H => ?_)
  obtain ⟨r2, hr2, H⟩ := bind_some H
  refine st_callVI g (as := [.int v1]) dX6_areAlike_7 rfl rfl ml_X6_26 mf_X6_isSort rfl (Nat.le_of_ble_eq_true rfl) (Nat.le_of_ble_eq_true rfl) (c_X6_isSort v1 h _ hr2) (fun hz => ?_)
  have br2 := hz rfl
  refine st_if_eq g dX6_areAlike_10 (tgt := 32) (by decide) H (fun q3 H => ?_) (fun q3 H => ?_)
  · refine st_iconst g dX6_areAlike_32 ic_0 ?_
    obtain rfl := Option.some.inj H
    exact st_iret g dX6_areAlike_33 rfl (fun _ => Or.inl rfl) K
  · refine st_aload_n g dX6_areAlike_13 rfl ?_
    refine gf_X6_20 g dX6_areAlike_14 rfl (r := 39) rfl ?_
    refine st_iload_n g dX6_areAlike_17 rfl ?_
    refine st_iald g dX6_areAlike_18 H (fun v4 H => ?_)
    refine st_aload_n g dX6_areAlike_19 rfl ?_
    refine gf_X6_20 g dX6_areAlike_20 rfl (r := 39) rfl ?_
    refine st_iload_n g dX6_areAlike_23 rfl ?_
    refine st_iald g dX6_areAlike_24 H (fun v5 H => ?_)
    refine st_ic_ne g dX6_areAlike_25 (tgt := 32) (by decide) H (fun q6 H => ?_) (fun q6 H => ?_)
    · refine st_iconst g dX6_areAlike_32 ic_0 ?_
      obtain rfl := Option.some.inj H
      exact st_iret g dX6_areAlike_33 rfl (fun _ => Or.inl rfl) K
    · refine st_iconst g dX6_areAlike_28 ic_1 ?_
      refine st_goto g dX6_areAlike_29 (tgt := 33) (by decide) ?_
      obtain rfl := Option.some.inj H
      exact st_iret g dX6_areAlike_33 rfl (fun _ => Or.inr rfl) K
theorem c_X6_areAlike (a1 : Int32) (a2 : Int32) (h : Hp) (r : Int32) (H : f_X6_areAlike a1 a2 h = some r) : CtI yX6_areAlike cX6_areAlike 3 .boolean 2 [.ref 30, .int a1, .int a2] h r h :=
  ct_ofI (own := RX6) [.ref 30, .int a1, .int a2] (by decide +kernel) rfl (fun ρ => Nat.le_of_ble_eq_true rfl) (fun ρ => rfl) (fun x g K => t_X6_areAlike g a1 a2 h r H K)
def f_X6_copyPart (a1 : Int32) (a2 : Int32) (a3 : Int32) (a4 : Int32) (a5 : Int32) (h : Hp) : Option Hp :=
  (rdR 31 a1).bind fun v1 =>
  (rdR 31 a3).bind fun v2 =>
  (cpL h v1 a2 v2 a4 a5).bind fun h3 =>
  some h3
theorem t_X6_copyPart {x : Cx} (g : Gx x RX6 cX6_copyPart 6 2) (a1 : Int32) (a2 : Int32) (a3 : Int32) (a4 : Int32) (a5 : Int32) (h : Hp) (out : Hp) (H : f_X6_copyPart a1 a2 a3 a4 a5 h = some out) (K : RtV x out) : WA x 0 [.ref 30, .int a1, .int a2, .int a3, .int a4, .int a5] [] h := by
  unfold f_X6_copyPart at H
  refine st_aload_n g dX6_copyPart_0 rfl ?_
  refine gf_X6_13 g dX6_copyPart_1 rfl (r := 31) rfl ?_
  refine st_iload_n g dX6_copyPart_4 rfl ?_
  refine st_aald g dX6_copyPart_5 H (fun v1 H => ?_)
  refine st_iload_n g dX6_copyPart_6 rfl ?_
  refine st_aload_n g dX6_copyPart_7 rfl ?_
  refine gf_X6_13 g dX6_copyPart_8 rfl (r := 31) rfl ?_
  refine st_iload_n g dX6_copyPart_11 rfl ?_
  refine st_aald g dX6_copyPart_12 H (fun v2 H => ?_)
  refine st_iload g dX6_copyPart_13 rfl ?_
  refine st_iload g dX6_copyPart_15 rfl ?_
  refine st_cpL g dX6_copyPart_17 ml_X6_47 (Nat.le_of_ble_eq_true rfl) (Nat.le_of_ble_eq_true rfl) H (fun h3 H => ?_)
  obtain rfl := Option.some.inj H
  exact st_vret g dX6_copyPart_20 K
theorem c_X6_copyPart (a1 : Int32) (a2 : Int32) (a3 : Int32) (a4 : Int32) (a5 : Int32) (h : Hp) (r : Hp) (H : f_X6_copyPart a1 a2 a3 a4 a5 h = some r) : CtV yX6_copyPart cX6_copyPart 6 2 [.ref 30, .int a1, .int a2, .int a3, .int a4, .int a5] h r :=
  ct_ofV (own := RX6) [.ref 30, .int a1, .int a2, .int a3, .int a4, .int a5] (by decide +kernel) rfl (fun ρ => Nat.le_of_ble_eq_true rfl) (fun ρ => rfl) (fun x g K => t_X6_copyPart g a1 a2 a3 a4 a5 h r H K)
def P_X1_isUnder_5 (x : Cx) (a2 : Int32) (h : Hp) (s : (Int32 × Int32)) : Prop := WA x 5 [.ref 41, .null, .int a2, .int s.1, .int s.2] [] h
def E_X1_isUnder_5 (x : Cx) (a2 : Int32) (h : Hp) : (Int32 × Int32) ⊕ Int32 → Prop := Sum.elim (fun s : (Int32 × Int32) => WA x 39 [.null, .null, .null, .null, .null] [] h) (fun r : Int32 => RtI x .boolean r h)
def b_X1_isUnder_5 (a2 : Int32) (h : Hp) (s : (Int32 × Int32)) : Option ((Int32 × Int32) ⊕ ((Int32 × Int32) ⊕ Int32)) :=
  if 8 ≤ s.2 then
    some (.inr (.inl (s.1, s.2)))
  else
    (f_X1_isKind s.1).bind fun r2 =>
    if r2 = 0 then
      some (.inr (.inl (s.1, s.2)))
    else
      if s.1 = a2 then
        some (.inr (.inr 1))
      else
        (rdT 92 s.1).bind fun v5 =>
        some (.inl (v5, s.2 + 1))
theorem tb_X1_isUnder_5 {x : Cx} (g : Gx x RX1 cX1_isUnder 5 2) (a2 : Int32) (h : Hp) (s : (Int32 × Int32)) (out : (Int32 × Int32) ⊕ ((Int32 × Int32) ⊕ Int32)) (H : b_X1_isUnder_5 a2 h s = some out) (K : Sum.elim (P_X1_isUnder_5 x a2 h) (E_X1_isUnder_5 x a2 h) out) : P_X1_isUnder_5 x a2 h s := by
  unfold b_X1_isUnder_5 at H
  show WA x 5 [.ref 41, .null, .int a2, .int s.1, .int s.2] [] h
  refine st_iload g dX1_isUnder_5 rfl ?_
  refine st_bipush g dX1_isUnder_7 bi_8 ?_
  refine st_ic_ge g dX1_isUnder_9 (tgt := 39) (by decide) H (fun q1 H => ?_) (fun q1 H => ?_)
  · obtain rfl := Option.some.inj H
    exact (wa_drop [0, 2, 3, 4] K)
  · refine st_aload_n g dX1_isUnder_12 rfl ?_
    refine st_iload_n g dX1_isUnder_13 rfl ?_
    obtain ⟨r2, hr2, H⟩ := bind_some H
    refine st_callVI g (as := [.int s.1]) dX1_isUnder_14 rfl rfl ml_X1_31 mf_X1_isKind rfl (Nat.le_of_ble_eq_true rfl) (Nat.le_of_ble_eq_true rfl) (c_X1_isKind s.1 h _ hr2) (fun hz => ?_)
    have br2 := hz rfl
    refine st_if_eq g dX1_isUnder_17 (tgt := 39) (by decide) H (fun q3 H => ?_) (fun q3 H => ?_)
    · obtain rfl := Option.some.inj H
      exact (wa_drop [0, 2, 3, 4] K)
    · refine st_iload_n g dX1_isUnder_20 rfl ?_
      refine st_iload_n g dX1_isUnder_21 rfl ?_
      refine st_ic_ne g dX1_isUnder_22 (tgt := 27) (by decide) H (fun q4 H => ?_) (fun q4 H => ?_)
      · refine st_gets_ABOVE g dX1_isUnder_27 fl_X1_35 ?_
        refine st_iload_n g dX1_isUnder_30 rfl ?_
        refine st_tald g dX1_isUnder_31 (by decide) (by decide) H (fun v5 H => ?_)
        refine st_istore_n g dX1_isUnder_32 (Nat.le_of_ble_eq_true rfl) rfl (ls2 := [.ref 41, .null, .int a2, .int v5, .int s.2]) rfl ?_
        refine st_iinc g dX1_isUnder_33 rfl (ii_1 _) (Nat.le_of_ble_eq_true rfl) rfl (ls2 := [.ref 41, .null, .int a2, .int v5, .int (s.2 + 1)]) rfl ?_
        refine st_goto g dX1_isUnder_36 (tgt := 5) (by decide) ?_
        obtain rfl := Option.some.inj H
        exact K
      · refine st_iconst g dX1_isUnder_25 ic_1 ?_
        obtain rfl := Option.some.inj H
        exact st_iret g dX1_isUnder_26 rfl (fun _ => Or.inr rfl) K
def f_X1_isUnder (a1 : Int32) (a2 : Int32) (h : Hp) : Option Int32 :=
  (iter (b_X1_isUnder_5 a2 h) FU (a1, 0)).bind (Sum.elim (fun a6 =>
    some 0) (fun r => some r))
theorem t_X1_isUnder {x : Cx} (g : Gx x RX1 cX1_isUnder 5 2) (a1 : Int32) (a2 : Int32) (h : Hp) (out : Int32) (H : f_X1_isUnder a1 a2 h = some out) (K : RtI x .boolean out h) : WA x 0 [.ref 41, .int a1, .int a2, .null, .null] [] h := by
  unfold f_X1_isUnder at H
  refine st_iload_n g dX1_isUnder_0 rfl ?_
  refine st_istore_n g dX1_isUnder_1 (Nat.le_of_ble_eq_true rfl) rfl (ls2 := [.ref 41, .int a1, .int a2, .int a1, .null]) rfl ?_
  refine st_iconst g dX1_isUnder_2 ic_0 ?_
  refine st_istore g dX1_isUnder_3 (Nat.le_of_ble_eq_true rfl) rfl (ls2 := [.ref 41, .int a1, .int a2, .int a1, .int 0]) rfl ?_
  refine wa_drop [1] ?_
  show P_X1_isUnder_5 x a2 h (a1, 0)
  obtain ⟨a6o, ha6, hca6⟩ := it_R H
  refine iter_W (P := P_X1_isUnder_5 x a2 h) (E := E_X1_isUnder_5 x a2 h) (fun s9 o9 ho9 hK9 => tb_X1_isUnder_5 g a2 h s9 o9 ho9 hK9) FU _ a6o ha6 ?_
  rcases hca6 with ⟨a6, rfl, H⟩ | ⟨r, rfl, H⟩
  · show WA x 39 [.null, .null, .null, .null, .null] [] h
    refine st_iconst g dX1_isUnder_39 ic_0 ?_
    obtain rfl := Option.some.inj H
    exact st_iret g dX1_isUnder_40 rfl (fun _ => Or.inl rfl) K
  · obtain rfl := Option.some.inj H
    exact K
theorem c_X1_isUnder (a1 : Int32) (a2 : Int32) (h : Hp) (r : Int32) (H : f_X1_isUnder a1 a2 h = some r) : CtI yX1_isUnder cX1_isUnder 5 .boolean 2 [.ref 41, .int a1, .int a2] h r h :=
  ct_ofI (own := RX1) [.ref 41, .int a1, .int a2, .null, .null] (by decide +kernel) rfl (fun ρ => Nat.le_of_ble_eq_true rfl) (fun ρ => rfl) (fun x g K => t_X1_isUnder g a1 a2 h r H K)
def f_X8_isHouse (a0 : Int32) : Option Int32 :=
  (f_X8_within a0 0 11).bind fun r1 =>
  some r1
theorem t_X8_isHouse {x : Cx} (g : Gx x RX8 cX8_isHouse 1 2) (a0 : Int32) (h : Hp) (out : Int32) (H : f_X8_isHouse a0 = some out) (K : RtI x .boolean out h) : WA x 0 [.int a0] [] h := by
  unfold f_X8_isHouse at H
  refine st_iload_n g dX8_isHouse_0 rfl ?_
  refine st_iconst g dX8_isHouse_1 ic_0 ?_
  refine st_bipush g dX8_isHouse_2 bi_11 ?_
  obtain ⟨r1, hr1, H⟩ := bind_some H
  refine st_callSI g (as := [.int a0, .int 0, .int 11]) dX8_isHouse_4 ml_X8_109 mf_X8_within rfl (Nat.le_of_ble_eq_true rfl) (Nat.le_of_ble_eq_true rfl) (c_X8_within a0 0 11 h _ hr1) (fun hz => ?_)
  have br1 := hz rfl
  obtain rfl := Option.some.inj H
  exact st_iret g dX8_isHouse_7 (bo_nar br1) (fun _ => br1) K
theorem c_X8_isHouse (a0 : Int32) (h : Hp) (r : Int32) (H : f_X8_isHouse a0 = some r) : CtI yX8_isHouse cX8_isHouse 1 .boolean 2 [.int a0] h r h :=
  ct_ofI (own := RX8) [.int a0] (by decide +kernel) rfl (fun ρ => Nat.le_of_ble_eq_true rfl) (fun ρ => rfl) (fun x g K => t_X8_isHouse g a0 h r H K)
def f_X8_isOne (a1 : Int32) (h : Hp) : Option Int32 :=
  (f_X8_within a1 0 ((h.1 53 1) - 1)).bind fun r1 =>
  some r1
theorem t_X8_isOne {x : Cx} (g : Gx x RX8 cX8_isOne 2 2) (a1 : Int32) (h : Hp) (out : Int32) (H : f_X8_isOne a1 h = some out) (K : RtI x .boolean out h) : WA x 0 [.ref 53, .int a1] [] h := by
  unfold f_X8_isOne at H
  refine st_iload_n g dX8_isOne_0 rfl ?_
  refine st_iconst g dX8_isOne_1 ic_0 ?_
  refine st_aload_n g dX8_isOne_2 rfl ?_
  refine gf_X8_113 g dX8_isOne_3 rfl ?_
  refine st_iconst g dX8_isOne_6 ic_1 ?_
  refine st_isub g dX8_isOne_7 ?_
  obtain ⟨r1, hr1, H⟩ := bind_some H
  refine st_callSI g (as := [.int a1, .int 0, .int ((h.1 53 1) - 1)]) dX8_isOne_8 ml_X8_109 mf_X8_within rfl (Nat.le_of_ble_eq_true rfl) (Nat.le_of_ble_eq_true rfl) (c_X8_within a1 0 ((h.1 53 1) - 1) h _ hr1) (fun hz => ?_)
  have br1 := hz rfl
  obtain rfl := Option.some.inj H
  exact st_iret g dX8_isOne_11 (bo_nar br1) (fun _ => br1) K
theorem c_X8_isOne (a1 : Int32) (h : Hp) (r : Int32) (H : f_X8_isOne a1 h = some r) : CtI yX8_isOne cX8_isOne 2 .boolean 2 [.ref 53, .int a1] h r h :=
  ct_ofI (own := RX8) [.ref 53, .int a1] (by decide +kernel) rfl (fun ρ => Nat.le_of_ble_eq_true rfl) (fun ρ => rfl) (fun x g K => t_X8_isOne g a1 h r H K)
def f_X8_isShelf (a0 : Int32) : Option Int32 :=
  (f_X8_within a0 0 5).bind fun r1 =>
  some r1
theorem t_X8_isShelf {x : Cx} (g : Gx x RX8 cX8_isShelf 1 2) (a0 : Int32) (h : Hp) (out : Int32) (H : f_X8_isShelf a0 = some out) (K : RtI x .boolean out h) : WA x 0 [.int a0] [] h := by
  unfold f_X8_isShelf at H
  refine st_iload_n g dX8_isShelf_0 rfl ?_
  refine st_iconst g dX8_isShelf_1 ic_0 ?_
  refine st_iconst g dX8_isShelf_2 ic_5 ?_
  obtain ⟨r1, hr1, H⟩ := bind_some H
  refine st_callSI g (as := [.int a0, .int 0, .int 5]) dX8_isShelf_3 ml_X8_109 mf_X8_within rfl (Nat.le_of_ble_eq_true rfl) (Nat.le_of_ble_eq_true rfl) (c_X8_within a0 0 5 h _ hr1) (fun hz => ?_)
  have br1 := hz rfl
  obtain rfl := Option.some.inj H
  exact st_iret g dX8_isShelf_6 (bo_nar br1) (fun _ => br1) K
theorem c_X8_isShelf (a0 : Int32) (h : Hp) (r : Int32) (H : f_X8_isShelf a0 = some r) : CtI yX8_isShelf cX8_isShelf 1 .boolean 2 [.int a0] h r h :=
  ct_ofI (own := RX8) [.int a0] (by decide +kernel) rfl (fun ρ => Nat.le_of_ble_eq_true rfl) (fun ρ => rfl) (fun x g K => t_X8_isShelf g a0 h r H K)
def f_X8_isWrong (a1 : Int32) (h : Hp) : Option Int32 :=
  (f_X8_within a1 0 ((h.1 53 4) - 1)).bind fun r1 =>
  some r1
theorem t_X8_isWrong {x : Cx} (g : Gx x RX8 cX8_isWrong 2 2) (a1 : Int32) (h : Hp) (out : Int32) (H : f_X8_isWrong a1 h = some out) (K : RtI x .boolean out h) : WA x 0 [.ref 53, .int a1] [] h := by
  unfold f_X8_isWrong at H
  refine st_iload_n g dX8_isWrong_0 rfl ?_
  refine st_iconst g dX8_isWrong_1 ic_0 ?_
  refine st_aload_n g dX8_isWrong_2 rfl ?_
  refine gf_X8_117 g dX8_isWrong_3 rfl ?_
  refine st_iconst g dX8_isWrong_6 ic_1 ?_
  refine st_isub g dX8_isWrong_7 ?_
  obtain ⟨r1, hr1, H⟩ := bind_some H
  refine st_callSI g (as := [.int a1, .int 0, .int ((h.1 53 4) - 1)]) dX8_isWrong_8 ml_X8_109 mf_X8_within rfl (Nat.le_of_ble_eq_true rfl) (Nat.le_of_ble_eq_true rfl) (c_X8_within a1 0 ((h.1 53 4) - 1) h _ hr1) (fun hz => ?_)
  have br1 := hz rfl
  obtain rfl := Option.some.inj H
  exact st_iret g dX8_isWrong_11 (bo_nar br1) (fun _ => br1) K
theorem c_X8_isWrong (a1 : Int32) (h : Hp) (r : Int32) (H : f_X8_isWrong a1 h = some r) : CtI yX8_isWrong cX8_isWrong 2 .boolean 2 [.ref 53, .int a1] h r h :=
  ct_ofI (own := RX8) [.ref 53, .int a1] (by decide +kernel) rfl (fun ρ => Nat.le_of_ble_eq_true rfl) (fun ρ => rfl) (fun x g K => t_X8_isWrong g a1 h r H K)
def f_X8_undo (h : Hp) : Option (Int32 × Hp) :=
  if (h.1 53 35) = 0 then
    some ((-5), h)
  else
    lt (stI h 53 35 ((h.1 53 35) - 1)) fun h2 =>
    (rdI h2 76 (4 * (h2.1 53 35))).bind fun v3 =>
    (rdI h2 76 ((4 * (h2.1 53 35)) + 1)).bind fun v4 =>
    (rdI h2 76 ((4 * (h2.1 53 35)) + 2)).bind fun v5 =>
    (f_X8_becomes v3 v4 v5 h2).bind fun r6 =>
    some (r6.1 53 35, r6)
theorem t_X8_undo {x : Cx} (g : Gx x RX8 cX8_undo 1 2) (h : Hp) (out : (Int32 × Hp)) (H : f_X8_undo h = some out) (K : RtI x .int out.1 out.2) : WA x 0 [.ref 53] [] h := by
  unfold f_X8_undo at H
  refine st_aload_n g dX8_undo_0 rfl ?_
  refine gf_X8_164 g dX8_undo_1 rfl ?_
  refine st_if_ne g dX8_undo_4 (tgt := 10) (by decide) H (fun q1 H => ?_) (fun q1 H => ?_)
  · refine st_aload_n g dX8_undo_10 rfl ?_
    refine st_dup g dX8_undo_11 rfl ?_
    refine gf_X8_164 g dX8_undo_12 rfl ?_
    refine st_iconst g dX8_undo_15 ic_1 ?_
    refine st_isub g dX8_undo_16 ?_
    refine pu_X8_164 g dX8_undo_17 rfl ?_
    refine wa_ltH H (fun h2 H => ?_)
    refine st_aload_n g dX8_undo_20 rfl ?_
    refine st_aload_n g dX8_undo_21 rfl ?_
    refine gf_X8_78 g dX8_undo_22 rfl (r := 76) rfl ?_
    refine st_iconst g dX8_undo_25 ic_4 ?_
    refine st_aload_n g dX8_undo_26 rfl ?_
    refine gf_X8_164 g dX8_undo_27 rfl ?_
    refine st_imul g dX8_undo_30 ?_
    refine st_iald g dX8_undo_31 H (fun v3 H => ?_)
    refine st_aload_n g dX8_undo_32 rfl ?_
    refine gf_X8_78 g dX8_undo_33 rfl (r := 76) rfl ?_
    refine st_iconst g dX8_undo_36 ic_4 ?_
    refine st_aload_n g dX8_undo_37 rfl ?_
    refine gf_X8_164 g dX8_undo_38 rfl ?_
    refine st_imul g dX8_undo_41 ?_
    refine st_iconst g dX8_undo_42 ic_1 ?_
    refine st_iadd g dX8_undo_43 ?_
    refine st_iald g dX8_undo_44 H (fun v4 H => ?_)
    refine st_aload_n g dX8_undo_45 rfl ?_
    refine gf_X8_78 g dX8_undo_46 rfl (r := 76) rfl ?_
    refine st_iconst g dX8_undo_49 ic_4 ?_
    refine st_aload_n g dX8_undo_50 rfl ?_
    refine gf_X8_164 g dX8_undo_51 rfl ?_
    refine st_imul g dX8_undo_54 ?_
    refine st_iconst g dX8_undo_55 ic_2 ?_
    refine st_iadd g dX8_undo_56 ?_
    refine st_iald g dX8_undo_57 H (fun v5 H => ?_)
    obtain ⟨r6, hr6, H⟩ := bind_some H
    refine st_callVV g (as := [.int v3, .int v4, .int v5]) dX8_undo_58 rfl rfl ml_X8_160 mf_X8_becomes rfl (Nat.le_of_ble_eq_true rfl) (Nat.le_of_ble_eq_true rfl) (c_X8_becomes v3 v4 v5 h2 _ hr6) ?_
    refine st_aload_n g dX8_undo_61 rfl ?_
    refine gf_X8_164 g dX8_undo_62 rfl ?_
    obtain rfl := Option.some.inj H
    exact st_iret g dX8_undo_65 rfl (fun q => by cases q) K
  · refine st_bipush g dX8_undo_7 bi_m5 ?_
    obtain rfl := Option.some.inj H
    exact st_iret g dX8_undo_9 rfl (fun q => by cases q) K
theorem c_X8_undo (h : Hp) (r : (Int32 × Hp)) (H : f_X8_undo h = some r) : CtI yX8_undo cX8_undo 1 .int 2 [.ref 53] h r.1 r.2 :=
  ct_ofI (own := RX8) [.ref 53] (by decide +kernel) rfl (fun ρ => Nat.le_of_ble_eq_true rfl) (fun ρ => rfl) (fun x g K => t_X8_undo g h r H K)
def f_X8_redo (h : Hp) : Option (Int32 × Hp) :=
  if (h.1 53 35) = (h.1 53 34) then
    some ((-5), h)
  else
    (rdI h 76 (4 * (h.1 53 35))).bind fun v2 =>
    (rdI h 76 ((4 * (h.1 53 35)) + 1)).bind fun v3 =>
    (rdI h 76 ((4 * (h.1 53 35)) + 3)).bind fun v4 =>
    (f_X8_becomes v2 v3 v4 h).bind fun r5 =>
    lt (stI r5 53 35 ((r5.1 53 35) + 1)) fun h6 =>
    some ((h6.1 53 34) - (h6.1 53 35), h6)
theorem t_X8_redo {x : Cx} (g : Gx x RX8 cX8_redo 1 2) (h : Hp) (out : (Int32 × Hp)) (H : f_X8_redo h = some out) (K : RtI x .int out.1 out.2) : WA x 0 [.ref 53] [] h := by
  unfold f_X8_redo at H
  refine st_aload_n g dX8_redo_0 rfl ?_
  refine gf_X8_164 g dX8_redo_1 rfl ?_
  refine st_aload_n g dX8_redo_4 rfl ?_
  refine gf_X8_167 g dX8_redo_5 rfl ?_
  refine st_ic_ne g dX8_redo_8 (tgt := 14) (by decide) H (fun q1 H => ?_) (fun q1 H => ?_)
  · refine st_aload_n g dX8_redo_14 rfl ?_
    refine st_aload_n g dX8_redo_15 rfl ?_
    refine gf_X8_78 g dX8_redo_16 rfl (r := 76) rfl ?_
    refine st_iconst g dX8_redo_19 ic_4 ?_
    refine st_aload_n g dX8_redo_20 rfl ?_
    refine gf_X8_164 g dX8_redo_21 rfl ?_
    refine st_imul g dX8_redo_24 ?_
    refine st_iald g dX8_redo_25 H (fun v2 H => ?_)
    refine st_aload_n g dX8_redo_26 rfl ?_
    refine gf_X8_78 g dX8_redo_27 rfl (r := 76) rfl ?_
    refine st_iconst g dX8_redo_30 ic_4 ?_
    refine st_aload_n g dX8_redo_31 rfl ?_
    refine gf_X8_164 g dX8_redo_32 rfl ?_
    refine st_imul g dX8_redo_35 ?_
    refine st_iconst g dX8_redo_36 ic_1 ?_
    refine st_iadd g dX8_redo_37 ?_
    refine st_iald g dX8_redo_38 H (fun v3 H => ?_)
    refine st_aload_n g dX8_redo_39 rfl ?_
    refine gf_X8_78 g dX8_redo_40 rfl (r := 76) rfl ?_
    refine st_iconst g dX8_redo_43 ic_4 ?_
    refine st_aload_n g dX8_redo_44 rfl ?_
    refine gf_X8_164 g dX8_redo_45 rfl ?_
    refine st_imul g dX8_redo_48 ?_
    refine st_iconst g dX8_redo_49 ic_3 ?_
    refine st_iadd g dX8_redo_50 ?_
    refine st_iald g dX8_redo_51 H (fun v4 H => ?_)
    obtain ⟨r5, hr5, H⟩ := bind_some H
    refine st_callVV g (as := [.int v2, .int v3, .int v4]) dX8_redo_52 rfl rfl ml_X8_160 mf_X8_becomes rfl (Nat.le_of_ble_eq_true rfl) (Nat.le_of_ble_eq_true rfl) (c_X8_becomes v2 v3 v4 h _ hr5) ?_
    refine st_aload_n g dX8_redo_55 rfl ?_
    refine st_dup g dX8_redo_56 rfl ?_
    refine gf_X8_164 g dX8_redo_57 rfl ?_
    refine st_iconst g dX8_redo_60 ic_1 ?_
    refine st_iadd g dX8_redo_61 ?_
    refine pu_X8_164 g dX8_redo_62 rfl ?_
    refine wa_ltH H (fun h6 H => ?_)
    refine st_aload_n g dX8_redo_65 rfl ?_
    refine gf_X8_167 g dX8_redo_66 rfl ?_
    refine st_aload_n g dX8_redo_69 rfl ?_
    refine gf_X8_164 g dX8_redo_70 rfl ?_
    refine st_isub g dX8_redo_73 ?_
    obtain rfl := Option.some.inj H
    exact st_iret g dX8_redo_74 rfl (fun q => by cases q) K
  · refine st_bipush g dX8_redo_11 bi_m5 ?_
    obtain rfl := Option.some.inj H
    exact st_iret g dX8_redo_13 rfl (fun q => by cases q) K
theorem c_X8_redo (h : Hp) (r : (Int32 × Hp)) (H : f_X8_redo h = some r) : CtI yX8_redo cX8_redo 1 .int 2 [.ref 53] h r.1 r.2 :=
  ct_ofI (own := RX8) [.ref 53] (by decide +kernel) rfl (fun ρ => Nat.le_of_ble_eq_true rfl) (fun ρ => rfl) (fun x g K => t_X8_redo g h r H K)
def f_X8_feed (a1 : Int32) (h : Hp) : Option (Int32 × Hp) :=
  (f_X8_within a1 0 255).bind fun r1 =>
  if r1 = 0 then
    some ((-1), h)
  else
    if (h.1 53 11) = 120 then
      some ((-3), h)
    else
      lt (stI h 53 11 ((h.1 53 11) + 1)) fun h4 =>
      (wrI h4 62 (h.1 53 11) a1).bind fun h5 =>
      some (h5.1 53 11, h5)
theorem t_X8_feed {x : Cx} (g : Gx x RX8 cX8_feed 2 2) (a1 : Int32) (h : Hp) (out : (Int32 × Hp)) (H : f_X8_feed a1 h = some out) (K : RtI x .int out.1 out.2) : WA x 0 [.ref 53, .int a1] [] h := by
  unfold f_X8_feed at H
  refine st_iload_n g dX8_feed_0 rfl ?_
  refine st_iconst g dX8_feed_1 ic_0 ?_
  refine st_sipush g dX8_feed_2 si_255 ?_
  obtain ⟨r1, hr1, H⟩ := bind_some H
  refine st_callSI g (as := [.int a1, .int 0, .int 255]) dX8_feed_5 ml_X8_109 mf_X8_within rfl (Nat.le_of_ble_eq_true rfl) (Nat.le_of_ble_eq_true rfl) (c_X8_within a1 0 255 h _ hr1) (fun hz => ?_)
  have br1 := hz rfl
  refine st_if_ne g dX8_feed_8 (tgt := 13) (by decide) H (fun q2 H => ?_) (fun q2 H => ?_)
  · refine st_aload_n g dX8_feed_13 rfl ?_
    refine gf_X8_170 g dX8_feed_14 rfl ?_
    refine st_bipush g dX8_feed_17 bi_120 ?_
    refine st_ic_ne g dX8_feed_19 (tgt := 25) (by decide) H (fun q3 H => ?_) (fun q3 H => ?_)
    · refine st_aload_n g dX8_feed_25 rfl ?_
      refine gf_X8_36 g dX8_feed_26 rfl (r := 62) rfl ?_
      refine st_aload_n g dX8_feed_29 rfl ?_
      refine st_dup g dX8_feed_30 rfl ?_
      refine gf_X8_170 g dX8_feed_31 rfl ?_
      refine st_dup_x1 g dX8_feed_34 rfl rfl ?_
      refine st_iconst g dX8_feed_35 ic_1 ?_
      refine st_iadd g dX8_feed_36 ?_
      refine pu_X8_170 g dX8_feed_37 rfl ?_
      refine wa_ltH H (fun h4 H => ?_)
      refine st_iload_n g dX8_feed_40 rfl ?_
      refine st_iast g dX8_feed_41 H (fun h5 H => ?_)
      refine st_aload_n g dX8_feed_42 rfl ?_
      refine gf_X8_170 g dX8_feed_43 rfl ?_
      obtain rfl := Option.some.inj H
      exact st_iret g dX8_feed_46 rfl (fun q => by cases q) K
    · refine st_bipush g dX8_feed_22 bi_m3 ?_
      obtain rfl := Option.some.inj H
      exact st_iret g dX8_feed_24 rfl (fun q => by cases q) K
  · refine st_iconst g dX8_feed_11 ic_m1 ?_
    obtain rfl := Option.some.inj H
    exact st_iret g dX8_feed_12 rfl (fun q => by cases q) K
theorem c_X8_feed (a1 : Int32) (h : Hp) (r : (Int32 × Hp)) (H : f_X8_feed a1 h = some r) : CtI yX8_feed cX8_feed 2 .int 2 [.ref 53, .int a1] h r.1 r.2 :=
  ct_ofI (own := RX8) [.ref 53, .int a1] (by decide +kernel) rfl (fun ρ => Nat.le_of_ble_eq_true rfl) (fun ρ => rfl) (fun x g K => t_X8_feed g a1 h r H K)
def f_X8_isDigit (h : Hp) : Option Int32 :=
  (f_X8_sign h).bind fun r1 =>
  if r1 < 48 then
    some 0
  else
    (f_X8_sign h).bind fun r3 =>
    if 57 < r3 then
      some 0
    else
      some 1
theorem t_X8_isDigit {x : Cx} (g : Gx x RX8 cX8_isDigit 1 2) (h : Hp) (out : Int32) (H : f_X8_isDigit h = some out) (K : RtI x .boolean out h) : WA x 0 [.ref 53] [] h := by
  unfold f_X8_isDigit at H
  refine st_aload_n g dX8_isDigit_0 rfl ?_
  obtain ⟨r1, hr1, H⟩ := bind_some H
  refine st_callVI g (as := []) dX8_isDigit_1 rfl rfl ml_X8_176 mf_X8_sign rfl (Nat.le_of_ble_eq_true rfl) (Nat.le_of_ble_eq_true rfl) (c_X8_sign h _ hr1) (fun hz => ?_)
  refine st_bipush g dX8_isDigit_4 bi_48 ?_
  refine st_ic_lt g dX8_isDigit_6 (tgt := 22) (by decide) H (fun q2 H => ?_) (fun q2 H => ?_)
  · refine st_iconst g dX8_isDigit_22 ic_0 ?_
    obtain rfl := Option.some.inj H
    exact st_iret g dX8_isDigit_23 rfl (fun _ => Or.inl rfl) K
  · refine st_aload_n g dX8_isDigit_9 rfl ?_
    obtain ⟨r3, hr3, H⟩ := bind_some H
    refine st_callVI g (as := []) dX8_isDigit_10 rfl rfl ml_X8_176 mf_X8_sign rfl (Nat.le_of_ble_eq_true rfl) (Nat.le_of_ble_eq_true rfl) (c_X8_sign h _ hr3) (fun hz => ?_)
    refine st_bipush g dX8_isDigit_13 bi_57 ?_
    refine st_ic_gt g dX8_isDigit_15 (tgt := 22) (by decide) H (fun q4 H => ?_) (fun q4 H => ?_)
    · refine st_iconst g dX8_isDigit_22 ic_0 ?_
      obtain rfl := Option.some.inj H
      exact st_iret g dX8_isDigit_23 rfl (fun _ => Or.inl rfl) K
    · refine st_iconst g dX8_isDigit_18 ic_1 ?_
      refine st_goto g dX8_isDigit_19 (tgt := 23) (by decide) ?_
      obtain rfl := Option.some.inj H
      exact st_iret g dX8_isDigit_23 rfl (fun _ => Or.inr rfl) K
theorem c_X8_isDigit (h : Hp) (r : Int32) (H : f_X8_isDigit h = some r) : CtI yX8_isDigit cX8_isDigit 1 .boolean 2 [.ref 53] h r h :=
  ct_ofI (own := RX8) [.ref 53] (by decide +kernel) rfl (fun ρ => Nat.le_of_ble_eq_true rfl) (fun ρ => rfl) (fun x g K => t_X8_isDigit g h r H K)
def f_X8_is (a1 : Int32) (h : Hp) : Option (Int32 × Hp) :=
  (f_X8_sign h).bind fun r1 =>
  if r1 = a1 then
    lt (stI h 53 19 ((h.1 53 19) + 1)) fun h3 =>
    some (1, h3)
  else
    some (0, h)
theorem t_X8_is {x : Cx} (g : Gx x RX8 cX8_is 2 2) (a1 : Int32) (h : Hp) (out : (Int32 × Hp)) (H : f_X8_is a1 h = some out) (K : RtI x .boolean out.1 out.2) : WA x 0 [.ref 53, .int a1] [] h := by
  unfold f_X8_is at H
  refine st_aload_n g dX8_is_0 rfl ?_
  obtain ⟨r1, hr1, H⟩ := bind_some H
  refine st_callVI g (as := []) dX8_is_1 rfl rfl ml_X8_176 mf_X8_sign rfl (Nat.le_of_ble_eq_true rfl) (Nat.le_of_ble_eq_true rfl) (c_X8_sign h _ hr1) (fun hz => ?_)
  refine st_iload_n g dX8_is_4 rfl ?_
  refine st_ic_eq g dX8_is_5 (tgt := 10) (by decide) H (fun q2 H => ?_) (fun q2 H => ?_)
  · refine st_aload_n g dX8_is_10 rfl ?_
    refine st_dup g dX8_is_11 rfl ?_
    refine gf_X8_173 g dX8_is_12 rfl ?_
    refine st_iconst g dX8_is_15 ic_1 ?_
    refine st_iadd g dX8_is_16 ?_
    refine pu_X8_173 g dX8_is_17 rfl ?_
    refine wa_ltH H (fun h3 H => ?_)
    refine st_iconst g dX8_is_20 ic_1 ?_
    obtain rfl := Option.some.inj H
    exact st_iret g dX8_is_21 rfl (fun _ => Or.inr rfl) K
  · refine st_iconst g dX8_is_8 ic_0 ?_
    obtain rfl := Option.some.inj H
    exact st_iret g dX8_is_9 rfl (fun _ => Or.inl rfl) K
theorem c_X8_is (a1 : Int32) (h : Hp) (r : (Int32 × Hp)) (H : f_X8_is a1 h = some r) : CtI yX8_is cX8_is 2 .boolean 2 [.ref 53, .int a1] h r.1 r.2 :=
  ct_ofI (own := RX8) [.ref 53, .int a1] (by decide +kernel) rfl (fun ρ => Nat.le_of_ble_eq_true rfl) (fun ρ => rfl) (fun x g K => t_X8_is g a1 h r H K)
def f_X8_ago (a1 : Int32) (h : Hp) : Option Int32 :=
  (rdI h 60 a1).bind fun v1 =>
  some (mxI 0 ((h.1 53 10) - v1))
theorem t_X8_ago {x : Cx} (g : Gx x RX8 cX8_ago 2 2) (a1 : Int32) (h : Hp) (out : Int32) (H : f_X8_ago a1 h = some out) (K : RtI x .int out h) : WA x 0 [.ref 53, .int a1] [] h := by
  unfold f_X8_ago at H
  refine st_iconst g dX8_ago_0 ic_0 ?_
  refine st_aload_n g dX8_ago_1 rfl ?_
  refine gf_X8_127 g dX8_ago_2 rfl ?_
  refine st_aload_n g dX8_ago_5 rfl ?_
  refine gf_X8_30 g dX8_ago_6 rfl (r := 60) rfl ?_
  refine st_iload_n g dX8_ago_9 rfl ?_
  refine st_iald g dX8_ago_10 H (fun v1 H => ?_)
  refine st_isub g dX8_ago_11 ?_
  refine st_max g dX8_ago_12 ml_X8_234 (Nat.le_of_ble_eq_true rfl) (Nat.le_of_ble_eq_true rfl) ?_
  obtain rfl := Option.some.inj H
  exact st_iret g dX8_ago_15 rfl (fun q => by cases q) K
theorem c_X8_ago (a1 : Int32) (h : Hp) (r : Int32) (H : f_X8_ago a1 h = some r) : CtI yX8_ago cX8_ago 2 .int 2 [.ref 53, .int a1] h r h :=
  ct_ofI (own := RX8) [.ref 53, .int a1] (by decide +kernel) rfl (fun ρ => Nat.le_of_ble_eq_true rfl) (fun ρ => rfl) (fun x g K => t_X8_ago g a1 h r H K)
def P_X8_worked_5 (x : Cx) (a2 : Int32) (s : (Int32 × Int32 × Hp)) : Prop := WA x 5 [.ref 53, .null, .int a2, .int s.1, .int s.2.1, .null] [] s.2.2
def E_X8_worked_5 (x : Cx) (a2 : Int32) : (Int32 × Int32 × Hp) → Prop := fun s : (Int32 × Int32 × Hp) => WA x 163 [.ref 53, .null, .null, .null, .null, .null] [] s.2.2
def j_X8_worked_33 (a2 : Int32) (c3 : Int32) (c4 : Int32) (a5 : Int32) (h : Hp) : Option ((Int32 × Int32 × Hp) ⊕ (Int32 × Int32 × Hp)) :=
  if a5 < 18 then
    (rdI h 72 a5).bind fun v5 =>
    (wrI h 71 c3 v5).bind fun h6 =>
    some (.inl (c3 + 1, c4 + 1, h6))
  else
    (wrI h 71 c3 (a5 - 18)).bind fun h7 =>
    some (.inl (c3 + 1, c4 + 1, h7))
theorem tj_X8_worked_33 {x : Cx} (g : Gx x RX8 cX8_worked 6 2) (a2 : Int32) (c3 : Int32) (c4 : Int32) (a5 : Int32) (h : Hp) (out : (Int32 × Int32 × Hp) ⊕ (Int32 × Int32 × Hp)) (H : j_X8_worked_33 a2 c3 c4 a5 h = some out) (K : Sum.elim (P_X8_worked_5 x a2) (E_X8_worked_5 x a2) out) : WA x 33 [.ref 53, .null, .int a2, .int c3, .int c4, .int a5] [] h := by
  unfold j_X8_worked_33 at H
  refine st_aload_n g dX8_worked_33 rfl ?_
  refine gf_X8_63 g dX8_worked_34 rfl (r := 71) rfl ?_
  refine st_iload_n g dX8_worked_37 rfl ?_
  refine st_iinc g dX8_worked_38 rfl (ii_1 _) (Nat.le_of_ble_eq_true rfl) rfl (ls2 := [.ref 53, .null, .int a2, .int (c3 + 1), .int c4, .int a5]) rfl ?_
  refine st_iload g dX8_worked_41 rfl ?_
  refine st_bipush g dX8_worked_43 bi_18 ?_
  refine st_ic_lt g dX8_worked_45 (tgt := 56) (by decide) H (fun q4 H => ?_) (fun q4 H => ?_)
  · refine st_aload_n g dX8_worked_56 rfl ?_
    refine gf_X8_66 g dX8_worked_57 rfl (r := 72) rfl ?_
    refine st_iload g dX8_worked_60 rfl ?_
    refine st_iald g dX8_worked_62 H (fun v5 H => ?_)
    refine st_iast g dX8_worked_63 H (fun h6 H => ?_)
    refine st_goto g dX8_worked_64 (tgt := 157) (by decide) ?_
    refine st_iinc g dX8_worked_157 rfl (ii_1 _) (Nat.le_of_ble_eq_true rfl) rfl (ls2 := [.ref 53, .null, .int a2, .int (c3 + 1), .int (c4 + 1), .int a5]) rfl ?_
    refine st_goto g dX8_worked_160 (tgt := 5) (by decide) ?_
    obtain rfl := Option.some.inj H
    exact (wa_drop [5] K)
  · refine st_iload g dX8_worked_48 rfl ?_
    refine st_bipush g dX8_worked_50 bi_18 ?_
    refine st_isub g dX8_worked_52 ?_
    refine st_goto g dX8_worked_53 (tgt := 63) (by decide) ?_
    refine st_iast g dX8_worked_63 H (fun h7 H => ?_)
    refine st_goto g dX8_worked_64 (tgt := 157) (by decide) ?_
    refine st_iinc g dX8_worked_157 rfl (ii_1 _) (Nat.le_of_ble_eq_true rfl) rfl (ls2 := [.ref 53, .null, .int a2, .int (c3 + 1), .int (c4 + 1), .int a5]) rfl ?_
    refine st_goto g dX8_worked_160 (tgt := 5) (by decide) ?_
    obtain rfl := Option.some.inj H
    exact (wa_drop [5] K)
def j_X8_worked_81 (a2 : Int32) (c3 : Int32) (c4 : Int32) (a5 : Int32) (h : Hp) : Option ((Int32 × Int32 × Hp) ⊕ (Int32 × Int32 × Hp)) :=
  if a5 = 17 then
    (rdI h 71 (c3 - 1)).bind fun v15 =>
    (wrI h 71 (c3 - 1) (-v15)).bind fun h16 =>
    some (.inl (c3, c4 + 1, h16))
  else
    (rdI h 71 (c3 - 1)).bind fun v11 =>
    if v11 = 0 then
      (wrI h 71 (c3 - 1) 1).bind fun h14 =>
      some (.inl (c3, c4 + 1, h14))
    else
      (wrI h 71 (c3 - 1) 0).bind fun h13 =>
      some (.inl (c3, c4 + 1, h13))
theorem tj_X8_worked_81 {x : Cx} (g : Gx x RX8 cX8_worked 6 2) (a2 : Int32) (c3 : Int32) (c4 : Int32) (a5 : Int32) (h : Hp) (out : (Int32 × Int32 × Hp) ⊕ (Int32 × Int32 × Hp)) (H : j_X8_worked_81 a2 c3 c4 a5 h = some out) (K : Sum.elim (P_X8_worked_5 x a2) (E_X8_worked_5 x a2) out) : WA x 81 [.ref 53, .null, .int a2, .int c3, .int c4, .int a5] [] h := by
  unfold j_X8_worked_81 at H
  refine st_aload_n g dX8_worked_81 rfl ?_
  refine gf_X8_63 g dX8_worked_82 rfl (r := 71) rfl ?_
  refine st_iload_n g dX8_worked_85 rfl ?_
  refine st_iconst g dX8_worked_86 ic_1 ?_
  refine st_isub g dX8_worked_87 ?_
  refine st_iload g dX8_worked_88 rfl ?_
  refine st_bipush g dX8_worked_90 bi_17 ?_
  refine st_ic_ne g dX8_worked_92 (tgt := 107) (by decide) H (fun q10 H => ?_) (fun q10 H => ?_)
  · refine st_aload_n g dX8_worked_107 rfl ?_
    refine gf_X8_63 g dX8_worked_108 rfl (r := 71) rfl ?_
    refine st_iload_n g dX8_worked_111 rfl ?_
    refine st_iconst g dX8_worked_112 ic_1 ?_
    refine st_isub g dX8_worked_113 ?_
    refine st_iald g dX8_worked_114 H (fun v11 H => ?_)
    refine st_if_ne g dX8_worked_115 (tgt := 122) (by decide) H (fun q12 H => ?_) (fun q12 H => ?_)
    · refine st_iconst g dX8_worked_122 ic_0 ?_
      refine st_iast g dX8_worked_123 H (fun h13 H => ?_)
      refine st_goto g dX8_worked_124 (tgt := 157) (by decide) ?_
      refine st_iinc g dX8_worked_157 rfl (ii_1 _) (Nat.le_of_ble_eq_true rfl) rfl (ls2 := [.ref 53, .null, .int a2, .int c3, .int (c4 + 1), .int a5]) rfl ?_
      refine st_goto g dX8_worked_160 (tgt := 5) (by decide) ?_
      obtain rfl := Option.some.inj H
      exact (wa_drop [5] K)
    · refine st_iconst g dX8_worked_118 ic_1 ?_
      refine st_goto g dX8_worked_119 (tgt := 123) (by decide) ?_
      refine st_iast g dX8_worked_123 H (fun h14 H => ?_)
      refine st_goto g dX8_worked_124 (tgt := 157) (by decide) ?_
      refine st_iinc g dX8_worked_157 rfl (ii_1 _) (Nat.le_of_ble_eq_true rfl) rfl (ls2 := [.ref 53, .null, .int a2, .int c3, .int (c4 + 1), .int a5]) rfl ?_
      refine st_goto g dX8_worked_160 (tgt := 5) (by decide) ?_
      obtain rfl := Option.some.inj H
      exact (wa_drop [5] K)
  · refine st_aload_n g dX8_worked_95 rfl ?_
    refine gf_X8_63 g dX8_worked_96 rfl (r := 71) rfl ?_
    refine st_iload_n g dX8_worked_99 rfl ?_
    refine st_iconst g dX8_worked_100 ic_1 ?_
    refine st_isub g dX8_worked_101 ?_
    refine st_iald g dX8_worked_102 H (fun v15 H => ?_)
    refine st_ineg g dX8_worked_103 ?_
    refine st_goto g dX8_worked_104 (tgt := 123) (by decide) ?_
    refine st_iast g dX8_worked_123 H (fun h16 H => ?_)
    refine st_goto g dX8_worked_124 (tgt := 157) (by decide) ?_
    refine st_iinc g dX8_worked_157 rfl (ii_1 _) (Nat.le_of_ble_eq_true rfl) rfl (ls2 := [.ref 53, .null, .int a2, .int c3, .int (c4 + 1), .int a5]) rfl ?_
    refine st_goto g dX8_worked_160 (tgt := 5) (by decide) ?_
    obtain rfl := Option.some.inj H
    exact (wa_drop [5] K)
def b_X8_worked_5 (a2 : Int32) (s : (Int32 × Int32 × Hp)) : Option ((Int32 × Int32 × Hp) ⊕ (Int32 × Int32 × Hp)) :=
  if a2 ≤ s.2.1 then
    some (.inr (s.1, s.2.1, s.2.2))
  else
    (rdI s.2.2 66 s.2.1).bind fun v2 =>
    if 18 ≤ v2 then
      j_X8_worked_33 a2 s.1 s.2.1 v2 s.2.2
    else
      if 5 < v2 then
        if v2 = 16 then
          j_X8_worked_81 a2 s.1 s.2.1 v2 s.2.2
        else
          if v2 = 17 then
            j_X8_worked_81 a2 s.1 s.2.1 v2 s.2.2
          else
            (rdI s.2.2 71 ((s.1 - 1) - 1)).bind fun v18 =>
            (rdI s.2.2 71 (s.1 - 1)).bind fun v19 =>
            (f_X8_both v2 v18 v19).bind fun r20 =>
            (wrI s.2.2 71 ((s.1 - 1) - 1) r20).bind fun h21 =>
            some (.inl (s.1 - 1, s.2.1 + 1, h21))
      else
        j_X8_worked_33 a2 s.1 s.2.1 v2 s.2.2
theorem tb_X8_worked_5 {x : Cx} (g : Gx x RX8 cX8_worked 6 2) (a2 : Int32) (s : (Int32 × Int32 × Hp)) (out : (Int32 × Int32 × Hp) ⊕ (Int32 × Int32 × Hp)) (H : b_X8_worked_5 a2 s = some out) (K : Sum.elim (P_X8_worked_5 x a2) (E_X8_worked_5 x a2) out) : P_X8_worked_5 x a2 s := by
  unfold b_X8_worked_5 at H
  show WA x 5 [.ref 53, .null, .int a2, .int s.1, .int s.2.1, .null] [] s.2.2
  refine st_iload g dX8_worked_5 rfl ?_
  refine st_iload_n g dX8_worked_7 rfl ?_
  refine st_ic_ge g dX8_worked_8 (tgt := 163) (by decide) H (fun q1 H => ?_) (fun q1 H => ?_)
  · obtain rfl := Option.some.inj H
    exact (wa_drop [2, 3, 4] K)
  · refine st_aload_n g dX8_worked_11 rfl ?_
    refine gf_X8_48 g dX8_worked_12 rfl (r := 66) rfl ?_
    refine st_iload g dX8_worked_15 rfl ?_
    refine st_iald g dX8_worked_17 H (fun v2 H => ?_)
    refine st_istore g dX8_worked_18 (Nat.le_of_ble_eq_true rfl) rfl (ls2 := [.ref 53, .null, .int a2, .int s.1, .int s.2.1, .int v2]) rfl ?_
    refine st_iload g dX8_worked_20 rfl ?_
    refine st_bipush g dX8_worked_22 bi_18 ?_
    refine st_ic_ge g dX8_worked_24 (tgt := 33) (by decide) H (fun q3 H => ?_) (fun q3 H => ?_)
    · exact (tj_X8_worked_33 g a2 s.1 s.2.1 v2 s.2.2 _ H K)
    · refine st_iload g dX8_worked_27 rfl ?_
      refine st_iconst g dX8_worked_29 ic_5 ?_
      refine st_ic_gt g dX8_worked_30 (tgt := 67) (by decide) H (fun q8 H => ?_) (fun q8 H => ?_)
      · refine st_iload g dX8_worked_67 rfl ?_
        refine st_bipush g dX8_worked_69 bi_16 ?_
        refine st_ic_eq g dX8_worked_71 (tgt := 81) (by decide) H (fun q9 H => ?_) (fun q9 H => ?_)
        · exact (tj_X8_worked_81 g a2 s.1 s.2.1 v2 s.2.2 _ H K)
        · refine st_iload g dX8_worked_74 rfl ?_
          refine st_bipush g dX8_worked_76 bi_17 ?_
          refine st_ic_ne g dX8_worked_78 (tgt := 127) (by decide) H (fun q17 H => ?_) (fun q17 H => ?_)
          · refine st_iinc g dX8_worked_127 rfl (ii_m1 _) (Nat.le_of_ble_eq_true rfl) rfl (ls2 := [.ref 53, .null, .int a2, .int (s.1 - 1), .int s.2.1, .int v2]) rfl ?_
            refine st_aload_n g dX8_worked_130 rfl ?_
            refine gf_X8_63 g dX8_worked_131 rfl (r := 71) rfl ?_
            refine st_iload_n g dX8_worked_134 rfl ?_
            refine st_iconst g dX8_worked_135 ic_1 ?_
            refine st_isub g dX8_worked_136 ?_
            refine st_iload g dX8_worked_137 rfl ?_
            refine st_aload_n g dX8_worked_139 rfl ?_
            refine gf_X8_63 g dX8_worked_140 rfl (r := 71) rfl ?_
            refine st_iload_n g dX8_worked_143 rfl ?_
            refine st_iconst g dX8_worked_144 ic_1 ?_
            refine st_isub g dX8_worked_145 ?_
            refine st_iald g dX8_worked_146 H (fun v18 H => ?_)
            refine st_aload_n g dX8_worked_147 rfl ?_
            refine gf_X8_63 g dX8_worked_148 rfl (r := 71) rfl ?_
            refine st_iload_n g dX8_worked_151 rfl ?_
            refine st_iald g dX8_worked_152 H (fun v19 H => ?_)
            obtain ⟨r20, hr20, H⟩ := bind_some H
            refine st_callSI g (as := [.int v2, .int v18, .int v19]) dX8_worked_153 ml_X8_231 mf_X8_both rfl (Nat.le_of_ble_eq_true rfl) (Nat.le_of_ble_eq_true rfl) (c_X8_both v2 v18 v19 s.2.2 _ hr20) (fun hz => ?_)
            refine st_iast g dX8_worked_156 H (fun h21 H => ?_)
            refine st_iinc g dX8_worked_157 rfl (ii_1 _) (Nat.le_of_ble_eq_true rfl) rfl (ls2 := [.ref 53, .null, .int a2, .int (s.1 - 1), .int (s.2.1 + 1), .int v2]) rfl ?_
            refine st_goto g dX8_worked_160 (tgt := 5) (by decide) ?_
            obtain rfl := Option.some.inj H
            exact (wa_drop [5] K)
          · exact (tj_X8_worked_81 g a2 s.1 s.2.1 v2 s.2.2 _ H K)
      · exact (tj_X8_worked_33 g a2 s.1 s.2.1 v2 s.2.2 _ H K)
def f_X8_worked (a1 : Int32) (a2 : Int32) (h : Hp) : Option (Int32 × Hp) :=
  (iter (b_X8_worked_5 a2) FU (0, a1, h)).bind fun a22 =>
  (rdI a22.2.2 71 0).bind fun v23 =>
  some (v23, a22.2.2)
theorem t_X8_worked {x : Cx} (g : Gx x RX8 cX8_worked 6 2) (a1 : Int32) (a2 : Int32) (h : Hp) (out : (Int32 × Hp)) (H : f_X8_worked a1 a2 h = some out) (K : RtI x .int out.1 out.2) : WA x 0 [.ref 53, .int a1, .int a2, .null, .null, .null] [] h := by
  unfold f_X8_worked at H
  refine st_iconst g dX8_worked_0 ic_0 ?_
  refine st_istore_n g dX8_worked_1 (Nat.le_of_ble_eq_true rfl) rfl (ls2 := [.ref 53, .int a1, .int a2, .int 0, .null, .null]) rfl ?_
  refine st_iload_n g dX8_worked_2 rfl ?_
  refine st_istore g dX8_worked_3 (Nat.le_of_ble_eq_true rfl) rfl (ls2 := [.ref 53, .int a1, .int a2, .int 0, .int a1, .null]) rfl ?_
  refine wa_drop [1] ?_
  show P_X8_worked_5 x a2 (0, a1, h)
  obtain ⟨a22, ha22, H⟩ := bind_some H
  refine iter_W (P := P_X8_worked_5 x a2) (E := E_X8_worked_5 x a2) (fun s9 o9 ho9 hK9 => tb_X8_worked_5 g a2 s9 o9 ho9 hK9) FU _ a22 ha22 ?_
  show WA x 163 [.ref 53, .null, .null, .null, .null, .null] [] a22.2.2
  refine st_aload_n g dX8_worked_163 rfl ?_
  refine gf_X8_63 g dX8_worked_164 rfl (r := 71) rfl ?_
  refine st_iconst g dX8_worked_167 ic_0 ?_
  refine st_iald g dX8_worked_168 H (fun v23 H => ?_)
  obtain rfl := Option.some.inj H
  exact st_iret g dX8_worked_169 rfl (fun q => by cases q) K
theorem c_X8_worked (a1 : Int32) (a2 : Int32) (h : Hp) (r : (Int32 × Hp)) (H : f_X8_worked a1 a2 h = some r) : CtI yX8_worked cX8_worked 6 .int 2 [.ref 53, .int a1, .int a2] h r.1 r.2 :=
  ct_ofI (own := RX8) [.ref 53, .int a1, .int a2, .null, .null, .null] (by decide +kernel) rfl (fun ρ => Nat.le_of_ble_eq_true rfl) (fun ρ => rfl) (fun x g K => t_X8_worked g a1 a2 h r H K)
def P_X8_callsOf_2 (x : Cx) (a1 : Int32) (h : Hp) (s : Int32) : Prop := WA x 2 [.ref 53, .int a1, .int s] [] h
def E_X8_callsOf_2 (x : Cx) (a1 : Int32) (h : Hp) : Int32 → Prop := fun s : Int32 => WA x 49 [.null, .null, .int s] [] h
def b_X8_callsOf_2 (a1 : Int32) (h : Hp) (s : Int32) : Option (Int32 ⊕ Int32) :=
  (rdI h 80 a1).bind fun v1 =>
  if v1 ≤ s then
    some (.inr s)
  else
    if 40 ≤ s then
      some (.inr s)
    else
      (f_X8_toldAt a1 s h).bind fun r4 =>
      if r4 < 0 then
        some (.inr s)
      else
        (f_X8_toldAt a1 s h).bind fun r6 =>
        if (h.1 53 4) ≤ (r6 / 12) then
          some (.inr s)
        else
          some (.inl (s + 1))
theorem tb_X8_callsOf_2 {x : Cx} (g : Gx x RX8 cX8_callsOf 3 2) (a1 : Int32) (h : Hp) (s : Int32) (out : Int32 ⊕ Int32) (H : b_X8_callsOf_2 a1 h s = some out) (K : Sum.elim (P_X8_callsOf_2 x a1 h) (E_X8_callsOf_2 x a1 h) out) : P_X8_callsOf_2 x a1 h s := by
  unfold b_X8_callsOf_2 at H
  show WA x 2 [.ref 53, .int a1, .int s] [] h
  refine st_iload_n g dX8_callsOf_2 rfl ?_
  refine st_aload_n g dX8_callsOf_3 rfl ?_
  refine gf_X8_90 g dX8_callsOf_4 rfl (r := 80) rfl ?_
  refine st_iload_n g dX8_callsOf_7 rfl ?_
  refine st_iald g dX8_callsOf_8 H (fun v1 H => ?_)
  refine st_ic_ge g dX8_callsOf_9 (tgt := 49) (by decide) H (fun q2 H => ?_) (fun q2 H => ?_)
  · obtain rfl := Option.some.inj H
    exact (wa_drop [0, 1] K)
  · refine st_iload_n g dX8_callsOf_12 rfl ?_
    refine st_bipush g dX8_callsOf_13 bi_40 ?_
    refine st_ic_ge g dX8_callsOf_15 (tgt := 49) (by decide) H (fun q3 H => ?_) (fun q3 H => ?_)
    · obtain rfl := Option.some.inj H
      exact (wa_drop [0, 1] K)
    · refine st_aload_n g dX8_callsOf_18 rfl ?_
      refine st_iload_n g dX8_callsOf_19 rfl ?_
      refine st_iload_n g dX8_callsOf_20 rfl ?_
      obtain ⟨r4, hr4, H⟩ := bind_some H
      refine st_callVI g (as := [.int a1, .int s]) dX8_callsOf_21 rfl rfl ml_X8_142 mf_X8_toldAt rfl (Nat.le_of_ble_eq_true rfl) (Nat.le_of_ble_eq_true rfl) (c_X8_toldAt a1 s h _ hr4) (fun hz => ?_)
      refine st_if_lt g dX8_callsOf_24 (tgt := 49) (by decide) H (fun q5 H => ?_) (fun q5 H => ?_)
      · obtain rfl := Option.some.inj H
        exact (wa_drop [0, 1] K)
      · refine st_aload_n g dX8_callsOf_27 rfl ?_
        refine st_iload_n g dX8_callsOf_28 rfl ?_
        refine st_iload_n g dX8_callsOf_29 rfl ?_
        obtain ⟨r6, hr6, H⟩ := bind_some H
        refine st_callVI g (as := [.int a1, .int s]) dX8_callsOf_30 rfl rfl ml_X8_142 mf_X8_toldAt rfl (Nat.le_of_ble_eq_true rfl) (Nat.le_of_ble_eq_true rfl) (c_X8_toldAt a1 s h _ hr6) (fun hz => ?_)
        refine st_bipush g dX8_callsOf_33 bi_12 ?_
        refine st_idiv g dX8_callsOf_35 (by decide) ?_
        refine st_aload_n g dX8_callsOf_36 rfl ?_
        refine gf_X8_117 g dX8_callsOf_37 rfl ?_
        refine st_ic_ge g dX8_callsOf_40 (tgt := 49) (by decide) H (fun q7 H => ?_) (fun q7 H => ?_)
        · obtain rfl := Option.some.inj H
          exact (wa_drop [0, 1] K)
        · refine st_iinc g dX8_callsOf_43 rfl (ii_1 _) (Nat.le_of_ble_eq_true rfl) rfl (ls2 := [.ref 53, .int a1, .int (s + 1)]) rfl ?_
          refine st_goto g dX8_callsOf_46 (tgt := 2) (by decide) ?_
          obtain rfl := Option.some.inj H
          exact K
def f_X8_callsOf (a1 : Int32) (h : Hp) : Option Int32 :=
  (iter (b_X8_callsOf_2 a1 h) FU 0).bind fun a8 =>
  some a8
theorem t_X8_callsOf {x : Cx} (g : Gx x RX8 cX8_callsOf 3 2) (a1 : Int32) (h : Hp) (out : Int32) (H : f_X8_callsOf a1 h = some out) (K : RtI x .int out h) : WA x 0 [.ref 53, .int a1, .null] [] h := by
  unfold f_X8_callsOf at H
  refine st_iconst g dX8_callsOf_0 ic_0 ?_
  refine st_istore_n g dX8_callsOf_1 (Nat.le_of_ble_eq_true rfl) rfl (ls2 := [.ref 53, .int a1, .int 0]) rfl ?_
  show P_X8_callsOf_2 x a1 h 0
  obtain ⟨a8, ha8, H⟩ := bind_some H
  refine iter_W (P := P_X8_callsOf_2 x a1 h) (E := E_X8_callsOf_2 x a1 h) (fun s9 o9 ho9 hK9 => tb_X8_callsOf_2 g a1 h s9 o9 ho9 hK9) FU _ a8 ha8 ?_
  show WA x 49 [.null, .null, .int a8] [] h
  refine st_iload_n g dX8_callsOf_49 rfl ?_
  obtain rfl := Option.some.inj H
  exact st_iret g dX8_callsOf_50 rfl (fun q => by cases q) K
theorem c_X8_callsOf (a1 : Int32) (h : Hp) (r : Int32) (H : f_X8_callsOf a1 h = some r) : CtI yX8_callsOf cX8_callsOf 3 .int 2 [.ref 53, .int a1] h r h :=
  ct_ofI (own := RX8) [.ref 53, .int a1, .null] (by decide +kernel) rfl (fun ρ => Nat.le_of_ble_eq_true rfl) (fun ρ => rfl) (fun x g K => t_X8_callsOf g a1 h r H K)
def P_X8_run_15 (x : Cx) (a1 : Int32) (h : Hp) (s : (Int32 × Int32)) : Prop := WA x 15 [.ref 53, .int a1, .int s.1, .int s.2] [] h
def E_X8_run_15 (x : Cx) (a1 : Int32) (h : Hp) : (Int32 × Int32) → Prop := fun s : (Int32 × Int32) => WA x 49 [.null, .int a1, .int s.1, .null] [] h
def b_X8_run_15 (a1 : Int32) (h : Hp) (s : (Int32 × Int32)) : Option ((Int32 × Int32) ⊕ (Int32 × Int32)) :=
  if 4096 ≤ s.2 then
    some (.inr (s.1, s.2))
  else
    (f_J6_bitCount_0f7a4 s.2).bind fun r4 =>
    (f_J6_bitCount_0f7a4 s.1).bind fun r5 =>
    if r4 ≤ r5 then
      some (.inl (s.1, s.2 + 1))
    else
      (f_X8_rises s.2 h).bind fun r7 =>
      if r7 = 0 then
        some (.inl (s.1, s.2 + 1))
      else
        some (.inl (s.2, s.2 + 1))
theorem tb_X8_run_15 {x : Cx} (g : Gx x RX8 cX8_run 4 2) (a1 : Int32) (h : Hp) (s : (Int32 × Int32)) (out : (Int32 × Int32) ⊕ (Int32 × Int32)) (H : b_X8_run_15 a1 h s = some out) (K : Sum.elim (P_X8_run_15 x a1 h) (E_X8_run_15 x a1 h) out) : P_X8_run_15 x a1 h s := by
  unfold b_X8_run_15 at H
  show WA x 15 [.ref 53, .int a1, .int s.1, .int s.2] [] h
  refine st_iload_n g dX8_run_15 rfl ?_
  refine st_sipush g dX8_run_16 si_4096 ?_
  refine st_ic_ge g dX8_run_19 (tgt := 49) (by decide) H (fun q3 H => ?_) (fun q3 H => ?_)
  · obtain rfl := Option.some.inj H
    exact (wa_drop [0, 3] K)
  · refine st_iload_n g dX8_run_22 rfl ?_
    obtain ⟨r4, hr4, H⟩ := bind_some H
    refine st_callSI g (as := [.int s.2]) dX8_run_23 ml_X8_285 mf_J6_bitCount_0f7a4 rfl (Nat.le_of_ble_eq_true rfl) (Nat.le_of_ble_eq_true rfl) (c_J6_bitCount_0f7a4 s.2 h _ hr4) (fun hz => ?_)
    refine st_iload_n g dX8_run_26 rfl ?_
    obtain ⟨r5, hr5, H⟩ := bind_some H
    refine st_callSI g (as := [.int s.1]) dX8_run_27 ml_X8_285 mf_J6_bitCount_0f7a4 rfl (Nat.le_of_ble_eq_true rfl) (Nat.le_of_ble_eq_true rfl) (c_J6_bitCount_0f7a4 s.1 h _ hr5) (fun hz => ?_)
    refine st_ic_le g dX8_run_30 (tgt := 43) (by decide) H (fun q6 H => ?_) (fun q6 H => ?_)
    · refine st_iinc g dX8_run_43 rfl (ii_1 _) (Nat.le_of_ble_eq_true rfl) rfl (ls2 := [.ref 53, .int a1, .int s.1, .int (s.2 + 1)]) rfl ?_
      refine st_goto g dX8_run_46 (tgt := 15) (by decide) ?_
      obtain rfl := Option.some.inj H
      exact K
    · refine st_aload_n g dX8_run_33 rfl ?_
      refine st_iload_n g dX8_run_34 rfl ?_
      obtain ⟨r7, hr7, H⟩ := bind_some H
      refine st_callVI g (as := [.int s.2]) dX8_run_35 rfl rfl ml_X8_290 mf_X8_rises rfl (Nat.le_of_ble_eq_true rfl) (Nat.le_of_ble_eq_true rfl) (c_X8_rises s.2 h _ hr7) (fun hz => ?_)
      have br7 := hz rfl
      refine st_if_eq g dX8_run_38 (tgt := 43) (by decide) H (fun q8 H => ?_) (fun q8 H => ?_)
      · refine st_iinc g dX8_run_43 rfl (ii_1 _) (Nat.le_of_ble_eq_true rfl) rfl (ls2 := [.ref 53, .int a1, .int s.1, .int (s.2 + 1)]) rfl ?_
        refine st_goto g dX8_run_46 (tgt := 15) (by decide) ?_
        obtain rfl := Option.some.inj H
        exact K
      · refine st_iload_n g dX8_run_41 rfl ?_
        refine st_istore_n g dX8_run_42 (Nat.le_of_ble_eq_true rfl) rfl (ls2 := [.ref 53, .int a1, .int s.2, .int s.2]) rfl ?_
        refine st_iinc g dX8_run_43 rfl (ii_1 _) (Nat.le_of_ble_eq_true rfl) rfl (ls2 := [.ref 53, .int a1, .int s.2, .int (s.2 + 1)]) rfl ?_
        refine st_goto g dX8_run_46 (tgt := 15) (by decide) ?_
        obtain rfl := Option.some.inj H
        exact K
def f_X8_run (a1 : Int32) (h : Hp) : Option Int32 :=
  (f_X8_within a1 0 1).bind fun r1 =>
  if r1 = 0 then
    some (-1)
  else
    (iter (b_X8_run_15 a1 h) FU (0, 1)).bind fun a9 =>
    if a1 = 1 then
      some a9.1
    else
      (f_J6_bitCount_0f7a4 a9.1).bind fun r11 =>
      some r11
theorem t_X8_run {x : Cx} (g : Gx x RX8 cX8_run 4 2) (a1 : Int32) (h : Hp) (out : Int32) (H : f_X8_run a1 h = some out) (K : RtI x .int out h) : WA x 0 [.ref 53, .int a1, .null, .null] [] h := by
  unfold f_X8_run at H
  refine st_iload_n g dX8_run_0 rfl ?_
  refine st_iconst g dX8_run_1 ic_0 ?_
  refine st_iconst g dX8_run_2 ic_1 ?_
  obtain ⟨r1, hr1, H⟩ := bind_some H
  refine st_callSI g (as := [.int a1, .int 0, .int 1]) dX8_run_3 ml_X8_109 mf_X8_within rfl (Nat.le_of_ble_eq_true rfl) (Nat.le_of_ble_eq_true rfl) (c_X8_within a1 0 1 h _ hr1) (fun hz => ?_)
  have br1 := hz rfl
  refine st_if_ne g dX8_run_6 (tgt := 11) (by decide) H (fun q2 H => ?_) (fun q2 H => ?_)
  · refine st_iconst g dX8_run_11 ic_0 ?_
    refine st_istore_n g dX8_run_12 (Nat.le_of_ble_eq_true rfl) rfl (ls2 := [.ref 53, .int a1, .int 0, .null]) rfl ?_
    refine st_iconst g dX8_run_13 ic_1 ?_
    refine st_istore_n g dX8_run_14 (Nat.le_of_ble_eq_true rfl) rfl (ls2 := [.ref 53, .int a1, .int 0, .int 1]) rfl ?_
    show P_X8_run_15 x a1 h (0, 1)
    obtain ⟨a9, ha9, H⟩ := bind_some H
    refine iter_W (P := P_X8_run_15 x a1 h) (E := E_X8_run_15 x a1 h) (fun s9 o9 ho9 hK9 => tb_X8_run_15 g a1 h s9 o9 ho9 hK9) FU _ a9 ha9 ?_
    show WA x 49 [.null, .int a1, .int a9.1, .null] [] h
    refine st_iload_n g dX8_run_49 rfl ?_
    refine st_iconst g dX8_run_50 ic_1 ?_
    refine st_ic_ne g dX8_run_51 (tgt := 58) (by decide) H (fun q10 H => ?_) (fun q10 H => ?_)
    · refine st_iload_n g dX8_run_58 rfl ?_
      obtain ⟨r11, hr11, H⟩ := bind_some H
      refine st_callSI g (as := [.int a9.1]) dX8_run_59 ml_X8_285 mf_J6_bitCount_0f7a4 rfl (Nat.le_of_ble_eq_true rfl) (Nat.le_of_ble_eq_true rfl) (c_J6_bitCount_0f7a4 a9.1 h _ hr11) (fun hz => ?_)
      obtain rfl := Option.some.inj H
      exact st_iret g dX8_run_62 rfl (fun q => by cases q) K
    · refine st_iload_n g dX8_run_54 rfl ?_
      refine st_goto g dX8_run_55 (tgt := 62) (by decide) ?_
      obtain rfl := Option.some.inj H
      exact st_iret g dX8_run_62 rfl (fun q => by cases q) K
  · refine st_iconst g dX8_run_9 ic_m1 ?_
    obtain rfl := Option.some.inj H
    exact st_iret g dX8_run_10 rfl (fun q => by cases q) K
theorem c_X8_run (a1 : Int32) (h : Hp) (r : Int32) (H : f_X8_run a1 h = some r) : CtI yX8_run cX8_run 4 .int 2 [.ref 53, .int a1] h r h :=
  ct_ofI (own := RX8) [.ref 53, .int a1, .null, .null] (by decide +kernel) rfl (fun ρ => Nat.le_of_ble_eq_true rfl) (fun ρ => rfl) (fun x g K => t_X8_run g a1 h r H K)
def P_X8_nearestTo_6 (x : Cx) (a1 : Int32) (a2 : Int32) (h : Hp) (s : (Int32 × Int32)) : Prop := WA x 6 [.ref 53, .int a1, .int a2, .int s.1, .int s.2] [] h
def E_X8_nearestTo_6 (x : Cx) (a1 : Int32) (a2 : Int32) (h : Hp) : (Int32 × Int32) → Prop := fun s : (Int32 × Int32) => WA x 63 [.null, .null, .null, .int s.1, .null] [] h
def b_X8_nearestTo_6 (a1 : Int32) (a2 : Int32) (h : Hp) (s : (Int32 × Int32)) : Option ((Int32 × Int32) ⊕ (Int32 × Int32)) :=
  if 12 ≤ s.2 then
    some (.inr (s.1, s.2))
  else
    if ((a2 >>> (s.2 &&& 31)) &&& 1) = 0 then
      if s.1 = (-2) then
        some (.inl (s.2, s.2 + 1))
      else
        (rdI h 54 s.2).bind fun v4 =>
        (rdI h 54 s.1).bind fun v5 =>
        if (abI (v5 - a1)) ≤ (abI (v4 - a1)) then
          some (.inl (s.1, s.2 + 1))
        else
          some (.inl (s.2, s.2 + 1))
    else
      some (.inl (s.1, s.2 + 1))
theorem tb_X8_nearestTo_6 {x : Cx} (g : Gx x RX8 cX8_nearestTo 5 2) (a1 : Int32) (a2 : Int32) (h : Hp) (s : (Int32 × Int32)) (out : (Int32 × Int32) ⊕ (Int32 × Int32)) (H : b_X8_nearestTo_6 a1 a2 h s = some out) (K : Sum.elim (P_X8_nearestTo_6 x a1 a2 h) (E_X8_nearestTo_6 x a1 a2 h) out) : P_X8_nearestTo_6 x a1 a2 h s := by
  unfold b_X8_nearestTo_6 at H
  show WA x 6 [.ref 53, .int a1, .int a2, .int s.1, .int s.2] [] h
  refine st_iload g dX8_nearestTo_6 rfl ?_
  refine st_bipush g dX8_nearestTo_8 bi_12 ?_
  refine st_ic_ge g dX8_nearestTo_10 (tgt := 63) (by decide) H (fun q1 H => ?_) (fun q1 H => ?_)
  · obtain rfl := Option.some.inj H
    exact (wa_drop [0, 1, 2, 4] K)
  · refine st_iload_n g dX8_nearestTo_13 rfl ?_
    refine st_iload g dX8_nearestTo_14 rfl ?_
    refine st_ishr g dX8_nearestTo_16 ?_
    refine st_iconst g dX8_nearestTo_17 ic_1 ?_
    refine st_iand g dX8_nearestTo_18 ?_
    refine st_if_ne g dX8_nearestTo_19 (tgt := 57) (by decide) H (fun q2 H => ?_) (fun q2 H => ?_)
    · refine st_iinc g dX8_nearestTo_57 rfl (ii_1 _) (Nat.le_of_ble_eq_true rfl) rfl (ls2 := [.ref 53, .int a1, .int a2, .int s.1, .int (s.2 + 1)]) rfl ?_
      refine st_goto g dX8_nearestTo_60 (tgt := 6) (by decide) ?_
      obtain rfl := Option.some.inj H
      exact K
    · refine st_iload_n g dX8_nearestTo_22 rfl ?_
      refine st_bipush g dX8_nearestTo_23 bi_m2 ?_
      refine st_ic_eq g dX8_nearestTo_25 (tgt := 54) (by decide) H (fun q3 H => ?_) (fun q3 H => ?_)
      · refine st_iload g dX8_nearestTo_54 rfl ?_
        refine st_istore_n g dX8_nearestTo_56 (Nat.le_of_ble_eq_true rfl) rfl (ls2 := [.ref 53, .int a1, .int a2, .int s.2, .int s.2]) rfl ?_
        refine st_iinc g dX8_nearestTo_57 rfl (ii_1 _) (Nat.le_of_ble_eq_true rfl) rfl (ls2 := [.ref 53, .int a1, .int a2, .int s.2, .int (s.2 + 1)]) rfl ?_
        refine st_goto g dX8_nearestTo_60 (tgt := 6) (by decide) ?_
        obtain rfl := Option.some.inj H
        exact K
      · refine st_aload_n g dX8_nearestTo_28 rfl ?_
        refine gf_X8_9 g dX8_nearestTo_29 rfl (r := 54) rfl ?_
        refine st_iload g dX8_nearestTo_32 rfl ?_
        refine st_iald g dX8_nearestTo_34 H (fun v4 H => ?_)
        refine st_iload_n g dX8_nearestTo_35 rfl ?_
        refine st_isub g dX8_nearestTo_36 ?_
        refine st_abs g dX8_nearestTo_37 ml_X8_302 (Nat.le_of_ble_eq_true rfl) (Nat.le_of_ble_eq_true rfl) ?_
        refine st_aload_n g dX8_nearestTo_40 rfl ?_
        refine gf_X8_9 g dX8_nearestTo_41 rfl (r := 54) rfl ?_
        refine st_iload_n g dX8_nearestTo_44 rfl ?_
        refine st_iald g dX8_nearestTo_45 H (fun v5 H => ?_)
        refine st_iload_n g dX8_nearestTo_46 rfl ?_
        refine st_isub g dX8_nearestTo_47 ?_
        refine st_abs g dX8_nearestTo_48 ml_X8_302 (Nat.le_of_ble_eq_true rfl) (Nat.le_of_ble_eq_true rfl) ?_
        refine st_ic_ge g dX8_nearestTo_51 (tgt := 57) (by decide) H (fun q6 H => ?_) (fun q6 H => ?_)
        · refine st_iinc g dX8_nearestTo_57 rfl (ii_1 _) (Nat.le_of_ble_eq_true rfl) rfl (ls2 := [.ref 53, .int a1, .int a2, .int s.1, .int (s.2 + 1)]) rfl ?_
          refine st_goto g dX8_nearestTo_60 (tgt := 6) (by decide) ?_
          obtain rfl := Option.some.inj H
          exact K
        · refine st_iload g dX8_nearestTo_54 rfl ?_
          refine st_istore_n g dX8_nearestTo_56 (Nat.le_of_ble_eq_true rfl) rfl (ls2 := [.ref 53, .int a1, .int a2, .int s.2, .int s.2]) rfl ?_
          refine st_iinc g dX8_nearestTo_57 rfl (ii_1 _) (Nat.le_of_ble_eq_true rfl) rfl (ls2 := [.ref 53, .int a1, .int a2, .int s.2, .int (s.2 + 1)]) rfl ?_
          refine st_goto g dX8_nearestTo_60 (tgt := 6) (by decide) ?_
          obtain rfl := Option.some.inj H
          exact K
def f_X8_nearestTo (a1 : Int32) (a2 : Int32) (h : Hp) : Option Int32 :=
  (iter (b_X8_nearestTo_6 a1 a2 h) FU ((-2), 0)).bind fun a7 =>
  some a7.1
theorem t_X8_nearestTo {x : Cx} (g : Gx x RX8 cX8_nearestTo 5 2) (a1 : Int32) (a2 : Int32) (h : Hp) (out : Int32) (H : f_X8_nearestTo a1 a2 h = some out) (K : RtI x .int out h) : WA x 0 [.ref 53, .int a1, .int a2, .null, .null] [] h := by
  unfold f_X8_nearestTo at H
  refine st_bipush g dX8_nearestTo_0 bi_m2 ?_
  refine st_istore_n g dX8_nearestTo_2 (Nat.le_of_ble_eq_true rfl) rfl (ls2 := [.ref 53, .int a1, .int a2, .int (-2), .null]) rfl ?_
  refine st_iconst g dX8_nearestTo_3 ic_0 ?_
  refine st_istore g dX8_nearestTo_4 (Nat.le_of_ble_eq_true rfl) rfl (ls2 := [.ref 53, .int a1, .int a2, .int (-2), .int 0]) rfl ?_
  show P_X8_nearestTo_6 x a1 a2 h ((-2), 0)
  obtain ⟨a7, ha7, H⟩ := bind_some H
  refine iter_W (P := P_X8_nearestTo_6 x a1 a2 h) (E := E_X8_nearestTo_6 x a1 a2 h) (fun s9 o9 ho9 hK9 => tb_X8_nearestTo_6 g a1 a2 h s9 o9 ho9 hK9) FU _ a7 ha7 ?_
  show WA x 63 [.null, .null, .null, .int a7.1, .null] [] h
  refine st_iload_n g dX8_nearestTo_63 rfl ?_
  obtain rfl := Option.some.inj H
  exact st_iret g dX8_nearestTo_64 rfl (fun q => by cases q) K
theorem c_X8_nearestTo (a1 : Int32) (a2 : Int32) (h : Hp) (r : Int32) (H : f_X8_nearestTo a1 a2 h = some r) : CtI yX8_nearestTo cX8_nearestTo 5 .int 2 [.ref 53, .int a1, .int a2] h r h :=
  ct_ofI (own := RX8) [.ref 53, .int a1, .int a2, .null, .null] (by decide +kernel) rfl (fun ρ => Nat.le_of_ble_eq_true rfl) (fun ρ => rfl) (fun x g K => t_X8_nearestTo g a1 a2 h r H K)
def f_X8_days (a1 : Int32) (h : Hp) : Option (Int32 × Hp) :=
  (f_X8_within a1 1 99).bind fun r1 =>
  if r1 = 0 then
    some ((-1), h)
  else
    lt (stI h 53 10 (mnI 99 ((h.1 53 10) + a1))) fun h3 =>
    (rdI h3 73 4).bind fun v4 =>
    (wrI h3 73 4 (v4 + a1)).bind fun h5 =>
    some (h5.1 53 10, h5)
theorem t_X8_days {x : Cx} (g : Gx x RX8 cX8_days 2 2) (a1 : Int32) (h : Hp) (out : (Int32 × Hp)) (H : f_X8_days a1 h = some out) (K : RtI x .int out.1 out.2) : WA x 0 [.ref 53, .int a1] [] h := by
  unfold f_X8_days at H
  refine st_iload_n g dX8_days_0 rfl ?_
  refine st_iconst g dX8_days_1 ic_1 ?_
  refine st_bipush g dX8_days_2 bi_99 ?_
  obtain ⟨r1, hr1, H⟩ := bind_some H
  refine st_callSI g (as := [.int a1, .int 1, .int 99]) dX8_days_4 ml_X8_109 mf_X8_within rfl (Nat.le_of_ble_eq_true rfl) (Nat.le_of_ble_eq_true rfl) (c_X8_within a1 1 99 h _ hr1) (fun hz => ?_)
  have br1 := hz rfl
  refine st_if_ne g dX8_days_7 (tgt := 12) (by decide) H (fun q2 H => ?_) (fun q2 H => ?_)
  · refine st_aload_n g dX8_days_12 rfl ?_
    refine st_bipush g dX8_days_13 bi_99 ?_
    refine st_aload_n g dX8_days_15 rfl ?_
    refine gf_X8_127 g dX8_days_16 rfl ?_
    refine st_iload_n g dX8_days_19 rfl ?_
    refine st_iadd g dX8_days_20 ?_
    refine st_min g dX8_days_21 ml_X8_251 (Nat.le_of_ble_eq_true rfl) (Nat.le_of_ble_eq_true rfl) ?_
    refine pu_X8_127 g dX8_days_24 rfl ?_
    refine wa_ltH H (fun h3 H => ?_)
    refine st_aload_n g dX8_days_27 rfl ?_
    refine gf_X8_69 g dX8_days_28 rfl (r := 73) rfl ?_
    refine st_iconst g dX8_days_31 ic_4 ?_
    refine st_dup2 g dX8_days_32 rfl rfl ?_
    refine st_iald g dX8_days_33 H (fun v4 H => ?_)
    refine st_iload_n g dX8_days_34 rfl ?_
    refine st_iadd g dX8_days_35 ?_
    refine st_iast g dX8_days_36 H (fun h5 H => ?_)
    refine st_aload_n g dX8_days_37 rfl ?_
    refine gf_X8_127 g dX8_days_38 rfl ?_
    obtain rfl := Option.some.inj H
    exact st_iret g dX8_days_41 rfl (fun q => by cases q) K
  · refine st_iconst g dX8_days_10 ic_m1 ?_
    obtain rfl := Option.some.inj H
    exact st_iret g dX8_days_11 rfl (fun q => by cases q) K
theorem c_X8_days (a1 : Int32) (h : Hp) (r : (Int32 × Hp)) (H : f_X8_days a1 h = some r) : CtI yX8_days cX8_days 2 .int 2 [.ref 53, .int a1] h r.1 r.2 :=
  ct_ofI (own := RX8) [.ref 53, .int a1] (by decide +kernel) rfl (fun ρ => Nat.le_of_ble_eq_true rfl) (fun ρ => rfl) (fun x g K => t_X8_days g a1 h r H K)
def f_X8_led (a1 : Int32) (h : Hp) : Option Int32 :=
  (f_X8_within a1 0 5).bind fun r1 =>
  if r1 = 0 then
    some (-1)
  else
    (rdI h 73 a1).bind fun v3 =>
    some v3
theorem t_X8_led {x : Cx} (g : Gx x RX8 cX8_led 2 2) (a1 : Int32) (h : Hp) (out : Int32) (H : f_X8_led a1 h = some out) (K : RtI x .int out h) : WA x 0 [.ref 53, .int a1] [] h := by
  unfold f_X8_led at H
  refine st_iload_n g dX8_led_0 rfl ?_
  refine st_iconst g dX8_led_1 ic_0 ?_
  refine st_iconst g dX8_led_2 ic_5 ?_
  obtain ⟨r1, hr1, H⟩ := bind_some H
  refine st_callSI g (as := [.int a1, .int 0, .int 5]) dX8_led_3 ml_X8_109 mf_X8_within rfl (Nat.le_of_ble_eq_true rfl) (Nat.le_of_ble_eq_true rfl) (c_X8_within a1 0 5 h _ hr1) (fun hz => ?_)
  have br1 := hz rfl
  refine st_if_eq g dX8_led_6 (tgt := 18) (by decide) H (fun q2 H => ?_) (fun q2 H => ?_)
  · refine st_iconst g dX8_led_18 ic_m1 ?_
    obtain rfl := Option.some.inj H
    exact st_iret g dX8_led_19 rfl (fun q => by cases q) K
  · refine st_aload_n g dX8_led_9 rfl ?_
    refine gf_X8_69 g dX8_led_10 rfl (r := 73) rfl ?_
    refine st_iload_n g dX8_led_13 rfl ?_
    refine st_iald g dX8_led_14 H (fun v3 H => ?_)
    refine st_goto g dX8_led_15 (tgt := 19) (by decide) ?_
    obtain rfl := Option.some.inj H
    exact st_iret g dX8_led_19 rfl (fun q => by cases q) K
theorem c_X8_led (a1 : Int32) (h : Hp) (r : Int32) (H : f_X8_led a1 h = some r) : CtI yX8_led cX8_led 2 .int 2 [.ref 53, .int a1] h r h :=
  ct_ofI (own := RX8) [.ref 53, .int a1] (by decide +kernel) rfl (fun ρ => Nat.le_of_ble_eq_true rfl) (fun ρ => rfl) (fun x g K => t_X8_led g a1 h r H K)
def P_X8_image_23 (x : Cx) (s : (Int32 × Hp)) : Prop := WA x 23 [.ref 53, .int s.1] [] s.2
def E_X8_image_23 (x : Cx) : (Int32 × Hp) → Prop := fun s : (Int32 × Hp) => WA x 47 [.ref 53, .null] [] s.2
def b_X8_image_23 (s : (Int32 × Hp)) : Option ((Int32 × Hp) ⊕ (Int32 × Hp)) :=
  if 6 ≤ s.1 then
    some (.inr (s.1, s.2))
  else
    (rdI s.2 73 s.1).bind fun v5 =>
    (wrI s.2 75 s.1 v5).bind fun h6 =>
    some (.inl (s.1 + 1, h6))
theorem tb_X8_image_23 {x : Cx} (g : Gx x RX8 cX8_image 2 2) (s : (Int32 × Hp)) (out : (Int32 × Hp) ⊕ (Int32 × Hp)) (H : b_X8_image_23 s = some out) (K : Sum.elim (P_X8_image_23 x) (E_X8_image_23 x) out) : P_X8_image_23 x s := by
  unfold b_X8_image_23 at H
  show WA x 23 [.ref 53, .int s.1] [] s.2
  refine st_iload_n g dX8_image_23 rfl ?_
  refine st_bipush g dX8_image_24 bi_6 ?_
  refine st_ic_ge g dX8_image_26 (tgt := 47) (by decide) H (fun q4 H => ?_) (fun q4 H => ?_)
  · obtain rfl := Option.some.inj H
    exact (wa_drop [1] K)
  · refine st_aload_n g dX8_image_29 rfl ?_
    refine gf_X8_75 g dX8_image_30 rfl (r := 75) rfl ?_
    refine st_iload_n g dX8_image_33 rfl ?_
    refine st_aload_n g dX8_image_34 rfl ?_
    refine gf_X8_69 g dX8_image_35 rfl (r := 73) rfl ?_
    refine st_iload_n g dX8_image_38 rfl ?_
    refine st_iald g dX8_image_39 H (fun v5 H => ?_)
    refine st_iast g dX8_image_40 H (fun h6 H => ?_)
    refine st_iinc g dX8_image_41 rfl (ii_1 _) (Nat.le_of_ble_eq_true rfl) rfl (ls2 := [.ref 53, .int (s.1 + 1)]) rfl ?_
    refine st_goto g dX8_image_44 (tgt := 23) (by decide) ?_
    obtain rfl := Option.some.inj H
    exact K
def f_X8_image (h : Hp) : Option (Int32 × Hp) :=
  lt (stI h 53 30 1) fun h1 =>
  lt (stI h1 53 31 (h1.1 53 4)) fun h2 =>
  (f_X8_keeps 74 h2).bind fun r3 =>
  (iter (b_X8_image_23) FU (0, r3)).bind fun a7 =>
  (rdI a7.2 73 0).bind fun v8 =>
  some (v8, a7.2)
theorem t_X8_image {x : Cx} (g : Gx x RX8 cX8_image 2 2) (h : Hp) (out : (Int32 × Hp)) (H : f_X8_image h = some out) (K : RtI x .int out.1 out.2) : WA x 0 [.ref 53, .null] [] h := by
  unfold f_X8_image at H
  refine st_aload_n g dX8_image_0 rfl ?_
  refine st_iconst g dX8_image_1 ic_1 ?_
  refine pu_X8_321 g dX8_image_2 rfl rfl rfl ?_
  refine wa_ltH H (fun h1 H => ?_)
  refine st_aload_n g dX8_image_5 rfl ?_
  refine st_aload_n g dX8_image_6 rfl ?_
  refine gf_X8_117 g dX8_image_7 rfl ?_
  refine pu_X8_324 g dX8_image_10 rfl ?_
  refine wa_ltH H (fun h2 H => ?_)
  refine st_aload_n g dX8_image_13 rfl ?_
  refine st_aload_n g dX8_image_14 rfl ?_
  refine gf_X8_72 g dX8_image_15 rfl (r := 74) rfl ?_
  obtain ⟨r3, hr3, H⟩ := bind_some H
  refine st_callVV g (as := [.ref 74]) dX8_image_18 rfl rfl ml_X8_266 mf_X8_keeps rfl (Nat.le_of_ble_eq_true rfl) (Nat.le_of_ble_eq_true rfl) (c_X8_keeps 74 h2 _ hr3) ?_
  refine st_iconst g dX8_image_21 ic_0 ?_
  refine st_istore_n g dX8_image_22 (Nat.le_of_ble_eq_true rfl) rfl (ls2 := [.ref 53, .int 0]) rfl ?_
  show P_X8_image_23 x (0, r3)
  obtain ⟨a7, ha7, H⟩ := bind_some H
  refine iter_W (P := P_X8_image_23 x) (E := E_X8_image_23 x) (fun s9 o9 ho9 hK9 => tb_X8_image_23 g s9 o9 ho9 hK9) FU _ a7 ha7 ?_
  show WA x 47 [.ref 53, .null] [] a7.2
  refine st_aload_n g dX8_image_47 rfl ?_
  refine gf_X8_69 g dX8_image_48 rfl (r := 73) rfl ?_
  refine st_iconst g dX8_image_51 ic_0 ?_
  refine st_iald g dX8_image_52 H (fun v8 H => ?_)
  obtain rfl := Option.some.inj H
  exact st_iret g dX8_image_53 rfl (fun q => by cases q) K
theorem c_X8_image (h : Hp) (r : (Int32 × Hp)) (H : f_X8_image h = some r) : CtI yX8_image cX8_image 2 .int 2 [.ref 53] h r.1 r.2 :=
  ct_ofI (own := RX8) [.ref 53, .null] (by decide +kernel) rfl (fun ρ => Nat.le_of_ble_eq_true rfl) (fun ρ => rfl) (fun x g K => t_X8_image g h r H K)
def f_X8_body (a1 : Int32) (h : Hp) : Option (Int32 × Hp) :=
  (f_X8_within a1 0 7).bind fun r1 =>
  if r1 = 0 then
    some ((-1), h)
  else
    if (h.1 53 37) = 50 then
      some ((-3), h)
    else
      (wrI h 77 (h.1 53 37) a1).bind fun h4 =>
      lt (stI h4 53 37 ((h4.1 53 37) + 1)) fun h5 =>
      some (h4.1 53 37, h5)
theorem t_X8_body {x : Cx} (g : Gx x RX8 cX8_body 2 2) (a1 : Int32) (h : Hp) (out : (Int32 × Hp)) (H : f_X8_body a1 h = some out) (K : RtI x .int out.1 out.2) : WA x 0 [.ref 53, .int a1] [] h := by
  unfold f_X8_body at H
  refine st_iload_n g dX8_body_0 rfl ?_
  refine st_iconst g dX8_body_1 ic_0 ?_
  refine st_bipush g dX8_body_2 bi_7 ?_
  obtain ⟨r1, hr1, H⟩ := bind_some H
  refine st_callSI g (as := [.int a1, .int 0, .int 7]) dX8_body_4 ml_X8_109 mf_X8_within rfl (Nat.le_of_ble_eq_true rfl) (Nat.le_of_ble_eq_true rfl) (c_X8_within a1 0 7 h _ hr1) (fun hz => ?_)
  have br1 := hz rfl
  refine st_if_ne g dX8_body_7 (tgt := 12) (by decide) H (fun q2 H => ?_) (fun q2 H => ?_)
  · refine st_aload_n g dX8_body_12 rfl ?_
    refine gf_X8_349 g dX8_body_13 rfl ?_
    refine st_bipush g dX8_body_16 bi_50 ?_
    refine st_ic_ne g dX8_body_18 (tgt := 24) (by decide) H (fun q3 H => ?_) (fun q3 H => ?_)
    · refine st_aload_n g dX8_body_24 rfl ?_
      refine gf_X8_81 g dX8_body_25 rfl (r := 77) rfl ?_
      refine st_aload_n g dX8_body_28 rfl ?_
      refine gf_X8_349 g dX8_body_29 rfl ?_
      refine st_iload_n g dX8_body_32 rfl ?_
      refine st_iast g dX8_body_33 H (fun h4 H => ?_)
      refine st_aload_n g dX8_body_34 rfl ?_
      refine st_dup g dX8_body_35 rfl ?_
      refine gf_X8_349 g dX8_body_36 rfl ?_
      refine st_dup_x1 g dX8_body_39 rfl rfl ?_
      refine st_iconst g dX8_body_40 ic_1 ?_
      refine st_iadd g dX8_body_41 ?_
      refine pu_X8_349 g dX8_body_42 rfl ?_
      refine wa_ltH H (fun h5 H => ?_)
      obtain rfl := Option.some.inj H
      exact st_iret g dX8_body_45 rfl (fun q => by cases q) K
    · refine st_bipush g dX8_body_21 bi_m3 ?_
      obtain rfl := Option.some.inj H
      exact st_iret g dX8_body_23 rfl (fun q => by cases q) K
  · refine st_iconst g dX8_body_10 ic_m1 ?_
    obtain rfl := Option.some.inj H
    exact st_iret g dX8_body_11 rfl (fun q => by cases q) K
theorem c_X8_body (a1 : Int32) (h : Hp) (r : (Int32 × Hp)) (H : f_X8_body a1 h = some r) : CtI yX8_body cX8_body 2 .int 2 [.ref 53, .int a1] h r.1 r.2 :=
  ct_ofI (own := RX8) [.ref 53, .int a1] (by decide +kernel) rfl (fun ρ => Nat.le_of_ble_eq_true rfl) (fun ρ => rfl) (fun x g K => t_X8_body g a1 h r H K)
def f_X8_trace (a1 : Int32) (h : Hp) : Option Int32 :=
  (f_X8_within a1 0 ((mnI 24 (h.1 53 39)) - 1)).bind fun r1 =>
  if r1 = 0 then
    some (-1)
  else
    (rdI h 78 a1).bind fun v3 =>
    some v3
theorem t_X8_trace {x : Cx} (g : Gx x RX8 cX8_trace 2 2) (a1 : Int32) (h : Hp) (out : Int32) (H : f_X8_trace a1 h = some out) (K : RtI x .int out h) : WA x 0 [.ref 53, .int a1] [] h := by
  unfold f_X8_trace at H
  refine st_iload_n g dX8_trace_0 rfl ?_
  refine st_iconst g dX8_trace_1 ic_0 ?_
  refine st_bipush g dX8_trace_2 bi_24 ?_
  refine st_aload_n g dX8_trace_4 rfl ?_
  refine gf_X8_327 g dX8_trace_5 rfl ?_
  refine st_min g dX8_trace_8 ml_X8_251 (Nat.le_of_ble_eq_true rfl) (Nat.le_of_ble_eq_true rfl) ?_
  refine st_iconst g dX8_trace_11 ic_1 ?_
  refine st_isub g dX8_trace_12 ?_
  obtain ⟨r1, hr1, H⟩ := bind_some H
  refine st_callSI g (as := [.int a1, .int 0, .int ((mnI 24 (h.1 53 39)) - 1)]) dX8_trace_13 ml_X8_109 mf_X8_within rfl (Nat.le_of_ble_eq_true rfl) (Nat.le_of_ble_eq_true rfl) (c_X8_within a1 0 ((mnI 24 (h.1 53 39)) - 1) h _ hr1) (fun hz => ?_)
  have br1 := hz rfl
  refine st_if_eq g dX8_trace_16 (tgt := 28) (by decide) H (fun q2 H => ?_) (fun q2 H => ?_)
  · refine st_iconst g dX8_trace_28 ic_m1 ?_
    obtain rfl := Option.some.inj H
    exact st_iret g dX8_trace_29 rfl (fun q => by cases q) K
  · refine st_aload_n g dX8_trace_19 rfl ?_
    refine gf_X8_84 g dX8_trace_20 rfl (r := 78) rfl ?_
    refine st_iload_n g dX8_trace_23 rfl ?_
    refine st_iald g dX8_trace_24 H (fun v3 H => ?_)
    refine st_goto g dX8_trace_25 (tgt := 29) (by decide) ?_
    obtain rfl := Option.some.inj H
    exact st_iret g dX8_trace_29 rfl (fun q => by cases q) K
theorem c_X8_trace (a1 : Int32) (h : Hp) (r : Int32) (H : f_X8_trace a1 h = some r) : CtI yX8_trace cX8_trace 2 .int 2 [.ref 53, .int a1] h r h :=
  ct_ofI (own := RX8) [.ref 53, .int a1] (by decide +kernel) rfl (fun ρ => Nat.le_of_ble_eq_true rfl) (fun ρ => rfl) (fun x g K => t_X8_trace g a1 h r H K)
def f_X8_isRow (a1 : Int32) (h : Hp) : Option Int32 :=
  (rdI h 79 a1).bind fun v1 =>
  (f_X8_within v1 0 4).bind fun r2 =>
  some r2
theorem t_X8_isRow {x : Cx} (g : Gx x RX8 cX8_isRow 2 2) (a1 : Int32) (h : Hp) (out : Int32) (H : f_X8_isRow a1 h = some out) (K : RtI x .boolean out h) : WA x 0 [.ref 53, .int a1] [] h := by
  unfold f_X8_isRow at H
  refine st_aload_n g dX8_isRow_0 rfl ?_
  refine gf_X8_87 g dX8_isRow_1 rfl (r := 79) rfl ?_
  refine st_iload_n g dX8_isRow_4 rfl ?_
  refine st_iald g dX8_isRow_5 H (fun v1 H => ?_)
  refine st_iconst g dX8_isRow_6 ic_0 ?_
  refine st_iconst g dX8_isRow_7 ic_4 ?_
  obtain ⟨r2, hr2, H⟩ := bind_some H
  refine st_callSI g (as := [.int v1, .int 0, .int 4]) dX8_isRow_8 ml_X8_109 mf_X8_within rfl (Nat.le_of_ble_eq_true rfl) (Nat.le_of_ble_eq_true rfl) (c_X8_within v1 0 4 h _ hr2) (fun hz => ?_)
  have br2 := hz rfl
  obtain rfl := Option.some.inj H
  exact st_iret g dX8_isRow_11 (bo_nar br2) (fun _ => br2) K
theorem c_X8_isRow (a1 : Int32) (h : Hp) (r : Int32) (H : f_X8_isRow a1 h = some r) : CtI yX8_isRow cX8_isRow 2 .boolean 2 [.ref 53, .int a1] h r h :=
  ct_ofI (own := RX8) [.ref 53, .int a1] (by decide +kernel) rfl (fun ρ => Nat.le_of_ble_eq_true rfl) (fun ρ => rfl) (fun x g K => t_X8_isRow g a1 h r H K)
