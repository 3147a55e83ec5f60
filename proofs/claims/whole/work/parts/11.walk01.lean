def f_X7_isHouse (a0 : Int32) : Option Int32 :=
  if a0 < 0 then
    some 0
  else
    if 12 ≤ a0 then
      some 0
    else
      some 1
theorem t_X7_isHouse {x : Cx} (g : Gx x RX7 cX7_isHouse 1 1) (a0 : Int32) (h : Hp) (out : Int32) (H : f_X7_isHouse a0 = some out) (K : RtI x .boolean out h) : WA x 0 [.int a0] [] h := by
  unfold f_X7_isHouse at H
  refine st_iload_n g dX7_isHouse_0 rfl ?_
  refine st_if_lt g dX7_isHouse_1 (tgt := 14) (by decide) H (fun q1 H => ?_) (fun q1 H => ?_)
  · refine st_iconst g dX7_isHouse_14 ic_0 ?_
    obtain rfl := Option.some.inj H
    exact st_iret g dX7_isHouse_15 rfl (fun _ => Or.inl rfl) K
  · refine st_iload_n g dX7_isHouse_4 rfl ?_
    refine st_bipush g dX7_isHouse_5 bi_12 ?_
    refine st_ic_ge g dX7_isHouse_7 (tgt := 14) (by decide) H (fun q2 H => ?_) (fun q2 H => ?_)
    · refine st_iconst g dX7_isHouse_14 ic_0 ?_
      obtain rfl := Option.some.inj H
      exact st_iret g dX7_isHouse_15 rfl (fun _ => Or.inl rfl) K
    · refine st_iconst g dX7_isHouse_10 ic_1 ?_
      refine st_goto g dX7_isHouse_11 (tgt := 15) (by decide) ?_
      obtain rfl := Option.some.inj H
      exact st_iret g dX7_isHouse_15 rfl (fun _ => Or.inr rfl) K
theorem c_X7_isHouse (a0 : Int32) (h : Hp) (r : Int32) (H : f_X7_isHouse a0 = some r) : CtI yX7_isHouse cX7_isHouse 1 .boolean 1 [.int a0] h r h :=
  ct_ofI (own := RX7) [.int a0] (by decide +kernel) rfl (fun ρ => Nat.le_of_ble_eq_true rfl) (fun ρ => rfl) (fun x g K => t_X7_isHouse g a0 h r H K)
def f_X3_settle (a1 : Int32) (h : Hp) : Option (Int32 × Hp) :=
  (wrI h 2 (h.1 1 0) a1).bind fun h1 =>
  (wrI h1 3 (h1.1 1 0) 6).bind fun h2 =>
  lt (stI h2 1 0 ((h2.1 1 0) + 1)) fun h3 =>
  some (h2.1 1 0, h3)
theorem t_X3_settle {x : Cx} (g : Gx x RX3 cX3_settle 2 1) (a1 : Int32) (h : Hp) (out : (Int32 × Hp)) (H : f_X3_settle a1 h = some out) (K : RtI x .int out.1 out.2) : WA x 0 [.ref 1, .int a1] [] h := by
  unfold f_X3_settle at H
  refine st_aload_n g dX3_settle_0 rfl ?_
  refine gf_X3_15 g dX3_settle_1 rfl (r := 2) rfl ?_
  refine st_aload_n g dX3_settle_4 rfl ?_
  refine gf_X3_9 g dX3_settle_5 rfl ?_
  refine st_iload_n g dX3_settle_8 rfl ?_
  refine st_iast g dX3_settle_9 H (fun h1 H => ?_)
  refine st_aload_n g dX3_settle_10 rfl ?_
  refine gf_X3_19 g dX3_settle_11 rfl (r := 3) rfl ?_
  refine st_aload_n g dX3_settle_14 rfl ?_
  refine gf_X3_9 g dX3_settle_15 rfl ?_
  refine st_bipush g dX3_settle_18 bi_6 ?_
  refine st_iast g dX3_settle_20 H (fun h2 H => ?_)
  refine st_aload_n g dX3_settle_21 rfl ?_
  refine st_dup g dX3_settle_22 rfl ?_
  refine gf_X3_9 g dX3_settle_23 rfl ?_
  refine st_dup_x1 g dX3_settle_26 rfl rfl ?_
  refine st_iconst g dX3_settle_27 ic_1 ?_
  refine st_iadd g dX3_settle_28 ?_
  refine pu_X3_9 g dX3_settle_29 rfl ?_
  refine wa_ltH H (fun h3 H => ?_)
  obtain rfl := Option.some.inj H
  exact st_iret g dX3_settle_32 rfl (fun q => by cases q) K
theorem c_X3_settle (a1 : Int32) (h : Hp) (r : (Int32 × Hp)) (H : f_X3_settle a1 h = some r) : CtI yX3_settle cX3_settle 2 .int 1 [.ref 1, .int a1] h r.1 r.2 :=
  ct_ofI (own := RX3) [.ref 1, .int a1] (by decide +kernel) rfl (fun ρ => Nat.le_of_ble_eq_true rfl) (fun ρ => rfl) (fun x g K => t_X3_settle g a1 h r H K)
def f_X3_isOne (a1 : Int32) (h : Hp) : Option Int32 :=
  if a1 < 0 then
    some 0
  else
    if (h.1 1 0) ≤ a1 then
      some 0
    else
      some 1
theorem t_X3_isOne {x : Cx} (g : Gx x RX3 cX3_isOne 2 1) (a1 : Int32) (h : Hp) (out : Int32) (H : f_X3_isOne a1 h = some out) (K : RtI x .boolean out h) : WA x 0 [.ref 1, .int a1] [] h := by
  unfold f_X3_isOne at H
  refine st_iload_n g dX3_isOne_0 rfl ?_
  refine st_if_lt g dX3_isOne_1 (tgt := 16) (by decide) H (fun q1 H => ?_) (fun q1 H => ?_)
  · refine st_iconst g dX3_isOne_16 ic_0 ?_
    obtain rfl := Option.some.inj H
    exact st_iret g dX3_isOne_17 rfl (fun _ => Or.inl rfl) K
  · refine st_iload_n g dX3_isOne_4 rfl ?_
    refine st_aload_n g dX3_isOne_5 rfl ?_
    refine gf_X3_9 g dX3_isOne_6 rfl ?_
    refine st_ic_ge g dX3_isOne_9 (tgt := 16) (by decide) H (fun q2 H => ?_) (fun q2 H => ?_)
    · refine st_iconst g dX3_isOne_16 ic_0 ?_
      obtain rfl := Option.some.inj H
      exact st_iret g dX3_isOne_17 rfl (fun _ => Or.inl rfl) K
    · refine st_iconst g dX3_isOne_12 ic_1 ?_
      refine st_goto g dX3_isOne_13 (tgt := 17) (by decide) ?_
      obtain rfl := Option.some.inj H
      exact st_iret g dX3_isOne_17 rfl (fun _ => Or.inr rfl) K
theorem c_X3_isOne (a1 : Int32) (h : Hp) (r : Int32) (H : f_X3_isOne a1 h = some r) : CtI yX3_isOne cX3_isOne 2 .boolean 1 [.ref 1, .int a1] h r h :=
  ct_ofI (own := RX3) [.ref 1, .int a1] (by decide +kernel) rfl (fun ρ => Nat.le_of_ble_eq_true rfl) (fun ρ => rfl) (fun x g K => t_X3_isOne g a1 h r H K)
def f_X3_offend (a1 : Int32) (a2 : Int32) (a3 : Int32) (h : Hp) : Option (Int32 × Hp) :=
  (wrI h 4 (h.1 1 3) a1).bind fun h1 =>
  (wrI h1 5 (h1.1 1 3) a2).bind fun h2 =>
  (wrI h2 6 (h2.1 1 3) a3).bind fun h3 =>
  lt (stI h3 1 3 ((h3.1 1 3) + 1)) fun h4 =>
  some (h3.1 1 3, h4)
theorem t_X3_offend {x : Cx} (g : Gx x RX3 cX3_offend 4 1) (a1 : Int32) (a2 : Int32) (a3 : Int32) (h : Hp) (out : (Int32 × Hp)) (H : f_X3_offend a1 a2 a3 h = some out) (K : RtI x .int out.1 out.2) : WA x 0 [.ref 1, .int a1, .int a2, .int a3] [] h := by
  unfold f_X3_offend at H
  refine st_aload_n g dX3_offend_0 rfl ?_
  refine gf_X3_25 g dX3_offend_1 rfl (r := 4) rfl ?_
  refine st_aload_n g dX3_offend_4 rfl ?_
  refine gf_X3_22 g dX3_offend_5 rfl ?_
  refine st_iload_n g dX3_offend_8 rfl ?_
  refine st_iast g dX3_offend_9 H (fun h1 H => ?_)
  refine st_aload_n g dX3_offend_10 rfl ?_
  refine gf_X3_28 g dX3_offend_11 rfl (r := 5) rfl ?_
  refine st_aload_n g dX3_offend_14 rfl ?_
  refine gf_X3_22 g dX3_offend_15 rfl ?_
  refine st_iload_n g dX3_offend_18 rfl ?_
  refine st_iast g dX3_offend_19 H (fun h2 H => ?_)
  refine st_aload_n g dX3_offend_20 rfl ?_
  refine gf_X3_31 g dX3_offend_21 rfl (r := 6) rfl ?_
  refine st_aload_n g dX3_offend_24 rfl ?_
  refine gf_X3_22 g dX3_offend_25 rfl ?_
  refine st_iload_n g dX3_offend_28 rfl ?_
  refine st_iast g dX3_offend_29 H (fun h3 H => ?_)
  refine st_aload_n g dX3_offend_30 rfl ?_
  refine st_dup g dX3_offend_31 rfl ?_
  refine gf_X3_22 g dX3_offend_32 rfl ?_
  refine st_dup_x1 g dX3_offend_35 rfl rfl ?_
  refine st_iconst g dX3_offend_36 ic_1 ?_
  refine st_iadd g dX3_offend_37 ?_
  refine pu_X3_22 g dX3_offend_38 rfl ?_
  refine wa_ltH H (fun h4 H => ?_)
  obtain rfl := Option.some.inj H
  exact st_iret g dX3_offend_41 rfl (fun q => by cases q) K
theorem c_X3_offend (a1 : Int32) (a2 : Int32) (a3 : Int32) (h : Hp) (r : (Int32 × Hp)) (H : f_X3_offend a1 a2 a3 h = some r) : CtI yX3_offend cX3_offend 4 .int 1 [.ref 1, .int a1, .int a2, .int a3] h r.1 r.2 :=
  ct_ofI (own := RX3) [.ref 1, .int a1, .int a2, .int a3] (by decide +kernel) rfl (fun ρ => Nat.le_of_ble_eq_true rfl) (fun ρ => rfl) (fun x g K => t_X3_offend g a1 a2 a3 h r H K)
def f_X6_isShelf (a1 : Int32) : Option Int32 :=
  if a1 < 0 then
    some 0
  else
    if 6 ≤ a1 then
      some 0
    else
      some 1
theorem t_X6_isShelf {x : Cx} (g : Gx x RX6 cX6_isShelf 2 1) (a1 : Int32) (h : Hp) (out : Int32) (H : f_X6_isShelf a1 = some out) (K : RtI x .boolean out h) : WA x 0 [.ref 30, .int a1] [] h := by
  unfold f_X6_isShelf at H
  refine st_iload_n g dX6_isShelf_0 rfl ?_
  refine st_if_lt g dX6_isShelf_1 (tgt := 14) (by decide) H (fun q1 H => ?_) (fun q1 H => ?_)
  · refine st_iconst g dX6_isShelf_14 ic_0 ?_
    obtain rfl := Option.some.inj H
    exact st_iret g dX6_isShelf_15 rfl (fun _ => Or.inl rfl) K
  · refine st_iload_n g dX6_isShelf_4 rfl ?_
    refine st_bipush g dX6_isShelf_5 bi_6 ?_
    refine st_ic_ge g dX6_isShelf_7 (tgt := 14) (by decide) H (fun q2 H => ?_) (fun q2 H => ?_)
    · refine st_iconst g dX6_isShelf_14 ic_0 ?_
      obtain rfl := Option.some.inj H
      exact st_iret g dX6_isShelf_15 rfl (fun _ => Or.inl rfl) K
    · refine st_iconst g dX6_isShelf_10 ic_1 ?_
      refine st_goto g dX6_isShelf_11 (tgt := 15) (by decide) ?_
      obtain rfl := Option.some.inj H
      exact st_iret g dX6_isShelf_15 rfl (fun _ => Or.inr rfl) K
theorem c_X6_isShelf (a1 : Int32) (h : Hp) (r : Int32) (H : f_X6_isShelf a1 = some r) : CtI yX6_isShelf cX6_isShelf 2 .boolean 1 [.ref 30, .int a1] h r h :=
  ct_ofI (own := RX6) [.ref 30, .int a1] (by decide +kernel) rfl (fun ρ => Nat.le_of_ble_eq_true rfl) (fun ρ => rfl) (fun x g K => t_X6_isShelf g a1 h r H K)
def f_X6_isEmpty (a1 : Int32) (h : Hp) : Option Int32 :=
  (rdI h 39 a1).bind fun v1 =>
  if v1 = (-1) then
    some 1
  else
    some 0
theorem t_X6_isEmpty {x : Cx} (g : Gx x RX6 cX6_isEmpty 2 1) (a1 : Int32) (h : Hp) (out : Int32) (H : f_X6_isEmpty a1 h = some out) (K : RtI x .boolean out h) : WA x 0 [.ref 30, .int a1] [] h := by
  unfold f_X6_isEmpty at H
  refine st_aload_n g dX6_isEmpty_0 rfl ?_
  refine gf_X6_20 g dX6_isEmpty_1 rfl (r := 39) rfl ?_
  refine st_iload_n g dX6_isEmpty_4 rfl ?_
  refine st_iald g dX6_isEmpty_5 H (fun v1 H => ?_)
  refine st_iconst g dX6_isEmpty_6 ic_m1 ?_
  refine st_ic_ne g dX6_isEmpty_7 (tgt := 14) (by decide) H (fun q2 H => ?_) (fun q2 H => ?_)
  · refine st_iconst g dX6_isEmpty_14 ic_0 ?_
    obtain rfl := Option.some.inj H
    exact st_iret g dX6_isEmpty_15 rfl (fun _ => Or.inl rfl) K
  · refine st_iconst g dX6_isEmpty_10 ic_1 ?_
    refine st_goto g dX6_isEmpty_11 (tgt := 15) (by decide) ?_
    obtain rfl := Option.some.inj H
    exact st_iret g dX6_isEmpty_15 rfl (fun _ => Or.inr rfl) K
theorem c_X6_isEmpty (a1 : Int32) (h : Hp) (r : Int32) (H : f_X6_isEmpty a1 h = some r) : CtI yX6_isEmpty cX6_isEmpty 2 .boolean 1 [.ref 30, .int a1] h r h :=
  ct_ofI (own := RX6) [.ref 30, .int a1] (by decide +kernel) rfl (fun ρ => Nat.le_of_ble_eq_true rfl) (fun ρ => rfl) (fun x g K => t_X6_isEmpty g a1 h r H K)
def f_X6_isRowOf (a1 : Int32) (a2 : Int32) (h : Hp) : Option Int32 :=
  (rdI h 39 a1).bind fun v1 =>
  if v1 = a2 then
    some 1
  else
    some 0
theorem t_X6_isRowOf {x : Cx} (g : Gx x RX6 cX6_isRowOf 3 1) (a1 : Int32) (a2 : Int32) (h : Hp) (out : Int32) (H : f_X6_isRowOf a1 a2 h = some out) (K : RtI x .boolean out h) : WA x 0 [.ref 30, .int a1, .int a2] [] h := by
  unfold f_X6_isRowOf at H
  refine st_aload_n g dX6_isRowOf_0 rfl ?_
  refine gf_X6_20 g dX6_isRowOf_1 rfl (r := 39) rfl ?_
  refine st_iload_n g dX6_isRowOf_4 rfl ?_
  refine st_iald g dX6_isRowOf_5 H (fun v1 H => ?_)
  refine st_iload_n g dX6_isRowOf_6 rfl ?_
  refine st_ic_ne g dX6_isRowOf_7 (tgt := 14) (by decide) H (fun q2 H => ?_) (fun q2 H => ?_)
  · refine st_iconst g dX6_isRowOf_14 ic_0 ?_
    obtain rfl := Option.some.inj H
    exact st_iret g dX6_isRowOf_15 rfl (fun _ => Or.inl rfl) K
  · refine st_iconst g dX6_isRowOf_10 ic_1 ?_
    refine st_goto g dX6_isRowOf_11 (tgt := 15) (by decide) ?_
    obtain rfl := Option.some.inj H
    exact st_iret g dX6_isRowOf_15 rfl (fun _ => Or.inr rfl) K
theorem c_X6_isRowOf (a1 : Int32) (a2 : Int32) (h : Hp) (r : Int32) (H : f_X6_isRowOf a1 a2 h = some r) : CtI yX6_isRowOf cX6_isRowOf 3 .boolean 1 [.ref 30, .int a1, .int a2] h r h :=
  ct_ofI (own := RX6) [.ref 30, .int a1, .int a2] (by decide +kernel) rfl (fun ρ => Nat.le_of_ble_eq_true rfl) (fun ρ => rfl) (fun x g K => t_X6_isRowOf g a1 a2 h r H K)
def f_X6_hasPart (a1 : Int32) (a2 : Int32) (a3 : Int32) (h : Hp) : Option Int32 :=
  if a2 < 0 then
    some 0
  else
    if a3 < 0 then
      some 0
    else
      (rdI h 38 a1).bind fun v3 =>
      if v3 < a3 then
        some 0
      else
        (rdI h 38 a1).bind fun v5 =>
        if (v5 - a3) < a2 then
          some 0
        else
          some 1
theorem t_X6_hasPart {x : Cx} (g : Gx x RX6 cX6_hasPart 4 1) (a1 : Int32) (a2 : Int32) (a3 : Int32) (h : Hp) (out : Int32) (H : f_X6_hasPart a1 a2 a3 h = some out) (K : RtI x .boolean out h) : WA x 0 [.ref 30, .int a1, .int a2, .int a3] [] h := by
  unfold f_X6_hasPart at H
  refine st_iload_n g dX6_hasPart_0 rfl ?_
  refine st_if_lt g dX6_hasPart_1 (tgt := 34) (by decide) H (fun q1 H => ?_) (fun q1 H => ?_)
  · refine st_iconst g dX6_hasPart_34 ic_0 ?_
    obtain rfl := Option.some.inj H
    exact st_iret g dX6_hasPart_35 rfl (fun _ => Or.inl rfl) K
  · refine st_iload_n g dX6_hasPart_4 rfl ?_
    refine st_if_lt g dX6_hasPart_5 (tgt := 34) (by decide) H (fun q2 H => ?_) (fun q2 H => ?_)
    · refine st_iconst g dX6_hasPart_34 ic_0 ?_
      obtain rfl := Option.some.inj H
      exact st_iret g dX6_hasPart_35 rfl (fun _ => Or.inl rfl) K
    · refine st_iload_n g dX6_hasPart_8 rfl ?_
      refine st_aload_n g dX6_hasPart_9 rfl ?_
      refine gf_X6_16 g dX6_hasPart_10 rfl (r := 38) rfl ?_
      refine st_iload_n g dX6_hasPart_13 rfl ?_
      refine st_iald g dX6_hasPart_14 H (fun v3 H => ?_)
      refine st_ic_gt g dX6_hasPart_15 (tgt := 34) (by decide) H (fun q4 H => ?_) (fun q4 H => ?_)
      · refine st_iconst g dX6_hasPart_34 ic_0 ?_
        obtain rfl := Option.some.inj H
        exact st_iret g dX6_hasPart_35 rfl (fun _ => Or.inl rfl) K
      · refine st_iload_n g dX6_hasPart_18 rfl ?_
        refine st_aload_n g dX6_hasPart_19 rfl ?_
        refine gf_X6_16 g dX6_hasPart_20 rfl (r := 38) rfl ?_
        refine st_iload_n g dX6_hasPart_23 rfl ?_
        refine st_iald g dX6_hasPart_24 H (fun v5 H => ?_)
        refine st_iload_n g dX6_hasPart_25 rfl ?_
        refine st_isub g dX6_hasPart_26 ?_
        refine st_ic_gt g dX6_hasPart_27 (tgt := 34) (by decide) H (fun q6 H => ?_) (fun q6 H => ?_)
        · refine st_iconst g dX6_hasPart_34 ic_0 ?_
          obtain rfl := Option.some.inj H
          exact st_iret g dX6_hasPart_35 rfl (fun _ => Or.inl rfl) K
        · refine st_iconst g dX6_hasPart_30 ic_1 ?_
          refine st_goto g dX6_hasPart_31 (tgt := 35) (by decide) ?_
          obtain rfl := Option.some.inj H
          exact st_iret g dX6_hasPart_35 rfl (fun _ => Or.inr rfl) K
theorem c_X6_hasPart (a1 : Int32) (a2 : Int32) (a3 : Int32) (h : Hp) (r : Int32) (H : f_X6_hasPart a1 a2 a3 h = some r) : CtI yX6_hasPart cX6_hasPart 4 .boolean 1 [.ref 30, .int a1, .int a2, .int a3] h r h :=
  ct_ofI (own := RX6) [.ref 30, .int a1, .int a2, .int a3] (by decide +kernel) rfl (fun ρ => Nat.le_of_ble_eq_true rfl) (fun ρ => rfl) (fun x g K => t_X6_hasPart g a1 a2 a3 h r H K)
def f_X6_valueAt (a1 : Int32) (a2 : Int32) (h : Hp) : Option Int64 :=
  (rdR 31 a1).bind fun v1 =>
  (rdL h v1 a2).bind fun v2 =>
  some v2
theorem t_X6_valueAt {x : Cx} (g : Gx x RX6 cX6_valueAt 3 1) (a1 : Int32) (a2 : Int32) (h : Hp) (out : Int64) (H : f_X6_valueAt a1 a2 h = some out) (K : RtL x out h) : WA x 0 [.ref 30, .int a1, .int a2] [] h := by
  unfold f_X6_valueAt at H
  refine st_aload_n g dX6_valueAt_0 rfl ?_
  refine gf_X6_13 g dX6_valueAt_1 rfl (r := 31) rfl ?_
  refine st_iload_n g dX6_valueAt_4 rfl ?_
  refine st_aald g dX6_valueAt_5 H (fun v1 H => ?_)
  refine st_iload_n g dX6_valueAt_6 rfl ?_
  refine st_lald g dX6_valueAt_7 H (fun v2 H => ?_)
  obtain rfl := Option.some.inj H
  exact st_lret g dX6_valueAt_8 K
theorem c_X6_valueAt (a1 : Int32) (a2 : Int32) (h : Hp) (r : Int64) (H : f_X6_valueAt a1 a2 h = some r) : CtL yX6_valueAt cX6_valueAt 3 1 [.ref 30, .int a1, .int a2] h r h :=
  ct_ofL (own := RX6) [.ref 30, .int a1, .int a2] (by decide +kernel) rfl (fun ρ => Nat.le_of_ble_eq_true rfl) (fun ρ => rfl) (fun x g K => t_X6_valueAt g a1 a2 h r H K)
def f_X3_isWrong (a1 : Int32) (h : Hp) : Option Int32 :=
  if a1 < 0 then
    some 0
  else
    if (h.1 1 3) ≤ a1 then
      some 0
    else
      some 1
theorem t_X3_isWrong {x : Cx} (g : Gx x RX3 cX3_isWrong 2 1) (a1 : Int32) (h : Hp) (out : Int32) (H : f_X3_isWrong a1 h = some out) (K : RtI x .boolean out h) : WA x 0 [.ref 1, .int a1] [] h := by
  unfold f_X3_isWrong at H
  refine st_iload_n g dX3_isWrong_0 rfl ?_
  refine st_if_lt g dX3_isWrong_1 (tgt := 16) (by decide) H (fun q1 H => ?_) (fun q1 H => ?_)
  · refine st_iconst g dX3_isWrong_16 ic_0 ?_
    obtain rfl := Option.some.inj H
    exact st_iret g dX3_isWrong_17 rfl (fun _ => Or.inl rfl) K
  · refine st_iload_n g dX3_isWrong_4 rfl ?_
    refine st_aload_n g dX3_isWrong_5 rfl ?_
    refine gf_X3_22 g dX3_isWrong_6 rfl ?_
    refine st_ic_ge g dX3_isWrong_9 (tgt := 16) (by decide) H (fun q2 H => ?_) (fun q2 H => ?_)
    · refine st_iconst g dX3_isWrong_16 ic_0 ?_
      obtain rfl := Option.some.inj H
      exact st_iret g dX3_isWrong_17 rfl (fun _ => Or.inl rfl) K
    · refine st_iconst g dX3_isWrong_12 ic_1 ?_
      refine st_goto g dX3_isWrong_13 (tgt := 17) (by decide) ?_
      obtain rfl := Option.some.inj H
      exact st_iret g dX3_isWrong_17 rfl (fun _ => Or.inr rfl) K
theorem c_X3_isWrong (a1 : Int32) (h : Hp) (r : Int32) (H : f_X3_isWrong a1 h = some r) : CtI yX3_isWrong cX3_isWrong 2 .boolean 1 [.ref 1, .int a1] h r h :=
  ct_ofI (own := RX3) [.ref 1, .int a1] (by decide +kernel) rfl (fun ρ => Nat.le_of_ble_eq_true rfl) (fun ρ => rfl) (fun x g K => t_X3_isWrong g a1 h r H K)
def f_X5_isForgiven (o : Nat) (a1 : Int32) (h : Hp) : Option Int32 :=
  if sh o = (0, 5) then
    if (((h.1 o 3) >>> (a1 &&& 31)) &&& 1) = 0 then
      some 0
    else
      some 1
  else none
theorem t_X5_isForgiven {x : Cx} (g : Gx x RX5 cX5_isForgiven 2 1) (o : Nat) (a1 : Int32) (h : Hp) (out : Int32) (H : f_X5_isForgiven o a1 h = some out) (K : RtI x .boolean out h) : WA x 0 [.ref o, .int a1] [] h := by
  unfold f_X5_isForgiven at H
  obtain ⟨hgo, H⟩ := gd_some H
  refine st_aload_n g dX5_isForgiven_0 rfl ?_
  refine gf_X5_21 g dX5_isForgiven_1 hgo ?_
  refine st_iload_n g dX5_isForgiven_4 rfl ?_
  refine st_ishr g dX5_isForgiven_5 ?_
  refine st_iconst g dX5_isForgiven_6 ic_1 ?_
  refine st_iand g dX5_isForgiven_7 ?_
  refine st_if_eq g dX5_isForgiven_8 (tgt := 15) (by decide) H (fun q1 H => ?_) (fun q1 H => ?_)
  · refine st_iconst g dX5_isForgiven_15 ic_0 ?_
    obtain rfl := Option.some.inj H
    exact st_iret g dX5_isForgiven_16 rfl (fun _ => Or.inl rfl) K
  · refine st_iconst g dX5_isForgiven_11 ic_1 ?_
    refine st_goto g dX5_isForgiven_12 (tgt := 16) (by decide) ?_
    obtain rfl := Option.some.inj H
    exact st_iret g dX5_isForgiven_16 rfl (fun _ => Or.inr rfl) K
theorem c_X5_isForgiven (o : Nat) (a1 : Int32) (h : Hp) (r : Int32) (H : f_X5_isForgiven o a1 h = some r) : CtI yX5_isForgiven cX5_isForgiven 2 .boolean 1 [.ref o, .int a1] h r h :=
  ct_ofI (own := RX5) [.ref o, .int a1] (by decide +kernel) rfl (fun ρ => Nat.le_of_ble_eq_true rfl) (fun ρ => rfl) (fun x g K => t_X5_isForgiven g o a1 h r H K)
def f_X5_setForgiven (o : Nat) (a1 : Int32) (a2 : Int32) (h : Hp) : Option Hp :=
  if sh o = (0, 5) then
    if a2 = 0 then
      lt (stI h o 3 ((h.1 o 3) &&& (((1 : Int32) <<< (a1 &&& 31)) ^^^ (-1)))) fun h2 =>
      some h2
    else
      lt (stI h o 3 ((h.1 o 3) ||| ((1 : Int32) <<< (a1 &&& 31)))) fun h3 =>
      some h3
  else none
theorem t_X5_setForgiven {x : Cx} (g : Gx x RX5 cX5_setForgiven 3 1) (o : Nat) (a1 : Int32) (a2 : Int32) (h : Hp) (out : Hp) (H : f_X5_setForgiven o a1 a2 h = some out) (K : RtV x out) : WA x 0 [.ref o, .int a1, .int a2] [] h := by
  unfold f_X5_setForgiven at H
  obtain ⟨hgo, H⟩ := gd_some H
  refine st_aload_n g dX5_setForgiven_0 rfl ?_
  refine st_iload_n g dX5_setForgiven_1 rfl ?_
  refine st_if_eq g dX5_setForgiven_2 (tgt := 16) (by decide) H (fun q1 H => ?_) (fun q1 H => ?_)
  · refine st_aload_n g dX5_setForgiven_16 rfl ?_
    refine gf_X5_21 g dX5_setForgiven_17 hgo ?_
    refine st_iconst g dX5_setForgiven_20 ic_1 ?_
    refine st_iload_n g dX5_setForgiven_21 rfl ?_
    refine st_ishl g dX5_setForgiven_22 ?_
    refine st_iconst g dX5_setForgiven_23 ic_m1 ?_
    refine st_ixor g dX5_setForgiven_24 ?_
    refine st_iand g dX5_setForgiven_25 ?_
    refine pu_X5_21 g dX5_setForgiven_26 hgo ?_
    refine wa_ltH H (fun h2 H => ?_)
    obtain rfl := Option.some.inj H
    exact st_vret g dX5_setForgiven_29 K
  · refine st_aload_n g dX5_setForgiven_5 rfl ?_
    refine gf_X5_21 g dX5_setForgiven_6 hgo ?_
    refine st_iconst g dX5_setForgiven_9 ic_1 ?_
    refine st_iload_n g dX5_setForgiven_10 rfl ?_
    refine st_ishl g dX5_setForgiven_11 ?_
    refine st_ior g dX5_setForgiven_12 ?_
    refine st_goto g dX5_setForgiven_13 (tgt := 26) (by decide) ?_
    refine pu_X5_21 g dX5_setForgiven_26 hgo ?_
    refine wa_ltH H (fun h3 H => ?_)
    obtain rfl := Option.some.inj H
    exact st_vret g dX5_setForgiven_29 K
theorem c_X5_setForgiven (o : Nat) (a1 : Int32) (a2 : Int32) (h : Hp) (r : Hp) (H : f_X5_setForgiven o a1 a2 h = some r) : CtV yX5_setForgiven cX5_setForgiven 3 1 [.ref o, .int a1, .int a2] h r :=
  ct_ofV (own := RX5) [.ref o, .int a1, .int a2] (by decide +kernel) rfl (fun ρ => Nat.le_of_ble_eq_true rfl) (fun ρ => rfl) (fun x g K => t_X5_setForgiven g o a1 a2 h r H K)
def f_X4_take (a1 : Int32) (h : Hp) : Option (Int32 × Hp) :=
  if (h.1 7 0) = 120 then
    some ((-3), h)
  else
    (wrI h 8 (h.1 7 0) a1).bind fun h2 =>
    lt (stI h2 7 0 ((h2.1 7 0) + 1)) fun h3 =>
    some (h3.1 7 0, h3)
theorem t_X4_take {x : Cx} (g : Gx x RX4 cX4_take 2 1) (a1 : Int32) (h : Hp) (out : (Int32 × Hp)) (H : f_X4_take a1 h = some out) (K : RtI x .int out.1 out.2) : WA x 0 [.ref 7, .int a1] [] h := by
  unfold f_X4_take at H
  refine st_aload_n g dX4_take_0 rfl ?_
  refine gf_X4_9 g dX4_take_1 rfl ?_
  refine st_bipush g dX4_take_4 bi_120 ?_
  refine st_ic_ne g dX4_take_6 (tgt := 12) (by decide) H (fun q1 H => ?_) (fun q1 H => ?_)
  · refine st_aload_n g dX4_take_12 rfl ?_
    refine gf_X4_15 g dX4_take_13 rfl (r := 8) rfl ?_
    refine st_aload_n g dX4_take_16 rfl ?_
    refine gf_X4_9 g dX4_take_17 rfl ?_
    refine st_iload_n g dX4_take_20 rfl ?_
    refine st_iast g dX4_take_21 H (fun h2 H => ?_)
    refine st_aload_n g dX4_take_22 rfl ?_
    refine st_dup g dX4_take_23 rfl ?_
    refine gf_X4_9 g dX4_take_24 rfl ?_
    refine st_iconst g dX4_take_27 ic_1 ?_
    refine st_iadd g dX4_take_28 ?_
    refine pu_X4_9 g dX4_take_29 rfl ?_
    refine wa_ltH H (fun h3 H => ?_)
    refine st_aload_n g dX4_take_32 rfl ?_
    refine gf_X4_9 g dX4_take_33 rfl ?_
    obtain rfl := Option.some.inj H
    exact st_iret g dX4_take_36 rfl (fun q => by cases q) K
  · refine st_bipush g dX4_take_9 bi_m3 ?_
    obtain rfl := Option.some.inj H
    exact st_iret g dX4_take_11 rfl (fun q => by cases q) K
theorem c_X4_take (a1 : Int32) (h : Hp) (r : (Int32 × Hp)) (H : f_X4_take a1 h = some r) : CtI yX4_take cX4_take 2 .int 1 [.ref 7, .int a1] h r.1 r.2 :=
  ct_ofI (own := RX4) [.ref 7, .int a1] (by decide +kernel) rfl (fun ρ => Nat.le_of_ble_eq_true rfl) (fun ρ => rfl) (fun x g K => t_X4_take g a1 h r H K)
def f_X4_nextByte (h : Hp) : Option Int32 :=
  if (h.1 7 0) ≤ (h.1 7 6) then
    some (-1)
  else
    (rdI h 8 (h.1 7 6)).bind fun v2 =>
    some v2
theorem t_X4_nextByte {x : Cx} (g : Gx x RX4 cX4_nextByte 1 1) (h : Hp) (out : Int32) (H : f_X4_nextByte h = some out) (K : RtI x .int out h) : WA x 0 [.ref 7] [] h := by
  unfold f_X4_nextByte at H
  refine st_aload_n g dX4_nextByte_0 rfl ?_
  refine gf_X4_31 g dX4_nextByte_1 rfl ?_
  refine st_aload_n g dX4_nextByte_4 rfl ?_
  refine gf_X4_9 g dX4_nextByte_5 rfl ?_
  refine st_ic_ge g dX4_nextByte_8 (tgt := 23) (by decide) H (fun q1 H => ?_) (fun q1 H => ?_)
  · refine st_iconst g dX4_nextByte_23 ic_m1 ?_
    obtain rfl := Option.some.inj H
    exact st_iret g dX4_nextByte_24 rfl (fun q => by cases q) K
  · refine st_aload_n g dX4_nextByte_11 rfl ?_
    refine gf_X4_15 g dX4_nextByte_12 rfl (r := 8) rfl ?_
    refine st_aload_n g dX4_nextByte_15 rfl ?_
    refine gf_X4_31 g dX4_nextByte_16 rfl ?_
    refine st_iald g dX4_nextByte_19 H (fun v2 H => ?_)
    refine st_goto g dX4_nextByte_20 (tgt := 24) (by decide) ?_
    obtain rfl := Option.some.inj H
    exact st_iret g dX4_nextByte_24 rfl (fun q => by cases q) K
theorem c_X4_nextByte (h : Hp) (r : Int32) (H : f_X4_nextByte h = some r) : CtI yX4_nextByte cX4_nextByte 1 .int 1 [.ref 7] h r h :=
  ct_ofI (own := RX4) [.ref 7] (by decide +kernel) rfl (fun ρ => Nat.le_of_ble_eq_true rfl) (fun ρ => rfl) (fun x g K => t_X4_nextByte g h r H K)
def f_X4_isDigit (a0 : Int32) : Option Int32 :=
  if a0 < 48 then
    some 0
  else
    if 57 < a0 then
      some 0
    else
      some 1
theorem t_X4_isDigit {x : Cx} (g : Gx x RX4 cX4_isDigit 1 1) (a0 : Int32) (h : Hp) (out : Int32) (H : f_X4_isDigit a0 = some out) (K : RtI x .boolean out h) : WA x 0 [.int a0] [] h := by
  unfold f_X4_isDigit at H
  refine st_iload_n g dX4_isDigit_0 rfl ?_
  refine st_bipush g dX4_isDigit_1 bi_48 ?_
  refine st_ic_lt g dX4_isDigit_3 (tgt := 16) (by decide) H (fun q1 H => ?_) (fun q1 H => ?_)
  · refine st_iconst g dX4_isDigit_16 ic_0 ?_
    obtain rfl := Option.some.inj H
    exact st_iret g dX4_isDigit_17 rfl (fun _ => Or.inl rfl) K
  · refine st_iload_n g dX4_isDigit_6 rfl ?_
    refine st_bipush g dX4_isDigit_7 bi_57 ?_
    refine st_ic_gt g dX4_isDigit_9 (tgt := 16) (by decide) H (fun q2 H => ?_) (fun q2 H => ?_)
    · refine st_iconst g dX4_isDigit_16 ic_0 ?_
      obtain rfl := Option.some.inj H
      exact st_iret g dX4_isDigit_17 rfl (fun _ => Or.inl rfl) K
    · refine st_iconst g dX4_isDigit_12 ic_1 ?_
      refine st_goto g dX4_isDigit_13 (tgt := 17) (by decide) ?_
      obtain rfl := Option.some.inj H
      exact st_iret g dX4_isDigit_17 rfl (fun _ => Or.inr rfl) K
theorem c_X4_isDigit (a0 : Int32) (h : Hp) (r : Int32) (H : f_X4_isDigit a0 = some r) : CtI yX4_isDigit cX4_isDigit 1 .boolean 1 [.int a0] h r h :=
  ct_ofI (own := RX4) [.int a0] (by decide +kernel) rfl (fun ρ => Nat.le_of_ble_eq_true rfl) (fun ρ => rfl) (fun x g K => t_X4_isDigit g a0 h r H K)
def f_X4_emit (a1 : Int32) (h : Hp) : Option Hp :=
  (lnI (h.2.2 7 4)).bind fun v1 =>
  if v1 ≤ (h.1 7 5) then
    some h
  else
    (wrI h (h.2.2 7 4) (h.1 7 5) a1).bind fun h3 =>
    lt (stI h3 7 5 ((h3.1 7 5) + 1)) fun h4 =>
    some h4
theorem t_X4_emit {x : Cx} (g : Gx x RX4 cX4_emit 2 1) (a1 : Int32) (h : Hp) (out : Hp) (H : f_X4_emit a1 h = some out) (K : RtV x out) : WA x 0 [.ref 7, .int a1] [] h := by
  unfold f_X4_emit at H
  refine st_aload_n g dX4_emit_0 rfl ?_
  refine gf_X4_28 g dX4_emit_1 rfl ?_
  refine st_aload_n g dX4_emit_4 rfl ?_
  refine gf_X4_25 g dX4_emit_5 rfl ?_
  refine st_alen g dX4_emit_8 H (fun v1 H => ?_)
  refine st_ic_ge g dX4_emit_9 (tgt := 32) (by decide) H (fun q2 H => ?_) (fun q2 H => ?_)
  · obtain rfl := Option.some.inj H
    exact st_vret g dX4_emit_32 K
  · refine st_aload_n g dX4_emit_12 rfl ?_
    refine gf_X4_25 g dX4_emit_13 rfl ?_
    refine st_aload_n g dX4_emit_16 rfl ?_
    refine gf_X4_28 g dX4_emit_17 rfl ?_
    refine st_iload_n g dX4_emit_20 rfl ?_
    refine st_iast g dX4_emit_21 H (fun h3 H => ?_)
    refine st_aload_n g dX4_emit_22 rfl ?_
    refine st_dup g dX4_emit_23 rfl ?_
    refine gf_X4_28 g dX4_emit_24 rfl ?_
    refine st_iconst g dX4_emit_27 ic_1 ?_
    refine st_iadd g dX4_emit_28 ?_
    refine pu_X4_28 g dX4_emit_29 rfl ?_
    refine wa_ltH H (fun h4 H => ?_)
    obtain rfl := Option.some.inj H
    exact st_vret g dX4_emit_32 K
theorem c_X4_emit (a1 : Int32) (h : Hp) (r : Hp) (H : f_X4_emit a1 h = some r) : CtV yX4_emit cX4_emit 2 1 [.ref 7, .int a1] h r :=
  ct_ofV (own := RX4) [.ref 7, .int a1] (by decide +kernel) rfl (fun ρ => Nat.le_of_ble_eq_true rfl) (fun ρ => rfl) (fun x g K => t_X4_emit g a1 h r H K)
def f_X4_nameOf (a0 : Int32) : Option Int32 :=
  if a0 = 97 then
    some 1
  else
  if a0 = 104 then
    some 2
  else
  if a0 = 110 then
    some 4
  else
  if a0 = 111 then
    some 5
  else
  if a0 = 115 then
    some 3
  else
  if a0 = 119 then
    some 0
  else
    some (-1)
theorem t_X4_nameOf {x : Cx} (g : Gx x RX4 cX4_nameOf 1 1) (a0 : Int32) (h : Hp) (out : Int32) (H : f_X4_nameOf a0 = some out) (K : RtI x .int out h) : WA x 0 [.int a0] [] h := by
  unfold f_X4_nameOf at H
  refine st_iload_n g dX4_nameOf_0 rfl ?_
  by_cases q1 : a0 = 97
  · rw [if_pos q1] at H
    refine st_lsw g dX4_nameOf_1 (off := 61) (tgt := 62) (by decide) (by rw [q1]; rfl) (by decide) ?_
    refine st_iconst g dX4_nameOf_62 ic_1 ?_
    obtain rfl := Option.some.inj H
    exact st_iret g dX4_nameOf_63 rfl (fun q => by cases q) K
  · rw [if_neg q1] at H
    by_cases q2 : a0 = 104
    · rw [if_pos q2] at H
      refine st_lsw g dX4_nameOf_1 (off := 63) (tgt := 64) (by decide) (by rw [q2]; rfl) (by decide) ?_
      refine st_iconst g dX4_nameOf_64 ic_2 ?_
      obtain rfl := Option.some.inj H
      exact st_iret g dX4_nameOf_65 rfl (fun q => by cases q) K
    · rw [if_neg q2] at H
      by_cases q3 : a0 = 110
      · rw [if_pos q3] at H
        refine st_lsw g dX4_nameOf_1 (off := 67) (tgt := 68) (by decide) (by rw [q3]; rfl) (by decide) ?_
        refine st_iconst g dX4_nameOf_68 ic_4 ?_
        obtain rfl := Option.some.inj H
        exact st_iret g dX4_nameOf_69 rfl (fun q => by cases q) K
      · rw [if_neg q3] at H
        by_cases q4 : a0 = 111
        · rw [if_pos q4] at H
          refine st_lsw g dX4_nameOf_1 (off := 69) (tgt := 70) (by decide) (by rw [q4]; rfl) (by decide) ?_
          refine st_iconst g dX4_nameOf_70 ic_5 ?_
          obtain rfl := Option.some.inj H
          exact st_iret g dX4_nameOf_71 rfl (fun q => by cases q) K
        · rw [if_neg q4] at H
          by_cases q5 : a0 = 115
          · rw [if_pos q5] at H
            refine st_lsw g dX4_nameOf_1 (off := 65) (tgt := 66) (by decide) (by rw [q5]; rfl) (by decide) ?_
            refine st_iconst g dX4_nameOf_66 ic_3 ?_
            obtain rfl := Option.some.inj H
            exact st_iret g dX4_nameOf_67 rfl (fun q => by cases q) K
          · rw [if_neg q5] at H
            by_cases q6 : a0 = 119
            · rw [if_pos q6] at H
              refine st_lsw g dX4_nameOf_1 (off := 59) (tgt := 60) (by decide) (by rw [q6]; rfl) (by decide) ?_
              refine st_iconst g dX4_nameOf_60 ic_0 ?_
              obtain rfl := Option.some.inj H
              exact st_iret g dX4_nameOf_61 rfl (fun q => by cases q) K
            · rw [if_neg q6] at H
              refine st_lsw g dX4_nameOf_1 (off := 71) (tgt := 72) (by decide) (by show Op.lookupswitch.offset [(97, 61), (104, 63), (110, 67), (111, 69), (115, 65), (119, 59)] 71 _ = 71; rw [lv_osw q1 (by decide), lv_osw q2 (by decide), lv_osw q3 (by decide), lv_osw q4 (by decide), lv_osw q5 (by decide), lv_osw q6 (by decide)]; rfl) (by decide) ?_
              refine st_iconst g dX4_nameOf_72 ic_m1 ?_
              obtain rfl := Option.some.inj H
              exact st_iret g dX4_nameOf_73 rfl (fun q => by cases q) K
theorem c_X4_nameOf (a0 : Int32) (h : Hp) (r : Int32) (H : f_X4_nameOf a0 = some r) : CtI yX4_nameOf cX4_nameOf 1 .int 1 [.int a0] h r h :=
  ct_ofI (own := RX4) [.int a0] (by decide +kernel) rfl (fun ρ => Nat.le_of_ble_eq_true rfl) (fun ρ => rfl) (fun x g K => t_X4_nameOf g a0 h r H K)
def f_X4_rankOf (a0 : Int32) : Option Int32 :=
  if a0 = 37 then
    some 4
  else
  if a0 = 38 then
    some 1
  else
  if a0 = 42 then
    some 4
  else
  if a0 = 43 then
    some 3
  else
  if a0 = 45 then
    some 3
  else
  if a0 = 47 then
    some 4
  else
  if a0 = 60 then
    some 2
  else
  if a0 = 61 then
    some 2
  else
  if a0 = 62 then
    some 2
  else
  if a0 = 124 then
    some 0
  else
    some (-1)
theorem t_X4_rankOf {x : Cx} (g : Gx x RX4 cX4_rankOf 1 1) (a0 : Int32) (h : Hp) (out : Int32) (H : f_X4_rankOf a0 = some out) (K : RtI x .int out h) : WA x 0 [.int a0] [] h := by
  unfold f_X4_rankOf at H
  refine st_iload_n g dX4_rankOf_0 rfl ?_
  by_cases q1 : a0 = 37
  · rw [if_pos q1] at H
    refine st_lsw g dX4_rankOf_1 (off := 99) (tgt := 100) (by decide) (by rw [q1]; rfl) (by decide) ?_
    refine st_iconst g dX4_rankOf_100 ic_4 ?_
    obtain rfl := Option.some.inj H
    exact st_iret g dX4_rankOf_101 rfl (fun q => by cases q) K
  · rw [if_neg q1] at H
    by_cases q2 : a0 = 38
    · rw [if_pos q2] at H
      refine st_lsw g dX4_rankOf_1 (off := 93) (tgt := 94) (by decide) (by rw [q2]; rfl) (by decide) ?_
      refine st_iconst g dX4_rankOf_94 ic_1 ?_
      obtain rfl := Option.some.inj H
      exact st_iret g dX4_rankOf_95 rfl (fun q => by cases q) K
    · rw [if_neg q2] at H
      by_cases q3 : a0 = 42
      · rw [if_pos q3] at H
        refine st_lsw g dX4_rankOf_1 (off := 99) (tgt := 100) (by decide) (by rw [q3]; rfl) (by decide) ?_
        refine st_iconst g dX4_rankOf_100 ic_4 ?_
        obtain rfl := Option.some.inj H
        exact st_iret g dX4_rankOf_101 rfl (fun q => by cases q) K
      · rw [if_neg q3] at H
        by_cases q4 : a0 = 43
        · rw [if_pos q4] at H
          refine st_lsw g dX4_rankOf_1 (off := 97) (tgt := 98) (by decide) (by rw [q4]; rfl) (by decide) ?_
          refine st_iconst g dX4_rankOf_98 ic_3 ?_
          obtain rfl := Option.some.inj H
          exact st_iret g dX4_rankOf_99 rfl (fun q => by cases q) K
        · rw [if_neg q4] at H
          by_cases q5 : a0 = 45
          · rw [if_pos q5] at H
            refine st_lsw g dX4_rankOf_1 (off := 97) (tgt := 98) (by decide) (by rw [q5]; rfl) (by decide) ?_
            refine st_iconst g dX4_rankOf_98 ic_3 ?_
            obtain rfl := Option.some.inj H
            exact st_iret g dX4_rankOf_99 rfl (fun q => by cases q) K
          · rw [if_neg q5] at H
            by_cases q6 : a0 = 47
            · rw [if_pos q6] at H
              refine st_lsw g dX4_rankOf_1 (off := 99) (tgt := 100) (by decide) (by rw [q6]; rfl) (by decide) ?_
              refine st_iconst g dX4_rankOf_100 ic_4 ?_
              obtain rfl := Option.some.inj H
              exact st_iret g dX4_rankOf_101 rfl (fun q => by cases q) K
            · rw [if_neg q6] at H
              by_cases q7 : a0 = 60
              · rw [if_pos q7] at H
                refine st_lsw g dX4_rankOf_1 (off := 95) (tgt := 96) (by decide) (by rw [q7]; rfl) (by decide) ?_
                refine st_iconst g dX4_rankOf_96 ic_2 ?_
                obtain rfl := Option.some.inj H
                exact st_iret g dX4_rankOf_97 rfl (fun q => by cases q) K
              · rw [if_neg q7] at H
                by_cases q8 : a0 = 61
                · rw [if_pos q8] at H
                  refine st_lsw g dX4_rankOf_1 (off := 95) (tgt := 96) (by decide) (by rw [q8]; rfl) (by decide) ?_
                  refine st_iconst g dX4_rankOf_96 ic_2 ?_
                  obtain rfl := Option.some.inj H
                  exact st_iret g dX4_rankOf_97 rfl (fun q => by cases q) K
                · rw [if_neg q8] at H
                  by_cases q9 : a0 = 62
                  · rw [if_pos q9] at H
                    refine st_lsw g dX4_rankOf_1 (off := 95) (tgt := 96) (by decide) (by rw [q9]; rfl) (by decide) ?_
                    refine st_iconst g dX4_rankOf_96 ic_2 ?_
                    obtain rfl := Option.some.inj H
                    exact st_iret g dX4_rankOf_97 rfl (fun q => by cases q) K
                  · rw [if_neg q9] at H
                    by_cases q10 : a0 = 124
                    · rw [if_pos q10] at H
                      refine st_lsw g dX4_rankOf_1 (off := 91) (tgt := 92) (by decide) (by rw [q10]; rfl) (by decide) ?_
                      refine st_iconst g dX4_rankOf_92 ic_0 ?_
                      obtain rfl := Option.some.inj H
                      exact st_iret g dX4_rankOf_93 rfl (fun q => by cases q) K
                    · rw [if_neg q10] at H
                      refine st_lsw g dX4_rankOf_1 (off := 101) (tgt := 102) (by decide) (by show Op.lookupswitch.offset [(37, 99), (38, 93), (42, 99), (43, 97), (45, 97), (47, 99), (60, 95), (61, 95), (62, 95), (124, 91)] 101 _ = 101; rw [lv_osw q1 (by decide), lv_osw q2 (by decide), lv_osw q3 (by decide), lv_osw q4 (by decide), lv_osw q5 (by decide), lv_osw q6 (by decide), lv_osw q7 (by decide), lv_osw q8 (by decide), lv_osw q9 (by decide), lv_osw q10 (by decide)]; rfl) (by decide) ?_
                      refine st_iconst g dX4_rankOf_102 ic_m1 ?_
                      obtain rfl := Option.some.inj H
                      exact st_iret g dX4_rankOf_103 rfl (fun q => by cases q) K
theorem c_X4_rankOf (a0 : Int32) (h : Hp) (r : Int32) (H : f_X4_rankOf a0 = some r) : CtI yX4_rankOf cX4_rankOf 1 .int 1 [.int a0] h r h :=
  ct_ofI (own := RX4) [.int a0] (by decide +kernel) rfl (fun ρ => Nat.le_of_ble_eq_true rfl) (fun ρ => rfl) (fun x g K => t_X4_rankOf g a0 h r H K)
def P_X3_seers_5 (x : Cx) (a1 : Int32) (a2 : Int32) (h : Hp) (s : (Int32 × Int32)) : Prop := WA x 5 [.ref 1, .int a1, .int a2, .int s.1, .int s.2] [] h
def E_X3_seers_5 (x : Cx) (a1 : Int32) (a2 : Int32) (h : Hp) : (Int32 × Int32) → Prop := fun s : (Int32 × Int32) => WA x 56 [.null, .null, .null, .int s.1, .null] [] h
def b_X3_seers_5 (a1 : Int32) (a2 : Int32) (h : Hp) (s : (Int32 × Int32)) : Option ((Int32 × Int32) ⊕ (Int32 × Int32)) :=
  if (h.1 1 0) ≤ s.2 then
    some (.inr (s.1, s.2))
  else
    (rdI h 2 s.2).bind fun v2 =>
    if v2 = a2 then
      (rdI h 4 a1).bind fun v4 =>
      if s.2 = v4 then
        some (.inl (s.1, s.2 + 1))
      else
        (rdI h 5 a1).bind fun v6 =>
        if s.2 = v6 then
          some (.inl (s.1, s.2 + 1))
        else
          some (.inl (s.1 + 1, s.2 + 1))
    else
      some (.inl (s.1, s.2 + 1))
theorem tb_X3_seers_5 {x : Cx} (g : Gx x RX3 cX3_seers 5 1) (a1 : Int32) (a2 : Int32) (h : Hp) (s : (Int32 × Int32)) (out : (Int32 × Int32) ⊕ (Int32 × Int32)) (H : b_X3_seers_5 a1 a2 h s = some out) (K : Sum.elim (P_X3_seers_5 x a1 a2 h) (E_X3_seers_5 x a1 a2 h) out) : P_X3_seers_5 x a1 a2 h s := by
  unfold b_X3_seers_5 at H
  show WA x 5 [.ref 1, .int a1, .int a2, .int s.1, .int s.2] [] h
  refine st_iload g dX3_seers_5 rfl ?_
  refine st_aload_n g dX3_seers_7 rfl ?_
  refine gf_X3_9 g dX3_seers_8 rfl ?_
  refine st_ic_ge g dX3_seers_11 (tgt := 56) (by decide) H (fun q1 H => ?_) (fun q1 H => ?_)
  · obtain rfl := Option.some.inj H
    exact (wa_drop [0, 1, 2, 4] K)
  · refine st_aload_n g dX3_seers_14 rfl ?_
    refine gf_X3_15 g dX3_seers_15 rfl (r := 2) rfl ?_
    refine st_iload g dX3_seers_18 rfl ?_
    refine st_iald g dX3_seers_20 H (fun v2 H => ?_)
    refine st_iload_n g dX3_seers_21 rfl ?_
    refine st_ic_ne g dX3_seers_22 (tgt := 50) (by decide) H (fun q3 H => ?_) (fun q3 H => ?_)
    · refine st_iinc g dX3_seers_50 rfl (ii_1 _) (Nat.le_of_ble_eq_true rfl) rfl (ls2 := [.ref 1, .int a1, .int a2, .int s.1, .int (s.2 + 1)]) rfl ?_
      refine st_goto g dX3_seers_53 (tgt := 5) (by decide) ?_
      obtain rfl := Option.some.inj H
      exact K
    · refine st_iload g dX3_seers_25 rfl ?_
      refine st_aload_n g dX3_seers_27 rfl ?_
      refine gf_X3_25 g dX3_seers_28 rfl (r := 4) rfl ?_
      refine st_iload_n g dX3_seers_31 rfl ?_
      refine st_iald g dX3_seers_32 H (fun v4 H => ?_)
      refine st_ic_eq g dX3_seers_33 (tgt := 50) (by decide) H (fun q5 H => ?_) (fun q5 H => ?_)
      · refine st_iinc g dX3_seers_50 rfl (ii_1 _) (Nat.le_of_ble_eq_true rfl) rfl (ls2 := [.ref 1, .int a1, .int a2, .int s.1, .int (s.2 + 1)]) rfl ?_
        refine st_goto g dX3_seers_53 (tgt := 5) (by decide) ?_
        obtain rfl := Option.some.inj H
        exact K
      · refine st_iload g dX3_seers_36 rfl ?_
        refine st_aload_n g dX3_seers_38 rfl ?_
        refine gf_X3_28 g dX3_seers_39 rfl (r := 5) rfl ?_
        refine st_iload_n g dX3_seers_42 rfl ?_
        refine st_iald g dX3_seers_43 H (fun v6 H => ?_)
        refine st_ic_eq g dX3_seers_44 (tgt := 50) (by decide) H (fun q7 H => ?_) (fun q7 H => ?_)
        · refine st_iinc g dX3_seers_50 rfl (ii_1 _) (Nat.le_of_ble_eq_true rfl) rfl (ls2 := [.ref 1, .int a1, .int a2, .int s.1, .int (s.2 + 1)]) rfl ?_
          refine st_goto g dX3_seers_53 (tgt := 5) (by decide) ?_
          obtain rfl := Option.some.inj H
          exact K
        · refine st_iinc g dX3_seers_47 rfl (ii_1 _) (Nat.le_of_ble_eq_true rfl) rfl (ls2 := [.ref 1, .int a1, .int a2, .int (s.1 + 1), .int s.2]) rfl ?_
          refine st_iinc g dX3_seers_50 rfl (ii_1 _) (Nat.le_of_ble_eq_true rfl) rfl (ls2 := [.ref 1, .int a1, .int a2, .int (s.1 + 1), .int (s.2 + 1)]) rfl ?_
          refine st_goto g dX3_seers_53 (tgt := 5) (by decide) ?_
          obtain rfl := Option.some.inj H
          exact K
def f_X3_seers (a1 : Int32) (a2 : Int32) (h : Hp) : Option Int32 :=
  (iter (b_X3_seers_5 a1 a2 h) FU (0, 0)).bind fun a8 =>
  some a8.1
theorem t_X3_seers {x : Cx} (g : Gx x RX3 cX3_seers 5 1) (a1 : Int32) (a2 : Int32) (h : Hp) (out : Int32) (H : f_X3_seers a1 a2 h = some out) (K : RtI x .int out h) : WA x 0 [.ref 1, .int a1, .int a2, .null, .null] [] h := by
  unfold f_X3_seers at H
  refine st_iconst g dX3_seers_0 ic_0 ?_
  refine st_istore_n g dX3_seers_1 (Nat.le_of_ble_eq_true rfl) rfl (ls2 := [.ref 1, .int a1, .int a2, .int 0, .null]) rfl ?_
  refine st_iconst g dX3_seers_2 ic_0 ?_
  refine st_istore g dX3_seers_3 (Nat.le_of_ble_eq_true rfl) rfl (ls2 := [.ref 1, .int a1, .int a2, .int 0, .int 0]) rfl ?_
  show P_X3_seers_5 x a1 a2 h (0, 0)
  obtain ⟨a8, ha8, H⟩ := bind_some H
  refine iter_W (P := P_X3_seers_5 x a1 a2 h) (E := E_X3_seers_5 x a1 a2 h) (fun s9 o9 ho9 hK9 => tb_X3_seers_5 g a1 a2 h s9 o9 ho9 hK9) FU _ a8 ha8 ?_
  show WA x 56 [.null, .null, .null, .int a8.1, .null] [] h
  refine st_iload_n g dX3_seers_56 rfl ?_
  obtain rfl := Option.some.inj H
  exact st_iret g dX3_seers_57 rfl (fun q => by cases q) K
theorem c_X3_seers (a1 : Int32) (a2 : Int32) (h : Hp) (r : Int32) (H : f_X3_seers a1 a2 h = some r) : CtI yX3_seers cX3_seers 5 .int 1 [.ref 1, .int a1, .int a2] h r h :=
  ct_ofI (own := RX3) [.ref 1, .int a1, .int a2, .null, .null] (by decide +kernel) rfl (fun ρ => Nat.le_of_ble_eq_true rfl) (fun ρ => rfl) (fun x g K => t_X3_seers g a1 a2 h r H K)
def f_X4_tell (a1 : Int32) (a2 : Int32) (a3 : Int32) (a4 : Int32) (a5 : Int32) (a6 : Int32) (h : Hp) : Option Hp :=
  (wrI h 11 0 a1).bind fun h1 =>
  (wrI h1 11 1 a2).bind fun h2 =>
  (wrI h2 11 2 a3).bind fun h3 =>
  (wrI h3 11 3 a4).bind fun h4 =>
  (wrI h4 11 4 a5).bind fun h5 =>
  (wrI h5 11 5 a6).bind fun h6 =>
  some h6
theorem t_X4_tell {x : Cx} (g : Gx x RX4 cX4_tell 7 1) (a1 : Int32) (a2 : Int32) (a3 : Int32) (a4 : Int32) (a5 : Int32) (a6 : Int32) (h : Hp) (out : Hp) (H : f_X4_tell a1 a2 a3 a4 a5 a6 h = some out) (K : RtV x out) : WA x 0 [.ref 7, .int a1, .int a2, .int a3, .int a4, .int a5, .int a6] [] h := by
  unfold f_X4_tell at H
  refine st_aload_n g dX4_tell_0 rfl ?_
  refine gf_X4_34 g dX4_tell_1 rfl (r := 11) rfl ?_
  refine st_iconst g dX4_tell_4 ic_0 ?_
  refine st_iload_n g dX4_tell_5 rfl ?_
  refine st_iast g dX4_tell_6 H (fun h1 H => ?_)
  refine st_aload_n g dX4_tell_7 rfl ?_
  refine gf_X4_34 g dX4_tell_8 rfl (r := 11) rfl ?_
  refine st_iconst g dX4_tell_11 ic_1 ?_
  refine st_iload_n g dX4_tell_12 rfl ?_
  refine st_iast g dX4_tell_13 H (fun h2 H => ?_)
  refine st_aload_n g dX4_tell_14 rfl ?_
  refine gf_X4_34 g dX4_tell_15 rfl (r := 11) rfl ?_
  refine st_iconst g dX4_tell_18 ic_2 ?_
  refine st_iload_n g dX4_tell_19 rfl ?_
  refine st_iast g dX4_tell_20 H (fun h3 H => ?_)
  refine st_aload_n g dX4_tell_21 rfl ?_
  refine gf_X4_34 g dX4_tell_22 rfl (r := 11) rfl ?_
  refine st_iconst g dX4_tell_25 ic_3 ?_
  refine st_iload g dX4_tell_26 rfl ?_
  refine st_iast g dX4_tell_28 H (fun h4 H => ?_)
  refine st_aload_n g dX4_tell_29 rfl ?_
  refine gf_X4_34 g dX4_tell_30 rfl (r := 11) rfl ?_
  refine st_iconst g dX4_tell_33 ic_4 ?_
  refine st_iload g dX4_tell_34 rfl ?_
  refine st_iast g dX4_tell_36 H (fun h5 H => ?_)
  refine st_aload_n g dX4_tell_37 rfl ?_
  refine gf_X4_34 g dX4_tell_38 rfl (r := 11) rfl ?_
  refine st_iconst g dX4_tell_41 ic_5 ?_
  refine st_iload g dX4_tell_42 rfl ?_
  refine st_iast g dX4_tell_44 H (fun h6 H => ?_)
  obtain rfl := Option.some.inj H
  exact st_vret g dX4_tell_45 K
theorem c_X4_tell (a1 : Int32) (a2 : Int32) (a3 : Int32) (a4 : Int32) (a5 : Int32) (a6 : Int32) (h : Hp) (r : Hp) (H : f_X4_tell a1 a2 a3 a4 a5 a6 h = some r) : CtV yX4_tell cX4_tell 7 1 [.ref 7, .int a1, .int a2, .int a3, .int a4, .int a5, .int a6] h r :=
  ct_ofV (own := RX4) [.ref 7, .int a1, .int a2, .int a3, .int a4, .int a5, .int a6] (by decide +kernel) rfl (fun ρ => Nat.le_of_ble_eq_true rfl) (fun ρ => rfl) (fun x g K => t_X4_tell g a1 a2 a3 a4 a5 a6 h r H K)
def f_X4_held (a0 : Int32) : Option Int32 :=
  if 0 ≤ a0 then
    if a0 ≤ 9 then
      some a0
    else
      some 9
  else
    some 0
theorem t_X4_held {x : Cx} (g : Gx x RX4 cX4_held 1 1) (a0 : Int32) (h : Hp) (out : Int32) (H : f_X4_held a0 = some out) (K : RtI x .int out h) : WA x 0 [.int a0] [] h := by
  unfold f_X4_held at H
  refine st_iload_n g dX4_held_0 rfl ?_
  refine st_if_ge g dX4_held_1 (tgt := 8) (by decide) H (fun q1 H => ?_) (fun q1 H => ?_)
  · refine st_iload_n g dX4_held_8 rfl ?_
    refine st_bipush g dX4_held_9 bi_9 ?_
    refine st_ic_le g dX4_held_11 (tgt := 19) (by decide) H (fun q2 H => ?_) (fun q2 H => ?_)
    · refine st_iload_n g dX4_held_19 rfl ?_
      obtain rfl := Option.some.inj H
      exact st_iret g dX4_held_20 rfl (fun q => by cases q) K
    · refine st_bipush g dX4_held_14 bi_9 ?_
      refine st_goto g dX4_held_16 (tgt := 20) (by decide) ?_
      obtain rfl := Option.some.inj H
      exact st_iret g dX4_held_20 rfl (fun q => by cases q) K
  · refine st_iconst g dX4_held_4 ic_0 ?_
    refine st_goto g dX4_held_5 (tgt := 20) (by decide) ?_
    obtain rfl := Option.some.inj H
    exact st_iret g dX4_held_20 rfl (fun q => by cases q) K
theorem c_X4_held (a0 : Int32) (h : Hp) (r : Int32) (H : f_X4_held a0 = some r) : CtI yX4_held cX4_held 1 .int 1 [.int a0] h r h :=
  ct_ofI (own := RX4) [.int a0] (by decide +kernel) rfl (fun ρ => Nat.le_of_ble_eq_true rfl) (fun ρ => rfl) (fun x g K => t_X4_held g a0 h r H K)
def f_X4_joined (a0 : Int32) (a1 : Int32) (a2 : Int32) : Option Int32 :=
  if a1 = 38 then
    if a0 = 0 then
      some 0
    else
      if a2 = 0 then
        some 0
      else
        some 1
  else
  if a1 = 42 then
    some (a0 * a2)
  else
  if a1 = 43 then
    some (a0 + a2)
  else
  if a1 = 45 then
    some (a0 - a2)
  else
  if a1 = 47 then
    if a2 = 0 then
      some 0
    else
      (dvI a0 a2).bind fun v9 =>
      some v9
  else
  if a1 = 60 then
    if a2 ≤ a0 then
      some 0
    else
      some 1
  else
  if a1 = 61 then
    if a0 = a2 then
      some 1
    else
      some 0
  else
  if a1 = 62 then
    if a0 ≤ a2 then
      some 0
    else
      some 1
  else
  if a1 = 124 then
    if a0 = 0 then
      if a2 = 0 then
        some 0
      else
        some 1
    else
      some 1
  else
    if a2 = 0 then
      some 0
    else
      (rmI a0 a2).bind fun v20 =>
      some v20
theorem t_X4_joined {x : Cx} (g : Gx x RX4 cX4_joined 3 1) (a0 : Int32) (a1 : Int32) (a2 : Int32) (h : Hp) (out : Int32) (H : f_X4_joined a0 a1 a2 = some out) (K : RtI x .int out h) : WA x 0 [.int a0, .int a1, .int a2] [] h := by
  unfold f_X4_joined at H
  refine st_iload_n g dX4_joined_0 rfl ?_
  by_cases q1 : a1 = 38
  · rw [if_pos q1] at H
    refine st_lsw g dX4_joined_1 (off := 97) (tgt := 98) (by decide) (by rw [q1]; rfl) (by decide) ?_
    refine st_iload_n g dX4_joined_98 rfl ?_
    refine st_if_eq g dX4_joined_99 (tgt := 110) (by decide) H (fun q2 H => ?_) (fun q2 H => ?_)
    · refine st_iconst g dX4_joined_110 ic_0 ?_
      obtain rfl := Option.some.inj H
      exact st_iret g dX4_joined_111 rfl (fun q => by cases q) K
    · refine st_iload_n g dX4_joined_102 rfl ?_
      refine st_if_eq g dX4_joined_103 (tgt := 110) (by decide) H (fun q3 H => ?_) (fun q3 H => ?_)
      · refine st_iconst g dX4_joined_110 ic_0 ?_
        obtain rfl := Option.some.inj H
        exact st_iret g dX4_joined_111 rfl (fun q => by cases q) K
      · refine st_iconst g dX4_joined_106 ic_1 ?_
        refine st_goto g dX4_joined_107 (tgt := 111) (by decide) ?_
        obtain rfl := Option.some.inj H
        exact st_iret g dX4_joined_111 rfl (fun q => by cases q) K
  · rw [if_neg q1] at H
    by_cases q4 : a1 = 42
    · rw [if_pos q4] at H
      refine st_lsw g dX4_joined_1 (off := 152) (tgt := 153) (by decide) (by rw [q4]; rfl) (by decide) ?_
      refine st_iload_n g dX4_joined_153 rfl ?_
      refine st_iload_n g dX4_joined_154 rfl ?_
      refine st_imul g dX4_joined_155 ?_
      obtain rfl := Option.some.inj H
      exact st_iret g dX4_joined_156 rfl (fun q => by cases q) K
    · rw [if_neg q4] at H
      by_cases q5 : a1 = 43
      · rw [if_pos q5] at H
        refine st_lsw g dX4_joined_1 (off := 144) (tgt := 145) (by decide) (by rw [q5]; rfl) (by decide) ?_
        refine st_iload_n g dX4_joined_145 rfl ?_
        refine st_iload_n g dX4_joined_146 rfl ?_
        refine st_iadd g dX4_joined_147 ?_
        obtain rfl := Option.some.inj H
        exact st_iret g dX4_joined_148 rfl (fun q => by cases q) K
      · rw [if_neg q5] at H
        by_cases q6 : a1 = 45
        · rw [if_pos q6] at H
          refine st_lsw g dX4_joined_1 (off := 148) (tgt := 149) (by decide) (by rw [q6]; rfl) (by decide) ?_
          refine st_iload_n g dX4_joined_149 rfl ?_
          refine st_iload_n g dX4_joined_150 rfl ?_
          refine st_isub g dX4_joined_151 ?_
          obtain rfl := Option.some.inj H
          exact st_iret g dX4_joined_152 rfl (fun q => by cases q) K
        · rw [if_neg q6] at H
          by_cases q7 : a1 = 47
          · rw [if_pos q7] at H
            refine st_lsw g dX4_joined_1 (off := 156) (tgt := 157) (by decide) (by rw [q7]; rfl) (by decide) ?_
            refine st_iload_n g dX4_joined_157 rfl ?_
            refine st_if_ne g dX4_joined_158 (tgt := 165) (by decide) H (fun q8 H => ?_) (fun q8 H => ?_)
            · refine st_iload_n g dX4_joined_165 rfl ?_
              refine st_iload_n g dX4_joined_166 rfl ?_
              refine st_idivO g dX4_joined_167 H (fun v9 H => ?_)
              obtain rfl := Option.some.inj H
              exact st_iret g dX4_joined_168 rfl (fun q => by cases q) K
            · refine st_iconst g dX4_joined_161 ic_0 ?_
              refine st_goto g dX4_joined_162 (tgt := 168) (by decide) ?_
              obtain rfl := Option.some.inj H
              exact st_iret g dX4_joined_168 rfl (fun q => by cases q) K
          · rw [if_neg q7] at H
            by_cases q10 : a1 = 60
            · rw [if_pos q10] at H
              refine st_lsw g dX4_joined_1 (off := 111) (tgt := 112) (by decide) (by rw [q10]; rfl) (by decide) ?_
              refine st_iload_n g dX4_joined_112 rfl ?_
              refine st_iload_n g dX4_joined_113 rfl ?_
              refine st_ic_ge g dX4_joined_114 (tgt := 121) (by decide) H (fun q11 H => ?_) (fun q11 H => ?_)
              · refine st_iconst g dX4_joined_121 ic_0 ?_
                obtain rfl := Option.some.inj H
                exact st_iret g dX4_joined_122 rfl (fun q => by cases q) K
              · refine st_iconst g dX4_joined_117 ic_1 ?_
                refine st_goto g dX4_joined_118 (tgt := 122) (by decide) ?_
                obtain rfl := Option.some.inj H
                exact st_iret g dX4_joined_122 rfl (fun q => by cases q) K
            · rw [if_neg q10] at H
              by_cases q12 : a1 = 61
              · rw [if_pos q12] at H
                refine st_lsw g dX4_joined_1 (off := 122) (tgt := 123) (by decide) (by rw [q12]; rfl) (by decide) ?_
                refine st_iload_n g dX4_joined_123 rfl ?_
                refine st_iload_n g dX4_joined_124 rfl ?_
                refine st_ic_ne g dX4_joined_125 (tgt := 132) (by decide) H (fun q13 H => ?_) (fun q13 H => ?_)
                · refine st_iconst g dX4_joined_132 ic_0 ?_
                  obtain rfl := Option.some.inj H
                  exact st_iret g dX4_joined_133 rfl (fun q => by cases q) K
                · refine st_iconst g dX4_joined_128 ic_1 ?_
                  refine st_goto g dX4_joined_129 (tgt := 133) (by decide) ?_
                  obtain rfl := Option.some.inj H
                  exact st_iret g dX4_joined_133 rfl (fun q => by cases q) K
              · rw [if_neg q12] at H
                by_cases q14 : a1 = 62
                · rw [if_pos q14] at H
                  refine st_lsw g dX4_joined_1 (off := 133) (tgt := 134) (by decide) (by rw [q14]; rfl) (by decide) ?_
                  refine st_iload_n g dX4_joined_134 rfl ?_
                  refine st_iload_n g dX4_joined_135 rfl ?_
                  refine st_ic_le g dX4_joined_136 (tgt := 143) (by decide) H (fun q15 H => ?_) (fun q15 H => ?_)
                  · refine st_iconst g dX4_joined_143 ic_0 ?_
                    obtain rfl := Option.some.inj H
                    exact st_iret g dX4_joined_144 rfl (fun q => by cases q) K
                  · refine st_iconst g dX4_joined_139 ic_1 ?_
                    refine st_goto g dX4_joined_140 (tgt := 144) (by decide) ?_
                    obtain rfl := Option.some.inj H
                    exact st_iret g dX4_joined_144 rfl (fun q => by cases q) K
                · rw [if_neg q14] at H
                  by_cases q16 : a1 = 124
                  · rw [if_pos q16] at H
                    refine st_lsw g dX4_joined_1 (off := 83) (tgt := 84) (by decide) (by rw [q16]; rfl) (by decide) ?_
                    refine st_iload_n g dX4_joined_84 rfl ?_
                    refine st_if_ne g dX4_joined_85 (tgt := 92) (by decide) H (fun q17 H => ?_) (fun q17 H => ?_)
                    · refine st_iconst g dX4_joined_92 ic_1 ?_
                      refine st_goto g dX4_joined_93 (tgt := 97) (by decide) ?_
                      obtain rfl := Option.some.inj H
                      exact st_iret g dX4_joined_97 rfl (fun q => by cases q) K
                    · refine st_iload_n g dX4_joined_88 rfl ?_
                      refine st_if_eq g dX4_joined_89 (tgt := 96) (by decide) H (fun q18 H => ?_) (fun q18 H => ?_)
                      · refine st_iconst g dX4_joined_96 ic_0 ?_
                        obtain rfl := Option.some.inj H
                        exact st_iret g dX4_joined_97 rfl (fun q => by cases q) K
                      · refine st_iconst g dX4_joined_92 ic_1 ?_
                        refine st_goto g dX4_joined_93 (tgt := 97) (by decide) ?_
                        obtain rfl := Option.some.inj H
                        exact st_iret g dX4_joined_97 rfl (fun q => by cases q) K
                  · rw [if_neg q16] at H
                    refine st_lsw g dX4_joined_1 (off := 168) (tgt := 169) (by decide) (by show Op.lookupswitch.offset [(38, 97), (42, 152), (43, 144), (45, 148), (47, 156), (60, 111), (61, 122), (62, 133), (124, 83)] 168 _ = 168; rw [lv_osw q1 (by decide), lv_osw q4 (by decide), lv_osw q5 (by decide), lv_osw q6 (by decide), lv_osw q7 (by decide), lv_osw q10 (by decide), lv_osw q12 (by decide), lv_osw q14 (by decide), lv_osw q16 (by decide)]; rfl) (by decide) ?_
                    refine st_iload_n g dX4_joined_169 rfl ?_
                    refine st_if_ne g dX4_joined_170 (tgt := 177) (by decide) H (fun q19 H => ?_) (fun q19 H => ?_)
                    · refine st_iload_n g dX4_joined_177 rfl ?_
                      refine st_iload_n g dX4_joined_178 rfl ?_
                      refine st_iremO g dX4_joined_179 H (fun v20 H => ?_)
                      obtain rfl := Option.some.inj H
                      exact st_iret g dX4_joined_180 rfl (fun q => by cases q) K
                    · refine st_iconst g dX4_joined_173 ic_0 ?_
                      refine st_goto g dX4_joined_174 (tgt := 180) (by decide) ?_
                      obtain rfl := Option.some.inj H
                      exact st_iret g dX4_joined_180 rfl (fun q => by cases q) K
theorem c_X4_joined (a0 : Int32) (a1 : Int32) (a2 : Int32) (h : Hp) (r : Int32) (H : f_X4_joined a0 a1 a2 = some r) : CtI yX4_joined cX4_joined 3 .int 1 [.int a0, .int a1, .int a2] h r h :=
  ct_ofI (own := RX4) [.int a0, .int a1, .int a2] (by decide +kernel) rfl (fun ρ => Nat.le_of_ble_eq_true rfl) (fun ρ => rfl) (fun x g K => t_X4_joined g a0 a1 a2 h r H K)
def f_X7_isCalls (a0 : Int32) : Option Int32 :=
  if a0 < 0 then
    some 0
  else
    if 40 < a0 then
      some 0
    else
      some 1
theorem t_X7_isCalls {x : Cx} (g : Gx x RX7 cX7_isCalls 1 1) (a0 : Int32) (h : Hp) (out : Int32) (H : f_X7_isCalls a0 = some out) (K : RtI x .boolean out h) : WA x 0 [.int a0] [] h := by
  unfold f_X7_isCalls at H
  refine st_iload_n g dX7_isCalls_0 rfl ?_
  refine st_if_lt g dX7_isCalls_1 (tgt := 14) (by decide) H (fun q1 H => ?_) (fun q1 H => ?_)
  · refine st_iconst g dX7_isCalls_14 ic_0 ?_
    obtain rfl := Option.some.inj H
    exact st_iret g dX7_isCalls_15 rfl (fun _ => Or.inl rfl) K
  · refine st_iload_n g dX7_isCalls_4 rfl ?_
    refine st_bipush g dX7_isCalls_5 bi_40 ?_
    refine st_ic_gt g dX7_isCalls_7 (tgt := 14) (by decide) H (fun q2 H => ?_) (fun q2 H => ?_)
    · refine st_iconst g dX7_isCalls_14 ic_0 ?_
      obtain rfl := Option.some.inj H
      exact st_iret g dX7_isCalls_15 rfl (fun _ => Or.inl rfl) K
    · refine st_iconst g dX7_isCalls_10 ic_1 ?_
      refine st_goto g dX7_isCalls_11 (tgt := 15) (by decide) ?_
      obtain rfl := Option.some.inj H
      exact st_iret g dX7_isCalls_15 rfl (fun _ => Or.inr rfl) K
theorem c_X7_isCalls (a0 : Int32) (h : Hp) (r : Int32) (H : f_X7_isCalls a0 = some r) : CtI yX7_isCalls cX7_isCalls 1 .boolean 1 [.int a0] h r h :=
  ct_ofI (own := RX7) [.int a0] (by decide +kernel) rfl (fun ρ => Nat.le_of_ble_eq_true rfl) (fun ρ => rfl) (fun x g K => t_X7_isCalls g a0 h r H K)
def f_X6_size (a1 : Int32) (h : Hp) : Option Int32 :=
  (rdI h 38 a1).bind fun v1 =>
  some v1
theorem t_X6_size {x : Cx} (g : Gx x RX6 cX6_size 2 1) (a1 : Int32) (h : Hp) (out : Int32) (H : f_X6_size a1 h = some out) (K : RtI x .int out h) : WA x 0 [.ref 30, .int a1] [] h := by
  unfold f_X6_size at H
  refine st_aload_n g dX6_size_0 rfl ?_
  refine gf_X6_16 g dX6_size_1 rfl (r := 38) rfl ?_
  refine st_iload_n g dX6_size_4 rfl ?_
  refine st_iald g dX6_size_5 H (fun v1 H => ?_)
  obtain rfl := Option.some.inj H
  exact st_iret g dX6_size_6 rfl (fun q => by cases q) K
theorem c_X6_size (a1 : Int32) (h : Hp) (r : Int32) (H : f_X6_size a1 h = some r) : CtI yX6_size cX6_size 2 .int 1 [.ref 30, .int a1] h r h :=
  ct_ofI (own := RX6) [.ref 30, .int a1] (by decide +kernel) rfl (fun ρ => Nat.le_of_ble_eq_true rfl) (fun ρ => rfl) (fun x g K => t_X6_size g a1 h r H K)
def P_X5_total_4 (x : Cx) (o : Nat) (h : Hp) (s : (Int32 × Int32)) : Prop := WA x 4 [.ref o, .int s.1, .int s.2] [] h
def E_X5_total_4 (x : Cx) (o : Nat) (h : Hp) : (Int32 × Int32) → Prop := fun s : (Int32 × Int32) => WA x 25 [.null, .int s.1, .null] [] h
def b_X5_total_4 (o : Nat) (h : Hp) (s : (Int32 × Int32)) : Option ((Int32 × Int32) ⊕ (Int32 × Int32)) :=
  if 12 ≤ s.2 then
    some (.inr (s.1, s.2))
  else
    (rdI h (pf o 0) s.2).bind fun v2 =>
    some (.inl (s.1 + v2, s.2 + 1))
theorem tb_X5_total_4 {x : Cx} (g : Gx x RX5 cX5_total 3 1) (o : Nat) (h : Hp) (hgo : sh o = (0, 5)) (s : (Int32 × Int32)) (out : (Int32 × Int32) ⊕ (Int32 × Int32)) (H : b_X5_total_4 o h s = some out) (K : Sum.elim (P_X5_total_4 x o h) (E_X5_total_4 x o h) out) : P_X5_total_4 x o h s := by
  unfold b_X5_total_4 at H
  show WA x 4 [.ref o, .int s.1, .int s.2] [] h
  refine st_iload_n g dX5_total_4 rfl ?_
  refine st_bipush g dX5_total_5 bi_12 ?_
  refine st_ic_ge g dX5_total_7 (tgt := 25) (by decide) H (fun q1 H => ?_) (fun q1 H => ?_)
  · obtain rfl := Option.some.inj H
    exact (wa_drop [0, 2] K)
  · refine st_iload_n g dX5_total_10 rfl ?_
    refine st_aload_n g dX5_total_11 rfl ?_
    refine gf_X5_9 g dX5_total_12 hgo (r := pf o 0) rfl ?_
    refine st_iload_n g dX5_total_15 rfl ?_
    refine st_iald g dX5_total_16 H (fun v2 H => ?_)
    refine st_iadd g dX5_total_17 ?_
    refine st_istore_n g dX5_total_18 (Nat.le_of_ble_eq_true rfl) rfl (ls2 := [.ref o, .int (s.1 + v2), .int s.2]) rfl ?_
    refine st_iinc g dX5_total_19 rfl (ii_1 _) (Nat.le_of_ble_eq_true rfl) rfl (ls2 := [.ref o, .int (s.1 + v2), .int (s.2 + 1)]) rfl ?_
    refine st_goto g dX5_total_22 (tgt := 4) (by decide) ?_
    obtain rfl := Option.some.inj H
    exact K
def f_X5_total (o : Nat) (h : Hp) : Option Int32 :=
  if sh o = (0, 5) then
    (iter (b_X5_total_4 o h) FU (0, 0)).bind fun a3 =>
    some a3.1
  else none
theorem t_X5_total {x : Cx} (g : Gx x RX5 cX5_total 3 1) (o : Nat) (h : Hp) (out : Int32) (H : f_X5_total o h = some out) (K : RtI x .int out h) : WA x 0 [.ref o, .null, .null] [] h := by
  unfold f_X5_total at H
  obtain ⟨hgo, H⟩ := gd_some H
  refine st_iconst g dX5_total_0 ic_0 ?_
  refine st_istore_n g dX5_total_1 (Nat.le_of_ble_eq_true rfl) rfl (ls2 := [.ref o, .int 0, .null]) rfl ?_
  refine st_iconst g dX5_total_2 ic_0 ?_
  refine st_istore_n g dX5_total_3 (Nat.le_of_ble_eq_true rfl) rfl (ls2 := [.ref o, .int 0, .int 0]) rfl ?_
  show P_X5_total_4 x o h (0, 0)
  obtain ⟨a3, ha3, H⟩ := bind_some H
  refine iter_W (P := P_X5_total_4 x o h) (E := E_X5_total_4 x o h) (fun s9 o9 ho9 hK9 => tb_X5_total_4 g o h hgo s9 o9 ho9 hK9) FU _ a3 ha3 ?_
  show WA x 25 [.null, .int a3.1, .null] [] h
  refine st_iload_n g dX5_total_25 rfl ?_
  obtain rfl := Option.some.inj H
  exact st_iret g dX5_total_26 rfl (fun q => by cases q) K
theorem c_X5_total (o : Nat) (h : Hp) (r : Int32) (H : f_X5_total o h = some r) : CtI yX5_total cX5_total 3 .int 1 [.ref o] h r h :=
  ct_ofI (own := RX5) [.ref o, .null, .null] (by decide +kernel) rfl (fun ρ => Nat.le_of_ble_eq_true rfl) (fun ρ => rfl) (fun x g K => t_X5_total g o h r H K)
def P_X5_alike_2 (x : Cx) (o : Nat) (h : Hp) (s : Int32) : Prop := WA x 2 [.ref o, .int s, .null] [] h
def E_X5_alike_2 (x : Cx) (o : Nat) (h : Hp) : Int32 ⊕ Int32 → Prop := Sum.elim (fun s : Int32 => WA x 64 [.null, .null, .null] [] h) (fun r : Int32 => RtI x .int r h)
def P_X5_alike_24 (x : Cx) (o : Nat) (a1 : Int32) (h : Hp) (s : Int32) : Prop := WA x 24 [.ref o, .int a1, .int s] [] h
def E_X5_alike_24 (x : Cx) (o : Nat) (a1 : Int32) (h : Hp) : Int32 ⊕ Int32 → Prop := Sum.elim (fun s : Int32 => WA x 58 [.ref o, .int a1, .null] [] h) (fun r : Int32 => RtI x .int r h)
def b_X5_alike_24 (o : Nat) (a1 : Int32) (h : Hp) (s : Int32) : Option (Int32 ⊕ (Int32 ⊕ Int32)) :=
  if 12 ≤ s then
    some (.inr (.inl s))
  else
    (rdI h (pf o 0) a1).bind fun v5 =>
    (rdI h (pf o 0) s).bind fun v6 =>
    if v5 = v6 then
      some (.inr (.inr ((12 * a1) + s)))
    else
      some (.inl (s + 1))
theorem tb_X5_alike_24 {x : Cx} (g : Gx x RX5 cX5_alike 3 1) (o : Nat) (a1 : Int32) (h : Hp) (hgo : sh o = (0, 5)) (s : Int32) (out : Int32 ⊕ (Int32 ⊕ Int32)) (H : b_X5_alike_24 o a1 h s = some out) (K : Sum.elim (P_X5_alike_24 x o a1 h) (E_X5_alike_24 x o a1 h) out) : P_X5_alike_24 x o a1 h s := by
  unfold b_X5_alike_24 at H
  show WA x 24 [.ref o, .int a1, .int s] [] h
  refine st_iload_n g dX5_alike_24 rfl ?_
  refine st_bipush g dX5_alike_25 bi_12 ?_
  refine st_ic_ge g dX5_alike_27 (tgt := 58) (by decide) H (fun q4 H => ?_) (fun q4 H => ?_)
  · obtain rfl := Option.some.inj H
    exact (wa_drop [2] K)
  · refine st_aload_n g dX5_alike_30 rfl ?_
    refine gf_X5_9 g dX5_alike_31 hgo (r := pf o 0) rfl ?_
    refine st_iload_n g dX5_alike_34 rfl ?_
    refine st_iald g dX5_alike_35 H (fun v5 H => ?_)
    refine st_aload_n g dX5_alike_36 rfl ?_
    refine gf_X5_9 g dX5_alike_37 hgo (r := pf o 0) rfl ?_
    refine st_iload_n g dX5_alike_40 rfl ?_
    refine st_iald g dX5_alike_41 H (fun v6 H => ?_)
    refine st_ic_ne g dX5_alike_42 (tgt := 52) (by decide) H (fun q7 H => ?_) (fun q7 H => ?_)
    · refine st_iinc g dX5_alike_52 rfl (ii_1 _) (Nat.le_of_ble_eq_true rfl) rfl (ls2 := [.ref o, .int a1, .int (s + 1)]) rfl ?_
      refine st_goto g dX5_alike_55 (tgt := 24) (by decide) ?_
      obtain rfl := Option.some.inj H
      exact K
    · refine st_bipush g dX5_alike_45 bi_12 ?_
      refine st_iload_n g dX5_alike_47 rfl ?_
      refine st_imul g dX5_alike_48 ?_
      refine st_iload_n g dX5_alike_49 rfl ?_
      refine st_iadd g dX5_alike_50 ?_
      obtain rfl := Option.some.inj H
      exact st_iret g dX5_alike_51 rfl (fun q => by cases q) K
def b_X5_alike_2 (o : Nat) (h : Hp) (s : Int32) : Option (Int32 ⊕ (Int32 ⊕ Int32)) :=
  if 12 ≤ s then
    some (.inr (.inl s))
  else
    (rdI h (pf o 0) s).bind fun v2 =>
    if v2 = 0 then
      some (.inl (s + 1))
    else
      (iter (b_X5_alike_24 o s h) FU (s + 1)).bind (Sum.elim (fun a8 =>
        some (.inl (s + 1))) (fun r => some (.inr (.inr r))))
theorem tb_X5_alike_2 {x : Cx} (g : Gx x RX5 cX5_alike 3 1) (o : Nat) (h : Hp) (hgo : sh o = (0, 5)) (s : Int32) (out : Int32 ⊕ (Int32 ⊕ Int32)) (H : b_X5_alike_2 o h s = some out) (K : Sum.elim (P_X5_alike_2 x o h) (E_X5_alike_2 x o h) out) : P_X5_alike_2 x o h s := by
  unfold b_X5_alike_2 at H
  show WA x 2 [.ref o, .int s, .null] [] h
  refine st_iload_n g dX5_alike_2 rfl ?_
  refine st_bipush g dX5_alike_3 bi_12 ?_
  refine st_ic_ge g dX5_alike_5 (tgt := 64) (by decide) H (fun q1 H => ?_) (fun q1 H => ?_)
  · obtain rfl := Option.some.inj H
    exact (wa_drop [0, 1] K)
  · refine st_aload_n g dX5_alike_8 rfl ?_
    refine gf_X5_9 g dX5_alike_9 hgo (r := pf o 0) rfl ?_
    refine st_iload_n g dX5_alike_12 rfl ?_
    refine st_iald g dX5_alike_13 H (fun v2 H => ?_)
    refine st_if_ne g dX5_alike_14 (tgt := 20) (by decide) H (fun q3 H => ?_) (fun q3 H => ?_)
    · refine st_iload_n g dX5_alike_20 rfl ?_
      refine st_iconst g dX5_alike_21 ic_1 ?_
      refine st_iadd g dX5_alike_22 ?_
      refine st_istore_n g dX5_alike_23 (Nat.le_of_ble_eq_true rfl) rfl (ls2 := [.ref o, .int s, .int (s + 1)]) rfl ?_
      show P_X5_alike_24 x o s h (s + 1)
      obtain ⟨a8o, ha8, hca8⟩ := it_R H
      refine iter_W (P := P_X5_alike_24 x o s h) (E := E_X5_alike_24 x o s h) (fun s9 o9 ho9 hK9 => tb_X5_alike_24 g o s h hgo s9 o9 ho9 hK9) FU _ a8o ha8 ?_
      rcases hca8 with ⟨a8, rfl, H⟩ | ⟨r, rfl, H⟩
      · show WA x 58 [.ref o, .int s, .null] [] h
        refine st_iinc g dX5_alike_58 rfl (ii_1 _) (Nat.le_of_ble_eq_true rfl) rfl (ls2 := [.ref o, .int (s + 1), .null]) rfl ?_
        refine st_goto g dX5_alike_61 (tgt := 2) (by decide) ?_
        obtain rfl := Option.some.inj H
        exact K
      · obtain rfl := Option.some.inj H
        exact K
    · refine st_goto g dX5_alike_17 (tgt := 58) (by decide) ?_
      refine st_iinc g dX5_alike_58 rfl (ii_1 _) (Nat.le_of_ble_eq_true rfl) rfl (ls2 := [.ref o, .int (s + 1), .null]) rfl ?_
      refine st_goto g dX5_alike_61 (tgt := 2) (by decide) ?_
      obtain rfl := Option.some.inj H
      exact K
def f_X5_alike (o : Nat) (h : Hp) : Option Int32 :=
  if sh o = (0, 5) then
    (iter (b_X5_alike_2 o h) FU 0).bind (Sum.elim (fun a9 =>
      some (-2)) (fun r => some r))
  else none
theorem t_X5_alike {x : Cx} (g : Gx x RX5 cX5_alike 3 1) (o : Nat) (h : Hp) (out : Int32) (H : f_X5_alike o h = some out) (K : RtI x .int out h) : WA x 0 [.ref o, .null, .null] [] h := by
  unfold f_X5_alike at H
  obtain ⟨hgo, H⟩ := gd_some H
  refine st_iconst g dX5_alike_0 ic_0 ?_
  refine st_istore_n g dX5_alike_1 (Nat.le_of_ble_eq_true rfl) rfl (ls2 := [.ref o, .int 0, .null]) rfl ?_
  show P_X5_alike_2 x o h 0
  obtain ⟨a9o, ha9, hca9⟩ := it_R H
  refine iter_W (P := P_X5_alike_2 x o h) (E := E_X5_alike_2 x o h) (fun s9 o9 ho9 hK9 => tb_X5_alike_2 g o h hgo s9 o9 ho9 hK9) FU _ a9o ha9 ?_
  rcases hca9 with ⟨a9, rfl, H⟩ | ⟨r, rfl, H⟩
  · show WA x 64 [.null, .null, .null] [] h
    refine st_bipush g dX5_alike_64 bi_m2 ?_
    obtain rfl := Option.some.inj H
    exact st_iret g dX5_alike_66 rfl (fun q => by cases q) K
  · obtain rfl := Option.some.inj H
    exact K
theorem c_X5_alike (o : Nat) (h : Hp) (r : Int32) (H : f_X5_alike o h = some r) : CtI yX5_alike cX5_alike 3 .int 1 [.ref o] h r h :=
  ct_ofI (own := RX5) [.ref o, .null, .null] (by decide +kernel) rfl (fun ρ => Nat.le_of_ble_eq_true rfl) (fun ρ => rfl) (fun x g K => t_X5_alike g o h r H K)
def P_X7_longestRise_4 (x : Cx) (s : (Int32 × Int32 × Hp)) : Prop := WA x 4 [.ref 0, .int s.1, .int s.2.1, .null] [] s.2.2
def E_X7_longestRise_4 (x : Cx) : (Int32 × Int32 × Hp) → Prop := fun s : (Int32 × Int32 × Hp) => WA x 130 [.null, .int s.1, .null, .null] [] s.2.2
def P_X7_longestRise_28 (x : Cx) (a1 : Int32) (a2 : Int32) (s : (Int32 × Hp)) : Prop := WA x 28 [.ref 0, .int a1, .int a2, .int s.1] [] s.2
def E_X7_longestRise_28 (x : Cx) (a1 : Int32) (a2 : Int32) : (Int32 × Hp) → Prop := fun s : (Int32 × Hp) => WA x 107 [.ref 0, .int a1, .int a2, .null] [] s.2
def b_X7_longestRise_28 (a1 : Int32) (a2 : Int32) (s : (Int32 × Hp)) : Option ((Int32 × Hp) ⊕ (Int32 × Hp)) :=
  if a2 ≤ s.1 then
    some (.inr (s.1, s.2))
  else
    (rdI s.2 14 s.1).bind fun v5 =>
    (rdI s.2 14 a2).bind fun v6 =>
    if v6 ≤ v5 then
      some (.inl (s.1 + 1, s.2))
    else
      (rdI s.2 50 s.1).bind fun v8 =>
      (rdI s.2 50 a2).bind fun v9 =>
      if (v8 + 1) ≤ v9 then
        some (.inl (s.1 + 1, s.2))
      else
        (rdI s.2 50 s.1).bind fun v11 =>
        (wrI s.2 50 a2 (v11 + 1)).bind fun h12 =>
        (rdI h12 51 s.1).bind fun v13 =>
        (wrI h12 51 a2 (v13 ||| ((1 : Int32) <<< (a2 &&& 31)))).bind fun h14 =>
        some (.inl (s.1 + 1, h14))
theorem tb_X7_longestRise_28 {x : Cx} (g : Gx x RX7 cX7_longestRise 4 1) (a1 : Int32) (a2 : Int32) (s : (Int32 × Hp)) (out : (Int32 × Hp) ⊕ (Int32 × Hp)) (H : b_X7_longestRise_28 a1 a2 s = some out) (K : Sum.elim (P_X7_longestRise_28 x a1 a2) (E_X7_longestRise_28 x a1 a2) out) : P_X7_longestRise_28 x a1 a2 s := by
  unfold b_X7_longestRise_28 at H
  show WA x 28 [.ref 0, .int a1, .int a2, .int s.1] [] s.2
  refine st_iload_n g dX7_longestRise_28 rfl ?_
  refine st_iload_n g dX7_longestRise_29 rfl ?_
  refine st_ic_ge g dX7_longestRise_30 (tgt := 107) (by decide) H (fun q4 H => ?_) (fun q4 H => ?_)
  · obtain rfl := Option.some.inj H
    exact (wa_drop [3] K)
  · refine st_aload_n g dX7_longestRise_33 rfl ?_
    refine gf_X7_26 g dX7_longestRise_34 rfl (r := 13) rfl ?_
    refine gf_X7_169 g dX7_longestRise_37 rfl (r := 14) rfl ?_
    refine st_iload_n g dX7_longestRise_40 rfl ?_
    refine st_iald g dX7_longestRise_41 H (fun v5 H => ?_)
    refine st_aload_n g dX7_longestRise_42 rfl ?_
    refine gf_X7_26 g dX7_longestRise_43 rfl (r := 13) rfl ?_
    refine gf_X7_169 g dX7_longestRise_46 rfl (r := 14) rfl ?_
    refine st_iload_n g dX7_longestRise_49 rfl ?_
    refine st_iald g dX7_longestRise_50 H (fun v6 H => ?_)
    refine st_ic_ge g dX7_longestRise_51 (tgt := 101) (by decide) H (fun q7 H => ?_) (fun q7 H => ?_)
    · refine st_iinc g dX7_longestRise_101 rfl (ii_1 _) (Nat.le_of_ble_eq_true rfl) rfl (ls2 := [.ref 0, .int a1, .int a2, .int (s.1 + 1)]) rfl ?_
      refine st_goto g dX7_longestRise_104 (tgt := 28) (by decide) ?_
      obtain rfl := Option.some.inj H
      exact K
    · refine st_aload_n g dX7_longestRise_54 rfl ?_
      refine gf_X7_76 g dX7_longestRise_55 rfl (r := 50) rfl ?_
      refine st_iload_n g dX7_longestRise_58 rfl ?_
      refine st_iald g dX7_longestRise_59 H (fun v8 H => ?_)
      refine st_iconst g dX7_longestRise_60 ic_1 ?_
      refine st_iadd g dX7_longestRise_61 ?_
      refine st_aload_n g dX7_longestRise_62 rfl ?_
      refine gf_X7_76 g dX7_longestRise_63 rfl (r := 50) rfl ?_
      refine st_iload_n g dX7_longestRise_66 rfl ?_
      refine st_iald g dX7_longestRise_67 H (fun v9 H => ?_)
      refine st_ic_le g dX7_longestRise_68 (tgt := 101) (by decide) H (fun q10 H => ?_) (fun q10 H => ?_)
      · refine st_iinc g dX7_longestRise_101 rfl (ii_1 _) (Nat.le_of_ble_eq_true rfl) rfl (ls2 := [.ref 0, .int a1, .int a2, .int (s.1 + 1)]) rfl ?_
        refine st_goto g dX7_longestRise_104 (tgt := 28) (by decide) ?_
        obtain rfl := Option.some.inj H
        exact K
      · refine st_aload_n g dX7_longestRise_71 rfl ?_
        refine gf_X7_76 g dX7_longestRise_72 rfl (r := 50) rfl ?_
        refine st_iload_n g dX7_longestRise_75 rfl ?_
        refine st_aload_n g dX7_longestRise_76 rfl ?_
        refine gf_X7_76 g dX7_longestRise_77 rfl (r := 50) rfl ?_
        refine st_iload_n g dX7_longestRise_80 rfl ?_
        refine st_iald g dX7_longestRise_81 H (fun v11 H => ?_)
        refine st_iconst g dX7_longestRise_82 ic_1 ?_
        refine st_iadd g dX7_longestRise_83 ?_
        refine st_iast g dX7_longestRise_84 H (fun h12 H => ?_)
        refine st_aload_n g dX7_longestRise_85 rfl ?_
        refine gf_X7_79 g dX7_longestRise_86 rfl (r := 51) rfl ?_
        refine st_iload_n g dX7_longestRise_89 rfl ?_
        refine st_aload_n g dX7_longestRise_90 rfl ?_
        refine gf_X7_79 g dX7_longestRise_91 rfl (r := 51) rfl ?_
        refine st_iload_n g dX7_longestRise_94 rfl ?_
        refine st_iald g dX7_longestRise_95 H (fun v13 H => ?_)
        refine st_iconst g dX7_longestRise_96 ic_1 ?_
        refine st_iload_n g dX7_longestRise_97 rfl ?_
        refine st_ishl g dX7_longestRise_98 ?_
        refine st_ior g dX7_longestRise_99 ?_
        refine st_iast g dX7_longestRise_100 H (fun h14 H => ?_)
        refine st_iinc g dX7_longestRise_101 rfl (ii_1 _) (Nat.le_of_ble_eq_true rfl) rfl (ls2 := [.ref 0, .int a1, .int a2, .int (s.1 + 1)]) rfl ?_
        refine st_goto g dX7_longestRise_104 (tgt := 28) (by decide) ?_
        obtain rfl := Option.some.inj H
        exact K
def b_X7_longestRise_4 (s : (Int32 × Int32 × Hp)) : Option ((Int32 × Int32 × Hp) ⊕ (Int32 × Int32 × Hp)) :=
  if 12 ≤ s.2.1 then
    some (.inr (s.1, s.2.1, s.2.2))
  else
    (wrI s.2.2 50 s.2.1 1).bind fun h2 =>
    (wrI h2 51 s.2.1 ((1 : Int32) <<< (s.2.1 &&& 31))).bind fun h3 =>
    (iter (b_X7_longestRise_28 s.1 s.2.1) FU (0, h3)).bind fun a15 =>
    (rdI a15.2 50 s.2.1).bind fun v16 =>
    (rdI a15.2 50 s.1).bind fun v17 =>
    if v16 ≤ v17 then
      some (.inl (s.1, s.2.1 + 1, a15.2))
    else
      some (.inl (s.2.1, s.2.1 + 1, a15.2))
theorem tb_X7_longestRise_4 {x : Cx} (g : Gx x RX7 cX7_longestRise 4 1) (s : (Int32 × Int32 × Hp)) (out : (Int32 × Int32 × Hp) ⊕ (Int32 × Int32 × Hp)) (H : b_X7_longestRise_4 s = some out) (K : Sum.elim (P_X7_longestRise_4 x) (E_X7_longestRise_4 x) out) : P_X7_longestRise_4 x s := by
  unfold b_X7_longestRise_4 at H
  show WA x 4 [.ref 0, .int s.1, .int s.2.1, .null] [] s.2.2
  refine st_iload_n g dX7_longestRise_4 rfl ?_
  refine st_bipush g dX7_longestRise_5 bi_12 ?_
  refine st_ic_ge g dX7_longestRise_7 (tgt := 130) (by decide) H (fun q1 H => ?_) (fun q1 H => ?_)
  · obtain rfl := Option.some.inj H
    exact (wa_drop [0, 2] K)
  · refine st_aload_n g dX7_longestRise_10 rfl ?_
    refine gf_X7_76 g dX7_longestRise_11 rfl (r := 50) rfl ?_
    refine st_iload_n g dX7_longestRise_14 rfl ?_
    refine st_iconst g dX7_longestRise_15 ic_1 ?_
    refine st_iast g dX7_longestRise_16 H (fun h2 H => ?_)
    refine st_aload_n g dX7_longestRise_17 rfl ?_
    refine gf_X7_79 g dX7_longestRise_18 rfl (r := 51) rfl ?_
    refine st_iload_n g dX7_longestRise_21 rfl ?_
    refine st_iconst g dX7_longestRise_22 ic_1 ?_
    refine st_iload_n g dX7_longestRise_23 rfl ?_
    refine st_ishl g dX7_longestRise_24 ?_
    refine st_iast g dX7_longestRise_25 H (fun h3 H => ?_)
    refine st_iconst g dX7_longestRise_26 ic_0 ?_
    refine st_istore_n g dX7_longestRise_27 (Nat.le_of_ble_eq_true rfl) rfl (ls2 := [.ref 0, .int s.1, .int s.2.1, .int 0]) rfl ?_
    show P_X7_longestRise_28 x s.1 s.2.1 (0, h3)
    obtain ⟨a15, ha15, H⟩ := bind_some H
    refine iter_W (P := P_X7_longestRise_28 x s.1 s.2.1) (E := E_X7_longestRise_28 x s.1 s.2.1) (fun s9 o9 ho9 hK9 => tb_X7_longestRise_28 g s.1 s.2.1 s9 o9 ho9 hK9) FU _ a15 ha15 ?_
    show WA x 107 [.ref 0, .int s.1, .int s.2.1, .null] [] a15.2
    refine st_aload_n g dX7_longestRise_107 rfl ?_
    refine gf_X7_76 g dX7_longestRise_108 rfl (r := 50) rfl ?_
    refine st_iload_n g dX7_longestRise_111 rfl ?_
    refine st_iald g dX7_longestRise_112 H (fun v16 H => ?_)
    refine st_aload_n g dX7_longestRise_113 rfl ?_
    refine gf_X7_76 g dX7_longestRise_114 rfl (r := 50) rfl ?_
    refine st_iload_n g dX7_longestRise_117 rfl ?_
    refine st_iald g dX7_longestRise_118 H (fun v17 H => ?_)
    refine st_ic_le g dX7_longestRise_119 (tgt := 124) (by decide) H (fun q18 H => ?_) (fun q18 H => ?_)
    · refine st_iinc g dX7_longestRise_124 rfl (ii_1 _) (Nat.le_of_ble_eq_true rfl) rfl (ls2 := [.ref 0, .int s.1, .int (s.2.1 + 1), .null]) rfl ?_
      refine st_goto g dX7_longestRise_127 (tgt := 4) (by decide) ?_
      obtain rfl := Option.some.inj H
      exact K
    · refine st_iload_n g dX7_longestRise_122 rfl ?_
      refine st_istore_n g dX7_longestRise_123 (Nat.le_of_ble_eq_true rfl) rfl (ls2 := [.ref 0, .int s.2.1, .int s.2.1, .null]) rfl ?_
      refine st_iinc g dX7_longestRise_124 rfl (ii_1 _) (Nat.le_of_ble_eq_true rfl) rfl (ls2 := [.ref 0, .int s.2.1, .int (s.2.1 + 1), .null]) rfl ?_
      refine st_goto g dX7_longestRise_127 (tgt := 4) (by decide) ?_
      obtain rfl := Option.some.inj H
      exact K
def f_X7_longestRise (h : Hp) : Option (Int32 × Hp) :=
  (iter (b_X7_longestRise_4) FU (0, 0, h)).bind fun a19 =>
  some (a19.1, a19.2.2)
theorem t_X7_longestRise {x : Cx} (g : Gx x RX7 cX7_longestRise 4 1) (h : Hp) (out : (Int32 × Hp)) (H : f_X7_longestRise h = some out) (K : RtI x .int out.1 out.2) : WA x 0 [.ref 0, .null, .null, .null] [] h := by
  unfold f_X7_longestRise at H
  refine st_iconst g dX7_longestRise_0 ic_0 ?_
  refine st_istore_n g dX7_longestRise_1 (Nat.le_of_ble_eq_true rfl) rfl (ls2 := [.ref 0, .int 0, .null, .null]) rfl ?_
  refine st_iconst g dX7_longestRise_2 ic_0 ?_
  refine st_istore_n g dX7_longestRise_3 (Nat.le_of_ble_eq_true rfl) rfl (ls2 := [.ref 0, .int 0, .int 0, .null]) rfl ?_
  show P_X7_longestRise_4 x (0, 0, h)
  obtain ⟨a19, ha19, H⟩ := bind_some H
  refine iter_W (P := P_X7_longestRise_4 x) (E := E_X7_longestRise_4 x) (fun s9 o9 ho9 hK9 => tb_X7_longestRise_4 g s9 o9 ho9 hK9) FU _ a19 ha19 ?_
  show WA x 130 [.null, .int a19.1, .null, .null] [] a19.2.2
  refine st_iload_n g dX7_longestRise_130 rfl ?_
  obtain rfl := Option.some.inj H
  exact st_iret g dX7_longestRise_131 rfl (fun q => by cases q) K
theorem c_X7_longestRise (h : Hp) (r : (Int32 × Hp)) (H : f_X7_longestRise h = some r) : CtI yX7_longestRise cX7_longestRise 4 .int 1 [.ref 0] h r.1 r.2 :=
  ct_ofI (own := RX7) [.ref 0, .null, .null, .null] (by decide +kernel) rfl (fun ρ => Nat.le_of_ble_eq_true rfl) (fun ρ => rfl) (fun x g K => t_X7_longestRise g h r H K)
def P_X5_firstBreak_2 (x : Cx) (o : Nat) (h : Hp) (s : Int32) : Prop := WA x 2 [.ref o, .int s] [] h
def E_X5_firstBreak_2 (x : Cx) (o : Nat) (h : Hp) : Int32 ⊕ Int32 → Prop := Sum.elim (fun s : Int32 => WA x 33 [.null, .null] [] h) (fun r : Int32 => RtI x .int r h)
def b_X5_firstBreak_2 (o : Nat) (h : Hp) (s : Int32) : Option (Int32 ⊕ (Int32 ⊕ Int32)) :=
  if 12 ≤ s then
    some (.inr (.inl s))
  else
    (rdI h (pf o 0) s).bind fun v2 =>
    (rdI h (pf o 0) (s - 1)).bind fun v3 =>
    if v3 ≤ v2 then
      some (.inl (s + 1))
    else
      some (.inr (.inr s))
theorem tb_X5_firstBreak_2 {x : Cx} (g : Gx x RX5 cX5_firstBreak 2 1) (o : Nat) (h : Hp) (hgo : sh o = (0, 5)) (s : Int32) (out : Int32 ⊕ (Int32 ⊕ Int32)) (H : b_X5_firstBreak_2 o h s = some out) (K : Sum.elim (P_X5_firstBreak_2 x o h) (E_X5_firstBreak_2 x o h) out) : P_X5_firstBreak_2 x o h s := by
  unfold b_X5_firstBreak_2 at H
  show WA x 2 [.ref o, .int s] [] h
  refine st_iload_n g dX5_firstBreak_2 rfl ?_
  refine st_bipush g dX5_firstBreak_3 bi_12 ?_
  refine st_ic_ge g dX5_firstBreak_5 (tgt := 33) (by decide) H (fun q1 H => ?_) (fun q1 H => ?_)
  · obtain rfl := Option.some.inj H
    exact (wa_drop [0, 1] K)
  · refine st_aload_n g dX5_firstBreak_8 rfl ?_
    refine gf_X5_9 g dX5_firstBreak_9 hgo (r := pf o 0) rfl ?_
    refine st_iload_n g dX5_firstBreak_12 rfl ?_
    refine st_iald g dX5_firstBreak_13 H (fun v2 H => ?_)
    refine st_aload_n g dX5_firstBreak_14 rfl ?_
    refine gf_X5_9 g dX5_firstBreak_15 hgo (r := pf o 0) rfl ?_
    refine st_iload_n g dX5_firstBreak_18 rfl ?_
    refine st_iconst g dX5_firstBreak_19 ic_1 ?_
    refine st_isub g dX5_firstBreak_20 ?_
    refine st_iald g dX5_firstBreak_21 H (fun v3 H => ?_)
    refine st_ic_ge g dX5_firstBreak_22 (tgt := 27) (by decide) H (fun q4 H => ?_) (fun q4 H => ?_)
    · refine st_iinc g dX5_firstBreak_27 rfl (ii_1 _) (Nat.le_of_ble_eq_true rfl) rfl (ls2 := [.ref o, .int (s + 1)]) rfl ?_
      refine st_goto g dX5_firstBreak_30 (tgt := 2) (by decide) ?_
      obtain rfl := Option.some.inj H
      exact K
    · refine st_iload_n g dX5_firstBreak_25 rfl ?_
      obtain rfl := Option.some.inj H
      exact st_iret g dX5_firstBreak_26 rfl (fun q => by cases q) K
def f_X5_firstBreak (o : Nat) (h : Hp) : Option Int32 :=
  if sh o = (0, 5) then
    (iter (b_X5_firstBreak_2 o h) FU 1).bind (Sum.elim (fun a5 =>
      some (-2)) (fun r => some r))
  else none
theorem t_X5_firstBreak {x : Cx} (g : Gx x RX5 cX5_firstBreak 2 1) (o : Nat) (h : Hp) (out : Int32) (H : f_X5_firstBreak o h = some out) (K : RtI x .int out h) : WA x 0 [.ref o, .null] [] h := by
  unfold f_X5_firstBreak at H
  obtain ⟨hgo, H⟩ := gd_some H
  refine st_iconst g dX5_firstBreak_0 ic_1 ?_
  refine st_istore_n g dX5_firstBreak_1 (Nat.le_of_ble_eq_true rfl) rfl (ls2 := [.ref o, .int 1]) rfl ?_
  show P_X5_firstBreak_2 x o h 1
  obtain ⟨a5o, ha5, hca5⟩ := it_R H
  refine iter_W (P := P_X5_firstBreak_2 x o h) (E := E_X5_firstBreak_2 x o h) (fun s9 o9 ho9 hK9 => tb_X5_firstBreak_2 g o h hgo s9 o9 ho9 hK9) FU _ a5o ha5 ?_
  rcases hca5 with ⟨a5, rfl, H⟩ | ⟨r, rfl, H⟩
  · show WA x 33 [.null, .null] [] h
    refine st_bipush g dX5_firstBreak_33 bi_m2 ?_
    obtain rfl := Option.some.inj H
    exact st_iret g dX5_firstBreak_35 rfl (fun q => by cases q) K
  · obtain rfl := Option.some.inj H
    exact K
theorem c_X5_firstBreak (o : Nat) (h : Hp) (r : Int32) (H : f_X5_firstBreak o h = some r) : CtI yX5_firstBreak cX5_firstBreak 2 .int 1 [.ref o] h r h :=
  ct_ofI (own := RX5) [.ref o, .null] (by decide +kernel) rfl (fun ρ => Nat.le_of_ble_eq_true rfl) (fun ρ => rfl) (fun x g K => t_X5_firstBreak g o h r H K)
def P_X5_lastBreak_3 (x : Cx) (o : Nat) (h : Hp) (s : Int32) : Prop := WA x 3 [.ref o, .int s] [] h
def E_X5_lastBreak_3 (x : Cx) (o : Nat) (h : Hp) : Int32 ⊕ Int32 → Prop := Sum.elim (fun s : Int32 => WA x 32 [.null, .null] [] h) (fun r : Int32 => RtI x .int r h)
def b_X5_lastBreak_3 (o : Nat) (h : Hp) (s : Int32) : Option (Int32 ⊕ (Int32 ⊕ Int32)) :=
  if s ≤ 0 then
    some (.inr (.inl s))
  else
    (rdI h (pf o 0) s).bind fun v2 =>
    (rdI h (pf o 0) (s - 1)).bind fun v3 =>
    if v3 ≤ v2 then
      some (.inl (s - 1))
    else
      some (.inr (.inr s))
theorem tb_X5_lastBreak_3 {x : Cx} (g : Gx x RX5 cX5_lastBreak 2 1) (o : Nat) (h : Hp) (hgo : sh o = (0, 5)) (s : Int32) (out : Int32 ⊕ (Int32 ⊕ Int32)) (H : b_X5_lastBreak_3 o h s = some out) (K : Sum.elim (P_X5_lastBreak_3 x o h) (E_X5_lastBreak_3 x o h) out) : P_X5_lastBreak_3 x o h s := by
  unfold b_X5_lastBreak_3 at H
  show WA x 3 [.ref o, .int s] [] h
  refine st_iload_n g dX5_lastBreak_3 rfl ?_
  refine st_if_le g dX5_lastBreak_4 (tgt := 32) (by decide) H (fun q1 H => ?_) (fun q1 H => ?_)
  · obtain rfl := Option.some.inj H
    exact (wa_drop [0, 1] K)
  · refine st_aload_n g dX5_lastBreak_7 rfl ?_
    refine gf_X5_9 g dX5_lastBreak_8 hgo (r := pf o 0) rfl ?_
    refine st_iload_n g dX5_lastBreak_11 rfl ?_
    refine st_iald g dX5_lastBreak_12 H (fun v2 H => ?_)
    refine st_aload_n g dX5_lastBreak_13 rfl ?_
    refine gf_X5_9 g dX5_lastBreak_14 hgo (r := pf o 0) rfl ?_
    refine st_iload_n g dX5_lastBreak_17 rfl ?_
    refine st_iconst g dX5_lastBreak_18 ic_1 ?_
    refine st_isub g dX5_lastBreak_19 ?_
    refine st_iald g dX5_lastBreak_20 H (fun v3 H => ?_)
    refine st_ic_ge g dX5_lastBreak_21 (tgt := 26) (by decide) H (fun q4 H => ?_) (fun q4 H => ?_)
    · refine st_iinc g dX5_lastBreak_26 rfl (ii_m1 _) (Nat.le_of_ble_eq_true rfl) rfl (ls2 := [.ref o, .int (s - 1)]) rfl ?_
      refine st_goto g dX5_lastBreak_29 (tgt := 3) (by decide) ?_
      obtain rfl := Option.some.inj H
      exact K
    · refine st_iload_n g dX5_lastBreak_24 rfl ?_
      obtain rfl := Option.some.inj H
      exact st_iret g dX5_lastBreak_25 rfl (fun q => by cases q) K
def f_X5_lastBreak (o : Nat) (h : Hp) : Option Int32 :=
  if sh o = (0, 5) then
    (iter (b_X5_lastBreak_3 o h) FU 11).bind (Sum.elim (fun a5 =>
      some (-2)) (fun r => some r))
  else none
theorem t_X5_lastBreak {x : Cx} (g : Gx x RX5 cX5_lastBreak 2 1) (o : Nat) (h : Hp) (out : Int32) (H : f_X5_lastBreak o h = some out) (K : RtI x .int out h) : WA x 0 [.ref o, .null] [] h := by
  unfold f_X5_lastBreak at H
  obtain ⟨hgo, H⟩ := gd_some H
  refine st_bipush g dX5_lastBreak_0 bi_11 ?_
  refine st_istore_n g dX5_lastBreak_2 (Nat.le_of_ble_eq_true rfl) rfl (ls2 := [.ref o, .int 11]) rfl ?_
  show P_X5_lastBreak_3 x o h 11
  obtain ⟨a5o, ha5, hca5⟩ := it_R H
  refine iter_W (P := P_X5_lastBreak_3 x o h) (E := E_X5_lastBreak_3 x o h) (fun s9 o9 ho9 hK9 => tb_X5_lastBreak_3 g o h hgo s9 o9 ho9 hK9) FU _ a5o ha5 ?_
  rcases hca5 with ⟨a5, rfl, H⟩ | ⟨r, rfl, H⟩
  · show WA x 32 [.null, .null] [] h
    refine st_bipush g dX5_lastBreak_32 bi_m2 ?_
    obtain rfl := Option.some.inj H
    exact st_iret g dX5_lastBreak_34 rfl (fun q => by cases q) K
  · obtain rfl := Option.some.inj H
    exact K
theorem c_X5_lastBreak (o : Nat) (h : Hp) (r : Int32) (H : f_X5_lastBreak o h = some r) : CtI yX5_lastBreak cX5_lastBreak 2 .int 1 [.ref o] h r h :=
  ct_ofI (own := RX5) [.ref o, .null] (by decide +kernel) rfl (fun ρ => Nat.le_of_ble_eq_true rfl) (fun ρ => rfl) (fun x g K => t_X5_lastBreak g o h r H K)
def f_X2_clear (h : Hp) : Option Hp :=
  lt (stI h 44 4 0) fun h1 =>
  lt (stI h1 44 5 0) fun h2 =>
  lt (stI h2 44 6 0) fun h3 =>
  some h3
theorem t_X2_clear {x : Cx} (g : Gx x RX2 cX2_clear 1 1) (h : Hp) (out : Hp) (H : f_X2_clear h = some out) (K : RtV x out) : WA x 0 [.ref 44] [] h := by
  unfold f_X2_clear at H
  refine st_aload_n g dX2_clear_0 rfl ?_
  refine st_iconst g dX2_clear_1 ic_0 ?_
  refine pu_X2_24 g dX2_clear_2 rfl ?_
  refine wa_ltH H (fun h1 H => ?_)
  refine st_aload_n g dX2_clear_5 rfl ?_
  refine st_iconst g dX2_clear_6 ic_0 ?_
  refine pu_X2_28 g dX2_clear_7 rfl ?_
  refine wa_ltH H (fun h2 H => ?_)
  refine st_aload_n g dX2_clear_10 rfl ?_
  refine st_iconst g dX2_clear_11 ic_0 ?_
  refine pu_X2_31 g dX2_clear_12 rfl ?_
  refine wa_ltH H (fun h3 H => ?_)
  obtain rfl := Option.some.inj H
  exact st_vret g dX2_clear_15 K
theorem c_X2_clear (h : Hp) (r : Hp) (H : f_X2_clear h = some r) : CtV yX2_clear cX2_clear 1 1 [.ref 44] h r :=
  ct_ofV (own := RX2) [.ref 44] (by decide +kernel) rfl (fun ρ => Nat.le_of_ble_eq_true rfl) (fun ρ => rfl) (fun x g K => t_X2_clear g h r H K)
def f_X2_offer (a1 : Int32) (a2 : Int32) (a3 : Int32) (a4 : Int32) (h : Hp) : Option Hp :=
  if a4 = 0 then
    some h
  else
    if (h.1 44 4) = 12 then
      some h
    else
      (wrI h 45 (h.1 44 4) a1).bind fun h3 =>
      (wrI h3 46 (h3.1 44 4) a2).bind fun h4 =>
      (wrI h4 47 (h4.1 44 4) a3).bind fun h5 =>
      (wrI h5 48 (h5.1 44 4) a4).bind fun h6 =>
      lt (stI h6 44 4 ((h6.1 44 4) + 1)) fun h7 =>
      some h7
theorem t_X2_offer {x : Cx} (g : Gx x RX2 cX2_offer 5 1) (a1 : Int32) (a2 : Int32) (a3 : Int32) (a4 : Int32) (h : Hp) (out : Hp) (H : f_X2_offer a1 a2 a3 a4 h = some out) (K : RtV x out) : WA x 0 [.ref 44, .int a1, .int a2, .int a3, .int a4] [] h := by
  unfold f_X2_offer at H
  refine st_iload g dX2_offer_0 rfl ?_
  refine st_if_eq g dX2_offer_2 (tgt := 14) (by decide) H (fun q1 H => ?_) (fun q1 H => ?_)
  · obtain rfl := Option.some.inj H
    exact st_vret g dX2_offer_14 K
  · refine st_aload_n g dX2_offer_5 rfl ?_
    refine gf_X2_24 g dX2_offer_6 rfl ?_
    refine st_bipush g dX2_offer_9 bi_12 ?_
    refine st_ic_ne g dX2_offer_11 (tgt := 15) (by decide) H (fun q2 H => ?_) (fun q2 H => ?_)
    · refine st_aload_n g dX2_offer_15 rfl ?_
      refine gf_X2_9 g dX2_offer_16 rfl (r := 45) rfl ?_
      refine st_aload_n g dX2_offer_19 rfl ?_
      refine gf_X2_24 g dX2_offer_20 rfl ?_
      refine st_iload_n g dX2_offer_23 rfl ?_
      refine st_iast g dX2_offer_24 H (fun h3 H => ?_)
      refine st_aload_n g dX2_offer_25 rfl ?_
      refine gf_X2_15 g dX2_offer_26 rfl (r := 46) rfl ?_
      refine st_aload_n g dX2_offer_29 rfl ?_
      refine gf_X2_24 g dX2_offer_30 rfl ?_
      refine st_iload_n g dX2_offer_33 rfl ?_
      refine st_iast g dX2_offer_34 H (fun h4 H => ?_)
      refine st_aload_n g dX2_offer_35 rfl ?_
      refine gf_X2_18 g dX2_offer_36 rfl (r := 47) rfl ?_
      refine st_aload_n g dX2_offer_39 rfl ?_
      refine gf_X2_24 g dX2_offer_40 rfl ?_
      refine st_iload_n g dX2_offer_43 rfl ?_
      refine st_iast g dX2_offer_44 H (fun h5 H => ?_)
      refine st_aload_n g dX2_offer_45 rfl ?_
      refine gf_X2_21 g dX2_offer_46 rfl (r := 48) rfl ?_
      refine st_aload_n g dX2_offer_49 rfl ?_
      refine gf_X2_24 g dX2_offer_50 rfl ?_
      refine st_iload g dX2_offer_53 rfl ?_
      refine st_iast g dX2_offer_55 H (fun h6 H => ?_)
      refine st_aload_n g dX2_offer_56 rfl ?_
      refine st_dup g dX2_offer_57 rfl ?_
      refine gf_X2_24 g dX2_offer_58 rfl ?_
      refine st_iconst g dX2_offer_61 ic_1 ?_
      refine st_iadd g dX2_offer_62 ?_
      refine pu_X2_24 g dX2_offer_63 rfl ?_
      refine wa_ltH H (fun h7 H => ?_)
      obtain rfl := Option.some.inj H
      exact st_vret g dX2_offer_66 K
    · obtain rfl := Option.some.inj H
      exact st_vret g dX2_offer_14 K
theorem c_X2_offer (a1 : Int32) (a2 : Int32) (a3 : Int32) (a4 : Int32) (h : Hp) (r : Hp) (H : f_X2_offer a1 a2 a3 a4 h = some r) : CtV yX2_offer cX2_offer 5 1 [.ref 44, .int a1, .int a2, .int a3, .int a4] h r :=
  ct_ofV (own := RX2) [.ref 44, .int a1, .int a2, .int a3, .int a4] (by decide +kernel) rfl (fun ρ => Nat.le_of_ble_eq_true rfl) (fun ρ => rfl) (fun x g K => t_X2_offer g a1 a2 a3 a4 h r H K)
def f_J6_bitCount_0f7a4 (a0 : Int32) : Option Int32 :=
  lt (((a0 - ((ushr a0 1) &&& 1431655765)) &&& 858993459) + ((ushr (a0 - ((ushr a0 1) &&& 1431655765)) 2) &&& 858993459)) fun v1 =>
  lt (((v1 + (ushr v1 4)) &&& 252645135) + (ushr ((v1 + (ushr v1 4)) &&& 252645135) 8)) fun v2 =>
  some ((v2 + (ushr v2 16)) &&& 63)
theorem t_J6_bitCount_0f7a4 {x : Cx} (g : Gx x RJ6 cJ6_bitCount_0f7a4 1 1) (a0 : Int32) (h : Hp) (out : Int32) (H : f_J6_bitCount_0f7a4 a0 = some out) (K : RtI x .int out h) : WA x 0 [.int a0] [] h := by
  unfold f_J6_bitCount_0f7a4 at H
  refine st_iload_n g dJ6_bitCount_0f7a4_0 rfl ?_
  refine st_iload_n g dJ6_bitCount_0f7a4_1 rfl ?_
  refine st_iconst g dJ6_bitCount_0f7a4_2 ic_1 ?_
  refine st_iushr g dJ6_bitCount_0f7a4_3 ?_
  refine st_ldcw g dJ6_bitCount_0f7a4_4 kc_J6_265 ?_
  refine st_iand g dJ6_bitCount_0f7a4_7 ?_
  refine st_isub g dJ6_bitCount_0f7a4_8 ?_
  refine st_istore_n g dJ6_bitCount_0f7a4_9 (Nat.le_of_ble_eq_true rfl) rfl (ls2 := [.int (a0 - ((ushr a0 1) &&& 1431655765))]) rfl ?_
  refine st_iload_n g dJ6_bitCount_0f7a4_10 rfl ?_
  refine st_ldcw g dJ6_bitCount_0f7a4_11 kc_J6_266 ?_
  refine st_iand g dJ6_bitCount_0f7a4_14 ?_
  refine st_iload_n g dJ6_bitCount_0f7a4_15 rfl ?_
  refine st_iconst g dJ6_bitCount_0f7a4_16 ic_2 ?_
  refine st_iushr g dJ6_bitCount_0f7a4_17 ?_
  refine st_ldcw g dJ6_bitCount_0f7a4_18 kc_J6_266 ?_
  refine st_iand g dJ6_bitCount_0f7a4_21 ?_
  refine st_iadd g dJ6_bitCount_0f7a4_22 ?_
  refine wa_lt H (fun v1 H => ?_)
  refine st_istore_n g dJ6_bitCount_0f7a4_23 (Nat.le_of_ble_eq_true rfl) rfl (ls2 := [.int v1]) rfl ?_
  refine st_iload_n g dJ6_bitCount_0f7a4_24 rfl ?_
  refine st_iload_n g dJ6_bitCount_0f7a4_25 rfl ?_
  refine st_iconst g dJ6_bitCount_0f7a4_26 ic_4 ?_
  refine st_iushr g dJ6_bitCount_0f7a4_27 ?_
  refine st_iadd g dJ6_bitCount_0f7a4_28 ?_
  refine st_ldcw g dJ6_bitCount_0f7a4_29 kc_J6_267 ?_
  refine st_iand g dJ6_bitCount_0f7a4_32 ?_
  refine st_istore_n g dJ6_bitCount_0f7a4_33 (Nat.le_of_ble_eq_true rfl) rfl (ls2 := [.int ((v1 + (ushr v1 4)) &&& 252645135)]) rfl ?_
  refine st_iload_n g dJ6_bitCount_0f7a4_34 rfl ?_
  refine st_iload_n g dJ6_bitCount_0f7a4_35 rfl ?_
  refine st_bipush g dJ6_bitCount_0f7a4_36 bi_8 ?_
  refine st_iushr g dJ6_bitCount_0f7a4_38 ?_
  refine st_iadd g dJ6_bitCount_0f7a4_39 ?_
  refine wa_lt H (fun v2 H => ?_)
  refine st_istore_n g dJ6_bitCount_0f7a4_40 (Nat.le_of_ble_eq_true rfl) rfl (ls2 := [.int v2]) rfl ?_
  refine st_iload_n g dJ6_bitCount_0f7a4_41 rfl ?_
  refine st_iload_n g dJ6_bitCount_0f7a4_42 rfl ?_
  refine st_bipush g dJ6_bitCount_0f7a4_43 bi_16 ?_
  refine st_iushr g dJ6_bitCount_0f7a4_45 ?_
  refine st_iadd g dJ6_bitCount_0f7a4_46 ?_
  refine st_istore_n g dJ6_bitCount_0f7a4_47 (Nat.le_of_ble_eq_true rfl) rfl (ls2 := [.int (v2 + (ushr v2 16))]) rfl ?_
  refine st_iload_n g dJ6_bitCount_0f7a4_48 rfl ?_
  refine st_bipush g dJ6_bitCount_0f7a4_49 bi_63 ?_
  refine st_iand g dJ6_bitCount_0f7a4_51 ?_
  obtain rfl := Option.some.inj H
  exact st_iret g dJ6_bitCount_0f7a4_52 rfl (fun q => by cases q) K
theorem c_J6_bitCount_0f7a4 (a0 : Int32) (h : Hp) (r : Int32) (H : f_J6_bitCount_0f7a4 a0 = some r) : CtI yJ6_bitCount_0f7a4 cJ6_bitCount_0f7a4 1 .int 1 [.int a0] h r h :=
  ct_ofI (own := RJ6) [.int a0] (by decide +kernel) rfl (fun ρ => Nat.le_of_ble_eq_true rfl) (fun ρ => rfl) (fun x g K => t_J6_bitCount_0f7a4 g a0 h r H K)
def P_X2_restFrom_4 (x : Cx) (h : Hp) (s : (Int32 × Int32)) : Prop := WA x 4 [.ref 44, .null, .int s.1, .int s.2] [] h
def E_X2_restFrom_4 (x : Cx) (h : Hp) : (Int32 × Int32) → Prop := fun s : (Int32 × Int32) => WA x 27 [.null, .null, .int s.1, .null] [] h
def b_X2_restFrom_4 (h : Hp) (s : (Int32 × Int32)) : Option ((Int32 × Int32) ⊕ (Int32 × Int32)) :=
  if (h.1 44 4) ≤ s.2 then
    some (.inr (s.1, s.2))
  else
    (rdI h 48 s.2).bind fun v2 =>
    some (.inl (s.1 + v2, s.2 + 1))
theorem tb_X2_restFrom_4 {x : Cx} (g : Gx x RX2 cX2_restFrom 4 1) (h : Hp) (s : (Int32 × Int32)) (out : (Int32 × Int32) ⊕ (Int32 × Int32)) (H : b_X2_restFrom_4 h s = some out) (K : Sum.elim (P_X2_restFrom_4 x h) (E_X2_restFrom_4 x h) out) : P_X2_restFrom_4 x h s := by
  unfold b_X2_restFrom_4 at H
  show WA x 4 [.ref 44, .null, .int s.1, .int s.2] [] h
  refine st_iload_n g dX2_restFrom_4 rfl ?_
  refine st_aload_n g dX2_restFrom_5 rfl ?_
  refine gf_X2_24 g dX2_restFrom_6 rfl ?_
  refine st_ic_ge g dX2_restFrom_9 (tgt := 27) (by decide) H (fun q1 H => ?_) (fun q1 H => ?_)
  · obtain rfl := Option.some.inj H
    exact (wa_drop [0, 3] K)
  · refine st_iload_n g dX2_restFrom_12 rfl ?_
    refine st_aload_n g dX2_restFrom_13 rfl ?_
    refine gf_X2_21 g dX2_restFrom_14 rfl (r := 48) rfl ?_
    refine st_iload_n g dX2_restFrom_17 rfl ?_
    refine st_iald g dX2_restFrom_18 H (fun v2 H => ?_)
    refine st_iadd g dX2_restFrom_19 ?_
    refine st_istore_n g dX2_restFrom_20 (Nat.le_of_ble_eq_true rfl) rfl (ls2 := [.ref 44, .null, .int (s.1 + v2), .int s.2]) rfl ?_
    refine st_iinc g dX2_restFrom_21 rfl (ii_1 _) (Nat.le_of_ble_eq_true rfl) rfl (ls2 := [.ref 44, .null, .int (s.1 + v2), .int (s.2 + 1)]) rfl ?_
    refine st_goto g dX2_restFrom_24 (tgt := 4) (by decide) ?_
    obtain rfl := Option.some.inj H
    exact K
def f_X2_restFrom (a1 : Int32) (h : Hp) : Option Int32 :=
  (iter (b_X2_restFrom_4 h) FU (0, a1)).bind fun a3 =>
  some a3.1
theorem t_X2_restFrom {x : Cx} (g : Gx x RX2 cX2_restFrom 4 1) (a1 : Int32) (h : Hp) (out : Int32) (H : f_X2_restFrom a1 h = some out) (K : RtI x .int out h) : WA x 0 [.ref 44, .int a1, .null, .null] [] h := by
  unfold f_X2_restFrom at H
  refine st_iconst g dX2_restFrom_0 ic_0 ?_
  refine st_istore_n g dX2_restFrom_1 (Nat.le_of_ble_eq_true rfl) rfl (ls2 := [.ref 44, .int a1, .int 0, .null]) rfl ?_
  refine st_iload_n g dX2_restFrom_2 rfl ?_
  refine st_istore_n g dX2_restFrom_3 (Nat.le_of_ble_eq_true rfl) rfl (ls2 := [.ref 44, .int a1, .int 0, .int a1]) rfl ?_
  refine wa_drop [1] ?_
  show P_X2_restFrom_4 x h (0, a1)
  obtain ⟨a3, ha3, H⟩ := bind_some H
  refine iter_W (P := P_X2_restFrom_4 x h) (E := E_X2_restFrom_4 x h) (fun s9 o9 ho9 hK9 => tb_X2_restFrom_4 g h s9 o9 ho9 hK9) FU _ a3 ha3 ?_
  show WA x 27 [.null, .null, .int a3.1, .null] [] h
  refine st_iload_n g dX2_restFrom_27 rfl ?_
  obtain rfl := Option.some.inj H
  exact st_iret g dX2_restFrom_28 rfl (fun q => by cases q) K
theorem c_X2_restFrom (a1 : Int32) (h : Hp) (r : Int32) (H : f_X2_restFrom a1 h = some r) : CtI yX2_restFrom cX2_restFrom 4 .int 1 [.ref 44, .int a1] h r h :=
  ct_ofI (own := RX2) [.ref 44, .int a1, .null, .null] (by decide +kernel) rfl (fun ρ => Nat.le_of_ble_eq_true rfl) (fun ρ => rfl) (fun x g K => t_X2_restFrom g a1 h r H K)
def P_J7_fill_53178_5 (x : Cx) (a0 : Nat) (a1 : Int32) (a3 : Int32) (s : (Int32 × Hp)) : Prop := WA x 5 [.ref a0, .int a1, .int s.1, .int a3] [] s.2
def E_J7_fill_53178_5 (x : Cx) (a0 : Nat) (a1 : Int32) (a3 : Int32) : (Int32 × Hp) → Prop := fun s : (Int32 × Hp) => WA x 20 [.null, .null, .null, .null] [] s.2
def b_J7_fill_53178_5 (a0 : Nat) (a1 : Int32) (a3 : Int32) (s : (Int32 × Hp)) : Option ((Int32 × Hp) ⊕ (Int32 × Hp)) :=
  if a3 ≤ s.1 then
    some (.inr (s.1, s.2))
  else
    (wrI s.2 a0 s.1 a1).bind fun h3 =>
    some (.inl (s.1 + 1, h3))
theorem tb_J7_fill_53178_5 {x : Cx} (g : Gx x RJ7 cJ7_fill_53178 4 1) (a0 : Nat) (a1 : Int32) (a3 : Int32) (s : (Int32 × Hp)) (out : (Int32 × Hp) ⊕ (Int32 × Hp)) (H : b_J7_fill_53178_5 a0 a1 a3 s = some out) (K : Sum.elim (P_J7_fill_53178_5 x a0 a1 a3) (E_J7_fill_53178_5 x a0 a1 a3) out) : P_J7_fill_53178_5 x a0 a1 a3 s := by
  unfold b_J7_fill_53178_5 at H
  show WA x 5 [.ref a0, .int a1, .int s.1, .int a3] [] s.2
  refine st_iload_n g dJ7_fill_53178_5 rfl ?_
  refine st_iload_n g dJ7_fill_53178_6 rfl ?_
  refine st_ic_ge g dJ7_fill_53178_7 (tgt := 20) (by decide) H (fun q2 H => ?_) (fun q2 H => ?_)
  · obtain rfl := Option.some.inj H
    exact (wa_drop [0, 1, 2, 3] K)
  · refine st_aload_n g dJ7_fill_53178_10 rfl ?_
    refine st_iload_n g dJ7_fill_53178_11 rfl ?_
    refine st_iload_n g dJ7_fill_53178_12 rfl ?_
    refine st_iast g dJ7_fill_53178_13 H (fun h3 H => ?_)
    refine st_iinc g dJ7_fill_53178_14 rfl (ii_1 _) (Nat.le_of_ble_eq_true rfl) rfl (ls2 := [.ref a0, .int a1, .int (s.1 + 1), .int a3]) rfl ?_
    refine st_goto g dJ7_fill_53178_17 (tgt := 5) (by decide) ?_
    obtain rfl := Option.some.inj H
    exact K
def f_J7_fill_53178 (a0 : Nat) (a1 : Int32) (h : Hp) : Option Hp :=
  (lnI a0).bind fun v1 =>
  (iter (b_J7_fill_53178_5 a0 a1 v1) FU (0, h)).bind fun a4 =>
  some a4.2
theorem t_J7_fill_53178 {x : Cx} (g : Gx x RJ7 cJ7_fill_53178 4 1) (a0 : Nat) (a1 : Int32) (h : Hp) (out : Hp) (H : f_J7_fill_53178 a0 a1 h = some out) (K : RtV x out) : WA x 0 [.ref a0, .int a1, .null, .null] [] h := by
  unfold f_J7_fill_53178 at H
  refine st_iconst g dJ7_fill_53178_0 ic_0 ?_
  refine st_istore_n g dJ7_fill_53178_1 (Nat.le_of_ble_eq_true rfl) rfl (ls2 := [.ref a0, .int a1, .int 0, .null]) rfl ?_
  refine st_aload_n g dJ7_fill_53178_2 rfl ?_
  refine st_alen g dJ7_fill_53178_3 H (fun v1 H => ?_)
  refine st_istore_n g dJ7_fill_53178_4 (Nat.le_of_ble_eq_true rfl) rfl (ls2 := [.ref a0, .int a1, .int 0, .int v1]) rfl ?_
  show P_J7_fill_53178_5 x a0 a1 v1 (0, h)
  obtain ⟨a4, ha4, H⟩ := bind_some H
  refine iter_W (P := P_J7_fill_53178_5 x a0 a1 v1) (E := E_J7_fill_53178_5 x a0 a1 v1) (fun s9 o9 ho9 hK9 => tb_J7_fill_53178_5 g a0 a1 v1 s9 o9 ho9 hK9) FU _ a4 ha4 ?_
  show WA x 20 [.null, .null, .null, .null] [] a4.2
  obtain rfl := Option.some.inj H
  exact st_vret g dJ7_fill_53178_20 K
theorem c_J7_fill_53178 (a0 : Nat) (a1 : Int32) (h : Hp) (r : Hp) (H : f_J7_fill_53178 a0 a1 h = some r) : CtV yJ7_fill_53178 cJ7_fill_53178 4 1 [.ref a0, .int a1] h r :=
  ct_ofV (own := RJ7) [.ref a0, .int a1, .null, .null] (by decide +kernel) rfl (fun ρ => Nat.le_of_ble_eq_true rfl) (fun ρ => rfl) (fun x g K => t_J7_fill_53178 g a0 a1 h r H K)
def P_X7_stepsHome_6 (x : Cx) (a1 : Int32) (h : Hp) (s : (Int32 × Int32)) : Prop := WA x 6 [.ref 0, .int a1, .int s.1, .int s.2, .null, .null] [] h
def E_X7_stepsHome_6 (x : Cx) (a1 : Int32) (h : Hp) : (Int32 × Int32) ⊕ Int32 → Prop := Sum.elim (fun s : (Int32 × Int32) => WA x 77 [.null, .null, .null, .null, .null, .null] [] h) (fun r : Int32 => RtI x .int r h)
def P_X7_stepsHome_18 (x : Cx) (a1 : Int32) (a2 : Int32) (a3 : Int32) (h : Hp) (s : (Int32 × Int32)) : Prop := WA x 18 [.ref 0, .int a1, .int a2, .int a3, .int s.1, .int s.2] [] h
def E_X7_stepsHome_18 (x : Cx) (a1 : Int32) (a2 : Int32) (a3 : Int32) (h : Hp) : (Int32 × Int32) → Prop := fun s : (Int32 × Int32) => WA x 57 [.ref 0, .int a1, .null, .int a3, .int s.1, .null] [] h
def b_X7_stepsHome_18 (a1 : Int32) (a2 : Int32) (a3 : Int32) (h : Hp) (s : (Int32 × Int32)) : Option ((Int32 × Int32) ⊕ (Int32 × Int32)) :=
  if (h.1 1 0) ≤ s.2 then
    some (.inr (s.1, s.2))
  else
    if ((a2 >>> (s.2 &&& 31)) &&& 1) = 0 then
      some (.inl (s.1, s.2 + 1))
    else
      (rdI h 52 s.2).bind fun v4 =>
      some (.inl (s.1 ||| v4, s.2 + 1))
theorem tb_X7_stepsHome_18 {x : Cx} (g : Gx x RX7 cX7_stepsHome 6 1) (a1 : Int32) (a2 : Int32) (a3 : Int32) (h : Hp) (s : (Int32 × Int32)) (out : (Int32 × Int32) ⊕ (Int32 × Int32)) (H : b_X7_stepsHome_18 a1 a2 a3 h s = some out) (K : Sum.elim (P_X7_stepsHome_18 x a1 a2 a3 h) (E_X7_stepsHome_18 x a1 a2 a3 h) out) : P_X7_stepsHome_18 x a1 a2 a3 h s := by
  unfold b_X7_stepsHome_18 at H
  show WA x 18 [.ref 0, .int a1, .int a2, .int a3, .int s.1, .int s.2] [] h
  refine st_iload g dX7_stepsHome_18 rfl ?_
  refine st_aload_n g dX7_stepsHome_20 rfl ?_
  refine gf_X7_10 g dX7_stepsHome_21 rfl (r := 1) rfl ?_
  refine gf_X7_89 g dX7_stepsHome_24 rfl ?_
  refine st_ic_ge g dX7_stepsHome_27 (tgt := 57) (by decide) H (fun q2 H => ?_) (fun q2 H => ?_)
  · obtain rfl := Option.some.inj H
    exact (wa_drop [2, 5] K)
  · refine st_iload_n g dX7_stepsHome_30 rfl ?_
    refine st_iload g dX7_stepsHome_31 rfl ?_
    refine st_ishr g dX7_stepsHome_33 ?_
    refine st_iconst g dX7_stepsHome_34 ic_1 ?_
    refine st_iand g dX7_stepsHome_35 ?_
    refine st_if_eq g dX7_stepsHome_36 (tgt := 51) (by decide) H (fun q3 H => ?_) (fun q3 H => ?_)
    · refine st_iinc g dX7_stepsHome_51 rfl (ii_1 _) (Nat.le_of_ble_eq_true rfl) rfl (ls2 := [.ref 0, .int a1, .int a2, .int a3, .int s.1, .int (s.2 + 1)]) rfl ?_
      refine st_goto g dX7_stepsHome_54 (tgt := 18) (by decide) ?_
      obtain rfl := Option.some.inj H
      exact K
    · refine st_iload g dX7_stepsHome_39 rfl ?_
      refine st_aload_n g dX7_stepsHome_41 rfl ?_
      refine gf_X7_82 g dX7_stepsHome_42 rfl (r := 52) rfl ?_
      refine st_iload g dX7_stepsHome_45 rfl ?_
      refine st_iald g dX7_stepsHome_47 H (fun v4 H => ?_)
      refine st_ior g dX7_stepsHome_48 ?_
      refine st_istore g dX7_stepsHome_49 (Nat.le_of_ble_eq_true rfl) rfl (ls2 := [.ref 0, .int a1, .int a2, .int a3, .int (s.1 ||| v4), .int s.2]) rfl ?_
      refine st_iinc g dX7_stepsHome_51 rfl (ii_1 _) (Nat.le_of_ble_eq_true rfl) rfl (ls2 := [.ref 0, .int a1, .int a2, .int a3, .int (s.1 ||| v4), .int (s.2 + 1)]) rfl ?_
      refine st_goto g dX7_stepsHome_54 (tgt := 18) (by decide) ?_
      obtain rfl := Option.some.inj H
      exact K
def b_X7_stepsHome_6 (a1 : Int32) (h : Hp) (s : (Int32 × Int32)) : Option ((Int32 × Int32) ⊕ ((Int32 × Int32) ⊕ Int32)) :=
  if 10 < s.2 then
    some (.inr (.inl (s.1, s.2)))
  else
    (iter (b_X7_stepsHome_18 a1 s.1 s.2 h) FU (0, 0)).bind fun a5 =>
    if ((a5.1 >>> (a1 &&& 31)) &&& 1) = 0 then
      some (.inl (a5.1, s.2 + 1))
    else
      some (.inr (.inr s.2))
theorem tb_X7_stepsHome_6 {x : Cx} (g : Gx x RX7 cX7_stepsHome 6 1) (a1 : Int32) (h : Hp) (s : (Int32 × Int32)) (out : (Int32 × Int32) ⊕ ((Int32 × Int32) ⊕ Int32)) (H : b_X7_stepsHome_6 a1 h s = some out) (K : Sum.elim (P_X7_stepsHome_6 x a1 h) (E_X7_stepsHome_6 x a1 h) out) : P_X7_stepsHome_6 x a1 h s := by
  unfold b_X7_stepsHome_6 at H
  show WA x 6 [.ref 0, .int a1, .int s.1, .int s.2, .null, .null] [] h
  refine st_iload_n g dX7_stepsHome_6 rfl ?_
  refine st_bipush g dX7_stepsHome_7 bi_10 ?_
  refine st_ic_gt g dX7_stepsHome_9 (tgt := 77) (by decide) H (fun q1 H => ?_) (fun q1 H => ?_)
  · obtain rfl := Option.some.inj H
    exact (wa_drop [0, 1, 2, 3] K)
  · refine st_iconst g dX7_stepsHome_12 ic_0 ?_
    refine st_istore g dX7_stepsHome_13 (Nat.le_of_ble_eq_true rfl) rfl (ls2 := [.ref 0, .int a1, .int s.1, .int s.2, .int 0, .null]) rfl ?_
    refine st_iconst g dX7_stepsHome_15 ic_0 ?_
    refine st_istore g dX7_stepsHome_16 (Nat.le_of_ble_eq_true rfl) rfl (ls2 := [.ref 0, .int a1, .int s.1, .int s.2, .int 0, .int 0]) rfl ?_
    show P_X7_stepsHome_18 x a1 s.1 s.2 h (0, 0)
    obtain ⟨a5, ha5, H⟩ := bind_some H
    refine iter_W (P := P_X7_stepsHome_18 x a1 s.1 s.2 h) (E := E_X7_stepsHome_18 x a1 s.1 s.2 h) (fun s9 o9 ho9 hK9 => tb_X7_stepsHome_18 g a1 s.1 s.2 h s9 o9 ho9 hK9) FU _ a5 ha5 ?_
    show WA x 57 [.ref 0, .int a1, .null, .int s.2, .int a5.1, .null] [] h
    refine st_iload g dX7_stepsHome_57 rfl ?_
    refine st_iload_n g dX7_stepsHome_59 rfl ?_
    refine st_ishr g dX7_stepsHome_60 ?_
    refine st_iconst g dX7_stepsHome_61 ic_1 ?_
    refine st_iand g dX7_stepsHome_62 ?_
    refine st_if_eq g dX7_stepsHome_63 (tgt := 68) (by decide) H (fun q6 H => ?_) (fun q6 H => ?_)
    · refine st_iload g dX7_stepsHome_68 rfl ?_
      refine st_istore_n g dX7_stepsHome_70 (Nat.le_of_ble_eq_true rfl) rfl (ls2 := [.ref 0, .int a1, .int a5.1, .int s.2, .int a5.1, .null]) rfl ?_
      refine st_iinc g dX7_stepsHome_71 rfl (ii_1 _) (Nat.le_of_ble_eq_true rfl) rfl (ls2 := [.ref 0, .int a1, .int a5.1, .int (s.2 + 1), .int a5.1, .null]) rfl ?_
      refine st_goto g dX7_stepsHome_74 (tgt := 6) (by decide) ?_
      obtain rfl := Option.some.inj H
      exact (wa_drop [4] K)
    · refine st_iload_n g dX7_stepsHome_66 rfl ?_
      obtain rfl := Option.some.inj H
      exact st_iret g dX7_stepsHome_67 rfl (fun q => by cases q) K
def f_X7_stepsHome (a1 : Int32) (h : Hp) : Option Int32 :=
  (iter (b_X7_stepsHome_6 a1 h) FU ((1 : Int32) <<< (a1 &&& 31), 1)).bind (Sum.elim (fun a7 =>
    some (-2)) (fun r => some r))
theorem t_X7_stepsHome {x : Cx} (g : Gx x RX7 cX7_stepsHome 6 1) (a1 : Int32) (h : Hp) (out : Int32) (H : f_X7_stepsHome a1 h = some out) (K : RtI x .int out h) : WA x 0 [.ref 0, .int a1, .null, .null, .null, .null] [] h := by
  unfold f_X7_stepsHome at H
  refine st_iconst g dX7_stepsHome_0 ic_1 ?_
  refine st_iload_n g dX7_stepsHome_1 rfl ?_
  refine st_ishl g dX7_stepsHome_2 ?_
  refine st_istore_n g dX7_stepsHome_3 (Nat.le_of_ble_eq_true rfl) rfl (ls2 := [.ref 0, .int a1, .int ((1 : Int32) <<< (a1 &&& 31)), .null, .null, .null]) rfl ?_
  refine st_iconst g dX7_stepsHome_4 ic_1 ?_
  refine st_istore_n g dX7_stepsHome_5 (Nat.le_of_ble_eq_true rfl) rfl (ls2 := [.ref 0, .int a1, .int ((1 : Int32) <<< (a1 &&& 31)), .int 1, .null, .null]) rfl ?_
  show P_X7_stepsHome_6 x a1 h ((1 : Int32) <<< (a1 &&& 31), 1)
  obtain ⟨a7o, ha7, hca7⟩ := it_R H
  refine iter_W (P := P_X7_stepsHome_6 x a1 h) (E := E_X7_stepsHome_6 x a1 h) (fun s9 o9 ho9 hK9 => tb_X7_stepsHome_6 g a1 h s9 o9 ho9 hK9) FU _ a7o ha7 ?_
  rcases hca7 with ⟨a7, rfl, H⟩ | ⟨r, rfl, H⟩
  · show WA x 77 [.null, .null, .null, .null, .null, .null] [] h
    refine st_bipush g dX7_stepsHome_77 bi_m2 ?_
    obtain rfl := Option.some.inj H
    exact st_iret g dX7_stepsHome_79 rfl (fun q => by cases q) K
  · obtain rfl := Option.some.inj H
    exact K
theorem c_X7_stepsHome (a1 : Int32) (h : Hp) (r : Int32) (H : f_X7_stepsHome a1 h = some r) : CtI yX7_stepsHome cX7_stepsHome 6 .int 1 [.ref 0, .int a1] h r h :=
  ct_ofI (own := RX7) [.ref 0, .int a1, .null, .null, .null, .null] (by decide +kernel) rfl (fun ρ => Nat.le_of_ble_eq_true rfl) (fun ρ => rfl) (fun x g K => t_X7_stepsHome g a1 h r H K)
def f_X7_led (a1 : Int32) (h : Hp) : Option Int32 :=
  if a1 < 0 then
    some (-1)
  else
    (lnI 16).bind fun v2 =>
    if a1 < v2 then
      (rdI h 16 a1).bind fun v4 =>
      some v4
    else
      some (-1)
theorem t_X7_led {x : Cx} (g : Gx x RX7 cX7_led 2 1) (a1 : Int32) (h : Hp) (out : Int32) (H : f_X7_led a1 h = some out) (K : RtI x .int out h) : WA x 0 [.ref 0, .int a1] [] h := by
  unfold f_X7_led at H
  refine st_iload_n g dX7_led_0 rfl ?_
  refine st_if_lt g dX7_led_1 (tgt := 16) (by decide) H (fun q1 H => ?_) (fun q1 H => ?_)
  · refine st_iconst g dX7_led_16 ic_m1 ?_
    obtain rfl := Option.some.inj H
    exact st_iret g dX7_led_17 rfl (fun q => by cases q) K
  · refine st_iload_n g dX7_led_4 rfl ?_
    refine st_aload_n g dX7_led_5 rfl ?_
    refine gf_X7_26 g dX7_led_6 rfl (r := 13) rfl ?_
    refine gf_X7_260 g dX7_led_9 rfl (r := 16) rfl ?_
    refine st_alen g dX7_led_12 H (fun v2 H => ?_)
    refine st_ic_lt g dX7_led_13 (tgt := 18) (by decide) H (fun q3 H => ?_) (fun q3 H => ?_)
    · refine st_aload_n g dX7_led_18 rfl ?_
      refine gf_X7_26 g dX7_led_19 rfl (r := 13) rfl ?_
      refine gf_X7_260 g dX7_led_22 rfl (r := 16) rfl ?_
      refine st_iload_n g dX7_led_25 rfl ?_
      refine st_iald g dX7_led_26 H (fun v4 H => ?_)
      obtain rfl := Option.some.inj H
      exact st_iret g dX7_led_27 rfl (fun q => by cases q) K
    · refine st_iconst g dX7_led_16 ic_m1 ?_
      obtain rfl := Option.some.inj H
      exact st_iret g dX7_led_17 rfl (fun q => by cases q) K
theorem c_X7_led (a1 : Int32) (h : Hp) (r : Int32) (H : f_X7_led a1 h = some r) : CtI yX7_led cX7_led 2 .int 1 [.ref 0, .int a1] h r h :=
  ct_ofI (own := RX7) [.ref 0, .int a1] (by decide +kernel) rfl (fun ρ => Nat.le_of_ble_eq_true rfl) (fun ρ => rfl) (fun x g K => t_X7_led g a1 h r H K)
def f_X0_toUndo (h : Hp) : Option Int32 :=
  if (h.1 25 5) ≤ 0 then
    some 0
  else
    some 1
theorem t_X0_toUndo {x : Cx} (g : Gx x RX0 cX0_toUndo 1 1) (h : Hp) (out : Int32) (H : f_X0_toUndo h = some out) (K : RtI x .boolean out h) : WA x 0 [.ref 25] [] h := by
  unfold f_X0_toUndo at H
  refine st_aload_n g dX0_toUndo_0 rfl ?_
  refine gf_X0_26 g dX0_toUndo_1 rfl ?_
  refine st_if_le g dX0_toUndo_4 (tgt := 11) (by decide) H (fun q1 H => ?_) (fun q1 H => ?_)
  · refine st_iconst g dX0_toUndo_11 ic_0 ?_
    obtain rfl := Option.some.inj H
    exact st_iret g dX0_toUndo_12 rfl (fun _ => Or.inl rfl) K
  · refine st_iconst g dX0_toUndo_7 ic_1 ?_
    refine st_goto g dX0_toUndo_8 (tgt := 12) (by decide) ?_
    obtain rfl := Option.some.inj H
    exact st_iret g dX0_toUndo_12 rfl (fun _ => Or.inr rfl) K
theorem c_X0_toUndo (h : Hp) (r : Int32) (H : f_X0_toUndo h = some r) : CtI yX0_toUndo cX0_toUndo 1 .boolean 1 [.ref 25] h r h :=
  ct_ofI (own := RX0) [.ref 25] (by decide +kernel) rfl (fun ρ => Nat.le_of_ble_eq_true rfl) (fun ρ => rfl) (fun x g K => t_X0_toUndo g h r H K)
def f_X0_stepBack (h : Hp) : Option (Int32 × Hp) :=
  lt (stI h 25 5 ((h.1 25 5) - 1)) fun h1 =>
  some (h1.1 25 5, h1)
theorem t_X0_stepBack {x : Cx} (g : Gx x RX0 cX0_stepBack 1 1) (h : Hp) (out : (Int32 × Hp)) (H : f_X0_stepBack h = some out) (K : RtI x .int out.1 out.2) : WA x 0 [.ref 25] [] h := by
  unfold f_X0_stepBack at H
  refine st_aload_n g dX0_stepBack_0 rfl ?_
  refine st_dup g dX0_stepBack_1 rfl ?_
  refine gf_X0_26 g dX0_stepBack_2 rfl ?_
  refine st_iconst g dX0_stepBack_5 ic_1 ?_
  refine st_isub g dX0_stepBack_6 ?_
  refine pu_X0_26 g dX0_stepBack_7 rfl ?_
  refine wa_ltH H (fun h1 H => ?_)
  refine st_aload_n g dX0_stepBack_10 rfl ?_
  refine gf_X0_26 g dX0_stepBack_11 rfl ?_
  obtain rfl := Option.some.inj H
  exact st_iret g dX0_stepBack_14 rfl (fun q => by cases q) K
theorem c_X0_stepBack (h : Hp) (r : (Int32 × Hp)) (H : f_X0_stepBack h = some r) : CtI yX0_stepBack cX0_stepBack 1 .int 1 [.ref 25] h r.1 r.2 :=
  ct_ofI (own := RX0) [.ref 25] (by decide +kernel) rfl (fun ρ => Nat.le_of_ble_eq_true rfl) (fun ρ => rfl) (fun x g K => t_X0_stepBack g h r H K)
def f_X0_toRedo (h : Hp) : Option Int32 :=
  if (h.1 25 4) ≤ (h.1 25 5) then
    some 0
  else
    some 1
theorem t_X0_toRedo {x : Cx} (g : Gx x RX0 cX0_toRedo 1 1) (h : Hp) (out : Int32) (H : f_X0_toRedo h = some out) (K : RtI x .boolean out h) : WA x 0 [.ref 25] [] h := by
  unfold f_X0_toRedo at H
  refine st_aload_n g dX0_toRedo_0 rfl ?_
  refine gf_X0_26 g dX0_toRedo_1 rfl ?_
  refine st_aload_n g dX0_toRedo_4 rfl ?_
  refine gf_X0_22 g dX0_toRedo_5 rfl ?_
  refine st_ic_ge g dX0_toRedo_8 (tgt := 15) (by decide) H (fun q1 H => ?_) (fun q1 H => ?_)
  · refine st_iconst g dX0_toRedo_15 ic_0 ?_
    obtain rfl := Option.some.inj H
    exact st_iret g dX0_toRedo_16 rfl (fun _ => Or.inl rfl) K
  · refine st_iconst g dX0_toRedo_11 ic_1 ?_
    refine st_goto g dX0_toRedo_12 (tgt := 16) (by decide) ?_
    obtain rfl := Option.some.inj H
    exact st_iret g dX0_toRedo_16 rfl (fun _ => Or.inr rfl) K
theorem c_X0_toRedo (h : Hp) (r : Int32) (H : f_X0_toRedo h = some r) : CtI yX0_toRedo cX0_toRedo 1 .boolean 1 [.ref 25] h r h :=
  ct_ofI (own := RX0) [.ref 25] (by decide +kernel) rfl (fun ρ => Nat.le_of_ble_eq_true rfl) (fun ρ => rfl) (fun x g K => t_X0_toRedo g h r H K)
def f_X0_stepOn (h : Hp) : Option (Int32 × Hp) :=
  lt (stI h 25 5 ((h.1 25 5) + 1)) fun h1 =>
  some ((h1.1 25 5) - 1, h1)
theorem t_X0_stepOn {x : Cx} (g : Gx x RX0 cX0_stepOn 1 1) (h : Hp) (out : (Int32 × Hp)) (H : f_X0_stepOn h = some out) (K : RtI x .int out.1 out.2) : WA x 0 [.ref 25] [] h := by
  unfold f_X0_stepOn at H
  refine st_aload_n g dX0_stepOn_0 rfl ?_
  refine st_dup g dX0_stepOn_1 rfl ?_
  refine gf_X0_26 g dX0_stepOn_2 rfl ?_
  refine st_iconst g dX0_stepOn_5 ic_1 ?_
  refine st_iadd g dX0_stepOn_6 ?_
  refine pu_X0_26 g dX0_stepOn_7 rfl ?_
  refine wa_ltH H (fun h1 H => ?_)
  refine st_aload_n g dX0_stepOn_10 rfl ?_
  refine gf_X0_26 g dX0_stepOn_11 rfl ?_
  refine st_iconst g dX0_stepOn_14 ic_1 ?_
  refine st_isub g dX0_stepOn_15 ?_
  obtain rfl := Option.some.inj H
  exact st_iret g dX0_stepOn_16 rfl (fun q => by cases q) K
theorem c_X0_stepOn (h : Hp) (r : (Int32 × Hp)) (H : f_X0_stepOn h = some r) : CtI yX0_stepOn cX0_stepOn 1 .int 1 [.ref 25] h r.1 r.2 :=
  ct_ofI (own := RX0) [.ref 25] (by decide +kernel) rfl (fun ρ => Nat.le_of_ble_eq_true rfl) (fun ρ => rfl) (fun x g K => t_X0_stepOn g h r H K)
def f_X1_isKind (a1 : Int32) : Option Int32 :=
  if a1 < 0 then
    some 0
  else
    if 8 ≤ a1 then
      some 0
    else
      some 1
theorem t_X1_isKind {x : Cx} (g : Gx x RX1 cX1_isKind 2 1) (a1 : Int32) (h : Hp) (out : Int32) (H : f_X1_isKind a1 = some out) (K : RtI x .boolean out h) : WA x 0 [.ref 41, .int a1] [] h := by
  unfold f_X1_isKind at H
  refine st_iload_n g dX1_isKind_0 rfl ?_
  refine st_if_lt g dX1_isKind_1 (tgt := 14) (by decide) H (fun q1 H => ?_) (fun q1 H => ?_)
  · refine st_iconst g dX1_isKind_14 ic_0 ?_
    obtain rfl := Option.some.inj H
    exact st_iret g dX1_isKind_15 rfl (fun _ => Or.inl rfl) K
  · refine st_iload_n g dX1_isKind_4 rfl ?_
    refine st_bipush g dX1_isKind_5 bi_8 ?_
    refine st_ic_ge g dX1_isKind_7 (tgt := 14) (by decide) H (fun q2 H => ?_) (fun q2 H => ?_)
    · refine st_iconst g dX1_isKind_14 ic_0 ?_
      obtain rfl := Option.some.inj H
      exact st_iret g dX1_isKind_15 rfl (fun _ => Or.inl rfl) K
    · refine st_iconst g dX1_isKind_10 ic_1 ?_
      refine st_goto g dX1_isKind_11 (tgt := 15) (by decide) ?_
      obtain rfl := Option.some.inj H
      exact st_iret g dX1_isKind_15 rfl (fun _ => Or.inr rfl) K
theorem c_X1_isKind (a1 : Int32) (h : Hp) (r : Int32) (H : f_X1_isKind a1 = some r) : CtI yX1_isKind cX1_isKind 2 .boolean 1 [.ref 41, .int a1] h r h :=
  ct_ofI (own := RX1) [.ref 41, .int a1] (by decide +kernel) rfl (fun ρ => Nat.le_of_ble_eq_true rfl) (fun ρ => rfl) (fun x g K => t_X1_isKind g a1 h r H K)
def f_X1_add (a1 : Int32) (h : Hp) : Option (Int32 × Hp) :=
  if (h.1 41 0) = 50 then
    some ((-3), h)
  else
    (wrI h 42 (h.1 41 0) a1).bind fun h2 =>
    lt (stI h2 41 0 ((h2.1 41 0) + 1)) fun h3 =>
    some (h2.1 41 0, h3)
theorem t_X1_add {x : Cx} (g : Gx x RX1 cX1_add 2 1) (a1 : Int32) (h : Hp) (out : (Int32 × Hp)) (H : f_X1_add a1 h = some out) (K : RtI x .int out.1 out.2) : WA x 0 [.ref 41, .int a1] [] h := by
  unfold f_X1_add at H
  refine st_aload_n g dX1_add_0 rfl ?_
  refine gf_X1_9 g dX1_add_1 rfl ?_
  refine st_bipush g dX1_add_4 bi_50 ?_
  refine st_ic_ne g dX1_add_6 (tgt := 12) (by decide) H (fun q1 H => ?_) (fun q1 H => ?_)
  · refine st_aload_n g dX1_add_12 rfl ?_
    refine gf_X1_15 g dX1_add_13 rfl (r := 42) rfl ?_
    refine st_aload_n g dX1_add_16 rfl ?_
    refine gf_X1_9 g dX1_add_17 rfl ?_
    refine st_iload_n g dX1_add_20 rfl ?_
    refine st_iast g dX1_add_21 H (fun h2 H => ?_)
    refine st_aload_n g dX1_add_22 rfl ?_
    refine st_dup g dX1_add_23 rfl ?_
    refine gf_X1_9 g dX1_add_24 rfl ?_
    refine st_dup_x1 g dX1_add_27 rfl rfl ?_
    refine st_iconst g dX1_add_28 ic_1 ?_
    refine st_iadd g dX1_add_29 ?_
    refine pu_X1_9 g dX1_add_30 rfl ?_
    refine wa_ltH H (fun h3 H => ?_)
    obtain rfl := Option.some.inj H
    exact st_iret g dX1_add_33 rfl (fun q => by cases q) K
  · refine st_bipush g dX1_add_9 bi_m3 ?_
    obtain rfl := Option.some.inj H
    exact st_iret g dX1_add_11 rfl (fun q => by cases q) K
theorem c_X1_add (a1 : Int32) (h : Hp) (r : (Int32 × Hp)) (H : f_X1_add a1 h = some r) : CtI yX1_add cX1_add 2 .int 1 [.ref 41, .int a1] h r.1 r.2 :=
  ct_ofI (own := RX1) [.ref 41, .int a1] (by decide +kernel) rfl (fun ρ => Nat.le_of_ble_eq_true rfl) (fun ρ => rfl) (fun x g K => t_X1_add g a1 h r H K)
def f_X1_isBody (a1 : Int32) (h : Hp) : Option Int32 :=
  if a1 < 0 then
    some 0
  else
    if (h.1 41 0) ≤ a1 then
      some 0
    else
      some 1
theorem t_X1_isBody {x : Cx} (g : Gx x RX1 cX1_isBody 2 1) (a1 : Int32) (h : Hp) (out : Int32) (H : f_X1_isBody a1 h = some out) (K : RtI x .boolean out h) : WA x 0 [.ref 41, .int a1] [] h := by
  unfold f_X1_isBody at H
  refine st_iload_n g dX1_isBody_0 rfl ?_
  refine st_if_lt g dX1_isBody_1 (tgt := 16) (by decide) H (fun q1 H => ?_) (fun q1 H => ?_)
  · refine st_iconst g dX1_isBody_16 ic_0 ?_
    obtain rfl := Option.some.inj H
    exact st_iret g dX1_isBody_17 rfl (fun _ => Or.inl rfl) K
  · refine st_iload_n g dX1_isBody_4 rfl ?_
    refine st_aload_n g dX1_isBody_5 rfl ?_
    refine gf_X1_9 g dX1_isBody_6 rfl ?_
    refine st_ic_ge g dX1_isBody_9 (tgt := 16) (by decide) H (fun q2 H => ?_) (fun q2 H => ?_)
    · refine st_iconst g dX1_isBody_16 ic_0 ?_
      obtain rfl := Option.some.inj H
      exact st_iret g dX1_isBody_17 rfl (fun _ => Or.inl rfl) K
    · refine st_iconst g dX1_isBody_12 ic_1 ?_
      refine st_goto g dX1_isBody_13 (tgt := 17) (by decide) ?_
      obtain rfl := Option.some.inj H
      exact st_iret g dX1_isBody_17 rfl (fun _ => Or.inr rfl) K
theorem c_X1_isBody (a1 : Int32) (h : Hp) (r : Int32) (H : f_X1_isBody a1 h = some r) : CtI yX1_isBody cX1_isBody 2 .boolean 1 [.ref 41, .int a1] h r h :=
  ct_ofI (own := RX1) [.ref 41, .int a1] (by decide +kernel) rfl (fun ρ => Nat.le_of_ble_eq_true rfl) (fun ρ => rfl) (fun x g K => t_X1_isBody g a1 h r H K)
def f_X1_ranAs (a1 : Int32) (h : Hp) : Option Int32 :=
  if a1 < 0 then
    some (-1)
  else
    if (h.1 41 3) ≤ a1 then
      some (-1)
    else
      if 24 ≤ a1 then
        some (-1)
      else
        (rdI h 43 a1).bind fun v4 =>
        some v4
theorem t_X1_ranAs {x : Cx} (g : Gx x RX1 cX1_ranAs 2 1) (a1 : Int32) (h : Hp) (out : Int32) (H : f_X1_ranAs a1 h = some out) (K : RtI x .int out h) : WA x 0 [.ref 41, .int a1] [] h := by
  unfold f_X1_ranAs at H
  refine st_iload_n g dX1_ranAs_0 rfl ?_
  refine st_if_lt g dX1_ranAs_1 (tgt := 27) (by decide) H (fun q1 H => ?_) (fun q1 H => ?_)
  · refine st_iconst g dX1_ranAs_27 ic_m1 ?_
    obtain rfl := Option.some.inj H
    exact st_iret g dX1_ranAs_28 rfl (fun q => by cases q) K
  · refine st_iload_n g dX1_ranAs_4 rfl ?_
    refine st_aload_n g dX1_ranAs_5 rfl ?_
    refine gf_X1_22 g dX1_ranAs_6 rfl ?_
    refine st_ic_ge g dX1_ranAs_9 (tgt := 27) (by decide) H (fun q2 H => ?_) (fun q2 H => ?_)
    · refine st_iconst g dX1_ranAs_27 ic_m1 ?_
      obtain rfl := Option.some.inj H
      exact st_iret g dX1_ranAs_28 rfl (fun q => by cases q) K
    · refine st_iload_n g dX1_ranAs_12 rfl ?_
      refine st_bipush g dX1_ranAs_13 bi_24 ?_
      refine st_ic_ge g dX1_ranAs_15 (tgt := 27) (by decide) H (fun q3 H => ?_) (fun q3 H => ?_)
      · refine st_iconst g dX1_ranAs_27 ic_m1 ?_
        obtain rfl := Option.some.inj H
        exact st_iret g dX1_ranAs_28 rfl (fun q => by cases q) K
      · refine st_aload_n g dX1_ranAs_18 rfl ?_
        refine gf_X1_19 g dX1_ranAs_19 rfl (r := 43) rfl ?_
        refine st_iload_n g dX1_ranAs_22 rfl ?_
        refine st_iald g dX1_ranAs_23 H (fun v4 H => ?_)
        refine st_goto g dX1_ranAs_24 (tgt := 28) (by decide) ?_
        obtain rfl := Option.some.inj H
        exact st_iret g dX1_ranAs_28 rfl (fun q => by cases q) K
theorem c_X1_ranAs (a1 : Int32) (h : Hp) (r : Int32) (H : f_X1_ranAs a1 h = some r) : CtI yX1_ranAs cX1_ranAs 2 .int 1 [.ref 41, .int a1] h r h :=
  ct_ofI (own := RX1) [.ref 41, .int a1] (by decide +kernel) rfl (fun ρ => Nat.le_of_ble_eq_true rfl) (fun ρ => rfl) (fun x g K => t_X1_ranAs g a1 h r H K)
def f_X6_setEmpty (a1 : Int32) (h : Hp) : Option Hp :=
  (wrI h 39 a1 (-1)).bind fun h1 =>
  (wrI h1 38 a1 0).bind fun h2 =>
  some h2
theorem t_X6_setEmpty {x : Cx} (g : Gx x RX6 cX6_setEmpty 2 1) (a1 : Int32) (h : Hp) (out : Hp) (H : f_X6_setEmpty a1 h = some out) (K : RtV x out) : WA x 0 [.ref 30, .int a1] [] h := by
  unfold f_X6_setEmpty at H
  refine st_aload_n g dX6_setEmpty_0 rfl ?_
  refine gf_X6_20 g dX6_setEmpty_1 rfl (r := 39) rfl ?_
  refine st_iload_n g dX6_setEmpty_4 rfl ?_
  refine st_iconst g dX6_setEmpty_5 ic_m1 ?_
  refine st_iast g dX6_setEmpty_6 H (fun h1 H => ?_)
  refine st_aload_n g dX6_setEmpty_7 rfl ?_
  refine gf_X6_16 g dX6_setEmpty_8 rfl (r := 38) rfl ?_
  refine st_iload_n g dX6_setEmpty_11 rfl ?_
  refine st_iconst g dX6_setEmpty_12 ic_0 ?_
  refine st_iast g dX6_setEmpty_13 H (fun h2 H => ?_)
  obtain rfl := Option.some.inj H
  exact st_vret g dX6_setEmpty_14 K
theorem c_X6_setEmpty (a1 : Int32) (h : Hp) (r : Hp) (H : f_X6_setEmpty a1 h = some r) : CtV yX6_setEmpty cX6_setEmpty 2 1 [.ref 30, .int a1] h r :=
  ct_ofV (own := RX6) [.ref 30, .int a1] (by decide +kernel) rfl (fun ρ => Nat.le_of_ble_eq_true rfl) (fun ρ => rfl) (fun x g K => t_X6_setEmpty g a1 h r H K)
def f_X6_setDoor (a1 : Int32) (a2 : Int32) (h : Hp) : Option Hp :=
  (wrI h 39 a1 (-2)).bind fun h1 =>
  (wrI h1 40 a1 a2).bind fun h2 =>
  (wrI h2 38 a1 0).bind fun h3 =>
  some h3
theorem t_X6_setDoor {x : Cx} (g : Gx x RX6 cX6_setDoor 3 1) (a1 : Int32) (a2 : Int32) (h : Hp) (out : Hp) (H : f_X6_setDoor a1 a2 h = some out) (K : RtV x out) : WA x 0 [.ref 30, .int a1, .int a2] [] h := by
  unfold f_X6_setDoor at H
  refine st_aload_n g dX6_setDoor_0 rfl ?_
  refine gf_X6_20 g dX6_setDoor_1 rfl (r := 39) rfl ?_
  refine st_iload_n g dX6_setDoor_4 rfl ?_
  refine st_bipush g dX6_setDoor_5 bi_m2 ?_
  refine st_iast g dX6_setDoor_7 H (fun h1 H => ?_)
  refine st_aload_n g dX6_setDoor_8 rfl ?_
  refine gf_X6_23 g dX6_setDoor_9 rfl (r := 40) rfl ?_
  refine st_iload_n g dX6_setDoor_12 rfl ?_
  refine st_iload_n g dX6_setDoor_13 rfl ?_
  refine st_iast g dX6_setDoor_14 H (fun h2 H => ?_)
  refine st_aload_n g dX6_setDoor_15 rfl ?_
  refine gf_X6_16 g dX6_setDoor_16 rfl (r := 38) rfl ?_
  refine st_iload_n g dX6_setDoor_19 rfl ?_
  refine st_iconst g dX6_setDoor_20 ic_0 ?_
  refine st_iast g dX6_setDoor_21 H (fun h3 H => ?_)
  obtain rfl := Option.some.inj H
  exact st_vret g dX6_setDoor_22 K
theorem c_X6_setDoor (a1 : Int32) (a2 : Int32) (h : Hp) (r : Hp) (H : f_X6_setDoor a1 a2 h = some r) : CtV yX6_setDoor cX6_setDoor 3 1 [.ref 30, .int a1, .int a2] h r :=
  ct_ofV (own := RX6) [.ref 30, .int a1, .int a2] (by decide +kernel) rfl (fun ρ => Nat.le_of_ble_eq_true rfl) (fun ρ => rfl) (fun x g K => t_X6_setDoor g a1 a2 h r H K)
def f_X6_isSort (a1 : Int32) : Option Int32 :=
  if a1 < 0 then
    some 0
  else
    if 5 ≤ a1 then
      some 0
    else
      some 1
theorem t_X6_isSort {x : Cx} (g : Gx x RX6 cX6_isSort 2 1) (a1 : Int32) (h : Hp) (out : Int32) (H : f_X6_isSort a1 = some out) (K : RtI x .boolean out h) : WA x 0 [.ref 30, .int a1] [] h := by
  unfold f_X6_isSort at H
  refine st_iload_n g dX6_isSort_0 rfl ?_
  refine st_if_lt g dX6_isSort_1 (tgt := 13) (by decide) H (fun q1 H => ?_) (fun q1 H => ?_)
  · refine st_iconst g dX6_isSort_13 ic_0 ?_
    obtain rfl := Option.some.inj H
    exact st_iret g dX6_isSort_14 rfl (fun _ => Or.inl rfl) K
  · refine st_iload_n g dX6_isSort_4 rfl ?_
    refine st_iconst g dX6_isSort_5 ic_5 ?_
    refine st_ic_ge g dX6_isSort_6 (tgt := 13) (by decide) H (fun q2 H => ?_) (fun q2 H => ?_)
    · refine st_iconst g dX6_isSort_13 ic_0 ?_
      obtain rfl := Option.some.inj H
      exact st_iret g dX6_isSort_14 rfl (fun _ => Or.inl rfl) K
    · refine st_iconst g dX6_isSort_9 ic_1 ?_
      refine st_goto g dX6_isSort_10 (tgt := 14) (by decide) ?_
      obtain rfl := Option.some.inj H
      exact st_iret g dX6_isSort_14 rfl (fun _ => Or.inr rfl) K
theorem c_X6_isSort (a1 : Int32) (h : Hp) (r : Int32) (H : f_X6_isSort a1 = some r) : CtI yX6_isSort cX6_isSort 2 .boolean 1 [.ref 30, .int a1] h r h :=
  ct_ofI (own := RX6) [.ref 30, .int a1] (by decide +kernel) rfl (fun ρ => Nat.le_of_ble_eq_true rfl) (fun ρ => rfl) (fun x g K => t_X6_isSort g a1 h r H K)
def P_J7_fill_d0a16_6 (x : Cx) (a0 : Nat) (a1 : Int64) (a4 : Int32) (s : (Int32 × Hp)) : Prop := WA x 6 [.ref a0, .long a1, .null, .int s.1, .int a4] [] s.2
def E_J7_fill_d0a16_6 (x : Cx) (a0 : Nat) (a1 : Int64) (a4 : Int32) : (Int32 × Hp) → Prop := fun s : (Int32 × Hp) => WA x 22 [.null, .null, .null, .null, .null] [] s.2
def b_J7_fill_d0a16_6 (a0 : Nat) (a1 : Int64) (a4 : Int32) (s : (Int32 × Hp)) : Option ((Int32 × Hp) ⊕ (Int32 × Hp)) :=
  if a4 ≤ s.1 then
    some (.inr (s.1, s.2))
  else
    (wrL s.2 a0 s.1 a1).bind fun h3 =>
    some (.inl (s.1 + 1, h3))
theorem tb_J7_fill_d0a16_6 {x : Cx} (g : Gx x RJ7 cJ7_fill_d0a16 5 1) (a0 : Nat) (a1 : Int64) (a4 : Int32) (s : (Int32 × Hp)) (out : (Int32 × Hp) ⊕ (Int32 × Hp)) (H : b_J7_fill_d0a16_6 a0 a1 a4 s = some out) (K : Sum.elim (P_J7_fill_d0a16_6 x a0 a1 a4) (E_J7_fill_d0a16_6 x a0 a1 a4) out) : P_J7_fill_d0a16_6 x a0 a1 a4 s := by
  unfold b_J7_fill_d0a16_6 at H
  show WA x 6 [.ref a0, .long a1, .null, .int s.1, .int a4] [] s.2
  refine st_iload_n g dJ7_fill_d0a16_6 rfl ?_
  refine st_iload g dJ7_fill_d0a16_7 rfl ?_
  refine st_ic_ge g dJ7_fill_d0a16_9 (tgt := 22) (by decide) H (fun q2 H => ?_) (fun q2 H => ?_)
  · obtain rfl := Option.some.inj H
    exact (wa_drop [0, 1, 3, 4] K)
  · refine st_aload_n g dJ7_fill_d0a16_12 rfl ?_
    refine st_iload_n g dJ7_fill_d0a16_13 rfl ?_
    refine st_lload_n g dJ7_fill_d0a16_14 rfl ?_
    refine st_last g dJ7_fill_d0a16_15 H (fun h3 H => ?_)
    refine st_iinc g dJ7_fill_d0a16_16 rfl (ii_1 _) (Nat.le_of_ble_eq_true rfl) rfl (ls2 := [.ref a0, .long a1, .null, .int (s.1 + 1), .int a4]) rfl ?_
    refine st_goto g dJ7_fill_d0a16_19 (tgt := 6) (by decide) ?_
    obtain rfl := Option.some.inj H
    exact K
def f_J7_fill_d0a16 (a0 : Nat) (a1 : Int64) (h : Hp) : Option Hp :=
  (lnL a0).bind fun v1 =>
  (iter (b_J7_fill_d0a16_6 a0 a1 v1) FU (0, h)).bind fun a4 =>
  some a4.2
theorem t_J7_fill_d0a16 {x : Cx} (g : Gx x RJ7 cJ7_fill_d0a16 5 1) (a0 : Nat) (a1 : Int64) (h : Hp) (out : Hp) (H : f_J7_fill_d0a16 a0 a1 h = some out) (K : RtV x out) : WA x 0 [.ref a0, .long a1, .null, .null, .null] [] h := by
  unfold f_J7_fill_d0a16 at H
  refine st_iconst g dJ7_fill_d0a16_0 ic_0 ?_
  refine st_istore_n g dJ7_fill_d0a16_1 (Nat.le_of_ble_eq_true rfl) rfl (ls2 := [.ref a0, .long a1, .null, .int 0, .null]) rfl ?_
  refine st_aload_n g dJ7_fill_d0a16_2 rfl ?_
  refine st_alenL g dJ7_fill_d0a16_3 H (fun v1 H => ?_)
  refine st_istore g dJ7_fill_d0a16_4 (Nat.le_of_ble_eq_true rfl) rfl (ls2 := [.ref a0, .long a1, .null, .int 0, .int v1]) rfl ?_
  show P_J7_fill_d0a16_6 x a0 a1 v1 (0, h)
  obtain ⟨a4, ha4, H⟩ := bind_some H
  refine iter_W (P := P_J7_fill_d0a16_6 x a0 a1 v1) (E := E_J7_fill_d0a16_6 x a0 a1 v1) (fun s9 o9 ho9 hK9 => tb_J7_fill_d0a16_6 g a0 a1 v1 s9 o9 ho9 hK9) FU _ a4 ha4 ?_
  show WA x 22 [.null, .null, .null, .null, .null] [] a4.2
  obtain rfl := Option.some.inj H
  exact st_vret g dJ7_fill_d0a16_22 K
theorem c_J7_fill_d0a16 (a0 : Nat) (a1 : Int64) (h : Hp) (r : Hp) (H : f_J7_fill_d0a16 a0 a1 h = some r) : CtV yJ7_fill_d0a16 cJ7_fill_d0a16 5 1 [.ref a0, .long a1] h r :=
  ct_ofV (own := RJ7) [.ref a0, .long a1, .null, .null, .null] (by decide +kernel) rfl (fun ρ => Nat.le_of_ble_eq_true rfl) (fun ρ => rfl) (fun x g K => t_J7_fill_d0a16 g a0 a1 h r H K)
def f_X6_isDoor (a1 : Int32) (h : Hp) : Option Int32 :=
  (rdI h 39 a1).bind fun v1 =>
  if v1 = (-2) then
    some 1
  else
    some 0
theorem t_X6_isDoor {x : Cx} (g : Gx x RX6 cX6_isDoor 2 1) (a1 : Int32) (h : Hp) (out : Int32) (H : f_X6_isDoor a1 h = some out) (K : RtI x .boolean out h) : WA x 0 [.ref 30, .int a1] [] h := by
  unfold f_X6_isDoor at H
  refine st_aload_n g dX6_isDoor_0 rfl ?_
  refine gf_X6_20 g dX6_isDoor_1 rfl (r := 39) rfl ?_
  refine st_iload_n g dX6_isDoor_4 rfl ?_
  refine st_iald g dX6_isDoor_5 H (fun v1 H => ?_)
  refine st_bipush g dX6_isDoor_6 bi_m2 ?_
  refine st_ic_ne g dX6_isDoor_8 (tgt := 15) (by decide) H (fun q2 H => ?_) (fun q2 H => ?_)
  · refine st_iconst g dX6_isDoor_15 ic_0 ?_
    obtain rfl := Option.some.inj H
    exact st_iret g dX6_isDoor_16 rfl (fun _ => Or.inl rfl) K
  · refine st_iconst g dX6_isDoor_11 ic_1 ?_
    refine st_goto g dX6_isDoor_12 (tgt := 16) (by decide) ?_
    obtain rfl := Option.some.inj H
    exact st_iret g dX6_isDoor_16 rfl (fun _ => Or.inr rfl) K
theorem c_X6_isDoor (a1 : Int32) (h : Hp) (r : Int32) (H : f_X6_isDoor a1 h = some r) : CtI yX6_isDoor cX6_isDoor 2 .boolean 1 [.ref 30, .int a1] h r h :=
  ct_ofI (own := RX6) [.ref 30, .int a1] (by decide +kernel) rfl (fun ρ => Nat.le_of_ble_eq_true rfl) (fun ρ => rfl) (fun x g K => t_X6_isDoor g a1 h r H K)
def f_X6_cut (a0 : Int32) (a1 : Int64) : Option Int64 :=
  if a0 = 0 then
    some a1.toInt32.toInt8.toInt32.toInt64
  else
  if a0 = 1 then
    some a1.toInt32.toInt16.toInt32.toInt64
  else
  if a0 = 2 then
    some a1.toInt32.toInt64
  else
  if a0 = 3 then
    some a1
  else
    if (lg_cmp a1 0) = 0 then
      some 0
    else
      some 1
theorem t_X6_cut {x : Cx} (g : Gx x RX6 cX6_cut 3 1) (a0 : Int32) (a1 : Int64) (h : Hp) (out : Int64) (H : f_X6_cut a0 a1 = some out) (K : RtL x out h) : WA x 0 [.int a0, .long a1, .null] [] h := by
  unfold f_X6_cut at H
  refine st_iload_n g dX6_cut_0 rfl ?_
  by_cases q1 : a0 = 0
  · rw [if_pos q1] at H
    refine st_tsw g dX6_cut_1 (tgt := 32) q1 (by decide) (by decide) rfl (by decide) ?_
    refine st_lload_n g dX6_cut_32 rfl ?_
    refine st_l2i g dX6_cut_33 ?_
    refine st_i2b g dX6_cut_34 ?_
    refine st_i2l g dX6_cut_35 ?_
    obtain rfl := Option.some.inj H
    exact st_lret g dX6_cut_36 K
  · rw [if_neg q1] at H
    by_cases q2 : a0 = 1
    · rw [if_pos q2] at H
      refine st_tsw g dX6_cut_1 (tgt := 37) q2 (by decide) (by decide) rfl (by decide) ?_
      refine st_lload_n g dX6_cut_37 rfl ?_
      refine st_l2i g dX6_cut_38 ?_
      refine st_i2s g dX6_cut_39 ?_
      refine st_i2l g dX6_cut_40 ?_
      obtain rfl := Option.some.inj H
      exact st_lret g dX6_cut_41 K
    · rw [if_neg q2] at H
      by_cases q3 : a0 = 2
      · rw [if_pos q3] at H
        refine st_tsw g dX6_cut_1 (tgt := 42) q3 (by decide) (by decide) rfl (by decide) ?_
        refine st_lload_n g dX6_cut_42 rfl ?_
        refine st_l2i g dX6_cut_43 ?_
        refine st_i2l g dX6_cut_44 ?_
        obtain rfl := Option.some.inj H
        exact st_lret g dX6_cut_45 K
      · rw [if_neg q3] at H
        by_cases q4 : a0 = 3
        · rw [if_pos q4] at H
          refine st_tsw g dX6_cut_1 (tgt := 46) q4 (by decide) (by decide) rfl (by decide) ?_
          refine st_lload_n g dX6_cut_46 rfl ?_
          obtain rfl := Option.some.inj H
          exact st_lret g dX6_cut_47 K
        · rw [if_neg q4] at H
          have zq1 := lv_neT q1 (show (0 : Int32).toInt = 0 by decide)
          have zq2 := lv_neT q2 (show (1 : Int32).toInt = 1 by decide)
          have zq3 := lv_neT q3 (show (2 : Int32).toInt = 2 by decide)
          have zq4 := lv_neT q4 (show (3 : Int32).toInt = 3 by decide)
          refine st_tswD g dX6_cut_1 (tgt := 48) (by omega) (by decide) ?_
          refine st_lload_n g dX6_cut_48 rfl ?_
          refine st_lconst g dX6_cut_49 lc_0 ?_
          refine st_lcmp g dX6_cut_50 ?_
          refine st_if_eq g dX6_cut_51 (tgt := 58) (by decide) H (fun q5 H => ?_) (fun q5 H => ?_)
          · refine st_lconst g dX6_cut_58 lc_0 ?_
            obtain rfl := Option.some.inj H
            exact st_lret g dX6_cut_59 K
          · refine st_lconst g dX6_cut_54 lc_1 ?_
            refine st_goto g dX6_cut_55 (tgt := 59) (by decide) ?_
            obtain rfl := Option.some.inj H
            exact st_lret g dX6_cut_59 K
theorem c_X6_cut (a0 : Int32) (a1 : Int64) (h : Hp) (r : Int64) (H : f_X6_cut a0 a1 = some r) : CtL yX6_cut cX6_cut 3 1 [.int a0, .long a1] h r h :=
  ct_ofL (own := RX6) [.int a0, .long a1, .null] (by decide +kernel) rfl (fun ρ => Nat.le_of_ble_eq_true rfl) (fun ρ => rfl) (fun x g K => t_X6_cut g a0 a1 h r H K)
def f_X6_doorOn (a1 : Int32) (h : Hp) : Option Int32 :=
  (rdI h 40 a1).bind fun v1 =>
  some v1
theorem t_X6_doorOn {x : Cx} (g : Gx x RX6 cX6_doorOn 2 1) (a1 : Int32) (h : Hp) (out : Int32) (H : f_X6_doorOn a1 h = some out) (K : RtI x .int out h) : WA x 0 [.ref 30, .int a1] [] h := by
  unfold f_X6_doorOn at H
  refine st_aload_n g dX6_doorOn_0 rfl ?_
  refine gf_X6_23 g dX6_doorOn_1 rfl (r := 40) rfl ?_
  refine st_iload_n g dX6_doorOn_4 rfl ?_
  refine st_iald g dX6_doorOn_5 H (fun v1 H => ?_)
  obtain rfl := Option.some.inj H
  exact st_iret g dX6_doorOn_6 rfl (fun q => by cases q) K
theorem c_X6_doorOn (a1 : Int32) (h : Hp) (r : Int32) (H : f_X6_doorOn a1 h = some r) : CtI yX6_doorOn cX6_doorOn 2 .int 1 [.ref 30, .int a1] h r h :=
  ct_ofI (own := RX6) [.ref 30, .int a1] (by decide +kernel) rfl (fun ρ => Nat.le_of_ble_eq_true rfl) (fun ρ => rfl) (fun x g K => t_X6_doorOn g a1 h r H K)
def f_X1_kindOf (a1 : Int32) (h : Hp) : Option Int32 :=
  (rdI h 42 a1).bind fun v1 =>
  some v1
theorem t_X1_kindOf {x : Cx} (g : Gx x RX1 cX1_kindOf 2 1) (a1 : Int32) (h : Hp) (out : Int32) (H : f_X1_kindOf a1 h = some out) (K : RtI x .int out h) : WA x 0 [.ref 41, .int a1] [] h := by
  unfold f_X1_kindOf at H
  refine st_aload_n g dX1_kindOf_0 rfl ?_
  refine gf_X1_15 g dX1_kindOf_1 rfl (r := 42) rfl ?_
  refine st_iload_n g dX1_kindOf_4 rfl ?_
  refine st_iald g dX1_kindOf_5 H (fun v1 H => ?_)
  obtain rfl := Option.some.inj H
  exact st_iret g dX1_kindOf_6 rfl (fun q => by cases q) K
theorem c_X1_kindOf (a1 : Int32) (h : Hp) (r : Int32) (H : f_X1_kindOf a1 h = some r) : CtI yX1_kindOf cX1_kindOf 2 .int 1 [.ref 41, .int a1] h r h :=
  ct_ofI (own := RX1) [.ref 41, .int a1] (by decide +kernel) rfl (fun ρ => Nat.le_of_ble_eq_true rfl) (fun ρ => rfl) (fun x g K => t_X1_kindOf g a1 h r H K)
def f_X7_count (a1 : Int32) (h : Hp) : Option Int32 :=
  if a1 = 0 then
    some (h.1 1 0)
  else
  if a1 = 1 then
    some (h.1 1 3)
  else
  if a1 = 2 then
    some (h.1 7 0)
  else
  if a1 = 3 then
    some (h.1 25 5)
  else
  if a1 = 4 then
    some (h.1 41 0)
  else
  if a1 = 5 then
    some (h.1 41 3)
  else
    some (-1)
theorem t_X7_count {x : Cx} (g : Gx x RX7 cX7_count 2 1) (a1 : Int32) (h : Hp) (out : Int32) (H : f_X7_count a1 h = some out) (K : RtI x .int out h) : WA x 0 [.ref 0, .int a1] [] h := by
  unfold f_X7_count at H
  refine st_iload_n g dX7_count_0 rfl ?_
  by_cases q1 : a1 = 0
  · rw [if_pos q1] at H
    refine st_tsw g dX7_count_1 (tgt := 40) q1 (by decide) (by decide) rfl (by decide) ?_
    refine st_aload_n g dX7_count_40 rfl ?_
    refine gf_X7_10 g dX7_count_41 rfl (r := 1) rfl ?_
    refine gf_X7_89 g dX7_count_44 rfl ?_
    obtain rfl := Option.some.inj H
    exact st_iret g dX7_count_47 rfl (fun q => by cases q) K
  · rw [if_neg q1] at H
    by_cases q2 : a1 = 1
    · rw [if_pos q2] at H
      refine st_tsw g dX7_count_1 (tgt := 48) q2 (by decide) (by decide) rfl (by decide) ?_
      refine st_aload_n g dX7_count_48 rfl ?_
      refine gf_X7_10 g dX7_count_49 rfl (r := 1) rfl ?_
      refine gf_X7_100 g dX7_count_52 rfl ?_
      obtain rfl := Option.some.inj H
      exact st_iret g dX7_count_55 rfl (fun q => by cases q) K
    · rw [if_neg q2] at H
      by_cases q3 : a1 = 2
      · rw [if_pos q3] at H
        refine st_tsw g dX7_count_1 (tgt := 56) q3 (by decide) (by decide) rfl (by decide) ?_
        refine st_aload_n g dX7_count_56 rfl ?_
        refine gf_X7_19 g dX7_count_57 rfl (r := 7) rfl ?_
        refine gf_X7_368 g dX7_count_60 rfl ?_
        obtain rfl := Option.some.inj H
        exact st_iret g dX7_count_63 rfl (fun q => by cases q) K
      · rw [if_neg q3] at H
        by_cases q4 : a1 = 3
        · rw [if_pos q4] at H
          refine st_tsw g dX7_count_1 (tgt := 64) q4 (by decide) (by decide) rfl (by decide) ?_
          refine st_aload_n g dX7_count_64 rfl ?_
          refine gf_X7_47 g dX7_count_65 rfl (r := 25) rfl ?_
          refine gf_X7_298 g dX7_count_68 rfl ?_
          obtain rfl := Option.some.inj H
          exact st_iret g dX7_count_71 rfl (fun q => by cases q) K
        · rw [if_neg q4] at H
          by_cases q5 : a1 = 4
          · rw [if_pos q5] at H
            refine st_tsw g dX7_count_1 (tgt := 72) q5 (by decide) (by decide) rfl (by decide) ?_
            refine st_aload_n g dX7_count_72 rfl ?_
            refine gf_X7_61 g dX7_count_73 rfl (r := 41) rfl ?_
            refine gf_X7_371 g dX7_count_76 rfl ?_
            obtain rfl := Option.some.inj H
            exact st_iret g dX7_count_79 rfl (fun q => by cases q) K
          · rw [if_neg q5] at H
            by_cases q6 : a1 = 5
            · rw [if_pos q6] at H
              refine st_tsw g dX7_count_1 (tgt := 80) q6 (by decide) (by decide) rfl (by decide) ?_
              refine st_aload_n g dX7_count_80 rfl ?_
              refine gf_X7_61 g dX7_count_81 rfl (r := 41) rfl ?_
              refine gf_X7_374 g dX7_count_84 rfl ?_
              obtain rfl := Option.some.inj H
              exact st_iret g dX7_count_87 rfl (fun q => by cases q) K
            · rw [if_neg q6] at H
              have zq1 := lv_neT q1 (show (0 : Int32).toInt = 0 by decide)
              have zq2 := lv_neT q2 (show (1 : Int32).toInt = 1 by decide)
              have zq3 := lv_neT q3 (show (2 : Int32).toInt = 2 by decide)
              have zq4 := lv_neT q4 (show (3 : Int32).toInt = 3 by decide)
              have zq5 := lv_neT q5 (show (4 : Int32).toInt = 4 by decide)
              have zq6 := lv_neT q6 (show (5 : Int32).toInt = 5 by decide)
              refine st_tswD g dX7_count_1 (tgt := 88) (by omega) (by decide) ?_
              refine st_iconst g dX7_count_88 ic_m1 ?_
              obtain rfl := Option.some.inj H
              exact st_iret g dX7_count_89 rfl (fun q => by cases q) K
theorem c_X7_count (a1 : Int32) (h : Hp) (r : Int32) (H : f_X7_count a1 h = some r) : CtI yX7_count cX7_count 2 .int 1 [.ref 0, .int a1] h r h :=
  ct_ofI (own := RX7) [.ref 0, .int a1] (by decide +kernel) rfl (fun ρ => Nat.le_of_ble_eq_true rfl) (fun ρ => rfl) (fun x g K => t_X7_count g a1 h r H K)
def f_X8_within (a0 : Int32) (a1 : Int32) (a2 : Int32) : Option Int32 :=
  if a0 < a1 then
    some 0
  else
    if a2 < a0 then
      some 0
    else
      some 1
theorem t_X8_within {x : Cx} (g : Gx x RX8 cX8_within 3 1) (a0 : Int32) (a1 : Int32) (a2 : Int32) (h : Hp) (out : Int32) (H : f_X8_within a0 a1 a2 = some out) (K : RtI x .boolean out h) : WA x 0 [.int a0, .int a1, .int a2] [] h := by
  unfold f_X8_within at H
  refine st_iload_n g dX8_within_0 rfl ?_
  refine st_iload_n g dX8_within_1 rfl ?_
  refine st_ic_lt g dX8_within_2 (tgt := 14) (by decide) H (fun q1 H => ?_) (fun q1 H => ?_)
  · refine st_iconst g dX8_within_14 ic_0 ?_
    obtain rfl := Option.some.inj H
    exact st_iret g dX8_within_15 rfl (fun _ => Or.inl rfl) K
  · refine st_iload_n g dX8_within_5 rfl ?_
    refine st_iload_n g dX8_within_6 rfl ?_
    refine st_ic_gt g dX8_within_7 (tgt := 14) (by decide) H (fun q2 H => ?_) (fun q2 H => ?_)
    · refine st_iconst g dX8_within_14 ic_0 ?_
      obtain rfl := Option.some.inj H
      exact st_iret g dX8_within_15 rfl (fun _ => Or.inl rfl) K
    · refine st_iconst g dX8_within_10 ic_1 ?_
      refine st_goto g dX8_within_11 (tgt := 15) (by decide) ?_
      obtain rfl := Option.some.inj H
      exact st_iret g dX8_within_15 rfl (fun _ => Or.inr rfl) K
theorem c_X8_within (a0 : Int32) (a1 : Int32) (a2 : Int32) (h : Hp) (r : Int32) (H : f_X8_within a0 a1 a2 = some r) : CtI yX8_within cX8_within 3 .boolean 1 [.int a0, .int a1, .int a2] h r h :=
  ct_ofI (own := RX8) [.int a0, .int a1, .int a2] (by decide +kernel) rfl (fun ρ => Nat.le_of_ble_eq_true rfl) (fun ρ => rfl) (fun x g K => t_X8_within g a0 a1 a2 h r H K)
def f_X8_newWrong (a1 : Int32) (a2 : Int32) (a3 : Int32) (h : Hp) : Option (Int32 × Hp) :=
  (wrI h 57 (h.1 53 4) a1).bind fun h1 =>
  (wrI h1 58 (h1.1 53 4) a2).bind fun h2 =>
  (wrI h2 59 (h2.1 53 4) a3).bind fun h3 =>
  (wrI h3 60 (h3.1 53 4) (h3.1 53 10)).bind fun h4 =>
  (wrI h4 61 (h4.1 53 4) 0).bind fun h5 =>
  lt (stI h5 53 4 ((h5.1 53 4) + 1)) fun h6 =>
  some (h5.1 53 4, h6)
theorem t_X8_newWrong {x : Cx} (g : Gx x RX8 cX8_newWrong 4 1) (a1 : Int32) (a2 : Int32) (a3 : Int32) (h : Hp) (out : (Int32 × Hp)) (H : f_X8_newWrong a1 a2 a3 h = some out) (K : RtI x .int out.1 out.2) : WA x 0 [.ref 53, .int a1, .int a2, .int a3] [] h := by
  unfold f_X8_newWrong at H
  refine st_aload_n g dX8_newWrong_0 rfl ?_
  refine gf_X8_21 g dX8_newWrong_1 rfl (r := 57) rfl ?_
  refine st_aload_n g dX8_newWrong_4 rfl ?_
  refine gf_X8_117 g dX8_newWrong_5 rfl ?_
  refine st_iload_n g dX8_newWrong_8 rfl ?_
  refine st_iast g dX8_newWrong_9 H (fun h1 H => ?_)
  refine st_aload_n g dX8_newWrong_10 rfl ?_
  refine gf_X8_24 g dX8_newWrong_11 rfl (r := 58) rfl ?_
  refine st_aload_n g dX8_newWrong_14 rfl ?_
  refine gf_X8_117 g dX8_newWrong_15 rfl ?_
  refine st_iload_n g dX8_newWrong_18 rfl ?_
  refine st_iast g dX8_newWrong_19 H (fun h2 H => ?_)
  refine st_aload_n g dX8_newWrong_20 rfl ?_
  refine gf_X8_27 g dX8_newWrong_21 rfl (r := 59) rfl ?_
  refine st_aload_n g dX8_newWrong_24 rfl ?_
  refine gf_X8_117 g dX8_newWrong_25 rfl ?_
  refine st_iload_n g dX8_newWrong_28 rfl ?_
  refine st_iast g dX8_newWrong_29 H (fun h3 H => ?_)
  refine st_aload_n g dX8_newWrong_30 rfl ?_
  refine gf_X8_30 g dX8_newWrong_31 rfl (r := 60) rfl ?_
  refine st_aload_n g dX8_newWrong_34 rfl ?_
  refine gf_X8_117 g dX8_newWrong_35 rfl ?_
  refine st_aload_n g dX8_newWrong_38 rfl ?_
  refine gf_X8_127 g dX8_newWrong_39 rfl ?_
  refine st_iast g dX8_newWrong_42 H (fun h4 H => ?_)
  refine st_aload_n g dX8_newWrong_43 rfl ?_
  refine gf_X8_33 g dX8_newWrong_44 rfl (r := 61) rfl ?_
  refine st_aload_n g dX8_newWrong_47 rfl ?_
  refine gf_X8_117 g dX8_newWrong_48 rfl ?_
  refine st_iconst g dX8_newWrong_51 ic_0 ?_
  refine st_iast g dX8_newWrong_52 H (fun h5 H => ?_)
  refine st_aload_n g dX8_newWrong_53 rfl ?_
  refine st_dup g dX8_newWrong_54 rfl ?_
  refine gf_X8_117 g dX8_newWrong_55 rfl ?_
  refine st_dup_x1 g dX8_newWrong_58 rfl rfl ?_
  refine st_iconst g dX8_newWrong_59 ic_1 ?_
  refine st_iadd g dX8_newWrong_60 ?_
  refine pu_X8_117 g dX8_newWrong_61 rfl ?_
  refine wa_ltH H (fun h6 H => ?_)
  obtain rfl := Option.some.inj H
  exact st_iret g dX8_newWrong_64 rfl (fun q => by cases q) K
theorem c_X8_newWrong (a1 : Int32) (a2 : Int32) (a3 : Int32) (h : Hp) (r : (Int32 × Hp)) (H : f_X8_newWrong a1 a2 a3 h = some r) : CtI yX8_newWrong cX8_newWrong 4 .int 1 [.ref 53, .int a1, .int a2, .int a3] h r.1 r.2 :=
  ct_ofI (own := RX8) [.ref 53, .int a1, .int a2, .int a3] (by decide +kernel) rfl (fun ρ => Nat.le_of_ble_eq_true rfl) (fun ρ => rfl) (fun x g K => t_X8_newWrong g a1 a2 a3 h r H K)
def f_X8_toldAt (a1 : Int32) (a2 : Int32) (h : Hp) : Option Int32 :=
  (rdL h 81 ((60 * a1) + a2)).bind fun v1 =>
  some v1.toInt32
theorem t_X8_toldAt {x : Cx} (g : Gx x RX8 cX8_toldAt 3 1) (a1 : Int32) (a2 : Int32) (h : Hp) (out : Int32) (H : f_X8_toldAt a1 a2 h = some out) (K : RtI x .int out h) : WA x 0 [.ref 53, .int a1, .int a2] [] h := by
  unfold f_X8_toldAt at H
  refine st_aload_n g dX8_toldAt_0 rfl ?_
  refine gf_X8_93 g dX8_toldAt_1 rfl (r := 81) rfl ?_
  refine st_bipush g dX8_toldAt_4 bi_60 ?_
  refine st_iload_n g dX8_toldAt_6 rfl ?_
  refine st_imul g dX8_toldAt_7 ?_
  refine st_iload_n g dX8_toldAt_8 rfl ?_
  refine st_iadd g dX8_toldAt_9 ?_
  refine st_lald g dX8_toldAt_10 H (fun v1 H => ?_)
  refine st_l2i g dX8_toldAt_11 ?_
  obtain rfl := Option.some.inj H
  exact st_iret g dX8_toldAt_12 rfl (fun q => by cases q) K
theorem c_X8_toldAt (a1 : Int32) (a2 : Int32) (h : Hp) (r : Int32) (H : f_X8_toldAt a1 a2 h = some r) : CtI yX8_toldAt cX8_toldAt 3 .int 1 [.ref 53, .int a1, .int a2] h r h :=
  ct_ofI (own := RX8) [.ref 53, .int a1, .int a2] (by decide +kernel) rfl (fun ρ => Nat.le_of_ble_eq_true rfl) (fun ρ => rfl) (fun x g K => t_X8_toldAt g a1 a2 h r H K)
def f_X8_get (a1 : Int32) (a2 : Int32) (h : Hp) : Option Int32 :=
  if a2 = 0 then
    (rdI h 54 a1).bind fun v2 =>
    some v2
  else
  if a2 = 1 then
    (rdI h 55 a1).bind fun v4 =>
    some v4
  else
  if a2 = 2 then
    (rdI h 56 a1).bind fun v6 =>
    some v6
  else
  if a2 = 3 then
    (rdI h 59 a1).bind fun v8 =>
    some v8
  else
  if a2 = 4 then
    (rdI h 60 a1).bind fun v10 =>
    some v10
  else
  if a2 = 5 then
    (rdI h 61 a1).bind fun v12 =>
    some v12
  else
    some (h.1 53 10)
theorem t_X8_get {x : Cx} (g : Gx x RX8 cX8_get 3 1) (a1 : Int32) (a2 : Int32) (h : Hp) (out : Int32) (H : f_X8_get a1 a2 h = some out) (K : RtI x .int out h) : WA x 0 [.ref 53, .int a1, .int a2] [] h := by
  unfold f_X8_get at H
  refine st_iload_n g dX8_get_0 rfl ?_
  by_cases q1 : a2 = 0
  · rw [if_pos q1] at H
    refine st_tsw g dX8_get_1 (tgt := 40) q1 (by decide) (by decide) rfl (by decide) ?_
    refine st_aload_n g dX8_get_40 rfl ?_
    refine gf_X8_9 g dX8_get_41 rfl (r := 54) rfl ?_
    refine st_iload_n g dX8_get_44 rfl ?_
    refine st_iald g dX8_get_45 H (fun v2 H => ?_)
    obtain rfl := Option.some.inj H
    exact st_iret g dX8_get_46 rfl (fun q => by cases q) K
  · rw [if_neg q1] at H
    by_cases q3 : a2 = 1
    · rw [if_pos q3] at H
      refine st_tsw g dX8_get_1 (tgt := 47) q3 (by decide) (by decide) rfl (by decide) ?_
      refine st_aload_n g dX8_get_47 rfl ?_
      refine gf_X8_15 g dX8_get_48 rfl (r := 55) rfl ?_
      refine st_iload_n g dX8_get_51 rfl ?_
      refine st_iald g dX8_get_52 H (fun v4 H => ?_)
      obtain rfl := Option.some.inj H
      exact st_iret g dX8_get_53 rfl (fun q => by cases q) K
    · rw [if_neg q3] at H
      by_cases q5 : a2 = 2
      · rw [if_pos q5] at H
        refine st_tsw g dX8_get_1 (tgt := 54) q5 (by decide) (by decide) rfl (by decide) ?_
        refine st_aload_n g dX8_get_54 rfl ?_
        refine gf_X8_18 g dX8_get_55 rfl (r := 56) rfl ?_
        refine st_iload_n g dX8_get_58 rfl ?_
        refine st_iald g dX8_get_59 H (fun v6 H => ?_)
        obtain rfl := Option.some.inj H
        exact st_iret g dX8_get_60 rfl (fun q => by cases q) K
      · rw [if_neg q5] at H
        by_cases q7 : a2 = 3
        · rw [if_pos q7] at H
          refine st_tsw g dX8_get_1 (tgt := 61) q7 (by decide) (by decide) rfl (by decide) ?_
          refine st_aload_n g dX8_get_61 rfl ?_
          refine gf_X8_27 g dX8_get_62 rfl (r := 59) rfl ?_
          refine st_iload_n g dX8_get_65 rfl ?_
          refine st_iald g dX8_get_66 H (fun v8 H => ?_)
          obtain rfl := Option.some.inj H
          exact st_iret g dX8_get_67 rfl (fun q => by cases q) K
        · rw [if_neg q7] at H
          by_cases q9 : a2 = 4
          · rw [if_pos q9] at H
            refine st_tsw g dX8_get_1 (tgt := 68) q9 (by decide) (by decide) rfl (by decide) ?_
            refine st_aload_n g dX8_get_68 rfl ?_
            refine gf_X8_30 g dX8_get_69 rfl (r := 60) rfl ?_
            refine st_iload_n g dX8_get_72 rfl ?_
            refine st_iald g dX8_get_73 H (fun v10 H => ?_)
            obtain rfl := Option.some.inj H
            exact st_iret g dX8_get_74 rfl (fun q => by cases q) K
          · rw [if_neg q9] at H
            by_cases q11 : a2 = 5
            · rw [if_pos q11] at H
              refine st_tsw g dX8_get_1 (tgt := 75) q11 (by decide) (by decide) rfl (by decide) ?_
              refine st_aload_n g dX8_get_75 rfl ?_
              refine gf_X8_33 g dX8_get_76 rfl (r := 61) rfl ?_
              refine st_iload_n g dX8_get_79 rfl ?_
              refine st_iald g dX8_get_80 H (fun v12 H => ?_)
              obtain rfl := Option.some.inj H
              exact st_iret g dX8_get_81 rfl (fun q => by cases q) K
            · rw [if_neg q11] at H
              have zq1 := lv_neT q1 (show (0 : Int32).toInt = 0 by decide)
              have zq3 := lv_neT q3 (show (1 : Int32).toInt = 1 by decide)
              have zq5 := lv_neT q5 (show (2 : Int32).toInt = 2 by decide)
              have zq7 := lv_neT q7 (show (3 : Int32).toInt = 3 by decide)
              have zq9 := lv_neT q9 (show (4 : Int32).toInt = 4 by decide)
              have zq11 := lv_neT q11 (show (5 : Int32).toInt = 5 by decide)
              refine st_tswD g dX8_get_1 (tgt := 82) (by omega) (by decide) ?_
              refine st_aload_n g dX8_get_82 rfl ?_
              refine gf_X8_127 g dX8_get_83 rfl ?_
              obtain rfl := Option.some.inj H
              exact st_iret g dX8_get_86 rfl (fun q => by cases q) K
theorem c_X8_get (a1 : Int32) (a2 : Int32) (h : Hp) (r : Int32) (H : f_X8_get a1 a2 h = some r) : CtI yX8_get cX8_get 3 .int 1 [.ref 53, .int a1, .int a2] h r h :=
  ct_ofI (own := RX8) [.ref 53, .int a1, .int a2] (by decide +kernel) rfl (fun ρ => Nat.le_of_ble_eq_true rfl) (fun ρ => rfl) (fun x g K => t_X8_get g a1 a2 h r H K)
def f_X8_becomes (a1 : Int32) (a2 : Int32) (a3 : Int32) (h : Hp) : Option Hp :=
  if a2 = 0 then
    (wrI h 54 a1 a3).bind fun h2 =>
    some h2
  else
  if a2 = 1 then
    (wrI h 55 a1 a3).bind fun h4 =>
    some h4
  else
  if a2 = 2 then
    (wrI h 56 a1 a3).bind fun h6 =>
    some h6
  else
  if a2 = 3 then
    (wrI h 59 a1 a3).bind fun h8 =>
    some h8
  else
  if a2 = 4 then
    (wrI h 60 a1 a3).bind fun h10 =>
    some h10
  else
  if a2 = 5 then
    (wrI h 61 a1 a3).bind fun h12 =>
    some h12
  else
    lt (stI h 53 10 a3) fun h13 =>
    some h13
theorem t_X8_becomes {x : Cx} (g : Gx x RX8 cX8_becomes 4 1) (a1 : Int32) (a2 : Int32) (a3 : Int32) (h : Hp) (out : Hp) (H : f_X8_becomes a1 a2 a3 h = some out) (K : RtV x out) : WA x 0 [.ref 53, .int a1, .int a2, .int a3] [] h := by
  unfold f_X8_becomes at H
  refine st_iload_n g dX8_becomes_0 rfl ?_
  by_cases q1 : a2 = 0
  · rw [if_pos q1] at H
    refine st_tsw g dX8_becomes_1 (tgt := 40) q1 (by decide) (by decide) rfl (by decide) ?_
    refine st_aload_n g dX8_becomes_40 rfl ?_
    refine gf_X8_9 g dX8_becomes_41 rfl (r := 54) rfl ?_
    refine st_iload_n g dX8_becomes_44 rfl ?_
    refine st_iload_n g dX8_becomes_45 rfl ?_
    refine st_iast g dX8_becomes_46 H (fun h2 H => ?_)
    obtain rfl := Option.some.inj H
    exact st_vret g dX8_becomes_47 K
  · rw [if_neg q1] at H
    by_cases q3 : a2 = 1
    · rw [if_pos q3] at H
      refine st_tsw g dX8_becomes_1 (tgt := 48) q3 (by decide) (by decide) rfl (by decide) ?_
      refine st_aload_n g dX8_becomes_48 rfl ?_
      refine gf_X8_15 g dX8_becomes_49 rfl (r := 55) rfl ?_
      refine st_iload_n g dX8_becomes_52 rfl ?_
      refine st_iload_n g dX8_becomes_53 rfl ?_
      refine st_iast g dX8_becomes_54 H (fun h4 H => ?_)
      obtain rfl := Option.some.inj H
      exact st_vret g dX8_becomes_55 K
    · rw [if_neg q3] at H
      by_cases q5 : a2 = 2
      · rw [if_pos q5] at H
        refine st_tsw g dX8_becomes_1 (tgt := 56) q5 (by decide) (by decide) rfl (by decide) ?_
        refine st_aload_n g dX8_becomes_56 rfl ?_
        refine gf_X8_18 g dX8_becomes_57 rfl (r := 56) rfl ?_
        refine st_iload_n g dX8_becomes_60 rfl ?_
        refine st_iload_n g dX8_becomes_61 rfl ?_
        refine st_iast g dX8_becomes_62 H (fun h6 H => ?_)
        obtain rfl := Option.some.inj H
        exact st_vret g dX8_becomes_63 K
      · rw [if_neg q5] at H
        by_cases q7 : a2 = 3
        · rw [if_pos q7] at H
          refine st_tsw g dX8_becomes_1 (tgt := 64) q7 (by decide) (by decide) rfl (by decide) ?_
          refine st_aload_n g dX8_becomes_64 rfl ?_
          refine gf_X8_27 g dX8_becomes_65 rfl (r := 59) rfl ?_
          refine st_iload_n g dX8_becomes_68 rfl ?_
          refine st_iload_n g dX8_becomes_69 rfl ?_
          refine st_iast g dX8_becomes_70 H (fun h8 H => ?_)
          obtain rfl := Option.some.inj H
          exact st_vret g dX8_becomes_71 K
        · rw [if_neg q7] at H
          by_cases q9 : a2 = 4
          · rw [if_pos q9] at H
            refine st_tsw g dX8_becomes_1 (tgt := 72) q9 (by decide) (by decide) rfl (by decide) ?_
            refine st_aload_n g dX8_becomes_72 rfl ?_
            refine gf_X8_30 g dX8_becomes_73 rfl (r := 60) rfl ?_
            refine st_iload_n g dX8_becomes_76 rfl ?_
            refine st_iload_n g dX8_becomes_77 rfl ?_
            refine st_iast g dX8_becomes_78 H (fun h10 H => ?_)
            obtain rfl := Option.some.inj H
            exact st_vret g dX8_becomes_79 K
          · rw [if_neg q9] at H
            by_cases q11 : a2 = 5
            · rw [if_pos q11] at H
              refine st_tsw g dX8_becomes_1 (tgt := 80) q11 (by decide) (by decide) rfl (by decide) ?_
              refine st_aload_n g dX8_becomes_80 rfl ?_
              refine gf_X8_33 g dX8_becomes_81 rfl (r := 61) rfl ?_
              refine st_iload_n g dX8_becomes_84 rfl ?_
              refine st_iload_n g dX8_becomes_85 rfl ?_
              refine st_iast g dX8_becomes_86 H (fun h12 H => ?_)
              obtain rfl := Option.some.inj H
              exact st_vret g dX8_becomes_87 K
            · rw [if_neg q11] at H
              have zq1 := lv_neT q1 (show (0 : Int32).toInt = 0 by decide)
              have zq3 := lv_neT q3 (show (1 : Int32).toInt = 1 by decide)
              have zq5 := lv_neT q5 (show (2 : Int32).toInt = 2 by decide)
              have zq7 := lv_neT q7 (show (3 : Int32).toInt = 3 by decide)
              have zq9 := lv_neT q9 (show (4 : Int32).toInt = 4 by decide)
              have zq11 := lv_neT q11 (show (5 : Int32).toInt = 5 by decide)
              refine st_tswD g dX8_becomes_1 (tgt := 88) (by omega) (by decide) ?_
              refine st_aload_n g dX8_becomes_88 rfl ?_
              refine st_iload_n g dX8_becomes_89 rfl ?_
              refine pu_X8_127 g dX8_becomes_90 rfl ?_
              refine wa_ltH H (fun h13 H => ?_)
              obtain rfl := Option.some.inj H
              exact st_vret g dX8_becomes_93 K
theorem c_X8_becomes (a1 : Int32) (a2 : Int32) (a3 : Int32) (h : Hp) (r : Hp) (H : f_X8_becomes a1 a2 a3 h = some r) : CtV yX8_becomes cX8_becomes 4 1 [.ref 53, .int a1, .int a2, .int a3] h r :=
  ct_ofV (own := RX8) [.ref 53, .int a1, .int a2, .int a3] (by decide +kernel) rfl (fun ρ => Nat.le_of_ble_eq_true rfl) (fun ρ => rfl) (fun x g K => t_X8_becomes g a1 a2 a3 h r H K)
def f_X8_sign (h : Hp) : Option Int32 :=
  if (h.1 53 11) ≤ (h.1 53 19) then
    some (-1)
  else
    (rdI h 62 (h.1 53 19)).bind fun v2 =>
    some v2
theorem t_X8_sign {x : Cx} (g : Gx x RX8 cX8_sign 1 1) (h : Hp) (out : Int32) (H : f_X8_sign h = some out) (K : RtI x .int out h) : WA x 0 [.ref 53] [] h := by
  unfold f_X8_sign at H
  refine st_aload_n g dX8_sign_0 rfl ?_
  refine gf_X8_173 g dX8_sign_1 rfl ?_
  refine st_aload_n g dX8_sign_4 rfl ?_
  refine gf_X8_170 g dX8_sign_5 rfl ?_
  refine st_ic_ge g dX8_sign_8 (tgt := 23) (by decide) H (fun q1 H => ?_) (fun q1 H => ?_)
  · refine st_iconst g dX8_sign_23 ic_m1 ?_
    obtain rfl := Option.some.inj H
    exact st_iret g dX8_sign_24 rfl (fun q => by cases q) K
  · refine st_aload_n g dX8_sign_11 rfl ?_
    refine gf_X8_36 g dX8_sign_12 rfl (r := 62) rfl ?_
    refine st_aload_n g dX8_sign_15 rfl ?_
    refine gf_X8_173 g dX8_sign_16 rfl ?_
    refine st_iald g dX8_sign_19 H (fun v2 H => ?_)
    refine st_goto g dX8_sign_20 (tgt := 24) (by decide) ?_
    obtain rfl := Option.some.inj H
    exact st_iret g dX8_sign_24 rfl (fun q => by cases q) K
theorem c_X8_sign (h : Hp) (r : Int32) (H : f_X8_sign h = some r) : CtI yX8_sign cX8_sign 1 .int 1 [.ref 53] h r h :=
  ct_ofI (own := RX8) [.ref 53] (by decide +kernel) rfl (fun ρ => Nat.le_of_ble_eq_true rfl) (fun ρ => rfl) (fun x g K => t_X8_sign g h r H K)
def f_X8_codes (a1 : Int32) (h : Hp) : Option (Int32 × Hp) :=
  lt (stI h 53 21 ((h.1 53 21) + 1)) fun h1 =>
  (wrI h1 70 (h.1 53 21) a1).bind fun h2 =>
  some (1, h2)
theorem t_X8_codes {x : Cx} (g : Gx x RX8 cX8_codes 2 1) (a1 : Int32) (h : Hp) (out : (Int32 × Hp)) (H : f_X8_codes a1 h = some out) (K : RtI x .boolean out.1 out.2) : WA x 0 [.ref 53, .int a1] [] h := by
  unfold f_X8_codes at H
  refine st_aload_n g dX8_codes_0 rfl ?_
  refine gf_X8_60 g dX8_codes_1 rfl (r := 70) rfl ?_
  refine st_aload_n g dX8_codes_4 rfl ?_
  refine st_dup g dX8_codes_5 rfl ?_
  refine gf_X8_180 g dX8_codes_6 rfl ?_
  refine st_dup_x1 g dX8_codes_9 rfl rfl ?_
  refine st_iconst g dX8_codes_10 ic_1 ?_
  refine st_iadd g dX8_codes_11 ?_
  refine pu_X8_180 g dX8_codes_12 rfl ?_
  refine wa_ltH H (fun h1 H => ?_)
  refine st_iload_n g dX8_codes_15 rfl ?_
  refine st_iast g dX8_codes_16 H (fun h2 H => ?_)
  refine st_iconst g dX8_codes_17 ic_1 ?_
  obtain rfl := Option.some.inj H
  exact st_iret g dX8_codes_18 rfl (fun _ => Or.inr rfl) K
theorem c_X8_codes (a1 : Int32) (h : Hp) (r : (Int32 × Hp)) (H : f_X8_codes a1 h = some r) : CtI yX8_codes cX8_codes 2 .boolean 1 [.ref 53, .int a1] h r.1 r.2 :=
  ct_ofI (own := RX8) [.ref 53, .int a1] (by decide +kernel) rfl (fun ρ => Nat.le_of_ble_eq_true rfl) (fun ρ => rfl) (fun x g K => t_X8_codes g a1 h r H K)
def f_X8_nameOf (a0 : Int32) : Option Int32 :=
  if a0 = 97 then
    some 1
  else
  if a0 = 104 then
    some 2
  else
  if a0 = 110 then
    some 4
  else
  if a0 = 111 then
    some 5
  else
  if a0 = 115 then
    some 3
  else
  if a0 = 119 then
    some 0
  else
    some (-1)
theorem t_X8_nameOf {x : Cx} (g : Gx x RX8 cX8_nameOf 1 1) (a0 : Int32) (h : Hp) (out : Int32) (H : f_X8_nameOf a0 = some out) (K : RtI x .int out h) : WA x 0 [.int a0] [] h := by
  unfold f_X8_nameOf at H
  refine st_iload_n g dX8_nameOf_0 rfl ?_
  by_cases q1 : a0 = 97
  · rw [if_pos q1] at H
    refine st_lsw g dX8_nameOf_1 (off := 61) (tgt := 62) (by decide) (by rw [q1]; rfl) (by decide) ?_
    refine st_iconst g dX8_nameOf_62 ic_1 ?_
    obtain rfl := Option.some.inj H
    exact st_iret g dX8_nameOf_63 rfl (fun q => by cases q) K
  · rw [if_neg q1] at H
    by_cases q2 : a0 = 104
    · rw [if_pos q2] at H
      refine st_lsw g dX8_nameOf_1 (off := 63) (tgt := 64) (by decide) (by rw [q2]; rfl) (by decide) ?_
      refine st_iconst g dX8_nameOf_64 ic_2 ?_
      obtain rfl := Option.some.inj H
      exact st_iret g dX8_nameOf_65 rfl (fun q => by cases q) K
    · rw [if_neg q2] at H
      by_cases q3 : a0 = 110
      · rw [if_pos q3] at H
        refine st_lsw g dX8_nameOf_1 (off := 67) (tgt := 68) (by decide) (by rw [q3]; rfl) (by decide) ?_
        refine st_iconst g dX8_nameOf_68 ic_4 ?_
        obtain rfl := Option.some.inj H
        exact st_iret g dX8_nameOf_69 rfl (fun q => by cases q) K
      · rw [if_neg q3] at H
        by_cases q4 : a0 = 111
        · rw [if_pos q4] at H
          refine st_lsw g dX8_nameOf_1 (off := 69) (tgt := 70) (by decide) (by rw [q4]; rfl) (by decide) ?_
          refine st_iconst g dX8_nameOf_70 ic_5 ?_
          obtain rfl := Option.some.inj H
          exact st_iret g dX8_nameOf_71 rfl (fun q => by cases q) K
        · rw [if_neg q4] at H
          by_cases q5 : a0 = 115
          · rw [if_pos q5] at H
            refine st_lsw g dX8_nameOf_1 (off := 65) (tgt := 66) (by decide) (by rw [q5]; rfl) (by decide) ?_
            refine st_iconst g dX8_nameOf_66 ic_3 ?_
            obtain rfl := Option.some.inj H
            exact st_iret g dX8_nameOf_67 rfl (fun q => by cases q) K
          · rw [if_neg q5] at H
            by_cases q6 : a0 = 119
            · rw [if_pos q6] at H
              refine st_lsw g dX8_nameOf_1 (off := 59) (tgt := 60) (by decide) (by rw [q6]; rfl) (by decide) ?_
              refine st_iconst g dX8_nameOf_60 ic_0 ?_
              obtain rfl := Option.some.inj H
              exact st_iret g dX8_nameOf_61 rfl (fun q => by cases q) K
            · rw [if_neg q6] at H
              refine st_lsw g dX8_nameOf_1 (off := 71) (tgt := 72) (by decide) (by show Op.lookupswitch.offset [(97, 61), (104, 63), (110, 67), (111, 69), (115, 65), (119, 59)] 71 _ = 71; rw [lv_osw q1 (by decide), lv_osw q2 (by decide), lv_osw q3 (by decide), lv_osw q4 (by decide), lv_osw q5 (by decide), lv_osw q6 (by decide)]; rfl) (by decide) ?_
              refine st_iconst g dX8_nameOf_72 ic_m1 ?_
              obtain rfl := Option.some.inj H
              exact st_iret g dX8_nameOf_73 rfl (fun q => by cases q) K
theorem c_X8_nameOf (a0 : Int32) (h : Hp) (r : Int32) (H : f_X8_nameOf a0 = some r) : CtI yX8_nameOf cX8_nameOf 1 .int 1 [.int a0] h r h :=
  ct_ofI (own := RX8) [.int a0] (by decide +kernel) rfl (fun ρ => Nat.le_of_ble_eq_true rfl) (fun ρ => rfl) (fun x g K => t_X8_nameOf g a0 h r H K)
def P_X8_sees_5 (x : Cx) (a1 : Int32) (a2 : Int32) (h : Hp) (s : (Int32 × Int32)) : Prop := WA x 5 [.ref 53, .int a1, .int a2, .int s.1, .int s.2] [] h
def E_X8_sees_5 (x : Cx) (a1 : Int32) (a2 : Int32) (h : Hp) : (Int32 × Int32) → Prop := fun s : (Int32 × Int32) => WA x 56 [.null, .null, .null, .int s.1, .null] [] h
def b_X8_sees_5 (a1 : Int32) (a2 : Int32) (h : Hp) (s : (Int32 × Int32)) : Option ((Int32 × Int32) ⊕ (Int32 × Int32)) :=
  if (h.1 53 1) ≤ s.2 then
    some (.inr (s.1, s.2))
  else
    (rdI h 57 a1).bind fun v2 =>
    if s.2 = v2 then
      some (.inl (s.1, s.2 + 1))
    else
      (rdI h 58 a1).bind fun v4 =>
      if s.2 = v4 then
        some (.inl (s.1, s.2 + 1))
      else
        (rdI h 55 s.2).bind fun v6 =>
        if v6 = a2 then
          some (.inl (s.1 + 1, s.2 + 1))
        else
          some (.inl (s.1, s.2 + 1))
theorem tb_X8_sees_5 {x : Cx} (g : Gx x RX8 cX8_sees 5 1) (a1 : Int32) (a2 : Int32) (h : Hp) (s : (Int32 × Int32)) (out : (Int32 × Int32) ⊕ (Int32 × Int32)) (H : b_X8_sees_5 a1 a2 h s = some out) (K : Sum.elim (P_X8_sees_5 x a1 a2 h) (E_X8_sees_5 x a1 a2 h) out) : P_X8_sees_5 x a1 a2 h s := by
  unfold b_X8_sees_5 at H
  show WA x 5 [.ref 53, .int a1, .int a2, .int s.1, .int s.2] [] h
  refine st_iload g dX8_sees_5 rfl ?_
  refine st_aload_n g dX8_sees_7 rfl ?_
  refine gf_X8_113 g dX8_sees_8 rfl ?_
  refine st_ic_ge g dX8_sees_11 (tgt := 56) (by decide) H (fun q1 H => ?_) (fun q1 H => ?_)
  · obtain rfl := Option.some.inj H
    exact (wa_drop [0, 1, 2, 4] K)
  · refine st_iload g dX8_sees_14 rfl ?_
    refine st_aload_n g dX8_sees_16 rfl ?_
    refine gf_X8_21 g dX8_sees_17 rfl (r := 57) rfl ?_
    refine st_iload_n g dX8_sees_20 rfl ?_
    refine st_iald g dX8_sees_21 H (fun v2 H => ?_)
    refine st_ic_eq g dX8_sees_22 (tgt := 50) (by decide) H (fun q3 H => ?_) (fun q3 H => ?_)
    · refine st_iinc g dX8_sees_50 rfl (ii_1 _) (Nat.le_of_ble_eq_true rfl) rfl (ls2 := [.ref 53, .int a1, .int a2, .int s.1, .int (s.2 + 1)]) rfl ?_
      refine st_goto g dX8_sees_53 (tgt := 5) (by decide) ?_
      obtain rfl := Option.some.inj H
      exact K
    · refine st_iload g dX8_sees_25 rfl ?_
      refine st_aload_n g dX8_sees_27 rfl ?_
      refine gf_X8_24 g dX8_sees_28 rfl (r := 58) rfl ?_
      refine st_iload_n g dX8_sees_31 rfl ?_
      refine st_iald g dX8_sees_32 H (fun v4 H => ?_)
      refine st_ic_eq g dX8_sees_33 (tgt := 50) (by decide) H (fun q5 H => ?_) (fun q5 H => ?_)
      · refine st_iinc g dX8_sees_50 rfl (ii_1 _) (Nat.le_of_ble_eq_true rfl) rfl (ls2 := [.ref 53, .int a1, .int a2, .int s.1, .int (s.2 + 1)]) rfl ?_
        refine st_goto g dX8_sees_53 (tgt := 5) (by decide) ?_
        obtain rfl := Option.some.inj H
        exact K
      · refine st_aload_n g dX8_sees_36 rfl ?_
        refine gf_X8_15 g dX8_sees_37 rfl (r := 55) rfl ?_
        refine st_iload g dX8_sees_40 rfl ?_
        refine st_iald g dX8_sees_42 H (fun v6 H => ?_)
        refine st_iload_n g dX8_sees_43 rfl ?_
        refine st_ic_ne g dX8_sees_44 (tgt := 50) (by decide) H (fun q7 H => ?_) (fun q7 H => ?_)
        · refine st_iinc g dX8_sees_50 rfl (ii_1 _) (Nat.le_of_ble_eq_true rfl) rfl (ls2 := [.ref 53, .int a1, .int a2, .int s.1, .int (s.2 + 1)]) rfl ?_
          refine st_goto g dX8_sees_53 (tgt := 5) (by decide) ?_
          obtain rfl := Option.some.inj H
          exact K
        · refine st_iinc g dX8_sees_47 rfl (ii_1 _) (Nat.le_of_ble_eq_true rfl) rfl (ls2 := [.ref 53, .int a1, .int a2, .int (s.1 + 1), .int s.2]) rfl ?_
          refine st_iinc g dX8_sees_50 rfl (ii_1 _) (Nat.le_of_ble_eq_true rfl) rfl (ls2 := [.ref 53, .int a1, .int a2, .int (s.1 + 1), .int (s.2 + 1)]) rfl ?_
          refine st_goto g dX8_sees_53 (tgt := 5) (by decide) ?_
          obtain rfl := Option.some.inj H
          exact K
def f_X8_sees (a1 : Int32) (a2 : Int32) (h : Hp) : Option Int32 :=
  (iter (b_X8_sees_5 a1 a2 h) FU (0, 0)).bind fun a8 =>
  some a8.1
theorem t_X8_sees {x : Cx} (g : Gx x RX8 cX8_sees 5 1) (a1 : Int32) (a2 : Int32) (h : Hp) (out : Int32) (H : f_X8_sees a1 a2 h = some out) (K : RtI x .int out h) : WA x 0 [.ref 53, .int a1, .int a2, .null, .null] [] h := by
  unfold f_X8_sees at H
  refine st_iconst g dX8_sees_0 ic_0 ?_
  refine st_istore_n g dX8_sees_1 (Nat.le_of_ble_eq_true rfl) rfl (ls2 := [.ref 53, .int a1, .int a2, .int 0, .null]) rfl ?_
  refine st_iconst g dX8_sees_2 ic_0 ?_
  refine st_istore g dX8_sees_3 (Nat.le_of_ble_eq_true rfl) rfl (ls2 := [.ref 53, .int a1, .int a2, .int 0, .int 0]) rfl ?_
  show P_X8_sees_5 x a1 a2 h (0, 0)
  obtain ⟨a8, ha8, H⟩ := bind_some H
  refine iter_W (P := P_X8_sees_5 x a1 a2 h) (E := E_X8_sees_5 x a1 a2 h) (fun s9 o9 ho9 hK9 => tb_X8_sees_5 g a1 a2 h s9 o9 ho9 hK9) FU _ a8 ha8 ?_
  show WA x 56 [.null, .null, .null, .int a8.1, .null] [] h
  refine st_iload_n g dX8_sees_56 rfl ?_
  obtain rfl := Option.some.inj H
  exact st_iret g dX8_sees_57 rfl (fun q => by cases q) K
theorem c_X8_sees (a1 : Int32) (a2 : Int32) (h : Hp) (r : Int32) (H : f_X8_sees a1 a2 h = some r) : CtI yX8_sees cX8_sees 5 .int 1 [.ref 53, .int a1, .int a2] h r h :=
  ct_ofI (own := RX8) [.ref 53, .int a1, .int a2, .null, .null] (by decide +kernel) rfl (fun ρ => Nat.le_of_ble_eq_true rfl) (fun ρ => rfl) (fun x g K => t_X8_sees g a1 a2 h r H K)
def f_X8_both (a0 : Int32) (a1 : Int32) (a2 : Int32) : Option Int32 :=
  if a0 = 6 then
    if a1 = 0 then
      if a2 = 0 then
        some 0
      else
        some 1
    else
      some 1
  else
  if a0 = 7 then
    if a1 = 0 then
      some 0
    else
      if a2 = 0 then
        some 0
      else
        some 1
  else
  if a0 = 8 then
    if a2 ≤ a1 then
      some 0
    else
      some 1
  else
  if a0 = 9 then
    if a1 = a2 then
      some 1
    else
      some 0
  else
  if a0 = 10 then
    if a1 ≤ a2 then
      some 0
    else
      some 1
  else
  if a0 = 11 then
    some (a1 + a2)
  else
  if a0 = 12 then
    some (a1 - a2)
  else
  if a0 = 13 then
    some (a1 * a2)
  else
  if a0 = 14 then
    if a2 = 0 then
      some 0
    else
      (dvI a1 a2).bind fun v18 =>
      some v18
  else
    if a2 = 0 then
      some 0
    else
      (rmI a1 a2).bind fun v20 =>
      some v20
theorem t_X8_both {x : Cx} (g : Gx x RX8 cX8_both 3 1) (a0 : Int32) (a1 : Int32) (a2 : Int32) (h : Hp) (out : Int32) (H : f_X8_both a0 a1 a2 = some out) (K : RtI x .int out h) : WA x 0 [.int a0, .int a1, .int a2] [] h := by
  unfold f_X8_both at H
  refine st_iload_n g dX8_both_0 rfl ?_
  by_cases q1 : a0 = 6
  · rw [if_pos q1] at H
    refine st_tsw g dX8_both_1 (tgt := 52) q1 (by decide) (by decide) rfl (by decide) ?_
    refine st_iload_n g dX8_both_52 rfl ?_
    refine st_if_ne g dX8_both_53 (tgt := 60) (by decide) H (fun q2 H => ?_) (fun q2 H => ?_)
    · refine st_iconst g dX8_both_60 ic_1 ?_
      refine st_goto g dX8_both_61 (tgt := 65) (by decide) ?_
      obtain rfl := Option.some.inj H
      exact st_iret g dX8_both_65 rfl (fun q => by cases q) K
    · refine st_iload_n g dX8_both_56 rfl ?_
      refine st_if_eq g dX8_both_57 (tgt := 64) (by decide) H (fun q3 H => ?_) (fun q3 H => ?_)
      · refine st_iconst g dX8_both_64 ic_0 ?_
        obtain rfl := Option.some.inj H
        exact st_iret g dX8_both_65 rfl (fun q => by cases q) K
      · refine st_iconst g dX8_both_60 ic_1 ?_
        refine st_goto g dX8_both_61 (tgt := 65) (by decide) ?_
        obtain rfl := Option.some.inj H
        exact st_iret g dX8_both_65 rfl (fun q => by cases q) K
  · rw [if_neg q1] at H
    by_cases q4 : a0 = 7
    · rw [if_pos q4] at H
      refine st_tsw g dX8_both_1 (tgt := 66) q4 (by decide) (by decide) rfl (by decide) ?_
      refine st_iload_n g dX8_both_66 rfl ?_
      refine st_if_eq g dX8_both_67 (tgt := 78) (by decide) H (fun q5 H => ?_) (fun q5 H => ?_)
      · refine st_iconst g dX8_both_78 ic_0 ?_
        obtain rfl := Option.some.inj H
        exact st_iret g dX8_both_79 rfl (fun q => by cases q) K
      · refine st_iload_n g dX8_both_70 rfl ?_
        refine st_if_eq g dX8_both_71 (tgt := 78) (by decide) H (fun q6 H => ?_) (fun q6 H => ?_)
        · refine st_iconst g dX8_both_78 ic_0 ?_
          obtain rfl := Option.some.inj H
          exact st_iret g dX8_both_79 rfl (fun q => by cases q) K
        · refine st_iconst g dX8_both_74 ic_1 ?_
          refine st_goto g dX8_both_75 (tgt := 79) (by decide) ?_
          obtain rfl := Option.some.inj H
          exact st_iret g dX8_both_79 rfl (fun q => by cases q) K
    · rw [if_neg q4] at H
      by_cases q7 : a0 = 8
      · rw [if_pos q7] at H
        refine st_tsw g dX8_both_1 (tgt := 80) q7 (by decide) (by decide) rfl (by decide) ?_
        refine st_iload_n g dX8_both_80 rfl ?_
        refine st_iload_n g dX8_both_81 rfl ?_
        refine st_ic_ge g dX8_both_82 (tgt := 89) (by decide) H (fun q8 H => ?_) (fun q8 H => ?_)
        · refine st_iconst g dX8_both_89 ic_0 ?_
          obtain rfl := Option.some.inj H
          exact st_iret g dX8_both_90 rfl (fun q => by cases q) K
        · refine st_iconst g dX8_both_85 ic_1 ?_
          refine st_goto g dX8_both_86 (tgt := 90) (by decide) ?_
          obtain rfl := Option.some.inj H
          exact st_iret g dX8_both_90 rfl (fun q => by cases q) K
      · rw [if_neg q7] at H
        by_cases q9 : a0 = 9
        · rw [if_pos q9] at H
          refine st_tsw g dX8_both_1 (tgt := 91) q9 (by decide) (by decide) rfl (by decide) ?_
          refine st_iload_n g dX8_both_91 rfl ?_
          refine st_iload_n g dX8_both_92 rfl ?_
          refine st_ic_ne g dX8_both_93 (tgt := 100) (by decide) H (fun q10 H => ?_) (fun q10 H => ?_)
          · refine st_iconst g dX8_both_100 ic_0 ?_
            obtain rfl := Option.some.inj H
            exact st_iret g dX8_both_101 rfl (fun q => by cases q) K
          · refine st_iconst g dX8_both_96 ic_1 ?_
            refine st_goto g dX8_both_97 (tgt := 101) (by decide) ?_
            obtain rfl := Option.some.inj H
            exact st_iret g dX8_both_101 rfl (fun q => by cases q) K
        · rw [if_neg q9] at H
          by_cases q11 : a0 = 10
          · rw [if_pos q11] at H
            refine st_tsw g dX8_both_1 (tgt := 102) q11 (by decide) (by decide) rfl (by decide) ?_
            refine st_iload_n g dX8_both_102 rfl ?_
            refine st_iload_n g dX8_both_103 rfl ?_
            refine st_ic_le g dX8_both_104 (tgt := 111) (by decide) H (fun q12 H => ?_) (fun q12 H => ?_)
            · refine st_iconst g dX8_both_111 ic_0 ?_
              obtain rfl := Option.some.inj H
              exact st_iret g dX8_both_112 rfl (fun q => by cases q) K
            · refine st_iconst g dX8_both_107 ic_1 ?_
              refine st_goto g dX8_both_108 (tgt := 112) (by decide) ?_
              obtain rfl := Option.some.inj H
              exact st_iret g dX8_both_112 rfl (fun q => by cases q) K
          · rw [if_neg q11] at H
            by_cases q13 : a0 = 11
            · rw [if_pos q13] at H
              refine st_tsw g dX8_both_1 (tgt := 113) q13 (by decide) (by decide) rfl (by decide) ?_
              refine st_iload_n g dX8_both_113 rfl ?_
              refine st_iload_n g dX8_both_114 rfl ?_
              refine st_iadd g dX8_both_115 ?_
              obtain rfl := Option.some.inj H
              exact st_iret g dX8_both_116 rfl (fun q => by cases q) K
            · rw [if_neg q13] at H
              by_cases q14 : a0 = 12
              · rw [if_pos q14] at H
                refine st_tsw g dX8_both_1 (tgt := 117) q14 (by decide) (by decide) rfl (by decide) ?_
                refine st_iload_n g dX8_both_117 rfl ?_
                refine st_iload_n g dX8_both_118 rfl ?_
                refine st_isub g dX8_both_119 ?_
                obtain rfl := Option.some.inj H
                exact st_iret g dX8_both_120 rfl (fun q => by cases q) K
              · rw [if_neg q14] at H
                by_cases q15 : a0 = 13
                · rw [if_pos q15] at H
                  refine st_tsw g dX8_both_1 (tgt := 121) q15 (by decide) (by decide) rfl (by decide) ?_
                  refine st_iload_n g dX8_both_121 rfl ?_
                  refine st_iload_n g dX8_both_122 rfl ?_
                  refine st_imul g dX8_both_123 ?_
                  obtain rfl := Option.some.inj H
                  exact st_iret g dX8_both_124 rfl (fun q => by cases q) K
                · rw [if_neg q15] at H
                  by_cases q16 : a0 = 14
                  · rw [if_pos q16] at H
                    refine st_tsw g dX8_both_1 (tgt := 125) q16 (by decide) (by decide) rfl (by decide) ?_
                    refine st_iload_n g dX8_both_125 rfl ?_
                    refine st_if_ne g dX8_both_126 (tgt := 133) (by decide) H (fun q17 H => ?_) (fun q17 H => ?_)
                    · refine st_iload_n g dX8_both_133 rfl ?_
                      refine st_iload_n g dX8_both_134 rfl ?_
                      refine st_idivO g dX8_both_135 H (fun v18 H => ?_)
                      obtain rfl := Option.some.inj H
                      exact st_iret g dX8_both_136 rfl (fun q => by cases q) K
                    · refine st_iconst g dX8_both_129 ic_0 ?_
                      refine st_goto g dX8_both_130 (tgt := 136) (by decide) ?_
                      obtain rfl := Option.some.inj H
                      exact st_iret g dX8_both_136 rfl (fun q => by cases q) K
                  · rw [if_neg q16] at H
                    have zq1 := lv_neT q1 (show (6 : Int32).toInt = 6 by decide)
                    have zq4 := lv_neT q4 (show (7 : Int32).toInt = 7 by decide)
                    have zq7 := lv_neT q7 (show (8 : Int32).toInt = 8 by decide)
                    have zq9 := lv_neT q9 (show (9 : Int32).toInt = 9 by decide)
                    have zq11 := lv_neT q11 (show (10 : Int32).toInt = 10 by decide)
                    have zq13 := lv_neT q13 (show (11 : Int32).toInt = 11 by decide)
                    have zq14 := lv_neT q14 (show (12 : Int32).toInt = 12 by decide)
                    have zq15 := lv_neT q15 (show (13 : Int32).toInt = 13 by decide)
                    have zq16 := lv_neT q16 (show (14 : Int32).toInt = 14 by decide)
                    refine st_tswD g dX8_both_1 (tgt := 137) (by omega) (by decide) ?_
                    refine st_iload_n g dX8_both_137 rfl ?_
                    refine st_if_ne g dX8_both_138 (tgt := 145) (by decide) H (fun q19 H => ?_) (fun q19 H => ?_)
                    · refine st_iload_n g dX8_both_145 rfl ?_
                      refine st_iload_n g dX8_both_146 rfl ?_
                      refine st_iremO g dX8_both_147 H (fun v20 H => ?_)
                      obtain rfl := Option.some.inj H
                      exact st_iret g dX8_both_148 rfl (fun q => by cases q) K
                    · refine st_iconst g dX8_both_141 ic_0 ?_
                      refine st_goto g dX8_both_142 (tgt := 148) (by decide) ?_
                      obtain rfl := Option.some.inj H
                      exact st_iret g dX8_both_148 rfl (fun q => by cases q) K
theorem c_X8_both (a0 : Int32) (a1 : Int32) (a2 : Int32) (h : Hp) (r : Int32) (H : f_X8_both a0 a1 a2 = some r) : CtI yX8_both cX8_both 3 .int 1 [.int a0, .int a1, .int a2] h r h :=
  ct_ofI (own := RX8) [.int a0, .int a1, .int a2] (by decide +kernel) rfl (fun ρ => Nat.le_of_ble_eq_true rfl) (fun ρ => rfl) (fun x g K => t_X8_both g a0 a1 a2 h r H K)
def f_X8_noCalls (a1 : Int32) (h : Hp) : Option Int32 :=
  (rdI h 79 a1).bind fun v1 =>
  if v1 = (-1) then
    some (-11)
  else
    (rdI h 79 a1).bind fun v3 =>
    if v3 = 1 then
      some 0
    else
      some (-12)
theorem t_X8_noCalls {x : Cx} (g : Gx x RX8 cX8_noCalls 2 1) (a1 : Int32) (h : Hp) (out : Int32) (H : f_X8_noCalls a1 h = some out) (K : RtI x .int out h) : WA x 0 [.ref 53, .int a1] [] h := by
  unfold f_X8_noCalls at H
  refine st_aload_n g dX8_noCalls_0 rfl ?_
  refine gf_X8_87 g dX8_noCalls_1 rfl (r := 79) rfl ?_
  refine st_iload_n g dX8_noCalls_4 rfl ?_
  refine st_iald g dX8_noCalls_5 H (fun v1 H => ?_)
  refine st_iconst g dX8_noCalls_6 ic_m1 ?_
  refine st_ic_ne g dX8_noCalls_7 (tgt := 15) (by decide) H (fun q2 H => ?_) (fun q2 H => ?_)
  · refine st_aload_n g dX8_noCalls_15 rfl ?_
    refine gf_X8_87 g dX8_noCalls_16 rfl (r := 79) rfl ?_
    refine st_iload_n g dX8_noCalls_19 rfl ?_
    refine st_iald g dX8_noCalls_20 H (fun v3 H => ?_)
    refine st_iconst g dX8_noCalls_21 ic_1 ?_
    refine st_ic_eq g dX8_noCalls_22 (tgt := 30) (by decide) H (fun q4 H => ?_) (fun q4 H => ?_)
    · refine st_iconst g dX8_noCalls_30 ic_0 ?_
      obtain rfl := Option.some.inj H
      exact st_iret g dX8_noCalls_31 rfl (fun q => by cases q) K
    · refine st_bipush g dX8_noCalls_25 bi_m12 ?_
      refine st_goto g dX8_noCalls_27 (tgt := 31) (by decide) ?_
      obtain rfl := Option.some.inj H
      exact st_iret g dX8_noCalls_31 rfl (fun q => by cases q) K
  · refine st_bipush g dX8_noCalls_10 bi_m11 ?_
    refine st_goto g dX8_noCalls_12 (tgt := 31) (by decide) ?_
    obtain rfl := Option.some.inj H
    exact st_iret g dX8_noCalls_31 rfl (fun q => by cases q) K
theorem c_X8_noCalls (a1 : Int32) (h : Hp) (r : Int32) (H : f_X8_noCalls a1 h = some r) : CtI yX8_noCalls cX8_noCalls 2 .int 1 [.ref 53, .int a1] h r h :=
  ct_ofI (own := RX8) [.ref 53, .int a1] (by decide +kernel) rfl (fun ρ => Nat.le_of_ble_eq_true rfl) (fun ρ => rfl) (fun x g K => t_X8_noCalls g a1 h r H K)
def P_X8_keeps_2 (x : Cx) (a1 : Nat) (s : (Int32 × Hp)) : Prop := WA x 2 [.ref 53, .ref a1, .int s.1] [] s.2
def E_X8_keeps_2 (x : Cx) (a1 : Nat) : (Int32 × Hp) → Prop := fun s : (Int32 × Hp) => WA x 47 [.ref 53, .ref a1, .null] [] s.2
def b_X8_keeps_2 (a1 : Nat) (s : (Int32 × Hp)) : Option ((Int32 × Hp) ⊕ (Int32 × Hp)) :=
  if 12 ≤ s.1 then
    some (.inr (s.1, s.2))
  else
    (rdI s.2 54 s.1).bind fun v2 =>
    (wrI s.2 a1 s.1 v2).bind fun h3 =>
    (rdI h3 61 s.1).bind fun v4 =>
    (wrI h3 a1 (12 + s.1) v4).bind fun h5 =>
    (rdI h5 60 s.1).bind fun v6 =>
    (wrI h5 a1 (24 + s.1) v6).bind fun h7 =>
    some (.inl (s.1 + 1, h7))
theorem tb_X8_keeps_2 {x : Cx} (g : Gx x RX8 cX8_keeps 3 1) (a1 : Nat) (s : (Int32 × Hp)) (out : (Int32 × Hp) ⊕ (Int32 × Hp)) (H : b_X8_keeps_2 a1 s = some out) (K : Sum.elim (P_X8_keeps_2 x a1) (E_X8_keeps_2 x a1) out) : P_X8_keeps_2 x a1 s := by
  unfold b_X8_keeps_2 at H
  show WA x 2 [.ref 53, .ref a1, .int s.1] [] s.2
  refine st_iload_n g dX8_keeps_2 rfl ?_
  refine st_bipush g dX8_keeps_3 bi_12 ?_
  refine st_ic_ge g dX8_keeps_5 (tgt := 47) (by decide) H (fun q1 H => ?_) (fun q1 H => ?_)
  · obtain rfl := Option.some.inj H
    exact (wa_drop [2] K)
  · refine st_aload_n g dX8_keeps_8 rfl ?_
    refine st_iload_n g dX8_keeps_9 rfl ?_
    refine st_aload_n g dX8_keeps_10 rfl ?_
    refine gf_X8_9 g dX8_keeps_11 rfl (r := 54) rfl ?_
    refine st_iload_n g dX8_keeps_14 rfl ?_
    refine st_iald g dX8_keeps_15 H (fun v2 H => ?_)
    refine st_iast g dX8_keeps_16 H (fun h3 H => ?_)
    refine st_aload_n g dX8_keeps_17 rfl ?_
    refine st_bipush g dX8_keeps_18 bi_12 ?_
    refine st_iload_n g dX8_keeps_20 rfl ?_
    refine st_iadd g dX8_keeps_21 ?_
    refine st_aload_n g dX8_keeps_22 rfl ?_
    refine gf_X8_33 g dX8_keeps_23 rfl (r := 61) rfl ?_
    refine st_iload_n g dX8_keeps_26 rfl ?_
    refine st_iald g dX8_keeps_27 H (fun v4 H => ?_)
    refine st_iast g dX8_keeps_28 H (fun h5 H => ?_)
    refine st_aload_n g dX8_keeps_29 rfl ?_
    refine st_bipush g dX8_keeps_30 bi_24 ?_
    refine st_iload_n g dX8_keeps_32 rfl ?_
    refine st_iadd g dX8_keeps_33 ?_
    refine st_aload_n g dX8_keeps_34 rfl ?_
    refine gf_X8_30 g dX8_keeps_35 rfl (r := 60) rfl ?_
    refine st_iload_n g dX8_keeps_38 rfl ?_
    refine st_iald g dX8_keeps_39 H (fun v6 H => ?_)
    refine st_iast g dX8_keeps_40 H (fun h7 H => ?_)
    refine st_iinc g dX8_keeps_41 rfl (ii_1 _) (Nat.le_of_ble_eq_true rfl) rfl (ls2 := [.ref 53, .ref a1, .int (s.1 + 1)]) rfl ?_
    refine st_goto g dX8_keeps_44 (tgt := 2) (by decide) ?_
    obtain rfl := Option.some.inj H
    exact K
def f_X8_keeps (a1 : Nat) (h : Hp) : Option Hp :=
  (iter (b_X8_keeps_2 a1) FU (0, h)).bind fun a8 =>
  (wrI a8.2 a1 36 (a8.2.1 53 10)).bind fun h9 =>
  some h9
theorem t_X8_keeps {x : Cx} (g : Gx x RX8 cX8_keeps 3 1) (a1 : Nat) (h : Hp) (out : Hp) (H : f_X8_keeps a1 h = some out) (K : RtV x out) : WA x 0 [.ref 53, .ref a1, .null] [] h := by
  unfold f_X8_keeps at H
  refine st_iconst g dX8_keeps_0 ic_0 ?_
  refine st_istore_n g dX8_keeps_1 (Nat.le_of_ble_eq_true rfl) rfl (ls2 := [.ref 53, .ref a1, .int 0]) rfl ?_
  show P_X8_keeps_2 x a1 (0, h)
  obtain ⟨a8, ha8, H⟩ := bind_some H
  refine iter_W (P := P_X8_keeps_2 x a1) (E := E_X8_keeps_2 x a1) (fun s9 o9 ho9 hK9 => tb_X8_keeps_2 g a1 s9 o9 ho9 hK9) FU _ a8 ha8 ?_
  show WA x 47 [.ref 53, .ref a1, .null] [] a8.2
  refine st_aload_n g dX8_keeps_47 rfl ?_
  refine st_bipush g dX8_keeps_48 bi_36 ?_
  refine st_aload_n g dX8_keeps_50 rfl ?_
  refine gf_X8_127 g dX8_keeps_51 rfl ?_
  refine st_iast g dX8_keeps_54 H (fun h9 H => ?_)
  obtain rfl := Option.some.inj H
  exact st_vret g dX8_keeps_55 K
theorem c_X8_keeps (a1 : Nat) (h : Hp) (r : Hp) (H : f_X8_keeps a1 h = some r) : CtV yX8_keeps cX8_keeps 3 1 [.ref 53, .ref a1] h r :=
  ct_ofV (own := RX8) [.ref 53, .ref a1, .null] (by decide +kernel) rfl (fun ρ => Nat.le_of_ble_eq_true rfl) (fun ρ => rfl) (fun x g K => t_X8_keeps g a1 h r H K)
def P_X8_laysBack_2 (x : Cx) (a1 : Nat) (s : (Int32 × Hp)) : Prop := WA x 2 [.ref 53, .ref a1, .int s.1] [] s.2
def E_X8_laysBack_2 (x : Cx) (a1 : Nat) : (Int32 × Hp) → Prop := fun s : (Int32 × Hp) => WA x 47 [.ref 53, .ref a1, .null] [] s.2
def b_X8_laysBack_2 (a1 : Nat) (s : (Int32 × Hp)) : Option ((Int32 × Hp) ⊕ (Int32 × Hp)) :=
  if 12 ≤ s.1 then
    some (.inr (s.1, s.2))
  else
    (rdI s.2 a1 s.1).bind fun v2 =>
    (wrI s.2 54 s.1 v2).bind fun h3 =>
    (rdI h3 a1 (12 + s.1)).bind fun v4 =>
    (wrI h3 61 s.1 v4).bind fun h5 =>
    (rdI h5 a1 (24 + s.1)).bind fun v6 =>
    (wrI h5 60 s.1 v6).bind fun h7 =>
    some (.inl (s.1 + 1, h7))
theorem tb_X8_laysBack_2 {x : Cx} (g : Gx x RX8 cX8_laysBack 3 1) (a1 : Nat) (s : (Int32 × Hp)) (out : (Int32 × Hp) ⊕ (Int32 × Hp)) (H : b_X8_laysBack_2 a1 s = some out) (K : Sum.elim (P_X8_laysBack_2 x a1) (E_X8_laysBack_2 x a1) out) : P_X8_laysBack_2 x a1 s := by
  unfold b_X8_laysBack_2 at H
  show WA x 2 [.ref 53, .ref a1, .int s.1] [] s.2
  refine st_iload_n g dX8_laysBack_2 rfl ?_
  refine st_bipush g dX8_laysBack_3 bi_12 ?_
  refine st_ic_ge g dX8_laysBack_5 (tgt := 47) (by decide) H (fun q1 H => ?_) (fun q1 H => ?_)
  · obtain rfl := Option.some.inj H
    exact (wa_drop [2] K)
  · refine st_aload_n g dX8_laysBack_8 rfl ?_
    refine gf_X8_9 g dX8_laysBack_9 rfl (r := 54) rfl ?_
    refine st_iload_n g dX8_laysBack_12 rfl ?_
    refine st_aload_n g dX8_laysBack_13 rfl ?_
    refine st_iload_n g dX8_laysBack_14 rfl ?_
    refine st_iald g dX8_laysBack_15 H (fun v2 H => ?_)
    refine st_iast g dX8_laysBack_16 H (fun h3 H => ?_)
    refine st_aload_n g dX8_laysBack_17 rfl ?_
    refine gf_X8_33 g dX8_laysBack_18 rfl (r := 61) rfl ?_
    refine st_iload_n g dX8_laysBack_21 rfl ?_
    refine st_aload_n g dX8_laysBack_22 rfl ?_
    refine st_bipush g dX8_laysBack_23 bi_12 ?_
    refine st_iload_n g dX8_laysBack_25 rfl ?_
    refine st_iadd g dX8_laysBack_26 ?_
    refine st_iald g dX8_laysBack_27 H (fun v4 H => ?_)
    refine st_iast g dX8_laysBack_28 H (fun h5 H => ?_)
    refine st_aload_n g dX8_laysBack_29 rfl ?_
    refine gf_X8_30 g dX8_laysBack_30 rfl (r := 60) rfl ?_
    refine st_iload_n g dX8_laysBack_33 rfl ?_
    refine st_aload_n g dX8_laysBack_34 rfl ?_
    refine st_bipush g dX8_laysBack_35 bi_24 ?_
    refine st_iload_n g dX8_laysBack_37 rfl ?_
    refine st_iadd g dX8_laysBack_38 ?_
    refine st_iald g dX8_laysBack_39 H (fun v6 H => ?_)
    refine st_iast g dX8_laysBack_40 H (fun h7 H => ?_)
    refine st_iinc g dX8_laysBack_41 rfl (ii_1 _) (Nat.le_of_ble_eq_true rfl) rfl (ls2 := [.ref 53, .ref a1, .int (s.1 + 1)]) rfl ?_
    refine st_goto g dX8_laysBack_44 (tgt := 2) (by decide) ?_
    obtain rfl := Option.some.inj H
    exact K
def f_X8_laysBack (a1 : Nat) (h : Hp) : Option Hp :=
  (iter (b_X8_laysBack_2 a1) FU (0, h)).bind fun a8 =>
  (rdI a8.2 a1 36).bind fun v9 =>
  lt (stI a8.2 53 10 v9) fun h10 =>
  some h10
theorem t_X8_laysBack {x : Cx} (g : Gx x RX8 cX8_laysBack 3 1) (a1 : Nat) (h : Hp) (out : Hp) (H : f_X8_laysBack a1 h = some out) (K : RtV x out) : WA x 0 [.ref 53, .ref a1, .null] [] h := by
  unfold f_X8_laysBack at H
  refine st_iconst g dX8_laysBack_0 ic_0 ?_
  refine st_istore_n g dX8_laysBack_1 (Nat.le_of_ble_eq_true rfl) rfl (ls2 := [.ref 53, .ref a1, .int 0]) rfl ?_
  show P_X8_laysBack_2 x a1 (0, h)
  obtain ⟨a8, ha8, H⟩ := bind_some H
  refine iter_W (P := P_X8_laysBack_2 x a1) (E := E_X8_laysBack_2 x a1) (fun s9 o9 ho9 hK9 => tb_X8_laysBack_2 g a1 s9 o9 ho9 hK9) FU _ a8 ha8 ?_
  show WA x 47 [.ref 53, .ref a1, .null] [] a8.2
  refine st_aload_n g dX8_laysBack_47 rfl ?_
  refine st_aload_n g dX8_laysBack_48 rfl ?_
  refine st_bipush g dX8_laysBack_49 bi_36 ?_
  refine st_iald g dX8_laysBack_51 H (fun v9 H => ?_)
  refine pu_X8_127 g dX8_laysBack_52 rfl ?_
  refine wa_ltH H (fun h10 H => ?_)
  obtain rfl := Option.some.inj H
  exact st_vret g dX8_laysBack_55 K
theorem c_X8_laysBack (a1 : Nat) (h : Hp) (r : Hp) (H : f_X8_laysBack a1 h = some r) : CtV yX8_laysBack cX8_laysBack 3 1 [.ref 53, .ref a1] h r :=
  ct_ofV (own := RX8) [.ref 53, .ref a1, .null] (by decide +kernel) rfl (fun ρ => Nat.le_of_ble_eq_true rfl) (fun ρ => rfl) (fun x g K => t_X8_laysBack g a1 h r H K)
def P_X8_allForgiven_4 (x : Cx) (h : Hp) (s : (Int32 × Int32)) : Prop := WA x 4 [.ref 53, .int s.1, .int s.2] [] h
def E_X8_allForgiven_4 (x : Cx) (h : Hp) : (Int32 × Int32) → Prop := fun s : (Int32 × Int32) => WA x 34 [.null, .int s.1, .null] [] h
def b_X8_allForgiven_4 (h : Hp) (s : (Int32 × Int32)) : Option ((Int32 × Int32) ⊕ (Int32 × Int32)) :=
  if (h.1 53 4) ≤ s.2 then
    some (.inr (s.1, s.2))
  else
    (rdI h 61 s.2).bind fun v2 =>
    if v2 = 1 then
      some (.inl (s.1 ||| ((1 : Int32) <<< (s.2 &&& 31)), s.2 + 1))
    else
      some (.inl (s.1, s.2 + 1))
theorem tb_X8_allForgiven_4 {x : Cx} (g : Gx x RX8 cX8_allForgiven 3 1) (h : Hp) (s : (Int32 × Int32)) (out : (Int32 × Int32) ⊕ (Int32 × Int32)) (H : b_X8_allForgiven_4 h s = some out) (K : Sum.elim (P_X8_allForgiven_4 x h) (E_X8_allForgiven_4 x h) out) : P_X8_allForgiven_4 x h s := by
  unfold b_X8_allForgiven_4 at H
  show WA x 4 [.ref 53, .int s.1, .int s.2] [] h
  refine st_iload_n g dX8_allForgiven_4 rfl ?_
  refine st_aload_n g dX8_allForgiven_5 rfl ?_
  refine gf_X8_117 g dX8_allForgiven_6 rfl ?_
  refine st_ic_ge g dX8_allForgiven_9 (tgt := 34) (by decide) H (fun q1 H => ?_) (fun q1 H => ?_)
  · obtain rfl := Option.some.inj H
    exact (wa_drop [0, 2] K)
  · refine st_aload_n g dX8_allForgiven_12 rfl ?_
    refine gf_X8_33 g dX8_allForgiven_13 rfl (r := 61) rfl ?_
    refine st_iload_n g dX8_allForgiven_16 rfl ?_
    refine st_iald g dX8_allForgiven_17 H (fun v2 H => ?_)
    refine st_iconst g dX8_allForgiven_18 ic_1 ?_
    refine st_ic_ne g dX8_allForgiven_19 (tgt := 28) (by decide) H (fun q3 H => ?_) (fun q3 H => ?_)
    · refine st_iinc g dX8_allForgiven_28 rfl (ii_1 _) (Nat.le_of_ble_eq_true rfl) rfl (ls2 := [.ref 53, .int s.1, .int (s.2 + 1)]) rfl ?_
      refine st_goto g dX8_allForgiven_31 (tgt := 4) (by decide) ?_
      obtain rfl := Option.some.inj H
      exact K
    · refine st_iload_n g dX8_allForgiven_22 rfl ?_
      refine st_iconst g dX8_allForgiven_23 ic_1 ?_
      refine st_iload_n g dX8_allForgiven_24 rfl ?_
      refine st_ishl g dX8_allForgiven_25 ?_
      refine st_ior g dX8_allForgiven_26 ?_
      refine st_istore_n g dX8_allForgiven_27 (Nat.le_of_ble_eq_true rfl) rfl (ls2 := [.ref 53, .int (s.1 ||| ((1 : Int32) <<< (s.2 &&& 31))), .int s.2]) rfl ?_
      refine st_iinc g dX8_allForgiven_28 rfl (ii_1 _) (Nat.le_of_ble_eq_true rfl) rfl (ls2 := [.ref 53, .int (s.1 ||| ((1 : Int32) <<< (s.2 &&& 31))), .int (s.2 + 1)]) rfl ?_
      refine st_goto g dX8_allForgiven_31 (tgt := 4) (by decide) ?_
      obtain rfl := Option.some.inj H
      exact K
def f_X8_allForgiven (h : Hp) : Option Int32 :=
  (iter (b_X8_allForgiven_4 h) FU (0, 0)).bind fun a4 =>
  some a4.1
theorem t_X8_allForgiven {x : Cx} (g : Gx x RX8 cX8_allForgiven 3 1) (h : Hp) (out : Int32) (H : f_X8_allForgiven h = some out) (K : RtI x .int out h) : WA x 0 [.ref 53, .null, .null] [] h := by
  unfold f_X8_allForgiven at H
  refine st_iconst g dX8_allForgiven_0 ic_0 ?_
  refine st_istore_n g dX8_allForgiven_1 (Nat.le_of_ble_eq_true rfl) rfl (ls2 := [.ref 53, .int 0, .null]) rfl ?_
  refine st_iconst g dX8_allForgiven_2 ic_0 ?_
  refine st_istore_n g dX8_allForgiven_3 (Nat.le_of_ble_eq_true rfl) rfl (ls2 := [.ref 53, .int 0, .int 0]) rfl ?_
  show P_X8_allForgiven_4 x h (0, 0)
  obtain ⟨a4, ha4, H⟩ := bind_some H
  refine iter_W (P := P_X8_allForgiven_4 x h) (E := E_X8_allForgiven_4 x h) (fun s9 o9 ho9 hK9 => tb_X8_allForgiven_4 g h s9 o9 ho9 hK9) FU _ a4 ha4 ?_
  show WA x 34 [.null, .int a4.1, .null] [] h
  refine st_iload_n g dX8_allForgiven_34 rfl ?_
  obtain rfl := Option.some.inj H
  exact st_iret g dX8_allForgiven_35 rfl (fun q => by cases q) K
theorem c_X8_allForgiven (h : Hp) (r : Int32) (H : f_X8_allForgiven h = some r) : CtI yX8_allForgiven cX8_allForgiven 3 .int 1 [.ref 53] h r h :=
  ct_ofI (own := RX8) [.ref 53, .null, .null] (by decide +kernel) rfl (fun ρ => Nat.le_of_ble_eq_true rfl) (fun ρ => rfl) (fun x g K => t_X8_allForgiven g h r H K)
def P_X8_allNumbers_4 (x : Cx) (h : Hp) (s : (Int32 × Int32)) : Prop := WA x 4 [.ref 53, .int s.1, .int s.2] [] h
def E_X8_allNumbers_4 (x : Cx) (h : Hp) : (Int32 × Int32) → Prop := fun s : (Int32 × Int32) => WA x 25 [.null, .int s.1, .null] [] h
def b_X8_allNumbers_4 (h : Hp) (s : (Int32 × Int32)) : Option ((Int32 × Int32) ⊕ (Int32 × Int32)) :=
  if 12 ≤ s.2 then
    some (.inr (s.1, s.2))
  else
    (rdI h 54 s.2).bind fun v2 =>
    some (.inl (s.1 + v2, s.2 + 1))
theorem tb_X8_allNumbers_4 {x : Cx} (g : Gx x RX8 cX8_allNumbers 3 1) (h : Hp) (s : (Int32 × Int32)) (out : (Int32 × Int32) ⊕ (Int32 × Int32)) (H : b_X8_allNumbers_4 h s = some out) (K : Sum.elim (P_X8_allNumbers_4 x h) (E_X8_allNumbers_4 x h) out) : P_X8_allNumbers_4 x h s := by
  unfold b_X8_allNumbers_4 at H
  show WA x 4 [.ref 53, .int s.1, .int s.2] [] h
  refine st_iload_n g dX8_allNumbers_4 rfl ?_
  refine st_bipush g dX8_allNumbers_5 bi_12 ?_
  refine st_ic_ge g dX8_allNumbers_7 (tgt := 25) (by decide) H (fun q1 H => ?_) (fun q1 H => ?_)
  · obtain rfl := Option.some.inj H
    exact (wa_drop [0, 2] K)
  · refine st_iload_n g dX8_allNumbers_10 rfl ?_
    refine st_aload_n g dX8_allNumbers_11 rfl ?_
    refine gf_X8_9 g dX8_allNumbers_12 rfl (r := 54) rfl ?_
    refine st_iload_n g dX8_allNumbers_15 rfl ?_
    refine st_iald g dX8_allNumbers_16 H (fun v2 H => ?_)
    refine st_iadd g dX8_allNumbers_17 ?_
    refine st_istore_n g dX8_allNumbers_18 (Nat.le_of_ble_eq_true rfl) rfl (ls2 := [.ref 53, .int (s.1 + v2), .int s.2]) rfl ?_
    refine st_iinc g dX8_allNumbers_19 rfl (ii_1 _) (Nat.le_of_ble_eq_true rfl) rfl (ls2 := [.ref 53, .int (s.1 + v2), .int (s.2 + 1)]) rfl ?_
    refine st_goto g dX8_allNumbers_22 (tgt := 4) (by decide) ?_
    obtain rfl := Option.some.inj H
    exact K
def f_X8_allNumbers (h : Hp) : Option Int32 :=
  (iter (b_X8_allNumbers_4 h) FU (0, 0)).bind fun a3 =>
  some a3.1
theorem t_X8_allNumbers {x : Cx} (g : Gx x RX8 cX8_allNumbers 3 1) (h : Hp) (out : Int32) (H : f_X8_allNumbers h = some out) (K : RtI x .int out h) : WA x 0 [.ref 53, .null, .null] [] h := by
  unfold f_X8_allNumbers at H
  refine st_iconst g dX8_allNumbers_0 ic_0 ?_
  refine st_istore_n g dX8_allNumbers_1 (Nat.le_of_ble_eq_true rfl) rfl (ls2 := [.ref 53, .int 0, .null]) rfl ?_
  refine st_iconst g dX8_allNumbers_2 ic_0 ?_
  refine st_istore_n g dX8_allNumbers_3 (Nat.le_of_ble_eq_true rfl) rfl (ls2 := [.ref 53, .int 0, .int 0]) rfl ?_
  show P_X8_allNumbers_4 x h (0, 0)
  obtain ⟨a3, ha3, H⟩ := bind_some H
  refine iter_W (P := P_X8_allNumbers_4 x h) (E := E_X8_allNumbers_4 x h) (fun s9 o9 ho9 hK9 => tb_X8_allNumbers_4 g h s9 o9 ho9 hK9) FU _ a3 ha3 ?_
  show WA x 25 [.null, .int a3.1, .null] [] h
  refine st_iload_n g dX8_allNumbers_25 rfl ?_
  obtain rfl := Option.some.inj H
  exact st_iret g dX8_allNumbers_26 rfl (fun q => by cases q) K
theorem c_X8_allNumbers (h : Hp) (r : Int32) (H : f_X8_allNumbers h = some r) : CtI yX8_allNumbers cX8_allNumbers 3 .int 1 [.ref 53] h r h :=
  ct_ofI (own := RX8) [.ref 53, .null, .null] (by decide +kernel) rfl (fun ρ => Nat.le_of_ble_eq_true rfl) (fun ρ => rfl) (fun x g K => t_X8_allNumbers g h r H K)
def P_X8_alike_2 (x : Cx) (h : Hp) (s : Int32) : Prop := WA x 2 [.ref 53, .int s, .null] [] h
def E_X8_alike_2 (x : Cx) (h : Hp) : Int32 ⊕ Int32 → Prop := Sum.elim (fun s : Int32 => WA x 61 [.null, .null, .null] [] h) (fun r : Int32 => RtI x .int r h)
def P_X8_alike_12 (x : Cx) (a1 : Int32) (h : Hp) (s : Int32) : Prop := WA x 12 [.ref 53, .int a1, .int s] [] h
def E_X8_alike_12 (x : Cx) (a1 : Int32) (h : Hp) : Int32 ⊕ Int32 → Prop := Sum.elim (fun s : Int32 => WA x 55 [.ref 53, .int a1, .null] [] h) (fun r : Int32 => RtI x .int r h)
def b_X8_alike_12 (a1 : Int32) (h : Hp) (s : Int32) : Option (Int32 ⊕ (Int32 ⊕ Int32)) :=
  if 12 ≤ s then
    some (.inr (.inl s))
  else
    (rdI h 54 a1).bind fun v3 =>
    if v3 ≤ 0 then
      some (.inl (s + 1))
    else
      (rdI h 54 a1).bind fun v5 =>
      (rdI h 54 s).bind fun v6 =>
      if v5 = v6 then
        some (.inr (.inr ((12 * a1) + s)))
      else
        some (.inl (s + 1))
theorem tb_X8_alike_12 {x : Cx} (g : Gx x RX8 cX8_alike 3 1) (a1 : Int32) (h : Hp) (s : Int32) (out : Int32 ⊕ (Int32 ⊕ Int32)) (H : b_X8_alike_12 a1 h s = some out) (K : Sum.elim (P_X8_alike_12 x a1 h) (E_X8_alike_12 x a1 h) out) : P_X8_alike_12 x a1 h s := by
  unfold b_X8_alike_12 at H
  show WA x 12 [.ref 53, .int a1, .int s] [] h
  refine st_iload_n g dX8_alike_12 rfl ?_
  refine st_bipush g dX8_alike_13 bi_12 ?_
  refine st_ic_ge g dX8_alike_15 (tgt := 55) (by decide) H (fun q2 H => ?_) (fun q2 H => ?_)
  · obtain rfl := Option.some.inj H
    exact (wa_drop [2] K)
  · refine st_aload_n g dX8_alike_18 rfl ?_
    refine gf_X8_9 g dX8_alike_19 rfl (r := 54) rfl ?_
    refine st_iload_n g dX8_alike_22 rfl ?_
    refine st_iald g dX8_alike_23 H (fun v3 H => ?_)
    refine st_if_le g dX8_alike_24 (tgt := 49) (by decide) H (fun q4 H => ?_) (fun q4 H => ?_)
    · refine st_iinc g dX8_alike_49 rfl (ii_1 _) (Nat.le_of_ble_eq_true rfl) rfl (ls2 := [.ref 53, .int a1, .int (s + 1)]) rfl ?_
      refine st_goto g dX8_alike_52 (tgt := 12) (by decide) ?_
      obtain rfl := Option.some.inj H
      exact K
    · refine st_aload_n g dX8_alike_27 rfl ?_
      refine gf_X8_9 g dX8_alike_28 rfl (r := 54) rfl ?_
      refine st_iload_n g dX8_alike_31 rfl ?_
      refine st_iald g dX8_alike_32 H (fun v5 H => ?_)
      refine st_aload_n g dX8_alike_33 rfl ?_
      refine gf_X8_9 g dX8_alike_34 rfl (r := 54) rfl ?_
      refine st_iload_n g dX8_alike_37 rfl ?_
      refine st_iald g dX8_alike_38 H (fun v6 H => ?_)
      refine st_ic_ne g dX8_alike_39 (tgt := 49) (by decide) H (fun q7 H => ?_) (fun q7 H => ?_)
      · refine st_iinc g dX8_alike_49 rfl (ii_1 _) (Nat.le_of_ble_eq_true rfl) rfl (ls2 := [.ref 53, .int a1, .int (s + 1)]) rfl ?_
        refine st_goto g dX8_alike_52 (tgt := 12) (by decide) ?_
        obtain rfl := Option.some.inj H
        exact K
      · refine st_bipush g dX8_alike_42 bi_12 ?_
        refine st_iload_n g dX8_alike_44 rfl ?_
        refine st_imul g dX8_alike_45 ?_
        refine st_iload_n g dX8_alike_46 rfl ?_
        refine st_iadd g dX8_alike_47 ?_
        obtain rfl := Option.some.inj H
        exact st_iret g dX8_alike_48 rfl (fun q => by cases q) K
def b_X8_alike_2 (h : Hp) (s : Int32) : Option (Int32 ⊕ (Int32 ⊕ Int32)) :=
  if 12 ≤ s then
    some (.inr (.inl s))
  else
    (iter (b_X8_alike_12 s h) FU (s + 1)).bind (Sum.elim (fun a8 =>
      some (.inl (s + 1))) (fun r => some (.inr (.inr r))))
theorem tb_X8_alike_2 {x : Cx} (g : Gx x RX8 cX8_alike 3 1) (h : Hp) (s : Int32) (out : Int32 ⊕ (Int32 ⊕ Int32)) (H : b_X8_alike_2 h s = some out) (K : Sum.elim (P_X8_alike_2 x h) (E_X8_alike_2 x h) out) : P_X8_alike_2 x h s := by
  unfold b_X8_alike_2 at H
  show WA x 2 [.ref 53, .int s, .null] [] h
  refine st_iload_n g dX8_alike_2 rfl ?_
  refine st_bipush g dX8_alike_3 bi_12 ?_
  refine st_ic_ge g dX8_alike_5 (tgt := 61) (by decide) H (fun q1 H => ?_) (fun q1 H => ?_)
  · obtain rfl := Option.some.inj H
    exact (wa_drop [0, 1] K)
  · refine st_iload_n g dX8_alike_8 rfl ?_
    refine st_iconst g dX8_alike_9 ic_1 ?_
    refine st_iadd g dX8_alike_10 ?_
    refine st_istore_n g dX8_alike_11 (Nat.le_of_ble_eq_true rfl) rfl (ls2 := [.ref 53, .int s, .int (s + 1)]) rfl ?_
    show P_X8_alike_12 x s h (s + 1)
    obtain ⟨a8o, ha8, hca8⟩ := it_R H
    refine iter_W (P := P_X8_alike_12 x s h) (E := E_X8_alike_12 x s h) (fun s9 o9 ho9 hK9 => tb_X8_alike_12 g s h s9 o9 ho9 hK9) FU _ a8o ha8 ?_
    rcases hca8 with ⟨a8, rfl, H⟩ | ⟨r, rfl, H⟩
    · show WA x 55 [.ref 53, .int s, .null] [] h
      refine st_iinc g dX8_alike_55 rfl (ii_1 _) (Nat.le_of_ble_eq_true rfl) rfl (ls2 := [.ref 53, .int (s + 1), .null]) rfl ?_
      refine st_goto g dX8_alike_58 (tgt := 2) (by decide) ?_
      obtain rfl := Option.some.inj H
      exact K
    · obtain rfl := Option.some.inj H
      exact K
def f_X8_alike (h : Hp) : Option Int32 :=
  (iter (b_X8_alike_2 h) FU 0).bind (Sum.elim (fun a9 =>
    some (-2)) (fun r => some r))
theorem t_X8_alike {x : Cx} (g : Gx x RX8 cX8_alike 3 1) (h : Hp) (out : Int32) (H : f_X8_alike h = some out) (K : RtI x .int out h) : WA x 0 [.ref 53, .null, .null] [] h := by
  unfold f_X8_alike at H
  refine st_iconst g dX8_alike_0 ic_0 ?_
  refine st_istore_n g dX8_alike_1 (Nat.le_of_ble_eq_true rfl) rfl (ls2 := [.ref 53, .int 0, .null]) rfl ?_
  show P_X8_alike_2 x h 0
  obtain ⟨a9o, ha9, hca9⟩ := it_R H
  refine iter_W (P := P_X8_alike_2 x h) (E := E_X8_alike_2 x h) (fun s9 o9 ho9 hK9 => tb_X8_alike_2 g h s9 o9 ho9 hK9) FU _ a9o ha9 ?_
  rcases hca9 with ⟨a9, rfl, H⟩ | ⟨r, rfl, H⟩
  · show WA x 61 [.null, .null, .null] [] h
    refine st_bipush g dX8_alike_61 bi_m2 ?_
    obtain rfl := Option.some.inj H
    exact st_iret g dX8_alike_63 rfl (fun q => by cases q) K
  · obtain rfl := Option.some.inj H
    exact K
theorem c_X8_alike (h : Hp) (r : Int32) (H : f_X8_alike h = some r) : CtI yX8_alike cX8_alike 3 .int 1 [.ref 53] h r h :=
  ct_ofI (own := RX8) [.ref 53, .null, .null] (by decide +kernel) rfl (fun ρ => Nat.le_of_ble_eq_true rfl) (fun ρ => rfl) (fun x g K => t_X8_alike g h r H K)
def P_X8_rises_4 (x : Cx) (a1 : Int32) (h : Hp) (s : (Int32 × Int32)) : Prop := WA x 4 [.ref 53, .int a1, .int s.1, .int s.2] [] h
def E_X8_rises_4 (x : Cx) (a1 : Int32) (h : Hp) : (Int32 × Int32) ⊕ Int32 → Prop := Sum.elim (fun s : (Int32 × Int32) => WA x 46 [.null, .null, .null, .null] [] h) (fun r : Int32 => RtI x .boolean r h)
def b_X8_rises_4 (a1 : Int32) (h : Hp) (s : (Int32 × Int32)) : Option ((Int32 × Int32) ⊕ ((Int32 × Int32) ⊕ Int32)) :=
  if 12 ≤ s.2 then
    some (.inr (.inl (s.1, s.2)))
  else
    if ((a1 >>> (s.2 &&& 31)) &&& 1) = 0 then
      some (.inl (s.1, s.2 + 1))
    else
      (rdI h 54 s.2).bind fun v3 =>
      if s.1 < v3 then
        (rdI h 54 s.2).bind fun v5 =>
        some (.inl (v5, s.2 + 1))
      else
        some (.inr (.inr 0))
theorem tb_X8_rises_4 {x : Cx} (g : Gx x RX8 cX8_rises 4 1) (a1 : Int32) (h : Hp) (s : (Int32 × Int32)) (out : (Int32 × Int32) ⊕ ((Int32 × Int32) ⊕ Int32)) (H : b_X8_rises_4 a1 h s = some out) (K : Sum.elim (P_X8_rises_4 x a1 h) (E_X8_rises_4 x a1 h) out) : P_X8_rises_4 x a1 h s := by
  unfold b_X8_rises_4 at H
  show WA x 4 [.ref 53, .int a1, .int s.1, .int s.2] [] h
  refine st_iload_n g dX8_rises_4 rfl ?_
  refine st_bipush g dX8_rises_5 bi_12 ?_
  refine st_ic_ge g dX8_rises_7 (tgt := 46) (by decide) H (fun q1 H => ?_) (fun q1 H => ?_)
  · obtain rfl := Option.some.inj H
    exact (wa_drop [0, 1, 2, 3] K)
  · refine st_iload_n g dX8_rises_10 rfl ?_
    refine st_iload_n g dX8_rises_11 rfl ?_
    refine st_ishr g dX8_rises_12 ?_
    refine st_iconst g dX8_rises_13 ic_1 ?_
    refine st_iand g dX8_rises_14 ?_
    refine st_if_ne g dX8_rises_15 (tgt := 21) (by decide) H (fun q2 H => ?_) (fun q2 H => ?_)
    · refine st_aload_n g dX8_rises_21 rfl ?_
      refine gf_X8_9 g dX8_rises_22 rfl (r := 54) rfl ?_
      refine st_iload_n g dX8_rises_25 rfl ?_
      refine st_iald g dX8_rises_26 H (fun v3 H => ?_)
      refine st_iload_n g dX8_rises_27 rfl ?_
      refine st_ic_gt g dX8_rises_28 (tgt := 33) (by decide) H (fun q4 H => ?_) (fun q4 H => ?_)
      · refine st_aload_n g dX8_rises_33 rfl ?_
        refine gf_X8_9 g dX8_rises_34 rfl (r := 54) rfl ?_
        refine st_iload_n g dX8_rises_37 rfl ?_
        refine st_iald g dX8_rises_38 H (fun v5 H => ?_)
        refine st_istore_n g dX8_rises_39 (Nat.le_of_ble_eq_true rfl) rfl (ls2 := [.ref 53, .int a1, .int v5, .int s.2]) rfl ?_
        refine st_iinc g dX8_rises_40 rfl (ii_1 _) (Nat.le_of_ble_eq_true rfl) rfl (ls2 := [.ref 53, .int a1, .int v5, .int (s.2 + 1)]) rfl ?_
        refine st_goto g dX8_rises_43 (tgt := 4) (by decide) ?_
        obtain rfl := Option.some.inj H
        exact K
      · refine st_iconst g dX8_rises_31 ic_0 ?_
        obtain rfl := Option.some.inj H
        exact st_iret g dX8_rises_32 rfl (fun _ => Or.inl rfl) K
    · refine st_goto g dX8_rises_18 (tgt := 40) (by decide) ?_
      refine st_iinc g dX8_rises_40 rfl (ii_1 _) (Nat.le_of_ble_eq_true rfl) rfl (ls2 := [.ref 53, .int a1, .int s.1, .int (s.2 + 1)]) rfl ?_
      refine st_goto g dX8_rises_43 (tgt := 4) (by decide) ?_
      obtain rfl := Option.some.inj H
      exact K
def f_X8_rises (a1 : Int32) (h : Hp) : Option Int32 :=
  (iter (b_X8_rises_4 a1 h) FU ((-1), 0)).bind (Sum.elim (fun a6 =>
    some 1) (fun r => some r))
theorem t_X8_rises {x : Cx} (g : Gx x RX8 cX8_rises 4 1) (a1 : Int32) (h : Hp) (out : Int32) (H : f_X8_rises a1 h = some out) (K : RtI x .boolean out h) : WA x 0 [.ref 53, .int a1, .null, .null] [] h := by
  unfold f_X8_rises at H
  refine st_iconst g dX8_rises_0 ic_m1 ?_
  refine st_istore_n g dX8_rises_1 (Nat.le_of_ble_eq_true rfl) rfl (ls2 := [.ref 53, .int a1, .int (-1), .null]) rfl ?_
  refine st_iconst g dX8_rises_2 ic_0 ?_
  refine st_istore_n g dX8_rises_3 (Nat.le_of_ble_eq_true rfl) rfl (ls2 := [.ref 53, .int a1, .int (-1), .int 0]) rfl ?_
  show P_X8_rises_4 x a1 h ((-1), 0)
  obtain ⟨a6o, ha6, hca6⟩ := it_R H
  refine iter_W (P := P_X8_rises_4 x a1 h) (E := E_X8_rises_4 x a1 h) (fun s9 o9 ho9 hK9 => tb_X8_rises_4 g a1 h s9 o9 ho9 hK9) FU _ a6o ha6 ?_
  rcases hca6 with ⟨a6, rfl, H⟩ | ⟨r, rfl, H⟩
  · show WA x 46 [.null, .null, .null, .null] [] h
    refine st_iconst g dX8_rises_46 ic_1 ?_
    obtain rfl := Option.some.inj H
    exact st_iret g dX8_rises_47 rfl (fun _ => Or.inr rfl) K
  · obtain rfl := Option.some.inj H
    exact K
theorem c_X8_rises (a1 : Int32) (h : Hp) (r : Int32) (H : f_X8_rises a1 h = some r) : CtI yX8_rises cX8_rises 4 .boolean 1 [.ref 53, .int a1] h r h :=
  ct_ofI (own := RX8) [.ref 53, .int a1, .null, .null] (by decide +kernel) rfl (fun ρ => Nat.le_of_ble_eq_true rfl) (fun ρ => rfl) (fun x g K => t_X8_rises g a1 h r H K)
def P_X8_isInOrder_2 (x : Cx) (h : Hp) (s : Int32) : Prop := WA x 2 [.ref 53, .int s] [] h
def E_X8_isInOrder_2 (x : Cx) (h : Hp) : Int32 ⊕ Int32 → Prop := Sum.elim (fun s : Int32 => WA x 33 [.null, .null] [] h) (fun r : Int32 => RtI x .boolean r h)
def b_X8_isInOrder_2 (h : Hp) (s : Int32) : Option (Int32 ⊕ (Int32 ⊕ Int32)) :=
  if 12 ≤ s then
    some (.inr (.inl s))
  else
    (rdI h 54 s).bind fun v2 =>
    (rdI h 54 (s - 1)).bind fun v3 =>
    if v3 ≤ v2 then
      some (.inl (s + 1))
    else
      some (.inr (.inr 0))
theorem tb_X8_isInOrder_2 {x : Cx} (g : Gx x RX8 cX8_isInOrder 2 1) (h : Hp) (s : Int32) (out : Int32 ⊕ (Int32 ⊕ Int32)) (H : b_X8_isInOrder_2 h s = some out) (K : Sum.elim (P_X8_isInOrder_2 x h) (E_X8_isInOrder_2 x h) out) : P_X8_isInOrder_2 x h s := by
  unfold b_X8_isInOrder_2 at H
  show WA x 2 [.ref 53, .int s] [] h
  refine st_iload_n g dX8_isInOrder_2 rfl ?_
  refine st_bipush g dX8_isInOrder_3 bi_12 ?_
  refine st_ic_ge g dX8_isInOrder_5 (tgt := 33) (by decide) H (fun q1 H => ?_) (fun q1 H => ?_)
  · obtain rfl := Option.some.inj H
    exact (wa_drop [0, 1] K)
  · refine st_aload_n g dX8_isInOrder_8 rfl ?_
    refine gf_X8_9 g dX8_isInOrder_9 rfl (r := 54) rfl ?_
    refine st_iload_n g dX8_isInOrder_12 rfl ?_
    refine st_iald g dX8_isInOrder_13 H (fun v2 H => ?_)
    refine st_aload_n g dX8_isInOrder_14 rfl ?_
    refine gf_X8_9 g dX8_isInOrder_15 rfl (r := 54) rfl ?_
    refine st_iload_n g dX8_isInOrder_18 rfl ?_
    refine st_iconst g dX8_isInOrder_19 ic_1 ?_
    refine st_isub g dX8_isInOrder_20 ?_
    refine st_iald g dX8_isInOrder_21 H (fun v3 H => ?_)
    refine st_ic_ge g dX8_isInOrder_22 (tgt := 27) (by decide) H (fun q4 H => ?_) (fun q4 H => ?_)
    · refine st_iinc g dX8_isInOrder_27 rfl (ii_1 _) (Nat.le_of_ble_eq_true rfl) rfl (ls2 := [.ref 53, .int (s + 1)]) rfl ?_
      refine st_goto g dX8_isInOrder_30 (tgt := 2) (by decide) ?_
      obtain rfl := Option.some.inj H
      exact K
    · refine st_iconst g dX8_isInOrder_25 ic_0 ?_
      obtain rfl := Option.some.inj H
      exact st_iret g dX8_isInOrder_26 rfl (fun _ => Or.inl rfl) K
def f_X8_isInOrder (h : Hp) : Option Int32 :=
  (iter (b_X8_isInOrder_2 h) FU 1).bind (Sum.elim (fun a5 =>
    some 1) (fun r => some r))
theorem t_X8_isInOrder {x : Cx} (g : Gx x RX8 cX8_isInOrder 2 1) (h : Hp) (out : Int32) (H : f_X8_isInOrder h = some out) (K : RtI x .boolean out h) : WA x 0 [.ref 53, .null] [] h := by
  unfold f_X8_isInOrder at H
  refine st_iconst g dX8_isInOrder_0 ic_1 ?_
  refine st_istore_n g dX8_isInOrder_1 (Nat.le_of_ble_eq_true rfl) rfl (ls2 := [.ref 53, .int 1]) rfl ?_
  show P_X8_isInOrder_2 x h 1
  obtain ⟨a5o, ha5, hca5⟩ := it_R H
  refine iter_W (P := P_X8_isInOrder_2 x h) (E := E_X8_isInOrder_2 x h) (fun s9 o9 ho9 hK9 => tb_X8_isInOrder_2 g h s9 o9 ho9 hK9) FU _ a5o ha5 ?_
  rcases hca5 with ⟨a5, rfl, H⟩ | ⟨r, rfl, H⟩
  · show WA x 33 [.null, .null] [] h
    refine st_iconst g dX8_isInOrder_33 ic_1 ?_
    obtain rfl := Option.some.inj H
    exact st_iret g dX8_isInOrder_34 rfl (fun _ => Or.inr rfl) K
  · obtain rfl := Option.some.inj H
    exact K
theorem c_X8_isInOrder (h : Hp) (r : Int32) (H : f_X8_isInOrder h = some r) : CtI yX8_isInOrder cX8_isInOrder 2 .boolean 1 [.ref 53] h r h :=
  ct_ofI (own := RX8) [.ref 53, .null] (by decide +kernel) rfl (fun ρ => Nat.le_of_ble_eq_true rfl) (fun ρ => rfl) (fun x g K => t_X8_isInOrder g h r H K)
def P_X8_ring_5 (x : Cx) (h : Hp) (s : (Int32 × Int32)) : Prop := WA x 5 [.ref 53, .int s.1, .int s.2, .null, .null, .null, .null] [] h
def E_X8_ring_5 (x : Cx) (h : Hp) : (Int32 × Int32) → Prop := fun s : (Int32 × Int32) => WA x 129 [.null, .int s.1, .null, .null, .null, .null, .null] [] h
def P_X8_ring_20 (x : Cx) (a2 : Int32) (h : Hp) (s : (Int32 × Int32 × Int32)) : Prop := WA x 20 [.ref 53, .int s.1, .int a2, .int s.2.1, .int s.2.2, .null, .null] [] h
def E_X8_ring_20 (x : Cx) (a2 : Int32) (h : Hp) : (Int32 × Int32 × Int32) → Prop := fun s : (Int32 × Int32 × Int32) => WA x 123 [.ref 53, .int s.1, .int a2, .null, .null, .null, .null] [] h
def P_X8_ring_35 (x : Cx) (a1 : Int32) (a2 : Int32) (a3 : Int32) (a4 : Int32) (h : Hp) (s : (Int32 × Int32)) : Prop := WA x 35 [.ref 53, .int a1, .int a2, .int a3, .int a4, .int s.1, .int s.2] [] h
def E_X8_ring_35 (x : Cx) (a1 : Int32) (a2 : Int32) (a3 : Int32) (a4 : Int32) (h : Hp) : (Int32 × Int32) → Prop := fun s : (Int32 × Int32) => WA x 89 [.ref 53, .int a1, .int a2, .null, .int a4, .int s.1, .null] [] h
def b_X8_ring_35 (a1 : Int32) (a2 : Int32) (a3 : Int32) (a4 : Int32) (h : Hp) (s : (Int32 × Int32)) : Option ((Int32 × Int32) ⊕ (Int32 × Int32)) :=
  if (h.1 53 4) ≤ s.2 then
    some (.inr (s.1, s.2))
  else
    (rdI h 61 s.2).bind fun v4 =>
    if v4 = 0 then
      (rdI h 57 s.2).bind fun v6 =>
      if ((a3 >>> (v6 &&& 31)) &&& 1) = 1 then
        (rdI h 58 s.2).bind fun v8 =>
        some (.inl (s.1 ||| ((1 : Int32) <<< (v8 &&& 31)), s.2 + 1))
      else
        some (.inl (s.1, s.2 + 1))
    else
      some (.inl (s.1, s.2 + 1))
theorem tb_X8_ring_35 {x : Cx} (g : Gx x RX8 cX8_ring 7 1) (a1 : Int32) (a2 : Int32) (a3 : Int32) (a4 : Int32) (h : Hp) (s : (Int32 × Int32)) (out : (Int32 × Int32) ⊕ (Int32 × Int32)) (H : b_X8_ring_35 a1 a2 a3 a4 h s = some out) (K : Sum.elim (P_X8_ring_35 x a1 a2 a3 a4 h) (E_X8_ring_35 x a1 a2 a3 a4 h) out) : P_X8_ring_35 x a1 a2 a3 a4 h s := by
  unfold b_X8_ring_35 at H
  show WA x 35 [.ref 53, .int a1, .int a2, .int a3, .int a4, .int s.1, .int s.2] [] h
  refine st_iload g dX8_ring_35 rfl ?_
  refine st_aload_n g dX8_ring_37 rfl ?_
  refine gf_X8_117 g dX8_ring_38 rfl ?_
  refine st_ic_ge g dX8_ring_41 (tgt := 89) (by decide) H (fun q3 H => ?_) (fun q3 H => ?_)
  · obtain rfl := Option.some.inj H
    exact (wa_drop [3, 6] K)
  · refine st_aload_n g dX8_ring_44 rfl ?_
    refine gf_X8_33 g dX8_ring_45 rfl (r := 61) rfl ?_
    refine st_iload g dX8_ring_48 rfl ?_
    refine st_iald g dX8_ring_50 H (fun v4 H => ?_)
    refine st_if_ne g dX8_ring_51 (tgt := 83) (by decide) H (fun q5 H => ?_) (fun q5 H => ?_)
    · refine st_iinc g dX8_ring_83 rfl (ii_1 _) (Nat.le_of_ble_eq_true rfl) rfl (ls2 := [.ref 53, .int a1, .int a2, .int a3, .int a4, .int s.1, .int (s.2 + 1)]) rfl ?_
      refine st_goto g dX8_ring_86 (tgt := 35) (by decide) ?_
      obtain rfl := Option.some.inj H
      exact K
    · refine st_iload_n g dX8_ring_54 rfl ?_
      refine st_aload_n g dX8_ring_55 rfl ?_
      refine gf_X8_21 g dX8_ring_56 rfl (r := 57) rfl ?_
      refine st_iload g dX8_ring_59 rfl ?_
      refine st_iald g dX8_ring_61 H (fun v6 H => ?_)
      refine st_ishr g dX8_ring_62 ?_
      refine st_iconst g dX8_ring_63 ic_1 ?_
      refine st_iand g dX8_ring_64 ?_
      refine st_iconst g dX8_ring_65 ic_1 ?_
      refine st_ic_ne g dX8_ring_66 (tgt := 83) (by decide) H (fun q7 H => ?_) (fun q7 H => ?_)
      · refine st_iinc g dX8_ring_83 rfl (ii_1 _) (Nat.le_of_ble_eq_true rfl) rfl (ls2 := [.ref 53, .int a1, .int a2, .int a3, .int a4, .int s.1, .int (s.2 + 1)]) rfl ?_
        refine st_goto g dX8_ring_86 (tgt := 35) (by decide) ?_
        obtain rfl := Option.some.inj H
        exact K
      · refine st_iload g dX8_ring_69 rfl ?_
        refine st_iconst g dX8_ring_71 ic_1 ?_
        refine st_aload_n g dX8_ring_72 rfl ?_
        refine gf_X8_24 g dX8_ring_73 rfl (r := 58) rfl ?_
        refine st_iload g dX8_ring_76 rfl ?_
        refine st_iald g dX8_ring_78 H (fun v8 H => ?_)
        refine st_ishl g dX8_ring_79 ?_
        refine st_ior g dX8_ring_80 ?_
        refine st_istore g dX8_ring_81 (Nat.le_of_ble_eq_true rfl) rfl (ls2 := [.ref 53, .int a1, .int a2, .int a3, .int a4, .int (s.1 ||| ((1 : Int32) <<< (v8 &&& 31))), .int s.2]) rfl ?_
        refine st_iinc g dX8_ring_83 rfl (ii_1 _) (Nat.le_of_ble_eq_true rfl) rfl (ls2 := [.ref 53, .int a1, .int a2, .int a3, .int a4, .int (s.1 ||| ((1 : Int32) <<< (v8 &&& 31))), .int (s.2 + 1)]) rfl ?_
        refine st_goto g dX8_ring_86 (tgt := 35) (by decide) ?_
        obtain rfl := Option.some.inj H
        exact K
def b_X8_ring_20 (a2 : Int32) (h : Hp) (s : (Int32 × Int32 × Int32)) : Option ((Int32 × Int32 × Int32) ⊕ (Int32 × Int32 × Int32)) :=
  if (h.1 53 1) < s.2.2 then
    some (.inr (s.1, s.2.1, s.2.2))
  else
    (iter (b_X8_ring_35 s.1 a2 s.2.1 s.2.2 h) FU (0, 0)).bind fun a9 =>
    if ((a9.1 >>> (a2 &&& 31)) &&& 1) = 1 then
      if s.1 = (-2) then
        some (.inl (s.2.2, a9.1, s.2.2 + 1))
      else
        if s.1 ≤ s.2.2 then
          some (.inl (s.1, a9.1, s.2.2 + 1))
        else
          some (.inl (s.2.2, a9.1, s.2.2 + 1))
    else
      some (.inl (s.1, a9.1, s.2.2 + 1))
theorem tb_X8_ring_20 {x : Cx} (g : Gx x RX8 cX8_ring 7 1) (a2 : Int32) (h : Hp) (s : (Int32 × Int32 × Int32)) (out : (Int32 × Int32 × Int32) ⊕ (Int32 × Int32 × Int32)) (H : b_X8_ring_20 a2 h s = some out) (K : Sum.elim (P_X8_ring_20 x a2 h) (E_X8_ring_20 x a2 h) out) : P_X8_ring_20 x a2 h s := by
  unfold b_X8_ring_20 at H
  show WA x 20 [.ref 53, .int s.1, .int a2, .int s.2.1, .int s.2.2, .null, .null] [] h
  refine st_iload g dX8_ring_20 rfl ?_
  refine st_aload_n g dX8_ring_22 rfl ?_
  refine gf_X8_113 g dX8_ring_23 rfl ?_
  refine st_ic_gt g dX8_ring_26 (tgt := 123) (by decide) H (fun q2 H => ?_) (fun q2 H => ?_)
  · obtain rfl := Option.some.inj H
    exact (wa_drop [3, 4] K)
  · refine st_iconst g dX8_ring_29 ic_0 ?_
    refine st_istore g dX8_ring_30 (Nat.le_of_ble_eq_true rfl) rfl (ls2 := [.ref 53, .int s.1, .int a2, .int s.2.1, .int s.2.2, .int 0, .null]) rfl ?_
    refine st_iconst g dX8_ring_32 ic_0 ?_
    refine st_istore g dX8_ring_33 (Nat.le_of_ble_eq_true rfl) rfl (ls2 := [.ref 53, .int s.1, .int a2, .int s.2.1, .int s.2.2, .int 0, .int 0]) rfl ?_
    show P_X8_ring_35 x s.1 a2 s.2.1 s.2.2 h (0, 0)
    obtain ⟨a9, ha9, H⟩ := bind_some H
    refine iter_W (P := P_X8_ring_35 x s.1 a2 s.2.1 s.2.2 h) (E := E_X8_ring_35 x s.1 a2 s.2.1 s.2.2 h) (fun s9 o9 ho9 hK9 => tb_X8_ring_35 g s.1 a2 s.2.1 s.2.2 h s9 o9 ho9 hK9) FU _ a9 ha9 ?_
    show WA x 89 [.ref 53, .int s.1, .int a2, .null, .int s.2.2, .int a9.1, .null] [] h
    refine st_iload g dX8_ring_89 rfl ?_
    refine st_iload_n g dX8_ring_91 rfl ?_
    refine st_ishr g dX8_ring_92 ?_
    refine st_iconst g dX8_ring_93 ic_1 ?_
    refine st_iand g dX8_ring_94 ?_
    refine st_iconst g dX8_ring_95 ic_1 ?_
    refine st_ic_ne g dX8_ring_96 (tgt := 114) (by decide) H (fun q10 H => ?_) (fun q10 H => ?_)
    · refine st_iload g dX8_ring_114 rfl ?_
      refine st_istore_n g dX8_ring_116 (Nat.le_of_ble_eq_true rfl) rfl (ls2 := [.ref 53, .int s.1, .int a2, .int a9.1, .int s.2.2, .int a9.1, .null]) rfl ?_
      refine st_iinc g dX8_ring_117 rfl (ii_1 _) (Nat.le_of_ble_eq_true rfl) rfl (ls2 := [.ref 53, .int s.1, .int a2, .int a9.1, .int (s.2.2 + 1), .int a9.1, .null]) rfl ?_
      refine st_goto g dX8_ring_120 (tgt := 20) (by decide) ?_
      obtain rfl := Option.some.inj H
      exact (wa_drop [5] K)
    · refine st_iload_n g dX8_ring_99 rfl ?_
      refine st_bipush g dX8_ring_100 bi_m2 ?_
      refine st_ic_eq g dX8_ring_102 (tgt := 111) (by decide) H (fun q11 H => ?_) (fun q11 H => ?_)
      · refine st_iload g dX8_ring_111 rfl ?_
        refine st_istore_n g dX8_ring_113 (Nat.le_of_ble_eq_true rfl) rfl (ls2 := [.ref 53, .int s.2.2, .int a2, .null, .int s.2.2, .int a9.1, .null]) rfl ?_
        refine st_iload g dX8_ring_114 rfl ?_
        refine st_istore_n g dX8_ring_116 (Nat.le_of_ble_eq_true rfl) rfl (ls2 := [.ref 53, .int s.2.2, .int a2, .int a9.1, .int s.2.2, .int a9.1, .null]) rfl ?_
        refine st_iinc g dX8_ring_117 rfl (ii_1 _) (Nat.le_of_ble_eq_true rfl) rfl (ls2 := [.ref 53, .int s.2.2, .int a2, .int a9.1, .int (s.2.2 + 1), .int a9.1, .null]) rfl ?_
        refine st_goto g dX8_ring_120 (tgt := 20) (by decide) ?_
        obtain rfl := Option.some.inj H
        exact (wa_drop [5] K)
      · refine st_iload g dX8_ring_105 rfl ?_
        refine st_iload_n g dX8_ring_107 rfl ?_
        refine st_ic_ge g dX8_ring_108 (tgt := 114) (by decide) H (fun q12 H => ?_) (fun q12 H => ?_)
        · refine st_iload g dX8_ring_114 rfl ?_
          refine st_istore_n g dX8_ring_116 (Nat.le_of_ble_eq_true rfl) rfl (ls2 := [.ref 53, .int s.1, .int a2, .int a9.1, .int s.2.2, .int a9.1, .null]) rfl ?_
          refine st_iinc g dX8_ring_117 rfl (ii_1 _) (Nat.le_of_ble_eq_true rfl) rfl (ls2 := [.ref 53, .int s.1, .int a2, .int a9.1, .int (s.2.2 + 1), .int a9.1, .null]) rfl ?_
          refine st_goto g dX8_ring_120 (tgt := 20) (by decide) ?_
          obtain rfl := Option.some.inj H
          exact (wa_drop [5] K)
        · refine st_iload g dX8_ring_111 rfl ?_
          refine st_istore_n g dX8_ring_113 (Nat.le_of_ble_eq_true rfl) rfl (ls2 := [.ref 53, .int s.2.2, .int a2, .null, .int s.2.2, .int a9.1, .null]) rfl ?_
          refine st_iload g dX8_ring_114 rfl ?_
          refine st_istore_n g dX8_ring_116 (Nat.le_of_ble_eq_true rfl) rfl (ls2 := [.ref 53, .int s.2.2, .int a2, .int a9.1, .int s.2.2, .int a9.1, .null]) rfl ?_
          refine st_iinc g dX8_ring_117 rfl (ii_1 _) (Nat.le_of_ble_eq_true rfl) rfl (ls2 := [.ref 53, .int s.2.2, .int a2, .int a9.1, .int (s.2.2 + 1), .int a9.1, .null]) rfl ?_
          refine st_goto g dX8_ring_120 (tgt := 20) (by decide) ?_
          obtain rfl := Option.some.inj H
          exact (wa_drop [5] K)
def b_X8_ring_5 (h : Hp) (s : (Int32 × Int32)) : Option ((Int32 × Int32) ⊕ (Int32 × Int32)) :=
  if (h.1 53 1) ≤ s.2 then
    some (.inr (s.1, s.2))
  else
    (iter (b_X8_ring_20 s.2 h) FU (s.1, (1 : Int32) <<< (s.2 &&& 31), 1)).bind fun a13 =>
    some (.inl (a13.1, s.2 + 1))
theorem tb_X8_ring_5 {x : Cx} (g : Gx x RX8 cX8_ring 7 1) (h : Hp) (s : (Int32 × Int32)) (out : (Int32 × Int32) ⊕ (Int32 × Int32)) (H : b_X8_ring_5 h s = some out) (K : Sum.elim (P_X8_ring_5 x h) (E_X8_ring_5 x h) out) : P_X8_ring_5 x h s := by
  unfold b_X8_ring_5 at H
  show WA x 5 [.ref 53, .int s.1, .int s.2, .null, .null, .null, .null] [] h
  refine st_iload_n g dX8_ring_5 rfl ?_
  refine st_aload_n g dX8_ring_6 rfl ?_
  refine gf_X8_113 g dX8_ring_7 rfl ?_
  refine st_ic_ge g dX8_ring_10 (tgt := 129) (by decide) H (fun q1 H => ?_) (fun q1 H => ?_)
  · obtain rfl := Option.some.inj H
    exact (wa_drop [0, 2] K)
  · refine st_iconst g dX8_ring_13 ic_1 ?_
    refine st_iload_n g dX8_ring_14 rfl ?_
    refine st_ishl g dX8_ring_15 ?_
    refine st_istore_n g dX8_ring_16 (Nat.le_of_ble_eq_true rfl) rfl (ls2 := [.ref 53, .int s.1, .int s.2, .int ((1 : Int32) <<< (s.2 &&& 31)), .null, .null, .null]) rfl ?_
    refine st_iconst g dX8_ring_17 ic_1 ?_
    refine st_istore g dX8_ring_18 (Nat.le_of_ble_eq_true rfl) rfl (ls2 := [.ref 53, .int s.1, .int s.2, .int ((1 : Int32) <<< (s.2 &&& 31)), .int 1, .null, .null]) rfl ?_
    show P_X8_ring_20 x s.2 h (s.1, (1 : Int32) <<< (s.2 &&& 31), 1)
    obtain ⟨a13, ha13, H⟩ := bind_some H
    refine iter_W (P := P_X8_ring_20 x s.2 h) (E := E_X8_ring_20 x s.2 h) (fun s9 o9 ho9 hK9 => tb_X8_ring_20 g s.2 h s9 o9 ho9 hK9) FU _ a13 ha13 ?_
    show WA x 123 [.ref 53, .int a13.1, .int s.2, .null, .null, .null, .null] [] h
    refine st_iinc g dX8_ring_123 rfl (ii_1 _) (Nat.le_of_ble_eq_true rfl) rfl (ls2 := [.ref 53, .int a13.1, .int (s.2 + 1), .null, .null, .null, .null]) rfl ?_
    refine st_goto g dX8_ring_126 (tgt := 5) (by decide) ?_
    obtain rfl := Option.some.inj H
    exact K
def f_X8_ring (h : Hp) : Option Int32 :=
  (iter (b_X8_ring_5 h) FU ((-2), 0)).bind fun a14 =>
  some a14.1
theorem t_X8_ring {x : Cx} (g : Gx x RX8 cX8_ring 7 1) (h : Hp) (out : Int32) (H : f_X8_ring h = some out) (K : RtI x .int out h) : WA x 0 [.ref 53, .null, .null, .null, .null, .null, .null] [] h := by
  unfold f_X8_ring at H
  refine st_bipush g dX8_ring_0 bi_m2 ?_
  refine st_istore_n g dX8_ring_2 (Nat.le_of_ble_eq_true rfl) rfl (ls2 := [.ref 53, .int (-2), .null, .null, .null, .null, .null]) rfl ?_
  refine st_iconst g dX8_ring_3 ic_0 ?_
  refine st_istore_n g dX8_ring_4 (Nat.le_of_ble_eq_true rfl) rfl (ls2 := [.ref 53, .int (-2), .int 0, .null, .null, .null, .null]) rfl ?_
  show P_X8_ring_5 x h ((-2), 0)
  obtain ⟨a14, ha14, H⟩ := bind_some H
  refine iter_W (P := P_X8_ring_5 x h) (E := E_X8_ring_5 x h) (fun s9 o9 ho9 hK9 => tb_X8_ring_5 g h s9 o9 ho9 hK9) FU _ a14 ha14 ?_
  show WA x 129 [.null, .int a14.1, .null, .null, .null, .null, .null] [] h
  refine st_iload_n g dX8_ring_129 rfl ?_
  obtain rfl := Option.some.inj H
  exact st_iret g dX8_ring_130 rfl (fun q => by cases q) K
theorem c_X8_ring (h : Hp) (r : Int32) (H : f_X8_ring h = some r) : CtI yX8_ring cX8_ring 7 .int 1 [.ref 53] h r h :=
  ct_ofI (own := RX8) [.ref 53, .null, .null, .null, .null, .null, .null] (by decide +kernel) rfl (fun ρ => Nat.le_of_ble_eq_true rfl) (fun ρ => rfl) (fun x g K => t_X8_ring g h r H K)
