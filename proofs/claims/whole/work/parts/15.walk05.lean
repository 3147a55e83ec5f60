def f_X8_later (a1 : Int32) (a2 : Int32) (a3 : Int32) (h : Hp) : Option (Int32 × Hp) :=
  (f_X8_isShelf a1).bind fun r1 =>
  if r1 = 0 then
    some ((-1), h)
  else
    (f_X8_within a2 0 40).bind fun r3 =>
    if r3 = 0 then
      some ((-1), h)
    else
      (f_X8_isHouse a3).bind fun r5 =>
      if r5 = 0 then
        some ((-1), h)
      else
        (f_X8_noCalls a1 h).bind fun r7 =>
        if 0 ≤ r7 then
          (f_X8_keeps 82 h).bind fun r9 =>
          (f_X8_goes a1 a2 r9).bind fun r10 =>
          (rdI r10.2 54 a3).bind fun v11 =>
          (f_X8_laysBack 82 r10.2).bind fun r12 =>
          some (v11, r12)
        else
          some (r7, h)
theorem t_X8_later {x : Cx} (g : Gx x RX8 cX8_later 6 7) (a1 : Int32) (a2 : Int32) (a3 : Int32) (h : Hp) (out : (Int32 × Hp)) (H : f_X8_later a1 a2 a3 h = some out) (K : RtI x .int out.1 out.2) : WA x 0 [.ref 53, .int a1, .int a2, .int a3, .null, .null] [] h := by
  unfold f_X8_later at H
  refine st_iload_n g dX8_later_0 rfl ?_
  obtain ⟨r1, hr1, H⟩ := bind_some H
  refine st_callSI g (as := [.int a1]) dX8_later_1 ml_X8_137 mf_X8_isShelf rfl (Nat.le_of_ble_eq_true rfl) (Nat.le_of_ble_eq_true rfl) (c_X8_isShelf a1 h _ hr1) (fun hz => ?_)
  have br1 := hz rfl
  refine st_if_eq g dX8_later_4 (tgt := 24) (by decide) H (fun q2 H => ?_) (fun q2 H => ?_)
  · refine st_iconst g dX8_later_24 ic_m1 ?_
    obtain rfl := Option.some.inj H
    exact st_iret g dX8_later_25 rfl (fun q => by cases q) K
  · refine st_iload_n g dX8_later_7 rfl ?_
    refine st_iconst g dX8_later_8 ic_0 ?_
    refine st_bipush g dX8_later_9 bi_40 ?_
    obtain ⟨r3, hr3, H⟩ := bind_some H
    refine st_callSI g (as := [.int a2, .int 0, .int 40]) dX8_later_11 ml_X8_109 mf_X8_within rfl (Nat.le_of_ble_eq_true rfl) (Nat.le_of_ble_eq_true rfl) (c_X8_within a2 0 40 h _ hr3) (fun hz => ?_)
    have br3 := hz rfl
    refine st_if_eq g dX8_later_14 (tgt := 24) (by decide) H (fun q4 H => ?_) (fun q4 H => ?_)
    · refine st_iconst g dX8_later_24 ic_m1 ?_
      obtain rfl := Option.some.inj H
      exact st_iret g dX8_later_25 rfl (fun q => by cases q) K
    · refine st_iload_n g dX8_later_17 rfl ?_
      obtain ⟨r5, hr5, H⟩ := bind_some H
      refine st_callSI g (as := [.int a3]) dX8_later_18 ml_X8_120 mf_X8_isHouse rfl (Nat.le_of_ble_eq_true rfl) (Nat.le_of_ble_eq_true rfl) (c_X8_isHouse a3 h _ hr5) (fun hz => ?_)
      have br5 := hz rfl
      refine st_if_ne g dX8_later_21 (tgt := 26) (by decide) H (fun q6 H => ?_) (fun q6 H => ?_)
      · refine st_aload_n g dX8_later_26 rfl ?_
        refine st_iload_n g dX8_later_27 rfl ?_
        obtain ⟨r7, hr7, H⟩ := bind_some H
        refine st_callVI g (as := [.int a1]) dX8_later_28 rfl rfl ml_X8_263 mf_X8_noCalls rfl (Nat.le_of_ble_eq_true rfl) (Nat.le_of_ble_eq_true rfl) (c_X8_noCalls a1 h _ hr7) (fun hz => ?_)
        refine st_istore g dX8_later_31 (Nat.le_of_ble_eq_true rfl) rfl (ls2 := [.ref 53, .int a1, .int a2, .int a3, .int r7, .null]) rfl ?_
        refine st_iload g dX8_later_33 rfl ?_
        refine st_if_ge g dX8_later_35 (tgt := 41) (by decide) H (fun q8 H => ?_) (fun q8 H => ?_)
        · refine st_aload_n g dX8_later_41 rfl ?_
          refine st_aload_n g dX8_later_42 rfl ?_
          refine gf_X8_97 g dX8_later_43 rfl (r := 82) rfl ?_
          obtain ⟨r9, hr9, H⟩ := bind_some H
          refine st_callVV g (as := [.ref 82]) dX8_later_46 rfl rfl ml_X8_266 mf_X8_keeps rfl (Nat.le_of_ble_eq_true rfl) (Nat.le_of_ble_eq_true rfl) (c_X8_keeps 82 h _ hr9) ?_
          refine st_aload_n g dX8_later_49 rfl ?_
          refine st_iload_n g dX8_later_50 rfl ?_
          refine st_iload_n g dX8_later_51 rfl ?_
          obtain ⟨r10, hr10, H⟩ := bind_some H
          refine st_callVI g (as := [.int a1, .int a2]) dX8_later_52 rfl rfl ml_X8_270 mf_X8_goes rfl (Nat.le_of_ble_eq_true rfl) (Nat.le_of_ble_eq_true rfl) (c_X8_goes a1 a2 r9 _ hr10) (fun hz => ?_)
          refine st_pop g dX8_later_55 rfl ?_
          refine st_aload_n g dX8_later_56 rfl ?_
          refine gf_X8_9 g dX8_later_57 rfl (r := 54) rfl ?_
          refine st_iload_n g dX8_later_60 rfl ?_
          refine st_iald g dX8_later_61 H (fun v11 H => ?_)
          refine st_istore g dX8_later_62 (Nat.le_of_ble_eq_true rfl) rfl (ls2 := [.ref 53, .int a1, .int a2, .int a3, .int r7, .int v11]) rfl ?_
          refine st_aload_n g dX8_later_64 rfl ?_
          refine st_aload_n g dX8_later_65 rfl ?_
          refine gf_X8_97 g dX8_later_66 rfl (r := 82) rfl ?_
          obtain ⟨r12, hr12, H⟩ := bind_some H
          refine st_callVV g (as := [.ref 82]) dX8_later_69 rfl rfl ml_X8_273 mf_X8_laysBack rfl (Nat.le_of_ble_eq_true rfl) (Nat.le_of_ble_eq_true rfl) (c_X8_laysBack 82 r10.2 _ hr12) ?_
          refine st_iload g dX8_later_72 rfl ?_
          obtain rfl := Option.some.inj H
          exact st_iret g dX8_later_74 rfl (fun q => by cases q) K
        · refine st_iload g dX8_later_38 rfl ?_
          obtain rfl := Option.some.inj H
          exact st_iret g dX8_later_40 rfl (fun q => by cases q) K
      · refine st_iconst g dX8_later_24 ic_m1 ?_
        obtain rfl := Option.some.inj H
        exact st_iret g dX8_later_25 rfl (fun q => by cases q) K
theorem c_X8_later (a1 : Int32) (a2 : Int32) (a3 : Int32) (h : Hp) (r : (Int32 × Hp)) (H : f_X8_later a1 a2 a3 h = some r) : CtI yX8_later cX8_later 6 .int 7 [.ref 53, .int a1, .int a2, .int a3] h r.1 r.2 :=
  ct_ofI (own := RX8) [.ref 53, .int a1, .int a2, .int a3, .null, .null] (by decide +kernel) rfl (fun ρ => Nat.le_of_ble_eq_true rfl) (fun ρ => rfl) (fun x g K => t_X8_later g a1 a2 a3 h r H K)
def f_X8_street (a1 : Int32) (a2 : Int32) (a3 : Int32) (h : Hp) : Option (Int32 × Hp) :=
  (f_X8_isShelf a1).bind fun r1 =>
  if r1 = 0 then
    some ((-1), h)
  else
    (f_X8_within a2 0 40).bind fun r3 =>
    if r3 = 0 then
      some ((-1), h)
    else
      (f_X8_within a3 0 3).bind fun r5 =>
      if r5 = 0 then
        some ((-1), h)
      else
        (f_X8_noCalls a1 h).bind fun r7 =>
        if 0 ≤ r7 then
          (f_X8_keeps 82 h).bind fun r9 =>
          (f_X8_goes a1 a2 r9).bind fun r10 =>
          if a3 = 0 then
            (f_X8_allForgiven r10.2).bind fun r19 =>
            (f_X8_laysBack 82 r10.2).bind fun r20 =>
            some (r19, r20)
          else
            if a3 = 1 then
              (f_X8_allNumbers r10.2).bind fun r17 =>
              (f_X8_laysBack 82 r10.2).bind fun r18 =>
              some (r17, r18)
            else
              if a3 = 2 then
                (f_X8_laysBack 82 r10.2).bind fun r16 =>
                some (r10.1, r16)
              else
                (f_X8_alike r10.2).bind fun r14 =>
                (f_X8_laysBack 82 r10.2).bind fun r15 =>
                some (r14, r15)
        else
          some (r7, h)
theorem t_X8_street {x : Cx} (g : Gx x RX8 cX8_street 7 7) (a1 : Int32) (a2 : Int32) (a3 : Int32) (h : Hp) (out : (Int32 × Hp)) (H : f_X8_street a1 a2 a3 h = some out) (K : RtI x .int out.1 out.2) : WA x 0 [.ref 53, .int a1, .int a2, .int a3, .null, .null, .null] [] h := by
  unfold f_X8_street at H
  refine st_iload_n g dX8_street_0 rfl ?_
  obtain ⟨r1, hr1, H⟩ := bind_some H
  refine st_callSI g (as := [.int a1]) dX8_street_1 ml_X8_137 mf_X8_isShelf rfl (Nat.le_of_ble_eq_true rfl) (Nat.le_of_ble_eq_true rfl) (c_X8_isShelf a1 h _ hr1) (fun hz => ?_)
  have br1 := hz rfl
  refine st_if_eq g dX8_street_4 (tgt := 26) (by decide) H (fun q2 H => ?_) (fun q2 H => ?_)
  · refine st_iconst g dX8_street_26 ic_m1 ?_
    obtain rfl := Option.some.inj H
    exact st_iret g dX8_street_27 rfl (fun q => by cases q) K
  · refine st_iload_n g dX8_street_7 rfl ?_
    refine st_iconst g dX8_street_8 ic_0 ?_
    refine st_bipush g dX8_street_9 bi_40 ?_
    obtain ⟨r3, hr3, H⟩ := bind_some H
    refine st_callSI g (as := [.int a2, .int 0, .int 40]) dX8_street_11 ml_X8_109 mf_X8_within rfl (Nat.le_of_ble_eq_true rfl) (Nat.le_of_ble_eq_true rfl) (c_X8_within a2 0 40 h _ hr3) (fun hz => ?_)
    have br3 := hz rfl
    refine st_if_eq g dX8_street_14 (tgt := 26) (by decide) H (fun q4 H => ?_) (fun q4 H => ?_)
    · refine st_iconst g dX8_street_26 ic_m1 ?_
      obtain rfl := Option.some.inj H
      exact st_iret g dX8_street_27 rfl (fun q => by cases q) K
    · refine st_iload_n g dX8_street_17 rfl ?_
      refine st_iconst g dX8_street_18 ic_0 ?_
      refine st_iconst g dX8_street_19 ic_3 ?_
      obtain ⟨r5, hr5, H⟩ := bind_some H
      refine st_callSI g (as := [.int a3, .int 0, .int 3]) dX8_street_20 ml_X8_109 mf_X8_within rfl (Nat.le_of_ble_eq_true rfl) (Nat.le_of_ble_eq_true rfl) (c_X8_within a3 0 3 h _ hr5) (fun hz => ?_)
      have br5 := hz rfl
      refine st_if_ne g dX8_street_23 (tgt := 28) (by decide) H (fun q6 H => ?_) (fun q6 H => ?_)
      · refine st_aload_n g dX8_street_28 rfl ?_
        refine st_iload_n g dX8_street_29 rfl ?_
        obtain ⟨r7, hr7, H⟩ := bind_some H
        refine st_callVI g (as := [.int a1]) dX8_street_30 rfl rfl ml_X8_263 mf_X8_noCalls rfl (Nat.le_of_ble_eq_true rfl) (Nat.le_of_ble_eq_true rfl) (c_X8_noCalls a1 h _ hr7) (fun hz => ?_)
        refine st_istore g dX8_street_33 (Nat.le_of_ble_eq_true rfl) rfl (ls2 := [.ref 53, .int a1, .int a2, .int a3, .int r7, .null, .null]) rfl ?_
        refine st_iload g dX8_street_35 rfl ?_
        refine st_if_ge g dX8_street_37 (tgt := 43) (by decide) H (fun q8 H => ?_) (fun q8 H => ?_)
        · refine st_aload_n g dX8_street_43 rfl ?_
          refine st_aload_n g dX8_street_44 rfl ?_
          refine gf_X8_97 g dX8_street_45 rfl (r := 82) rfl ?_
          obtain ⟨r9, hr9, H⟩ := bind_some H
          refine st_callVV g (as := [.ref 82]) dX8_street_48 rfl rfl ml_X8_266 mf_X8_keeps rfl (Nat.le_of_ble_eq_true rfl) (Nat.le_of_ble_eq_true rfl) (c_X8_keeps 82 h _ hr9) ?_
          refine st_aload_n g dX8_street_51 rfl ?_
          refine st_iload_n g dX8_street_52 rfl ?_
          refine st_iload_n g dX8_street_53 rfl ?_
          obtain ⟨r10, hr10, H⟩ := bind_some H
          refine st_callVI g (as := [.int a1, .int a2]) dX8_street_54 rfl rfl ml_X8_270 mf_X8_goes rfl (Nat.le_of_ble_eq_true rfl) (Nat.le_of_ble_eq_true rfl) (c_X8_goes a1 a2 r9 _ hr10) (fun hz => ?_)
          refine st_istore g dX8_street_57 (Nat.le_of_ble_eq_true rfl) rfl (ls2 := [.ref 53, .int a1, .int a2, .int a3, .int r7, .int r10.1, .null]) rfl ?_
          refine st_iload_n g dX8_street_59 rfl ?_
          refine st_if_ne g dX8_street_60 (tgt := 70) (by decide) H (fun q11 H => ?_) (fun q11 H => ?_)
          · refine st_iload_n g dX8_street_70 rfl ?_
            refine st_iconst g dX8_street_71 ic_1 ?_
            refine st_ic_ne g dX8_street_72 (tgt := 82) (by decide) H (fun q12 H => ?_) (fun q12 H => ?_)
            · refine st_iload_n g dX8_street_82 rfl ?_
              refine st_iconst g dX8_street_83 ic_2 ?_
              refine st_ic_ne g dX8_street_84 (tgt := 92) (by decide) H (fun q13 H => ?_) (fun q13 H => ?_)
              · refine st_aload_n g dX8_street_92 rfl ?_
                obtain ⟨r14, hr14, H⟩ := bind_some H
                refine st_callVI g (as := []) dX8_street_93 rfl rfl ml_X8_282 mf_X8_alike rfl (Nat.le_of_ble_eq_true rfl) (Nat.le_of_ble_eq_true rfl) (c_X8_alike r10.2 _ hr14) (fun hz => ?_)
                refine st_istore g dX8_street_96 (Nat.le_of_ble_eq_true rfl) rfl (ls2 := [.ref 53, .int a1, .int a2, .int a3, .int r7, .int r10.1, .int r14]) rfl ?_
                refine st_aload_n g dX8_street_98 rfl ?_
                refine st_aload_n g dX8_street_99 rfl ?_
                refine gf_X8_97 g dX8_street_100 rfl (r := 82) rfl ?_
                obtain ⟨r15, hr15, H⟩ := bind_some H
                refine st_callVV g (as := [.ref 82]) dX8_street_103 rfl rfl ml_X8_273 mf_X8_laysBack rfl (Nat.le_of_ble_eq_true rfl) (Nat.le_of_ble_eq_true rfl) (c_X8_laysBack 82 r10.2 _ hr15) ?_
                refine st_iload g dX8_street_106 rfl ?_
                obtain rfl := Option.some.inj H
                exact st_iret g dX8_street_108 rfl (fun q => by cases q) K
              · refine st_iload g dX8_street_87 rfl ?_
                refine st_goto g dX8_street_89 (tgt := 96) (by decide) ?_
                refine st_istore g dX8_street_96 (Nat.le_of_ble_eq_true rfl) rfl (ls2 := [.ref 53, .int a1, .int a2, .int a3, .int r7, .int r10.1, .int r10.1]) rfl ?_
                refine st_aload_n g dX8_street_98 rfl ?_
                refine st_aload_n g dX8_street_99 rfl ?_
                refine gf_X8_97 g dX8_street_100 rfl (r := 82) rfl ?_
                obtain ⟨r16, hr16, H⟩ := bind_some H
                refine st_callVV g (as := [.ref 82]) dX8_street_103 rfl rfl ml_X8_273 mf_X8_laysBack rfl (Nat.le_of_ble_eq_true rfl) (Nat.le_of_ble_eq_true rfl) (c_X8_laysBack 82 r10.2 _ hr16) ?_
                refine st_iload g dX8_street_106 rfl ?_
                obtain rfl := Option.some.inj H
                exact st_iret g dX8_street_108 rfl (fun q => by cases q) K
            · refine st_aload_n g dX8_street_75 rfl ?_
              obtain ⟨r17, hr17, H⟩ := bind_some H
              refine st_callVI g (as := []) dX8_street_76 rfl rfl ml_X8_279 mf_X8_allNumbers rfl (Nat.le_of_ble_eq_true rfl) (Nat.le_of_ble_eq_true rfl) (c_X8_allNumbers r10.2 _ hr17) (fun hz => ?_)
              refine st_goto g dX8_street_79 (tgt := 96) (by decide) ?_
              refine st_istore g dX8_street_96 (Nat.le_of_ble_eq_true rfl) rfl (ls2 := [.ref 53, .int a1, .int a2, .int a3, .int r7, .int r10.1, .int r17]) rfl ?_
              refine st_aload_n g dX8_street_98 rfl ?_
              refine st_aload_n g dX8_street_99 rfl ?_
              refine gf_X8_97 g dX8_street_100 rfl (r := 82) rfl ?_
              obtain ⟨r18, hr18, H⟩ := bind_some H
              refine st_callVV g (as := [.ref 82]) dX8_street_103 rfl rfl ml_X8_273 mf_X8_laysBack rfl (Nat.le_of_ble_eq_true rfl) (Nat.le_of_ble_eq_true rfl) (c_X8_laysBack 82 r10.2 _ hr18) ?_
              refine st_iload g dX8_street_106 rfl ?_
              obtain rfl := Option.some.inj H
              exact st_iret g dX8_street_108 rfl (fun q => by cases q) K
          · refine st_aload_n g dX8_street_63 rfl ?_
            obtain ⟨r19, hr19, H⟩ := bind_some H
            refine st_callVI g (as := []) dX8_street_64 rfl rfl ml_X8_276 mf_X8_allForgiven rfl (Nat.le_of_ble_eq_true rfl) (Nat.le_of_ble_eq_true rfl) (c_X8_allForgiven r10.2 _ hr19) (fun hz => ?_)
            refine st_goto g dX8_street_67 (tgt := 96) (by decide) ?_
            refine st_istore g dX8_street_96 (Nat.le_of_ble_eq_true rfl) rfl (ls2 := [.ref 53, .int a1, .int a2, .int a3, .int r7, .int r10.1, .int r19]) rfl ?_
            refine st_aload_n g dX8_street_98 rfl ?_
            refine st_aload_n g dX8_street_99 rfl ?_
            refine gf_X8_97 g dX8_street_100 rfl (r := 82) rfl ?_
            obtain ⟨r20, hr20, H⟩ := bind_some H
            refine st_callVV g (as := [.ref 82]) dX8_street_103 rfl rfl ml_X8_273 mf_X8_laysBack rfl (Nat.le_of_ble_eq_true rfl) (Nat.le_of_ble_eq_true rfl) (c_X8_laysBack 82 r10.2 _ hr20) ?_
            refine st_iload g dX8_street_106 rfl ?_
            obtain rfl := Option.some.inj H
            exact st_iret g dX8_street_108 rfl (fun q => by cases q) K
        · refine st_iload g dX8_street_40 rfl ?_
          obtain rfl := Option.some.inj H
          exact st_iret g dX8_street_42 rfl (fun q => by cases q) K
      · refine st_iconst g dX8_street_26 ic_m1 ?_
        obtain rfl := Option.some.inj H
        exact st_iret g dX8_street_27 rfl (fun q => by cases q) K
theorem c_X8_street (a1 : Int32) (a2 : Int32) (a3 : Int32) (h : Hp) (r : (Int32 × Hp)) (H : f_X8_street a1 a2 a3 h = some r) : CtI yX8_street cX8_street 7 .int 7 [.ref 53, .int a1, .int a2, .int a3] h r.1 r.2 :=
  ct_ofI (own := RX8) [.ref 53, .int a1, .int a2, .int a3, .null, .null, .null] (by decide +kernel) rfl (fun ρ => Nat.le_of_ble_eq_true rfl) (fun ρ => rfl) (fun x g K => t_X8_street g a1 a2 a3 h r H K)
def f_X8_judge (a1 : Int32) (a2 : Int32) (h : Hp) : Option (Int32 × Hp) :=
  (f_X8_noRows a1 h).bind fun r1 =>
  if r1 = (-1) then
    some ((-1), h)
  else
    (f_X8_isHouse a2).bind fun r3 =>
    if r3 = 0 then
      some ((-1), h)
    else
      if 0 ≤ r1 then
        (f_X8_unlike a1 a2 h).bind fun r6 =>
        some (r6.1, r6.2)
      else
        some (r1, h)
theorem t_X8_judge {x : Cx} (g : Gx x RX8 cX8_judge 4 7) (a1 : Int32) (a2 : Int32) (h : Hp) (out : (Int32 × Hp)) (H : f_X8_judge a1 a2 h = some out) (K : RtI x .int out.1 out.2) : WA x 0 [.ref 53, .int a1, .int a2, .null] [] h := by
  unfold f_X8_judge at H
  refine st_aload_n g dX8_judge_0 rfl ?_
  refine st_iload_n g dX8_judge_1 rfl ?_
  obtain ⟨r1, hr1, H⟩ := bind_some H
  refine st_callVI g (as := [.int a1]) dX8_judge_2 rfl rfl ml_X8_308 mf_X8_noRows rfl (Nat.le_of_ble_eq_true rfl) (Nat.le_of_ble_eq_true rfl) (c_X8_noRows a1 h _ hr1) (fun hz => ?_)
  refine st_istore_n g dX8_judge_5 (Nat.le_of_ble_eq_true rfl) rfl (ls2 := [.ref 53, .int a1, .int a2, .int r1]) rfl ?_
  refine st_iload_n g dX8_judge_6 rfl ?_
  refine st_iconst g dX8_judge_7 ic_m1 ?_
  refine st_ic_eq g dX8_judge_8 (tgt := 18) (by decide) H (fun q2 H => ?_) (fun q2 H => ?_)
  · refine st_iconst g dX8_judge_18 ic_m1 ?_
    obtain rfl := Option.some.inj H
    exact st_iret g dX8_judge_19 rfl (fun q => by cases q) K
  · refine st_iload_n g dX8_judge_11 rfl ?_
    obtain ⟨r3, hr3, H⟩ := bind_some H
    refine st_callSI g (as := [.int a2]) dX8_judge_12 ml_X8_120 mf_X8_isHouse rfl (Nat.le_of_ble_eq_true rfl) (Nat.le_of_ble_eq_true rfl) (c_X8_isHouse a2 h _ hr3) (fun hz => ?_)
    have br3 := hz rfl
    refine st_if_ne g dX8_judge_15 (tgt := 20) (by decide) H (fun q4 H => ?_) (fun q4 H => ?_)
    · refine st_iload_n g dX8_judge_20 rfl ?_
      refine st_if_ge g dX8_judge_21 (tgt := 28) (by decide) H (fun q5 H => ?_) (fun q5 H => ?_)
      · refine st_aload_n g dX8_judge_28 rfl ?_
        refine st_iload_n g dX8_judge_29 rfl ?_
        refine st_iload_n g dX8_judge_30 rfl ?_
        obtain ⟨r6, hr6, H⟩ := bind_some H
        refine st_callVI g (as := [.int a1, .int a2]) dX8_judge_31 rfl rfl ml_X8_311 mf_X8_unlike rfl (Nat.le_of_ble_eq_true rfl) (Nat.le_of_ble_eq_true rfl) (c_X8_unlike a1 a2 h _ hr6) (fun hz => ?_)
        obtain rfl := Option.some.inj H
        exact st_iret g dX8_judge_34 rfl (fun q => by cases q) K
      · refine st_iload_n g dX8_judge_24 rfl ?_
        refine st_goto g dX8_judge_25 (tgt := 34) (by decide) ?_
        obtain rfl := Option.some.inj H
        exact st_iret g dX8_judge_34 rfl (fun q => by cases q) K
    · refine st_iconst g dX8_judge_18 ic_m1 ?_
      obtain rfl := Option.some.inj H
      exact st_iret g dX8_judge_19 rfl (fun q => by cases q) K
theorem c_X8_judge (a1 : Int32) (a2 : Int32) (h : Hp) (r : (Int32 × Hp)) (H : f_X8_judge a1 a2 h = some r) : CtI yX8_judge cX8_judge 4 .int 7 [.ref 53, .int a1, .int a2] h r.1 r.2 :=
  ct_ofI (own := RX8) [.ref 53, .int a1, .int a2, .null] (by decide +kernel) rfl (fun ρ => Nat.le_of_ble_eq_true rfl) (fun ρ => rfl) (fun x g K => t_X8_judge g a1 a2 h r H K)
def P_X8_fits_109 (x : Cx) (a1 : Int32) (a2 : Int32) (a3 : Int32) (a4 : Int32) (a6 : Int32) (a7 : Int32) (s : (Int32 × Int32 × Int32 × Hp)) : Prop := WA x 109 [.ref 53, .int a1, .int a2, .int a3, .int a4, .null, .int a6, .int a7, .int s.1, .int s.2.1, .int s.2.2.1] [] s.2.2.2
def E_X8_fits_109 (x : Cx) (a1 : Int32) (a2 : Int32) (a3 : Int32) (a4 : Int32) (a6 : Int32) (a7 : Int32) : (Int32 × Int32 × Int32 × Hp) → Prop := fun s : (Int32 × Int32 × Int32 × Hp) => WA x 161 [.ref 53, .null, .null, .int a3, .int a4, .null, .int a6, .int a7, .int s.1, .int s.2.1, .null] [] s.2.2.2
def j_X8_fits_122 (a1 : Int32) (a2 : Int32) (a3 : Int32) (a4 : Int32) (a6 : Int32) (a7 : Int32) (c8 : Int32) (c9 : Int32) (c10 : Int32) (t0 : Int32) (t1 : Int32) (h : Hp) : Option ((Int32 × Int32 × Int32 × Hp) ⊕ (Int32 × Int32 × Int32 × Hp)) :=
  if t1 < t0 then
    some (.inr (c8, c9, c10, h))
  else
    (f_X8_becomes a3 a6 c10 h).bind fun r16 =>
    (f_X8_unlike a1 a2 r16).bind fun r17 =>
    if r17.1 = (-2) then
      some (.inl (c8 + 1, c10, c10 - 1, r17.2))
    else
      some (.inl (c8, c9, c10 - 1, r17.2))
theorem tj_X8_fits_122 {x : Cx} (g : Gx x RX8 cX8_fits 11 7) (a1 : Int32) (a2 : Int32) (a3 : Int32) (a4 : Int32) (a6 : Int32) (a7 : Int32) (c8 : Int32) (c9 : Int32) (c10 : Int32) (t0 : Int32) (t1 : Int32) (h : Hp) (out : (Int32 × Int32 × Int32 × Hp) ⊕ (Int32 × Int32 × Int32 × Hp)) (H : j_X8_fits_122 a1 a2 a3 a4 a6 a7 c8 c9 c10 t0 t1 h = some out) (K : Sum.elim (P_X8_fits_109 x a1 a2 a3 a4 a6 a7) (E_X8_fits_109 x a1 a2 a3 a4 a6 a7) out) : WA x 122 [.ref 53, .int a1, .int a2, .int a3, .int a4, .null, .int a6, .int a7, .int c8, .int c9, .int c10] [.int t0, .int t1] h := by
  unfold j_X8_fits_122 at H
  refine st_ic_lt g dX8_fits_122 (tgt := 161) (by decide) H (fun q15 H => ?_) (fun q15 H => ?_)
  · obtain rfl := Option.some.inj H
    exact (wa_drop [1, 2, 10] K)
  · refine st_aload_n g dX8_fits_125 rfl ?_
    refine st_iload_n g dX8_fits_126 rfl ?_
    refine st_iload g dX8_fits_127 rfl ?_
    refine st_iload g dX8_fits_129 rfl ?_
    obtain ⟨r16, hr16, H⟩ := bind_some H
    refine st_callVV g (as := [.int a3, .int a6, .int c10]) dX8_fits_131 rfl rfl ml_X8_160 mf_X8_becomes rfl (Nat.le_of_ble_eq_true rfl) (Nat.le_of_ble_eq_true rfl) (c_X8_becomes a3 a6 c10 h _ hr16) ?_
    refine st_aload_n g dX8_fits_134 rfl ?_
    refine st_iload_n g dX8_fits_135 rfl ?_
    refine st_iload_n g dX8_fits_136 rfl ?_
    obtain ⟨r17, hr17, H⟩ := bind_some H
    refine st_callVI g (as := [.int a1, .int a2]) dX8_fits_137 rfl rfl ml_X8_311 mf_X8_unlike rfl (Nat.le_of_ble_eq_true rfl) (Nat.le_of_ble_eq_true rfl) (c_X8_unlike a1 a2 r16 _ hr17) (fun hz => ?_)
    refine st_bipush g dX8_fits_140 bi_m2 ?_
    refine st_ic_eq g dX8_fits_142 (tgt := 148) (by decide) H (fun q18 H => ?_) (fun q18 H => ?_)
    · refine st_iinc g dX8_fits_148 rfl (ii_1 _) (Nat.le_of_ble_eq_true rfl) rfl (ls2 := [.ref 53, .int a1, .int a2, .int a3, .int a4, .null, .int a6, .int a7, .int (c8 + 1), .int c9, .int c10]) rfl ?_
      refine st_iload g dX8_fits_151 rfl ?_
      refine st_istore g dX8_fits_153 (Nat.le_of_ble_eq_true rfl) rfl (ls2 := [.ref 53, .int a1, .int a2, .int a3, .int a4, .null, .int a6, .int a7, .int (c8 + 1), .int c10, .int c10]) rfl ?_
      refine st_iinc g dX8_fits_155 rfl (ii_m1 _) (Nat.le_of_ble_eq_true rfl) rfl (ls2 := [.ref 53, .int a1, .int a2, .int a3, .int a4, .null, .int a6, .int a7, .int (c8 + 1), .int c10, .int (c10 - 1)]) rfl ?_
      refine st_goto g dX8_fits_158 (tgt := 109) (by decide) ?_
      obtain rfl := Option.some.inj H
      exact K
    · refine st_goto g dX8_fits_145 (tgt := 155) (by decide) ?_
      refine st_iinc g dX8_fits_155 rfl (ii_m1 _) (Nat.le_of_ble_eq_true rfl) rfl (ls2 := [.ref 53, .int a1, .int a2, .int a3, .int a4, .null, .int a6, .int a7, .int c8, .int c9, .int (c10 - 1)]) rfl ?_
      refine st_goto g dX8_fits_158 (tgt := 109) (by decide) ?_
      obtain rfl := Option.some.inj H
      exact K
def b_X8_fits_109 (a1 : Int32) (a2 : Int32) (a3 : Int32) (a4 : Int32) (a6 : Int32) (a7 : Int32) (s : (Int32 × Int32 × Int32 × Hp)) : Option ((Int32 × Int32 × Int32 × Hp) ⊕ (Int32 × Int32 × Int32 × Hp)) :=
  if 2 ≤ a4 then
    j_X8_fits_122 a1 a2 a3 a4 a6 a7 s.1 s.2.1 s.2.2.1 1 s.2.2.1 s.2.2.2
  else
    j_X8_fits_122 a1 a2 a3 a4 a6 a7 s.1 s.2.1 s.2.2.1 0 s.2.2.1 s.2.2.2
theorem tb_X8_fits_109 {x : Cx} (g : Gx x RX8 cX8_fits 11 7) (a1 : Int32) (a2 : Int32) (a3 : Int32) (a4 : Int32) (a6 : Int32) (a7 : Int32) (s : (Int32 × Int32 × Int32 × Hp)) (out : (Int32 × Int32 × Int32 × Hp) ⊕ (Int32 × Int32 × Int32 × Hp)) (H : b_X8_fits_109 a1 a2 a3 a4 a6 a7 s = some out) (K : Sum.elim (P_X8_fits_109 x a1 a2 a3 a4 a6 a7) (E_X8_fits_109 x a1 a2 a3 a4 a6 a7) out) : P_X8_fits_109 x a1 a2 a3 a4 a6 a7 s := by
  unfold b_X8_fits_109 at H
  show WA x 109 [.ref 53, .int a1, .int a2, .int a3, .int a4, .null, .int a6, .int a7, .int s.1, .int s.2.1, .int s.2.2.1] [] s.2.2.2
  refine st_iload g dX8_fits_109 rfl ?_
  refine st_iload g dX8_fits_111 rfl ?_
  refine st_iconst g dX8_fits_113 ic_2 ?_
  refine st_ic_ge g dX8_fits_114 (tgt := 121) (by decide) H (fun q14 H => ?_) (fun q14 H => ?_)
  · refine st_iconst g dX8_fits_121 ic_1 ?_
    exact (tj_X8_fits_122 g a1 a2 a3 a4 a6 a7 s.1 s.2.1 s.2.2.1 1 s.2.2.1 s.2.2.2 _ H K)
  · refine st_iconst g dX8_fits_117 ic_0 ?_
    refine st_goto g dX8_fits_118 (tgt := 122) (by decide) ?_
    exact (tj_X8_fits_122 g a1 a2 a3 a4 a6 a7 s.1 s.2.1 s.2.2.1 0 s.2.2.1 s.2.2.2 _ H K)
def j_X8_fits_107 (a1 : Int32) (a2 : Int32) (a3 : Int32) (a4 : Int32) (a6 : Int32) (a7 : Int32) (a8 : Int32) (a9 : Int32) (t0 : Int32) (h : Hp) : Option ((Int32 × Hp)) :=
  (iter (b_X8_fits_109 a1 a2 a3 a4 a6 a7) FU (a8, a9, t0, h)).bind fun a19 =>
  (f_X8_becomes a3 a6 a7 a19.2.2.2).bind fun r20 =>
  if (a4 % 2) = 0 then
    some (a19.1, r20)
  else
    some (a19.2.1, r20)
theorem tj_X8_fits_107 {x : Cx} (g : Gx x RX8 cX8_fits 11 7) (a1 : Int32) (a2 : Int32) (a3 : Int32) (a4 : Int32) (a6 : Int32) (a7 : Int32) (a8 : Int32) (a9 : Int32) (t0 : Int32) (h : Hp) (out : (Int32 × Hp)) (H : j_X8_fits_107 a1 a2 a3 a4 a6 a7 a8 a9 t0 h = some out) (K : RtI x .int out.1 out.2) : WA x 107 [.ref 53, .int a1, .int a2, .int a3, .int a4, .null, .int a6, .int a7, .int a8, .int a9, .null] [.int t0] h := by
  unfold j_X8_fits_107 at H
  refine st_istore g dX8_fits_107 (Nat.le_of_ble_eq_true rfl) rfl (ls2 := [.ref 53, .int a1, .int a2, .int a3, .int a4, .null, .int a6, .int a7, .int a8, .int a9, .int t0]) rfl ?_
  show P_X8_fits_109 x a1 a2 a3 a4 a6 a7 (a8, a9, t0, h)
  obtain ⟨a19, ha19, H⟩ := bind_some H
  refine iter_W (P := P_X8_fits_109 x a1 a2 a3 a4 a6 a7) (E := E_X8_fits_109 x a1 a2 a3 a4 a6 a7) (fun s9 o9 ho9 hK9 => tb_X8_fits_109 g a1 a2 a3 a4 a6 a7 s9 o9 ho9 hK9) FU _ a19 ha19 ?_
  show WA x 161 [.ref 53, .null, .null, .int a3, .int a4, .null, .int a6, .int a7, .int a19.1, .int a19.2.1, .null] [] a19.2.2.2
  refine st_aload_n g dX8_fits_161 rfl ?_
  refine st_iload_n g dX8_fits_162 rfl ?_
  refine st_iload g dX8_fits_163 rfl ?_
  refine st_iload g dX8_fits_165 rfl ?_
  obtain ⟨r20, hr20, H⟩ := bind_some H
  refine st_callVV g (as := [.int a3, .int a6, .int a7]) dX8_fits_167 rfl rfl ml_X8_160 mf_X8_becomes rfl (Nat.le_of_ble_eq_true rfl) (Nat.le_of_ble_eq_true rfl) (c_X8_becomes a3 a6 a7 a19.2.2.2 _ hr20) ?_
  refine st_iload g dX8_fits_170 rfl ?_
  refine st_iconst g dX8_fits_172 ic_2 ?_
  refine st_irem g dX8_fits_173 (by decide) ?_
  refine st_if_ne g dX8_fits_174 (tgt := 182) (by decide) H (fun q21 H => ?_) (fun q21 H => ?_)
  · refine st_iload g dX8_fits_182 rfl ?_
    obtain rfl := Option.some.inj H
    exact st_iret g dX8_fits_184 rfl (fun q => by cases q) K
  · refine st_iload g dX8_fits_177 rfl ?_
    refine st_goto g dX8_fits_179 (tgt := 184) (by decide) ?_
    obtain rfl := Option.some.inj H
    exact st_iret g dX8_fits_184 rfl (fun q => by cases q) K
def j_X8_fits_76 (a1 : Int32) (a2 : Int32) (a3 : Int32) (a4 : Int32) (t0 : Int32) (h : Hp) : Option ((Int32 × Hp)) :=
  (f_X8_get a3 t0 h).bind fun r12 =>
  if 2 ≤ a4 then
    j_X8_fits_107 a1 a2 a3 a4 t0 r12 0 (-2) 9 h
  else
    j_X8_fits_107 a1 a2 a3 a4 t0 r12 0 (-2) 12 h
theorem tj_X8_fits_76 {x : Cx} (g : Gx x RX8 cX8_fits 11 7) (a1 : Int32) (a2 : Int32) (a3 : Int32) (a4 : Int32) (t0 : Int32) (h : Hp) (out : (Int32 × Hp)) (H : j_X8_fits_76 a1 a2 a3 a4 t0 h = some out) (K : RtI x .int out.1 out.2) : WA x 76 [.ref 53, .int a1, .int a2, .int a3, .int a4, .null, .null, .null, .null, .null, .null] [.int t0] h := by
  unfold j_X8_fits_76 at H
  refine st_istore g dX8_fits_76 (Nat.le_of_ble_eq_true rfl) rfl (ls2 := [.ref 53, .int a1, .int a2, .int a3, .int a4, .null, .int t0, .null, .null, .null, .null]) rfl ?_
  refine st_aload_n g dX8_fits_78 rfl ?_
  refine st_iload_n g dX8_fits_79 rfl ?_
  refine st_iload g dX8_fits_80 rfl ?_
  obtain ⟨r12, hr12, H⟩ := bind_some H
  refine st_callVI g (as := [.int a3, .int t0]) dX8_fits_82 rfl rfl ml_X8_157 mf_X8_get rfl (Nat.le_of_ble_eq_true rfl) (Nat.le_of_ble_eq_true rfl) (c_X8_get a3 t0 h _ hr12) (fun hz => ?_)
  refine st_istore g dX8_fits_85 (Nat.le_of_ble_eq_true rfl) rfl (ls2 := [.ref 53, .int a1, .int a2, .int a3, .int a4, .null, .int t0, .int r12, .null, .null, .null]) rfl ?_
  refine st_iconst g dX8_fits_87 ic_0 ?_
  refine st_istore g dX8_fits_88 (Nat.le_of_ble_eq_true rfl) rfl (ls2 := [.ref 53, .int a1, .int a2, .int a3, .int a4, .null, .int t0, .int r12, .int 0, .null, .null]) rfl ?_
  refine st_bipush g dX8_fits_90 bi_m2 ?_
  refine st_istore g dX8_fits_92 (Nat.le_of_ble_eq_true rfl) rfl (ls2 := [.ref 53, .int a1, .int a2, .int a3, .int a4, .null, .int t0, .int r12, .int 0, .int (-2), .null]) rfl ?_
  refine st_iload g dX8_fits_94 rfl ?_
  refine st_iconst g dX8_fits_96 ic_2 ?_
  refine st_ic_ge g dX8_fits_97 (tgt := 105) (by decide) H (fun q13 H => ?_) (fun q13 H => ?_)
  · refine st_bipush g dX8_fits_105 bi_9 ?_
    exact (tj_X8_fits_107 g a1 a2 a3 a4 t0 r12 0 (-2) 9 h _ H K)
  · refine st_bipush g dX8_fits_100 bi_12 ?_
    refine st_goto g dX8_fits_102 (tgt := 107) (by decide) ?_
    exact (tj_X8_fits_107 g a1 a2 a3 a4 t0 r12 0 (-2) 12 h _ H K)
def j_X8_fits_57 (a1 : Int32) (a2 : Int32) (a3 : Int32) (a4 : Int32) (a5 : Int32) (h : Hp) : Option ((Int32 × Hp)) :=
  if 0 ≤ a5 then
    if 2 ≤ a4 then
      j_X8_fits_76 a1 a2 a3 a4 3 h
    else
      j_X8_fits_76 a1 a2 a3 a4 2 h
  else
    some (a5, h)
theorem tj_X8_fits_57 {x : Cx} (g : Gx x RX8 cX8_fits 11 7) (a1 : Int32) (a2 : Int32) (a3 : Int32) (a4 : Int32) (a5 : Int32) (h : Hp) (out : (Int32 × Hp)) (H : j_X8_fits_57 a1 a2 a3 a4 a5 h = some out) (K : RtI x .int out.1 out.2) : WA x 57 [.ref 53, .int a1, .int a2, .int a3, .int a4, .int a5, .null, .null, .null, .null, .null] [] h := by
  unfold j_X8_fits_57 at H
  refine st_iload g dX8_fits_57 rfl ?_
  refine st_if_ge g dX8_fits_59 (tgt := 65) (by decide) H (fun q10 H => ?_) (fun q10 H => ?_)
  · refine st_iload g dX8_fits_65 rfl ?_
    refine st_iconst g dX8_fits_67 ic_2 ?_
    refine st_ic_ge g dX8_fits_68 (tgt := 75) (by decide) H (fun q11 H => ?_) (fun q11 H => ?_)
    · refine st_iconst g dX8_fits_75 ic_3 ?_
      exact (wa_drop [5] (tj_X8_fits_76 g a1 a2 a3 a4 3 h _ H K))
    · refine st_iconst g dX8_fits_71 ic_2 ?_
      refine st_goto g dX8_fits_72 (tgt := 76) (by decide) ?_
      exact (wa_drop [5] (tj_X8_fits_76 g a1 a2 a3 a4 2 h _ H K))
  · refine st_iload g dX8_fits_62 rfl ?_
    obtain rfl := Option.some.inj H
    exact st_iret g dX8_fits_64 rfl (fun q => by cases q) K
def f_X8_fits (a1 : Int32) (a2 : Int32) (a3 : Int32) (a4 : Int32) (h : Hp) : Option (Int32 × Hp) :=
  (f_X8_noRows a1 h).bind fun r1 =>
  if r1 = (-1) then
    some ((-1), h)
  else
    (f_X8_isHouse a2).bind fun r3 =>
    if r3 = 0 then
      some ((-1), h)
    else
      (f_X8_within a4 0 3).bind fun r5 =>
      if r5 = 0 then
        some ((-1), h)
      else
        if 2 ≤ a4 then
          (f_X8_isWrong a3 h).bind fun r8 =>
          if r8 = 0 then
            some ((-1), h)
          else
            j_X8_fits_57 a1 a2 a3 a4 r1 h
        else
          (f_X8_isOne a3 h).bind fun r22 =>
          if r22 = 0 then
            some ((-1), h)
          else
            j_X8_fits_57 a1 a2 a3 a4 r1 h
theorem t_X8_fits {x : Cx} (g : Gx x RX8 cX8_fits 11 7) (a1 : Int32) (a2 : Int32) (a3 : Int32) (a4 : Int32) (h : Hp) (out : (Int32 × Hp)) (H : f_X8_fits a1 a2 a3 a4 h = some out) (K : RtI x .int out.1 out.2) : WA x 0 [.ref 53, .int a1, .int a2, .int a3, .int a4, .null, .null, .null, .null, .null, .null] [] h := by
  unfold f_X8_fits at H
  refine st_aload_n g dX8_fits_0 rfl ?_
  refine st_iload_n g dX8_fits_1 rfl ?_
  obtain ⟨r1, hr1, H⟩ := bind_some H
  refine st_callVI g (as := [.int a1]) dX8_fits_2 rfl rfl ml_X8_308 mf_X8_noRows rfl (Nat.le_of_ble_eq_true rfl) (Nat.le_of_ble_eq_true rfl) (c_X8_noRows a1 h _ hr1) (fun hz => ?_)
  refine st_istore g dX8_fits_5 (Nat.le_of_ble_eq_true rfl) rfl (ls2 := [.ref 53, .int a1, .int a2, .int a3, .int a4, .int r1, .null, .null, .null, .null, .null]) rfl ?_
  refine st_iload g dX8_fits_7 rfl ?_
  refine st_iconst g dX8_fits_9 ic_m1 ?_
  refine st_ic_eq g dX8_fits_10 (tgt := 55) (by decide) H (fun q2 H => ?_) (fun q2 H => ?_)
  · refine st_iconst g dX8_fits_55 ic_m1 ?_
    obtain rfl := Option.some.inj H
    exact st_iret g dX8_fits_56 rfl (fun q => by cases q) K
  · refine st_iload_n g dX8_fits_13 rfl ?_
    obtain ⟨r3, hr3, H⟩ := bind_some H
    refine st_callSI g (as := [.int a2]) dX8_fits_14 ml_X8_120 mf_X8_isHouse rfl (Nat.le_of_ble_eq_true rfl) (Nat.le_of_ble_eq_true rfl) (c_X8_isHouse a2 h _ hr3) (fun hz => ?_)
    have br3 := hz rfl
    refine st_if_eq g dX8_fits_17 (tgt := 55) (by decide) H (fun q4 H => ?_) (fun q4 H => ?_)
    · refine st_iconst g dX8_fits_55 ic_m1 ?_
      obtain rfl := Option.some.inj H
      exact st_iret g dX8_fits_56 rfl (fun q => by cases q) K
    · refine st_iload g dX8_fits_20 rfl ?_
      refine st_iconst g dX8_fits_22 ic_0 ?_
      refine st_iconst g dX8_fits_23 ic_3 ?_
      obtain ⟨r5, hr5, H⟩ := bind_some H
      refine st_callSI g (as := [.int a4, .int 0, .int 3]) dX8_fits_24 ml_X8_109 mf_X8_within rfl (Nat.le_of_ble_eq_true rfl) (Nat.le_of_ble_eq_true rfl) (c_X8_within a4 0 3 h _ hr5) (fun hz => ?_)
      have br5 := hz rfl
      refine st_if_eq g dX8_fits_27 (tgt := 55) (by decide) H (fun q6 H => ?_) (fun q6 H => ?_)
      · refine st_iconst g dX8_fits_55 ic_m1 ?_
        obtain rfl := Option.some.inj H
        exact st_iret g dX8_fits_56 rfl (fun q => by cases q) K
      · refine st_iload g dX8_fits_30 rfl ?_
        refine st_iconst g dX8_fits_32 ic_2 ?_
        refine st_ic_ge g dX8_fits_33 (tgt := 47) (by decide) H (fun q7 H => ?_) (fun q7 H => ?_)
        · refine st_aload_n g dX8_fits_47 rfl ?_
          refine st_iload_n g dX8_fits_48 rfl ?_
          obtain ⟨r8, hr8, H⟩ := bind_some H
          refine st_callVI g (as := [.int a3]) dX8_fits_49 rfl rfl ml_X8_146 mf_X8_isWrong rfl (Nat.le_of_ble_eq_true rfl) (Nat.le_of_ble_eq_true rfl) (c_X8_isWrong a3 h _ hr8) (fun hz => ?_)
          have br8 := hz rfl
          refine st_if_ne g dX8_fits_52 (tgt := 57) (by decide) H (fun q9 H => ?_) (fun q9 H => ?_)
          · exact (tj_X8_fits_57 g a1 a2 a3 a4 r1 h _ H K)
          · refine st_iconst g dX8_fits_55 ic_m1 ?_
            obtain rfl := Option.some.inj H
            exact st_iret g dX8_fits_56 rfl (fun q => by cases q) K
        · refine st_aload_n g dX8_fits_36 rfl ?_
          refine st_iload_n g dX8_fits_37 rfl ?_
          obtain ⟨r22, hr22, H⟩ := bind_some H
          refine st_callVI g (as := [.int a3]) dX8_fits_38 rfl rfl ml_X8_124 mf_X8_isOne rfl (Nat.le_of_ble_eq_true rfl) (Nat.le_of_ble_eq_true rfl) (c_X8_isOne a3 h _ hr22) (fun hz => ?_)
          have br22 := hz rfl
          refine st_if_eq g dX8_fits_41 (tgt := 55) (by decide) H (fun q23 H => ?_) (fun q23 H => ?_)
          · refine st_iconst g dX8_fits_55 ic_m1 ?_
            obtain rfl := Option.some.inj H
            exact st_iret g dX8_fits_56 rfl (fun q => by cases q) K
          · refine st_goto g dX8_fits_44 (tgt := 57) (by decide) ?_
            exact (tj_X8_fits_57 g a1 a2 a3 a4 r1 h _ H K)
theorem c_X8_fits (a1 : Int32) (a2 : Int32) (a3 : Int32) (a4 : Int32) (h : Hp) (r : (Int32 × Hp)) (H : f_X8_fits a1 a2 a3 a4 h = some r) : CtI yX8_fits cX8_fits 11 .int 7 [.ref 53, .int a1, .int a2, .int a3, .int a4] h r.1 r.2 :=
  ct_ofI (own := RX8) [.ref 53, .int a1, .int a2, .int a3, .int a4, .null, .null, .null, .null, .null, .null] (by decide +kernel) rfl (fun ρ => Nat.le_of_ble_eq_true rfl) (fun ρ => rfl) (fun x g K => t_X8_fits g a1 a2 a3 a4 h r H K)
def CGN (d k : Nat) (as : List Int32) (h : Hp) (r : Int32 × Hp) : Prop := match k with
  | 0 => CtI yX8_isEnough cX8_isEnough 4 .boolean d (.ref 53 :: as.map .int) h r.1 r.2
  | _ => False
def P_X8_isEnough_56 (x : Cx) (a1 : Int32) (a2 : Int32) (s : (Int32 × Hp)) : Prop := WA x 56 [.ref 53, .int a1, .int a2, .int s.1] [] s.2
def E_X8_isEnough_56 (x : Cx) (a1 : Int32) (a2 : Int32) : (Int32 × Hp) ⊕ (Int32 × Hp) → Prop := Sum.elim (fun s : (Int32 × Hp) => WA x 93 [.null, .null, .null, .null] [] s.2) (fun r : (Int32 × Hp) => RtI x .boolean r.1 r.2)
def b_X8_isEnough_56 (R : Nat → List Int32 → Hp → Option (Int32 × Hp)) (a1 : Int32) (a2 : Int32) (s : (Int32 × Hp)) : Option ((Int32 × Hp) ⊕ ((Int32 × Hp) ⊕ (Int32 × Hp))) :=
  if (12 * (s.2.1 53 4)) ≤ s.1 then
    some (.inr (.inl (s.1, s.2)))
  else
    (wrI s.2 84 a1 s.1).bind fun h3 =>
    (R 0 [a1 + 1, a2] h3).bind fun r4 =>
    if r4.1 = 0 then
      some (.inl (s.1 + 1, r4.2))
    else
      some (.inr (.inr (1, r4.2)))
theorem tb_X8_isEnough_56 {x : Cx} {dn : Nat} {R : Nat → List Int32 → Hp → Option (Int32 × Hp)} (hdn : 6 ≤ dn) (hR : ∀ k as h r, R k as h = some r → CGN dn k as h r) (g : Gx x RX8 cX8_isEnough 4 (dn + 1)) (a1 : Int32) (a2 : Int32) (s : (Int32 × Hp)) (out : (Int32 × Hp) ⊕ ((Int32 × Hp) ⊕ (Int32 × Hp))) (H : b_X8_isEnough_56 R a1 a2 s = some out) (K : Sum.elim (P_X8_isEnough_56 x a1 a2) (E_X8_isEnough_56 x a1 a2) out) : P_X8_isEnough_56 x a1 a2 s := by
  unfold b_X8_isEnough_56 at H
  show WA x 56 [.ref 53, .int a1, .int a2, .int s.1] [] s.2
  refine st_iload_n g dX8_isEnough_56 rfl ?_
  refine st_bipush g dX8_isEnough_57 bi_12 ?_
  refine st_aload_n g dX8_isEnough_59 rfl ?_
  refine gf_X8_117 g dX8_isEnough_60 rfl ?_
  refine st_imul g dX8_isEnough_63 ?_
  refine st_ic_ge g dX8_isEnough_64 (tgt := 93) (by decide) H (fun q2 H => ?_) (fun q2 H => ?_)
  · obtain rfl := Option.some.inj H
    exact (wa_drop [0, 1, 2, 3] K)
  · refine st_aload_n g dX8_isEnough_67 rfl ?_
    refine gf_X8_103 g dX8_isEnough_68 rfl (r := 84) rfl ?_
    refine st_iload_n g dX8_isEnough_71 rfl ?_
    refine st_iload_n g dX8_isEnough_72 rfl ?_
    refine st_iast g dX8_isEnough_73 H (fun h3 H => ?_)
    refine st_aload_n g dX8_isEnough_74 rfl ?_
    refine st_iload_n g dX8_isEnough_75 rfl ?_
    refine st_iconst g dX8_isEnough_76 ic_1 ?_
    refine st_iadd g dX8_isEnough_77 ?_
    refine st_iload_n g dX8_isEnough_78 rfl ?_
    obtain ⟨r4, hr4, H⟩ := bind_some H
    refine st_callVI g (as := [.int (a1 + 1), .int a2]) dX8_isEnough_79 rfl rfl ml_X8_296 mf_X8_isEnough rfl (Nat.le_of_ble_eq_true rfl) (by omega) (hR _ _ _ _ hr4) (fun hz => ?_)
    have br4 := hz rfl
    refine st_if_eq g dX8_isEnough_82 (tgt := 87) (by decide) H (fun q5 H => ?_) (fun q5 H => ?_)
    · refine st_iinc g dX8_isEnough_87 rfl (ii_1 _) (Nat.le_of_ble_eq_true rfl) rfl (ls2 := [.ref 53, .int a1, .int a2, .int (s.1 + 1)]) rfl ?_
      refine st_goto g dX8_isEnough_90 (tgt := 56) (by decide) ?_
      obtain rfl := Option.some.inj H
      exact K
    · refine st_iconst g dX8_isEnough_85 ic_1 ?_
      obtain rfl := Option.some.inj H
      exact st_iret g dX8_isEnough_86 rfl (fun _ => Or.inr rfl) K
def P_X8_isEnough_15 (x : Cx) (a2 : Int32) (s : (Int32 × Hp)) : Prop := WA x 15 [.ref 53, .null, .int a2, .int s.1] [] s.2
def E_X8_isEnough_15 (x : Cx) (a2 : Int32) : (Int32 × Hp) → Prop := fun s : (Int32 × Hp) => WA x 49 [.ref 53, .null, .null, .null] [] s.2
def b_X8_isEnough_15 (R : Nat → List Int32 → Hp → Option (Int32 × Hp)) (a2 : Int32) (s : (Int32 × Hp)) : Option ((Int32 × Hp) ⊕ (Int32 × Hp)) :=
  if a2 ≤ s.1 then
    some (.inr (s.1, s.2))
  else
    (rdI s.2 84 s.1).bind fun v9 =>
    (rdI s.2 84 s.1).bind fun v10 =>
    (f_X8_calls (v9 / 12) (v10 % 12) s.2).bind fun r11 =>
    some (.inl (s.1 + 1, r11.2))
theorem tb_X8_isEnough_15 {x : Cx} {dn : Nat} {R : Nat → List Int32 → Hp → Option (Int32 × Hp)} (hdn : 6 ≤ dn) (hR : ∀ k as h r, R k as h = some r → CGN dn k as h r) (g : Gx x RX8 cX8_isEnough 4 (dn + 1)) (a2 : Int32) (s : (Int32 × Hp)) (out : (Int32 × Hp) ⊕ (Int32 × Hp)) (H : b_X8_isEnough_15 R a2 s = some out) (K : Sum.elim (P_X8_isEnough_15 x a2) (E_X8_isEnough_15 x a2) out) : P_X8_isEnough_15 x a2 s := by
  unfold b_X8_isEnough_15 at H
  show WA x 15 [.ref 53, .null, .int a2, .int s.1] [] s.2
  refine st_iload_n g dX8_isEnough_15 rfl ?_
  refine st_iload_n g dX8_isEnough_16 rfl ?_
  refine st_ic_ge g dX8_isEnough_17 (tgt := 49) (by decide) H (fun q8 H => ?_) (fun q8 H => ?_)
  · obtain rfl := Option.some.inj H
    exact (wa_drop [2, 3] K)
  · refine st_aload_n g dX8_isEnough_20 rfl ?_
    refine st_aload_n g dX8_isEnough_21 rfl ?_
    refine gf_X8_103 g dX8_isEnough_22 rfl (r := 84) rfl ?_
    refine st_iload_n g dX8_isEnough_25 rfl ?_
    refine st_iald g dX8_isEnough_26 H (fun v9 H => ?_)
    refine st_bipush g dX8_isEnough_27 bi_12 ?_
    refine st_idiv g dX8_isEnough_29 (by decide) ?_
    refine st_aload_n g dX8_isEnough_30 rfl ?_
    refine gf_X8_103 g dX8_isEnough_31 rfl (r := 84) rfl ?_
    refine st_iload_n g dX8_isEnough_34 rfl ?_
    refine st_iald g dX8_isEnough_35 H (fun v10 H => ?_)
    refine st_bipush g dX8_isEnough_36 bi_12 ?_
    refine st_irem g dX8_isEnough_38 (by decide) ?_
    obtain ⟨r11, hr11, H⟩ := bind_some H
    refine st_callVI g (as := [.int (v9 / 12), .int (v10 % 12)]) dX8_isEnough_39 rfl rfl ml_X8_260 mf_X8_calls rfl (Nat.le_of_ble_eq_true rfl) (by omega) (c_X8_calls (v9 / 12) (v10 % 12) s.2 _ hr11) (fun hz => ?_)
    refine st_pop g dX8_isEnough_42 rfl ?_
    refine st_iinc g dX8_isEnough_43 rfl (ii_1 _) (Nat.le_of_ble_eq_true rfl) rfl (ls2 := [.ref 53, .null, .int a2, .int (s.1 + 1)]) rfl ?_
    refine st_goto g dX8_isEnough_46 (tgt := 15) (by decide) ?_
    obtain rfl := Option.some.inj H
    exact K
def m_X8_isEnough (R : Nat → List Int32 → Hp → Option (Int32 × Hp)) (a1 : Int32) (a2 : Int32) (h : Hp) : Option (Int32 × Hp) :=
  if a1 = a2 then
    (f_X8_laysBack 82 h).bind fun r7 =>
    (iter (b_X8_isEnough_15 R a2) FU (0, r7)).bind fun a12 =>
    (f_X8_isInOrder a12.2).bind fun r13 =>
    some (r13, a12.2)
  else
    (iter (b_X8_isEnough_56 R a1 a2) FU (0, h)).bind (Sum.elim (fun a6 =>
      some (0, a6.2)) (fun r => some r))
theorem t_X8_isEnough {x : Cx} {dn : Nat} {R : Nat → List Int32 → Hp → Option (Int32 × Hp)} (hdn : 6 ≤ dn) (hR : ∀ k as h r, R k as h = some r → CGN dn k as h r) (g : Gx x RX8 cX8_isEnough 4 (dn + 1)) (a1 : Int32) (a2 : Int32) (h : Hp) (out : (Int32 × Hp)) (H : m_X8_isEnough R a1 a2 h = some out) (K : RtI x .boolean out.1 out.2) : WA x 0 [.ref 53, .int a1, .int a2, .null] [] h := by
  unfold m_X8_isEnough at H
  refine st_iload_n g dX8_isEnough_0 rfl ?_
  refine st_iload_n g dX8_isEnough_1 rfl ?_
  refine st_ic_ne g dX8_isEnough_2 (tgt := 54) (by decide) H (fun q1 H => ?_) (fun q1 H => ?_)
  · refine st_iconst g dX8_isEnough_54 ic_0 ?_
    refine st_istore_n g dX8_isEnough_55 (Nat.le_of_ble_eq_true rfl) rfl (ls2 := [.ref 53, .int a1, .int a2, .int 0]) rfl ?_
    show P_X8_isEnough_56 x a1 a2 (0, h)
    obtain ⟨a6o, ha6, hca6⟩ := it_R H
    refine iter_W (P := P_X8_isEnough_56 x a1 a2) (E := E_X8_isEnough_56 x a1 a2) (fun s9 o9 ho9 hK9 => tb_X8_isEnough_56 hdn hR g a1 a2 s9 o9 ho9 hK9) FU _ a6o ha6 ?_
    rcases hca6 with ⟨a6, rfl, H⟩ | ⟨r, rfl, H⟩
    · show WA x 93 [.null, .null, .null, .null] [] a6.2
      refine st_iconst g dX8_isEnough_93 ic_0 ?_
      obtain rfl := Option.some.inj H
      exact st_iret g dX8_isEnough_94 rfl (fun _ => Or.inl rfl) K
    · obtain rfl := Option.some.inj H
      exact K
  · refine st_aload_n g dX8_isEnough_5 rfl ?_
    refine st_aload_n g dX8_isEnough_6 rfl ?_
    refine gf_X8_97 g dX8_isEnough_7 rfl (r := 82) rfl ?_
    obtain ⟨r7, hr7, H⟩ := bind_some H
    refine st_callVV g (as := [.ref 82]) dX8_isEnough_10 rfl rfl ml_X8_273 mf_X8_laysBack rfl (Nat.le_of_ble_eq_true rfl) (by omega) (c_X8_laysBack 82 h _ hr7) ?_
    refine st_iconst g dX8_isEnough_13 ic_0 ?_
    refine st_istore_n g dX8_isEnough_14 (Nat.le_of_ble_eq_true rfl) rfl (ls2 := [.ref 53, .int a1, .int a2, .int 0]) rfl ?_
    refine wa_drop [1] ?_
    show P_X8_isEnough_15 x a2 (0, r7)
    obtain ⟨a12, ha12, H⟩ := bind_some H
    refine iter_W (P := P_X8_isEnough_15 x a2) (E := E_X8_isEnough_15 x a2) (fun s9 o9 ho9 hK9 => tb_X8_isEnough_15 hdn hR g a2 s9 o9 ho9 hK9) FU _ a12 ha12 ?_
    show WA x 49 [.ref 53, .null, .null, .null] [] a12.2
    refine st_aload_n g dX8_isEnough_49 rfl ?_
    obtain ⟨r13, hr13, H⟩ := bind_some H
    refine st_callVI g (as := []) dX8_isEnough_50 rfl rfl ml_X8_293 mf_X8_isInOrder rfl (Nat.le_of_ble_eq_true rfl) (by omega) (c_X8_isInOrder a12.2 _ hr13) (fun hz => ?_)
    have br13 := hz rfl
    obtain rfl := Option.some.inj H
    exact st_iret g dX8_isEnough_53 (bo_nar br13) (fun _ => br13) K
theorem cm_X8_isEnough {dn : Nat} {R : Nat → List Int32 → Hp → Option (Int32 × Hp)} (hdn : 6 ≤ dn) (hR : ∀ k as h r, R k as h = some r → CGN dn k as h r) (a1 : Int32) (a2 : Int32) (h : Hp) (r : Int32 × Hp) (H : m_X8_isEnough R a1 a2 h = some r) : CtI yX8_isEnough cX8_isEnough 4 .boolean (dn + 1) [.ref 53, .int a1, .int a2] h r.1 r.2 :=
  ct_ofI (own := RX8) [.ref 53, .int a1, .int a2, .null] (by decide +kernel) rfl (fun ρ => Nat.le_of_ble_eq_true rfl) (fun ρ => rfl) (fun x g K => t_X8_isEnough hdn hR g a1 a2 h r H K)
def fG_GN : Nat → Nat → List Int32 → Hp → Option (Int32 × Hp)
  | 0, _, _, _ => none
  | n + 1, k, as, h => match k, as with
    | 0, [a1, a2] => m_X8_isEnough (fG_GN n) a1 a2 h
    | _, _ => none
theorem cG_GN : ∀ (n k : Nat) (as : List Int32) (h : Hp) (r : Int32 × Hp), fG_GN n k as h = some r → CGN (6 + n) k as h r := by
  intro n
  induction n with
  | zero => intro k as h r H; cases H
  | succ n ih =>
    intro k as h r H
    unfold fG_GN at H
    split at H
    · exact cm_X8_isEnough (Nat.le_add_right _ _) ih _ _ h r H
    · cases H
def f_X8_isEnough (a1 : Int32) (a2 : Int32) (h : Hp) : Option (Int32 × Hp) := fG_GN 6 0 [a1, a2] h
theorem c_X8_isEnough (a1 : Int32) (a2 : Int32) (h : Hp) (r : Int32 × Hp) (H : f_X8_isEnough a1 a2 h = some r) : CtI yX8_isEnough cX8_isEnough 4 .boolean 12 [.ref 53, .int a1, .int a2] h r.1 r.2 := cG_GN 6 0 [a1, a2] h r H
def CGO (d k : Nat) (as : List Int32) (h : Hp) (r : Int32 × Hp) : Prop := match k with
  | 0 => CtI yX8_opensBy cX8_opensBy 4 .int d (.ref 53 :: as.map .int) h r.1 r.2
  | _ => False
def m_X8_opensBy (R : Nat → List Int32 → Hp → Option (Int32 × Hp)) (a1 : Int32) (a2 : Int32) (a3 : Int32) (h : Hp) : Option (Int32 × Hp) :=
  if a2 = 0 then
    (f_X8_ran 1 h).bind fun r2 =>
    some (a3 + a1, r2)
  else
  if a2 = 1 then
    (f_X8_ran 20 h).bind fun r4 =>
    (R 0 [a1, 0, a3] r4).bind fun r5 =>
    some (r5.1 + 3, r5.2)
  else
  if a2 = 6 then
    (f_X8_ran 70 h).bind fun r7 =>
    (R 0 [a1, 0, a3] r7).bind fun r8 =>
    some (r8.1 * 2, r8.2)
  else
    (f_X8_above a2).bind fun r9 =>
    (R 0 [a1, r9, a3] h).bind fun r10 =>
    some (r10.1, r10.2)
theorem t_X8_opensBy {x : Cx} {dn : Nat} {R : Nat → List Int32 → Hp → Option (Int32 × Hp)} (hdn : 2 ≤ dn) (hR : ∀ k as h r, R k as h = some r → CGO dn k as h r) (g : Gx x RX8 cX8_opensBy 4 (dn + 1)) (a1 : Int32) (a2 : Int32) (a3 : Int32) (h : Hp) (out : (Int32 × Hp)) (H : m_X8_opensBy R a1 a2 a3 h = some out) (K : RtI x .int out.1 out.2) : WA x 0 [.ref 53, .int a1, .int a2, .int a3] [] h := by
  unfold m_X8_opensBy at H
  refine st_iload_n g dX8_opensBy_0 rfl ?_
  by_cases q1 : a2 = 0
  · rw [if_pos q1] at H
    refine st_lsw g dX8_opensBy_1 (off := 35) (tgt := 36) (by decide) (by rw [q1]; rfl) (by decide) ?_
    refine st_aload_n g dX8_opensBy_36 rfl ?_
    refine st_iconst g dX8_opensBy_37 ic_1 ?_
    obtain ⟨r2, hr2, H⟩ := bind_some H
    refine st_callVV g (as := [.int 1]) dX8_opensBy_38 rfl rfl ml_X8_330 mf_X8_ran rfl (Nat.le_of_ble_eq_true rfl) (by omega) (c_X8_ran 1 h _ hr2) ?_
    refine st_iload_n g dX8_opensBy_41 rfl ?_
    refine st_iload_n g dX8_opensBy_42 rfl ?_
    refine st_iadd g dX8_opensBy_43 ?_
    obtain rfl := Option.some.inj H
    exact st_iret g dX8_opensBy_44 rfl (fun q => by cases q) K
  · rw [if_neg q1] at H
    by_cases q3 : a2 = 1
    · rw [if_pos q3] at H
      refine st_lsw g dX8_opensBy_1 (off := 44) (tgt := 45) (by decide) (by rw [q3]; rfl) (by decide) ?_
      refine st_aload_n g dX8_opensBy_45 rfl ?_
      refine st_bipush g dX8_opensBy_46 bi_20 ?_
      obtain ⟨r4, hr4, H⟩ := bind_some H
      refine st_callVV g (as := [.int 20]) dX8_opensBy_48 rfl rfl ml_X8_330 mf_X8_ran rfl (Nat.le_of_ble_eq_true rfl) (by omega) (c_X8_ran 20 h _ hr4) ?_
      refine st_aload_n g dX8_opensBy_51 rfl ?_
      refine st_iload_n g dX8_opensBy_52 rfl ?_
      refine st_iconst g dX8_opensBy_53 ic_0 ?_
      refine st_iload_n g dX8_opensBy_54 rfl ?_
      obtain ⟨r5, hr5, H⟩ := bind_some H
      refine st_callVI g (as := [.int a1, .int 0, .int a3]) dX8_opensBy_55 rfl rfl ml_X8_334 mf_X8_opensBy rfl (Nat.le_of_ble_eq_true rfl) (by omega) (hR _ _ _ _ hr5) (fun hz => ?_)
      refine st_iconst g dX8_opensBy_58 ic_3 ?_
      refine st_iadd g dX8_opensBy_59 ?_
      obtain rfl := Option.some.inj H
      exact st_iret g dX8_opensBy_60 rfl (fun q => by cases q) K
    · rw [if_neg q3] at H
      by_cases q6 : a2 = 6
      · rw [if_pos q6] at H
        refine st_lsw g dX8_opensBy_1 (off := 60) (tgt := 61) (by decide) (by rw [q6]; rfl) (by decide) ?_
        refine st_aload_n g dX8_opensBy_61 rfl ?_
        refine st_bipush g dX8_opensBy_62 bi_70 ?_
        obtain ⟨r7, hr7, H⟩ := bind_some H
        refine st_callVV g (as := [.int 70]) dX8_opensBy_64 rfl rfl ml_X8_330 mf_X8_ran rfl (Nat.le_of_ble_eq_true rfl) (by omega) (c_X8_ran 70 h _ hr7) ?_
        refine st_aload_n g dX8_opensBy_67 rfl ?_
        refine st_iload_n g dX8_opensBy_68 rfl ?_
        refine st_iconst g dX8_opensBy_69 ic_0 ?_
        refine st_iload_n g dX8_opensBy_70 rfl ?_
        obtain ⟨r8, hr8, H⟩ := bind_some H
        refine st_callVI g (as := [.int a1, .int 0, .int a3]) dX8_opensBy_71 rfl rfl ml_X8_334 mf_X8_opensBy rfl (Nat.le_of_ble_eq_true rfl) (by omega) (hR _ _ _ _ hr8) (fun hz => ?_)
        refine st_iconst g dX8_opensBy_74 ic_2 ?_
        refine st_imul g dX8_opensBy_75 ?_
        obtain rfl := Option.some.inj H
        exact st_iret g dX8_opensBy_76 rfl (fun q => by cases q) K
      · rw [if_neg q6] at H
        refine st_lsw g dX8_opensBy_1 (off := 76) (tgt := 77) (by decide) (by show Op.lookupswitch.offset [(0, 35), (1, 44), (6, 60)] 76 _ = 76; rw [lv_osw q1 (by decide), lv_osw q3 (by decide), lv_osw q6 (by decide)]; rfl) (by decide) ?_
        refine st_aload_n g dX8_opensBy_77 rfl ?_
        refine st_iload_n g dX8_opensBy_78 rfl ?_
        refine st_iload_n g dX8_opensBy_79 rfl ?_
        obtain ⟨r9, hr9, H⟩ := bind_some H
        refine st_callSI g (as := [.int a2]) dX8_opensBy_80 ml_X8_337 mf_X8_above rfl (Nat.le_of_ble_eq_true rfl) (by omega) (c_X8_above a2 h _ hr9) (fun hz => ?_)
        refine st_iload_n g dX8_opensBy_83 rfl ?_
        obtain ⟨r10, hr10, H⟩ := bind_some H
        refine st_callVI g (as := [.int a1, .int r9, .int a3]) dX8_opensBy_84 rfl rfl ml_X8_334 mf_X8_opensBy rfl (Nat.le_of_ble_eq_true rfl) (by omega) (hR _ _ _ _ hr10) (fun hz => ?_)
        obtain rfl := Option.some.inj H
        exact st_iret g dX8_opensBy_87 rfl (fun q => by cases q) K
theorem cm_X8_opensBy {dn : Nat} {R : Nat → List Int32 → Hp → Option (Int32 × Hp)} (hdn : 2 ≤ dn) (hR : ∀ k as h r, R k as h = some r → CGO dn k as h r) (a1 : Int32) (a2 : Int32) (a3 : Int32) (h : Hp) (r : Int32 × Hp) (H : m_X8_opensBy R a1 a2 a3 h = some r) : CtI yX8_opensBy cX8_opensBy 4 .int (dn + 1) [.ref 53, .int a1, .int a2, .int a3] h r.1 r.2 :=
  ct_ofI (own := RX8) [.ref 53, .int a1, .int a2, .int a3] (by decide +kernel) rfl (fun ρ => Nat.le_of_ble_eq_true rfl) (fun ρ => rfl) (fun x g K => t_X8_opensBy hdn hR g a1 a2 a3 h r H K)
def fG_GO : Nat → Nat → List Int32 → Hp → Option (Int32 × Hp)
  | 0, _, _, _ => none
  | n + 1, k, as, h => match k, as with
    | 0, [a1, a2, a3] => m_X8_opensBy (fG_GO n) a1 a2 a3 h
    | _, _ => none
theorem cG_GO : ∀ (n k : Nat) (as : List Int32) (h : Hp) (r : Int32 × Hp), fG_GO n k as h = some r → CGO (2 + n) k as h r := by
  intro n
  induction n with
  | zero => intro k as h r H; cases H
  | succ n ih =>
    intro k as h r H
    unfold fG_GO at H
    split at H
    · exact cm_X8_opensBy (Nat.le_add_right _ _) ih _ _ _ h r H
    · cases H
def f_X8_opensBy (a1 : Int32) (a2 : Int32) (a3 : Int32) (h : Hp) : Option (Int32 × Hp) := fG_GO 10 0 [a1, a2, a3] h
theorem c_X8_opensBy (a1 : Int32) (a2 : Int32) (a3 : Int32) (h : Hp) (r : Int32 × Hp) (H : f_X8_opensBy a1 a2 a3 h = some r) : CtI yX8_opensBy cX8_opensBy 4 .int 12 [.ref 53, .int a1, .int a2, .int a3] h r.1 r.2 := cG_GO 10 0 [a1, a2, a3] h r H
def P_X8_fewest_20 (x : Cx) (a1 : Int32) (s : (Int32 × Int32 × Hp)) : Prop := WA x 20 [.ref 53, .int a1, .int s.1, .int s.2.1] [] s.2.2
def E_X8_fewest_20 (x : Cx) (a1 : Int32) : (Int32 × Int32 × Hp) → Prop := fun s : (Int32 × Int32 × Hp) => WA x 48 [.ref 53, .int a1, .int s.1, .null] [] s.2.2
def b_X8_fewest_20 (a1 : Int32) (s : (Int32 × Int32 × Hp)) : Option ((Int32 × Int32 × Hp) ⊕ (Int32 × Int32 × Hp)) :=
  if 3 ≤ s.2.1 then
    some (.inr (s.1, s.2.1, s.2.2))
  else
    if s.1 = (-2) then
      (f_X8_isEnough 0 s.2.1 s.2.2).bind fun r5 =>
      if r5.1 = 0 then
        some (.inl (s.1, s.2.1 + 1, r5.2))
      else
        some (.inl (s.2.1, s.2.1 + 1, r5.2))
    else
      some (.inr (s.1, s.2.1, s.2.2))
theorem tb_X8_fewest_20 {x : Cx} (g : Gx x RX8 cX8_fewest 4 13) (a1 : Int32) (s : (Int32 × Int32 × Hp)) (out : (Int32 × Int32 × Hp) ⊕ (Int32 × Int32 × Hp)) (H : b_X8_fewest_20 a1 s = some out) (K : Sum.elim (P_X8_fewest_20 x a1) (E_X8_fewest_20 x a1) out) : P_X8_fewest_20 x a1 s := by
  unfold b_X8_fewest_20 at H
  show WA x 20 [.ref 53, .int a1, .int s.1, .int s.2.1] [] s.2.2
  refine st_iload_n g dX8_fewest_20 rfl ?_
  refine st_iconst g dX8_fewest_21 ic_3 ?_
  refine st_ic_ge g dX8_fewest_22 (tgt := 48) (by decide) H (fun q3 H => ?_) (fun q3 H => ?_)
  · obtain rfl := Option.some.inj H
    exact (wa_drop [3] K)
  · refine st_iload_n g dX8_fewest_25 rfl ?_
    refine st_bipush g dX8_fewest_26 bi_m2 ?_
    refine st_ic_ne g dX8_fewest_28 (tgt := 48) (by decide) H (fun q4 H => ?_) (fun q4 H => ?_)
    · obtain rfl := Option.some.inj H
      exact (wa_drop [3] K)
    · refine st_aload_n g dX8_fewest_31 rfl ?_
      refine st_iconst g dX8_fewest_32 ic_0 ?_
      refine st_iload_n g dX8_fewest_33 rfl ?_
      obtain ⟨r5, hr5, H⟩ := bind_some H
      refine st_callVI g (as := [.int 0, .int s.2.1]) dX8_fewest_34 rfl rfl ml_X8_296 mf_X8_isEnough rfl (Nat.le_of_ble_eq_true rfl) (Nat.le_of_ble_eq_true rfl) (c_X8_isEnough 0 s.2.1 s.2.2 _ hr5) (fun hz => ?_)
      have br5 := hz rfl
      refine st_if_eq g dX8_fewest_37 (tgt := 42) (by decide) H (fun q6 H => ?_) (fun q6 H => ?_)
      · refine st_iinc g dX8_fewest_42 rfl (ii_1 _) (Nat.le_of_ble_eq_true rfl) rfl (ls2 := [.ref 53, .int a1, .int s.1, .int (s.2.1 + 1)]) rfl ?_
        refine st_goto g dX8_fewest_45 (tgt := 20) (by decide) ?_
        obtain rfl := Option.some.inj H
        exact K
      · refine st_iload_n g dX8_fewest_40 rfl ?_
        refine st_istore_n g dX8_fewest_41 (Nat.le_of_ble_eq_true rfl) rfl (ls2 := [.ref 53, .int a1, .int s.2.1, .int s.2.1]) rfl ?_
        refine st_iinc g dX8_fewest_42 rfl (ii_1 _) (Nat.le_of_ble_eq_true rfl) rfl (ls2 := [.ref 53, .int a1, .int s.2.1, .int (s.2.1 + 1)]) rfl ?_
        refine st_goto g dX8_fewest_45 (tgt := 20) (by decide) ?_
        obtain rfl := Option.some.inj H
        exact K
def j_X8_fewest_48 (a1 : Int32) (a2 : Int32) (h : Hp) : Option ((Int32 × Hp)) :=
  (f_X8_laysBack 82 h).bind fun r8 =>
  if a2 = (-2) then
    some (a2, r8)
  else
    if a1 = (-1) then
      some (a2, r8)
    else
      if a2 ≤ a1 then
        some ((-2), r8)
      else
        (rdI r8 84 a1).bind fun v12 =>
        some (v12, r8)
theorem tj_X8_fewest_48 {x : Cx} (g : Gx x RX8 cX8_fewest 4 13) (a1 : Int32) (a2 : Int32) (h : Hp) (out : (Int32 × Hp)) (H : j_X8_fewest_48 a1 a2 h = some out) (K : RtI x .int out.1 out.2) : WA x 48 [.ref 53, .int a1, .int a2, .null] [] h := by
  unfold j_X8_fewest_48 at H
  refine st_aload_n g dX8_fewest_48 rfl ?_
  refine st_aload_n g dX8_fewest_49 rfl ?_
  refine gf_X8_97 g dX8_fewest_50 rfl (r := 82) rfl ?_
  obtain ⟨r8, hr8, H⟩ := bind_some H
  refine st_callVV g (as := [.ref 82]) dX8_fewest_53 rfl rfl ml_X8_273 mf_X8_laysBack rfl (Nat.le_of_ble_eq_true rfl) (Nat.le_of_ble_eq_true rfl) (c_X8_laysBack 82 h _ hr8) ?_
  refine st_iload_n g dX8_fewest_56 rfl ?_
  refine st_bipush g dX8_fewest_57 bi_m2 ?_
  refine st_ic_eq g dX8_fewest_59 (tgt := 67) (by decide) H (fun q9 H => ?_) (fun q9 H => ?_)
  · refine st_iload_n g dX8_fewest_67 rfl ?_
    refine st_goto g dX8_fewest_68 (tgt := 87) (by decide) ?_
    obtain rfl := Option.some.inj H
    exact st_iret g dX8_fewest_87 rfl (fun q => by cases q) K
  · refine st_iload_n g dX8_fewest_62 rfl ?_
    refine st_iconst g dX8_fewest_63 ic_m1 ?_
    refine st_ic_ne g dX8_fewest_64 (tgt := 71) (by decide) H (fun q10 H => ?_) (fun q10 H => ?_)
    · refine st_iload_n g dX8_fewest_71 rfl ?_
      refine st_iload_n g dX8_fewest_72 rfl ?_
      refine st_ic_ge g dX8_fewest_73 (tgt := 85) (by decide) H (fun q11 H => ?_) (fun q11 H => ?_)
      · refine st_bipush g dX8_fewest_85 bi_m2 ?_
        obtain rfl := Option.some.inj H
        exact st_iret g dX8_fewest_87 rfl (fun q => by cases q) K
      · refine st_aload_n g dX8_fewest_76 rfl ?_
        refine gf_X8_103 g dX8_fewest_77 rfl (r := 84) rfl ?_
        refine st_iload_n g dX8_fewest_80 rfl ?_
        refine st_iald g dX8_fewest_81 H (fun v12 H => ?_)
        refine st_goto g dX8_fewest_82 (tgt := 87) (by decide) ?_
        obtain rfl := Option.some.inj H
        exact st_iret g dX8_fewest_87 rfl (fun q => by cases q) K
    · refine st_iload_n g dX8_fewest_67 rfl ?_
      refine st_goto g dX8_fewest_68 (tgt := 87) (by decide) ?_
      obtain rfl := Option.some.inj H
      exact st_iret g dX8_fewest_87 rfl (fun q => by cases q) K
def f_X8_fewest (a1 : Int32) (h : Hp) : Option (Int32 × Hp) :=
  if (-1) ≤ a1 then
    (f_X8_keeps 82 h).bind fun r2 =>
    (iter (b_X8_fewest_20 a1) FU ((-2), 0, r2)).bind fun a7 =>
    j_X8_fewest_48 a1 a7.1 a7.2.2
  else
    some ((-1), h)
theorem t_X8_fewest {x : Cx} (g : Gx x RX8 cX8_fewest 4 13) (a1 : Int32) (h : Hp) (out : (Int32 × Hp)) (H : f_X8_fewest a1 h = some out) (K : RtI x .int out.1 out.2) : WA x 0 [.ref 53, .int a1, .null, .null] [] h := by
  unfold f_X8_fewest at H
  refine st_iload_n g dX8_fewest_0 rfl ?_
  refine st_iconst g dX8_fewest_1 ic_m1 ?_
  refine st_ic_ge g dX8_fewest_2 (tgt := 7) (by decide) H (fun q1 H => ?_) (fun q1 H => ?_)
  · refine st_aload_n g dX8_fewest_7 rfl ?_
    refine st_aload_n g dX8_fewest_8 rfl ?_
    refine gf_X8_97 g dX8_fewest_9 rfl (r := 82) rfl ?_
    obtain ⟨r2, hr2, H⟩ := bind_some H
    refine st_callVV g (as := [.ref 82]) dX8_fewest_12 rfl rfl ml_X8_266 mf_X8_keeps rfl (Nat.le_of_ble_eq_true rfl) (Nat.le_of_ble_eq_true rfl) (c_X8_keeps 82 h _ hr2) ?_
    refine st_bipush g dX8_fewest_15 bi_m2 ?_
    refine st_istore_n g dX8_fewest_17 (Nat.le_of_ble_eq_true rfl) rfl (ls2 := [.ref 53, .int a1, .int (-2), .null]) rfl ?_
    refine st_iconst g dX8_fewest_18 ic_0 ?_
    refine st_istore_n g dX8_fewest_19 (Nat.le_of_ble_eq_true rfl) rfl (ls2 := [.ref 53, .int a1, .int (-2), .int 0]) rfl ?_
    show P_X8_fewest_20 x a1 ((-2), 0, r2)
    obtain ⟨a7, ha7, H⟩ := bind_some H
    refine iter_W (P := P_X8_fewest_20 x a1) (E := E_X8_fewest_20 x a1) (fun s9 o9 ho9 hK9 => tb_X8_fewest_20 g a1 s9 o9 ho9 hK9) FU _ a7 ha7 ?_
    show WA x 48 [.ref 53, .int a1, .int a7.1, .null] [] a7.2.2
    exact (tj_X8_fewest_48 g a1 a7.1 a7.2.2 _ H K)
  · refine st_iconst g dX8_fewest_5 ic_m1 ?_
    obtain rfl := Option.some.inj H
    exact st_iret g dX8_fewest_6 rfl (fun q => by cases q) K
theorem c_X8_fewest (a1 : Int32) (h : Hp) (r : (Int32 × Hp)) (H : f_X8_fewest a1 h = some r) : CtI yX8_fewest cX8_fewest 4 .int 13 [.ref 53, .int a1] h r.1 r.2 :=
  ct_ofI (own := RX8) [.ref 53, .int a1, .null, .null] (by decide +kernel) rfl (fun ρ => Nat.le_of_ble_eq_true rfl) (fun ρ => rfl) (fun x g K => t_X8_fewest g a1 h r H K)
def CGT (d k : Nat) (as : List Int32) (h : Hp) (r : Int32 × Hp) : Prop := match k with
  | 0 => CtI yX8_turnFrom cX8_turnFrom 9 .int d (.ref 53 :: as.map .int) h r.1 r.2
  | _ => False
def P_X8_turnFrom_68 (x : Cx) (a1 : Int32) (a2 : Int32) (a3 : Int32) (a5 : Int32) (s : (Int32 × Int32 × Hp)) : Prop := WA x 68 [.ref 53, .int a1, .int a2, .int a3, .int s.1, .int a5, .int s.2.1, .null, .null] [] s.2.2
def E_X8_turnFrom_68 (x : Cx) (a1 : Int32) (a2 : Int32) (a3 : Int32) (a5 : Int32) : (Int32 × Int32 × Hp) → Prop := fun s : (Int32 × Int32 × Hp) => WA x 195 [.null, .null, .null, .null, .int s.1, .null, .null, .null, .null] [] s.2.2
def b_X8_turnFrom_68 (R : Nat → List Int32 → Hp → Option (Int32 × Hp)) (a1 : Int32) (a2 : Int32) (a3 : Int32) (a5 : Int32) (s : (Int32 × Int32 × Hp)) : Option ((Int32 × Int32 × Hp) ⊕ (Int32 × Int32 × Hp)) :=
  if (s.2.2.1 53 4) ≤ s.2.1 then
    some (.inr (s.1, s.2.1, s.2.2))
  else
    (rdI s.2.2 58 s.2.1).bind fun v5 =>
    if v5 = a5 then
      (rdI s.2.2 61 s.2.1).bind fun v7 =>
      if v7 = 1 then
        some (.inl (s.1, s.2.1 + 1, s.2.2))
      else
        (rdI s.2.2 55 a5).bind fun v9 =>
        (rdI s.2.2 54 v9).bind fun v10 =>
        (rdI s.2.2 55 a5).bind fun v11 =>
        (f_X8_calls s.2.1 v11 s.2.2).bind fun r12 =>
        (R 0 [a1 + 1, a2, a3] r12.2).bind fun r13 =>
        (wrI r13.2 61 s.2.1 0).bind fun h14 =>
        (rdI h14 55 a5).bind fun v15 =>
        (wrI h14 54 v15 v10).bind fun h16 =>
        if (a1 % 2) = 0 then
          some (.inl (mxI s.1 r13.1, s.2.1 + 1, h16))
        else
          some (.inl (mnI s.1 r13.1, s.2.1 + 1, h16))
    else
      some (.inl (s.1, s.2.1 + 1, s.2.2))
theorem tb_X8_turnFrom_68 {x : Cx} {dn : Nat} {R : Nat → List Int32 → Hp → Option (Int32 × Hp)} (hdn : 6 ≤ dn) (hR : ∀ k as h r, R k as h = some r → CGT dn k as h r) (g : Gx x RX8 cX8_turnFrom 9 (dn + 1)) (a1 : Int32) (a2 : Int32) (a3 : Int32) (a5 : Int32) (s : (Int32 × Int32 × Hp)) (out : (Int32 × Int32 × Hp) ⊕ (Int32 × Int32 × Hp)) (H : b_X8_turnFrom_68 R a1 a2 a3 a5 s = some out) (K : Sum.elim (P_X8_turnFrom_68 x a1 a2 a3 a5) (E_X8_turnFrom_68 x a1 a2 a3 a5) out) : P_X8_turnFrom_68 x a1 a2 a3 a5 s := by
  unfold b_X8_turnFrom_68 at H
  show WA x 68 [.ref 53, .int a1, .int a2, .int a3, .int s.1, .int a5, .int s.2.1, .null, .null] [] s.2.2
  refine st_iload g dX8_turnFrom_68 rfl ?_
  refine st_aload_n g dX8_turnFrom_70 rfl ?_
  refine gf_X8_117 g dX8_turnFrom_71 rfl ?_
  refine st_ic_ge g dX8_turnFrom_74 (tgt := 195) (by decide) H (fun q4 H => ?_) (fun q4 H => ?_)
  · obtain rfl := Option.some.inj H
    exact (wa_drop [0, 1, 2, 3, 5, 6] K)
  · refine st_aload_n g dX8_turnFrom_77 rfl ?_
    refine gf_X8_24 g dX8_turnFrom_78 rfl (r := 58) rfl ?_
    refine st_iload g dX8_turnFrom_81 rfl ?_
    refine st_iald g dX8_turnFrom_83 H (fun v5 H => ?_)
    refine st_iload g dX8_turnFrom_84 rfl ?_
    refine st_ic_ne g dX8_turnFrom_86 (tgt := 189) (by decide) H (fun q6 H => ?_) (fun q6 H => ?_)
    · refine st_iinc g dX8_turnFrom_189 rfl (ii_1 _) (Nat.le_of_ble_eq_true rfl) rfl (ls2 := [.ref 53, .int a1, .int a2, .int a3, .int s.1, .int a5, .int (s.2.1 + 1), .null, .null]) rfl ?_
      refine st_goto g dX8_turnFrom_192 (tgt := 68) (by decide) ?_
      obtain rfl := Option.some.inj H
      exact K
    · refine st_aload_n g dX8_turnFrom_89 rfl ?_
      refine gf_X8_33 g dX8_turnFrom_90 rfl (r := 61) rfl ?_
      refine st_iload g dX8_turnFrom_93 rfl ?_
      refine st_iald g dX8_turnFrom_95 H (fun v7 H => ?_)
      refine st_iconst g dX8_turnFrom_96 ic_1 ?_
      refine st_ic_ne g dX8_turnFrom_97 (tgt := 103) (by decide) H (fun q8 H => ?_) (fun q8 H => ?_)
      · refine st_aload_n g dX8_turnFrom_103 rfl ?_
        refine gf_X8_9 g dX8_turnFrom_104 rfl (r := 54) rfl ?_
        refine st_aload_n g dX8_turnFrom_107 rfl ?_
        refine gf_X8_15 g dX8_turnFrom_108 rfl (r := 55) rfl ?_
        refine st_iload g dX8_turnFrom_111 rfl ?_
        refine st_iald g dX8_turnFrom_113 H (fun v9 H => ?_)
        refine st_iald g dX8_turnFrom_114 H (fun v10 H => ?_)
        refine st_istore g dX8_turnFrom_115 (Nat.le_of_ble_eq_true rfl) rfl (ls2 := [.ref 53, .int a1, .int a2, .int a3, .int s.1, .int a5, .int s.2.1, .int v10, .null]) rfl ?_
        refine st_aload_n g dX8_turnFrom_117 rfl ?_
        refine st_iload g dX8_turnFrom_118 rfl ?_
        refine st_aload_n g dX8_turnFrom_120 rfl ?_
        refine gf_X8_15 g dX8_turnFrom_121 rfl (r := 55) rfl ?_
        refine st_iload g dX8_turnFrom_124 rfl ?_
        refine st_iald g dX8_turnFrom_126 H (fun v11 H => ?_)
        obtain ⟨r12, hr12, H⟩ := bind_some H
        refine st_callVI g (as := [.int s.2.1, .int v11]) dX8_turnFrom_127 rfl rfl ml_X8_260 mf_X8_calls rfl (Nat.le_of_ble_eq_true rfl) (by omega) (c_X8_calls s.2.1 v11 s.2.2 _ hr12) (fun hz => ?_)
        refine st_pop g dX8_turnFrom_130 rfl ?_
        refine st_aload_n g dX8_turnFrom_131 rfl ?_
        refine st_iload_n g dX8_turnFrom_132 rfl ?_
        refine st_iconst g dX8_turnFrom_133 ic_1 ?_
        refine st_iadd g dX8_turnFrom_134 ?_
        refine st_iload_n g dX8_turnFrom_135 rfl ?_
        refine st_iload_n g dX8_turnFrom_136 rfl ?_
        obtain ⟨r13, hr13, H⟩ := bind_some H
        refine st_callVI g (as := [.int (a1 + 1), .int a2, .int a3]) dX8_turnFrom_137 rfl rfl ml_X8_314 mf_X8_turnFrom rfl (Nat.le_of_ble_eq_true rfl) (by omega) (hR _ _ _ _ hr13) (fun hz => ?_)
        refine st_istore g dX8_turnFrom_140 (Nat.le_of_ble_eq_true rfl) rfl (ls2 := [.ref 53, .int a1, .int a2, .int a3, .int s.1, .int a5, .int s.2.1, .int v10, .int r13.1]) rfl ?_
        refine st_aload_n g dX8_turnFrom_142 rfl ?_
        refine gf_X8_33 g dX8_turnFrom_143 rfl (r := 61) rfl ?_
        refine st_iload g dX8_turnFrom_146 rfl ?_
        refine st_iconst g dX8_turnFrom_148 ic_0 ?_
        refine st_iast g dX8_turnFrom_149 H (fun h14 H => ?_)
        refine st_aload_n g dX8_turnFrom_150 rfl ?_
        refine gf_X8_9 g dX8_turnFrom_151 rfl (r := 54) rfl ?_
        refine st_aload_n g dX8_turnFrom_154 rfl ?_
        refine gf_X8_15 g dX8_turnFrom_155 rfl (r := 55) rfl ?_
        refine st_iload g dX8_turnFrom_158 rfl ?_
        refine st_iald g dX8_turnFrom_160 H (fun v15 H => ?_)
        refine st_iload g dX8_turnFrom_161 rfl ?_
        refine st_iast g dX8_turnFrom_163 H (fun h16 H => ?_)
        refine st_iload_n g dX8_turnFrom_164 rfl ?_
        refine st_iconst g dX8_turnFrom_165 ic_2 ?_
        refine st_irem g dX8_turnFrom_166 (by decide) ?_
        refine st_if_ne g dX8_turnFrom_167 (tgt := 180) (by decide) H (fun q17 H => ?_) (fun q17 H => ?_)
        · refine st_iload g dX8_turnFrom_180 rfl ?_
          refine st_iload g dX8_turnFrom_182 rfl ?_
          refine st_min g dX8_turnFrom_184 ml_X8_251 (Nat.le_of_ble_eq_true rfl) (by omega) ?_
          refine st_istore g dX8_turnFrom_187 (Nat.le_of_ble_eq_true rfl) rfl (ls2 := [.ref 53, .int a1, .int a2, .int a3, .int (mnI s.1 r13.1), .int a5, .int s.2.1, .int v10, .int r13.1]) rfl ?_
          refine st_iinc g dX8_turnFrom_189 rfl (ii_1 _) (Nat.le_of_ble_eq_true rfl) rfl (ls2 := [.ref 53, .int a1, .int a2, .int a3, .int (mnI s.1 r13.1), .int a5, .int (s.2.1 + 1), .int v10, .int r13.1]) rfl ?_
          refine st_goto g dX8_turnFrom_192 (tgt := 68) (by decide) ?_
          obtain rfl := Option.some.inj H
          exact (wa_drop [7, 8] K)
        · refine st_iload g dX8_turnFrom_170 rfl ?_
          refine st_iload g dX8_turnFrom_172 rfl ?_
          refine st_max g dX8_turnFrom_174 ml_X8_234 (Nat.le_of_ble_eq_true rfl) (by omega) ?_
          refine st_goto g dX8_turnFrom_177 (tgt := 187) (by decide) ?_
          refine st_istore g dX8_turnFrom_187 (Nat.le_of_ble_eq_true rfl) rfl (ls2 := [.ref 53, .int a1, .int a2, .int a3, .int (mxI s.1 r13.1), .int a5, .int s.2.1, .int v10, .int r13.1]) rfl ?_
          refine st_iinc g dX8_turnFrom_189 rfl (ii_1 _) (Nat.le_of_ble_eq_true rfl) rfl (ls2 := [.ref 53, .int a1, .int a2, .int a3, .int (mxI s.1 r13.1), .int a5, .int (s.2.1 + 1), .int v10, .int r13.1]) rfl ?_
          refine st_goto g dX8_turnFrom_192 (tgt := 68) (by decide) ?_
          obtain rfl := Option.some.inj H
          exact (wa_drop [7, 8] K)
      · refine st_goto g dX8_turnFrom_100 (tgt := 189) (by decide) ?_
        refine st_iinc g dX8_turnFrom_189 rfl (ii_1 _) (Nat.le_of_ble_eq_true rfl) rfl (ls2 := [.ref 53, .int a1, .int a2, .int a3, .int s.1, .int a5, .int (s.2.1 + 1), .null, .null]) rfl ?_
        refine st_goto g dX8_turnFrom_192 (tgt := 68) (by decide) ?_
        obtain rfl := Option.some.inj H
        exact K
def j_X8_turnFrom_63 (R : Nat → List Int32 → Hp → Option (Int32 × Hp)) (a1 : Int32) (a2 : Int32) (a3 : Int32) (a4 : Int32) (t0 : Int32) (h : Hp) : Option ((Int32 × Hp)) :=
  (iter (b_X8_turnFrom_68 R a1 a2 a3 t0) FU (a4, 0, h)).bind fun a18 =>
  some (a18.1, a18.2.2)
theorem tj_X8_turnFrom_63 {x : Cx} {dn : Nat} {R : Nat → List Int32 → Hp → Option (Int32 × Hp)} (hdn : 6 ≤ dn) (hR : ∀ k as h r, R k as h = some r → CGT dn k as h r) (g : Gx x RX8 cX8_turnFrom 9 (dn + 1)) (a1 : Int32) (a2 : Int32) (a3 : Int32) (a4 : Int32) (t0 : Int32) (h : Hp) (out : (Int32 × Hp)) (H : j_X8_turnFrom_63 R a1 a2 a3 a4 t0 h = some out) (K : RtI x .int out.1 out.2) : WA x 63 [.ref 53, .int a1, .int a2, .int a3, .int a4, .null, .null, .null, .null] [.int t0] h := by
  unfold j_X8_turnFrom_63 at H
  refine st_istore g dX8_turnFrom_63 (Nat.le_of_ble_eq_true rfl) rfl (ls2 := [.ref 53, .int a1, .int a2, .int a3, .int a4, .int t0, .null, .null, .null]) rfl ?_
  refine st_iconst g dX8_turnFrom_65 ic_0 ?_
  refine st_istore g dX8_turnFrom_66 (Nat.le_of_ble_eq_true rfl) rfl (ls2 := [.ref 53, .int a1, .int a2, .int a3, .int a4, .int t0, .int 0, .null, .null]) rfl ?_
  show P_X8_turnFrom_68 x a1 a2 a3 t0 (a4, 0, h)
  obtain ⟨a18, ha18, H⟩ := bind_some H
  refine iter_W (P := P_X8_turnFrom_68 x a1 a2 a3 t0) (E := E_X8_turnFrom_68 x a1 a2 a3 t0) (fun s9 o9 ho9 hK9 => tb_X8_turnFrom_68 hdn hR g a1 a2 a3 t0 s9 o9 ho9 hK9) FU _ a18 ha18 ?_
  show WA x 195 [.null, .null, .null, .null, .int a18.1, .null, .null, .null, .null] [] a18.2.2
  refine st_iload g dX8_turnFrom_195 rfl ?_
  obtain rfl := Option.some.inj H
  exact st_iret g dX8_turnFrom_197 rfl (fun q => by cases q) K
def m_X8_turnFrom (R : Nat → List Int32 → Hp → Option (Int32 × Hp)) (a1 : Int32) (a2 : Int32) (a3 : Int32) (h : Hp) : Option (Int32 × Hp) :=
  if a1 = a2 then
    (rdI h 55 (a3 / 10)).bind fun v19 =>
    (rdI h 54 v19).bind fun v20 =>
    (rdI h 55 (a3 % 10)).bind fun v21 =>
    (rdI h 54 v21).bind fun v22 =>
    some (v20 - v22, h)
  else
    (R 0 [a1 + 1, a2, a3] h).bind fun r2 =>
    if (a1 % 2) = 0 then
      j_X8_turnFrom_63 R a1 a2 a3 r2.1 (a3 / 10) r2.2
    else
      j_X8_turnFrom_63 R a1 a2 a3 r2.1 (a3 % 10) r2.2
theorem t_X8_turnFrom {x : Cx} {dn : Nat} {R : Nat → List Int32 → Hp → Option (Int32 × Hp)} (hdn : 6 ≤ dn) (hR : ∀ k as h r, R k as h = some r → CGT dn k as h r) (g : Gx x RX8 cX8_turnFrom 9 (dn + 1)) (a1 : Int32) (a2 : Int32) (a3 : Int32) (h : Hp) (out : (Int32 × Hp)) (H : m_X8_turnFrom R a1 a2 a3 h = some out) (K : RtI x .int out.1 out.2) : WA x 0 [.ref 53, .int a1, .int a2, .int a3, .null, .null, .null, .null, .null] [] h := by
  unfold m_X8_turnFrom at H
  refine st_iload_n g dX8_turnFrom_0 rfl ?_
  refine st_iload_n g dX8_turnFrom_1 rfl ?_
  refine st_ic_ne g dX8_turnFrom_2 (tgt := 35) (by decide) H (fun q1 H => ?_) (fun q1 H => ?_)
  · refine st_aload_n g dX8_turnFrom_35 rfl ?_
    refine st_iload_n g dX8_turnFrom_36 rfl ?_
    refine st_iconst g dX8_turnFrom_37 ic_1 ?_
    refine st_iadd g dX8_turnFrom_38 ?_
    refine st_iload_n g dX8_turnFrom_39 rfl ?_
    refine st_iload_n g dX8_turnFrom_40 rfl ?_
    obtain ⟨r2, hr2, H⟩ := bind_some H
    refine st_callVI g (as := [.int (a1 + 1), .int a2, .int a3]) dX8_turnFrom_41 rfl rfl ml_X8_314 mf_X8_turnFrom rfl (Nat.le_of_ble_eq_true rfl) (by omega) (hR _ _ _ _ hr2) (fun hz => ?_)
    refine st_istore g dX8_turnFrom_44 (Nat.le_of_ble_eq_true rfl) rfl (ls2 := [.ref 53, .int a1, .int a2, .int a3, .int r2.1, .null, .null, .null, .null]) rfl ?_
    refine st_iload_n g dX8_turnFrom_46 rfl ?_
    refine st_iconst g dX8_turnFrom_47 ic_2 ?_
    refine st_irem g dX8_turnFrom_48 (by decide) ?_
    refine st_if_ne g dX8_turnFrom_49 (tgt := 59) (by decide) H (fun q3 H => ?_) (fun q3 H => ?_)
    · refine st_iload_n g dX8_turnFrom_59 rfl ?_
      refine st_bipush g dX8_turnFrom_60 bi_10 ?_
      refine st_irem g dX8_turnFrom_62 (by decide) ?_
      exact (tj_X8_turnFrom_63 hdn hR g a1 a2 a3 r2.1 (a3 % 10) r2.2 _ H K)
    · refine st_iload_n g dX8_turnFrom_52 rfl ?_
      refine st_bipush g dX8_turnFrom_53 bi_10 ?_
      refine st_idiv g dX8_turnFrom_55 (by decide) ?_
      refine st_goto g dX8_turnFrom_56 (tgt := 63) (by decide) ?_
      exact (tj_X8_turnFrom_63 hdn hR g a1 a2 a3 r2.1 (a3 / 10) r2.2 _ H K)
  · refine st_aload_n g dX8_turnFrom_5 rfl ?_
    refine gf_X8_9 g dX8_turnFrom_6 rfl (r := 54) rfl ?_
    refine st_aload_n g dX8_turnFrom_9 rfl ?_
    refine gf_X8_15 g dX8_turnFrom_10 rfl (r := 55) rfl ?_
    refine st_iload_n g dX8_turnFrom_13 rfl ?_
    refine st_bipush g dX8_turnFrom_14 bi_10 ?_
    refine st_idiv g dX8_turnFrom_16 (by decide) ?_
    refine st_iald g dX8_turnFrom_17 H (fun v19 H => ?_)
    refine st_iald g dX8_turnFrom_18 H (fun v20 H => ?_)
    refine st_aload_n g dX8_turnFrom_19 rfl ?_
    refine gf_X8_9 g dX8_turnFrom_20 rfl (r := 54) rfl ?_
    refine st_aload_n g dX8_turnFrom_23 rfl ?_
    refine gf_X8_15 g dX8_turnFrom_24 rfl (r := 55) rfl ?_
    refine st_iload_n g dX8_turnFrom_27 rfl ?_
    refine st_bipush g dX8_turnFrom_28 bi_10 ?_
    refine st_irem g dX8_turnFrom_30 (by decide) ?_
    refine st_iald g dX8_turnFrom_31 H (fun v21 H => ?_)
    refine st_iald g dX8_turnFrom_32 H (fun v22 H => ?_)
    refine st_isub g dX8_turnFrom_33 ?_
    obtain rfl := Option.some.inj H
    exact st_iret g dX8_turnFrom_34 rfl (fun q => by cases q) K
theorem cm_X8_turnFrom {dn : Nat} {R : Nat → List Int32 → Hp → Option (Int32 × Hp)} (hdn : 6 ≤ dn) (hR : ∀ k as h r, R k as h = some r → CGT dn k as h r) (a1 : Int32) (a2 : Int32) (a3 : Int32) (h : Hp) (r : Int32 × Hp) (H : m_X8_turnFrom R a1 a2 a3 h = some r) : CtI yX8_turnFrom cX8_turnFrom 9 .int (dn + 1) [.ref 53, .int a1, .int a2, .int a3] h r.1 r.2 :=
  ct_ofI (own := RX8) [.ref 53, .int a1, .int a2, .int a3, .null, .null, .null, .null, .null] (by decide +kernel) rfl (fun ρ => Nat.le_of_ble_eq_true rfl) (fun ρ => rfl) (fun x g K => t_X8_turnFrom hdn hR g a1 a2 a3 h r H K)
def fG_GT : Nat → Nat → List Int32 → Hp → Option (Int32 × Hp)
  | 0, _, _, _ => none
  | n + 1, k, as, h => match k, as with
    | 0, [a1, a2, a3] => m_X8_turnFrom (fG_GT n) a1 a2 a3 h
    | _, _ => none
theorem cG_GT : ∀ (n k : Nat) (as : List Int32) (h : Hp) (r : Int32 × Hp), fG_GT n k as h = some r → CGT (6 + n) k as h r := by
  intro n
  induction n with
  | zero => intro k as h r H; cases H
  | succ n ih =>
    intro k as h r H
    unfold fG_GT at H
    split at H
    · exact cm_X8_turnFrom (Nat.le_add_right _ _) ih _ _ _ h r H
    · cases H
def f_X8_turnFrom (a1 : Int32) (a2 : Int32) (a3 : Int32) (h : Hp) : Option (Int32 × Hp) := fG_GT 8 0 [a1, a2, a3] h
theorem c_X8_turnFrom (a1 : Int32) (a2 : Int32) (a3 : Int32) (h : Hp) (r : Int32 × Hp) (H : f_X8_turnFrom a1 a2 a3 h = some r) : CtI yX8_turnFrom cX8_turnFrom 9 .int 14 [.ref 53, .int a1, .int a2, .int a3] h r.1 r.2 := cG_GT 8 0 [a1, a2, a3] h r H
def P_X8_byTurns_80 (x : Cx) (a1 : Int32) (a2 : Int32) (a3 : Int32) (a4 : Int32) (s : (Int32 × Int32 × Int32 × Hp)) : Prop := WA x 80 [.ref 53, .int a1, .int a2, .int a3, .int a4, .int s.1, .int s.2.1, .int s.2.2.1, .null, .null] [] s.2.2.2
def E_X8_byTurns_80 (x : Cx) (a1 : Int32) (a2 : Int32) (a3 : Int32) (a4 : Int32) : (Int32 × Int32 × Int32 × Hp) → Prop := fun s : (Int32 × Int32 × Int32 × Hp) => WA x 198 [.null, .null, .null, .int a3, .null, .int s.1, .int s.2.1, .null, .null, .null] [] s.2.2.2
def b_X8_byTurns_80 (a1 : Int32) (a2 : Int32) (a3 : Int32) (a4 : Int32) (s : (Int32 × Int32 × Int32 × Hp)) : Option ((Int32 × Int32 × Int32 × Hp) ⊕ (Int32 × Int32 × Int32 × Hp)) :=
  if (s.2.2.2.1 53 4) ≤ s.2.2.1 then
    some (.inr (s.1, s.2.1, s.2.2.1, s.2.2.2))
  else
    (rdI s.2.2.2 58 s.2.2.1).bind fun v13 =>
    if v13 = a4 then
      (rdI s.2.2.2 61 s.2.2.1).bind fun v15 =>
      if v15 = 1 then
        some (.inl (s.1, s.2.1, s.2.2.1 + 1, s.2.2.2))
      else
        (rdI s.2.2.2 55 a4).bind fun v17 =>
        (rdI s.2.2.2 54 v17).bind fun v18 =>
        (rdI s.2.2.2 55 a4).bind fun v19 =>
        (f_X8_calls s.2.2.1 v19 s.2.2.2).bind fun r20 =>
        (f_X8_turnFrom 1 a2 a1 r20.2).bind fun r21 =>
        (wrI r21.2 61 s.2.2.1 0).bind fun h22 =>
        (rdI h22 55 a4).bind fun v23 =>
        (wrI h22 54 v23 v18).bind fun h24 =>
        if s.1 < r21.1 then
          some (.inl (r21.1, s.2.2.1, s.2.2.1 + 1, h24))
        else
          some (.inl (s.1, s.2.1, s.2.2.1 + 1, h24))
    else
      some (.inl (s.1, s.2.1, s.2.2.1 + 1, s.2.2.2))
theorem tb_X8_byTurns_80 {x : Cx} (g : Gx x RX8 cX8_byTurns 10 15) (a1 : Int32) (a2 : Int32) (a3 : Int32) (a4 : Int32) (s : (Int32 × Int32 × Int32 × Hp)) (out : (Int32 × Int32 × Int32 × Hp) ⊕ (Int32 × Int32 × Int32 × Hp)) (H : b_X8_byTurns_80 a1 a2 a3 a4 s = some out) (K : Sum.elim (P_X8_byTurns_80 x a1 a2 a3 a4) (E_X8_byTurns_80 x a1 a2 a3 a4) out) : P_X8_byTurns_80 x a1 a2 a3 a4 s := by
  unfold b_X8_byTurns_80 at H
  show WA x 80 [.ref 53, .int a1, .int a2, .int a3, .int a4, .int s.1, .int s.2.1, .int s.2.2.1, .null, .null] [] s.2.2.2
  refine st_iload g dX8_byTurns_80 rfl ?_
  refine st_aload_n g dX8_byTurns_82 rfl ?_
  refine gf_X8_117 g dX8_byTurns_83 rfl ?_
  refine st_ic_ge g dX8_byTurns_86 (tgt := 198) (by decide) H (fun q12 H => ?_) (fun q12 H => ?_)
  · obtain rfl := Option.some.inj H
    exact (wa_drop [0, 1, 2, 4, 7] K)
  · refine st_aload_n g dX8_byTurns_89 rfl ?_
    refine gf_X8_24 g dX8_byTurns_90 rfl (r := 58) rfl ?_
    refine st_iload g dX8_byTurns_93 rfl ?_
    refine st_iald g dX8_byTurns_95 H (fun v13 H => ?_)
    refine st_iload g dX8_byTurns_96 rfl ?_
    refine st_ic_ne g dX8_byTurns_98 (tgt := 192) (by decide) H (fun q14 H => ?_) (fun q14 H => ?_)
    · refine st_iinc g dX8_byTurns_192 rfl (ii_1 _) (Nat.le_of_ble_eq_true rfl) rfl (ls2 := [.ref 53, .int a1, .int a2, .int a3, .int a4, .int s.1, .int s.2.1, .int (s.2.2.1 + 1), .null, .null]) rfl ?_
      refine st_goto g dX8_byTurns_195 (tgt := 80) (by decide) ?_
      obtain rfl := Option.some.inj H
      exact K
    · refine st_aload_n g dX8_byTurns_101 rfl ?_
      refine gf_X8_33 g dX8_byTurns_102 rfl (r := 61) rfl ?_
      refine st_iload g dX8_byTurns_105 rfl ?_
      refine st_iald g dX8_byTurns_107 H (fun v15 H => ?_)
      refine st_iconst g dX8_byTurns_108 ic_1 ?_
      refine st_ic_ne g dX8_byTurns_109 (tgt := 115) (by decide) H (fun q16 H => ?_) (fun q16 H => ?_)
      · refine st_aload_n g dX8_byTurns_115 rfl ?_
        refine gf_X8_9 g dX8_byTurns_116 rfl (r := 54) rfl ?_
        refine st_aload_n g dX8_byTurns_119 rfl ?_
        refine gf_X8_15 g dX8_byTurns_120 rfl (r := 55) rfl ?_
        refine st_iload g dX8_byTurns_123 rfl ?_
        refine st_iald g dX8_byTurns_125 H (fun v17 H => ?_)
        refine st_iald g dX8_byTurns_126 H (fun v18 H => ?_)
        refine st_istore g dX8_byTurns_127 (Nat.le_of_ble_eq_true rfl) rfl (ls2 := [.ref 53, .int a1, .int a2, .int a3, .int a4, .int s.1, .int s.2.1, .int s.2.2.1, .int v18, .null]) rfl ?_
        refine st_aload_n g dX8_byTurns_129 rfl ?_
        refine st_iload g dX8_byTurns_130 rfl ?_
        refine st_aload_n g dX8_byTurns_132 rfl ?_
        refine gf_X8_15 g dX8_byTurns_133 rfl (r := 55) rfl ?_
        refine st_iload g dX8_byTurns_136 rfl ?_
        refine st_iald g dX8_byTurns_138 H (fun v19 H => ?_)
        obtain ⟨r20, hr20, H⟩ := bind_some H
        refine st_callVI g (as := [.int s.2.2.1, .int v19]) dX8_byTurns_139 rfl rfl ml_X8_260 mf_X8_calls rfl (Nat.le_of_ble_eq_true rfl) (Nat.le_of_ble_eq_true rfl) (c_X8_calls s.2.2.1 v19 s.2.2.2 _ hr20) (fun hz => ?_)
        refine st_pop g dX8_byTurns_142 rfl ?_
        refine st_aload_n g dX8_byTurns_143 rfl ?_
        refine st_iconst g dX8_byTurns_144 ic_1 ?_
        refine st_iload_n g dX8_byTurns_145 rfl ?_
        refine st_iload_n g dX8_byTurns_146 rfl ?_
        obtain ⟨r21, hr21, H⟩ := bind_some H
        refine st_callVI g (as := [.int 1, .int a2, .int a1]) dX8_byTurns_147 rfl rfl ml_X8_314 mf_X8_turnFrom rfl (Nat.le_of_ble_eq_true rfl) (Nat.le_of_ble_eq_true rfl) (c_X8_turnFrom 1 a2 a1 r20.2 _ hr21) (fun hz => ?_)
        refine st_istore g dX8_byTurns_150 (Nat.le_of_ble_eq_true rfl) rfl (ls2 := [.ref 53, .int a1, .int a2, .int a3, .int a4, .int s.1, .int s.2.1, .int s.2.2.1, .int v18, .int r21.1]) rfl ?_
        refine st_aload_n g dX8_byTurns_152 rfl ?_
        refine gf_X8_33 g dX8_byTurns_153 rfl (r := 61) rfl ?_
        refine st_iload g dX8_byTurns_156 rfl ?_
        refine st_iconst g dX8_byTurns_158 ic_0 ?_
        refine st_iast g dX8_byTurns_159 H (fun h22 H => ?_)
        refine st_aload_n g dX8_byTurns_160 rfl ?_
        refine gf_X8_9 g dX8_byTurns_161 rfl (r := 54) rfl ?_
        refine st_aload_n g dX8_byTurns_164 rfl ?_
        refine gf_X8_15 g dX8_byTurns_165 rfl (r := 55) rfl ?_
        refine st_iload g dX8_byTurns_168 rfl ?_
        refine st_iald g dX8_byTurns_170 H (fun v23 H => ?_)
        refine st_iload g dX8_byTurns_171 rfl ?_
        refine st_iast g dX8_byTurns_173 H (fun h24 H => ?_)
        refine st_iload g dX8_byTurns_174 rfl ?_
        refine st_iload g dX8_byTurns_176 rfl ?_
        refine st_ic_gt g dX8_byTurns_178 (tgt := 184) (by decide) H (fun q25 H => ?_) (fun q25 H => ?_)
        · refine st_iload g dX8_byTurns_184 rfl ?_
          refine st_istore g dX8_byTurns_186 (Nat.le_of_ble_eq_true rfl) rfl (ls2 := [.ref 53, .int a1, .int a2, .int a3, .int a4, .int r21.1, .int s.2.1, .int s.2.2.1, .int v18, .int r21.1]) rfl ?_
          refine st_iload g dX8_byTurns_188 rfl ?_
          refine st_istore g dX8_byTurns_190 (Nat.le_of_ble_eq_true rfl) rfl (ls2 := [.ref 53, .int a1, .int a2, .int a3, .int a4, .int r21.1, .int s.2.2.1, .int s.2.2.1, .int v18, .int r21.1]) rfl ?_
          refine st_iinc g dX8_byTurns_192 rfl (ii_1 _) (Nat.le_of_ble_eq_true rfl) rfl (ls2 := [.ref 53, .int a1, .int a2, .int a3, .int a4, .int r21.1, .int s.2.2.1, .int (s.2.2.1 + 1), .int v18, .int r21.1]) rfl ?_
          refine st_goto g dX8_byTurns_195 (tgt := 80) (by decide) ?_
          obtain rfl := Option.some.inj H
          exact (wa_drop [8, 9] K)
        · refine st_goto g dX8_byTurns_181 (tgt := 192) (by decide) ?_
          refine st_iinc g dX8_byTurns_192 rfl (ii_1 _) (Nat.le_of_ble_eq_true rfl) rfl (ls2 := [.ref 53, .int a1, .int a2, .int a3, .int a4, .int s.1, .int s.2.1, .int (s.2.2.1 + 1), .int v18, .int r21.1]) rfl ?_
          refine st_goto g dX8_byTurns_195 (tgt := 80) (by decide) ?_
          obtain rfl := Option.some.inj H
          exact (wa_drop [8, 9] K)
      · refine st_goto g dX8_byTurns_112 (tgt := 192) (by decide) ?_
        refine st_iinc g dX8_byTurns_192 rfl (ii_1 _) (Nat.le_of_ble_eq_true rfl) rfl (ls2 := [.ref 53, .int a1, .int a2, .int a3, .int a4, .int s.1, .int s.2.1, .int (s.2.2.1 + 1), .null, .null]) rfl ?_
        refine st_goto g dX8_byTurns_195 (tgt := 80) (by decide) ?_
        obtain rfl := Option.some.inj H
        exact K
def f_X8_byTurns (a1 : Int32) (a2 : Int32) (a3 : Int32) (h : Hp) : Option (Int32 × Hp) :=
  if a1 < 0 then
    some ((-2000000000), h)
  else
    (f_X8_isOne (a1 / 10) h).bind fun r2 =>
    if r2 = 0 then
      some ((-2000000000), h)
    else
      (f_X8_isOne (a1 % 10) h).bind fun r4 =>
      if r4 = 0 then
        some ((-2000000000), h)
      else
        if (a1 / 10) = (a1 % 10) then
          some ((-2000000000), h)
        else
          (f_X8_within a2 1 4).bind fun r7 =>
          if r7 = 0 then
            some ((-2000000000), h)
          else
            (f_X8_within a3 0 1).bind fun r9 =>
            if r9 = 0 then
              some ((-2000000000), h)
            else
              (f_X8_turnFrom 1 a2 a1 h).bind fun r11 =>
              (iter (b_X8_byTurns_80 a1 a2 a3 (a1 / 10)) FU (r11.1, 12, 0, r11.2)).bind fun a26 =>
              if a3 = 0 then
                some (a26.1, a26.2.2.2)
              else
                some (a26.2.1, a26.2.2.2)
theorem t_X8_byTurns {x : Cx} (g : Gx x RX8 cX8_byTurns 10 15) (a1 : Int32) (a2 : Int32) (a3 : Int32) (h : Hp) (out : (Int32 × Hp)) (H : f_X8_byTurns a1 a2 a3 h = some out) (K : RtI x .int out.1 out.2) : WA x 0 [.ref 53, .int a1, .int a2, .int a3, .null, .null, .null, .null, .null, .null] [] h := by
  unfold f_X8_byTurns at H
  refine st_iload_n g dX8_byTurns_0 rfl ?_
  refine st_if_lt g dX8_byTurns_1 (tgt := 55) (by decide) H (fun q1 H => ?_) (fun q1 H => ?_)
  · refine st_ldc g dX8_byTurns_55 kc_X8_156 ?_
    obtain rfl := Option.some.inj H
    exact st_iret g dX8_byTurns_57 rfl (fun q => by cases q) K
  · refine st_aload_n g dX8_byTurns_4 rfl ?_
    refine st_iload_n g dX8_byTurns_5 rfl ?_
    refine st_bipush g dX8_byTurns_6 bi_10 ?_
    refine st_idiv g dX8_byTurns_8 (by decide) ?_
    obtain ⟨r2, hr2, H⟩ := bind_some H
    refine st_callVI g (as := [.int (a1 / 10)]) dX8_byTurns_9 rfl rfl ml_X8_124 mf_X8_isOne rfl (Nat.le_of_ble_eq_true rfl) (Nat.le_of_ble_eq_true rfl) (c_X8_isOne (a1 / 10) h _ hr2) (fun hz => ?_)
    have br2 := hz rfl
    refine st_if_eq g dX8_byTurns_12 (tgt := 55) (by decide) H (fun q3 H => ?_) (fun q3 H => ?_)
    · refine st_ldc g dX8_byTurns_55 kc_X8_156 ?_
      obtain rfl := Option.some.inj H
      exact st_iret g dX8_byTurns_57 rfl (fun q => by cases q) K
    · refine st_aload_n g dX8_byTurns_15 rfl ?_
      refine st_iload_n g dX8_byTurns_16 rfl ?_
      refine st_bipush g dX8_byTurns_17 bi_10 ?_
      refine st_irem g dX8_byTurns_19 (by decide) ?_
      obtain ⟨r4, hr4, H⟩ := bind_some H
      refine st_callVI g (as := [.int (a1 % 10)]) dX8_byTurns_20 rfl rfl ml_X8_124 mf_X8_isOne rfl (Nat.le_of_ble_eq_true rfl) (Nat.le_of_ble_eq_true rfl) (c_X8_isOne (a1 % 10) h _ hr4) (fun hz => ?_)
      have br4 := hz rfl
      refine st_if_eq g dX8_byTurns_23 (tgt := 55) (by decide) H (fun q5 H => ?_) (fun q5 H => ?_)
      · refine st_ldc g dX8_byTurns_55 kc_X8_156 ?_
        obtain rfl := Option.some.inj H
        exact st_iret g dX8_byTurns_57 rfl (fun q => by cases q) K
      · refine st_iload_n g dX8_byTurns_26 rfl ?_
        refine st_bipush g dX8_byTurns_27 bi_10 ?_
        refine st_idiv g dX8_byTurns_29 (by decide) ?_
        refine st_iload_n g dX8_byTurns_30 rfl ?_
        refine st_bipush g dX8_byTurns_31 bi_10 ?_
        refine st_irem g dX8_byTurns_33 (by decide) ?_
        refine st_ic_eq g dX8_byTurns_34 (tgt := 55) (by decide) H (fun q6 H => ?_) (fun q6 H => ?_)
        · refine st_ldc g dX8_byTurns_55 kc_X8_156 ?_
          obtain rfl := Option.some.inj H
          exact st_iret g dX8_byTurns_57 rfl (fun q => by cases q) K
        · refine st_iload_n g dX8_byTurns_37 rfl ?_
          refine st_iconst g dX8_byTurns_38 ic_1 ?_
          refine st_iconst g dX8_byTurns_39 ic_4 ?_
          obtain ⟨r7, hr7, H⟩ := bind_some H
          refine st_callSI g (as := [.int a2, .int 1, .int 4]) dX8_byTurns_40 ml_X8_109 mf_X8_within rfl (Nat.le_of_ble_eq_true rfl) (Nat.le_of_ble_eq_true rfl) (c_X8_within a2 1 4 h _ hr7) (fun hz => ?_)
          have br7 := hz rfl
          refine st_if_eq g dX8_byTurns_43 (tgt := 55) (by decide) H (fun q8 H => ?_) (fun q8 H => ?_)
          · refine st_ldc g dX8_byTurns_55 kc_X8_156 ?_
            obtain rfl := Option.some.inj H
            exact st_iret g dX8_byTurns_57 rfl (fun q => by cases q) K
          · refine st_iload_n g dX8_byTurns_46 rfl ?_
            refine st_iconst g dX8_byTurns_47 ic_0 ?_
            refine st_iconst g dX8_byTurns_48 ic_1 ?_
            obtain ⟨r9, hr9, H⟩ := bind_some H
            refine st_callSI g (as := [.int a3, .int 0, .int 1]) dX8_byTurns_49 ml_X8_109 mf_X8_within rfl (Nat.le_of_ble_eq_true rfl) (Nat.le_of_ble_eq_true rfl) (c_X8_within a3 0 1 h _ hr9) (fun hz => ?_)
            have br9 := hz rfl
            refine st_if_ne g dX8_byTurns_52 (tgt := 58) (by decide) H (fun q10 H => ?_) (fun q10 H => ?_)
            · refine st_iload_n g dX8_byTurns_58 rfl ?_
              refine st_bipush g dX8_byTurns_59 bi_10 ?_
              refine st_idiv g dX8_byTurns_61 (by decide) ?_
              refine st_istore g dX8_byTurns_62 (Nat.le_of_ble_eq_true rfl) rfl (ls2 := [.ref 53, .int a1, .int a2, .int a3, .int (a1 / 10), .null, .null, .null, .null, .null]) rfl ?_
              refine st_aload_n g dX8_byTurns_64 rfl ?_
              refine st_iconst g dX8_byTurns_65 ic_1 ?_
              refine st_iload_n g dX8_byTurns_66 rfl ?_
              refine st_iload_n g dX8_byTurns_67 rfl ?_
              obtain ⟨r11, hr11, H⟩ := bind_some H
              refine st_callVI g (as := [.int 1, .int a2, .int a1]) dX8_byTurns_68 rfl rfl ml_X8_314 mf_X8_turnFrom rfl (Nat.le_of_ble_eq_true rfl) (Nat.le_of_ble_eq_true rfl) (c_X8_turnFrom 1 a2 a1 h _ hr11) (fun hz => ?_)
              refine st_istore g dX8_byTurns_71 (Nat.le_of_ble_eq_true rfl) rfl (ls2 := [.ref 53, .int a1, .int a2, .int a3, .int (a1 / 10), .int r11.1, .null, .null, .null, .null]) rfl ?_
              refine st_bipush g dX8_byTurns_73 bi_12 ?_
              refine st_istore g dX8_byTurns_75 (Nat.le_of_ble_eq_true rfl) rfl (ls2 := [.ref 53, .int a1, .int a2, .int a3, .int (a1 / 10), .int r11.1, .int 12, .null, .null, .null]) rfl ?_
              refine st_iconst g dX8_byTurns_77 ic_0 ?_
              refine st_istore g dX8_byTurns_78 (Nat.le_of_ble_eq_true rfl) rfl (ls2 := [.ref 53, .int a1, .int a2, .int a3, .int (a1 / 10), .int r11.1, .int 12, .int 0, .null, .null]) rfl ?_
              show P_X8_byTurns_80 x a1 a2 a3 (a1 / 10) (r11.1, 12, 0, r11.2)
              obtain ⟨a26, ha26, H⟩ := bind_some H
              refine iter_W (P := P_X8_byTurns_80 x a1 a2 a3 (a1 / 10)) (E := E_X8_byTurns_80 x a1 a2 a3 (a1 / 10)) (fun s9 o9 ho9 hK9 => tb_X8_byTurns_80 g a1 a2 a3 (a1 / 10) s9 o9 ho9 hK9) FU _ a26 ha26 ?_
              show WA x 198 [.null, .null, .null, .int a3, .null, .int a26.1, .int a26.2.1, .null, .null, .null] [] a26.2.2.2
              refine st_iload_n g dX8_byTurns_198 rfl ?_
              refine st_if_ne g dX8_byTurns_199 (tgt := 207) (by decide) H (fun q27 H => ?_) (fun q27 H => ?_)
              · refine st_iload g dX8_byTurns_207 rfl ?_
                obtain rfl := Option.some.inj H
                exact st_iret g dX8_byTurns_209 rfl (fun q => by cases q) K
              · refine st_iload g dX8_byTurns_202 rfl ?_
                refine st_goto g dX8_byTurns_204 (tgt := 209) (by decide) ?_
                obtain rfl := Option.some.inj H
                exact st_iret g dX8_byTurns_209 rfl (fun q => by cases q) K
            · refine st_ldc g dX8_byTurns_55 kc_X8_156 ?_
              obtain rfl := Option.some.inj H
              exact st_iret g dX8_byTurns_57 rfl (fun q => by cases q) K
theorem c_X8_byTurns (a1 : Int32) (a2 : Int32) (a3 : Int32) (h : Hp) (r : (Int32 × Hp)) (H : f_X8_byTurns a1 a2 a3 h = some r) : CtI yX8_byTurns cX8_byTurns 10 .int 15 [.ref 53, .int a1, .int a2, .int a3] h r.1 r.2 :=
  ct_ofI (own := RX8) [.ref 53, .int a1, .int a2, .int a3, .null, .null, .null, .null, .null, .null] (by decide +kernel) rfl (fun ρ => Nat.le_of_ble_eq_true rfl) (fun ρ => rfl) (fun x g K => t_X8_byTurns g a1 a2 a3 h r H K)
def CGC (d k : Nat) (as : List Int32) (h : Hp) (r : Int32 × Hp) : Prop := match k with
  | 0 => CtV yX2_choose cX2_choose 8 d (.ref 44 :: as.map .int) h r.2
  | _ => False
def j_X2_choose_114 (R : Nat → List Int32 → Hp → Option (Int32 × Hp)) (a1 : Int32) (a2 : Int32) (a3 : Int32) (a4 : Int32) (a5 : Int32) (h : Hp) : Option ((Int32 × Hp)) :=
  (R 0 [a1 + 1, a2, a3, a4, a5] h).bind fun r7 =>
  some (0, r7.2)
theorem tj_X2_choose_114 {x : Cx} {dn : Nat} {R : Nat → List Int32 → Hp → Option (Int32 × Hp)} (hdn : 3 ≤ dn) (hR : ∀ k as h r, R k as h = some r → CGC dn k as h r) (g : Gx x RX2 cX2_choose 8 (dn + 1)) (a1 : Int32) (a2 : Int32) (a3 : Int32) (a4 : Int32) (a5 : Int32) (h : Hp) (out : (Int32 × Hp)) (H : j_X2_choose_114 R a1 a2 a3 a4 a5 h = some out) (K : RtV x out.2) : WA x 114 [.ref 44, .int a1, .int a2, .int a3, .int a4, .int a5, .null, .null] [] h := by
  unfold j_X2_choose_114 at H
  refine st_aload_n g dX2_choose_114 rfl ?_
  refine st_iload_n g dX2_choose_115 rfl ?_
  refine st_iconst g dX2_choose_116 ic_1 ?_
  refine st_iadd g dX2_choose_117 ?_
  refine st_iload_n g dX2_choose_118 rfl ?_
  refine st_iload_n g dX2_choose_119 rfl ?_
  refine st_iload g dX2_choose_120 rfl ?_
  refine st_iload g dX2_choose_122 rfl ?_
  obtain ⟨r7, hr7, H⟩ := bind_some H
  refine st_callVV g (as := [.int (a1 + 1), .int a2, .int a3, .int a4, .int a5]) dX2_choose_124 rfl rfl ml_X2_34 mf_X2_choose rfl (Nat.le_of_ble_eq_true rfl) (by omega) (hR _ _ _ _ hr7) ?_
  obtain rfl := Option.some.inj H
  exact st_vret g dX2_choose_127 K
def m_X2_choose (R : Nat → List Int32 → Hp → Option (Int32 × Hp)) (a1 : Int32) (a2 : Int32) (a3 : Int32) (a4 : Int32) (a5 : Int32) (h : Hp) : Option (Int32 × Hp) :=
  if a1 < (h.1 44 4) then
    (f_X2_restFrom a1 h).bind fun r2 =>
    if (h.1 44 5) ≤ (a2 + r2) then
      (rdI h 46 a1).bind fun v4 =>
      (rdI h 47 a1).bind fun v5 =>
      if (a4 &&& ((1 : Int32) <<< (v4 &&& 31))) = 0 then
        if (a5 &&& ((1 : Int32) <<< (v5 &&& 31))) = 0 then
          (rdI h 48 a1).bind fun v9 =>
          (rdI h 45 a1).bind fun v10 =>
          (R 0 [a1 + 1, a2 + v9, a3 ||| ((1 : Int32) <<< (v10 &&& 31)), a4 ||| ((1 : Int32) <<< (v4 &&& 31)), a5 ||| ((1 : Int32) <<< (v5 &&& 31))] h).bind fun r11 =>
          j_X2_choose_114 R a1 a2 a3 a4 a5 r11.2
        else
          j_X2_choose_114 R a1 a2 a3 a4 a5 h
      else
        j_X2_choose_114 R a1 a2 a3 a4 a5 h
    else
      some (0, h)
  else
    (f_X2_isBetter a2 a3 h).bind fun r12 =>
    if r12 = 0 then
      some (0, h)
    else
      lt (stI h 44 5 a2) fun h14 =>
      lt (stI h14 44 6 a3) fun h15 =>
      some (0, h15)
theorem t_X2_choose {x : Cx} {dn : Nat} {R : Nat → List Int32 → Hp → Option (Int32 × Hp)} (hdn : 3 ≤ dn) (hR : ∀ k as h r, R k as h = some r → CGC dn k as h r) (g : Gx x RX2 cX2_choose 8 (dn + 1)) (a1 : Int32) (a2 : Int32) (a3 : Int32) (a4 : Int32) (a5 : Int32) (h : Hp) (out : (Int32 × Hp)) (H : m_X2_choose R a1 a2 a3 a4 a5 h = some out) (K : RtV x out.2) : WA x 0 [.ref 44, .int a1, .int a2, .int a3, .int a4, .int a5, .null, .null] [] h := by
  unfold m_X2_choose at H
  refine st_iload_n g dX2_choose_0 rfl ?_
  refine st_aload_n g dX2_choose_1 rfl ?_
  refine gf_X2_24 g dX2_choose_2 rfl ?_
  refine st_ic_lt g dX2_choose_5 (tgt := 28) (by decide) H (fun q1 H => ?_) (fun q1 H => ?_)
  · refine st_iload_n g dX2_choose_28 rfl ?_
    refine st_aload_n g dX2_choose_29 rfl ?_
    refine st_iload_n g dX2_choose_30 rfl ?_
    obtain ⟨r2, hr2, H⟩ := bind_some H
    refine st_callVI g (as := [.int a1]) dX2_choose_31 rfl rfl ml_X2_42 mf_X2_restFrom rfl (Nat.le_of_ble_eq_true rfl) (by omega) (c_X2_restFrom a1 h _ hr2) (fun hz => ?_)
    refine st_iadd g dX2_choose_34 ?_
    refine st_aload_n g dX2_choose_35 rfl ?_
    refine gf_X2_28 g dX2_choose_36 rfl ?_
    refine st_ic_ge g dX2_choose_39 (tgt := 43) (by decide) H (fun q3 H => ?_) (fun q3 H => ?_)
    · refine st_iconst g dX2_choose_43 ic_1 ?_
      refine st_aload_n g dX2_choose_44 rfl ?_
      refine gf_X2_15 g dX2_choose_45 rfl (r := 46) rfl ?_
      refine st_iload_n g dX2_choose_48 rfl ?_
      refine st_iald g dX2_choose_49 H (fun v4 H => ?_)
      refine st_ishl g dX2_choose_50 ?_
      refine st_istore g dX2_choose_51 (Nat.le_of_ble_eq_true rfl) rfl (ls2 := [.ref 44, .int a1, .int a2, .int a3, .int a4, .int a5, .int ((1 : Int32) <<< (v4 &&& 31)), .null]) rfl ?_
      refine st_iconst g dX2_choose_53 ic_1 ?_
      refine st_aload_n g dX2_choose_54 rfl ?_
      refine gf_X2_18 g dX2_choose_55 rfl (r := 47) rfl ?_
      refine st_iload_n g dX2_choose_58 rfl ?_
      refine st_iald g dX2_choose_59 H (fun v5 H => ?_)
      refine st_ishl g dX2_choose_60 ?_
      refine st_istore g dX2_choose_61 (Nat.le_of_ble_eq_true rfl) rfl (ls2 := [.ref 44, .int a1, .int a2, .int a3, .int a4, .int a5, .int ((1 : Int32) <<< (v4 &&& 31)), .int ((1 : Int32) <<< (v5 &&& 31))]) rfl ?_
      refine st_iload g dX2_choose_63 rfl ?_
      refine st_iload g dX2_choose_65 rfl ?_
      refine st_iand g dX2_choose_67 ?_
      refine st_if_ne g dX2_choose_68 (tgt := 114) (by decide) H (fun q6 H => ?_) (fun q6 H => ?_)
      · exact (wa_drop [6, 7] (tj_X2_choose_114 hdn hR g a1 a2 a3 a4 a5 h _ H K))
      · refine st_iload g dX2_choose_71 rfl ?_
        refine st_iload g dX2_choose_73 rfl ?_
        refine st_iand g dX2_choose_75 ?_
        refine st_if_ne g dX2_choose_76 (tgt := 114) (by decide) H (fun q8 H => ?_) (fun q8 H => ?_)
        · exact (wa_drop [6, 7] (tj_X2_choose_114 hdn hR g a1 a2 a3 a4 a5 h _ H K))
        · refine st_aload_n g dX2_choose_79 rfl ?_
          refine st_iload_n g dX2_choose_80 rfl ?_
          refine st_iconst g dX2_choose_81 ic_1 ?_
          refine st_iadd g dX2_choose_82 ?_
          refine st_iload_n g dX2_choose_83 rfl ?_
          refine st_aload_n g dX2_choose_84 rfl ?_
          refine gf_X2_21 g dX2_choose_85 rfl (r := 48) rfl ?_
          refine st_iload_n g dX2_choose_88 rfl ?_
          refine st_iald g dX2_choose_89 H (fun v9 H => ?_)
          refine st_iadd g dX2_choose_90 ?_
          refine st_iload_n g dX2_choose_91 rfl ?_
          refine st_iconst g dX2_choose_92 ic_1 ?_
          refine st_aload_n g dX2_choose_93 rfl ?_
          refine gf_X2_9 g dX2_choose_94 rfl (r := 45) rfl ?_
          refine st_iload_n g dX2_choose_97 rfl ?_
          refine st_iald g dX2_choose_98 H (fun v10 H => ?_)
          refine st_ishl g dX2_choose_99 ?_
          refine st_ior g dX2_choose_100 ?_
          refine st_iload g dX2_choose_101 rfl ?_
          refine st_iload g dX2_choose_103 rfl ?_
          refine st_ior g dX2_choose_105 ?_
          refine st_iload g dX2_choose_106 rfl ?_
          refine st_iload g dX2_choose_108 rfl ?_
          refine st_ior g dX2_choose_110 ?_
          obtain ⟨r11, hr11, H⟩ := bind_some H
          refine st_callVV g (as := [.int (a1 + 1), .int (a2 + v9), .int (a3 ||| ((1 : Int32) <<< (v10 &&& 31))), .int (a4 ||| ((1 : Int32) <<< (v4 &&& 31))), .int (a5 ||| ((1 : Int32) <<< (v5 &&& 31)))]) dX2_choose_111 rfl rfl ml_X2_34 mf_X2_choose rfl (Nat.le_of_ble_eq_true rfl) (by omega) (hR _ _ _ _ hr11) ?_
          exact (wa_drop [6, 7] (tj_X2_choose_114 hdn hR g a1 a2 a3 a4 a5 r11.2 _ H K))
    · obtain rfl := Option.some.inj H
      exact st_vret g dX2_choose_42 K
  · refine st_aload_n g dX2_choose_8 rfl ?_
    refine st_iload_n g dX2_choose_9 rfl ?_
    refine st_iload_n g dX2_choose_10 rfl ?_
    obtain ⟨r12, hr12, H⟩ := bind_some H
    refine st_callVI g (as := [.int a2, .int a3]) dX2_choose_11 rfl rfl ml_X2_38 mf_X2_isBetter rfl (Nat.le_of_ble_eq_true rfl) (by omega) (c_X2_isBetter a2 a3 h _ hr12) (fun hz => ?_)
    have br12 := hz rfl
    refine st_if_eq g dX2_choose_14 (tgt := 27) (by decide) H (fun q13 H => ?_) (fun q13 H => ?_)
    · obtain rfl := Option.some.inj H
      exact st_vret g dX2_choose_27 K
    · refine st_aload_n g dX2_choose_17 rfl ?_
      refine st_iload_n g dX2_choose_18 rfl ?_
      refine pu_X2_28 g dX2_choose_19 rfl ?_
      refine wa_ltH H (fun h14 H => ?_)
      refine st_aload_n g dX2_choose_22 rfl ?_
      refine st_iload_n g dX2_choose_23 rfl ?_
      refine pu_X2_31 g dX2_choose_24 rfl ?_
      refine wa_ltH H (fun h15 H => ?_)
      obtain rfl := Option.some.inj H
      exact st_vret g dX2_choose_27 K
theorem cm_X2_choose {dn : Nat} {R : Nat → List Int32 → Hp → Option (Int32 × Hp)} (hdn : 3 ≤ dn) (hR : ∀ k as h r, R k as h = some r → CGC dn k as h r) (a1 : Int32) (a2 : Int32) (a3 : Int32) (a4 : Int32) (a5 : Int32) (h : Hp) (r : Int32 × Hp) (H : m_X2_choose R a1 a2 a3 a4 a5 h = some r) : CtV yX2_choose cX2_choose 8 (dn + 1) [.ref 44, .int a1, .int a2, .int a3, .int a4, .int a5] h r.2 :=
  ct_ofV (own := RX2) [.ref 44, .int a1, .int a2, .int a3, .int a4, .int a5, .null, .null] (by decide +kernel) rfl (fun ρ => Nat.le_of_ble_eq_true rfl) (fun ρ => rfl) (fun x g K => t_X2_choose hdn hR g a1 a2 a3 a4 a5 h r H K)
def fG_GC : Nat → Nat → List Int32 → Hp → Option (Int32 × Hp)
  | 0, _, _, _ => none
  | n + 1, k, as, h => match k, as with
    | 0, [a1, a2, a3, a4, a5] => m_X2_choose (fG_GC n) a1 a2 a3 a4 a5 h
    | _, _ => none
theorem cG_GC : ∀ (n k : Nat) (as : List Int32) (h : Hp) (r : Int32 × Hp), fG_GC n k as h = some r → CGC (3 + n) k as h r := by
  intro n
  induction n with
  | zero => intro k as h r H; cases H
  | succ n ih =>
    intro k as h r H
    unfold fG_GC at H
    split at H
    · exact cm_X2_choose (Nat.le_add_right _ _) ih _ _ _ _ _ h r H
    · cases H
def f_X2_choose (a1 : Int32) (a2 : Int32) (a3 : Int32) (a4 : Int32) (a5 : Int32) (h : Hp) : Option Hp := (fG_GC 20 0 [a1, a2, a3, a4, a5] h).map (·.2)
theorem c_X2_choose (a1 : Int32) (a2 : Int32) (a3 : Int32) (a4 : Int32) (a5 : Int32) (h : Hp) (r : Hp) (H : f_X2_choose a1 a2 a3 a4 a5 h = some r) : CtV yX2_choose cX2_choose 8 23 [.ref 44, .int a1, .int a2, .int a3, .int a4, .int a5] h r := by
  obtain ⟨q, h1, rfl⟩ := Option.map_eq_some_iff.mp H
  exact cG_GC 20 0 [a1, a2, a3, a4, a5] h q h1
def CGS (d k : Nat) (as : List Int32) (h : Hp) (r : Int32 × Hp) : Prop := match k with
  | 0 => CtI yX8_slamsBy cX8_slamsBy 5 .int d (.ref 53 :: as.map .int) h r.1 r.2
  | _ => False
def m_X8_slamsBy (R : Nat → List Int32 → Hp → Option (Int32 × Hp)) (a1 : Int32) (a2 : Int32) (a3 : Int32) (h : Hp) : Option (Int32 × Hp) :=
  if a2 = 0 then
    (f_X8_ran 11 h).bind fun r2 =>
    some (a3 ^^^ a1, r2)
  else
  if a2 = 1 then
    (f_X8_above a2).bind fun r4 =>
    (R 0 [a1, r4, a3] h).bind fun r5 =>
    some (r5.1, r5.2)
  else
  if a2 = 2 then
    (f_X8_above a2).bind fun r7 =>
    (R 0 [a1, r7, a3] h).bind fun r8 =>
    some (r8.1, r8.2)
  else
  if a2 = 3 then
    (f_X8_ran 40 h).bind fun r10 =>
    (R 0 [a1, 2, a3] r10).bind fun r11 =>
    some (r11.1 * 3, r11.2)
  else
  if a2 = 4 then
    (f_X8_ran 50 h).bind fun r13 =>
    (R 0 [a1, 1, a3] r13).bind fun r14 =>
    (rdI r14.2 77 a1).bind fun v15 =>
    (f_X8_opensBy a1 v15 2 r14.2).bind fun r16 =>
    some (r14.1 - r16.1, r16.2)
  else
    (f_X8_above a2).bind fun r17 =>
    (R 0 [a1, r17, a3] h).bind fun r18 =>
    some (r18.1, r18.2)
theorem t_X8_slamsBy {x : Cx} {dn : Nat} {R : Nat → List Int32 → Hp → Option (Int32 × Hp)} (hdn : 13 ≤ dn) (hR : ∀ k as h r, R k as h = some r → CGS dn k as h r) (g : Gx x RX8 cX8_slamsBy 5 (dn + 1)) (a1 : Int32) (a2 : Int32) (a3 : Int32) (h : Hp) (out : (Int32 × Hp)) (H : m_X8_slamsBy R a1 a2 a3 h = some out) (K : RtI x .int out.1 out.2) : WA x 0 [.ref 53, .int a1, .int a2, .int a3, .null] [] h := by
  unfold m_X8_slamsBy at H
  refine st_iload_n g dX8_slamsBy_0 rfl ?_
  by_cases q1 : a2 = 0
  · rw [if_pos q1] at H
    refine st_tsw g dX8_slamsBy_1 (tgt := 36) q1 (by decide) (by decide) rfl (by decide) ?_
    refine st_aload_n g dX8_slamsBy_36 rfl ?_
    refine st_bipush g dX8_slamsBy_37 bi_11 ?_
    obtain ⟨r2, hr2, H⟩ := bind_some H
    refine st_callVV g (as := [.int 11]) dX8_slamsBy_39 rfl rfl ml_X8_330 mf_X8_ran rfl (Nat.le_of_ble_eq_true rfl) (by omega) (c_X8_ran 11 h _ hr2) ?_
    refine st_iload_n g dX8_slamsBy_42 rfl ?_
    refine st_iload_n g dX8_slamsBy_43 rfl ?_
    refine st_ixor g dX8_slamsBy_44 ?_
    obtain rfl := Option.some.inj H
    exact st_iret g dX8_slamsBy_45 rfl (fun q => by cases q) K
  · rw [if_neg q1] at H
    by_cases q3 : a2 = 1
    · rw [if_pos q3] at H
      refine st_tsw g dX8_slamsBy_1 (tgt := 93) q3 (by decide) (by decide) rfl (by decide) ?_
      refine st_aload_n g dX8_slamsBy_93 rfl ?_
      refine st_iload_n g dX8_slamsBy_94 rfl ?_
      refine st_iload_n g dX8_slamsBy_95 rfl ?_
      obtain ⟨r4, hr4, H⟩ := bind_some H
      refine st_callSI g (as := [.int a2]) dX8_slamsBy_96 ml_X8_337 mf_X8_above rfl (Nat.le_of_ble_eq_true rfl) (by omega) (c_X8_above a2 h _ hr4) (fun hz => ?_)
      refine st_iload_n g dX8_slamsBy_99 rfl ?_
      obtain ⟨r5, hr5, H⟩ := bind_some H
      refine st_callVI g (as := [.int a1, .int r4, .int a3]) dX8_slamsBy_100 rfl rfl ml_X8_343 mf_X8_slamsBy rfl (Nat.le_of_ble_eq_true rfl) (by omega) (hR _ _ _ _ hr5) (fun hz => ?_)
      obtain rfl := Option.some.inj H
      exact st_iret g dX8_slamsBy_103 rfl (fun q => by cases q) K
    · rw [if_neg q3] at H
      by_cases q6 : a2 = 2
      · rw [if_pos q6] at H
        refine st_tsw g dX8_slamsBy_1 (tgt := 93) q6 (by decide) (by decide) rfl (by decide) ?_
        refine st_aload_n g dX8_slamsBy_93 rfl ?_
        refine st_iload_n g dX8_slamsBy_94 rfl ?_
        refine st_iload_n g dX8_slamsBy_95 rfl ?_
        obtain ⟨r7, hr7, H⟩ := bind_some H
        refine st_callSI g (as := [.int a2]) dX8_slamsBy_96 ml_X8_337 mf_X8_above rfl (Nat.le_of_ble_eq_true rfl) (by omega) (c_X8_above a2 h _ hr7) (fun hz => ?_)
        refine st_iload_n g dX8_slamsBy_99 rfl ?_
        obtain ⟨r8, hr8, H⟩ := bind_some H
        refine st_callVI g (as := [.int a1, .int r7, .int a3]) dX8_slamsBy_100 rfl rfl ml_X8_343 mf_X8_slamsBy rfl (Nat.le_of_ble_eq_true rfl) (by omega) (hR _ _ _ _ hr8) (fun hz => ?_)
        obtain rfl := Option.some.inj H
        exact st_iret g dX8_slamsBy_103 rfl (fun q => by cases q) K
      · rw [if_neg q6] at H
        by_cases q9 : a2 = 3
        · rw [if_pos q9] at H
          refine st_tsw g dX8_slamsBy_1 (tgt := 46) q9 (by decide) (by decide) rfl (by decide) ?_
          refine st_aload_n g dX8_slamsBy_46 rfl ?_
          refine st_bipush g dX8_slamsBy_47 bi_40 ?_
          obtain ⟨r10, hr10, H⟩ := bind_some H
          refine st_callVV g (as := [.int 40]) dX8_slamsBy_49 rfl rfl ml_X8_330 mf_X8_ran rfl (Nat.le_of_ble_eq_true rfl) (by omega) (c_X8_ran 40 h _ hr10) ?_
          refine st_aload_n g dX8_slamsBy_52 rfl ?_
          refine st_iload_n g dX8_slamsBy_53 rfl ?_
          refine st_iconst g dX8_slamsBy_54 ic_2 ?_
          refine st_iload_n g dX8_slamsBy_55 rfl ?_
          obtain ⟨r11, hr11, H⟩ := bind_some H
          refine st_callVI g (as := [.int a1, .int 2, .int a3]) dX8_slamsBy_56 rfl rfl ml_X8_343 mf_X8_slamsBy rfl (Nat.le_of_ble_eq_true rfl) (by omega) (hR _ _ _ _ hr11) (fun hz => ?_)
          refine st_iconst g dX8_slamsBy_59 ic_3 ?_
          refine st_imul g dX8_slamsBy_60 ?_
          obtain rfl := Option.some.inj H
          exact st_iret g dX8_slamsBy_61 rfl (fun q => by cases q) K
        · rw [if_neg q9] at H
          by_cases q12 : a2 = 4
          · rw [if_pos q12] at H
            refine st_tsw g dX8_slamsBy_1 (tgt := 62) q12 (by decide) (by decide) rfl (by decide) ?_
            refine st_aload_n g dX8_slamsBy_62 rfl ?_
            refine st_bipush g dX8_slamsBy_63 bi_50 ?_
            obtain ⟨r13, hr13, H⟩ := bind_some H
            refine st_callVV g (as := [.int 50]) dX8_slamsBy_65 rfl rfl ml_X8_330 mf_X8_ran rfl (Nat.le_of_ble_eq_true rfl) (by omega) (c_X8_ran 50 h _ hr13) ?_
            refine st_aload_n g dX8_slamsBy_68 rfl ?_
            refine st_iload_n g dX8_slamsBy_69 rfl ?_
            refine st_iconst g dX8_slamsBy_70 ic_1 ?_
            refine st_iload_n g dX8_slamsBy_71 rfl ?_
            obtain ⟨r14, hr14, H⟩ := bind_some H
            refine st_callVI g (as := [.int a1, .int 1, .int a3]) dX8_slamsBy_72 rfl rfl ml_X8_343 mf_X8_slamsBy rfl (Nat.le_of_ble_eq_true rfl) (by omega) (hR _ _ _ _ hr14) (fun hz => ?_)
            refine st_istore g dX8_slamsBy_75 (Nat.le_of_ble_eq_true rfl) rfl (ls2 := [.ref 53, .int a1, .int a2, .int a3, .int r14.1]) rfl ?_
            refine st_iload g dX8_slamsBy_77 rfl ?_
            refine st_aload_n g dX8_slamsBy_79 rfl ?_
            refine st_iload_n g dX8_slamsBy_80 rfl ?_
            refine st_aload_n g dX8_slamsBy_81 rfl ?_
            refine gf_X8_81 g dX8_slamsBy_82 rfl (r := 77) rfl ?_
            refine st_iload_n g dX8_slamsBy_85 rfl ?_
            refine st_iald g dX8_slamsBy_86 H (fun v15 H => ?_)
            refine st_iconst g dX8_slamsBy_87 ic_2 ?_
            obtain ⟨r16, hr16, H⟩ := bind_some H
            refine st_callVI g (as := [.int a1, .int v15, .int 2]) dX8_slamsBy_88 rfl rfl ml_X8_334 mf_X8_opensBy rfl (Nat.le_of_ble_eq_true rfl) (by omega) (c_X8_opensBy a1 v15 2 r14.2 _ hr16) (fun hz => ?_)
            refine st_isub g dX8_slamsBy_91 ?_
            obtain rfl := Option.some.inj H
            exact st_iret g dX8_slamsBy_92 rfl (fun q => by cases q) K
          · rw [if_neg q12] at H
            have zq1 := lv_neT q1 (show (0 : Int32).toInt = 0 by decide)
            have zq3 := lv_neT q3 (show (1 : Int32).toInt = 1 by decide)
            have zq6 := lv_neT q6 (show (2 : Int32).toInt = 2 by decide)
            have zq9 := lv_neT q9 (show (3 : Int32).toInt = 3 by decide)
            have zq12 := lv_neT q12 (show (4 : Int32).toInt = 4 by decide)
            refine st_tswD g dX8_slamsBy_1 (tgt := 93) (by omega) (by decide) ?_
            refine st_aload_n g dX8_slamsBy_93 rfl ?_
            refine st_iload_n g dX8_slamsBy_94 rfl ?_
            refine st_iload_n g dX8_slamsBy_95 rfl ?_
            obtain ⟨r17, hr17, H⟩ := bind_some H
            refine st_callSI g (as := [.int a2]) dX8_slamsBy_96 ml_X8_337 mf_X8_above rfl (Nat.le_of_ble_eq_true rfl) (by omega) (c_X8_above a2 h _ hr17) (fun hz => ?_)
            refine st_iload_n g dX8_slamsBy_99 rfl ?_
            obtain ⟨r18, hr18, H⟩ := bind_some H
            refine st_callVI g (as := [.int a1, .int r17, .int a3]) dX8_slamsBy_100 rfl rfl ml_X8_343 mf_X8_slamsBy rfl (Nat.le_of_ble_eq_true rfl) (by omega) (hR _ _ _ _ hr18) (fun hz => ?_)
            obtain rfl := Option.some.inj H
            exact st_iret g dX8_slamsBy_103 rfl (fun q => by cases q) K
theorem cm_X8_slamsBy {dn : Nat} {R : Nat → List Int32 → Hp → Option (Int32 × Hp)} (hdn : 13 ≤ dn) (hR : ∀ k as h r, R k as h = some r → CGS dn k as h r) (a1 : Int32) (a2 : Int32) (a3 : Int32) (h : Hp) (r : Int32 × Hp) (H : m_X8_slamsBy R a1 a2 a3 h = some r) : CtI yX8_slamsBy cX8_slamsBy 5 .int (dn + 1) [.ref 53, .int a1, .int a2, .int a3] h r.1 r.2 :=
  ct_ofI (own := RX8) [.ref 53, .int a1, .int a2, .int a3, .null] (by decide +kernel) rfl (fun ρ => Nat.le_of_ble_eq_true rfl) (fun ρ => rfl) (fun x g K => t_X8_slamsBy hdn hR g a1 a2 a3 h r H K)
def fG_GS : Nat → Nat → List Int32 → Hp → Option (Int32 × Hp)
  | 0, _, _, _ => none
  | n + 1, k, as, h => match k, as with
    | 0, [a1, a2, a3] => m_X8_slamsBy (fG_GS n) a1 a2 a3 h
    | _, _ => none
theorem cG_GS : ∀ (n k : Nat) (as : List Int32) (h : Hp) (r : Int32 × Hp), fG_GS n k as h = some r → CGS (13 + n) k as h r := by
  intro n
  induction n with
  | zero => intro k as h r H; cases H
  | succ n ih =>
    intro k as h r H
    unfold fG_GS at H
    split at H
    · exact cm_X8_slamsBy (Nat.le_add_right _ _) ih _ _ _ h r H
    · cases H
def f_X8_slamsBy (a1 : Int32) (a2 : Int32) (a3 : Int32) (h : Hp) : Option (Int32 × Hp) := fG_GS 10 0 [a1, a2, a3] h
theorem c_X8_slamsBy (a1 : Int32) (a2 : Int32) (a3 : Int32) (h : Hp) (r : Int32 × Hp) (H : f_X8_slamsBy a1 a2 a3 h = some r) : CtI yX8_slamsBy cX8_slamsBy 5 .int 23 [.ref 53, .int a1, .int a2, .int a3] h r.1 r.2 := cG_GS 10 0 [a1, a2, a3] h r H
def f_X2_search (h : Hp) : Option Hp :=
  (f_X2_choose 0 0 0 0 0 h).bind fun r1 =>
  some r1
theorem t_X2_search {x : Cx} (g : Gx x RX2 cX2_search 1 24) (h : Hp) (out : Hp) (H : f_X2_search h = some out) (K : RtV x out) : WA x 0 [.ref 44] [] h := by
  unfold f_X2_search at H
  refine st_aload_n g dX2_search_0 rfl ?_
  refine st_iconst g dX2_search_1 ic_0 ?_
  refine st_iconst g dX2_search_2 ic_0 ?_
  refine st_iconst g dX2_search_3 ic_0 ?_
  refine st_iconst g dX2_search_4 ic_0 ?_
  refine st_iconst g dX2_search_5 ic_0 ?_
  obtain ⟨r1, hr1, H⟩ := bind_some H
  refine st_callVV g (as := [.int 0, .int 0, .int 0, .int 0, .int 0]) dX2_search_6 rfl rfl ml_X2_34 mf_X2_choose rfl (Nat.le_of_ble_eq_true rfl) (Nat.le_of_ble_eq_true rfl) (c_X2_choose 0 0 0 0 0 h _ hr1) ?_
  obtain rfl := Option.some.inj H
  exact st_vret g dX2_search_9 K
theorem c_X2_search (h : Hp) (r : Hp) (H : f_X2_search h = some r) : CtV yX2_search cX2_search 1 24 [.ref 44] h r :=
  ct_ofV (own := RX2) [.ref 44] (by decide +kernel) rfl (fun ρ => Nat.le_of_ble_eq_true rfl) (fun ρ => rfl) (fun x g K => t_X2_search g h r H K)
def P_X7_evening_20 (x : Cx) (a1 : Int32) (s : (Int32 × Hp)) : Prop := WA x 20 [.ref 0, .int a1, .int s.1, .null] [] s.2
def E_X7_evening_20 (x : Cx) (a1 : Int32) : (Int32 × Hp) → Prop := fun s : (Int32 × Hp) => WA x 97 [.ref 0, .int a1, .null, .null] [] s.2
def b_X7_evening_20 (a1 : Int32) (s : (Int32 × Hp)) : Option ((Int32 × Hp) ⊕ (Int32 × Hp)) :=
  if (s.2.1 1 3) ≤ s.1 then
    some (.inr (s.1, s.2))
  else
    (f_X5_isForgiven 13 s.1 s.2).bind fun r5 =>
    if r5 = 0 then
      (rdI s.2 5 s.1).bind fun v7 =>
      (rdI s.2 2 v7).bind fun v8 =>
      (rdI s.2 4 s.1).bind fun v9 =>
      (f_X7_worth 13 s.1 v8 s.2).bind fun r10 =>
      (f_X2_offer s.1 v9 v8 r10.1 r10.2).bind fun r11 =>
      some (.inl (s.1 + 1, r11))
    else
      some (.inl (s.1 + 1, s.2))
theorem tb_X7_evening_20 {x : Cx} (g : Gx x RX7 cX7_evening 4 25) (a1 : Int32) (s : (Int32 × Hp)) (out : (Int32 × Hp) ⊕ (Int32 × Hp)) (H : b_X7_evening_20 a1 s = some out) (K : Sum.elim (P_X7_evening_20 x a1) (E_X7_evening_20 x a1) out) : P_X7_evening_20 x a1 s := by
  unfold b_X7_evening_20 at H
  show WA x 20 [.ref 0, .int a1, .int s.1, .null] [] s.2
  refine st_iload_n g dX7_evening_20 rfl ?_
  refine st_aload_n g dX7_evening_21 rfl ?_
  refine gf_X7_10 g dX7_evening_22 rfl (r := 1) rfl ?_
  refine gf_X7_100 g dX7_evening_25 rfl ?_
  refine st_ic_ge g dX7_evening_28 (tgt := 97) (by decide) H (fun q4 H => ?_) (fun q4 H => ?_)
  · obtain rfl := Option.some.inj H
    exact (wa_drop [2] K)
  · refine st_aload_n g dX7_evening_31 rfl ?_
    refine gf_X7_26 g dX7_evening_32 rfl (r := 13) rfl ?_
    refine st_iload_n g dX7_evening_35 rfl ?_
    obtain ⟨r5, hr5, H⟩ := bind_some H
    refine st_callVI g (as := [.int s.1]) dX7_evening_36 rfl rfl ml_X7_197 mf_X5_isForgiven rfl (Nat.le_of_ble_eq_true rfl) (Nat.le_of_ble_eq_true rfl) (c_X5_isForgiven 13 s.1 s.2 _ hr5) (fun hz => ?_)
    have br5 := hz rfl
    refine st_if_eq g dX7_evening_39 (tgt := 45) (by decide) H (fun q6 H => ?_) (fun q6 H => ?_)
    · refine st_aload_n g dX7_evening_45 rfl ?_
      refine gf_X7_10 g dX7_evening_46 rfl (r := 1) rfl ?_
      refine gf_X7_200 g dX7_evening_49 rfl (r := 2) rfl ?_
      refine st_aload_n g dX7_evening_52 rfl ?_
      refine gf_X7_10 g dX7_evening_53 rfl (r := 1) rfl ?_
      refine gf_X7_203 g dX7_evening_56 rfl (r := 5) rfl ?_
      refine st_iload_n g dX7_evening_59 rfl ?_
      refine st_iald g dX7_evening_60 H (fun v7 H => ?_)
      refine st_iald g dX7_evening_61 H (fun v8 H => ?_)
      refine st_istore_n g dX7_evening_62 (Nat.le_of_ble_eq_true rfl) rfl (ls2 := [.ref 0, .int a1, .int s.1, .int v8]) rfl ?_
      refine st_aload_n g dX7_evening_63 rfl ?_
      refine gf_X7_68 g dX7_evening_64 rfl (r := 44) rfl ?_
      refine st_iload_n g dX7_evening_67 rfl ?_
      refine st_aload_n g dX7_evening_68 rfl ?_
      refine gf_X7_10 g dX7_evening_69 rfl (r := 1) rfl ?_
      refine gf_X7_206 g dX7_evening_72 rfl (r := 4) rfl ?_
      refine st_iload_n g dX7_evening_75 rfl ?_
      refine st_iald g dX7_evening_76 H (fun v9 H => ?_)
      refine st_iload_n g dX7_evening_77 rfl ?_
      refine st_aload_n g dX7_evening_78 rfl ?_
      refine st_aload_n g dX7_evening_79 rfl ?_
      refine gf_X7_26 g dX7_evening_80 rfl (r := 13) rfl ?_
      refine st_iload_n g dX7_evening_83 rfl ?_
      refine st_iload_n g dX7_evening_84 rfl ?_
      obtain ⟨r10, hr10, H⟩ := bind_some H
      refine st_callVI g (as := [.ref 13, .int s.1, .int v8]) dX7_evening_85 rfl rfl ml_X7_156 mf_X7_worth rfl (Nat.le_of_ble_eq_true rfl) (Nat.le_of_ble_eq_true rfl) (c_X7_worth 13 s.1 v8 s.2 _ hr10) (fun hz => ?_)
      obtain ⟨r11, hr11, H⟩ := bind_some H
      refine st_callVV g (as := [.int s.1, .int v9, .int v8, .int r10.1]) dX7_evening_88 rfl rfl ml_X7_209 mf_X2_offer rfl (Nat.le_of_ble_eq_true rfl) (Nat.le_of_ble_eq_true rfl) (c_X2_offer s.1 v9 v8 r10.1 r10.2 _ hr11) ?_
      refine st_iinc g dX7_evening_91 rfl (ii_1 _) (Nat.le_of_ble_eq_true rfl) rfl (ls2 := [.ref 0, .int a1, .int (s.1 + 1), .int v8]) rfl ?_
      refine st_goto g dX7_evening_94 (tgt := 20) (by decide) ?_
      obtain rfl := Option.some.inj H
      exact (wa_drop [3] K)
    · refine st_goto g dX7_evening_42 (tgt := 91) (by decide) ?_
      refine st_iinc g dX7_evening_91 rfl (ii_1 _) (Nat.le_of_ble_eq_true rfl) rfl (ls2 := [.ref 0, .int a1, .int (s.1 + 1), .null]) rfl ?_
      refine st_goto g dX7_evening_94 (tgt := 20) (by decide) ?_
      obtain rfl := Option.some.inj H
      exact K
def f_X7_evening (a1 : Int32) (h : Hp) : Option (Int32 × Hp) :=
  if a1 < 0 then
    some ((-1), h)
  else
    if a1 ≤ 1 then
      (f_X2_clear h).bind fun r3 =>
      (iter (b_X7_evening_20 a1) FU (0, r3)).bind fun a12 =>
      (f_X2_search a12.2).bind fun r13 =>
      if a1 = 0 then
        some (r13.1 44 5, r13)
      else
        some (r13.1 44 6, r13)
    else
      some ((-1), h)
theorem t_X7_evening {x : Cx} (g : Gx x RX7 cX7_evening 4 25) (a1 : Int32) (h : Hp) (out : (Int32 × Hp)) (H : f_X7_evening a1 h = some out) (K : RtI x .int out.1 out.2) : WA x 0 [.ref 0, .int a1, .null, .null] [] h := by
  unfold f_X7_evening at H
  refine st_iload_n g dX7_evening_0 rfl ?_
  refine st_if_lt g dX7_evening_1 (tgt := 9) (by decide) H (fun q1 H => ?_) (fun q1 H => ?_)
  · refine st_iconst g dX7_evening_9 ic_m1 ?_
    obtain rfl := Option.some.inj H
    exact st_iret g dX7_evening_10 rfl (fun q => by cases q) K
  · refine st_iload_n g dX7_evening_4 rfl ?_
    refine st_iconst g dX7_evening_5 ic_1 ?_
    refine st_ic_le g dX7_evening_6 (tgt := 11) (by decide) H (fun q2 H => ?_) (fun q2 H => ?_)
    · refine st_aload_n g dX7_evening_11 rfl ?_
      refine gf_X7_68 g dX7_evening_12 rfl (r := 44) rfl ?_
      obtain ⟨r3, hr3, H⟩ := bind_some H
      refine st_callVV g (as := []) dX7_evening_15 rfl rfl ml_X7_194 mf_X2_clear rfl (Nat.le_of_ble_eq_true rfl) (Nat.le_of_ble_eq_true rfl) (c_X2_clear h _ hr3) ?_
      refine st_iconst g dX7_evening_18 ic_0 ?_
      refine st_istore_n g dX7_evening_19 (Nat.le_of_ble_eq_true rfl) rfl (ls2 := [.ref 0, .int a1, .int 0, .null]) rfl ?_
      show P_X7_evening_20 x a1 (0, r3)
      obtain ⟨a12, ha12, H⟩ := bind_some H
      refine iter_W (P := P_X7_evening_20 x a1) (E := E_X7_evening_20 x a1) (fun s9 o9 ho9 hK9 => tb_X7_evening_20 g a1 s9 o9 ho9 hK9) FU _ a12 ha12 ?_
      show WA x 97 [.ref 0, .int a1, .null, .null] [] a12.2
      refine st_aload_n g dX7_evening_97 rfl ?_
      refine gf_X7_68 g dX7_evening_98 rfl (r := 44) rfl ?_
      obtain ⟨r13, hr13, H⟩ := bind_some H
      refine st_callVV g (as := []) dX7_evening_101 rfl rfl ml_X7_212 mf_X2_search rfl (Nat.le_of_ble_eq_true rfl) (Nat.le_of_ble_eq_true rfl) (c_X2_search a12.2 _ hr13) ?_
      refine st_iload_n g dX7_evening_104 rfl ?_
      refine st_if_ne g dX7_evening_105 (tgt := 118) (by decide) H (fun q14 H => ?_) (fun q14 H => ?_)
      · refine st_aload_n g dX7_evening_118 rfl ?_
        refine gf_X7_68 g dX7_evening_119 rfl (r := 44) rfl ?_
        refine gf_X7_218 g dX7_evening_122 rfl ?_
        obtain rfl := Option.some.inj H
        exact st_iret g dX7_evening_125 rfl (fun q => by cases q) K
      · refine st_aload_n g dX7_evening_108 rfl ?_
        refine gf_X7_68 g dX7_evening_109 rfl (r := 44) rfl ?_
        refine gf_X7_215 g dX7_evening_112 rfl ?_
        refine st_goto g dX7_evening_115 (tgt := 125) (by decide) ?_
        obtain rfl := Option.some.inj H
        exact st_iret g dX7_evening_125 rfl (fun q => by cases q) K
    · refine st_iconst g dX7_evening_9 ic_m1 ?_
      obtain rfl := Option.some.inj H
      exact st_iret g dX7_evening_10 rfl (fun q => by cases q) K
theorem c_X7_evening (a1 : Int32) (h : Hp) (r : (Int32 × Hp)) (H : f_X7_evening a1 h = some r) : CtI yX7_evening cX7_evening 4 .int 25 [.ref 0, .int a1] h r.1 r.2 :=
  ct_ofI (own := RX7) [.ref 0, .int a1, .null, .null] (by decide +kernel) rfl (fun ρ => Nat.le_of_ble_eq_true rfl) (fun ρ => rfl) (fun x g K => t_X7_evening g a1 h r H K)
def CGK (d k : Nat) (as : List Int32) (h : Hp) (r : Int32 × Hp) : Prop := match k with
  | 0 => CtI yX8_countsBy cX8_countsBy 5 .int d (.ref 53 :: as.map .int) h r.1 r.2
  | _ => False
def m_X8_countsBy (R : Nat → List Int32 → Hp → Option (Int32 × Hp)) (a1 : Int32) (a2 : Int32) (a3 : Int32) (h : Hp) : Option (Int32 × Hp) :=
  if a2 = 0 then
    (f_X8_ran 10 h).bind fun r2 =>
    (rdI r2 77 a1).bind fun v3 =>
    (f_X8_opensBy a1 v3 a3 r2).bind fun r4 =>
    some (r4.1 * 2, r4.2)
  else
  if a2 = 1 then
    (f_X8_above a2).bind fun r6 =>
    (R 0 [a1, r6, a3] h).bind fun r7 =>
    some (r7.1, r7.2)
  else
  if a2 = 2 then
    (f_X8_ran 30 h).bind fun r9 =>
    (R 0 [a1, 0, a3] r9).bind fun r10 =>
    some (-r10.1, r10.2)
  else
  if a2 = 3 then
    (f_X8_ran 41 h).bind fun r12 =>
    (R 0 [a1, 2, a3 + 1] r12).bind fun r13 =>
    some (r13.1, r13.2)
  else
  if a2 = 4 then
    (f_X8_above a2).bind fun r15 =>
    (R 0 [a1, r15, a3] h).bind fun r16 =>
    some (r16.1, r16.2)
  else
  if a2 = 5 then
    (f_X8_above a2).bind fun r18 =>
    (R 0 [a1, r18, a3] h).bind fun r19 =>
    some (r19.1, r19.2)
  else
  if a2 = 6 then
    (f_X8_above a2).bind fun r21 =>
    (R 0 [a1, r21, a3] h).bind fun r22 =>
    some (r22.1, r22.2)
  else
  if a2 = 7 then
    (f_X8_ran 80 h).bind fun r24 =>
    (R 0 [a1, 4, a3] r24).bind fun r25 =>
    (rdI r25.2 77 a1).bind fun v26 =>
    (f_X8_slamsBy a1 v26 2 r25.2).bind fun r27 =>
    some (r25.1 + r27.1, r27.2)
  else
    (f_X8_above a2).bind fun r28 =>
    (R 0 [a1, r28, a3] h).bind fun r29 =>
    some (r29.1, r29.2)
theorem t_X8_countsBy {x : Cx} {dn : Nat} {R : Nat → List Int32 → Hp → Option (Int32 × Hp)} (hdn : 24 ≤ dn) (hR : ∀ k as h r, R k as h = some r → CGK dn k as h r) (g : Gx x RX8 cX8_countsBy 5 (dn + 1)) (a1 : Int32) (a2 : Int32) (a3 : Int32) (h : Hp) (out : (Int32 × Hp)) (H : m_X8_countsBy R a1 a2 a3 h = some out) (K : RtI x .int out.1 out.2) : WA x 0 [.ref 53, .int a1, .int a2, .int a3, .null] [] h := by
  unfold m_X8_countsBy at H
  refine st_iload_n g dX8_countsBy_0 rfl ?_
  by_cases q1 : a2 = 0
  · rw [if_pos q1] at H
    refine st_tsw g dX8_countsBy_1 (tgt := 48) q1 (by decide) (by decide) rfl (by decide) ?_
    refine st_aload_n g dX8_countsBy_48 rfl ?_
    refine st_bipush g dX8_countsBy_49 bi_10 ?_
    obtain ⟨r2, hr2, H⟩ := bind_some H
    refine st_callVV g (as := [.int 10]) dX8_countsBy_51 rfl rfl ml_X8_330 mf_X8_ran rfl (Nat.le_of_ble_eq_true rfl) (by omega) (c_X8_ran 10 h _ hr2) ?_
    refine st_aload_n g dX8_countsBy_54 rfl ?_
    refine st_iload_n g dX8_countsBy_55 rfl ?_
    refine st_aload_n g dX8_countsBy_56 rfl ?_
    refine gf_X8_81 g dX8_countsBy_57 rfl (r := 77) rfl ?_
    refine st_iload_n g dX8_countsBy_60 rfl ?_
    refine st_iald g dX8_countsBy_61 H (fun v3 H => ?_)
    refine st_iload_n g dX8_countsBy_62 rfl ?_
    obtain ⟨r4, hr4, H⟩ := bind_some H
    refine st_callVI g (as := [.int a1, .int v3, .int a3]) dX8_countsBy_63 rfl rfl ml_X8_334 mf_X8_opensBy rfl (Nat.le_of_ble_eq_true rfl) (by omega) (c_X8_opensBy a1 v3 a3 r2 _ hr4) (fun hz => ?_)
    refine st_iconst g dX8_countsBy_66 ic_2 ?_
    refine st_imul g dX8_countsBy_67 ?_
    obtain rfl := Option.some.inj H
    exact st_iret g dX8_countsBy_68 rfl (fun q => by cases q) K
  · rw [if_neg q1] at H
    by_cases q5 : a2 = 1
    · rw [if_pos q5] at H
      refine st_tsw g dX8_countsBy_1 (tgt := 131) q5 (by decide) (by decide) rfl (by decide) ?_
      refine st_aload_n g dX8_countsBy_131 rfl ?_
      refine st_iload_n g dX8_countsBy_132 rfl ?_
      refine st_iload_n g dX8_countsBy_133 rfl ?_
      obtain ⟨r6, hr6, H⟩ := bind_some H
      refine st_callSI g (as := [.int a2]) dX8_countsBy_134 ml_X8_337 mf_X8_above rfl (Nat.le_of_ble_eq_true rfl) (by omega) (c_X8_above a2 h _ hr6) (fun hz => ?_)
      refine st_iload_n g dX8_countsBy_137 rfl ?_
      obtain ⟨r7, hr7, H⟩ := bind_some H
      refine st_callVI g (as := [.int a1, .int r6, .int a3]) dX8_countsBy_138 rfl rfl ml_X8_340 mf_X8_countsBy rfl (Nat.le_of_ble_eq_true rfl) (by omega) (hR _ _ _ _ hr7) (fun hz => ?_)
      obtain rfl := Option.some.inj H
      exact st_iret g dX8_countsBy_141 rfl (fun q => by cases q) K
    · rw [if_neg q5] at H
      by_cases q8 : a2 = 2
      · rw [if_pos q8] at H
        refine st_tsw g dX8_countsBy_1 (tgt := 69) q8 (by decide) (by decide) rfl (by decide) ?_
        refine st_aload_n g dX8_countsBy_69 rfl ?_
        refine st_bipush g dX8_countsBy_70 bi_30 ?_
        obtain ⟨r9, hr9, H⟩ := bind_some H
        refine st_callVV g (as := [.int 30]) dX8_countsBy_72 rfl rfl ml_X8_330 mf_X8_ran rfl (Nat.le_of_ble_eq_true rfl) (by omega) (c_X8_ran 30 h _ hr9) ?_
        refine st_aload_n g dX8_countsBy_75 rfl ?_
        refine st_iload_n g dX8_countsBy_76 rfl ?_
        refine st_iconst g dX8_countsBy_77 ic_0 ?_
        refine st_iload_n g dX8_countsBy_78 rfl ?_
        obtain ⟨r10, hr10, H⟩ := bind_some H
        refine st_callVI g (as := [.int a1, .int 0, .int a3]) dX8_countsBy_79 rfl rfl ml_X8_340 mf_X8_countsBy rfl (Nat.le_of_ble_eq_true rfl) (by omega) (hR _ _ _ _ hr10) (fun hz => ?_)
        refine st_ineg g dX8_countsBy_82 ?_
        obtain rfl := Option.some.inj H
        exact st_iret g dX8_countsBy_83 rfl (fun q => by cases q) K
      · rw [if_neg q8] at H
        by_cases q11 : a2 = 3
        · rw [if_pos q11] at H
          refine st_tsw g dX8_countsBy_1 (tgt := 84) q11 (by decide) (by decide) rfl (by decide) ?_
          refine st_aload_n g dX8_countsBy_84 rfl ?_
          refine st_bipush g dX8_countsBy_85 bi_41 ?_
          obtain ⟨r12, hr12, H⟩ := bind_some H
          refine st_callVV g (as := [.int 41]) dX8_countsBy_87 rfl rfl ml_X8_330 mf_X8_ran rfl (Nat.le_of_ble_eq_true rfl) (by omega) (c_X8_ran 41 h _ hr12) ?_
          refine st_aload_n g dX8_countsBy_90 rfl ?_
          refine st_iload_n g dX8_countsBy_91 rfl ?_
          refine st_iconst g dX8_countsBy_92 ic_2 ?_
          refine st_iload_n g dX8_countsBy_93 rfl ?_
          refine st_iconst g dX8_countsBy_94 ic_1 ?_
          refine st_iadd g dX8_countsBy_95 ?_
          obtain ⟨r13, hr13, H⟩ := bind_some H
          refine st_callVI g (as := [.int a1, .int 2, .int (a3 + 1)]) dX8_countsBy_96 rfl rfl ml_X8_340 mf_X8_countsBy rfl (Nat.le_of_ble_eq_true rfl) (by omega) (hR _ _ _ _ hr13) (fun hz => ?_)
          obtain rfl := Option.some.inj H
          exact st_iret g dX8_countsBy_99 rfl (fun q => by cases q) K
        · rw [if_neg q11] at H
          by_cases q14 : a2 = 4
          · rw [if_pos q14] at H
            refine st_tsw g dX8_countsBy_1 (tgt := 131) q14 (by decide) (by decide) rfl (by decide) ?_
            refine st_aload_n g dX8_countsBy_131 rfl ?_
            refine st_iload_n g dX8_countsBy_132 rfl ?_
            refine st_iload_n g dX8_countsBy_133 rfl ?_
            obtain ⟨r15, hr15, H⟩ := bind_some H
            refine st_callSI g (as := [.int a2]) dX8_countsBy_134 ml_X8_337 mf_X8_above rfl (Nat.le_of_ble_eq_true rfl) (by omega) (c_X8_above a2 h _ hr15) (fun hz => ?_)
            refine st_iload_n g dX8_countsBy_137 rfl ?_
            obtain ⟨r16, hr16, H⟩ := bind_some H
            refine st_callVI g (as := [.int a1, .int r15, .int a3]) dX8_countsBy_138 rfl rfl ml_X8_340 mf_X8_countsBy rfl (Nat.le_of_ble_eq_true rfl) (by omega) (hR _ _ _ _ hr16) (fun hz => ?_)
            obtain rfl := Option.some.inj H
            exact st_iret g dX8_countsBy_141 rfl (fun q => by cases q) K
          · rw [if_neg q14] at H
            by_cases q17 : a2 = 5
            · rw [if_pos q17] at H
              refine st_tsw g dX8_countsBy_1 (tgt := 131) q17 (by decide) (by decide) rfl (by decide) ?_
              refine st_aload_n g dX8_countsBy_131 rfl ?_
              refine st_iload_n g dX8_countsBy_132 rfl ?_
              refine st_iload_n g dX8_countsBy_133 rfl ?_
              obtain ⟨r18, hr18, H⟩ := bind_some H
              refine st_callSI g (as := [.int a2]) dX8_countsBy_134 ml_X8_337 mf_X8_above rfl (Nat.le_of_ble_eq_true rfl) (by omega) (c_X8_above a2 h _ hr18) (fun hz => ?_)
              refine st_iload_n g dX8_countsBy_137 rfl ?_
              obtain ⟨r19, hr19, H⟩ := bind_some H
              refine st_callVI g (as := [.int a1, .int r18, .int a3]) dX8_countsBy_138 rfl rfl ml_X8_340 mf_X8_countsBy rfl (Nat.le_of_ble_eq_true rfl) (by omega) (hR _ _ _ _ hr19) (fun hz => ?_)
              obtain rfl := Option.some.inj H
              exact st_iret g dX8_countsBy_141 rfl (fun q => by cases q) K
            · rw [if_neg q17] at H
              by_cases q20 : a2 = 6
              · rw [if_pos q20] at H
                refine st_tsw g dX8_countsBy_1 (tgt := 131) q20 (by decide) (by decide) rfl (by decide) ?_
                refine st_aload_n g dX8_countsBy_131 rfl ?_
                refine st_iload_n g dX8_countsBy_132 rfl ?_
                refine st_iload_n g dX8_countsBy_133 rfl ?_
                obtain ⟨r21, hr21, H⟩ := bind_some H
                refine st_callSI g (as := [.int a2]) dX8_countsBy_134 ml_X8_337 mf_X8_above rfl (Nat.le_of_ble_eq_true rfl) (by omega) (c_X8_above a2 h _ hr21) (fun hz => ?_)
                refine st_iload_n g dX8_countsBy_137 rfl ?_
                obtain ⟨r22, hr22, H⟩ := bind_some H
                refine st_callVI g (as := [.int a1, .int r21, .int a3]) dX8_countsBy_138 rfl rfl ml_X8_340 mf_X8_countsBy rfl (Nat.le_of_ble_eq_true rfl) (by omega) (hR _ _ _ _ hr22) (fun hz => ?_)
                obtain rfl := Option.some.inj H
                exact st_iret g dX8_countsBy_141 rfl (fun q => by cases q) K
              · rw [if_neg q20] at H
                by_cases q23 : a2 = 7
                · rw [if_pos q23] at H
                  refine st_tsw g dX8_countsBy_1 (tgt := 100) q23 (by decide) (by decide) rfl (by decide) ?_
                  refine st_aload_n g dX8_countsBy_100 rfl ?_
                  refine st_bipush g dX8_countsBy_101 bi_80 ?_
                  obtain ⟨r24, hr24, H⟩ := bind_some H
                  refine st_callVV g (as := [.int 80]) dX8_countsBy_103 rfl rfl ml_X8_330 mf_X8_ran rfl (Nat.le_of_ble_eq_true rfl) (by omega) (c_X8_ran 80 h _ hr24) ?_
                  refine st_aload_n g dX8_countsBy_106 rfl ?_
                  refine st_iload_n g dX8_countsBy_107 rfl ?_
                  refine st_iconst g dX8_countsBy_108 ic_4 ?_
                  refine st_iload_n g dX8_countsBy_109 rfl ?_
                  obtain ⟨r25, hr25, H⟩ := bind_some H
                  refine st_callVI g (as := [.int a1, .int 4, .int a3]) dX8_countsBy_110 rfl rfl ml_X8_340 mf_X8_countsBy rfl (Nat.le_of_ble_eq_true rfl) (by omega) (hR _ _ _ _ hr25) (fun hz => ?_)
                  refine st_istore g dX8_countsBy_113 (Nat.le_of_ble_eq_true rfl) rfl (ls2 := [.ref 53, .int a1, .int a2, .int a3, .int r25.1]) rfl ?_
                  refine st_iload g dX8_countsBy_115 rfl ?_
                  refine st_aload_n g dX8_countsBy_117 rfl ?_
                  refine st_iload_n g dX8_countsBy_118 rfl ?_
                  refine st_aload_n g dX8_countsBy_119 rfl ?_
                  refine gf_X8_81 g dX8_countsBy_120 rfl (r := 77) rfl ?_
                  refine st_iload_n g dX8_countsBy_123 rfl ?_
                  refine st_iald g dX8_countsBy_124 H (fun v26 H => ?_)
                  refine st_iconst g dX8_countsBy_125 ic_2 ?_
                  obtain ⟨r27, hr27, H⟩ := bind_some H
                  refine st_callVI g (as := [.int a1, .int v26, .int 2]) dX8_countsBy_126 rfl rfl ml_X8_343 mf_X8_slamsBy rfl (Nat.le_of_ble_eq_true rfl) (by omega) (c_X8_slamsBy a1 v26 2 r25.2 _ hr27) (fun hz => ?_)
                  refine st_iadd g dX8_countsBy_129 ?_
                  obtain rfl := Option.some.inj H
                  exact st_iret g dX8_countsBy_130 rfl (fun q => by cases q) K
                · rw [if_neg q23] at H
                  have zq1 := lv_neT q1 (show (0 : Int32).toInt = 0 by decide)
                  have zq5 := lv_neT q5 (show (1 : Int32).toInt = 1 by decide)
                  have zq8 := lv_neT q8 (show (2 : Int32).toInt = 2 by decide)
                  have zq11 := lv_neT q11 (show (3 : Int32).toInt = 3 by decide)
                  have zq14 := lv_neT q14 (show (4 : Int32).toInt = 4 by decide)
                  have zq17 := lv_neT q17 (show (5 : Int32).toInt = 5 by decide)
                  have zq20 := lv_neT q20 (show (6 : Int32).toInt = 6 by decide)
                  have zq23 := lv_neT q23 (show (7 : Int32).toInt = 7 by decide)
                  refine st_tswD g dX8_countsBy_1 (tgt := 131) (by omega) (by decide) ?_
                  refine st_aload_n g dX8_countsBy_131 rfl ?_
                  refine st_iload_n g dX8_countsBy_132 rfl ?_
                  refine st_iload_n g dX8_countsBy_133 rfl ?_
                  obtain ⟨r28, hr28, H⟩ := bind_some H
                  refine st_callSI g (as := [.int a2]) dX8_countsBy_134 ml_X8_337 mf_X8_above rfl (Nat.le_of_ble_eq_true rfl) (by omega) (c_X8_above a2 h _ hr28) (fun hz => ?_)
                  refine st_iload_n g dX8_countsBy_137 rfl ?_
                  obtain ⟨r29, hr29, H⟩ := bind_some H
                  refine st_callVI g (as := [.int a1, .int r28, .int a3]) dX8_countsBy_138 rfl rfl ml_X8_340 mf_X8_countsBy rfl (Nat.le_of_ble_eq_true rfl) (by omega) (hR _ _ _ _ hr29) (fun hz => ?_)
                  obtain rfl := Option.some.inj H
                  exact st_iret g dX8_countsBy_141 rfl (fun q => by cases q) K
theorem cm_X8_countsBy {dn : Nat} {R : Nat → List Int32 → Hp → Option (Int32 × Hp)} (hdn : 24 ≤ dn) (hR : ∀ k as h r, R k as h = some r → CGK dn k as h r) (a1 : Int32) (a2 : Int32) (a3 : Int32) (h : Hp) (r : Int32 × Hp) (H : m_X8_countsBy R a1 a2 a3 h = some r) : CtI yX8_countsBy cX8_countsBy 5 .int (dn + 1) [.ref 53, .int a1, .int a2, .int a3] h r.1 r.2 :=
  ct_ofI (own := RX8) [.ref 53, .int a1, .int a2, .int a3, .null] (by decide +kernel) rfl (fun ρ => Nat.le_of_ble_eq_true rfl) (fun ρ => rfl) (fun x g K => t_X8_countsBy hdn hR g a1 a2 a3 h r H K)
def fG_GK : Nat → Nat → List Int32 → Hp → Option (Int32 × Hp)
  | 0, _, _, _ => none
  | n + 1, k, as, h => match k, as with
    | 0, [a1, a2, a3] => m_X8_countsBy (fG_GK n) a1 a2 a3 h
    | _, _ => none
theorem cG_GK : ∀ (n k : Nat) (as : List Int32) (h : Hp) (r : Int32 × Hp), fG_GK n k as h = some r → CGK (24 + n) k as h r := by
  intro n
  induction n with
  | zero => intro k as h r H; cases H
  | succ n ih =>
    intro k as h r H
    unfold fG_GK at H
    split at H
    · exact cm_X8_countsBy (Nat.le_add_right _ _) ih _ _ _ h r H
    · cases H
def f_X8_countsBy (a1 : Int32) (a2 : Int32) (a3 : Int32) (h : Hp) : Option (Int32 × Hp) := fG_GK 10 0 [a1, a2, a3] h
theorem c_X8_countsBy (a1 : Int32) (a2 : Int32) (a3 : Int32) (h : Hp) (r : Int32 × Hp) (H : f_X8_countsBy a1 a2 a3 h = some r) : CtI yX8_countsBy cX8_countsBy 5 .int 34 [.ref 53, .int a1, .int a2, .int a3] h r.1 r.2 := cG_GK 10 0 [a1, a2, a3] h r H
def CGL (d k : Nat) (as : List Int32) (h : Hp) (r : Int32 × Hp) : Prop := match k with
  | 0 => CtI yX8_tells cX8_tells 5 .int d (.ref 53 :: as.map .int) h r.1 r.2
  | _ => False
def m_X8_tells (R : Nat → List Int32 → Hp → Option (Int32 × Hp)) (a1 : Int32) (a2 : Int32) (a3 : Int32) (h : Hp) : Option (Int32 × Hp) :=
  if a2 = 0 then
    (f_X8_ran 2 h).bind fun r2 =>
    (rdI r2 77 a1).bind fun v3 =>
    (f_X8_countsBy a1 v3 a3 r2).bind fun r4 =>
    (rdI r4.2 77 a1).bind fun v5 =>
    (f_X8_slamsBy a1 v5 1 r4.2).bind fun r6 =>
    some (r4.1 - r6.1, r6.2)
  else
  if a2 = 5 then
    (f_X8_ran 60 h).bind fun r8 =>
    (R 0 [a1, 3, a3] r8).bind fun r9 =>
    some (r9.1 ^^^ 5, r9.2)
  else
  if a2 = 7 then
    (f_X8_ran 81 h).bind fun r11 =>
    (R 0 [a1, 4, a3] r11).bind fun r12 =>
    some (r12.1 - 1, r12.2)
  else
    (f_X8_above a2).bind fun r13 =>
    (R 0 [a1, r13, a3] h).bind fun r14 =>
    some (r14.1, r14.2)
theorem t_X8_tells {x : Cx} {dn : Nat} {R : Nat → List Int32 → Hp → Option (Int32 × Hp)} (hdn : 35 ≤ dn) (hR : ∀ k as h r, R k as h = some r → CGL dn k as h r) (g : Gx x RX8 cX8_tells 5 (dn + 1)) (a1 : Int32) (a2 : Int32) (a3 : Int32) (h : Hp) (out : (Int32 × Hp)) (H : m_X8_tells R a1 a2 a3 h = some out) (K : RtI x .int out.1 out.2) : WA x 0 [.ref 53, .int a1, .int a2, .int a3, .null] [] h := by
  unfold m_X8_tells at H
  refine st_iload_n g dX8_tells_0 rfl ?_
  by_cases q1 : a2 = 0
  · rw [if_pos q1] at H
    refine st_lsw g dX8_tells_1 (off := 35) (tgt := 36) (by decide) (by rw [q1]; rfl) (by decide) ?_
    refine st_aload_n g dX8_tells_36 rfl ?_
    refine st_iconst g dX8_tells_37 ic_2 ?_
    obtain ⟨r2, hr2, H⟩ := bind_some H
    refine st_callVV g (as := [.int 2]) dX8_tells_38 rfl rfl ml_X8_330 mf_X8_ran rfl (Nat.le_of_ble_eq_true rfl) (by omega) (c_X8_ran 2 h _ hr2) ?_
    refine st_aload_n g dX8_tells_41 rfl ?_
    refine st_iload_n g dX8_tells_42 rfl ?_
    refine st_aload_n g dX8_tells_43 rfl ?_
    refine gf_X8_81 g dX8_tells_44 rfl (r := 77) rfl ?_
    refine st_iload_n g dX8_tells_47 rfl ?_
    refine st_iald g dX8_tells_48 H (fun v3 H => ?_)
    refine st_iload_n g dX8_tells_49 rfl ?_
    obtain ⟨r4, hr4, H⟩ := bind_some H
    refine st_callVI g (as := [.int a1, .int v3, .int a3]) dX8_tells_50 rfl rfl ml_X8_340 mf_X8_countsBy rfl (Nat.le_of_ble_eq_true rfl) (by omega) (c_X8_countsBy a1 v3 a3 r2 _ hr4) (fun hz => ?_)
    refine st_istore g dX8_tells_53 (Nat.le_of_ble_eq_true rfl) rfl (ls2 := [.ref 53, .int a1, .int a2, .int a3, .int r4.1]) rfl ?_
    refine st_iload g dX8_tells_55 rfl ?_
    refine st_aload_n g dX8_tells_57 rfl ?_
    refine st_iload_n g dX8_tells_58 rfl ?_
    refine st_aload_n g dX8_tells_59 rfl ?_
    refine gf_X8_81 g dX8_tells_60 rfl (r := 77) rfl ?_
    refine st_iload_n g dX8_tells_63 rfl ?_
    refine st_iald g dX8_tells_64 H (fun v5 H => ?_)
    refine st_iconst g dX8_tells_65 ic_1 ?_
    obtain ⟨r6, hr6, H⟩ := bind_some H
    refine st_callVI g (as := [.int a1, .int v5, .int 1]) dX8_tells_66 rfl rfl ml_X8_343 mf_X8_slamsBy rfl (Nat.le_of_ble_eq_true rfl) (by omega) (c_X8_slamsBy a1 v5 1 r4.2 _ hr6) (fun hz => ?_)
    refine st_isub g dX8_tells_69 ?_
    obtain rfl := Option.some.inj H
    exact st_iret g dX8_tells_70 rfl (fun q => by cases q) K
  · rw [if_neg q1] at H
    by_cases q7 : a2 = 5
    · rw [if_pos q7] at H
      refine st_lsw g dX8_tells_1 (off := 70) (tgt := 71) (by decide) (by rw [q7]; rfl) (by decide) ?_
      refine st_aload_n g dX8_tells_71 rfl ?_
      refine st_bipush g dX8_tells_72 bi_60 ?_
      obtain ⟨r8, hr8, H⟩ := bind_some H
      refine st_callVV g (as := [.int 60]) dX8_tells_74 rfl rfl ml_X8_330 mf_X8_ran rfl (Nat.le_of_ble_eq_true rfl) (by omega) (c_X8_ran 60 h _ hr8) ?_
      refine st_aload_n g dX8_tells_77 rfl ?_
      refine st_iload_n g dX8_tells_78 rfl ?_
      refine st_iconst g dX8_tells_79 ic_3 ?_
      refine st_iload_n g dX8_tells_80 rfl ?_
      obtain ⟨r9, hr9, H⟩ := bind_some H
      refine st_callVI g (as := [.int a1, .int 3, .int a3]) dX8_tells_81 rfl rfl ml_X8_346 mf_X8_tells rfl (Nat.le_of_ble_eq_true rfl) (by omega) (hR _ _ _ _ hr9) (fun hz => ?_)
      refine st_iconst g dX8_tells_84 ic_5 ?_
      refine st_ixor g dX8_tells_85 ?_
      obtain rfl := Option.some.inj H
      exact st_iret g dX8_tells_86 rfl (fun q => by cases q) K
    · rw [if_neg q7] at H
      by_cases q10 : a2 = 7
      · rw [if_pos q10] at H
        refine st_lsw g dX8_tells_1 (off := 86) (tgt := 87) (by decide) (by rw [q10]; rfl) (by decide) ?_
        refine st_aload_n g dX8_tells_87 rfl ?_
        refine st_bipush g dX8_tells_88 bi_81 ?_
        obtain ⟨r11, hr11, H⟩ := bind_some H
        refine st_callVV g (as := [.int 81]) dX8_tells_90 rfl rfl ml_X8_330 mf_X8_ran rfl (Nat.le_of_ble_eq_true rfl) (by omega) (c_X8_ran 81 h _ hr11) ?_
        refine st_aload_n g dX8_tells_93 rfl ?_
        refine st_iload_n g dX8_tells_94 rfl ?_
        refine st_iconst g dX8_tells_95 ic_4 ?_
        refine st_iload_n g dX8_tells_96 rfl ?_
        obtain ⟨r12, hr12, H⟩ := bind_some H
        refine st_callVI g (as := [.int a1, .int 4, .int a3]) dX8_tells_97 rfl rfl ml_X8_346 mf_X8_tells rfl (Nat.le_of_ble_eq_true rfl) (by omega) (hR _ _ _ _ hr12) (fun hz => ?_)
        refine st_iconst g dX8_tells_100 ic_1 ?_
        refine st_isub g dX8_tells_101 ?_
        obtain rfl := Option.some.inj H
        exact st_iret g dX8_tells_102 rfl (fun q => by cases q) K
      · rw [if_neg q10] at H
        refine st_lsw g dX8_tells_1 (off := 102) (tgt := 103) (by decide) (by show Op.lookupswitch.offset [(0, 35), (5, 70), (7, 86)] 102 _ = 102; rw [lv_osw q1 (by decide), lv_osw q7 (by decide), lv_osw q10 (by decide)]; rfl) (by decide) ?_
        refine st_aload_n g dX8_tells_103 rfl ?_
        refine st_iload_n g dX8_tells_104 rfl ?_
        refine st_iload_n g dX8_tells_105 rfl ?_
        obtain ⟨r13, hr13, H⟩ := bind_some H
        refine st_callSI g (as := [.int a2]) dX8_tells_106 ml_X8_337 mf_X8_above rfl (Nat.le_of_ble_eq_true rfl) (by omega) (c_X8_above a2 h _ hr13) (fun hz => ?_)
        refine st_iload_n g dX8_tells_109 rfl ?_
        obtain ⟨r14, hr14, H⟩ := bind_some H
        refine st_callVI g (as := [.int a1, .int r13, .int a3]) dX8_tells_110 rfl rfl ml_X8_346 mf_X8_tells rfl (Nat.le_of_ble_eq_true rfl) (by omega) (hR _ _ _ _ hr14) (fun hz => ?_)
        obtain rfl := Option.some.inj H
        exact st_iret g dX8_tells_113 rfl (fun q => by cases q) K
theorem cm_X8_tells {dn : Nat} {R : Nat → List Int32 → Hp → Option (Int32 × Hp)} (hdn : 35 ≤ dn) (hR : ∀ k as h r, R k as h = some r → CGL dn k as h r) (a1 : Int32) (a2 : Int32) (a3 : Int32) (h : Hp) (r : Int32 × Hp) (H : m_X8_tells R a1 a2 a3 h = some r) : CtI yX8_tells cX8_tells 5 .int (dn + 1) [.ref 53, .int a1, .int a2, .int a3] h r.1 r.2 :=
  ct_ofI (own := RX8) [.ref 53, .int a1, .int a2, .int a3, .null] (by decide +kernel) rfl (fun ρ => Nat.le_of_ble_eq_true rfl) (fun ρ => rfl) (fun x g K => t_X8_tells hdn hR g a1 a2 a3 h r H K)
def fG_GL : Nat → Nat → List Int32 → Hp → Option (Int32 × Hp)
  | 0, _, _, _ => none
  | n + 1, k, as, h => match k, as with
    | 0, [a1, a2, a3] => m_X8_tells (fG_GL n) a1 a2 a3 h
    | _, _ => none
theorem cG_GL : ∀ (n k : Nat) (as : List Int32) (h : Hp) (r : Int32 × Hp), fG_GL n k as h = some r → CGL (35 + n) k as h r := by
  intro n
  induction n with
  | zero => intro k as h r H; cases H
  | succ n ih =>
    intro k as h r H
    unfold fG_GL at H
    split at H
    · exact cm_X8_tells (Nat.le_add_right _ _) ih _ _ _ h r H
    · cases H
def f_X8_tells (a1 : Int32) (a2 : Int32) (a3 : Int32) (h : Hp) : Option (Int32 × Hp) := fG_GL 10 0 [a1, a2, a3] h
theorem c_X8_tells (a1 : Int32) (a2 : Int32) (a3 : Int32) (h : Hp) (r : Int32 × Hp) (H : f_X8_tells a1 a2 a3 h = some r) : CtI yX8_tells cX8_tells 5 .int 45 [.ref 53, .int a1, .int a2, .int a3] h r.1 r.2 := cG_GL 10 0 [a1, a2, a3] h r H
def f_X8_act (a1 : Int32) (a2 : Int32) (a3 : Int32) (h : Hp) : Option (Int32 × Hp) :=
  lt (stI h 53 39 0) fun h1 =>
  (f_X8_within a1 0 ((h1.1 53 37) - 1)).bind fun r2 =>
  if r2 = 0 then
    some (0, h1)
  else
    (f_X8_within a2 0 3).bind fun r4 =>
    if r4 = 0 then
      some (0, h1)
    else
      (rdI h1 77 a1).bind fun v6 =>
      if a2 = 0 then
        (f_X8_opensBy a1 v6 a3 h1).bind fun r13 =>
        some (r13.1, r13.2)
      else
        if a2 = 1 then
          (f_X8_countsBy a1 v6 a3 h1).bind fun r12 =>
          some (r12.1, r12.2)
        else
          if a2 = 2 then
            (f_X8_slamsBy a1 v6 a3 h1).bind fun r11 =>
            some (r11.1, r11.2)
          else
            (f_X8_tells a1 v6 a3 h1).bind fun r10 =>
            some (r10.1, r10.2)
theorem t_X8_act {x : Cx} (g : Gx x RX8 cX8_act 5 46) (a1 : Int32) (a2 : Int32) (a3 : Int32) (h : Hp) (out : (Int32 × Hp)) (H : f_X8_act a1 a2 a3 h = some out) (K : RtI x .int out.1 out.2) : WA x 0 [.ref 53, .int a1, .int a2, .int a3, .null] [] h := by
  unfold f_X8_act at H
  refine st_aload_n g dX8_act_0 rfl ?_
  refine st_iconst g dX8_act_1 ic_0 ?_
  refine pu_X8_327 g dX8_act_2 rfl ?_
  refine wa_ltH H (fun h1 H => ?_)
  refine st_iload_n g dX8_act_5 rfl ?_
  refine st_iconst g dX8_act_6 ic_0 ?_
  refine st_aload_n g dX8_act_7 rfl ?_
  refine gf_X8_349 g dX8_act_8 rfl ?_
  refine st_iconst g dX8_act_11 ic_1 ?_
  refine st_isub g dX8_act_12 ?_
  obtain ⟨r2, hr2, H⟩ := bind_some H
  refine st_callSI g (as := [.int a1, .int 0, .int ((h1.1 53 37) - 1)]) dX8_act_13 ml_X8_109 mf_X8_within rfl (Nat.le_of_ble_eq_true rfl) (Nat.le_of_ble_eq_true rfl) (c_X8_within a1 0 ((h1.1 53 37) - 1) h1 _ hr2) (fun hz => ?_)
  have br2 := hz rfl
  refine st_if_eq g dX8_act_16 (tgt := 28) (by decide) H (fun q3 H => ?_) (fun q3 H => ?_)
  · refine st_iconst g dX8_act_28 ic_0 ?_
    obtain rfl := Option.some.inj H
    exact st_iret g dX8_act_29 rfl (fun q => by cases q) K
  · refine st_iload_n g dX8_act_19 rfl ?_
    refine st_iconst g dX8_act_20 ic_0 ?_
    refine st_iconst g dX8_act_21 ic_3 ?_
    obtain ⟨r4, hr4, H⟩ := bind_some H
    refine st_callSI g (as := [.int a2, .int 0, .int 3]) dX8_act_22 ml_X8_109 mf_X8_within rfl (Nat.le_of_ble_eq_true rfl) (Nat.le_of_ble_eq_true rfl) (c_X8_within a2 0 3 h1 _ hr4) (fun hz => ?_)
    have br4 := hz rfl
    refine st_if_ne g dX8_act_25 (tgt := 30) (by decide) H (fun q5 H => ?_) (fun q5 H => ?_)
    · refine st_aload_n g dX8_act_30 rfl ?_
      refine gf_X8_81 g dX8_act_31 rfl (r := 77) rfl ?_
      refine st_iload_n g dX8_act_34 rfl ?_
      refine st_iald g dX8_act_35 H (fun v6 H => ?_)
      refine st_istore g dX8_act_36 (Nat.le_of_ble_eq_true rfl) rfl (ls2 := [.ref 53, .int a1, .int a2, .int a3, .int v6]) rfl ?_
      refine st_iload_n g dX8_act_38 rfl ?_
      refine st_if_ne g dX8_act_39 (tgt := 53) (by decide) H (fun q7 H => ?_) (fun q7 H => ?_)
      · refine st_iload_n g dX8_act_53 rfl ?_
        refine st_iconst g dX8_act_54 ic_1 ?_
        refine st_ic_ne g dX8_act_55 (tgt := 69) (by decide) H (fun q8 H => ?_) (fun q8 H => ?_)
        · refine st_iload_n g dX8_act_69 rfl ?_
          refine st_iconst g dX8_act_70 ic_2 ?_
          refine st_ic_ne g dX8_act_71 (tgt := 85) (by decide) H (fun q9 H => ?_) (fun q9 H => ?_)
          · refine st_aload_n g dX8_act_85 rfl ?_
            refine st_iload_n g dX8_act_86 rfl ?_
            refine st_iload g dX8_act_87 rfl ?_
            refine st_iload_n g dX8_act_89 rfl ?_
            obtain ⟨r10, hr10, H⟩ := bind_some H
            refine st_callVI g (as := [.int a1, .int v6, .int a3]) dX8_act_90 rfl rfl ml_X8_346 mf_X8_tells rfl (Nat.le_of_ble_eq_true rfl) (Nat.le_of_ble_eq_true rfl) (c_X8_tells a1 v6 a3 h1 _ hr10) (fun hz => ?_)
            obtain rfl := Option.some.inj H
            exact st_iret g dX8_act_93 rfl (fun q => by cases q) K
          · refine st_aload_n g dX8_act_74 rfl ?_
            refine st_iload_n g dX8_act_75 rfl ?_
            refine st_iload g dX8_act_76 rfl ?_
            refine st_iload_n g dX8_act_78 rfl ?_
            obtain ⟨r11, hr11, H⟩ := bind_some H
            refine st_callVI g (as := [.int a1, .int v6, .int a3]) dX8_act_79 rfl rfl ml_X8_343 mf_X8_slamsBy rfl (Nat.le_of_ble_eq_true rfl) (Nat.le_of_ble_eq_true rfl) (c_X8_slamsBy a1 v6 a3 h1 _ hr11) (fun hz => ?_)
            refine st_goto g dX8_act_82 (tgt := 93) (by decide) ?_
            obtain rfl := Option.some.inj H
            exact st_iret g dX8_act_93 rfl (fun q => by cases q) K
        · refine st_aload_n g dX8_act_58 rfl ?_
          refine st_iload_n g dX8_act_59 rfl ?_
          refine st_iload g dX8_act_60 rfl ?_
          refine st_iload_n g dX8_act_62 rfl ?_
          obtain ⟨r12, hr12, H⟩ := bind_some H
          refine st_callVI g (as := [.int a1, .int v6, .int a3]) dX8_act_63 rfl rfl ml_X8_340 mf_X8_countsBy rfl (Nat.le_of_ble_eq_true rfl) (Nat.le_of_ble_eq_true rfl) (c_X8_countsBy a1 v6 a3 h1 _ hr12) (fun hz => ?_)
          refine st_goto g dX8_act_66 (tgt := 93) (by decide) ?_
          obtain rfl := Option.some.inj H
          exact st_iret g dX8_act_93 rfl (fun q => by cases q) K
      · refine st_aload_n g dX8_act_42 rfl ?_
        refine st_iload_n g dX8_act_43 rfl ?_
        refine st_iload g dX8_act_44 rfl ?_
        refine st_iload_n g dX8_act_46 rfl ?_
        obtain ⟨r13, hr13, H⟩ := bind_some H
        refine st_callVI g (as := [.int a1, .int v6, .int a3]) dX8_act_47 rfl rfl ml_X8_334 mf_X8_opensBy rfl (Nat.le_of_ble_eq_true rfl) (Nat.le_of_ble_eq_true rfl) (c_X8_opensBy a1 v6 a3 h1 _ hr13) (fun hz => ?_)
        refine st_goto g dX8_act_50 (tgt := 93) (by decide) ?_
        obtain rfl := Option.some.inj H
        exact st_iret g dX8_act_93 rfl (fun q => by cases q) K
    · refine st_iconst g dX8_act_28 ic_0 ?_
      obtain rfl := Option.some.inj H
      exact st_iret g dX8_act_29 rfl (fun q => by cases q) K
theorem c_X8_act (a1 : Int32) (a2 : Int32) (a3 : Int32) (h : Hp) (r : (Int32 × Hp)) (H : f_X8_act a1 a2 a3 h = some r) : CtI yX8_act cX8_act 5 .int 46 [.ref 53, .int a1, .int a2, .int a3] h r.1 r.2 :=
  ct_ofI (own := RX8) [.ref 53, .int a1, .int a2, .int a3, .null] (by decide +kernel) rfl (fun ρ => Nat.le_of_ble_eq_true rfl) (fun ρ => rfl) (fun x g K => t_X8_act g a1 a2 a3 h r H K)
def CGF (d k : Nat) (as : List Int32) (h : Hp) (r : Int32 × Hp) : Prop := match k with
  | 0 => CtI yX1_from cX1_from 7 .int d (.ref 41 :: as.map .int) h r.1 r.2
  | 1 => CtI yX1_perBody cX1_perBody 5 .int d (.ref 41 :: as.map .int) h r.1 r.2
  | _ => False
def P_X1_from_6 (x : Cx) (a2 : Int32) (a3 : Int32) (a4 : Int32) (h : Hp) (s : (Int32 × Int32)) : Prop := WA x 6 [.ref 41, .null, .int a2, .int a3, .int a4, .int s.1, .int s.2] [] h
def E_X1_from_6 (x : Cx) (a2 : Int32) (a3 : Int32) (a4 : Int32) (h : Hp) : (Int32 × Int32) → Prop := fun s : (Int32 × Int32) => WA x 52 [.ref 41, .null, .int a2, .int a3, .int a4, .int s.1, .null] [] h
def b_X1_from_6 (R : Nat → List Int32 → Hp → Option (Int32 × Hp)) (a2 : Int32) (a3 : Int32) (a4 : Int32) (h : Hp) (s : (Int32 × Int32)) : Option ((Int32 × Int32) ⊕ (Int32 × Int32)) :=
  if 8 ≤ s.2 then
    some (.inr (s.1, s.2))
  else
    (f_X1_isKind s.1).bind fun r2 =>
    if r2 = 0 then
      some (.inr (s.1, s.2))
    else
      (rdT 93 ((s.1 * 4) + a2)).bind fun v4 =>
      if v4 = 0 then
        (rdT 92 s.1).bind fun v6 =>
        some (.inl (v6, s.2 + 1))
      else
        some (.inr (s.1, s.2))
theorem tb_X1_from_6 {x : Cx} {dn : Nat} {R : Nat → List Int32 → Hp → Option (Int32 × Hp)} (hdn : 2 ≤ dn) (hR : ∀ k as h r, R k as h = some r → CGF dn k as h r) (g : Gx x RX1 cX1_from 7 (dn + 1)) (a2 : Int32) (a3 : Int32) (a4 : Int32) (h : Hp) (s : (Int32 × Int32)) (out : (Int32 × Int32) ⊕ (Int32 × Int32)) (H : b_X1_from_6 R a2 a3 a4 h s = some out) (K : Sum.elim (P_X1_from_6 x a2 a3 a4 h) (E_X1_from_6 x a2 a3 a4 h) out) : P_X1_from_6 x a2 a3 a4 h s := by
  unfold b_X1_from_6 at H
  show WA x 6 [.ref 41, .null, .int a2, .int a3, .int a4, .int s.1, .int s.2] [] h
  refine st_iload g dX1_from_6 rfl ?_
  refine st_bipush g dX1_from_8 bi_8 ?_
  refine st_ic_ge g dX1_from_10 (tgt := 52) (by decide) H (fun q1 H => ?_) (fun q1 H => ?_)
  · obtain rfl := Option.some.inj H
    exact (wa_drop [6] K)
  · refine st_aload_n g dX1_from_13 rfl ?_
    refine st_iload g dX1_from_14 rfl ?_
    obtain ⟨r2, hr2, H⟩ := bind_some H
    refine st_callVI g (as := [.int s.1]) dX1_from_16 rfl rfl ml_X1_31 mf_X1_isKind rfl (Nat.le_of_ble_eq_true rfl) (by omega) (c_X1_isKind s.1 h _ hr2) (fun hz => ?_)
    have br2 := hz rfl
    refine st_if_eq g dX1_from_19 (tgt := 52) (by decide) H (fun q3 H => ?_) (fun q3 H => ?_)
    · obtain rfl := Option.some.inj H
      exact (wa_drop [6] K)
    · refine st_gets_OWN g dX1_from_22 fl_X1_45 ?_
      refine st_iload g dX1_from_25 rfl ?_
      refine st_iconst g dX1_from_27 ic_4 ?_
      refine st_imul g dX1_from_28 ?_
      refine st_iload_n g dX1_from_29 rfl ?_
      refine st_iadd g dX1_from_30 ?_
      refine st_tald g dX1_from_31 (by decide) (by decide) H (fun v4 H => ?_)
      refine st_if_eq g dX1_from_32 (tgt := 38) (by decide) H (fun q5 H => ?_) (fun q5 H => ?_)
      · refine st_gets_ABOVE g dX1_from_38 fl_X1_35 ?_
        refine st_iload g dX1_from_41 rfl ?_
        refine st_tald g dX1_from_43 (by decide) (by decide) H (fun v6 H => ?_)
        refine st_istore g dX1_from_44 (Nat.le_of_ble_eq_true rfl) rfl (ls2 := [.ref 41, .null, .int a2, .int a3, .int a4, .int v6, .int s.2]) rfl ?_
        refine st_iinc g dX1_from_46 rfl (ii_1 _) (Nat.le_of_ble_eq_true rfl) rfl (ls2 := [.ref 41, .null, .int a2, .int a3, .int a4, .int v6, .int (s.2 + 1)]) rfl ?_
        refine st_goto g dX1_from_49 (tgt := 6) (by decide) ?_
        obtain rfl := Option.some.inj H
        exact K
      · refine st_goto g dX1_from_35 (tgt := 52) (by decide) ?_
        obtain rfl := Option.some.inj H
        exact (wa_drop [6] K)
def j_X1_from_102 (R : Nat → List Int32 → Hp → Option (Int32 × Hp)) (a3 : Int32) (a4 : Int32) (a5 : Int32) (a6 : Int32) (h : Hp) : Option ((Int32 × Hp)) :=
  lt (stI h 41 3 ((h.1 41 3) + 1)) fun h13 =>
  (rdT 92 a5).bind fun v14 =>
  (R 1 [a6, v14, a3, a4 + 1] h13).bind fun r15 =>
  some (r15.1, r15.2)
theorem tj_X1_from_102 {x : Cx} {dn : Nat} {R : Nat → List Int32 → Hp → Option (Int32 × Hp)} (hdn : 2 ≤ dn) (hR : ∀ k as h r, R k as h = some r → CGF dn k as h r) (g : Gx x RX1 cX1_from 7 (dn + 1)) (a3 : Int32) (a4 : Int32) (a5 : Int32) (a6 : Int32) (h : Hp) (out : (Int32 × Hp)) (H : j_X1_from_102 R a3 a4 a5 a6 h = some out) (K : RtI x .int out.1 out.2) : WA x 102 [.ref 41, .null, .null, .int a3, .int a4, .int a5, .int a6] [] h := by
  unfold j_X1_from_102 at H
  refine st_aload_n g dX1_from_102 rfl ?_
  refine st_dup g dX1_from_103 rfl ?_
  refine gf_X1_22 g dX1_from_104 rfl ?_
  refine st_iconst g dX1_from_107 ic_1 ?_
  refine st_iadd g dX1_from_108 ?_
  refine pu_X1_22 g dX1_from_109 rfl ?_
  refine wa_ltH H (fun h13 H => ?_)
  refine st_aload_n g dX1_from_112 rfl ?_
  refine st_iload g dX1_from_113 rfl ?_
  refine st_gets_ABOVE g dX1_from_115 fl_X1_35 ?_
  refine st_iload g dX1_from_118 rfl ?_
  refine st_tald g dX1_from_120 (by decide) (by decide) H (fun v14 H => ?_)
  refine st_iload_n g dX1_from_121 rfl ?_
  refine st_iload g dX1_from_122 rfl ?_
  refine st_iconst g dX1_from_124 ic_1 ?_
  refine st_iadd g dX1_from_125 ?_
  obtain ⟨r15, hr15, H⟩ := bind_some H
  refine st_callVI g (as := [.int a6, .int v14, .int a3, .int (a4 + 1)]) dX1_from_126 rfl rfl ml_X1_48 mf_X1_perBody rfl (Nat.le_of_ble_eq_true rfl) (by omega) (hR _ _ _ _ hr15) (fun hz => ?_)
  obtain rfl := Option.some.inj H
  exact st_iret g dX1_from_129 rfl (fun q => by cases q) K
def j_X1_from_52 (R : Nat → List Int32 → Hp → Option (Int32 × Hp)) (a2 : Int32) (a3 : Int32) (a4 : Int32) (a5 : Int32) (h : Hp) : Option ((Int32 × Hp)) :=
  (f_X1_isKind a5).bind fun r8 =>
  if r8 = 0 then
    some (0, h)
  else
    if a4 ≤ 40 then
      (rdT 93 ((a5 * 4) + a2)).bind fun v11 =>
      if 24 ≤ (h.1 41 3) then
        j_X1_from_102 R a3 a4 a5 v11 h
      else
        (wrI h 43 (h.1 41 3) v11).bind fun h16 =>
        j_X1_from_102 R a3 a4 a5 v11 h16
    else
      some (0, h)
theorem tj_X1_from_52 {x : Cx} {dn : Nat} {R : Nat → List Int32 → Hp → Option (Int32 × Hp)} (hdn : 2 ≤ dn) (hR : ∀ k as h r, R k as h = some r → CGF dn k as h r) (g : Gx x RX1 cX1_from 7 (dn + 1)) (a2 : Int32) (a3 : Int32) (a4 : Int32) (a5 : Int32) (h : Hp) (out : (Int32 × Hp)) (H : j_X1_from_52 R a2 a3 a4 a5 h = some out) (K : RtI x .int out.1 out.2) : WA x 52 [.ref 41, .null, .int a2, .int a3, .int a4, .int a5, .null] [] h := by
  unfold j_X1_from_52 at H
  refine st_aload_n g dX1_from_52 rfl ?_
  refine st_iload g dX1_from_53 rfl ?_
  obtain ⟨r8, hr8, H⟩ := bind_some H
  refine st_callVI g (as := [.int a5]) dX1_from_55 rfl rfl ml_X1_31 mf_X1_isKind rfl (Nat.le_of_ble_eq_true rfl) (by omega) (c_X1_isKind a5 h _ hr8) (fun hz => ?_)
  have br8 := hz rfl
  refine st_if_eq g dX1_from_58 (tgt := 68) (by decide) H (fun q9 H => ?_) (fun q9 H => ?_)
  · refine st_iconst g dX1_from_68 ic_0 ?_
    obtain rfl := Option.some.inj H
    exact st_iret g dX1_from_69 rfl (fun q => by cases q) K
  · refine st_iload g dX1_from_61 rfl ?_
    refine st_bipush g dX1_from_63 bi_40 ?_
    refine st_ic_le g dX1_from_65 (tgt := 70) (by decide) H (fun q10 H => ?_) (fun q10 H => ?_)
    · refine st_gets_OWN g dX1_from_70 fl_X1_45 ?_
      refine st_iload g dX1_from_73 rfl ?_
      refine st_iconst g dX1_from_75 ic_4 ?_
      refine st_imul g dX1_from_76 ?_
      refine st_iload_n g dX1_from_77 rfl ?_
      refine st_iadd g dX1_from_78 ?_
      refine st_tald g dX1_from_79 (by decide) (by decide) H (fun v11 H => ?_)
      refine st_istore g dX1_from_80 (Nat.le_of_ble_eq_true rfl) rfl (ls2 := [.ref 41, .null, .int a2, .int a3, .int a4, .int a5, .int v11]) rfl ?_
      refine st_aload_n g dX1_from_82 rfl ?_
      refine gf_X1_22 g dX1_from_83 rfl ?_
      refine st_bipush g dX1_from_86 bi_24 ?_
      refine st_ic_ge g dX1_from_88 (tgt := 102) (by decide) H (fun q12 H => ?_) (fun q12 H => ?_)
      · exact (wa_drop [2] (tj_X1_from_102 hdn hR g a3 a4 a5 v11 h _ H K))
      · refine st_aload_n g dX1_from_91 rfl ?_
        refine gf_X1_19 g dX1_from_92 rfl (r := 43) rfl ?_
        refine st_aload_n g dX1_from_95 rfl ?_
        refine gf_X1_22 g dX1_from_96 rfl ?_
        refine st_iload g dX1_from_99 rfl ?_
        refine st_iast g dX1_from_101 H (fun h16 H => ?_)
        exact (wa_drop [2] (tj_X1_from_102 hdn hR g a3 a4 a5 v11 h16 _ H K))
    · refine st_iconst g dX1_from_68 ic_0 ?_
      obtain rfl := Option.some.inj H
      exact st_iret g dX1_from_69 rfl (fun q => by cases q) K
def m_X1_from (R : Nat → List Int32 → Hp → Option (Int32 × Hp)) (a1 : Int32) (a2 : Int32) (a3 : Int32) (a4 : Int32) (h : Hp) : Option (Int32 × Hp) :=
  (iter (b_X1_from_6 R a2 a3 a4 h) FU (a1, 0)).bind fun a7 =>
  j_X1_from_52 R a2 a3 a4 a7.1 h
theorem t_X1_from {x : Cx} {dn : Nat} {R : Nat → List Int32 → Hp → Option (Int32 × Hp)} (hdn : 2 ≤ dn) (hR : ∀ k as h r, R k as h = some r → CGF dn k as h r) (g : Gx x RX1 cX1_from 7 (dn + 1)) (a1 : Int32) (a2 : Int32) (a3 : Int32) (a4 : Int32) (h : Hp) (out : (Int32 × Hp)) (H : m_X1_from R a1 a2 a3 a4 h = some out) (K : RtI x .int out.1 out.2) : WA x 0 [.ref 41, .int a1, .int a2, .int a3, .int a4, .null, .null] [] h := by
  unfold m_X1_from at H
  refine st_iload_n g dX1_from_0 rfl ?_
  refine st_istore g dX1_from_1 (Nat.le_of_ble_eq_true rfl) rfl (ls2 := [.ref 41, .int a1, .int a2, .int a3, .int a4, .int a1, .null]) rfl ?_
  refine st_iconst g dX1_from_3 ic_0 ?_
  refine st_istore g dX1_from_4 (Nat.le_of_ble_eq_true rfl) rfl (ls2 := [.ref 41, .int a1, .int a2, .int a3, .int a4, .int a1, .int 0]) rfl ?_
  refine wa_drop [1] ?_
  show P_X1_from_6 x a2 a3 a4 h (a1, 0)
  obtain ⟨a7, ha7, H⟩ := bind_some H
  refine iter_W (P := P_X1_from_6 x a2 a3 a4 h) (E := E_X1_from_6 x a2 a3 a4 h) (fun s9 o9 ho9 hK9 => tb_X1_from_6 hdn hR g a2 a3 a4 h s9 o9 ho9 hK9) FU _ a7 ha7 ?_
  show WA x 52 [.ref 41, .null, .int a2, .int a3, .int a4, .int a7.1, .null] [] h
  exact (tj_X1_from_52 hdn hR g a2 a3 a4 a7.1 h _ H K)
def m_X1_perBody (R : Nat → List Int32 → Hp → Option (Int32 × Hp)) (a1 : Int32) (a2 : Int32) (a3 : Int32) (a4 : Int32) (h : Hp) : Option (Int32 × Hp) :=
  if a1 = 1 then
    some (a3 + (h.1 41 4), h)
  else
  if a1 = 2 then
    (R 0 [h.1 41 5, 1, a3, a4] h).bind fun r3 =>
    (R 0 [r3.2.1 41 5, 2, 1, a4] r3.2).bind fun r4 =>
    some (r3.1 - r4.1, r4.2)
  else
  if a1 = 10 then
    (R 0 [h.1 41 5, 0, a3, a4] h).bind fun r6 =>
    some (r6.1 * 2, r6.2)
  else
  if a1 = 11 then
    some (a3 ^^^ (h.1 41 4), h)
  else
  if a1 = 20 then
    (R 0 [a2, 0, a3, a4] h).bind fun r9 =>
    some (r9.1 + 3, r9.2)
  else
  if a1 = 30 then
    (R 0 [a2, 1, a3, a4] h).bind fun r11 =>
    some (-r11.1, r11.2)
  else
  if a1 = 40 then
    (R 0 [a2, 2, a3, a4] h).bind fun r13 =>
    some (r13.1 * 3, r13.2)
  else
  if a1 = 41 then
    (R 0 [a2, 1, a3 + 1, a4] h).bind fun r15 =>
    some (r15.1, r15.2)
  else
  if a1 = 50 then
    (R 0 [a2, 2, a3, a4] h).bind fun r17 =>
    (R 0 [r17.2.1 41 5, 0, 2, a4] r17.2).bind fun r18 =>
    some (r17.1 - r18.1, r18.2)
  else
  if a1 = 60 then
    (R 0 [a2, 3, a3, a4] h).bind fun r20 =>
    some (r20.1 ^^^ 5, r20.2)
  else
  if a1 = 70 then
    (R 0 [a2, 0, a3, a4] h).bind fun r22 =>
    some (r22.1 * 2, r22.2)
  else
  if a1 = 80 then
    (R 0 [a2, 1, a3, a4] h).bind fun r24 =>
    (R 0 [r24.2.1 41 5, 2, 2, a4] r24.2).bind fun r25 =>
    some (r24.1 + r25.1, r25.2)
  else
    (R 0 [a2, 3, a3, a4] h).bind fun r26 =>
    some (r26.1 - 1, r26.2)
theorem t_X1_perBody {x : Cx} {dn : Nat} {R : Nat → List Int32 → Hp → Option (Int32 × Hp)} (hdn : 2 ≤ dn) (hR : ∀ k as h r, R k as h = some r → CGF dn k as h r) (g : Gx x RX1 cX1_perBody 5 (dn + 1)) (a1 : Int32) (a2 : Int32) (a3 : Int32) (a4 : Int32) (h : Hp) (out : (Int32 × Hp)) (H : m_X1_perBody R a1 a2 a3 a4 h = some out) (K : RtI x .int out.1 out.2) : WA x 0 [.ref 41, .int a1, .int a2, .int a3, .int a4] [] h := by
  unfold m_X1_perBody at H
  refine st_iload_n g dX1_perBody_0 rfl ?_
  by_cases q1 : a1 = 1
  · rw [if_pos q1] at H
    refine st_lsw g dX1_perBody_1 (off := 107) (tgt := 108) (by decide) (by rw [q1]; rfl) (by decide) ?_
    refine st_iload_n g dX1_perBody_108 rfl ?_
    refine st_aload_n g dX1_perBody_109 rfl ?_
    refine gf_X1_25 g dX1_perBody_110 rfl ?_
    refine st_iadd g dX1_perBody_113 ?_
    obtain rfl := Option.some.inj H
    exact st_iret g dX1_perBody_114 rfl (fun q => by cases q) K
  · rw [if_neg q1] at H
    by_cases q2 : a1 = 2
    · rw [if_pos q2] at H
      refine st_lsw g dX1_perBody_1 (off := 114) (tgt := 115) (by decide) (by rw [q2]; rfl) (by decide) ?_
      refine st_aload_n g dX1_perBody_115 rfl ?_
      refine st_aload_n g dX1_perBody_116 rfl ?_
      refine gf_X1_28 g dX1_perBody_117 rfl ?_
      refine st_iconst g dX1_perBody_120 ic_1 ?_
      refine st_iload_n g dX1_perBody_121 rfl ?_
      refine st_iload g dX1_perBody_122 rfl ?_
      obtain ⟨r3, hr3, H⟩ := bind_some H
      refine st_callVI g (as := [.int (h.1 41 5), .int 1, .int a3, .int a4]) dX1_perBody_124 rfl rfl ml_X1_41 mf_X1_from rfl (Nat.le_of_ble_eq_true rfl) (by omega) (hR _ _ _ _ hr3) (fun hz => ?_)
      refine st_aload_n g dX1_perBody_127 rfl ?_
      refine st_aload_n g dX1_perBody_128 rfl ?_
      refine gf_X1_28 g dX1_perBody_129 rfl ?_
      refine st_iconst g dX1_perBody_132 ic_2 ?_
      refine st_iconst g dX1_perBody_133 ic_1 ?_
      refine st_iload g dX1_perBody_134 rfl ?_
      obtain ⟨r4, hr4, H⟩ := bind_some H
      refine st_callVI g (as := [.int (r3.2.1 41 5), .int 2, .int 1, .int a4]) dX1_perBody_136 rfl rfl ml_X1_41 mf_X1_from rfl (Nat.le_of_ble_eq_true rfl) (by omega) (hR _ _ _ _ hr4) (fun hz => ?_)
      refine st_isub g dX1_perBody_139 ?_
      obtain rfl := Option.some.inj H
      exact st_iret g dX1_perBody_140 rfl (fun q => by cases q) K
    · rw [if_neg q2] at H
      by_cases q5 : a1 = 10
      · rw [if_pos q5] at H
        refine st_lsw g dX1_perBody_1 (off := 140) (tgt := 141) (by decide) (by rw [q5]; rfl) (by decide) ?_
        refine st_aload_n g dX1_perBody_141 rfl ?_
        refine st_aload_n g dX1_perBody_142 rfl ?_
        refine gf_X1_28 g dX1_perBody_143 rfl ?_
        refine st_iconst g dX1_perBody_146 ic_0 ?_
        refine st_iload_n g dX1_perBody_147 rfl ?_
        refine st_iload g dX1_perBody_148 rfl ?_
        obtain ⟨r6, hr6, H⟩ := bind_some H
        refine st_callVI g (as := [.int (h.1 41 5), .int 0, .int a3, .int a4]) dX1_perBody_150 rfl rfl ml_X1_41 mf_X1_from rfl (Nat.le_of_ble_eq_true rfl) (by omega) (hR _ _ _ _ hr6) (fun hz => ?_)
        refine st_iconst g dX1_perBody_153 ic_2 ?_
        refine st_imul g dX1_perBody_154 ?_
        obtain rfl := Option.some.inj H
        exact st_iret g dX1_perBody_155 rfl (fun q => by cases q) K
      · rw [if_neg q5] at H
        by_cases q7 : a1 = 11
        · rw [if_pos q7] at H
          refine st_lsw g dX1_perBody_1 (off := 155) (tgt := 156) (by decide) (by rw [q7]; rfl) (by decide) ?_
          refine st_iload_n g dX1_perBody_156 rfl ?_
          refine st_aload_n g dX1_perBody_157 rfl ?_
          refine gf_X1_25 g dX1_perBody_158 rfl ?_
          refine st_ixor g dX1_perBody_161 ?_
          obtain rfl := Option.some.inj H
          exact st_iret g dX1_perBody_162 rfl (fun q => by cases q) K
        · rw [if_neg q7] at H
          by_cases q8 : a1 = 20
          · rw [if_pos q8] at H
            refine st_lsw g dX1_perBody_1 (off := 162) (tgt := 163) (by decide) (by rw [q8]; rfl) (by decide) ?_
            refine st_aload_n g dX1_perBody_163 rfl ?_
            refine st_iload_n g dX1_perBody_164 rfl ?_
            refine st_iconst g dX1_perBody_165 ic_0 ?_
            refine st_iload_n g dX1_perBody_166 rfl ?_
            refine st_iload g dX1_perBody_167 rfl ?_
            obtain ⟨r9, hr9, H⟩ := bind_some H
            refine st_callVI g (as := [.int a2, .int 0, .int a3, .int a4]) dX1_perBody_169 rfl rfl ml_X1_41 mf_X1_from rfl (Nat.le_of_ble_eq_true rfl) (by omega) (hR _ _ _ _ hr9) (fun hz => ?_)
            refine st_iconst g dX1_perBody_172 ic_3 ?_
            refine st_iadd g dX1_perBody_173 ?_
            obtain rfl := Option.some.inj H
            exact st_iret g dX1_perBody_174 rfl (fun q => by cases q) K
          · rw [if_neg q8] at H
            by_cases q10 : a1 = 30
            · rw [if_pos q10] at H
              refine st_lsw g dX1_perBody_1 (off := 174) (tgt := 175) (by decide) (by rw [q10]; rfl) (by decide) ?_
              refine st_aload_n g dX1_perBody_175 rfl ?_
              refine st_iload_n g dX1_perBody_176 rfl ?_
              refine st_iconst g dX1_perBody_177 ic_1 ?_
              refine st_iload_n g dX1_perBody_178 rfl ?_
              refine st_iload g dX1_perBody_179 rfl ?_
              obtain ⟨r11, hr11, H⟩ := bind_some H
              refine st_callVI g (as := [.int a2, .int 1, .int a3, .int a4]) dX1_perBody_181 rfl rfl ml_X1_41 mf_X1_from rfl (Nat.le_of_ble_eq_true rfl) (by omega) (hR _ _ _ _ hr11) (fun hz => ?_)
              refine st_ineg g dX1_perBody_184 ?_
              obtain rfl := Option.some.inj H
              exact st_iret g dX1_perBody_185 rfl (fun q => by cases q) K
            · rw [if_neg q10] at H
              by_cases q12 : a1 = 40
              · rw [if_pos q12] at H
                refine st_lsw g dX1_perBody_1 (off := 185) (tgt := 186) (by decide) (by rw [q12]; rfl) (by decide) ?_
                refine st_aload_n g dX1_perBody_186 rfl ?_
                refine st_iload_n g dX1_perBody_187 rfl ?_
                refine st_iconst g dX1_perBody_188 ic_2 ?_
                refine st_iload_n g dX1_perBody_189 rfl ?_
                refine st_iload g dX1_perBody_190 rfl ?_
                obtain ⟨r13, hr13, H⟩ := bind_some H
                refine st_callVI g (as := [.int a2, .int 2, .int a3, .int a4]) dX1_perBody_192 rfl rfl ml_X1_41 mf_X1_from rfl (Nat.le_of_ble_eq_true rfl) (by omega) (hR _ _ _ _ hr13) (fun hz => ?_)
                refine st_iconst g dX1_perBody_195 ic_3 ?_
                refine st_imul g dX1_perBody_196 ?_
                obtain rfl := Option.some.inj H
                exact st_iret g dX1_perBody_197 rfl (fun q => by cases q) K
              · rw [if_neg q12] at H
                by_cases q14 : a1 = 41
                · rw [if_pos q14] at H
                  refine st_lsw g dX1_perBody_1 (off := 197) (tgt := 198) (by decide) (by rw [q14]; rfl) (by decide) ?_
                  refine st_aload_n g dX1_perBody_198 rfl ?_
                  refine st_iload_n g dX1_perBody_199 rfl ?_
                  refine st_iconst g dX1_perBody_200 ic_1 ?_
                  refine st_iload_n g dX1_perBody_201 rfl ?_
                  refine st_iconst g dX1_perBody_202 ic_1 ?_
                  refine st_iadd g dX1_perBody_203 ?_
                  refine st_iload g dX1_perBody_204 rfl ?_
                  obtain ⟨r15, hr15, H⟩ := bind_some H
                  refine st_callVI g (as := [.int a2, .int 1, .int (a3 + 1), .int a4]) dX1_perBody_206 rfl rfl ml_X1_41 mf_X1_from rfl (Nat.le_of_ble_eq_true rfl) (by omega) (hR _ _ _ _ hr15) (fun hz => ?_)
                  obtain rfl := Option.some.inj H
                  exact st_iret g dX1_perBody_209 rfl (fun q => by cases q) K
                · rw [if_neg q14] at H
                  by_cases q16 : a1 = 50
                  · rw [if_pos q16] at H
                    refine st_lsw g dX1_perBody_1 (off := 209) (tgt := 210) (by decide) (by rw [q16]; rfl) (by decide) ?_
                    refine st_aload_n g dX1_perBody_210 rfl ?_
                    refine st_iload_n g dX1_perBody_211 rfl ?_
                    refine st_iconst g dX1_perBody_212 ic_2 ?_
                    refine st_iload_n g dX1_perBody_213 rfl ?_
                    refine st_iload g dX1_perBody_214 rfl ?_
                    obtain ⟨r17, hr17, H⟩ := bind_some H
                    refine st_callVI g (as := [.int a2, .int 2, .int a3, .int a4]) dX1_perBody_216 rfl rfl ml_X1_41 mf_X1_from rfl (Nat.le_of_ble_eq_true rfl) (by omega) (hR _ _ _ _ hr17) (fun hz => ?_)
                    refine st_aload_n g dX1_perBody_219 rfl ?_
                    refine st_aload_n g dX1_perBody_220 rfl ?_
                    refine gf_X1_28 g dX1_perBody_221 rfl ?_
                    refine st_iconst g dX1_perBody_224 ic_0 ?_
                    refine st_iconst g dX1_perBody_225 ic_2 ?_
                    refine st_iload g dX1_perBody_226 rfl ?_
                    obtain ⟨r18, hr18, H⟩ := bind_some H
                    refine st_callVI g (as := [.int (r17.2.1 41 5), .int 0, .int 2, .int a4]) dX1_perBody_228 rfl rfl ml_X1_41 mf_X1_from rfl (Nat.le_of_ble_eq_true rfl) (by omega) (hR _ _ _ _ hr18) (fun hz => ?_)
                    refine st_isub g dX1_perBody_231 ?_
                    obtain rfl := Option.some.inj H
                    exact st_iret g dX1_perBody_232 rfl (fun q => by cases q) K
                  · rw [if_neg q16] at H
                    by_cases q19 : a1 = 60
                    · rw [if_pos q19] at H
                      refine st_lsw g dX1_perBody_1 (off := 232) (tgt := 233) (by decide) (by rw [q19]; rfl) (by decide) ?_
                      refine st_aload_n g dX1_perBody_233 rfl ?_
                      refine st_iload_n g dX1_perBody_234 rfl ?_
                      refine st_iconst g dX1_perBody_235 ic_3 ?_
                      refine st_iload_n g dX1_perBody_236 rfl ?_
                      refine st_iload g dX1_perBody_237 rfl ?_
                      obtain ⟨r20, hr20, H⟩ := bind_some H
                      refine st_callVI g (as := [.int a2, .int 3, .int a3, .int a4]) dX1_perBody_239 rfl rfl ml_X1_41 mf_X1_from rfl (Nat.le_of_ble_eq_true rfl) (by omega) (hR _ _ _ _ hr20) (fun hz => ?_)
                      refine st_iconst g dX1_perBody_242 ic_5 ?_
                      refine st_ixor g dX1_perBody_243 ?_
                      obtain rfl := Option.some.inj H
                      exact st_iret g dX1_perBody_244 rfl (fun q => by cases q) K
                    · rw [if_neg q19] at H
                      by_cases q21 : a1 = 70
                      · rw [if_pos q21] at H
                        refine st_lsw g dX1_perBody_1 (off := 244) (tgt := 245) (by decide) (by rw [q21]; rfl) (by decide) ?_
                        refine st_aload_n g dX1_perBody_245 rfl ?_
                        refine st_iload_n g dX1_perBody_246 rfl ?_
                        refine st_iconst g dX1_perBody_247 ic_0 ?_
                        refine st_iload_n g dX1_perBody_248 rfl ?_
                        refine st_iload g dX1_perBody_249 rfl ?_
                        obtain ⟨r22, hr22, H⟩ := bind_some H
                        refine st_callVI g (as := [.int a2, .int 0, .int a3, .int a4]) dX1_perBody_251 rfl rfl ml_X1_41 mf_X1_from rfl (Nat.le_of_ble_eq_true rfl) (by omega) (hR _ _ _ _ hr22) (fun hz => ?_)
                        refine st_iconst g dX1_perBody_254 ic_2 ?_
                        refine st_imul g dX1_perBody_255 ?_
                        obtain rfl := Option.some.inj H
                        exact st_iret g dX1_perBody_256 rfl (fun q => by cases q) K
                      · rw [if_neg q21] at H
                        by_cases q23 : a1 = 80
                        · rw [if_pos q23] at H
                          refine st_lsw g dX1_perBody_1 (off := 256) (tgt := 257) (by decide) (by rw [q23]; rfl) (by decide) ?_
                          refine st_aload_n g dX1_perBody_257 rfl ?_
                          refine st_iload_n g dX1_perBody_258 rfl ?_
                          refine st_iconst g dX1_perBody_259 ic_1 ?_
                          refine st_iload_n g dX1_perBody_260 rfl ?_
                          refine st_iload g dX1_perBody_261 rfl ?_
                          obtain ⟨r24, hr24, H⟩ := bind_some H
                          refine st_callVI g (as := [.int a2, .int 1, .int a3, .int a4]) dX1_perBody_263 rfl rfl ml_X1_41 mf_X1_from rfl (Nat.le_of_ble_eq_true rfl) (by omega) (hR _ _ _ _ hr24) (fun hz => ?_)
                          refine st_aload_n g dX1_perBody_266 rfl ?_
                          refine st_aload_n g dX1_perBody_267 rfl ?_
                          refine gf_X1_28 g dX1_perBody_268 rfl ?_
                          refine st_iconst g dX1_perBody_271 ic_2 ?_
                          refine st_iconst g dX1_perBody_272 ic_2 ?_
                          refine st_iload g dX1_perBody_273 rfl ?_
                          obtain ⟨r25, hr25, H⟩ := bind_some H
                          refine st_callVI g (as := [.int (r24.2.1 41 5), .int 2, .int 2, .int a4]) dX1_perBody_275 rfl rfl ml_X1_41 mf_X1_from rfl (Nat.le_of_ble_eq_true rfl) (by omega) (hR _ _ _ _ hr25) (fun hz => ?_)
                          refine st_iadd g dX1_perBody_278 ?_
                          obtain rfl := Option.some.inj H
                          exact st_iret g dX1_perBody_279 rfl (fun q => by cases q) K
                        · rw [if_neg q23] at H
                          refine st_lsw g dX1_perBody_1 (off := 279) (tgt := 280) (by decide) (by show Op.lookupswitch.offset [(1, 107), (2, 114), (10, 140), (11, 155), (20, 162), (30, 174), (40, 185), (41, 197), (50, 209), (60, 232), (70, 244), (80, 256)] 279 _ = 279; rw [lv_osw q1 (by decide), lv_osw q2 (by decide), lv_osw q5 (by decide), lv_osw q7 (by decide), lv_osw q8 (by decide), lv_osw q10 (by decide), lv_osw q12 (by decide), lv_osw q14 (by decide), lv_osw q16 (by decide), lv_osw q19 (by decide), lv_osw q21 (by decide), lv_osw q23 (by decide)]; rfl) (by decide) ?_
                          refine st_aload_n g dX1_perBody_280 rfl ?_
                          refine st_iload_n g dX1_perBody_281 rfl ?_
                          refine st_iconst g dX1_perBody_282 ic_3 ?_
                          refine st_iload_n g dX1_perBody_283 rfl ?_
                          refine st_iload g dX1_perBody_284 rfl ?_
                          obtain ⟨r26, hr26, H⟩ := bind_some H
                          refine st_callVI g (as := [.int a2, .int 3, .int a3, .int a4]) dX1_perBody_286 rfl rfl ml_X1_41 mf_X1_from rfl (Nat.le_of_ble_eq_true rfl) (by omega) (hR _ _ _ _ hr26) (fun hz => ?_)
                          refine st_iconst g dX1_perBody_289 ic_1 ?_
                          refine st_isub g dX1_perBody_290 ?_
                          obtain rfl := Option.some.inj H
                          exact st_iret g dX1_perBody_291 rfl (fun q => by cases q) K
theorem cm_X1_from {dn : Nat} {R : Nat → List Int32 → Hp → Option (Int32 × Hp)} (hdn : 2 ≤ dn) (hR : ∀ k as h r, R k as h = some r → CGF dn k as h r) (a1 : Int32) (a2 : Int32) (a3 : Int32) (a4 : Int32) (h : Hp) (r : Int32 × Hp) (H : m_X1_from R a1 a2 a3 a4 h = some r) : CtI yX1_from cX1_from 7 .int (dn + 1) [.ref 41, .int a1, .int a2, .int a3, .int a4] h r.1 r.2 :=
  ct_ofI (own := RX1) [.ref 41, .int a1, .int a2, .int a3, .int a4, .null, .null] (by decide +kernel) rfl (fun ρ => Nat.le_of_ble_eq_true rfl) (fun ρ => rfl) (fun x g K => t_X1_from hdn hR g a1 a2 a3 a4 h r H K)
theorem cm_X1_perBody {dn : Nat} {R : Nat → List Int32 → Hp → Option (Int32 × Hp)} (hdn : 2 ≤ dn) (hR : ∀ k as h r, R k as h = some r → CGF dn k as h r) (a1 : Int32) (a2 : Int32) (a3 : Int32) (a4 : Int32) (h : Hp) (r : Int32 × Hp) (H : m_X1_perBody R a1 a2 a3 a4 h = some r) : CtI yX1_perBody cX1_perBody 5 .int (dn + 1) [.ref 41, .int a1, .int a2, .int a3, .int a4] h r.1 r.2 :=
  ct_ofI (own := RX1) [.ref 41, .int a1, .int a2, .int a3, .int a4] (by decide +kernel) rfl (fun ρ => Nat.le_of_ble_eq_true rfl) (fun ρ => rfl) (fun x g K => t_X1_perBody hdn hR g a1 a2 a3 a4 h r H K)
def fG_GF : Nat → Nat → List Int32 → Hp → Option (Int32 × Hp)
  | 0, _, _, _ => none
  | n + 1, k, as, h => match k, as with
    | 0, [a1, a2, a3, a4] => m_X1_from (fG_GF n) a1 a2 a3 a4 h
    | 1, [a1, a2, a3, a4] => m_X1_perBody (fG_GF n) a1 a2 a3 a4 h
    | _, _ => none
theorem cG_GF : ∀ (n k : Nat) (as : List Int32) (h : Hp) (r : Int32 × Hp), fG_GF n k as h = some r → CGF (2 + n) k as h r := by
  intro n
  induction n with
  | zero => intro k as h r H; cases H
  | succ n ih =>
    intro k as h r H
    unfold fG_GF at H
    split at H
    · exact cm_X1_from (Nat.le_add_right _ _) ih _ _ _ _ h r H
    · exact cm_X1_perBody (Nat.le_add_right _ _) ih _ _ _ _ h r H
    · cases H
def f_X1_from (a1 : Int32) (a2 : Int32) (a3 : Int32) (a4 : Int32) (h : Hp) : Option (Int32 × Hp) := fG_GF 60 0 [a1, a2, a3, a4] h
theorem c_X1_from (a1 : Int32) (a2 : Int32) (a3 : Int32) (a4 : Int32) (h : Hp) (r : Int32 × Hp) (H : f_X1_from a1 a2 a3 a4 h = some r) : CtI yX1_from cX1_from 7 .int 62 [.ref 41, .int a1, .int a2, .int a3, .int a4] h r.1 r.2 := cG_GF 60 0 [a1, a2, a3, a4] h r H
def f_X1_perBody (a1 : Int32) (a2 : Int32) (a3 : Int32) (a4 : Int32) (h : Hp) : Option (Int32 × Hp) := fG_GF 60 1 [a1, a2, a3, a4] h
theorem c_X1_perBody (a1 : Int32) (a2 : Int32) (a3 : Int32) (a4 : Int32) (h : Hp) (r : Int32 × Hp) (H : f_X1_perBody a1 a2 a3 a4 h = some r) : CtI yX1_perBody cX1_perBody 5 .int 62 [.ref 41, .int a1, .int a2, .int a3, .int a4] h r.1 r.2 := cG_GF 60 1 [a1, a2, a3, a4] h r H
def f_X1_perform (a1 : Int32) (a2 : Int32) (a3 : Int32) (h : Hp) : Option (Int32 × Hp) :=
  lt (stI h 41 3 0) fun h1 =>
  (f_X1_isBody a1 h1).bind fun r2 =>
  if r2 = 0 then
    some (0, h1)
  else
    if a2 < 0 then
      some (0, h1)
    else
      if a2 < 4 then
        lt (stI h1 41 4 a1) fun h6 =>
        (rdI h6 42 a1).bind fun v7 =>
        lt (stI h6 41 5 v7) fun h8 =>
        (f_X1_from (h8.1 41 5) a2 a3 0 h8).bind fun r9 =>
        some (r9.1, r9.2)
      else
        some (0, h1)
theorem t_X1_perform {x : Cx} (g : Gx x RX1 cX1_perform 4 63) (a1 : Int32) (a2 : Int32) (a3 : Int32) (h : Hp) (out : (Int32 × Hp)) (H : f_X1_perform a1 a2 a3 h = some out) (K : RtI x .int out.1 out.2) : WA x 0 [.ref 41, .int a1, .int a2, .int a3] [] h := by
  unfold f_X1_perform at H
  refine st_aload_n g dX1_perform_0 rfl ?_
  refine st_iconst g dX1_perform_1 ic_0 ?_
  refine pu_X1_22 g dX1_perform_2 rfl ?_
  refine wa_ltH H (fun h1 H => ?_)
  refine st_aload_n g dX1_perform_5 rfl ?_
  refine st_iload_n g dX1_perform_6 rfl ?_
  obtain ⟨r2, hr2, H⟩ := bind_some H
  refine st_callVI g (as := [.int a1]) dX1_perform_7 rfl rfl ml_X1_38 mf_X1_isBody rfl (Nat.le_of_ble_eq_true rfl) (Nat.le_of_ble_eq_true rfl) (c_X1_isBody a1 h1 _ hr2) (fun hz => ?_)
  have br2 := hz rfl
  refine st_if_eq g dX1_perform_10 (tgt := 22) (by decide) H (fun q3 H => ?_) (fun q3 H => ?_)
  · refine st_iconst g dX1_perform_22 ic_0 ?_
    obtain rfl := Option.some.inj H
    exact st_iret g dX1_perform_23 rfl (fun q => by cases q) K
  · refine st_iload_n g dX1_perform_13 rfl ?_
    refine st_if_lt g dX1_perform_14 (tgt := 22) (by decide) H (fun q4 H => ?_) (fun q4 H => ?_)
    · refine st_iconst g dX1_perform_22 ic_0 ?_
      obtain rfl := Option.some.inj H
      exact st_iret g dX1_perform_23 rfl (fun q => by cases q) K
    · refine st_iload_n g dX1_perform_17 rfl ?_
      refine st_iconst g dX1_perform_18 ic_4 ?_
      refine st_ic_lt g dX1_perform_19 (tgt := 24) (by decide) H (fun q5 H => ?_) (fun q5 H => ?_)
      · refine st_aload_n g dX1_perform_24 rfl ?_
        refine st_iload_n g dX1_perform_25 rfl ?_
        refine pu_X1_25 g dX1_perform_26 rfl ?_
        refine wa_ltH H (fun h6 H => ?_)
        refine st_aload_n g dX1_perform_29 rfl ?_
        refine st_aload_n g dX1_perform_30 rfl ?_
        refine gf_X1_15 g dX1_perform_31 rfl (r := 42) rfl ?_
        refine st_iload_n g dX1_perform_34 rfl ?_
        refine st_iald g dX1_perform_35 H (fun v7 H => ?_)
        refine pu_X1_28 g dX1_perform_36 rfl ?_
        refine wa_ltH H (fun h8 H => ?_)
        refine st_aload_n g dX1_perform_39 rfl ?_
        refine st_aload_n g dX1_perform_40 rfl ?_
        refine gf_X1_28 g dX1_perform_41 rfl ?_
        refine st_iload_n g dX1_perform_44 rfl ?_
        refine st_iload_n g dX1_perform_45 rfl ?_
        refine st_iconst g dX1_perform_46 ic_0 ?_
        obtain ⟨r9, hr9, H⟩ := bind_some H
        refine st_callVI g (as := [.int (h8.1 41 5), .int a2, .int a3, .int 0]) dX1_perform_47 rfl rfl ml_X1_41 mf_X1_from rfl (Nat.le_of_ble_eq_true rfl) (Nat.le_of_ble_eq_true rfl) (c_X1_from (h8.1 41 5) a2 a3 0 h8 _ hr9) (fun hz => ?_)
        obtain rfl := Option.some.inj H
        exact st_iret g dX1_perform_50 rfl (fun q => by cases q) K
      · refine st_iconst g dX1_perform_22 ic_0 ?_
        obtain rfl := Option.some.inj H
        exact st_iret g dX1_perform_23 rfl (fun q => by cases q) K
theorem c_X1_perform (a1 : Int32) (a2 : Int32) (a3 : Int32) (h : Hp) (r : (Int32 × Hp)) (H : f_X1_perform a1 a2 a3 h = some r) : CtI yX1_perform cX1_perform 4 .int 63 [.ref 41, .int a1, .int a2, .int a3] h r.1 r.2 :=
  ct_ofI (own := RX1) [.ref 41, .int a1, .int a2, .int a3] (by decide +kernel) rfl (fun ρ => Nat.le_of_ble_eq_true rfl) (fun ρ => rfl) (fun x g K => t_X1_perform g a1 a2 a3 h r H K)
def f_X7_act (a1 : Int32) (a2 : Int32) (a3 : Int32) (h : Hp) : Option (Int32 × Hp) :=
  (f_X1_perform a1 a2 a3 h).bind fun r1 =>
  some (r1.1, r1.2)
theorem t_X7_act {x : Cx} (g : Gx x RX7 cX7_act 4 64) (a1 : Int32) (a2 : Int32) (a3 : Int32) (h : Hp) (out : (Int32 × Hp)) (H : f_X7_act a1 a2 a3 h = some out) (K : RtI x .int out.1 out.2) : WA x 0 [.ref 0, .int a1, .int a2, .int a3] [] h := by
  unfold f_X7_act at H
  refine st_aload_n g dX7_act_0 rfl ?_
  refine gf_X7_61 g dX7_act_1 rfl (r := 41) rfl ?_
  refine st_iload_n g dX7_act_4 rfl ?_
  refine st_iload_n g dX7_act_5 rfl ?_
  refine st_iload_n g dX7_act_6 rfl ?_
  obtain ⟨r1, hr1, H⟩ := bind_some H
  refine st_callVI g (as := [.int a1, .int a2, .int a3]) dX7_act_7 rfl rfl ml_X7_319 mf_X1_perform rfl (Nat.le_of_ble_eq_true rfl) (Nat.le_of_ble_eq_true rfl) (c_X1_perform a1 a2 a3 h _ hr1) (fun hz => ?_)
  obtain rfl := Option.some.inj H
  exact st_iret g dX7_act_10 rfl (fun q => by cases q) K
theorem c_X7_act (a1 : Int32) (a2 : Int32) (a3 : Int32) (h : Hp) (r : (Int32 × Hp)) (H : f_X7_act a1 a2 a3 h = some r) : CtI yX7_act cX7_act 4 .int 64 [.ref 0, .int a1, .int a2, .int a3] h r.1 r.2 :=
  ct_ofI (own := RX7) [.ref 0, .int a1, .int a2, .int a3] (by decide +kernel) rfl (fun ρ => Nat.le_of_ble_eq_true rfl) (fun ρ => rfl) (fun x g K => t_X7_act g a1 a2 a3 h r H K)
def CGE (d k : Nat) (as : List Int32) (h : Hp) (r : Int32 × Hp) : Prop := match k with
  | 0 => CtI yX8_isE cX8_isE 1 .boolean d (.ref 53 :: as.map .int) h r.1 r.2
  | 1 => CtI yX8_isA cX8_isA 1 .boolean d (.ref 53 :: as.map .int) h r.1 r.2
  | 2 => CtI yX8_isB cX8_isB 2 .boolean d (.ref 53 :: as.map .int) h r.1 r.2
  | 3 => CtI yX8_isS cX8_isS 2 .boolean d (.ref 53 :: as.map .int) h r.1 r.2
  | 4 => CtI yX8_isP cX8_isP 2 .boolean d (.ref 53 :: as.map .int) h r.1 r.2
  | 5 => CtI yX8_isO cX8_isO 3 .boolean d (.ref 53 :: as.map .int) h r.1 r.2
  | _ => False
def P_X8_isE_9 (x : Cx) (s : Hp) : Prop := WA x 9 [.ref 53] [] s
def E_X8_isE_9 (x : Cx) : Hp ⊕ (Int32 × Hp) → Prop := Sum.elim (fun s : Hp => WA x 37 [.null] [] s) (fun r : (Int32 × Hp) => RtI x .boolean r.1 r.2)
def b_X8_isE_9 (R : Nat → List Int32 → Hp → Option (Int32 × Hp)) (s : Hp) : Option (Hp ⊕ (Hp ⊕ (Int32 × Hp))) :=
  (f_X8_is 124 s).bind fun r3 =>
  if r3.1 = 0 then
    some (.inr (.inl r3.2))
  else
    (R 1 [] r3.2).bind fun r5 =>
    if r5.1 = 0 then
      some (.inr (.inr (0, r5.2)))
    else
      (f_X8_codes 6 r5.2).bind fun r7 =>
      some (.inl r7.2)
theorem tb_X8_isE_9 {x : Cx} {dn : Nat} {R : Nat → List Int32 → Hp → Option (Int32 × Hp)} (hdn : 3 ≤ dn) (hR : ∀ k as h r, R k as h = some r → CGE dn k as h r) (g : Gx x RX8 cX8_isE 1 (dn + 1)) (s : Hp) (out : Hp ⊕ (Hp ⊕ (Int32 × Hp))) (H : b_X8_isE_9 R s = some out) (K : Sum.elim (P_X8_isE_9 x) (E_X8_isE_9 x) out) : P_X8_isE_9 x s := by
  unfold b_X8_isE_9 at H
  show WA x 9 [.ref 53] [] s
  refine st_aload_n g dX8_isE_9 rfl ?_
  refine st_bipush g dX8_isE_10 bi_124 ?_
  obtain ⟨r3, hr3, H⟩ := bind_some H
  refine st_callVI g (as := [.int 124]) dX8_isE_12 rfl rfl ml_X8_197 mf_X8_is rfl (Nat.le_of_ble_eq_true rfl) (by omega) (c_X8_is 124 s _ hr3) (fun hz => ?_)
  have br3 := hz rfl
  refine st_if_eq g dX8_isE_15 (tgt := 37) (by decide) H (fun q4 H => ?_) (fun q4 H => ?_)
  · obtain rfl := Option.some.inj H
    exact (wa_drop [0] K)
  · refine st_aload_n g dX8_isE_18 rfl ?_
    obtain ⟨r5, hr5, H⟩ := bind_some H
    refine st_callVI g (as := []) dX8_isE_19 rfl rfl ml_X8_215 mf_X8_isA rfl (Nat.le_of_ble_eq_true rfl) (by omega) (hR _ _ _ _ hr5) (fun hz => ?_)
    have br5 := hz rfl
    refine st_if_ne g dX8_isE_22 (tgt := 27) (by decide) H (fun q6 H => ?_) (fun q6 H => ?_)
    · refine st_aload_n g dX8_isE_27 rfl ?_
      refine st_bipush g dX8_isE_28 bi_6 ?_
      obtain ⟨r7, hr7, H⟩ := bind_some H
      refine st_callVI g (as := [.int 6]) dX8_isE_30 rfl rfl ml_X8_187 mf_X8_codes rfl (Nat.le_of_ble_eq_true rfl) (by omega) (c_X8_codes 6 r5.2 _ hr7) (fun hz => ?_)
      have br7 := hz rfl
      refine st_pop g dX8_isE_33 rfl ?_
      refine st_goto g dX8_isE_34 (tgt := 9) (by decide) ?_
      obtain rfl := Option.some.inj H
      exact K
    · refine st_iconst g dX8_isE_25 ic_0 ?_
      obtain rfl := Option.some.inj H
      exact st_iret g dX8_isE_26 rfl (fun _ => Or.inl rfl) K
def m_X8_isE (R : Nat → List Int32 → Hp → Option (Int32 × Hp)) (h : Hp) : Option (Int32 × Hp) :=
  (R 1 [] h).bind fun r1 =>
  if r1.1 = 0 then
    some (0, r1.2)
  else
    (iter (b_X8_isE_9 R) FU r1.2).bind (Sum.elim (fun a8 =>
      some (1, a8)) (fun r => some r))
theorem t_X8_isE {x : Cx} {dn : Nat} {R : Nat → List Int32 → Hp → Option (Int32 × Hp)} (hdn : 3 ≤ dn) (hR : ∀ k as h r, R k as h = some r → CGE dn k as h r) (g : Gx x RX8 cX8_isE 1 (dn + 1)) (h : Hp) (out : (Int32 × Hp)) (H : m_X8_isE R h = some out) (K : RtI x .boolean out.1 out.2) : WA x 0 [.ref 53] [] h := by
  unfold m_X8_isE at H
  refine st_aload_n g dX8_isE_0 rfl ?_
  obtain ⟨r1, hr1, H⟩ := bind_some H
  refine st_callVI g (as := []) dX8_isE_1 rfl rfl ml_X8_215 mf_X8_isA rfl (Nat.le_of_ble_eq_true rfl) (by omega) (hR _ _ _ _ hr1) (fun hz => ?_)
  have br1 := hz rfl
  refine st_if_ne g dX8_isE_4 (tgt := 9) (by decide) H (fun q2 H => ?_) (fun q2 H => ?_)
  · show P_X8_isE_9 x r1.2
    obtain ⟨a8o, ha8, hca8⟩ := it_R H
    refine iter_W (P := P_X8_isE_9 x) (E := E_X8_isE_9 x) (fun s9 o9 ho9 hK9 => tb_X8_isE_9 hdn hR g s9 o9 ho9 hK9) FU _ a8o ha8 ?_
    rcases hca8 with ⟨a8, rfl, H⟩ | ⟨r, rfl, H⟩
    · show WA x 37 [.null] [] a8
      refine st_iconst g dX8_isE_37 ic_1 ?_
      obtain rfl := Option.some.inj H
      exact st_iret g dX8_isE_38 rfl (fun _ => Or.inr rfl) K
    · obtain rfl := Option.some.inj H
      exact K
  · refine st_iconst g dX8_isE_7 ic_0 ?_
    obtain rfl := Option.some.inj H
    exact st_iret g dX8_isE_8 rfl (fun _ => Or.inl rfl) K
def P_X8_isA_9 (x : Cx) (s : Hp) : Prop := WA x 9 [.ref 53] [] s
def E_X8_isA_9 (x : Cx) : Hp ⊕ (Int32 × Hp) → Prop := Sum.elim (fun s : Hp => WA x 37 [.null] [] s) (fun r : (Int32 × Hp) => RtI x .boolean r.1 r.2)
def b_X8_isA_9 (R : Nat → List Int32 → Hp → Option (Int32 × Hp)) (s : Hp) : Option (Hp ⊕ (Hp ⊕ (Int32 × Hp))) :=
  (f_X8_is 38 s).bind fun r3 =>
  if r3.1 = 0 then
    some (.inr (.inl r3.2))
  else
    (R 2 [] r3.2).bind fun r5 =>
    if r5.1 = 0 then
      some (.inr (.inr (0, r5.2)))
    else
      (f_X8_codes 7 r5.2).bind fun r7 =>
      some (.inl r7.2)
theorem tb_X8_isA_9 {x : Cx} {dn : Nat} {R : Nat → List Int32 → Hp → Option (Int32 × Hp)} (hdn : 3 ≤ dn) (hR : ∀ k as h r, R k as h = some r → CGE dn k as h r) (g : Gx x RX8 cX8_isA 1 (dn + 1)) (s : Hp) (out : Hp ⊕ (Hp ⊕ (Int32 × Hp))) (H : b_X8_isA_9 R s = some out) (K : Sum.elim (P_X8_isA_9 x) (E_X8_isA_9 x) out) : P_X8_isA_9 x s := by
  unfold b_X8_isA_9 at H
  show WA x 9 [.ref 53] [] s
  refine st_aload_n g dX8_isA_9 rfl ?_
  refine st_bipush g dX8_isA_10 bi_38 ?_
  obtain ⟨r3, hr3, H⟩ := bind_some H
  refine st_callVI g (as := [.int 38]) dX8_isA_12 rfl rfl ml_X8_197 mf_X8_is rfl (Nat.le_of_ble_eq_true rfl) (by omega) (c_X8_is 38 s _ hr3) (fun hz => ?_)
  have br3 := hz rfl
  refine st_if_eq g dX8_isA_15 (tgt := 37) (by decide) H (fun q4 H => ?_) (fun q4 H => ?_)
  · obtain rfl := Option.some.inj H
    exact (wa_drop [0] K)
  · refine st_aload_n g dX8_isA_18 rfl ?_
    obtain ⟨r5, hr5, H⟩ := bind_some H
    refine st_callVI g (as := []) dX8_isA_19 rfl rfl ml_X8_212 mf_X8_isB rfl (Nat.le_of_ble_eq_true rfl) (by omega) (hR _ _ _ _ hr5) (fun hz => ?_)
    have br5 := hz rfl
    refine st_if_ne g dX8_isA_22 (tgt := 27) (by decide) H (fun q6 H => ?_) (fun q6 H => ?_)
    · refine st_aload_n g dX8_isA_27 rfl ?_
      refine st_bipush g dX8_isA_28 bi_7 ?_
      obtain ⟨r7, hr7, H⟩ := bind_some H
      refine st_callVI g (as := [.int 7]) dX8_isA_30 rfl rfl ml_X8_187 mf_X8_codes rfl (Nat.le_of_ble_eq_true rfl) (by omega) (c_X8_codes 7 r5.2 _ hr7) (fun hz => ?_)
      have br7 := hz rfl
      refine st_pop g dX8_isA_33 rfl ?_
      refine st_goto g dX8_isA_34 (tgt := 9) (by decide) ?_
      obtain rfl := Option.some.inj H
      exact K
    · refine st_iconst g dX8_isA_25 ic_0 ?_
      obtain rfl := Option.some.inj H
      exact st_iret g dX8_isA_26 rfl (fun _ => Or.inl rfl) K
def m_X8_isA (R : Nat → List Int32 → Hp → Option (Int32 × Hp)) (h : Hp) : Option (Int32 × Hp) :=
  (R 2 [] h).bind fun r1 =>
  if r1.1 = 0 then
    some (0, r1.2)
  else
    (iter (b_X8_isA_9 R) FU r1.2).bind (Sum.elim (fun a8 =>
      some (1, a8)) (fun r => some r))
theorem t_X8_isA {x : Cx} {dn : Nat} {R : Nat → List Int32 → Hp → Option (Int32 × Hp)} (hdn : 3 ≤ dn) (hR : ∀ k as h r, R k as h = some r → CGE dn k as h r) (g : Gx x RX8 cX8_isA 1 (dn + 1)) (h : Hp) (out : (Int32 × Hp)) (H : m_X8_isA R h = some out) (K : RtI x .boolean out.1 out.2) : WA x 0 [.ref 53] [] h := by
  unfold m_X8_isA at H
  refine st_aload_n g dX8_isA_0 rfl ?_
  obtain ⟨r1, hr1, H⟩ := bind_some H
  refine st_callVI g (as := []) dX8_isA_1 rfl rfl ml_X8_212 mf_X8_isB rfl (Nat.le_of_ble_eq_true rfl) (by omega) (hR _ _ _ _ hr1) (fun hz => ?_)
  have br1 := hz rfl
  refine st_if_ne g dX8_isA_4 (tgt := 9) (by decide) H (fun q2 H => ?_) (fun q2 H => ?_)
  · show P_X8_isA_9 x r1.2
    obtain ⟨a8o, ha8, hca8⟩ := it_R H
    refine iter_W (P := P_X8_isA_9 x) (E := E_X8_isA_9 x) (fun s9 o9 ho9 hK9 => tb_X8_isA_9 hdn hR g s9 o9 ho9 hK9) FU _ a8o ha8 ?_
    rcases hca8 with ⟨a8, rfl, H⟩ | ⟨r, rfl, H⟩
    · show WA x 37 [.null] [] a8
      refine st_iconst g dX8_isA_37 ic_1 ?_
      obtain rfl := Option.some.inj H
      exact st_iret g dX8_isA_38 rfl (fun _ => Or.inr rfl) K
    · obtain rfl := Option.some.inj H
      exact K
  · refine st_iconst g dX8_isA_7 ic_0 ?_
    obtain rfl := Option.some.inj H
    exact st_iret g dX8_isA_8 rfl (fun _ => Or.inl rfl) K
def j_X8_isB_52 (R : Nat → List Int32 → Hp → Option (Int32 × Hp)) (t0 : Int32) (h : Hp) : Option ((Int32 × Hp)) :=
  if 0 ≤ t0 then
    lt (stI h 53 19 ((h.1 53 19) + 1)) fun h10 =>
    (R 3 [] h10).bind fun r11 =>
    if r11.1 = 0 then
      some (0, r11.2)
    else
      (f_X8_codes t0 r11.2).bind fun r13 =>
      if r13.1 = 0 then
        some (0, r13.2)
      else
        some (1, r13.2)
  else
    some (1, h)
theorem tj_X8_isB_52 {x : Cx} {dn : Nat} {R : Nat → List Int32 → Hp → Option (Int32 × Hp)} (hdn : 3 ≤ dn) (hR : ∀ k as h r, R k as h = some r → CGE dn k as h r) (g : Gx x RX8 cX8_isB 2 (dn + 1)) (t0 : Int32) (h : Hp) (out : (Int32 × Hp)) (H : j_X8_isB_52 R t0 h = some out) (K : RtI x .boolean out.1 out.2) : WA x 52 [.ref 53, .null] [.int t0] h := by
  unfold j_X8_isB_52 at H
  refine st_istore_n g dX8_isB_52 (Nat.le_of_ble_eq_true rfl) rfl (ls2 := [.ref 53, .int t0]) rfl ?_
  refine st_iload_n g dX8_isB_53 rfl ?_
  refine st_if_ge g dX8_isB_54 (tgt := 59) (by decide) H (fun q9 H => ?_) (fun q9 H => ?_)
  · refine st_aload_n g dX8_isB_59 rfl ?_
    refine st_dup g dX8_isB_60 rfl ?_
    refine gf_X8_173 g dX8_isB_61 rfl ?_
    refine st_iconst g dX8_isB_64 ic_1 ?_
    refine st_iadd g dX8_isB_65 ?_
    refine pu_X8_173 g dX8_isB_66 rfl ?_
    refine wa_ltH H (fun h10 H => ?_)
    refine st_aload_n g dX8_isB_69 rfl ?_
    obtain ⟨r11, hr11, H⟩ := bind_some H
    refine st_callVI g (as := []) dX8_isB_70 rfl rfl ml_X8_209 mf_X8_isS rfl (Nat.le_of_ble_eq_true rfl) (by omega) (hR _ _ _ _ hr11) (fun hz => ?_)
    have br11 := hz rfl
    refine st_if_eq g dX8_isB_73 (tgt := 88) (by decide) H (fun q12 H => ?_) (fun q12 H => ?_)
    · refine st_iconst g dX8_isB_88 ic_0 ?_
      obtain rfl := Option.some.inj H
      exact st_iret g dX8_isB_89 rfl (fun _ => Or.inl rfl) K
    · refine st_aload_n g dX8_isB_76 rfl ?_
      refine st_iload_n g dX8_isB_77 rfl ?_
      obtain ⟨r13, hr13, H⟩ := bind_some H
      refine st_callVI g (as := [.int t0]) dX8_isB_78 rfl rfl ml_X8_187 mf_X8_codes rfl (Nat.le_of_ble_eq_true rfl) (by omega) (c_X8_codes t0 r11.2 _ hr13) (fun hz => ?_)
      have br13 := hz rfl
      refine st_if_eq g dX8_isB_81 (tgt := 88) (by decide) H (fun q14 H => ?_) (fun q14 H => ?_)
      · refine st_iconst g dX8_isB_88 ic_0 ?_
        obtain rfl := Option.some.inj H
        exact st_iret g dX8_isB_89 rfl (fun _ => Or.inl rfl) K
      · refine st_iconst g dX8_isB_84 ic_1 ?_
        refine st_goto g dX8_isB_85 (tgt := 89) (by decide) ?_
        obtain rfl := Option.some.inj H
        exact st_iret g dX8_isB_89 rfl (fun _ => Or.inr rfl) K
  · refine st_iconst g dX8_isB_57 ic_1 ?_
    obtain rfl := Option.some.inj H
    exact st_iret g dX8_isB_58 rfl (fun _ => Or.inr rfl) K
def m_X8_isB (R : Nat → List Int32 → Hp → Option (Int32 × Hp)) (h : Hp) : Option (Int32 × Hp) :=
  (R 3 [] h).bind fun r1 =>
  if r1.1 = 0 then
    some (0, r1.2)
  else
    (f_X8_sign r1.2).bind fun r3 =>
    if r3 = 60 then
      j_X8_isB_52 R 8 r1.2
    else
      (f_X8_sign r1.2).bind fun r5 =>
      if r5 = 61 then
        j_X8_isB_52 R 9 r1.2
      else
        (f_X8_sign r1.2).bind fun r7 =>
        if r7 = 62 then
          j_X8_isB_52 R 10 r1.2
        else
          j_X8_isB_52 R (-1) r1.2
theorem t_X8_isB {x : Cx} {dn : Nat} {R : Nat → List Int32 → Hp → Option (Int32 × Hp)} (hdn : 3 ≤ dn) (hR : ∀ k as h r, R k as h = some r → CGE dn k as h r) (g : Gx x RX8 cX8_isB 2 (dn + 1)) (h : Hp) (out : (Int32 × Hp)) (H : m_X8_isB R h = some out) (K : RtI x .boolean out.1 out.2) : WA x 0 [.ref 53, .null] [] h := by
  unfold m_X8_isB at H
  refine st_aload_n g dX8_isB_0 rfl ?_
  obtain ⟨r1, hr1, H⟩ := bind_some H
  refine st_callVI g (as := []) dX8_isB_1 rfl rfl ml_X8_209 mf_X8_isS rfl (Nat.le_of_ble_eq_true rfl) (by omega) (hR _ _ _ _ hr1) (fun hz => ?_)
  have br1 := hz rfl
  refine st_if_ne g dX8_isB_4 (tgt := 9) (by decide) H (fun q2 H => ?_) (fun q2 H => ?_)
  · refine st_aload_n g dX8_isB_9 rfl ?_
    obtain ⟨r3, hr3, H⟩ := bind_some H
    refine st_callVI g (as := []) dX8_isB_10 rfl rfl ml_X8_176 mf_X8_sign rfl (Nat.le_of_ble_eq_true rfl) (by omega) (c_X8_sign r1.2 _ hr3) (fun hz => ?_)
    refine st_bipush g dX8_isB_13 bi_60 ?_
    refine st_ic_ne g dX8_isB_15 (tgt := 23) (by decide) H (fun q4 H => ?_) (fun q4 H => ?_)
    · refine st_aload_n g dX8_isB_23 rfl ?_
      obtain ⟨r5, hr5, H⟩ := bind_some H
      refine st_callVI g (as := []) dX8_isB_24 rfl rfl ml_X8_176 mf_X8_sign rfl (Nat.le_of_ble_eq_true rfl) (by omega) (c_X8_sign r1.2 _ hr5) (fun hz => ?_)
      refine st_bipush g dX8_isB_27 bi_61 ?_
      refine st_ic_ne g dX8_isB_29 (tgt := 37) (by decide) H (fun q6 H => ?_) (fun q6 H => ?_)
      · refine st_aload_n g dX8_isB_37 rfl ?_
        obtain ⟨r7, hr7, H⟩ := bind_some H
        refine st_callVI g (as := []) dX8_isB_38 rfl rfl ml_X8_176 mf_X8_sign rfl (Nat.le_of_ble_eq_true rfl) (by omega) (c_X8_sign r1.2 _ hr7) (fun hz => ?_)
        refine st_bipush g dX8_isB_41 bi_62 ?_
        refine st_ic_ne g dX8_isB_43 (tgt := 51) (by decide) H (fun q8 H => ?_) (fun q8 H => ?_)
        · refine st_iconst g dX8_isB_51 ic_m1 ?_
          exact (tj_X8_isB_52 hdn hR g (-1) r1.2 _ H K)
        · refine st_bipush g dX8_isB_46 bi_10 ?_
          refine st_goto g dX8_isB_48 (tgt := 52) (by decide) ?_
          exact (tj_X8_isB_52 hdn hR g 10 r1.2 _ H K)
      · refine st_bipush g dX8_isB_32 bi_9 ?_
        refine st_goto g dX8_isB_34 (tgt := 52) (by decide) ?_
        exact (tj_X8_isB_52 hdn hR g 9 r1.2 _ H K)
    · refine st_bipush g dX8_isB_18 bi_8 ?_
      refine st_goto g dX8_isB_20 (tgt := 52) (by decide) ?_
      exact (tj_X8_isB_52 hdn hR g 8 r1.2 _ H K)
  · refine st_iconst g dX8_isB_7 ic_0 ?_
    obtain rfl := Option.some.inj H
    exact st_iret g dX8_isB_8 rfl (fun _ => Or.inl rfl) K
def P_X8_isS_9 (x : Cx) (s : Hp) : Prop := WA x 9 [.ref 53, .null] [] s
def E_X8_isS_9 (x : Cx) : (Int32 × Hp) → Prop := fun r : (Int32 × Hp) => RtI x .boolean r.1 r.2
def j_X8_isS_38 (R : Nat → List Int32 → Hp → Option (Int32 × Hp)) (t0 : Int32) (h : Hp) : Option (Hp ⊕ (Int32 × Hp)) :=
  if 0 ≤ t0 then
    lt (stI h 53 19 ((h.1 53 19) + 1)) fun h8 =>
    (R 4 [] h8).bind fun r9 =>
    if r9.1 = 0 then
      some (.inr (0, r9.2))
    else
      (f_X8_codes t0 r9.2).bind fun r11 =>
      some (.inl r11.2)
  else
    some (.inr (1, h))
theorem tj_X8_isS_38 {x : Cx} {dn : Nat} {R : Nat → List Int32 → Hp → Option (Int32 × Hp)} (hdn : 3 ≤ dn) (hR : ∀ k as h r, R k as h = some r → CGE dn k as h r) (g : Gx x RX8 cX8_isS 2 (dn + 1)) (t0 : Int32) (h : Hp) (out : Hp ⊕ (Int32 × Hp)) (H : j_X8_isS_38 R t0 h = some out) (K : Sum.elim (P_X8_isS_9 x) (E_X8_isS_9 x) out) : WA x 38 [.ref 53, .null] [.int t0] h := by
  unfold j_X8_isS_38 at H
  refine st_istore_n g dX8_isS_38 (Nat.le_of_ble_eq_true rfl) rfl (ls2 := [.ref 53, .int t0]) rfl ?_
  refine st_iload_n g dX8_isS_39 rfl ?_
  refine st_if_ge g dX8_isS_40 (tgt := 45) (by decide) H (fun q7 H => ?_) (fun q7 H => ?_)
  · refine st_aload_n g dX8_isS_45 rfl ?_
    refine st_dup g dX8_isS_46 rfl ?_
    refine gf_X8_173 g dX8_isS_47 rfl ?_
    refine st_iconst g dX8_isS_50 ic_1 ?_
    refine st_iadd g dX8_isS_51 ?_
    refine pu_X8_173 g dX8_isS_52 rfl ?_
    refine wa_ltH H (fun h8 H => ?_)
    refine st_aload_n g dX8_isS_55 rfl ?_
    obtain ⟨r9, hr9, H⟩ := bind_some H
    refine st_callVI g (as := []) dX8_isS_56 rfl rfl ml_X8_206 mf_X8_isP rfl (Nat.le_of_ble_eq_true rfl) (by omega) (hR _ _ _ _ hr9) (fun hz => ?_)
    have br9 := hz rfl
    refine st_if_ne g dX8_isS_59 (tgt := 64) (by decide) H (fun q10 H => ?_) (fun q10 H => ?_)
    · refine st_aload_n g dX8_isS_64 rfl ?_
      refine st_iload_n g dX8_isS_65 rfl ?_
      obtain ⟨r11, hr11, H⟩ := bind_some H
      refine st_callVI g (as := [.int t0]) dX8_isS_66 rfl rfl ml_X8_187 mf_X8_codes rfl (Nat.le_of_ble_eq_true rfl) (by omega) (c_X8_codes t0 r9.2 _ hr11) (fun hz => ?_)
      have br11 := hz rfl
      refine st_pop g dX8_isS_69 rfl ?_
      refine st_goto g dX8_isS_70 (tgt := 9) (by decide) ?_
      obtain rfl := Option.some.inj H
      exact (wa_drop [1] K)
    · refine st_iconst g dX8_isS_62 ic_0 ?_
      obtain rfl := Option.some.inj H
      exact st_iret g dX8_isS_63 rfl (fun _ => Or.inl rfl) K
  · refine st_iconst g dX8_isS_43 ic_1 ?_
    obtain rfl := Option.some.inj H
    exact st_iret g dX8_isS_44 rfl (fun _ => Or.inr rfl) K
def b_X8_isS_9 (R : Nat → List Int32 → Hp → Option (Int32 × Hp)) (s : Hp) : Option (Hp ⊕ (Int32 × Hp)) :=
  (f_X8_sign s).bind fun r3 =>
  if r3 = 43 then
    j_X8_isS_38 R 11 s
  else
    (f_X8_sign s).bind fun r5 =>
    if r5 = 45 then
      j_X8_isS_38 R 12 s
    else
      j_X8_isS_38 R (-1) s
theorem tb_X8_isS_9 {x : Cx} {dn : Nat} {R : Nat → List Int32 → Hp → Option (Int32 × Hp)} (hdn : 3 ≤ dn) (hR : ∀ k as h r, R k as h = some r → CGE dn k as h r) (g : Gx x RX8 cX8_isS 2 (dn + 1)) (s : Hp) (out : Hp ⊕ (Int32 × Hp)) (H : b_X8_isS_9 R s = some out) (K : Sum.elim (P_X8_isS_9 x) (E_X8_isS_9 x) out) : P_X8_isS_9 x s := by
  unfold b_X8_isS_9 at H
  show WA x 9 [.ref 53, .null] [] s
  refine st_aload_n g dX8_isS_9 rfl ?_
  obtain ⟨r3, hr3, H⟩ := bind_some H
  refine st_callVI g (as := []) dX8_isS_10 rfl rfl ml_X8_176 mf_X8_sign rfl (Nat.le_of_ble_eq_true rfl) (by omega) (c_X8_sign s _ hr3) (fun hz => ?_)
  refine st_bipush g dX8_isS_13 bi_43 ?_
  refine st_ic_ne g dX8_isS_15 (tgt := 23) (by decide) H (fun q4 H => ?_) (fun q4 H => ?_)
  · refine st_aload_n g dX8_isS_23 rfl ?_
    obtain ⟨r5, hr5, H⟩ := bind_some H
    refine st_callVI g (as := []) dX8_isS_24 rfl rfl ml_X8_176 mf_X8_sign rfl (Nat.le_of_ble_eq_true rfl) (by omega) (c_X8_sign s _ hr5) (fun hz => ?_)
    refine st_bipush g dX8_isS_27 bi_45 ?_
    refine st_ic_ne g dX8_isS_29 (tgt := 37) (by decide) H (fun q6 H => ?_) (fun q6 H => ?_)
    · refine st_iconst g dX8_isS_37 ic_m1 ?_
      exact (tj_X8_isS_38 hdn hR g (-1) s _ H K)
    · refine st_bipush g dX8_isS_32 bi_12 ?_
      refine st_goto g dX8_isS_34 (tgt := 38) (by decide) ?_
      exact (tj_X8_isS_38 hdn hR g 12 s _ H K)
  · refine st_bipush g dX8_isS_18 bi_11 ?_
    refine st_goto g dX8_isS_20 (tgt := 38) (by decide) ?_
    exact (tj_X8_isS_38 hdn hR g 11 s _ H K)
def m_X8_isS (R : Nat → List Int32 → Hp → Option (Int32 × Hp)) (h : Hp) : Option (Int32 × Hp) :=
  (R 4 [] h).bind fun r1 =>
  if r1.1 = 0 then
    some (0, r1.2)
  else
    (iter (b_X8_isS_9 R) FU r1.2).bind fun r => some r
theorem t_X8_isS {x : Cx} {dn : Nat} {R : Nat → List Int32 → Hp → Option (Int32 × Hp)} (hdn : 3 ≤ dn) (hR : ∀ k as h r, R k as h = some r → CGE dn k as h r) (g : Gx x RX8 cX8_isS 2 (dn + 1)) (h : Hp) (out : (Int32 × Hp)) (H : m_X8_isS R h = some out) (K : RtI x .boolean out.1 out.2) : WA x 0 [.ref 53, .null] [] h := by
  unfold m_X8_isS at H
  refine st_aload_n g dX8_isS_0 rfl ?_
  obtain ⟨r1, hr1, H⟩ := bind_some H
  refine st_callVI g (as := []) dX8_isS_1 rfl rfl ml_X8_206 mf_X8_isP rfl (Nat.le_of_ble_eq_true rfl) (by omega) (hR _ _ _ _ hr1) (fun hz => ?_)
  have br1 := hz rfl
  refine st_if_ne g dX8_isS_4 (tgt := 9) (by decide) H (fun q2 H => ?_) (fun q2 H => ?_)
  · show P_X8_isS_9 x r1.2
    obtain ⟨a12, ha12, H⟩ := bind_some H
    refine iter_W (P := P_X8_isS_9 x) (E := E_X8_isS_9 x) (fun s9 o9 ho9 hK9 => tb_X8_isS_9 hdn hR g s9 o9 ho9 hK9) FU _ a12 ha12 ?_
    obtain rfl := Option.some.inj H
    exact K
  · refine st_iconst g dX8_isS_7 ic_0 ?_
    obtain rfl := Option.some.inj H
    exact st_iret g dX8_isS_8 rfl (fun _ => Or.inl rfl) K
def P_X8_isP_9 (x : Cx) (s : Hp) : Prop := WA x 9 [.ref 53, .null] [] s
def E_X8_isP_9 (x : Cx) : (Int32 × Hp) → Prop := fun r : (Int32 × Hp) => RtI x .boolean r.1 r.2
def j_X8_isP_52 (R : Nat → List Int32 → Hp → Option (Int32 × Hp)) (t0 : Int32) (h : Hp) : Option (Hp ⊕ (Int32 × Hp)) :=
  if 0 ≤ t0 then
    lt (stI h 53 19 ((h.1 53 19) + 1)) fun h10 =>
    (R 5 [] h10).bind fun r11 =>
    if r11.1 = 0 then
      some (.inr (0, r11.2))
    else
      (f_X8_codes t0 r11.2).bind fun r13 =>
      some (.inl r13.2)
  else
    some (.inr (1, h))
theorem tj_X8_isP_52 {x : Cx} {dn : Nat} {R : Nat → List Int32 → Hp → Option (Int32 × Hp)} (hdn : 3 ≤ dn) (hR : ∀ k as h r, R k as h = some r → CGE dn k as h r) (g : Gx x RX8 cX8_isP 2 (dn + 1)) (t0 : Int32) (h : Hp) (out : Hp ⊕ (Int32 × Hp)) (H : j_X8_isP_52 R t0 h = some out) (K : Sum.elim (P_X8_isP_9 x) (E_X8_isP_9 x) out) : WA x 52 [.ref 53, .null] [.int t0] h := by
  unfold j_X8_isP_52 at H
  refine st_istore_n g dX8_isP_52 (Nat.le_of_ble_eq_true rfl) rfl (ls2 := [.ref 53, .int t0]) rfl ?_
  refine st_iload_n g dX8_isP_53 rfl ?_
  refine st_if_ge g dX8_isP_54 (tgt := 59) (by decide) H (fun q9 H => ?_) (fun q9 H => ?_)
  · refine st_aload_n g dX8_isP_59 rfl ?_
    refine st_dup g dX8_isP_60 rfl ?_
    refine gf_X8_173 g dX8_isP_61 rfl ?_
    refine st_iconst g dX8_isP_64 ic_1 ?_
    refine st_iadd g dX8_isP_65 ?_
    refine pu_X8_173 g dX8_isP_66 rfl ?_
    refine wa_ltH H (fun h10 H => ?_)
    refine st_aload_n g dX8_isP_69 rfl ?_
    obtain ⟨r11, hr11, H⟩ := bind_some H
    refine st_callVI g (as := []) dX8_isP_70 rfl rfl ml_X8_200 mf_X8_isO rfl (Nat.le_of_ble_eq_true rfl) (by omega) (hR _ _ _ _ hr11) (fun hz => ?_)
    have br11 := hz rfl
    refine st_if_ne g dX8_isP_73 (tgt := 78) (by decide) H (fun q12 H => ?_) (fun q12 H => ?_)
    · refine st_aload_n g dX8_isP_78 rfl ?_
      refine st_iload_n g dX8_isP_79 rfl ?_
      obtain ⟨r13, hr13, H⟩ := bind_some H
      refine st_callVI g (as := [.int t0]) dX8_isP_80 rfl rfl ml_X8_187 mf_X8_codes rfl (Nat.le_of_ble_eq_true rfl) (by omega) (c_X8_codes t0 r11.2 _ hr13) (fun hz => ?_)
      have br13 := hz rfl
      refine st_pop g dX8_isP_83 rfl ?_
      refine st_goto g dX8_isP_84 (tgt := 9) (by decide) ?_
      obtain rfl := Option.some.inj H
      exact (wa_drop [1] K)
    · refine st_iconst g dX8_isP_76 ic_0 ?_
      obtain rfl := Option.some.inj H
      exact st_iret g dX8_isP_77 rfl (fun _ => Or.inl rfl) K
  · refine st_iconst g dX8_isP_57 ic_1 ?_
    obtain rfl := Option.some.inj H
    exact st_iret g dX8_isP_58 rfl (fun _ => Or.inr rfl) K
def b_X8_isP_9 (R : Nat → List Int32 → Hp → Option (Int32 × Hp)) (s : Hp) : Option (Hp ⊕ (Int32 × Hp)) :=
  (f_X8_sign s).bind fun r3 =>
  if r3 = 42 then
    j_X8_isP_52 R 13 s
  else
    (f_X8_sign s).bind fun r5 =>
    if r5 = 47 then
      j_X8_isP_52 R 14 s
    else
      (f_X8_sign s).bind fun r7 =>
      if r7 = 37 then
        j_X8_isP_52 R 15 s
      else
        j_X8_isP_52 R (-1) s
theorem tb_X8_isP_9 {x : Cx} {dn : Nat} {R : Nat → List Int32 → Hp → Option (Int32 × Hp)} (hdn : 3 ≤ dn) (hR : ∀ k as h r, R k as h = some r → CGE dn k as h r) (g : Gx x RX8 cX8_isP 2 (dn + 1)) (s : Hp) (out : Hp ⊕ (Int32 × Hp)) (H : b_X8_isP_9 R s = some out) (K : Sum.elim (P_X8_isP_9 x) (E_X8_isP_9 x) out) : P_X8_isP_9 x s := by
  unfold b_X8_isP_9 at H
  show WA x 9 [.ref 53, .null] [] s
  refine st_aload_n g dX8_isP_9 rfl ?_
  obtain ⟨r3, hr3, H⟩ := bind_some H
  refine st_callVI g (as := []) dX8_isP_10 rfl rfl ml_X8_176 mf_X8_sign rfl (Nat.le_of_ble_eq_true rfl) (by omega) (c_X8_sign s _ hr3) (fun hz => ?_)
  refine st_bipush g dX8_isP_13 bi_42 ?_
  refine st_ic_ne g dX8_isP_15 (tgt := 23) (by decide) H (fun q4 H => ?_) (fun q4 H => ?_)
  · refine st_aload_n g dX8_isP_23 rfl ?_
    obtain ⟨r5, hr5, H⟩ := bind_some H
    refine st_callVI g (as := []) dX8_isP_24 rfl rfl ml_X8_176 mf_X8_sign rfl (Nat.le_of_ble_eq_true rfl) (by omega) (c_X8_sign s _ hr5) (fun hz => ?_)
    refine st_bipush g dX8_isP_27 bi_47 ?_
    refine st_ic_ne g dX8_isP_29 (tgt := 37) (by decide) H (fun q6 H => ?_) (fun q6 H => ?_)
    · refine st_aload_n g dX8_isP_37 rfl ?_
      obtain ⟨r7, hr7, H⟩ := bind_some H
      refine st_callVI g (as := []) dX8_isP_38 rfl rfl ml_X8_176 mf_X8_sign rfl (Nat.le_of_ble_eq_true rfl) (by omega) (c_X8_sign s _ hr7) (fun hz => ?_)
      refine st_bipush g dX8_isP_41 bi_37 ?_
      refine st_ic_ne g dX8_isP_43 (tgt := 51) (by decide) H (fun q8 H => ?_) (fun q8 H => ?_)
      · refine st_iconst g dX8_isP_51 ic_m1 ?_
        exact (tj_X8_isP_52 hdn hR g (-1) s _ H K)
      · refine st_bipush g dX8_isP_46 bi_15 ?_
        refine st_goto g dX8_isP_48 (tgt := 52) (by decide) ?_
        exact (tj_X8_isP_52 hdn hR g 15 s _ H K)
    · refine st_bipush g dX8_isP_32 bi_14 ?_
      refine st_goto g dX8_isP_34 (tgt := 52) (by decide) ?_
      exact (tj_X8_isP_52 hdn hR g 14 s _ H K)
  · refine st_bipush g dX8_isP_18 bi_13 ?_
    refine st_goto g dX8_isP_20 (tgt := 52) (by decide) ?_
    exact (tj_X8_isP_52 hdn hR g 13 s _ H K)
def m_X8_isP (R : Nat → List Int32 → Hp → Option (Int32 × Hp)) (h : Hp) : Option (Int32 × Hp) :=
  (R 5 [] h).bind fun r1 =>
  if r1.1 = 0 then
    some (0, r1.2)
  else
    (iter (b_X8_isP_9 R) FU r1.2).bind fun r => some r
theorem t_X8_isP {x : Cx} {dn : Nat} {R : Nat → List Int32 → Hp → Option (Int32 × Hp)} (hdn : 3 ≤ dn) (hR : ∀ k as h r, R k as h = some r → CGE dn k as h r) (g : Gx x RX8 cX8_isP 2 (dn + 1)) (h : Hp) (out : (Int32 × Hp)) (H : m_X8_isP R h = some out) (K : RtI x .boolean out.1 out.2) : WA x 0 [.ref 53, .null] [] h := by
  unfold m_X8_isP at H
  refine st_aload_n g dX8_isP_0 rfl ?_
  obtain ⟨r1, hr1, H⟩ := bind_some H
  refine st_callVI g (as := []) dX8_isP_1 rfl rfl ml_X8_200 mf_X8_isO rfl (Nat.le_of_ble_eq_true rfl) (by omega) (hR _ _ _ _ hr1) (fun hz => ?_)
  have br1 := hz rfl
  refine st_if_ne g dX8_isP_4 (tgt := 9) (by decide) H (fun q2 H => ?_) (fun q2 H => ?_)
  · show P_X8_isP_9 x r1.2
    obtain ⟨a14, ha14, H⟩ := bind_some H
    refine iter_W (P := P_X8_isP_9 x) (E := E_X8_isP_9 x) (fun s9 o9 ho9 hK9 => tb_X8_isP_9 hdn hR g s9 o9 ho9 hK9) FU _ a14 ha14 ?_
    obtain rfl := Option.some.inj H
    exact K
  · refine st_iconst g dX8_isP_7 ic_0 ?_
    obtain rfl := Option.some.inj H
    exact st_iret g dX8_isP_8 rfl (fun _ => Or.inl rfl) K
def P_X8_isO_11 (x : Cx) (s : (Int32 × Int32 × Hp)) : Prop := WA x 11 [.ref 53, .int s.1, .int s.2.1] [] s.2.2
def E_X8_isO_11 (x : Cx) : (Int32 × Int32 × Hp) → Prop := fun s : (Int32 × Int32 × Hp) => WA x 57 [.ref 53, .int s.1, .null] [] s.2.2
def b_X8_isO_11 (R : Nat → List Int32 → Hp → Option (Int32 × Hp)) (s : (Int32 × Int32 × Hp)) : Option ((Int32 × Int32 × Hp) ⊕ (Int32 × Int32 × Hp)) :=
  if 4 ≤ s.2.1 then
    some (.inr (s.1, s.2.1, s.2.2))
  else
    (f_X8_isDigit s.2.2).bind fun r39 =>
    if r39 = 0 then
      some (.inr (s.1, s.2.1, s.2.2))
    else
      (rdI s.2.2 62 (s.2.2.1 53 19)).bind fun v41 =>
      lt (stI s.2.2 53 19 ((s.2.2.1 53 19) + 1)) fun h42 =>
      some (.inl (((10 * s.1) + v41) - 48, s.2.1 + 1, h42))
theorem tb_X8_isO_11 {x : Cx} {dn : Nat} {R : Nat → List Int32 → Hp → Option (Int32 × Hp)} (hdn : 3 ≤ dn) (hR : ∀ k as h r, R k as h = some r → CGE dn k as h r) (g : Gx x RX8 cX8_isO 3 (dn + 1)) (s : (Int32 × Int32 × Hp)) (out : (Int32 × Int32 × Hp) ⊕ (Int32 × Int32 × Hp)) (H : b_X8_isO_11 R s = some out) (K : Sum.elim (P_X8_isO_11 x) (E_X8_isO_11 x) out) : P_X8_isO_11 x s := by
  unfold b_X8_isO_11 at H
  show WA x 11 [.ref 53, .int s.1, .int s.2.1] [] s.2.2
  refine st_iload_n g dX8_isO_11 rfl ?_
  refine st_iconst g dX8_isO_12 ic_4 ?_
  refine st_ic_ge g dX8_isO_13 (tgt := 57) (by decide) H (fun q38 H => ?_) (fun q38 H => ?_)
  · obtain rfl := Option.some.inj H
    exact (wa_drop [2] K)
  · refine st_aload_n g dX8_isO_16 rfl ?_
    obtain ⟨r39, hr39, H⟩ := bind_some H
    refine st_callVI g (as := []) dX8_isO_17 rfl rfl ml_X8_183 mf_X8_isDigit rfl (Nat.le_of_ble_eq_true rfl) (by omega) (c_X8_isDigit s.2.2 _ hr39) (fun hz => ?_)
    have br39 := hz rfl
    refine st_if_eq g dX8_isO_20 (tgt := 57) (by decide) H (fun q40 H => ?_) (fun q40 H => ?_)
    · obtain rfl := Option.some.inj H
      exact (wa_drop [2] K)
    · refine st_bipush g dX8_isO_23 bi_10 ?_
      refine st_iload_n g dX8_isO_25 rfl ?_
      refine st_imul g dX8_isO_26 ?_
      refine st_aload_n g dX8_isO_27 rfl ?_
      refine gf_X8_36 g dX8_isO_28 rfl (r := 62) rfl ?_
      refine st_aload_n g dX8_isO_31 rfl ?_
      refine gf_X8_173 g dX8_isO_32 rfl ?_
      refine st_iald g dX8_isO_35 H (fun v41 H => ?_)
      refine st_iadd g dX8_isO_36 ?_
      refine st_bipush g dX8_isO_37 bi_48 ?_
      refine st_isub g dX8_isO_39 ?_
      refine st_istore_n g dX8_isO_40 (Nat.le_of_ble_eq_true rfl) rfl (ls2 := [.ref 53, .int (((10 * s.1) + v41) - 48), .int s.2.1]) rfl ?_
      refine st_aload_n g dX8_isO_41 rfl ?_
      refine st_dup g dX8_isO_42 rfl ?_
      refine gf_X8_173 g dX8_isO_43 rfl ?_
      refine st_iconst g dX8_isO_46 ic_1 ?_
      refine st_iadd g dX8_isO_47 ?_
      refine pu_X8_173 g dX8_isO_48 rfl ?_
      refine wa_ltH H (fun h42 H => ?_)
      refine st_iinc g dX8_isO_51 rfl (ii_1 _) (Nat.le_of_ble_eq_true rfl) rfl (ls2 := [.ref 53, .int (((10 * s.1) + v41) - 48), .int (s.2.1 + 1)]) rfl ?_
      refine st_goto g dX8_isO_54 (tgt := 11) (by decide) ?_
      obtain rfl := Option.some.inj H
      exact K
def m_X8_isO (R : Nat → List Int32 → Hp → Option (Int32 × Hp)) (h : Hp) : Option (Int32 × Hp) :=
  (f_X8_isDigit h).bind fun r1 =>
  if r1 = 0 then
    (f_X8_sign h).bind fun r3 =>
    (f_X8_nameOf r3).bind fun r4 =>
    if r4 < 0 then
      if (h.1 53 20) = 6 then
        some (0, h)
      else
        lt (stI h 53 20 ((h.1 53 20) + 1)) fun h7 =>
        (f_X8_is 33 h7).bind fun r8 =>
        if r8.1 = 0 then
          (f_X8_is 45 r8.2).bind fun r10 =>
          if r10.1 = 0 then
            (f_X8_is 40 r10.2).bind fun r12 =>
            if r12.1 = 0 then
              lt (stI r12.2 53 20 ((r12.2.1 53 20) - 1)) fun h14 =>
              some (0, h14)
            else
              (R 0 [] r12.2).bind fun r15 =>
              if r15.1 = 0 then
                lt (stI r15.2 53 20 ((r15.2.1 53 20) - 1)) fun h17 =>
                some (0, h17)
              else
                (f_X8_is 41 r15.2).bind fun r18 =>
                if r18.1 = 0 then
                  lt (stI r18.2 53 20 ((r18.2.1 53 20) - 1)) fun h20 =>
                  some (0, h20)
                else
                  lt (stI r18.2 53 20 ((r18.2.1 53 20) - 1)) fun h21 =>
                  some (1, h21)
          else
            (R 5 [] r10.2).bind fun r22 =>
            if r22.1 = 0 then
              lt (stI r22.2 53 20 ((r22.2.1 53 20) - 1)) fun h24 =>
              some (0, h24)
            else
              (f_X8_codes 17 r22.2).bind fun r25 =>
              if r25.1 = 0 then
                lt (stI r25.2 53 20 ((r25.2.1 53 20) - 1)) fun h27 =>
                some (0, h27)
              else
                lt (stI r25.2 53 20 ((r25.2.1 53 20) - 1)) fun h28 =>
                some (1, h28)
        else
          (R 5 [] r8.2).bind fun r29 =>
          if r29.1 = 0 then
            lt (stI r29.2 53 20 ((r29.2.1 53 20) - 1)) fun h31 =>
            some (0, h31)
          else
            (f_X8_codes 16 r29.2).bind fun r32 =>
            if r32.1 = 0 then
              lt (stI r32.2 53 20 ((r32.2.1 53 20) - 1)) fun h34 =>
              some (0, h34)
            else
              lt (stI r32.2 53 20 ((r32.2.1 53 20) - 1)) fun h35 =>
              some (1, h35)
    else
      lt (stI h 53 19 ((h.1 53 19) + 1)) fun h36 =>
      (f_X8_codes r4 h36).bind fun r37 =>
      some (r37.1, r37.2)
  else
    (iter (b_X8_isO_11 R) FU (0, 0, h)).bind fun a43 =>
    (f_X8_codes (18 + a43.1) a43.2.2).bind fun r44 =>
    some (r44.1, r44.2)
theorem t_X8_isO {x : Cx} {dn : Nat} {R : Nat → List Int32 → Hp → Option (Int32 × Hp)} (hdn : 3 ≤ dn) (hR : ∀ k as h r, R k as h = some r → CGE dn k as h r) (g : Gx x RX8 cX8_isO 3 (dn + 1)) (h : Hp) (out : (Int32 × Hp)) (H : m_X8_isO R h = some out) (K : RtI x .boolean out.1 out.2) : WA x 0 [.ref 53, .null, .null] [] h := by
  unfold m_X8_isO at H
  refine st_aload_n g dX8_isO_0 rfl ?_
  obtain ⟨r1, hr1, H⟩ := bind_some H
  refine st_callVI g (as := []) dX8_isO_1 rfl rfl ml_X8_183 mf_X8_isDigit rfl (Nat.le_of_ble_eq_true rfl) (by omega) (c_X8_isDigit h _ hr1) (fun hz => ?_)
  have br1 := hz rfl
  refine st_if_eq g dX8_isO_4 (tgt := 66) (by decide) H (fun q2 H => ?_) (fun q2 H => ?_)
  · refine st_aload_n g dX8_isO_66 rfl ?_
    obtain ⟨r3, hr3, H⟩ := bind_some H
    refine st_callVI g (as := []) dX8_isO_67 rfl rfl ml_X8_176 mf_X8_sign rfl (Nat.le_of_ble_eq_true rfl) (by omega) (c_X8_sign h _ hr3) (fun hz => ?_)
    obtain ⟨r4, hr4, H⟩ := bind_some H
    refine st_callSI g (as := [.int r3]) dX8_isO_70 ml_X8_190 mf_X8_nameOf rfl (Nat.le_of_ble_eq_true rfl) (by omega) (c_X8_nameOf r3 h _ hr4) (fun hz => ?_)
    refine st_istore_n g dX8_isO_73 (Nat.le_of_ble_eq_true rfl) rfl (ls2 := [.ref 53, .int r4, .null]) rfl ?_
    refine st_iload_n g dX8_isO_74 rfl ?_
    refine st_if_lt g dX8_isO_75 (tgt := 94) (by decide) H (fun q5 H => ?_) (fun q5 H => ?_)
    · refine st_aload_n g dX8_isO_94 rfl ?_
      refine gf_X8_194 g dX8_isO_95 rfl ?_
      refine st_bipush g dX8_isO_98 bi_6 ?_
      refine st_ic_ne g dX8_isO_100 (tgt := 105) (by decide) H (fun q6 H => ?_) (fun q6 H => ?_)
      · refine st_aload_n g dX8_isO_105 rfl ?_
        refine st_dup g dX8_isO_106 rfl ?_
        refine gf_X8_194 g dX8_isO_107 rfl ?_
        refine st_iconst g dX8_isO_110 ic_1 ?_
        refine st_iadd g dX8_isO_111 ?_
        refine pu_X8_194 g dX8_isO_112 rfl ?_
        refine wa_ltH H (fun h7 H => ?_)
        refine st_aload_n g dX8_isO_115 rfl ?_
        refine st_bipush g dX8_isO_116 bi_33 ?_
        obtain ⟨r8, hr8, H⟩ := bind_some H
        refine st_callVI g (as := [.int 33]) dX8_isO_118 rfl rfl ml_X8_197 mf_X8_is rfl (Nat.le_of_ble_eq_true rfl) (by omega) (c_X8_is 33 h7 _ hr8) (fun hz => ?_)
        have br8 := hz rfl
        refine st_if_eq g dX8_isO_121 (tgt := 149) (by decide) H (fun q9 H => ?_) (fun q9 H => ?_)
        · refine st_aload_n g dX8_isO_149 rfl ?_
          refine st_bipush g dX8_isO_150 bi_45 ?_
          obtain ⟨r10, hr10, H⟩ := bind_some H
          refine st_callVI g (as := [.int 45]) dX8_isO_152 rfl rfl ml_X8_197 mf_X8_is rfl (Nat.le_of_ble_eq_true rfl) (by omega) (c_X8_is 45 r8.2 _ hr10) (fun hz => ?_)
          have br10 := hz rfl
          refine st_if_eq g dX8_isO_155 (tgt := 183) (by decide) H (fun q11 H => ?_) (fun q11 H => ?_)
          · refine st_aload_n g dX8_isO_183 rfl ?_
            refine st_bipush g dX8_isO_184 bi_40 ?_
            obtain ⟨r12, hr12, H⟩ := bind_some H
            refine st_callVI g (as := [.int 40]) dX8_isO_186 rfl rfl ml_X8_197 mf_X8_is rfl (Nat.le_of_ble_eq_true rfl) (by omega) (c_X8_is 40 r10.2 _ hr12) (fun hz => ?_)
            have br12 := hz rfl
            refine st_if_eq g dX8_isO_189 (tgt := 212) (by decide) H (fun q13 H => ?_) (fun q13 H => ?_)
            · refine st_iconst g dX8_isO_212 ic_0 ?_
              refine st_istore_n g dX8_isO_213 (Nat.le_of_ble_eq_true rfl) rfl (ls2 := [.ref 53, .int r4, .int 0]) rfl ?_
              refine st_aload_n g dX8_isO_214 rfl ?_
              refine st_dup g dX8_isO_215 rfl ?_
              refine gf_X8_194 g dX8_isO_216 rfl ?_
              refine st_iconst g dX8_isO_219 ic_1 ?_
              refine st_isub g dX8_isO_220 ?_
              refine pu_X8_194 g dX8_isO_221 rfl ?_
              refine wa_ltH H (fun h14 H => ?_)
              refine st_iload_n g dX8_isO_224 rfl ?_
              obtain rfl := Option.some.inj H
              exact st_iret g dX8_isO_225 rfl (fun _ => Or.inl rfl) K
            · refine st_aload_n g dX8_isO_192 rfl ?_
              obtain ⟨r15, hr15, H⟩ := bind_some H
              refine st_callVI g (as := []) dX8_isO_193 rfl rfl ml_X8_203 mf_X8_isE rfl (Nat.le_of_ble_eq_true rfl) (by omega) (hR _ _ _ _ hr15) (fun hz => ?_)
              have br15 := hz rfl
              refine st_if_eq g dX8_isO_196 (tgt := 212) (by decide) H (fun q16 H => ?_) (fun q16 H => ?_)
              · refine st_iconst g dX8_isO_212 ic_0 ?_
                refine st_istore_n g dX8_isO_213 (Nat.le_of_ble_eq_true rfl) rfl (ls2 := [.ref 53, .int r4, .int 0]) rfl ?_
                refine st_aload_n g dX8_isO_214 rfl ?_
                refine st_dup g dX8_isO_215 rfl ?_
                refine gf_X8_194 g dX8_isO_216 rfl ?_
                refine st_iconst g dX8_isO_219 ic_1 ?_
                refine st_isub g dX8_isO_220 ?_
                refine pu_X8_194 g dX8_isO_221 rfl ?_
                refine wa_ltH H (fun h17 H => ?_)
                refine st_iload_n g dX8_isO_224 rfl ?_
                obtain rfl := Option.some.inj H
                exact st_iret g dX8_isO_225 rfl (fun _ => Or.inl rfl) K
              · refine st_aload_n g dX8_isO_199 rfl ?_
                refine st_bipush g dX8_isO_200 bi_41 ?_
                obtain ⟨r18, hr18, H⟩ := bind_some H
                refine st_callVI g (as := [.int 41]) dX8_isO_202 rfl rfl ml_X8_197 mf_X8_is rfl (Nat.le_of_ble_eq_true rfl) (by omega) (c_X8_is 41 r15.2 _ hr18) (fun hz => ?_)
                have br18 := hz rfl
                refine st_if_eq g dX8_isO_205 (tgt := 212) (by decide) H (fun q19 H => ?_) (fun q19 H => ?_)
                · refine st_iconst g dX8_isO_212 ic_0 ?_
                  refine st_istore_n g dX8_isO_213 (Nat.le_of_ble_eq_true rfl) rfl (ls2 := [.ref 53, .int r4, .int 0]) rfl ?_
                  refine st_aload_n g dX8_isO_214 rfl ?_
                  refine st_dup g dX8_isO_215 rfl ?_
                  refine gf_X8_194 g dX8_isO_216 rfl ?_
                  refine st_iconst g dX8_isO_219 ic_1 ?_
                  refine st_isub g dX8_isO_220 ?_
                  refine pu_X8_194 g dX8_isO_221 rfl ?_
                  refine wa_ltH H (fun h20 H => ?_)
                  refine st_iload_n g dX8_isO_224 rfl ?_
                  obtain rfl := Option.some.inj H
                  exact st_iret g dX8_isO_225 rfl (fun _ => Or.inl rfl) K
                · refine st_iconst g dX8_isO_208 ic_1 ?_
                  refine st_goto g dX8_isO_209 (tgt := 213) (by decide) ?_
                  refine st_istore_n g dX8_isO_213 (Nat.le_of_ble_eq_true rfl) rfl (ls2 := [.ref 53, .int r4, .int 1]) rfl ?_
                  refine st_aload_n g dX8_isO_214 rfl ?_
                  refine st_dup g dX8_isO_215 rfl ?_
                  refine gf_X8_194 g dX8_isO_216 rfl ?_
                  refine st_iconst g dX8_isO_219 ic_1 ?_
                  refine st_isub g dX8_isO_220 ?_
                  refine pu_X8_194 g dX8_isO_221 rfl ?_
                  refine wa_ltH H (fun h21 H => ?_)
                  refine st_iload_n g dX8_isO_224 rfl ?_
                  obtain rfl := Option.some.inj H
                  exact st_iret g dX8_isO_225 rfl (fun _ => Or.inr rfl) K
          · refine st_aload_n g dX8_isO_158 rfl ?_
            obtain ⟨r22, hr22, H⟩ := bind_some H
            refine st_callVI g (as := []) dX8_isO_159 rfl rfl ml_X8_200 mf_X8_isO rfl (Nat.le_of_ble_eq_true rfl) (by omega) (hR _ _ _ _ hr22) (fun hz => ?_)
            have br22 := hz rfl
            refine st_if_eq g dX8_isO_162 (tgt := 178) (by decide) H (fun q23 H => ?_) (fun q23 H => ?_)
            · refine st_iconst g dX8_isO_178 ic_0 ?_
              refine st_istore_n g dX8_isO_179 (Nat.le_of_ble_eq_true rfl) rfl (ls2 := [.ref 53, .int r4, .int 0]) rfl ?_
              refine st_goto g dX8_isO_180 (tgt := 214) (by decide) ?_
              refine st_aload_n g dX8_isO_214 rfl ?_
              refine st_dup g dX8_isO_215 rfl ?_
              refine gf_X8_194 g dX8_isO_216 rfl ?_
              refine st_iconst g dX8_isO_219 ic_1 ?_
              refine st_isub g dX8_isO_220 ?_
              refine pu_X8_194 g dX8_isO_221 rfl ?_
              refine wa_ltH H (fun h24 H => ?_)
              refine st_iload_n g dX8_isO_224 rfl ?_
              obtain rfl := Option.some.inj H
              exact st_iret g dX8_isO_225 rfl (fun _ => Or.inl rfl) K
            · refine st_aload_n g dX8_isO_165 rfl ?_
              refine st_bipush g dX8_isO_166 bi_17 ?_
              obtain ⟨r25, hr25, H⟩ := bind_some H
              refine st_callVI g (as := [.int 17]) dX8_isO_168 rfl rfl ml_X8_187 mf_X8_codes rfl (Nat.le_of_ble_eq_true rfl) (by omega) (c_X8_codes 17 r22.2 _ hr25) (fun hz => ?_)
              have br25 := hz rfl
              refine st_if_eq g dX8_isO_171 (tgt := 178) (by decide) H (fun q26 H => ?_) (fun q26 H => ?_)
              · refine st_iconst g dX8_isO_178 ic_0 ?_
                refine st_istore_n g dX8_isO_179 (Nat.le_of_ble_eq_true rfl) rfl (ls2 := [.ref 53, .int r4, .int 0]) rfl ?_
                refine st_goto g dX8_isO_180 (tgt := 214) (by decide) ?_
                refine st_aload_n g dX8_isO_214 rfl ?_
                refine st_dup g dX8_isO_215 rfl ?_
                refine gf_X8_194 g dX8_isO_216 rfl ?_
                refine st_iconst g dX8_isO_219 ic_1 ?_
                refine st_isub g dX8_isO_220 ?_
                refine pu_X8_194 g dX8_isO_221 rfl ?_
                refine wa_ltH H (fun h27 H => ?_)
                refine st_iload_n g dX8_isO_224 rfl ?_
                obtain rfl := Option.some.inj H
                exact st_iret g dX8_isO_225 rfl (fun _ => Or.inl rfl) K
              · refine st_iconst g dX8_isO_174 ic_1 ?_
                refine st_goto g dX8_isO_175 (tgt := 179) (by decide) ?_
                refine st_istore_n g dX8_isO_179 (Nat.le_of_ble_eq_true rfl) rfl (ls2 := [.ref 53, .int r4, .int 1]) rfl ?_
                refine st_goto g dX8_isO_180 (tgt := 214) (by decide) ?_
                refine st_aload_n g dX8_isO_214 rfl ?_
                refine st_dup g dX8_isO_215 rfl ?_
                refine gf_X8_194 g dX8_isO_216 rfl ?_
                refine st_iconst g dX8_isO_219 ic_1 ?_
                refine st_isub g dX8_isO_220 ?_
                refine pu_X8_194 g dX8_isO_221 rfl ?_
                refine wa_ltH H (fun h28 H => ?_)
                refine st_iload_n g dX8_isO_224 rfl ?_
                obtain rfl := Option.some.inj H
                exact st_iret g dX8_isO_225 rfl (fun _ => Or.inr rfl) K
        · refine st_aload_n g dX8_isO_124 rfl ?_
          obtain ⟨r29, hr29, H⟩ := bind_some H
          refine st_callVI g (as := []) dX8_isO_125 rfl rfl ml_X8_200 mf_X8_isO rfl (Nat.le_of_ble_eq_true rfl) (by omega) (hR _ _ _ _ hr29) (fun hz => ?_)
          have br29 := hz rfl
          refine st_if_eq g dX8_isO_128 (tgt := 144) (by decide) H (fun q30 H => ?_) (fun q30 H => ?_)
          · refine st_iconst g dX8_isO_144 ic_0 ?_
            refine st_istore_n g dX8_isO_145 (Nat.le_of_ble_eq_true rfl) rfl (ls2 := [.ref 53, .int r4, .int 0]) rfl ?_
            refine st_goto g dX8_isO_146 (tgt := 214) (by decide) ?_
            refine st_aload_n g dX8_isO_214 rfl ?_
            refine st_dup g dX8_isO_215 rfl ?_
            refine gf_X8_194 g dX8_isO_216 rfl ?_
            refine st_iconst g dX8_isO_219 ic_1 ?_
            refine st_isub g dX8_isO_220 ?_
            refine pu_X8_194 g dX8_isO_221 rfl ?_
            refine wa_ltH H (fun h31 H => ?_)
            refine st_iload_n g dX8_isO_224 rfl ?_
            obtain rfl := Option.some.inj H
            exact st_iret g dX8_isO_225 rfl (fun _ => Or.inl rfl) K
          · refine st_aload_n g dX8_isO_131 rfl ?_
            refine st_bipush g dX8_isO_132 bi_16 ?_
            obtain ⟨r32, hr32, H⟩ := bind_some H
            refine st_callVI g (as := [.int 16]) dX8_isO_134 rfl rfl ml_X8_187 mf_X8_codes rfl (Nat.le_of_ble_eq_true rfl) (by omega) (c_X8_codes 16 r29.2 _ hr32) (fun hz => ?_)
            have br32 := hz rfl
            refine st_if_eq g dX8_isO_137 (tgt := 144) (by decide) H (fun q33 H => ?_) (fun q33 H => ?_)
            · refine st_iconst g dX8_isO_144 ic_0 ?_
              refine st_istore_n g dX8_isO_145 (Nat.le_of_ble_eq_true rfl) rfl (ls2 := [.ref 53, .int r4, .int 0]) rfl ?_
              refine st_goto g dX8_isO_146 (tgt := 214) (by decide) ?_
              refine st_aload_n g dX8_isO_214 rfl ?_
              refine st_dup g dX8_isO_215 rfl ?_
              refine gf_X8_194 g dX8_isO_216 rfl ?_
              refine st_iconst g dX8_isO_219 ic_1 ?_
              refine st_isub g dX8_isO_220 ?_
              refine pu_X8_194 g dX8_isO_221 rfl ?_
              refine wa_ltH H (fun h34 H => ?_)
              refine st_iload_n g dX8_isO_224 rfl ?_
              obtain rfl := Option.some.inj H
              exact st_iret g dX8_isO_225 rfl (fun _ => Or.inl rfl) K
            · refine st_iconst g dX8_isO_140 ic_1 ?_
              refine st_goto g dX8_isO_141 (tgt := 145) (by decide) ?_
              refine st_istore_n g dX8_isO_145 (Nat.le_of_ble_eq_true rfl) rfl (ls2 := [.ref 53, .int r4, .int 1]) rfl ?_
              refine st_goto g dX8_isO_146 (tgt := 214) (by decide) ?_
              refine st_aload_n g dX8_isO_214 rfl ?_
              refine st_dup g dX8_isO_215 rfl ?_
              refine gf_X8_194 g dX8_isO_216 rfl ?_
              refine st_iconst g dX8_isO_219 ic_1 ?_
              refine st_isub g dX8_isO_220 ?_
              refine pu_X8_194 g dX8_isO_221 rfl ?_
              refine wa_ltH H (fun h35 H => ?_)
              refine st_iload_n g dX8_isO_224 rfl ?_
              obtain rfl := Option.some.inj H
              exact st_iret g dX8_isO_225 rfl (fun _ => Or.inr rfl) K
      · refine st_iconst g dX8_isO_103 ic_0 ?_
        obtain rfl := Option.some.inj H
        exact st_iret g dX8_isO_104 rfl (fun _ => Or.inl rfl) K
    · refine st_aload_n g dX8_isO_78 rfl ?_
      refine st_dup g dX8_isO_79 rfl ?_
      refine gf_X8_173 g dX8_isO_80 rfl ?_
      refine st_iconst g dX8_isO_83 ic_1 ?_
      refine st_iadd g dX8_isO_84 ?_
      refine pu_X8_173 g dX8_isO_85 rfl ?_
      refine wa_ltH H (fun h36 H => ?_)
      refine st_aload_n g dX8_isO_88 rfl ?_
      refine st_iload_n g dX8_isO_89 rfl ?_
      obtain ⟨r37, hr37, H⟩ := bind_some H
      refine st_callVI g (as := [.int r4]) dX8_isO_90 rfl rfl ml_X8_187 mf_X8_codes rfl (Nat.le_of_ble_eq_true rfl) (by omega) (c_X8_codes r4 h36 _ hr37) (fun hz => ?_)
      have br37 := hz rfl
      obtain rfl := Option.some.inj H
      exact st_iret g dX8_isO_93 (bo_nar br37) (fun _ => br37) K
  · refine st_iconst g dX8_isO_7 ic_0 ?_
    refine st_istore_n g dX8_isO_8 (Nat.le_of_ble_eq_true rfl) rfl (ls2 := [.ref 53, .int 0, .null]) rfl ?_
    refine st_iconst g dX8_isO_9 ic_0 ?_
    refine st_istore_n g dX8_isO_10 (Nat.le_of_ble_eq_true rfl) rfl (ls2 := [.ref 53, .int 0, .int 0]) rfl ?_
    show P_X8_isO_11 x (0, 0, h)
    obtain ⟨a43, ha43, H⟩ := bind_some H
    refine iter_W (P := P_X8_isO_11 x) (E := E_X8_isO_11 x) (fun s9 o9 ho9 hK9 => tb_X8_isO_11 hdn hR g s9 o9 ho9 hK9) FU _ a43 ha43 ?_
    show WA x 57 [.ref 53, .int a43.1, .null] [] a43.2.2
    refine st_aload_n g dX8_isO_57 rfl ?_
    refine st_bipush g dX8_isO_58 bi_18 ?_
    refine st_iload_n g dX8_isO_60 rfl ?_
    refine st_iadd g dX8_isO_61 ?_
    obtain ⟨r44, hr44, H⟩ := bind_some H
    refine st_callVI g (as := [.int (18 + a43.1)]) dX8_isO_62 rfl rfl ml_X8_187 mf_X8_codes rfl (Nat.le_of_ble_eq_true rfl) (by omega) (c_X8_codes (18 + a43.1) a43.2.2 _ hr44) (fun hz => ?_)
    have br44 := hz rfl
    obtain rfl := Option.some.inj H
    exact st_iret g dX8_isO_65 (bo_nar br44) (fun _ => br44) K
theorem cm_X8_isE {dn : Nat} {R : Nat → List Int32 → Hp → Option (Int32 × Hp)} (hdn : 3 ≤ dn) (hR : ∀ k as h r, R k as h = some r → CGE dn k as h r) (h : Hp) (r : Int32 × Hp) (H : m_X8_isE R  h = some r) : CtI yX8_isE cX8_isE 1 .boolean (dn + 1) [.ref 53] h r.1 r.2 :=
  ct_ofI (own := RX8) [.ref 53] (by decide +kernel) rfl (fun ρ => Nat.le_of_ble_eq_true rfl) (fun ρ => rfl) (fun x g K => t_X8_isE hdn hR g  h r H K)
theorem cm_X8_isA {dn : Nat} {R : Nat → List Int32 → Hp → Option (Int32 × Hp)} (hdn : 3 ≤ dn) (hR : ∀ k as h r, R k as h = some r → CGE dn k as h r) (h : Hp) (r : Int32 × Hp) (H : m_X8_isA R  h = some r) : CtI yX8_isA cX8_isA 1 .boolean (dn + 1) [.ref 53] h r.1 r.2 :=
  ct_ofI (own := RX8) [.ref 53] (by decide +kernel) rfl (fun ρ => Nat.le_of_ble_eq_true rfl) (fun ρ => rfl) (fun x g K => t_X8_isA hdn hR g  h r H K)
theorem cm_X8_isB {dn : Nat} {R : Nat → List Int32 → Hp → Option (Int32 × Hp)} (hdn : 3 ≤ dn) (hR : ∀ k as h r, R k as h = some r → CGE dn k as h r) (h : Hp) (r : Int32 × Hp) (H : m_X8_isB R  h = some r) : CtI yX8_isB cX8_isB 2 .boolean (dn + 1) [.ref 53] h r.1 r.2 :=
  ct_ofI (own := RX8) [.ref 53, .null] (by decide +kernel) rfl (fun ρ => Nat.le_of_ble_eq_true rfl) (fun ρ => rfl) (fun x g K => t_X8_isB hdn hR g  h r H K)
theorem cm_X8_isS {dn : Nat} {R : Nat → List Int32 → Hp → Option (Int32 × Hp)} (hdn : 3 ≤ dn) (hR : ∀ k as h r, R k as h = some r → CGE dn k as h r) (h : Hp) (r : Int32 × Hp) (H : m_X8_isS R  h = some r) : CtI yX8_isS cX8_isS 2 .boolean (dn + 1) [.ref 53] h r.1 r.2 :=
  ct_ofI (own := RX8) [.ref 53, .null] (by decide +kernel) rfl (fun ρ => Nat.le_of_ble_eq_true rfl) (fun ρ => rfl) (fun x g K => t_X8_isS hdn hR g  h r H K)
theorem cm_X8_isP {dn : Nat} {R : Nat → List Int32 → Hp → Option (Int32 × Hp)} (hdn : 3 ≤ dn) (hR : ∀ k as h r, R k as h = some r → CGE dn k as h r) (h : Hp) (r : Int32 × Hp) (H : m_X8_isP R  h = some r) : CtI yX8_isP cX8_isP 2 .boolean (dn + 1) [.ref 53] h r.1 r.2 :=
  ct_ofI (own := RX8) [.ref 53, .null] (by decide +kernel) rfl (fun ρ => Nat.le_of_ble_eq_true rfl) (fun ρ => rfl) (fun x g K => t_X8_isP hdn hR g  h r H K)
theorem cm_X8_isO {dn : Nat} {R : Nat → List Int32 → Hp → Option (Int32 × Hp)} (hdn : 3 ≤ dn) (hR : ∀ k as h r, R k as h = some r → CGE dn k as h r) (h : Hp) (r : Int32 × Hp) (H : m_X8_isO R  h = some r) : CtI yX8_isO cX8_isO 3 .boolean (dn + 1) [.ref 53] h r.1 r.2 :=
  ct_ofI (own := RX8) [.ref 53, .null, .null] (by decide +kernel) rfl (fun ρ => Nat.le_of_ble_eq_true rfl) (fun ρ => rfl) (fun x g K => t_X8_isO hdn hR g  h r H K)
def fG_GE : Nat → Nat → List Int32 → Hp → Option (Int32 × Hp)
  | 0, _, _, _ => none
  | n + 1, k, as, h => match k, as with
    | 0, [] => m_X8_isE (fG_GE n)  h
    | 1, [] => m_X8_isA (fG_GE n)  h
    | 2, [] => m_X8_isB (fG_GE n)  h
    | 3, [] => m_X8_isS (fG_GE n)  h
    | 4, [] => m_X8_isP (fG_GE n)  h
    | 5, [] => m_X8_isO (fG_GE n)  h
    | _, _ => none
theorem cG_GE : ∀ (n k : Nat) (as : List Int32) (h : Hp) (r : Int32 × Hp), fG_GE n k as h = some r → CGE (3 + n) k as h r := by
  intro n
  induction n with
  | zero => intro k as h r H; cases H
  | succ n ih =>
    intro k as h r H
    unfold fG_GE at H
    split at H
    · exact cm_X8_isE (Nat.le_add_right _ _) ih  h r H
    · exact cm_X8_isA (Nat.le_add_right _ _) ih  h r H
    · exact cm_X8_isB (Nat.le_add_right _ _) ih  h r H
    · exact cm_X8_isS (Nat.le_add_right _ _) ih  h r H
    · exact cm_X8_isP (Nat.le_add_right _ _) ih  h r H
    · exact cm_X8_isO (Nat.le_add_right _ _) ih  h r H
    · cases H
def f_X8_isE (h : Hp) : Option (Int32 × Hp) := fG_GE 100 0 [] h
theorem c_X8_isE (h : Hp) (r : Int32 × Hp) (H : f_X8_isE  h = some r) : CtI yX8_isE cX8_isE 1 .boolean 103 [.ref 53] h r.1 r.2 := cG_GE 100 0 [] h r H
def f_X8_isA (h : Hp) : Option (Int32 × Hp) := fG_GE 100 1 [] h
theorem c_X8_isA (h : Hp) (r : Int32 × Hp) (H : f_X8_isA  h = some r) : CtI yX8_isA cX8_isA 1 .boolean 103 [.ref 53] h r.1 r.2 := cG_GE 100 1 [] h r H
def f_X8_isB (h : Hp) : Option (Int32 × Hp) := fG_GE 100 2 [] h
theorem c_X8_isB (h : Hp) (r : Int32 × Hp) (H : f_X8_isB  h = some r) : CtI yX8_isB cX8_isB 2 .boolean 103 [.ref 53] h r.1 r.2 := cG_GE 100 2 [] h r H
def f_X8_isS (h : Hp) : Option (Int32 × Hp) := fG_GE 100 3 [] h
theorem c_X8_isS (h : Hp) (r : Int32 × Hp) (H : f_X8_isS  h = some r) : CtI yX8_isS cX8_isS 2 .boolean 103 [.ref 53] h r.1 r.2 := cG_GE 100 3 [] h r H
def f_X8_isP (h : Hp) : Option (Int32 × Hp) := fG_GE 100 4 [] h
theorem c_X8_isP (h : Hp) (r : Int32 × Hp) (H : f_X8_isP  h = some r) : CtI yX8_isP cX8_isP 2 .boolean 103 [.ref 53] h r.1 r.2 := cG_GE 100 4 [] h r H
def f_X8_isO (h : Hp) : Option (Int32 × Hp) := fG_GE 100 5 [] h
theorem c_X8_isO (h : Hp) (r : Int32 × Hp) (H : f_X8_isO  h = some r) : CtI yX8_isO cX8_isO 3 .boolean 103 [.ref 53] h r.1 r.2 := cG_GE 100 5 [] h r H
