/-! each array, at a number -/
theorem sz_2 : SI 2 = 10 := by decide
theorem rd_2 {h : Hp} {k : Nat} (hk : k < 10) : rdI h 2 (nI k) = some (h.1 2 k) := rdI_n (by rw [sz_2]; exact hk) (by rw [sz_2]; decide)
theorem wr_2 {h : Hp} {k : Nat} {v : Int32} (hk : k < 10) : wrI h 2 (nI k) v = some (stI h 2 k v) := wrI_n (by rw [sz_2]; exact hk) (by rw [sz_2]; decide)
theorem sz_3 : SI 3 = 10 := by decide
theorem rd_3 {h : Hp} {k : Nat} (hk : k < 10) : rdI h 3 (nI k) = some (h.1 3 k) := rdI_n (by rw [sz_3]; exact hk) (by rw [sz_3]; decide)
theorem wr_3 {h : Hp} {k : Nat} {v : Int32} (hk : k < 10) : wrI h 3 (nI k) v = some (stI h 3 k v) := wrI_n (by rw [sz_3]; exact hk) (by rw [sz_3]; decide)
theorem sz_4 : SI 4 = 12 := by decide
theorem rd_4 {h : Hp} {k : Nat} (hk : k < 12) : rdI h 4 (nI k) = some (h.1 4 k) := rdI_n (by rw [sz_4]; exact hk) (by rw [sz_4]; decide)
theorem wr_4 {h : Hp} {k : Nat} {v : Int32} (hk : k < 12) : wrI h 4 (nI k) v = some (stI h 4 k v) := wrI_n (by rw [sz_4]; exact hk) (by rw [sz_4]; decide)
theorem sz_5 : SI 5 = 12 := by decide
theorem rd_5 {h : Hp} {k : Nat} (hk : k < 12) : rdI h 5 (nI k) = some (h.1 5 k) := rdI_n (by rw [sz_5]; exact hk) (by rw [sz_5]; decide)
theorem wr_5 {h : Hp} {k : Nat} {v : Int32} (hk : k < 12) : wrI h 5 (nI k) v = some (stI h 5 k v) := wrI_n (by rw [sz_5]; exact hk) (by rw [sz_5]; decide)
theorem sz_6 : SI 6 = 12 := by decide
theorem rd_6 {h : Hp} {k : Nat} (hk : k < 12) : rdI h 6 (nI k) = some (h.1 6 k) := rdI_n (by rw [sz_6]; exact hk) (by rw [sz_6]; decide)
theorem wr_6 {h : Hp} {k : Nat} {v : Int32} (hk : k < 12) : wrI h 6 (nI k) v = some (stI h 6 k v) := wrI_n (by rw [sz_6]; exact hk) (by rw [sz_6]; decide)
theorem sz_8 : SI 8 = 120 := by decide
theorem rd_8 {h : Hp} {k : Nat} (hk : k < 120) : rdI h 8 (nI k) = some (h.1 8 k) := rdI_n (by rw [sz_8]; exact hk) (by rw [sz_8]; decide)
theorem wr_8 {h : Hp} {k : Nat} {v : Int32} (hk : k < 120) : wrI h 8 (nI k) v = some (stI h 8 k v) := wrI_n (by rw [sz_8]; exact hk) (by rw [sz_8]; decide)
theorem sz_9 : SI 9 = 121 := by decide
theorem rd_9 {h : Hp} {k : Nat} (hk : k < 121) : rdI h 9 (nI k) = some (h.1 9 k) := rdI_n (by rw [sz_9]; exact hk) (by rw [sz_9]; decide)
theorem wr_9 {h : Hp} {k : Nat} {v : Int32} (hk : k < 121) : wrI h 9 (nI k) v = some (stI h 9 k v) := wrI_n (by rw [sz_9]; exact hk) (by rw [sz_9]; decide)
theorem sz_10 : SI 10 = 121 := by decide
theorem rd_10 {h : Hp} {k : Nat} (hk : k < 121) : rdI h 10 (nI k) = some (h.1 10 k) := rdI_n (by rw [sz_10]; exact hk) (by rw [sz_10]; decide)
theorem wr_10 {h : Hp} {k : Nat} {v : Int32} (hk : k < 121) : wrI h 10 (nI k) v = some (stI h 10 k v) := wrI_n (by rw [sz_10]; exact hk) (by rw [sz_10]; decide)
theorem sz_11 : SI 11 = 6 := by decide
theorem rd_11 {h : Hp} {k : Nat} (hk : k < 6) : rdI h 11 (nI k) = some (h.1 11 k) := rdI_n (by rw [sz_11]; exact hk) (by rw [sz_11]; decide)
theorem wr_11 {h : Hp} {k : Nat} {v : Int32} (hk : k < 6) : wrI h 11 (nI k) v = some (stI h 11 k v) := wrI_n (by rw [sz_11]; exact hk) (by rw [sz_11]; decide)
theorem sz_12 : SI 12 = 121 := by decide
theorem rd_12 {h : Hp} {k : Nat} (hk : k < 121) : rdI h 12 (nI k) = some (h.1 12 k) := rdI_n (by rw [sz_12]; exact hk) (by rw [sz_12]; decide)
theorem wr_12 {h : Hp} {k : Nat} {v : Int32} (hk : k < 121) : wrI h 12 (nI k) v = some (stI h 12 k v) := wrI_n (by rw [sz_12]; exact hk) (by rw [sz_12]; decide)
theorem sz_14 : SI 14 = 12 := by decide
theorem rd_14 {h : Hp} {k : Nat} (hk : k < 12) : rdI h 14 (nI k) = some (h.1 14 k) := rdI_n (by rw [sz_14]; exact hk) (by rw [sz_14]; decide)
theorem wr_14 {h : Hp} {k : Nat} {v : Int32} (hk : k < 12) : wrI h 14 (nI k) v = some (stI h 14 k v) := wrI_n (by rw [sz_14]; exact hk) (by rw [sz_14]; decide)
theorem sz_15 : SI 15 = 12 := by decide
theorem rd_15 {h : Hp} {k : Nat} (hk : k < 12) : rdI h 15 (nI k) = some (h.1 15 k) := rdI_n (by rw [sz_15]; exact hk) (by rw [sz_15]; decide)
theorem wr_15 {h : Hp} {k : Nat} {v : Int32} (hk : k < 12) : wrI h 15 (nI k) v = some (stI h 15 k v) := wrI_n (by rw [sz_15]; exact hk) (by rw [sz_15]; decide)
theorem sz_16 : SI 16 = 6 := by decide
theorem rd_16 {h : Hp} {k : Nat} (hk : k < 6) : rdI h 16 (nI k) = some (h.1 16 k) := rdI_n (by rw [sz_16]; exact hk) (by rw [sz_16]; decide)
theorem wr_16 {h : Hp} {k : Nat} {v : Int32} (hk : k < 6) : wrI h 16 (nI k) v = some (stI h 16 k v) := wrI_n (by rw [sz_16]; exact hk) (by rw [sz_16]; decide)
theorem sz_18 : SI 18 = 12 := by decide
theorem rd_18 {h : Hp} {k : Nat} (hk : k < 12) : rdI h 18 (nI k) = some (h.1 18 k) := rdI_n (by rw [sz_18]; exact hk) (by rw [sz_18]; decide)
theorem wr_18 {h : Hp} {k : Nat} {v : Int32} (hk : k < 12) : wrI h 18 (nI k) v = some (stI h 18 k v) := wrI_n (by rw [sz_18]; exact hk) (by rw [sz_18]; decide)
theorem sz_19 : SI 19 = 12 := by decide
theorem rd_19 {h : Hp} {k : Nat} (hk : k < 12) : rdI h 19 (nI k) = some (h.1 19 k) := rdI_n (by rw [sz_19]; exact hk) (by rw [sz_19]; decide)
theorem wr_19 {h : Hp} {k : Nat} {v : Int32} (hk : k < 12) : wrI h 19 (nI k) v = some (stI h 19 k v) := wrI_n (by rw [sz_19]; exact hk) (by rw [sz_19]; decide)
theorem sz_20 : SI 20 = 6 := by decide
theorem rd_20 {h : Hp} {k : Nat} (hk : k < 6) : rdI h 20 (nI k) = some (h.1 20 k) := rdI_n (by rw [sz_20]; exact hk) (by rw [sz_20]; decide)
theorem wr_20 {h : Hp} {k : Nat} {v : Int32} (hk : k < 6) : wrI h 20 (nI k) v = some (stI h 20 k v) := wrI_n (by rw [sz_20]; exact hk) (by rw [sz_20]; decide)
theorem sz_22 : SI 22 = 12 := by decide
theorem rd_22 {h : Hp} {k : Nat} (hk : k < 12) : rdI h 22 (nI k) = some (h.1 22 k) := rdI_n (by rw [sz_22]; exact hk) (by rw [sz_22]; decide)
theorem wr_22 {h : Hp} {k : Nat} {v : Int32} (hk : k < 12) : wrI h 22 (nI k) v = some (stI h 22 k v) := wrI_n (by rw [sz_22]; exact hk) (by rw [sz_22]; decide)
theorem sz_23 : SI 23 = 12 := by decide
theorem rd_23 {h : Hp} {k : Nat} (hk : k < 12) : rdI h 23 (nI k) = some (h.1 23 k) := rdI_n (by rw [sz_23]; exact hk) (by rw [sz_23]; decide)
theorem wr_23 {h : Hp} {k : Nat} {v : Int32} (hk : k < 12) : wrI h 23 (nI k) v = some (stI h 23 k v) := wrI_n (by rw [sz_23]; exact hk) (by rw [sz_23]; decide)
theorem sz_24 : SI 24 = 6 := by decide
theorem rd_24 {h : Hp} {k : Nat} (hk : k < 6) : rdI h 24 (nI k) = some (h.1 24 k) := rdI_n (by rw [sz_24]; exact hk) (by rw [sz_24]; decide)
theorem wr_24 {h : Hp} {k : Nat} {v : Int32} (hk : k < 6) : wrI h 24 (nI k) v = some (stI h 24 k v) := wrI_n (by rw [sz_24]; exact hk) (by rw [sz_24]; decide)
theorem sz_26 : SI 26 = 40 := by decide
theorem rd_26 {h : Hp} {k : Nat} (hk : k < 40) : rdI h 26 (nI k) = some (h.1 26 k) := rdI_n (by rw [sz_26]; exact hk) (by rw [sz_26]; decide)
theorem wr_26 {h : Hp} {k : Nat} {v : Int32} (hk : k < 40) : wrI h 26 (nI k) v = some (stI h 26 k v) := wrI_n (by rw [sz_26]; exact hk) (by rw [sz_26]; decide)
theorem sz_27 : SI 27 = 40 := by decide
theorem rd_27 {h : Hp} {k : Nat} (hk : k < 40) : rdI h 27 (nI k) = some (h.1 27 k) := rdI_n (by rw [sz_27]; exact hk) (by rw [sz_27]; decide)
theorem wr_27 {h : Hp} {k : Nat} {v : Int32} (hk : k < 40) : wrI h 27 (nI k) v = some (stI h 27 k v) := wrI_n (by rw [sz_27]; exact hk) (by rw [sz_27]; decide)
theorem sz_28 : SI 28 = 40 := by decide
theorem rd_28 {h : Hp} {k : Nat} (hk : k < 40) : rdI h 28 (nI k) = some (h.1 28 k) := rdI_n (by rw [sz_28]; exact hk) (by rw [sz_28]; decide)
theorem wr_28 {h : Hp} {k : Nat} {v : Int32} (hk : k < 40) : wrI h 28 (nI k) v = some (stI h 28 k v) := wrI_n (by rw [sz_28]; exact hk) (by rw [sz_28]; decide)
theorem sz_29 : SI 29 = 40 := by decide
theorem rd_29 {h : Hp} {k : Nat} (hk : k < 40) : rdI h 29 (nI k) = some (h.1 29 k) := rdI_n (by rw [sz_29]; exact hk) (by rw [sz_29]; decide)
theorem wr_29 {h : Hp} {k : Nat} {v : Int32} (hk : k < 40) : wrI h 29 (nI k) v = some (stI h 29 k v) := wrI_n (by rw [sz_29]; exact hk) (by rw [sz_29]; decide)
theorem sz_32 : SL 32 = 60 := by decide
theorem rd_32 {h : Hp} {k : Nat} (hk : k < 60) : rdL h 32 (nI k) = some (h.2.1 32 k) := rdL_n (by rw [sz_32]; exact hk) (by rw [sz_32]; decide)
theorem wr_32 {h : Hp} {k : Nat} {v : Int64} (hk : k < 60) : wrL h 32 (nI k) v = some (stL h 32 k v) := wrL_n (by rw [sz_32]; exact hk) (by rw [sz_32]; decide)
theorem sz_33 : SL 33 = 60 := by decide
theorem rd_33 {h : Hp} {k : Nat} (hk : k < 60) : rdL h 33 (nI k) = some (h.2.1 33 k) := rdL_n (by rw [sz_33]; exact hk) (by rw [sz_33]; decide)
theorem wr_33 {h : Hp} {k : Nat} {v : Int64} (hk : k < 60) : wrL h 33 (nI k) v = some (stL h 33 k v) := wrL_n (by rw [sz_33]; exact hk) (by rw [sz_33]; decide)
theorem sz_34 : SL 34 = 60 := by decide
theorem rd_34 {h : Hp} {k : Nat} (hk : k < 60) : rdL h 34 (nI k) = some (h.2.1 34 k) := rdL_n (by rw [sz_34]; exact hk) (by rw [sz_34]; decide)
theorem wr_34 {h : Hp} {k : Nat} {v : Int64} (hk : k < 60) : wrL h 34 (nI k) v = some (stL h 34 k v) := wrL_n (by rw [sz_34]; exact hk) (by rw [sz_34]; decide)
theorem sz_35 : SL 35 = 60 := by decide
theorem rd_35 {h : Hp} {k : Nat} (hk : k < 60) : rdL h 35 (nI k) = some (h.2.1 35 k) := rdL_n (by rw [sz_35]; exact hk) (by rw [sz_35]; decide)
theorem wr_35 {h : Hp} {k : Nat} {v : Int64} (hk : k < 60) : wrL h 35 (nI k) v = some (stL h 35 k v) := wrL_n (by rw [sz_35]; exact hk) (by rw [sz_35]; decide)
theorem sz_36 : SL 36 = 60 := by decide
theorem rd_36 {h : Hp} {k : Nat} (hk : k < 60) : rdL h 36 (nI k) = some (h.2.1 36 k) := rdL_n (by rw [sz_36]; exact hk) (by rw [sz_36]; decide)
theorem wr_36 {h : Hp} {k : Nat} {v : Int64} (hk : k < 60) : wrL h 36 (nI k) v = some (stL h 36 k v) := wrL_n (by rw [sz_36]; exact hk) (by rw [sz_36]; decide)
theorem sz_37 : SL 37 = 60 := by decide
theorem rd_37 {h : Hp} {k : Nat} (hk : k < 60) : rdL h 37 (nI k) = some (h.2.1 37 k) := rdL_n (by rw [sz_37]; exact hk) (by rw [sz_37]; decide)
theorem wr_37 {h : Hp} {k : Nat} {v : Int64} (hk : k < 60) : wrL h 37 (nI k) v = some (stL h 37 k v) := wrL_n (by rw [sz_37]; exact hk) (by rw [sz_37]; decide)
theorem sz_38 : SI 38 = 6 := by decide
theorem rd_38 {h : Hp} {k : Nat} (hk : k < 6) : rdI h 38 (nI k) = some (h.1 38 k) := rdI_n (by rw [sz_38]; exact hk) (by rw [sz_38]; decide)
theorem wr_38 {h : Hp} {k : Nat} {v : Int32} (hk : k < 6) : wrI h 38 (nI k) v = some (stI h 38 k v) := wrI_n (by rw [sz_38]; exact hk) (by rw [sz_38]; decide)
theorem sz_39 : SI 39 = 6 := by decide
theorem rd_39 {h : Hp} {k : Nat} (hk : k < 6) : rdI h 39 (nI k) = some (h.1 39 k) := rdI_n (by rw [sz_39]; exact hk) (by rw [sz_39]; decide)
theorem wr_39 {h : Hp} {k : Nat} {v : Int32} (hk : k < 6) : wrI h 39 (nI k) v = some (stI h 39 k v) := wrI_n (by rw [sz_39]; exact hk) (by rw [sz_39]; decide)
theorem sz_40 : SI 40 = 6 := by decide
theorem rd_40 {h : Hp} {k : Nat} (hk : k < 6) : rdI h 40 (nI k) = some (h.1 40 k) := rdI_n (by rw [sz_40]; exact hk) (by rw [sz_40]; decide)
theorem wr_40 {h : Hp} {k : Nat} {v : Int32} (hk : k < 6) : wrI h 40 (nI k) v = some (stI h 40 k v) := wrI_n (by rw [sz_40]; exact hk) (by rw [sz_40]; decide)
theorem sz_42 : SI 42 = 50 := by decide
theorem rd_42 {h : Hp} {k : Nat} (hk : k < 50) : rdI h 42 (nI k) = some (h.1 42 k) := rdI_n (by rw [sz_42]; exact hk) (by rw [sz_42]; decide)
theorem wr_42 {h : Hp} {k : Nat} {v : Int32} (hk : k < 50) : wrI h 42 (nI k) v = some (stI h 42 k v) := wrI_n (by rw [sz_42]; exact hk) (by rw [sz_42]; decide)
theorem sz_43 : SI 43 = 24 := by decide
theorem rd_43 {h : Hp} {k : Nat} (hk : k < 24) : rdI h 43 (nI k) = some (h.1 43 k) := rdI_n (by rw [sz_43]; exact hk) (by rw [sz_43]; decide)
theorem wr_43 {h : Hp} {k : Nat} {v : Int32} (hk : k < 24) : wrI h 43 (nI k) v = some (stI h 43 k v) := wrI_n (by rw [sz_43]; exact hk) (by rw [sz_43]; decide)
theorem sz_45 : SI 45 = 12 := by decide
theorem rd_45 {h : Hp} {k : Nat} (hk : k < 12) : rdI h 45 (nI k) = some (h.1 45 k) := rdI_n (by rw [sz_45]; exact hk) (by rw [sz_45]; decide)
theorem wr_45 {h : Hp} {k : Nat} {v : Int32} (hk : k < 12) : wrI h 45 (nI k) v = some (stI h 45 k v) := wrI_n (by rw [sz_45]; exact hk) (by rw [sz_45]; decide)
theorem sz_46 : SI 46 = 12 := by decide
theorem rd_46 {h : Hp} {k : Nat} (hk : k < 12) : rdI h 46 (nI k) = some (h.1 46 k) := rdI_n (by rw [sz_46]; exact hk) (by rw [sz_46]; decide)
theorem wr_46 {h : Hp} {k : Nat} {v : Int32} (hk : k < 12) : wrI h 46 (nI k) v = some (stI h 46 k v) := wrI_n (by rw [sz_46]; exact hk) (by rw [sz_46]; decide)
theorem sz_47 : SI 47 = 12 := by decide
theorem rd_47 {h : Hp} {k : Nat} (hk : k < 12) : rdI h 47 (nI k) = some (h.1 47 k) := rdI_n (by rw [sz_47]; exact hk) (by rw [sz_47]; decide)
theorem wr_47 {h : Hp} {k : Nat} {v : Int32} (hk : k < 12) : wrI h 47 (nI k) v = some (stI h 47 k v) := wrI_n (by rw [sz_47]; exact hk) (by rw [sz_47]; decide)
theorem sz_48 : SI 48 = 12 := by decide
theorem rd_48 {h : Hp} {k : Nat} (hk : k < 12) : rdI h 48 (nI k) = some (h.1 48 k) := rdI_n (by rw [sz_48]; exact hk) (by rw [sz_48]; decide)
theorem wr_48 {h : Hp} {k : Nat} {v : Int32} (hk : k < 12) : wrI h 48 (nI k) v = some (stI h 48 k v) := wrI_n (by rw [sz_48]; exact hk) (by rw [sz_48]; decide)
theorem sz_49 : SI 49 = 2 := by decide
theorem rd_49 {h : Hp} {k : Nat} (hk : k < 2) : rdI h 49 (nI k) = some (h.1 49 k) := rdI_n (by rw [sz_49]; exact hk) (by rw [sz_49]; decide)
theorem wr_49 {h : Hp} {k : Nat} {v : Int32} (hk : k < 2) : wrI h 49 (nI k) v = some (stI h 49 k v) := wrI_n (by rw [sz_49]; exact hk) (by rw [sz_49]; decide)
theorem sz_50 : SI 50 = 12 := by decide
theorem rd_50 {h : Hp} {k : Nat} (hk : k < 12) : rdI h 50 (nI k) = some (h.1 50 k) := rdI_n (by rw [sz_50]; exact hk) (by rw [sz_50]; decide)
theorem wr_50 {h : Hp} {k : Nat} {v : Int32} (hk : k < 12) : wrI h 50 (nI k) v = some (stI h 50 k v) := wrI_n (by rw [sz_50]; exact hk) (by rw [sz_50]; decide)
theorem sz_51 : SI 51 = 12 := by decide
theorem rd_51 {h : Hp} {k : Nat} (hk : k < 12) : rdI h 51 (nI k) = some (h.1 51 k) := rdI_n (by rw [sz_51]; exact hk) (by rw [sz_51]; decide)
theorem wr_51 {h : Hp} {k : Nat} {v : Int32} (hk : k < 12) : wrI h 51 (nI k) v = some (stI h 51 k v) := wrI_n (by rw [sz_51]; exact hk) (by rw [sz_51]; decide)
theorem sz_52 : SI 52 = 10 := by decide
theorem rd_52 {h : Hp} {k : Nat} (hk : k < 10) : rdI h 52 (nI k) = some (h.1 52 k) := rdI_n (by rw [sz_52]; exact hk) (by rw [sz_52]; decide)
theorem wr_52 {h : Hp} {k : Nat} {v : Int32} (hk : k < 10) : wrI h 52 (nI k) v = some (stI h 52 k v) := wrI_n (by rw [sz_52]; exact hk) (by rw [sz_52]; decide)
theorem sz_54 : SI 54 = 12 := by decide
theorem rd_54 {h : Hp} {k : Nat} (hk : k < 12) : rdI h 54 (nI k) = some (h.1 54 k) := rdI_n (by rw [sz_54]; exact hk) (by rw [sz_54]; decide)
theorem wr_54 {h : Hp} {k : Nat} {v : Int32} (hk : k < 12) : wrI h 54 (nI k) v = some (stI h 54 k v) := wrI_n (by rw [sz_54]; exact hk) (by rw [sz_54]; decide)
theorem sz_55 : SI 55 = 10 := by decide
theorem rd_55 {h : Hp} {k : Nat} (hk : k < 10) : rdI h 55 (nI k) = some (h.1 55 k) := rdI_n (by rw [sz_55]; exact hk) (by rw [sz_55]; decide)
theorem wr_55 {h : Hp} {k : Nat} {v : Int32} (hk : k < 10) : wrI h 55 (nI k) v = some (stI h 55 k v) := wrI_n (by rw [sz_55]; exact hk) (by rw [sz_55]; decide)
theorem sz_56 : SI 56 = 10 := by decide
theorem rd_56 {h : Hp} {k : Nat} (hk : k < 10) : rdI h 56 (nI k) = some (h.1 56 k) := rdI_n (by rw [sz_56]; exact hk) (by rw [sz_56]; decide)
theorem wr_56 {h : Hp} {k : Nat} {v : Int32} (hk : k < 10) : wrI h 56 (nI k) v = some (stI h 56 k v) := wrI_n (by rw [sz_56]; exact hk) (by rw [sz_56]; decide)
theorem sz_57 : SI 57 = 12 := by decide
theorem rd_57 {h : Hp} {k : Nat} (hk : k < 12) : rdI h 57 (nI k) = some (h.1 57 k) := rdI_n (by rw [sz_57]; exact hk) (by rw [sz_57]; decide)
theorem wr_57 {h : Hp} {k : Nat} {v : Int32} (hk : k < 12) : wrI h 57 (nI k) v = some (stI h 57 k v) := wrI_n (by rw [sz_57]; exact hk) (by rw [sz_57]; decide)
theorem sz_58 : SI 58 = 12 := by decide
theorem rd_58 {h : Hp} {k : Nat} (hk : k < 12) : rdI h 58 (nI k) = some (h.1 58 k) := rdI_n (by rw [sz_58]; exact hk) (by rw [sz_58]; decide)
theorem wr_58 {h : Hp} {k : Nat} {v : Int32} (hk : k < 12) : wrI h 58 (nI k) v = some (stI h 58 k v) := wrI_n (by rw [sz_58]; exact hk) (by rw [sz_58]; decide)
theorem sz_59 : SI 59 = 12 := by decide
theorem rd_59 {h : Hp} {k : Nat} (hk : k < 12) : rdI h 59 (nI k) = some (h.1 59 k) := rdI_n (by rw [sz_59]; exact hk) (by rw [sz_59]; decide)
theorem wr_59 {h : Hp} {k : Nat} {v : Int32} (hk : k < 12) : wrI h 59 (nI k) v = some (stI h 59 k v) := wrI_n (by rw [sz_59]; exact hk) (by rw [sz_59]; decide)
theorem sz_60 : SI 60 = 12 := by decide
theorem rd_60 {h : Hp} {k : Nat} (hk : k < 12) : rdI h 60 (nI k) = some (h.1 60 k) := rdI_n (by rw [sz_60]; exact hk) (by rw [sz_60]; decide)
theorem wr_60 {h : Hp} {k : Nat} {v : Int32} (hk : k < 12) : wrI h 60 (nI k) v = some (stI h 60 k v) := wrI_n (by rw [sz_60]; exact hk) (by rw [sz_60]; decide)
theorem sz_61 : SI 61 = 12 := by decide
theorem rd_61 {h : Hp} {k : Nat} (hk : k < 12) : rdI h 61 (nI k) = some (h.1 61 k) := rdI_n (by rw [sz_61]; exact hk) (by rw [sz_61]; decide)
theorem wr_61 {h : Hp} {k : Nat} {v : Int32} (hk : k < 12) : wrI h 61 (nI k) v = some (stI h 61 k v) := wrI_n (by rw [sz_61]; exact hk) (by rw [sz_61]; decide)
theorem sz_62 : SI 62 = 120 := by decide
theorem rd_62 {h : Hp} {k : Nat} (hk : k < 120) : rdI h 62 (nI k) = some (h.1 62 k) := rdI_n (by rw [sz_62]; exact hk) (by rw [sz_62]; decide)
theorem wr_62 {h : Hp} {k : Nat} {v : Int32} (hk : k < 120) : wrI h 62 (nI k) v = some (stI h 62 k v) := wrI_n (by rw [sz_62]; exact hk) (by rw [sz_62]; decide)
theorem sz_63 : SI 63 = 60 := by decide
theorem rd_63 {h : Hp} {k : Nat} (hk : k < 60) : rdI h 63 (nI k) = some (h.1 63 k) := rdI_n (by rw [sz_63]; exact hk) (by rw [sz_63]; decide)
theorem wr_63 {h : Hp} {k : Nat} {v : Int32} (hk : k < 60) : wrI h 63 (nI k) v = some (stI h 63 k v) := wrI_n (by rw [sz_63]; exact hk) (by rw [sz_63]; decide)
theorem sz_64 : SI 64 = 60 := by decide
theorem rd_64 {h : Hp} {k : Nat} (hk : k < 60) : rdI h 64 (nI k) = some (h.1 64 k) := rdI_n (by rw [sz_64]; exact hk) (by rw [sz_64]; decide)
theorem wr_64 {h : Hp} {k : Nat} {v : Int32} (hk : k < 60) : wrI h 64 (nI k) v = some (stI h 64 k v) := wrI_n (by rw [sz_64]; exact hk) (by rw [sz_64]; decide)
theorem sz_65 : SI 65 = 60 := by decide
theorem rd_65 {h : Hp} {k : Nat} (hk : k < 60) : rdI h 65 (nI k) = some (h.1 65 k) := rdI_n (by rw [sz_65]; exact hk) (by rw [sz_65]; decide)
theorem wr_65 {h : Hp} {k : Nat} {v : Int32} (hk : k < 60) : wrI h 65 (nI k) v = some (stI h 65 k v) := wrI_n (by rw [sz_65]; exact hk) (by rw [sz_65]; decide)
theorem sz_66 : SI 66 = 200 := by decide
theorem rd_66 {h : Hp} {k : Nat} (hk : k < 200) : rdI h 66 (nI k) = some (h.1 66 k) := rdI_n (by rw [sz_66]; exact hk) (by rw [sz_66]; decide)
theorem wr_66 {h : Hp} {k : Nat} {v : Int32} (hk : k < 200) : wrI h 66 (nI k) v = some (stI h 66 k v) := wrI_n (by rw [sz_66]; exact hk) (by rw [sz_66]; decide)
theorem sz_67 : SI 67 = 61 := by decide
theorem rd_67 {h : Hp} {k : Nat} (hk : k < 61) : rdI h 67 (nI k) = some (h.1 67 k) := rdI_n (by rw [sz_67]; exact hk) (by rw [sz_67]; decide)
theorem wr_67 {h : Hp} {k : Nat} {v : Int32} (hk : k < 61) : wrI h 67 (nI k) v = some (stI h 67 k v) := wrI_n (by rw [sz_67]; exact hk) (by rw [sz_67]; decide)
theorem sz_68 : SI 68 = 61 := by decide
theorem rd_68 {h : Hp} {k : Nat} (hk : k < 61) : rdI h 68 (nI k) = some (h.1 68 k) := rdI_n (by rw [sz_68]; exact hk) (by rw [sz_68]; decide)
theorem wr_68 {h : Hp} {k : Nat} {v : Int32} (hk : k < 61) : wrI h 68 (nI k) v = some (stI h 68 k v) := wrI_n (by rw [sz_68]; exact hk) (by rw [sz_68]; decide)
theorem sz_69 : SI 69 = 61 := by decide
theorem rd_69 {h : Hp} {k : Nat} (hk : k < 61) : rdI h 69 (nI k) = some (h.1 69 k) := rdI_n (by rw [sz_69]; exact hk) (by rw [sz_69]; decide)
theorem wr_69 {h : Hp} {k : Nat} {v : Int32} (hk : k < 61) : wrI h 69 (nI k) v = some (stI h 69 k v) := wrI_n (by rw [sz_69]; exact hk) (by rw [sz_69]; decide)
theorem sz_70 : SI 70 = 200 := by decide
theorem rd_70 {h : Hp} {k : Nat} (hk : k < 200) : rdI h 70 (nI k) = some (h.1 70 k) := rdI_n (by rw [sz_70]; exact hk) (by rw [sz_70]; decide)
theorem wr_70 {h : Hp} {k : Nat} {v : Int32} (hk : k < 200) : wrI h 70 (nI k) v = some (stI h 70 k v) := wrI_n (by rw [sz_70]; exact hk) (by rw [sz_70]; decide)
theorem sz_71 : SI 71 = 200 := by decide
theorem rd_71 {h : Hp} {k : Nat} (hk : k < 200) : rdI h 71 (nI k) = some (h.1 71 k) := rdI_n (by rw [sz_71]; exact hk) (by rw [sz_71]; decide)
theorem wr_71 {h : Hp} {k : Nat} {v : Int32} (hk : k < 200) : wrI h 71 (nI k) v = some (stI h 71 k v) := wrI_n (by rw [sz_71]; exact hk) (by rw [sz_71]; decide)
theorem sz_72 : SI 72 = 6 := by decide
theorem rd_72 {h : Hp} {k : Nat} (hk : k < 6) : rdI h 72 (nI k) = some (h.1 72 k) := rdI_n (by rw [sz_72]; exact hk) (by rw [sz_72]; decide)
theorem wr_72 {h : Hp} {k : Nat} {v : Int32} (hk : k < 6) : wrI h 72 (nI k) v = some (stI h 72 k v) := wrI_n (by rw [sz_72]; exact hk) (by rw [sz_72]; decide)
theorem sz_73 : SI 73 = 6 := by decide
theorem rd_73 {h : Hp} {k : Nat} (hk : k < 6) : rdI h 73 (nI k) = some (h.1 73 k) := rdI_n (by rw [sz_73]; exact hk) (by rw [sz_73]; decide)
theorem wr_73 {h : Hp} {k : Nat} {v : Int32} (hk : k < 6) : wrI h 73 (nI k) v = some (stI h 73 k v) := wrI_n (by rw [sz_73]; exact hk) (by rw [sz_73]; decide)
theorem sz_74 : SI 74 = 37 := by decide
theorem rd_74 {h : Hp} {k : Nat} (hk : k < 37) : rdI h 74 (nI k) = some (h.1 74 k) := rdI_n (by rw [sz_74]; exact hk) (by rw [sz_74]; decide)
theorem wr_74 {h : Hp} {k : Nat} {v : Int32} (hk : k < 37) : wrI h 74 (nI k) v = some (stI h 74 k v) := wrI_n (by rw [sz_74]; exact hk) (by rw [sz_74]; decide)
theorem sz_75 : SI 75 = 6 := by decide
theorem rd_75 {h : Hp} {k : Nat} (hk : k < 6) : rdI h 75 (nI k) = some (h.1 75 k) := rdI_n (by rw [sz_75]; exact hk) (by rw [sz_75]; decide)
theorem wr_75 {h : Hp} {k : Nat} {v : Int32} (hk : k < 6) : wrI h 75 (nI k) v = some (stI h 75 k v) := wrI_n (by rw [sz_75]; exact hk) (by rw [sz_75]; decide)
theorem sz_76 : SI 76 = 160 := by decide
theorem rd_76 {h : Hp} {k : Nat} (hk : k < 160) : rdI h 76 (nI k) = some (h.1 76 k) := rdI_n (by rw [sz_76]; exact hk) (by rw [sz_76]; decide)
theorem wr_76 {h : Hp} {k : Nat} {v : Int32} (hk : k < 160) : wrI h 76 (nI k) v = some (stI h 76 k v) := wrI_n (by rw [sz_76]; exact hk) (by rw [sz_76]; decide)
theorem sz_77 : SI 77 = 50 := by decide
theorem rd_77 {h : Hp} {k : Nat} (hk : k < 50) : rdI h 77 (nI k) = some (h.1 77 k) := rdI_n (by rw [sz_77]; exact hk) (by rw [sz_77]; decide)
theorem wr_77 {h : Hp} {k : Nat} {v : Int32} (hk : k < 50) : wrI h 77 (nI k) v = some (stI h 77 k v) := wrI_n (by rw [sz_77]; exact hk) (by rw [sz_77]; decide)
theorem sz_78 : SI 78 = 24 := by decide
theorem rd_78 {h : Hp} {k : Nat} (hk : k < 24) : rdI h 78 (nI k) = some (h.1 78 k) := rdI_n (by rw [sz_78]; exact hk) (by rw [sz_78]; decide)
theorem wr_78 {h : Hp} {k : Nat} {v : Int32} (hk : k < 24) : wrI h 78 (nI k) v = some (stI h 78 k v) := wrI_n (by rw [sz_78]; exact hk) (by rw [sz_78]; decide)
theorem sz_79 : SI 79 = 6 := by decide
theorem rd_79 {h : Hp} {k : Nat} (hk : k < 6) : rdI h 79 (nI k) = some (h.1 79 k) := rdI_n (by rw [sz_79]; exact hk) (by rw [sz_79]; decide)
theorem wr_79 {h : Hp} {k : Nat} {v : Int32} (hk : k < 6) : wrI h 79 (nI k) v = some (stI h 79 k v) := wrI_n (by rw [sz_79]; exact hk) (by rw [sz_79]; decide)
theorem sz_80 : SI 80 = 6 := by decide
theorem rd_80 {h : Hp} {k : Nat} (hk : k < 6) : rdI h 80 (nI k) = some (h.1 80 k) := rdI_n (by rw [sz_80]; exact hk) (by rw [sz_80]; decide)
theorem wr_80 {h : Hp} {k : Nat} {v : Int32} (hk : k < 6) : wrI h 80 (nI k) v = some (stI h 80 k v) := wrI_n (by rw [sz_80]; exact hk) (by rw [sz_80]; decide)
theorem sz_81 : SL 81 = 360 := by decide
theorem rd_81 {h : Hp} {k : Nat} (hk : k < 360) : rdL h 81 (nI k) = some (h.2.1 81 k) := rdL_n (by rw [sz_81]; exact hk) (by rw [sz_81]; decide)
theorem wr_81 {h : Hp} {k : Nat} {v : Int64} (hk : k < 360) : wrL h 81 (nI k) v = some (stL h 81 k v) := wrL_n (by rw [sz_81]; exact hk) (by rw [sz_81]; decide)
theorem sz_82 : SI 82 = 37 := by decide
theorem rd_82 {h : Hp} {k : Nat} (hk : k < 37) : rdI h 82 (nI k) = some (h.1 82 k) := rdI_n (by rw [sz_82]; exact hk) (by rw [sz_82]; decide)
theorem wr_82 {h : Hp} {k : Nat} {v : Int32} (hk : k < 37) : wrI h 82 (nI k) v = some (stI h 82 k v) := wrI_n (by rw [sz_82]; exact hk) (by rw [sz_82]; decide)
theorem sz_83 : SI 83 = 37 := by decide
theorem rd_83 {h : Hp} {k : Nat} (hk : k < 37) : rdI h 83 (nI k) = some (h.1 83 k) := rdI_n (by rw [sz_83]; exact hk) (by rw [sz_83]; decide)
theorem wr_83 {h : Hp} {k : Nat} {v : Int32} (hk : k < 37) : wrI h 83 (nI k) v = some (stI h 83 k v) := wrI_n (by rw [sz_83]; exact hk) (by rw [sz_83]; decide)
theorem sz_84 : SI 84 = 2 := by decide
theorem rd_84 {h : Hp} {k : Nat} (hk : k < 2) : rdI h 84 (nI k) = some (h.1 84 k) := rdI_n (by rw [sz_84]; exact hk) (by rw [sz_84]; decide)
theorem wr_84 {h : Hp} {k : Nat} {v : Int32} (hk : k < 2) : wrI h 84 (nI k) v = some (stI h 84 k v) := wrI_n (by rw [sz_84]; exact hk) (by rw [sz_84]; decide)
theorem sz_85 : SI 85 = 10 := by decide
theorem rd_85 {h : Hp} {k : Nat} (hk : k < 10) : rdI h 85 (nI k) = some (h.1 85 k) := rdI_n (by rw [sz_85]; exact hk) (by rw [sz_85]; decide)
theorem wr_85 {h : Hp} {k : Nat} {v : Int32} (hk : k < 10) : wrI h 85 (nI k) v = some (stI h 85 k v) := wrI_n (by rw [sz_85]; exact hk) (by rw [sz_85]; decide)
/-- what is kept, but for the cells listed -/
def Kp (L : List Nat) (h h' : Hp) : Prop := LR h' ∧ ∀ k, L.contains k = false → h'.1 k = h.1 k ∧ h'.2.1 k = h.2.1 k ∧ h'.2.2 k = h.2.2 k
theorem Kp.refl {L : List Nat} {h : Hp} (q : LR h) : Kp L h h := ⟨q, fun _ _ => ⟨rfl, rfl, rfl⟩⟩
theorem Kp.trans {L : List Nat} {a b c : Hp} (F : Kp L a b) (G : Kp L b c) : Kp L a c := ⟨G.1, fun k hk => ⟨(G.2 k hk).1.trans (F.2 k hk).1, (G.2 k hk).2.1.trans (F.2 k hk).2.1, (G.2 k hk).2.2.trans (F.2 k hk).2.2⟩⟩
theorem Kp.mono {L L' : List Nat} {a b : Hp} (F : Kp L a b) (h : (L.all fun c => L'.contains c) = true) : Kp L' a b := ⟨F.1, fun k hk => F.2 k (by
  cases e : L.contains k with
  | false => rfl
  | true =>
    have h1 := List.all_eq_true.mp h k (by simpa using e)
    rw [hk] at h1
    cases h1)⟩
theorem Kp.i {L : List Nat} {a b : Hp} (F : Kp L a b) (k : Nat) (hk : L.contains k = false) : b.1 k = a.1 k := (F.2 k hk).1
theorem Kp.l {L : List Nat} {a b : Hp} (F : Kp L a b) (k : Nat) (hk : L.contains k = false) : b.2.1 k = a.2.1 k := (F.2 k hk).2.1
theorem Kp.r {L : List Nat} {a b : Hp} (F : Kp L a b) (k : Nat) (hk : L.contains k = false) : b.2.2 k = a.2.2 k := (F.2 k hk).2.2
theorem FW.kp {L : List Nat} {h h' : Hp} (F : FW (fun k => L.contains k) h h') (q : LR h) : Kp L h h' := F q
theorem Kp.sti {L : List Nat} {h : Hp} {a j : Nat} {v : Int32} (q : LR h) (ha : L.contains a = true) : Kp L h (stI h a j v) := ⟨q, fun k hk => ⟨if_neg (fun e => by rw [e, ha] at hk; cases hk), rfl, rfl⟩⟩
theorem Kp.stl {L : List Nat} {h : Hp} {a j : Nat} {v : Int64} (q : LR h) (ha : L.contains a = true) : Kp L h (stL h a j v) := ⟨q, fun k hk => ⟨rfl, if_neg (fun e => by rw [e, ha] at hk; cases hk), rfl⟩⟩
theorem Kp.upi {L : List Nat} {h : Hp} {a : Nat} {f : Nat → Int32} (q : LR h) (ha : L.contains a = true) : Kp L h (upI h a f) := ⟨q, fun k hk => ⟨if_neg (fun e => by rw [e, ha] at hk; cases hk), rfl, rfl⟩⟩
theorem ev_kp {α : Type} {L : List Nat} {h : Hp} {o : Option α} {hp : α → Hp} {Q : α → Prop} (q : LR h) (E : Ev o Q) (F : ∀ r, o = some r → FW (fun k => L.contains k) h (hp r)) : Ev o (fun r => Q r ∧ Kp L h (hp r)) := by
  obtain ⟨r, h1, h2⟩ := E
  exact ⟨r, h1, h2, F r h1 q⟩
