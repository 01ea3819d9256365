/-! the words that every method is given: the good ones of the tables; each by a name: fwA_B is word B of list A of the tables, fsA_B the choice of the method itself of private method B of list A -/
def fd_T : List Cond := lw_tbl.filter goodWord
theorem fd_T_in {w : Cond} (h : w ∈ lw_tbl) (g : goodWord w = true) : w ∈ fd_T := List.mem_filter.mpr ⟨h, g⟩
theorem fd_t1 {w : Cond} (i : Nat) (h : tables_1_1[i]? = some w) (g : goodWord w = true) : w ∈ fd_T := fd_T_in (List.mem_append_right _ (List.mem_append_left _ (List.mem_of_getElem? h))) g
theorem fd_t2 {w : Cond} (i : Nat) (h : tables_1_2[i]? = some w) (g : goodWord w = true) : w ∈ fd_T := fd_T_in (List.mem_append_right _ (List.mem_append_right _ (List.mem_append_left _ (List.mem_of_getElem? h)))) g
theorem fd_t3 {w : Cond} (i : Nat) (h : tables_1_3[i]? = some w) (g : goodWord w = true) : w ∈ fd_T := fd_T_in (List.mem_append_right _ (List.mem_append_right _ (List.mem_append_right _ (List.mem_of_getElem? h)))) g
theorem fd_s1 {y : MethodName} (i n : Nat) (h : lw_privs_1[i]? = some (y, n)) : Cond.selects y.cls y y ∈ fd_T := fd_T_in (List.mem_append_left _ (List.mem_map.mpr ⟨(y, n), List.mem_append_left _ (List.mem_of_getElem? h), rfl⟩)) rfl
theorem fd_s2 {y : MethodName} (i n : Nat) (h : lw_privs_2[i]? = some (y, n)) : Cond.selects y.cls y y ∈ fd_T := fd_T_in (List.mem_append_left _ (List.mem_map.mpr ⟨(y, n), List.mem_append_right _ (List.mem_append_left _ (List.mem_of_getElem? h)), rfl⟩)) rfl
theorem fd_s3 {y : MethodName} (i n : Nat) (h : lw_privs_3[i]? = some (y, n)) : Cond.selects y.cls y y ∈ fd_T := fd_T_in (List.mem_append_left _ (List.mem_map.mpr ⟨(y, n), List.mem_append_right _ (List.mem_append_right _ (List.mem_of_getElem? h)), rfl⟩)) rfl
theorem fd_T_good : ∀ w ∈ fd_T, goodWord w = true := fun w h => (List.mem_filter.mp h).2
theorem fd_T_all {ws : List Cond} (h : ∀ w ∈ ws, w ∈ fd_T) : GoodIn fd_T ws := fun w hw => ⟨h w hw, good_of_word (fd_T_good w (h w hw))⟩
theorem fd_cwV {own C : String} {idx : Nat} {y : MethodName} {b : ByteArray} {n : Nat} {ret : Option FieldType} (hl : Cond.methodLink own idx y ∈ fd_T) (hi : Cond.instanceMethod y ∈ fd_T) (hs : Cond.selects C y y ∈ fd_T) (hn : Cond.initialized C ∈ fd_T) (hc : Cond.code y b n ret ∈ fd_T) : GoodIn fd_T (wsV own idx C y (Cond.code y b n ret :: fd_T)) := by
  refine fd_T_all (fun w hw => ?_)
  unfold wsV at hw
  rcases List.mem_append.mp hw with h | h
  · simp only [List.mem_cons, List.not_mem_nil, or_false] at h
    rcases h with rfl | rfl | rfl | rfl
    · exact hl
    · exact hi
    · exact hs
    · exact hn
  · rcases List.mem_cons.mp h with rfl | h
    · exact hc
    · exact h
theorem fw1_0 : Cond.initialized "FareDeskLaw" ∈ fd_T := fd_t1 0 rfl rfl
theorem fw1_1 : Cond.initialized "FareDesk" ∈ fd_T := fd_t1 1 rfl rfl
theorem fw1_2 : Cond.initialized "java/lang/Math" ∈ fd_T := fd_t1 2 rfl rfl
theorem fw1_3 : Cond.initialized "FareDesk$Fares" ∈ fd_T := fd_t1 3 rfl rfl
theorem fw1_4 : Cond.initialized "java/util/Arrays" ∈ fd_T := fd_t1 4 rfl rfl
theorem fw1_5 : Cond.initialized "FareDesk$Cabin" ∈ fd_T := fd_t1 5 rfl rfl
theorem fw1_6 : Cond.initialized "FareDesk$Booking" ∈ fd_T := fd_t1 6 rfl rfl
theorem fw1_7 : Cond.initialized "FareDeskModel" ∈ fd_T := fd_t1 7 rfl rfl
theorem fw1_8 : Cond.initialized "java/lang/Throwable" ∈ fd_T := fd_t1 8 rfl rfl
theorem fw1_9 : Cond.initialized "java/lang/Exception" ∈ fd_T := fd_t1 9 rfl rfl
theorem fw1_10 : Cond.initialized "java/lang/RuntimeException" ∈ fd_T := fd_t1 10 rfl rfl
theorem fw1_11 : Cond.initialized "java/lang/IllegalArgumentException" ∈ fd_T := fd_t1 11 rfl rfl
theorem fw1_12 : Cond.initialized "java/lang/IllegalStateException" ∈ fd_T := fd_t1 12 rfl rfl
theorem fw1_13 : Cond.initialized "java/lang/UnsupportedOperationException" ∈ fd_T := fd_t1 13 rfl rfl
theorem fw1_14 : Cond.classLink "FareDeskLaw" 8 "FareDesk" ∈ fd_T := fd_t1 14 rfl rfl
theorem fw1_15 : Cond.instantiable "FareDesk" 7 ∈ fd_T := fd_t1 15 rfl rfl
theorem fw1_16 : Cond.methodLink "FareDeskLaw" 72 ⟨"FareDesk", "<init>", "(I)V"⟩ ∈ fd_T := fd_t1 16 rfl rfl
theorem fw1_17 : Cond.instanceMethod ⟨"FareDesk", "<init>", "(I)V"⟩ ∈ fd_T := fd_t1 17 rfl rfl
theorem fw1_18 : Cond.code ⟨"FareDesk", "<init>", "(I)V"⟩ prog_1_method_1_code 4 none ∈ fd_T := fd_t1 18 rfl rfl
theorem fw1_19 : Cond.methodLink "FareDesk" 1 ⟨"java/lang/Object", "<init>", "()V"⟩ ∈ fd_T := fd_t1 19 rfl rfl
theorem fw1_20 : Cond.instanceMethod ⟨"java/lang/Object", "<init>", "()V"⟩ ∈ fd_T := fd_t1 20 rfl rfl
theorem fw1_21 : Cond.code ⟨"java/lang/Object", "<init>", "()V"⟩ object_method_1_code 1 none ∈ fd_T := fd_t1 21 rfl rfl
theorem fw1_22 : Cond.classLink "FareDesk" 9 "FareDesk$Booking" ∈ fd_T := fd_t1 22 rfl rfl
theorem fw1_24 : Cond.methodLink "FareDesk" 15 ⟨"java/lang/Math", "min", "(II)I"⟩ ∈ fd_T := fd_t1 24 rfl rfl
theorem fw1_25 : Cond.static ⟨"java/lang/Math", "min", "(II)I"⟩ ∈ fd_T := fd_t1 25 rfl rfl
theorem fw1_26 : Cond.code ⟨"java/lang/Math", "min", "(II)I"⟩ prog_10_method_69_code 2 (some .int) ∈ fd_T := fd_t1 26 rfl rfl
theorem fw1_27 : Cond.methodLink "FareDesk" 21 ⟨"java/lang/Math", "max", "(II)I"⟩ ∈ fd_T := fd_t1 27 rfl rfl
theorem fw1_28 : Cond.static ⟨"java/lang/Math", "max", "(II)I"⟩ ∈ fd_T := fd_t1 28 rfl rfl
theorem fw1_29 : Cond.code ⟨"java/lang/Math", "max", "(II)I"⟩ prog_10_method_65_code 2 (some .int) ∈ fd_T := fd_t1 29 rfl rfl
theorem fw1_30 : Cond.classLink "FareDesk" 24 "FareDesk$Fares" ∈ fd_T := fd_t1 30 rfl rfl
theorem fw1_31 : Cond.instantiable "FareDesk$Fares" 3 ∈ fd_T := fd_t1 31 rfl rfl
theorem fw1_32 : Cond.methodLink "FareDesk" 26 ⟨"FareDesk$Fares", "<init>", "(I)V"⟩ ∈ fd_T := fd_t1 32 rfl rfl
theorem fw1_33 : Cond.instanceMethod ⟨"FareDesk$Fares", "<init>", "(I)V"⟩ ∈ fd_T := fd_t1 33 rfl rfl
theorem fw1_34 : Cond.code ⟨"FareDesk$Fares", "<init>", "(I)V"⟩ prog_4_method_1_code 2 none ∈ fd_T := fd_t1 34 rfl rfl
theorem fw1_35 : Cond.methodLink "FareDesk$Fares" 3 ⟨"java/lang/Object", "<init>", "()V"⟩ ∈ fd_T := fd_t1 35 rfl rfl
theorem fw1_36 : Cond.methodLink "FareDesk$Fares" 21 ⟨"java/util/Arrays", "fill", "([II)V"⟩ ∈ fd_T := fd_t1 36 rfl rfl
theorem fw1_37 : Cond.static ⟨"java/util/Arrays", "fill", "([II)V"⟩ ∈ fd_T := fd_t1 37 rfl rfl
theorem fw1_38 : Cond.code ⟨"java/util/Arrays", "fill", "([II)V"⟩ prog_15_method_103_code 4 none ∈ fd_T := fd_t1 38 rfl rfl
theorem fw1_39 : Cond.fieldLink "FareDesk$Fares" 9 "FareDesk$Fares" "limits" "[I" ∈ fd_T := fd_t1 39 rfl rfl
theorem fw1_40 : Cond.fieldLink "FareDesk" 58 "FareDesk$Fares" "limits" "[I" ∈ fd_T := fd_t1 40 rfl rfl
theorem fw1_41 : Cond.fieldLink "FareDesk$Fares" 15 "FareDesk$Fares" "prices" "[I" ∈ fd_T := fd_t1 41 rfl rfl
theorem fw1_42 : Cond.fieldLink "FareDesk" 67 "FareDesk$Fares" "prices" "[I" ∈ fd_T := fd_t1 42 rfl rfl
theorem fw1_43 : Cond.fieldLink "FareDesk$Fares" 18 "FareDesk$Fares" "shares" "[I" ∈ fd_T := fd_t1 43 rfl rfl
theorem fw1_44 : Cond.fieldLink "FareDesk" 135 "FareDesk$Fares" "shares" "[I" ∈ fd_T := fd_t1 44 rfl rfl
theorem fw1_52 : Cond.arrayClass .int ∈ fd_T := fd_t1 52 rfl rfl
theorem fw1_53 : Cond.classLink "FareDesk" 33 "FareDesk$Cabin" ∈ fd_T := fd_t1 53 rfl rfl
theorem fw1_54 : Cond.instantiable "FareDesk$Cabin" 2 ∈ fd_T := fd_t1 54 rfl rfl
theorem fw1_55 : Cond.methodLink "FareDesk" 35 ⟨"FareDesk$Cabin", "<init>", "(I)V"⟩ ∈ fd_T := fd_t1 55 rfl rfl
theorem fw1_56 : Cond.instanceMethod ⟨"FareDesk$Cabin", "<init>", "(I)V"⟩ ∈ fd_T := fd_t1 56 rfl rfl
theorem fw1_57 : Cond.code ⟨"FareDesk$Cabin", "<init>", "(I)V"⟩ prog_3_method_1_code 2 none ∈ fd_T := fd_t1 57 rfl rfl
theorem fw1_58 : Cond.methodLink "FareDesk$Cabin" 3 ⟨"java/lang/Object", "<init>", "()V"⟩ ∈ fd_T := fd_t1 58 rfl rfl
theorem fw1_59 : Cond.methodLink "FareDesk$Cabin" 15 ⟨"java/util/Arrays", "fill", "([II)V"⟩ ∈ fd_T := fd_t1 59 rfl rfl
theorem fw1_60 : Cond.fieldLink "FareDesk$Cabin" 9 "FareDesk$Cabin" "holders" "[I" ∈ fd_T := fd_t1 60 rfl rfl
theorem fw1_61 : Cond.fieldLink "FareDesk" 212 "FareDesk$Cabin" "holders" "[I" ∈ fd_T := fd_t1 61 rfl rfl
theorem fw1_62 : Cond.fieldLink "FareDesk$Cabin" 21 "FareDesk$Cabin" "free" "I" ∈ fd_T := fd_t1 62 rfl rfl
theorem fw1_63 : Cond.fieldLink "FareDesk" 171 "FareDesk$Cabin" "free" "I" ∈ fd_T := fd_t1 63 rfl rfl
theorem fw1_69 : Cond.instantiable "FareDesk$Booking" 9 ∈ fd_T := fd_t1 69 rfl rfl
theorem fw1_70 : Cond.methodLink "FareDesk" 40 ⟨"FareDesk$Booking", "<init>", "(I)V"⟩ ∈ fd_T := fd_t1 70 rfl rfl
theorem fw1_71 : Cond.instanceMethod ⟨"FareDesk$Booking", "<init>", "(I)V"⟩ ∈ fd_T := fd_t1 71 rfl rfl
theorem fw1_72 : Cond.code ⟨"FareDesk$Booking", "<init>", "(I)V"⟩ prog_2_method_1_code 2 none ∈ fd_T := fd_t1 72 rfl rfl
theorem fw1_73 : Cond.methodLink "FareDesk$Booking" 3 ⟨"java/lang/Object", "<init>", "()V"⟩ ∈ fd_T := fd_t1 73 rfl rfl
theorem fw1_74 : Cond.fieldLink "FareDesk$Booking" 15 "FareDesk$Booking" "number" "I" ∈ fd_T := fd_t1 74 rfl rfl
theorem fw1_75 : Cond.fieldLink "FareDesk$Cabin" 25 "FareDesk$Booking" "number" "I" ∈ fd_T := fd_t1 75 rfl rfl
theorem fw1_76 : Cond.fieldLink "FareDesk" 90 "FareDesk$Booking" "number" "I" ∈ fd_T := fd_t1 76 rfl rfl
theorem fw1_77 : Cond.fieldLink "FareDesk$Booking" 9 "FareDesk$Booking" "seats" "[I" ∈ fd_T := fd_t1 77 rfl rfl
theorem fw1_78 : Cond.fieldLink "FareDesk$Cabin" 30 "FareDesk$Booking" "seats" "[I" ∈ fd_T := fd_t1 78 rfl rfl
theorem fw1_79 : Cond.fieldLink "FareDesk" 207 "FareDesk$Booking" "seats" "[I" ∈ fd_T := fd_t1 79 rfl rfl
theorem fw1_80 : Cond.fieldLink "FareDesk$Booking" 25 "FareDesk$Booking" "seated" "I" ∈ fd_T := fd_t1 80 rfl rfl
theorem fw1_81 : Cond.fieldLink "FareDesk$Cabin" 33 "FareDesk$Booking" "seated" "I" ∈ fd_T := fd_t1 81 rfl rfl
theorem fw1_82 : Cond.fieldLink "FareDesk" 168 "FareDesk$Booking" "seated" "I" ∈ fd_T := fd_t1 82 rfl rfl
theorem fw1_83 : Cond.fieldLink "FareDesk$Booking" 19 "FareDesk$Booking" "state" "I" ∈ fd_T := fd_t1 83 rfl rfl
theorem fw1_84 : Cond.fieldLink "FareDesk" 94 "FareDesk$Booking" "state" "I" ∈ fd_T := fd_t1 84 rfl rfl
theorem fw1_85 : Cond.fieldLink "FareDesk$Fares" 37 "FareDesk$Booking" "fare" "I" ∈ fd_T := fd_t1 85 rfl rfl
theorem fw1_86 : Cond.fieldLink "FareDesk" 109 "FareDesk$Booking" "fare" "I" ∈ fd_T := fd_t1 86 rfl rfl
theorem fw1_87 : Cond.fieldLink "FareDesk$Booking" 22 "FareDesk$Booking" "places" "I" ∈ fd_T := fd_t1 87 rfl rfl
theorem fw1_88 : Cond.fieldLink "FareDesk$Fares" 43 "FareDesk$Booking" "places" "I" ∈ fd_T := fd_t1 88 rfl rfl
theorem fw1_89 : Cond.fieldLink "FareDesk" 106 "FareDesk$Booking" "places" "I" ∈ fd_T := fd_t1 89 rfl rfl
theorem fw1_90 : Cond.fieldLink "FareDesk$Booking" 28 "FareDesk$Booking" "paid" "I" ∈ fd_T := fd_t1 90 rfl rfl
theorem fw1_91 : Cond.fieldLink "FareDesk" 112 "FareDesk$Booking" "paid" "I" ∈ fd_T := fd_t1 91 rfl rfl
theorem fw1_92 : Cond.fieldLink "FareDesk" 246 "FareDesk$Booking" "ticks" "I" ∈ fd_T := fd_t1 92 rfl rfl
theorem fw1_93 : Cond.fieldLink "FareDesk" 204 "FareDesk$Booking" "expiry" "I" ∈ fd_T := fd_t1 93 rfl rfl
theorem fw1_113 : Cond.fieldLink "FareDesk" 29 "FareDesk" "fares" "LFareDesk$Fares;" ∈ fd_T := fd_t1 113 rfl rfl
theorem fw1_114 : Cond.fieldLink "FareDesk" 36 "FareDesk" "cabin" "LFareDesk$Cabin;" ∈ fd_T := fd_t1 114 rfl rfl
theorem fw1_115 : Cond.fieldLink "FareDesk" 11 "FareDesk" "bookings" "[LFareDesk$Booking;" ∈ fd_T := fd_t1 115 rfl rfl
theorem fw1_116 : Cond.fieldLink "FareDesk" 215 "FareDesk" "made" "I" ∈ fd_T := fd_t1 116 rfl rfl
theorem fw1_117 : Cond.fieldLink "FareDesk" 188 "FareDesk" "time" "I" ∈ fd_T := fd_t1 117 rfl rfl
theorem fw1_118 : Cond.fieldLink "FareDesk" 115 "FareDesk" "till" "I" ∈ fd_T := fd_t1 118 rfl rfl
theorem fw1_119 : Cond.fieldLink "FareDesk" 194 "FareDesk" "closed" "Z" ∈ fd_T := fd_t1 119 rfl rfl
theorem fw1_135 : Cond.methodLink "FareDeskLaw" 128 ⟨"FareDesk", "at", "(I)I"⟩ ∈ fd_T := fd_t1 135 rfl rfl
theorem fw1_136 : Cond.instanceMethod ⟨"FareDesk", "at", "(I)I"⟩ ∈ fd_T := fd_t1 136 rfl rfl
theorem fw1_137 : Cond.selects "FareDesk" ⟨"FareDesk", "at", "(I)I"⟩ ⟨"FareDesk", "at", "(I)I"⟩ ∈ fd_T := fd_t1 137 rfl rfl
theorem fw1_138 : Cond.code ⟨"FareDesk", "at", "(I)I"⟩ prog_1_method_16_code 2 (some .int) ∈ fd_T := fd_t1 138 rfl rfl
theorem fw1_139 : Cond.methodLink "FareDesk" 151 ⟨"FareDesk$Cabin", "hasSeat", "(I)Z"⟩ ∈ fd_T := fd_t1 139 rfl rfl
theorem fw1_140 : Cond.instanceMethod ⟨"FareDesk$Cabin", "hasSeat", "(I)Z"⟩ ∈ fd_T := fd_t1 140 rfl rfl
theorem fw1_141 : Cond.selects "FareDesk$Cabin" ⟨"FareDesk$Cabin", "hasSeat", "(I)Z"⟩ ⟨"FareDesk$Cabin", "hasSeat", "(I)Z"⟩ ∈ fd_T := fd_t1 141 rfl rfl
theorem fw1_142 : Cond.code ⟨"FareDesk$Cabin", "hasSeat", "(I)Z"⟩ prog_3_method_2_code 2 (some .boolean) ∈ fd_T := fd_t1 142 rfl rfl
theorem fw1_143 : Cond.methodLink "FareDeskLaw" 66 ⟨"FareDeskLaw", "cell", "([II)I"⟩ ∈ fd_T := fd_t1 143 rfl rfl
theorem fw1_144 : Cond.static ⟨"FareDeskLaw", "cell", "([II)I"⟩ ∈ fd_T := fd_t1 144 rfl rfl
theorem fw1_145 : Cond.code ⟨"FareDeskLaw", "cell", "([II)I"⟩ method_2_code 2 (some .int) ∈ fd_T := fd_t1 145 rfl rfl
theorem fw1_146 : Cond.methodLink "FareDeskLaw" 77 ⟨"FareDeskLaw", "limit", "(LFareDesk;II)I"⟩ ∈ fd_T := fd_t1 146 rfl rfl
theorem fw1_147 : Cond.static ⟨"FareDeskLaw", "limit", "(LFareDesk;II)I"⟩ ∈ fd_T := fd_t1 147 rfl rfl
theorem fw1_149 : Cond.classLink "FareDeskLaw" 13 "java/lang/IllegalArgumentException" ∈ fd_T := fd_t1 149 rfl rfl
theorem fw1_150 : Cond.classLink "FareDeskLaw" 15 "java/lang/IllegalStateException" ∈ fd_T := fd_t1 150 rfl rfl
theorem fw1_151 : Cond.methodLink "FareDeskLaw" 7 ⟨"FareDesk", "limit", "(II)V"⟩ ∈ fd_T := fd_t1 151 rfl rfl
theorem fw1_152 : Cond.instanceMethod ⟨"FareDesk", "limit", "(II)V"⟩ ∈ fd_T := fd_t1 152 rfl rfl
theorem fw1_153 : Cond.selects "FareDesk" ⟨"FareDesk", "limit", "(II)V"⟩ ⟨"FareDesk", "limit", "(II)V"⟩ ∈ fd_T := fd_t1 153 rfl rfl
theorem fw1_154 : Cond.code ⟨"FareDesk", "limit", "(II)V"⟩ prog_1_method_2_code 3 none ∈ fd_T := fd_t1 154 rfl rfl
theorem fw1_155 : Cond.methodLink "FareDesk" 41 ⟨"FareDesk", "requireFare", "(I)V"⟩ ∈ fd_T := fd_t1 155 rfl rfl
theorem fw1_157 : Cond.instanceMethod ⟨"FareDesk", "requireFare", "(I)V"⟩ ∈ fd_T := fd_t1 157 rfl rfl
theorem fw1_158 : Cond.code ⟨"FareDesk", "requireFare", "(I)V"⟩ prog_1_method_18_code 2 none ∈ fd_T := fd_t1 158 rfl rfl
theorem fw1_159 : Cond.classLink "FareDesk" 48 "java/lang/IllegalArgumentException" ∈ fd_T := fd_t1 159 rfl rfl
theorem fw1_160 : Cond.instantiable "java/lang/IllegalArgumentException" 6 ∈ fd_T := fd_t1 160 rfl rfl
theorem fw1_168 : Cond.selects "java/lang/IllegalArgumentException" ⟨"java/lang/Throwable", "fillInStackTrace", "(I)Ljava/lang/Throwable;"⟩ ⟨"java/lang/Throwable", "fillInStackTrace", "(I)Ljava/lang/Throwable;"⟩ ∈ fd_T := fd_t1 168 rfl rfl
theorem fw1_169 : Cond.selects "java/lang/IllegalArgumentException" ⟨"java/lang/Throwable", "fillInStackTrace", "()Ljava/lang/Throwable;"⟩ ⟨"java/lang/Throwable", "fillInStackTrace", "()Ljava/lang/Throwable;"⟩ ∈ fd_T := fd_t1 169 rfl rfl
theorem fw1_180 : Cond.fieldLink "java/lang/Throwable" 198 "java/lang/Throwable" "backtrace" "Ljava/lang/Object;" ∈ fd_T := fd_t1 180 rfl rfl
theorem fw1_182 : Cond.instanceMethod ⟨"java/lang/Throwable", "<init>", "()V"⟩ ∈ fd_T := fd_t1 182 rfl rfl
theorem fw1_183 : Cond.code ⟨"java/lang/Throwable", "<init>", "()V"⟩ prog_13_method_1_code 1 none ∈ fd_T := fd_t1 183 rfl rfl
theorem fw1_184 : Cond.methodLink "java/lang/Throwable" 1 ⟨"java/lang/Object", "<init>", "()V"⟩ ∈ fd_T := fd_t1 184 rfl rfl
theorem fw1_185 : Cond.fieldLink "java/lang/Throwable" 13 "java/lang/Throwable" "UNASSIGNED_STACK" "[Ljava/lang/StackTraceElement;" ∈ fd_T := fd_t1 185 rfl rfl
theorem fw1_187 : Cond.fieldLink "java/lang/Throwable" 20 "java/lang/Throwable" "SUPPRESSED_SENTINEL" "Ljava/util/List;" ∈ fd_T := fd_t1 187 rfl rfl
theorem fw1_189 : Cond.methodLink "java/lang/Throwable" 27 ⟨"java/lang/Throwable", "fillInStackTrace", "()Ljava/lang/Throwable;"⟩ ∈ fd_T := fd_t1 189 rfl rfl
theorem fw1_190 : Cond.instanceMethod ⟨"java/lang/Throwable", "fillInStackTrace", "()Ljava/lang/Throwable;"⟩ ∈ fd_T := fd_t1 190 rfl rfl
theorem fw1_192 : Cond.selects "java/lang/IllegalStateException" ⟨"java/lang/Throwable", "fillInStackTrace", "()Ljava/lang/Throwable;"⟩ ⟨"java/lang/Throwable", "fillInStackTrace", "()Ljava/lang/Throwable;"⟩ ∈ fd_T := fd_t1 192 rfl rfl
theorem fw1_193 : Cond.selects "java/lang/UnsupportedOperationException" ⟨"java/lang/Throwable", "fillInStackTrace", "()Ljava/lang/Throwable;"⟩ ⟨"java/lang/Throwable", "fillInStackTrace", "()Ljava/lang/Throwable;"⟩ ∈ fd_T := fd_t1 193 rfl rfl
theorem fw1_195 : Cond.methodLink "java/lang/Throwable" 202 ⟨"java/lang/Throwable", "fillInStackTrace", "(I)Ljava/lang/Throwable;"⟩ ∈ fd_T := fd_t1 195 rfl rfl
theorem fw1_197 : Cond.instanceMethod ⟨"java/lang/Throwable", "fillInStackTrace", "(I)Ljava/lang/Throwable;"⟩ ∈ fd_T := fd_t1 197 rfl rfl
theorem fw1_198 : Cond.instantiable "java/lang/Throwable" 6 ∈ fd_T := fd_t1 198 rfl rfl
theorem fw1_201 : Cond.methodLink "FareDesk" 52 ⟨"java/lang/IllegalArgumentException", "<init>", "(Ljava/lang/String;)V"⟩ ∈ fd_T := fd_t1 201 rfl rfl
theorem fw1_202 : Cond.instanceMethod ⟨"java/lang/IllegalArgumentException", "<init>", "(Ljava/lang/String;)V"⟩ ∈ fd_T := fd_t1 202 rfl rfl
theorem fw1_203 : Cond.code ⟨"java/lang/IllegalArgumentException", "<init>", "(Ljava/lang/String;)V"⟩ prog_8_method_2_code 2 none ∈ fd_T := fd_t1 203 rfl rfl
theorem fw1_204 : Cond.methodLink "java/lang/IllegalArgumentException" 7 ⟨"java/lang/RuntimeException", "<init>", "(Ljava/lang/String;)V"⟩ ∈ fd_T := fd_t1 204 rfl rfl
theorem fw1_205 : Cond.instanceMethod ⟨"java/lang/RuntimeException", "<init>", "(Ljava/lang/String;)V"⟩ ∈ fd_T := fd_t1 205 rfl rfl
theorem fw1_206 : Cond.code ⟨"java/lang/RuntimeException", "<init>", "(Ljava/lang/String;)V"⟩ prog_11_method_2_code 2 none ∈ fd_T := fd_t1 206 rfl rfl
theorem fw1_207 : Cond.methodLink "java/lang/RuntimeException" 7 ⟨"java/lang/Exception", "<init>", "(Ljava/lang/String;)V"⟩ ∈ fd_T := fd_t1 207 rfl rfl
theorem fw1_208 : Cond.instanceMethod ⟨"java/lang/Exception", "<init>", "(Ljava/lang/String;)V"⟩ ∈ fd_T := fd_t1 208 rfl rfl
theorem fw1_209 : Cond.code ⟨"java/lang/Exception", "<init>", "(Ljava/lang/String;)V"⟩ prog_7_method_2_code 2 none ∈ fd_T := fd_t1 209 rfl rfl
theorem fw1_210 : Cond.methodLink "java/lang/Exception" 7 ⟨"java/lang/Throwable", "<init>", "(Ljava/lang/String;)V"⟩ ∈ fd_T := fd_t1 210 rfl rfl
theorem fw1_211 : Cond.instanceMethod ⟨"java/lang/Throwable", "<init>", "(Ljava/lang/String;)V"⟩ ∈ fd_T := fd_t1 211 rfl rfl
theorem fw1_212 : Cond.code ⟨"java/lang/Throwable", "<init>", "(Ljava/lang/String;)V"⟩ prog_13_method_2_code 2 none ∈ fd_T := fd_t1 212 rfl rfl
theorem fw1_214 : Cond.fieldLink "java/lang/Throwable" 31 "java/lang/Throwable" "detailMessage" "Ljava/lang/String;" ∈ fd_T := fd_t1 214 rfl rfl
theorem fw1_215 : Cond.fieldLink "java/lang/Throwable" 7 "java/lang/Throwable" "cause" "Ljava/lang/Throwable;" ∈ fd_T := fd_t1 215 rfl rfl
theorem fw1_216 : Cond.fieldLink "java/lang/Throwable" 17 "java/lang/Throwable" "stackTrace" "[Ljava/lang/StackTraceElement;" ∈ fd_T := fd_t1 216 rfl rfl
theorem fw1_217 : Cond.fieldLink "java/lang/Throwable" 24 "java/lang/Throwable" "suppressedExceptions" "Ljava/util/List;" ∈ fd_T := fd_t1 217 rfl rfl
theorem fw1_226 : Cond.arrayClass .byte ∈ fd_T := fd_t1 226 rfl rfl
theorem fw1_227 : Cond.methodLink "FareDesk" 44 ⟨"FareDesk$Fares", "mayLimit", "(II)Z"⟩ ∈ fd_T := fd_t1 227 rfl rfl
theorem fw1_228 : Cond.instanceMethod ⟨"FareDesk$Fares", "mayLimit", "(II)Z"⟩ ∈ fd_T := fd_t1 228 rfl rfl
theorem fw1_229 : Cond.selects "FareDesk$Fares" ⟨"FareDesk$Fares", "mayLimit", "(II)Z"⟩ ⟨"FareDesk$Fares", "mayLimit", "(II)Z"⟩ ∈ fd_T := fd_t1 229 rfl rfl
theorem fw1_230 : Cond.code ⟨"FareDesk$Fares", "mayLimit", "(II)Z"⟩ prog_4_method_2_code 3 (some .boolean) ∈ fd_T := fd_t1 230 rfl rfl
theorem fw1_232 : Cond.methodLink "FareDesk" 55 ⟨"FareDesk", "requireOpen", "()V"⟩ ∈ fd_T := fd_t1 232 rfl rfl
theorem fw1_234 : Cond.instanceMethod ⟨"FareDesk", "requireOpen", "()V"⟩ ∈ fd_T := fd_t1 234 rfl rfl
theorem fw1_235 : Cond.code ⟨"FareDesk", "requireOpen", "()V"⟩ prog_1_method_19_code 1 none ∈ fd_T := fd_t1 235 rfl rfl
theorem fw1_236 : Cond.classLink "FareDesk" 101 "java/lang/IllegalStateException" ∈ fd_T := fd_t1 236 rfl rfl
theorem fw1_237 : Cond.instantiable "java/lang/IllegalStateException" 6 ∈ fd_T := fd_t1 237 rfl rfl
theorem fw1_239 : Cond.selects "java/lang/IllegalStateException" ⟨"java/lang/Throwable", "fillInStackTrace", "(I)Ljava/lang/Throwable;"⟩ ⟨"java/lang/Throwable", "fillInStackTrace", "(I)Ljava/lang/Throwable;"⟩ ∈ fd_T := fd_t1 239 rfl rfl
theorem fw2_6 : Cond.methodLink "FareDesk" 105 ⟨"java/lang/IllegalStateException", "<init>", "(Ljava/lang/String;)V"⟩ ∈ fd_T := fd_t2 6 rfl rfl
theorem fw2_7 : Cond.instanceMethod ⟨"java/lang/IllegalStateException", "<init>", "(Ljava/lang/String;)V"⟩ ∈ fd_T := fd_t2 7 rfl rfl
theorem fw2_8 : Cond.code ⟨"java/lang/IllegalStateException", "<init>", "(Ljava/lang/String;)V"⟩ prog_9_method_2_code 2 none ∈ fd_T := fd_t2 8 rfl rfl
theorem fw2_9 : Cond.methodLink "java/lang/IllegalStateException" 7 ⟨"java/lang/RuntimeException", "<init>", "(Ljava/lang/String;)V"⟩ ∈ fd_T := fd_t2 9 rfl rfl
theorem fw2_12 : Cond.methodLink "FareDesk" 62 ⟨"FareDesk", "serveWaiting", "()V"⟩ ∈ fd_T := fd_t2 12 rfl rfl
theorem fw2_14 : Cond.instanceMethod ⟨"FareDesk", "serveWaiting", "()V"⟩ ∈ fd_T := fd_t2 14 rfl rfl
theorem fw2_15 : Cond.code ⟨"FareDesk", "serveWaiting", "()V"⟩ prog_1_method_27_code 3 none ∈ fd_T := fd_t2 15 rfl rfl
theorem fw2_16 : Cond.methodLink "FareDesk" 70 ⟨"FareDesk$Fares", "roomIn", "(I)I"⟩ ∈ fd_T := fd_t2 16 rfl rfl
theorem fw2_17 : Cond.instanceMethod ⟨"FareDesk$Fares", "roomIn", "(I)I"⟩ ∈ fd_T := fd_t2 17 rfl rfl
theorem fw2_18 : Cond.selects "FareDesk$Fares" ⟨"FareDesk$Fares", "roomIn", "(I)I"⟩ ⟨"FareDesk$Fares", "roomIn", "(I)I"⟩ ∈ fd_T := fd_t2 18 rfl rfl
theorem fw2_19 : Cond.code ⟨"FareDesk$Fares", "roomIn", "(I)I"⟩ prog_4_method_4_code 4 (some .int) ∈ fd_T := fd_t2 19 rfl rfl
theorem fw2_20 : Cond.methodLink "FareDesk$Fares" 27 ⟨"FareDesk$Fares", "shareFrom", "(I)I"⟩ ∈ fd_T := fd_t2 20 rfl rfl
theorem fw2_21 : Cond.instanceMethod ⟨"FareDesk$Fares", "shareFrom", "(I)I"⟩ ∈ fd_T := fd_t2 21 rfl rfl
theorem fw2_22 : Cond.selects "FareDesk$Fares" ⟨"FareDesk$Fares", "shareFrom", "(I)I"⟩ ⟨"FareDesk$Fares", "shareFrom", "(I)I"⟩ ∈ fd_T := fd_t2 22 rfl rfl
theorem fw2_23 : Cond.code ⟨"FareDesk$Fares", "shareFrom", "(I)I"⟩ prog_4_method_3_code 4 (some .int) ∈ fd_T := fd_t2 23 rfl rfl
theorem fw2_24 : Cond.methodLink "FareDesk$Fares" 31 ⟨"java/lang/Math", "min", "(II)I"⟩ ∈ fd_T := fd_t2 24 rfl rfl
theorem fw2_25 : Cond.methodLink "FareDesk" 86 ⟨"FareDesk", "startHolding", "(LFareDesk$Booking;)V"⟩ ∈ fd_T := fd_t2 25 rfl rfl
theorem fw2_27 : Cond.instanceMethod ⟨"FareDesk", "startHolding", "(LFareDesk$Booking;)V"⟩ ∈ fd_T := fd_t2 27 rfl rfl
theorem fw2_28 : Cond.code ⟨"FareDesk", "startHolding", "(LFareDesk$Booking;)V"⟩ prog_1_method_26_code 2 none ∈ fd_T := fd_t2 28 rfl rfl
theorem fw2_29 : Cond.methodLink "FareDeskLaw" 84 ⟨"FareDeskLaw", "price", "(LFareDesk;II)I"⟩ ∈ fd_T := fd_t2 29 rfl rfl
theorem fw2_30 : Cond.static ⟨"FareDeskLaw", "price", "(LFareDesk;II)I"⟩ ∈ fd_T := fd_t2 30 rfl rfl
theorem fw2_32 : Cond.methodLink "FareDeskLaw" 17 ⟨"FareDesk", "price", "(II)V"⟩ ∈ fd_T := fd_t2 32 rfl rfl
theorem fw2_33 : Cond.instanceMethod ⟨"FareDesk", "price", "(II)V"⟩ ∈ fd_T := fd_t2 33 rfl rfl
theorem fw2_34 : Cond.selects "FareDesk" ⟨"FareDesk", "price", "(II)V"⟩ ⟨"FareDesk", "price", "(II)V"⟩ ∈ fd_T := fd_t2 34 rfl rfl
theorem fw2_35 : Cond.code ⟨"FareDesk", "price", "(II)V"⟩ prog_1_method_3_code 3 none ∈ fd_T := fd_t2 35 rfl rfl
theorem fw2_37 : Cond.methodLink "FareDeskLaw" 87 ⟨"FareDeskLaw", "room", "(LFareDesk;I[J)I"⟩ ∈ fd_T := fd_t2 37 rfl rfl
theorem fw2_38 : Cond.static ⟨"FareDeskLaw", "room", "(LFareDesk;I[J)I"⟩ ∈ fd_T := fd_t2 38 rfl rfl
theorem fw2_40 : Cond.methodLink "FareDeskLaw" 20 ⟨"FareDesk", "room", "(I)I"⟩ ∈ fd_T := fd_t2 40 rfl rfl
theorem fw2_41 : Cond.instanceMethod ⟨"FareDesk", "room", "(I)I"⟩ ∈ fd_T := fd_t2 41 rfl rfl
theorem fw2_42 : Cond.selects "FareDesk" ⟨"FareDesk", "room", "(I)I"⟩ ⟨"FareDesk", "room", "(I)I"⟩ ∈ fd_T := fd_t2 42 rfl rfl
theorem fw2_43 : Cond.code ⟨"FareDesk", "room", "(I)I"⟩ prog_1_method_4_code 2 (some .int) ∈ fd_T := fd_t2 43 rfl rfl
theorem fw2_44 : Cond.methodLink "FareDeskLaw" 91 ⟨"FareDeskLaw", "hold", "(LFareDesk;III[J)I"⟩ ∈ fd_T := fd_t2 44 rfl rfl
theorem fw2_45 : Cond.static ⟨"FareDeskLaw", "hold", "(LFareDesk;III[J)I"⟩ ∈ fd_T := fd_t2 45 rfl rfl
theorem fw2_47 : Cond.classLink "FareDeskLaw" 28 "java/lang/UnsupportedOperationException" ∈ fd_T := fd_t2 47 rfl rfl
theorem fw2_48 : Cond.methodLink "FareDeskLaw" 24 ⟨"FareDesk", "hold", "(III)I"⟩ ∈ fd_T := fd_t2 48 rfl rfl
theorem fw2_49 : Cond.instanceMethod ⟨"FareDesk", "hold", "(III)I"⟩ ∈ fd_T := fd_t2 49 rfl rfl
theorem fw2_50 : Cond.selects "FareDesk" ⟨"FareDesk", "hold", "(III)I"⟩ ⟨"FareDesk", "hold", "(III)I"⟩ ∈ fd_T := fd_t2 50 rfl rfl
theorem fw2_51 : Cond.code ⟨"FareDesk", "hold", "(III)I"⟩ prog_1_method_5_code 5 (some .int) ∈ fd_T := fd_t2 51 rfl rfl
theorem fw2_52 : Cond.methodLink "FareDesk" 74 ⟨"FareDesk", "requireNewBooking", "(III)V"⟩ ∈ fd_T := fd_t2 52 rfl rfl
theorem fw2_54 : Cond.instanceMethod ⟨"FareDesk", "requireNewBooking", "(III)V"⟩ ∈ fd_T := fd_t2 54 rfl rfl
theorem fw2_55 : Cond.code ⟨"FareDesk", "requireNewBooking", "(III)V"⟩ prog_1_method_20_code 4 none ∈ fd_T := fd_t2 55 rfl rfl
theorem fw2_59 : Cond.methodLink "FareDesk" 78 ⟨"FareDesk", "requireRoom", "(II)V"⟩ ∈ fd_T := fd_t2 59 rfl rfl
theorem fw2_61 : Cond.instanceMethod ⟨"FareDesk", "requireRoom", "(II)V"⟩ ∈ fd_T := fd_t2 61 rfl rfl
theorem fw2_62 : Cond.code ⟨"FareDesk", "requireRoom", "(II)V"⟩ prog_1_method_21_code 3 none ∈ fd_T := fd_t2 62 rfl rfl
theorem fw2_63 : Cond.classLink "FareDesk" 146 "java/lang/UnsupportedOperationException" ∈ fd_T := fd_t2 63 rfl rfl
theorem fw2_64 : Cond.instantiable "java/lang/UnsupportedOperationException" 6 ∈ fd_T := fd_t2 64 rfl rfl
theorem fw2_66 : Cond.selects "java/lang/UnsupportedOperationException" ⟨"java/lang/Throwable", "fillInStackTrace", "(I)Ljava/lang/Throwable;"⟩ ⟨"java/lang/Throwable", "fillInStackTrace", "(I)Ljava/lang/Throwable;"⟩ ∈ fd_T := fd_t2 66 rfl rfl
theorem fw2_73 : Cond.methodLink "FareDesk" 150 ⟨"java/lang/UnsupportedOperationException", "<init>", "(Ljava/lang/String;)V"⟩ ∈ fd_T := fd_t2 73 rfl rfl
theorem fw2_74 : Cond.instanceMethod ⟨"java/lang/UnsupportedOperationException", "<init>", "(Ljava/lang/String;)V"⟩ ∈ fd_T := fd_t2 74 rfl rfl
theorem fw2_75 : Cond.code ⟨"java/lang/UnsupportedOperationException", "<init>", "(Ljava/lang/String;)V"⟩ prog_14_method_2_code 2 none ∈ fd_T := fd_t2 75 rfl rfl
theorem fw2_76 : Cond.methodLink "java/lang/UnsupportedOperationException" 7 ⟨"java/lang/RuntimeException", "<init>", "(Ljava/lang/String;)V"⟩ ∈ fd_T := fd_t2 76 rfl rfl
theorem fw2_79 : Cond.methodLink "FareDesk" 82 ⟨"FareDesk", "newBooking", "(III)LFareDesk$Booking;"⟩ ∈ fd_T := fd_t2 79 rfl rfl
theorem fw2_81 : Cond.instanceMethod ⟨"FareDesk", "newBooking", "(III)LFareDesk$Booking;"⟩ ∈ fd_T := fd_t2 81 rfl rfl
theorem fw2_82 : Cond.code ⟨"FareDesk", "newBooking", "(III)LFareDesk$Booking;"⟩ prog_1_method_25_code 5 (some (.object "FareDesk$Booking")) ∈ fd_T := fd_t2 82 rfl rfl
theorem fw2_83 : Cond.methodLink "FareDeskLaw" 95 ⟨"FareDeskLaw", "join", "(LFareDesk;III[J)I"⟩ ∈ fd_T := fd_t2 83 rfl rfl
theorem fw2_84 : Cond.static ⟨"FareDeskLaw", "join", "(LFareDesk;III[J)I"⟩ ∈ fd_T := fd_t2 84 rfl rfl
theorem fw2_86 : Cond.methodLink "FareDeskLaw" 30 ⟨"FareDesk", "join", "(III)I"⟩ ∈ fd_T := fd_t2 86 rfl rfl
theorem fw2_87 : Cond.instanceMethod ⟨"FareDesk", "join", "(III)I"⟩ ∈ fd_T := fd_t2 87 rfl rfl
theorem fw2_88 : Cond.selects "FareDesk" ⟨"FareDesk", "join", "(III)I"⟩ ⟨"FareDesk", "join", "(III)I"⟩ ∈ fd_T := fd_t2 88 rfl rfl
theorem fw2_89 : Cond.code ⟨"FareDesk", "join", "(III)I"⟩ prog_1_method_6_code 5 (some .int) ∈ fd_T := fd_t2 89 rfl rfl
theorem fw2_90 : Cond.methodLink "FareDeskLaw" 98 ⟨"FareDeskLaw", "confirm", "(LFareDesk;I[J)I"⟩ ∈ fd_T := fd_t2 90 rfl rfl
theorem fw2_91 : Cond.static ⟨"FareDeskLaw", "confirm", "(LFareDesk;I[J)I"⟩ ∈ fd_T := fd_t2 91 rfl rfl
theorem fw2_93 : Cond.methodLink "FareDeskLaw" 33 ⟨"FareDesk", "confirm", "(I)I"⟩ ∈ fd_T := fd_t2 93 rfl rfl
theorem fw2_94 : Cond.instanceMethod ⟨"FareDesk", "confirm", "(I)I"⟩ ∈ fd_T := fd_t2 94 rfl rfl
theorem fw2_95 : Cond.selects "FareDesk" ⟨"FareDesk", "confirm", "(I)I"⟩ ⟨"FareDesk", "confirm", "(I)I"⟩ ∈ fd_T := fd_t2 95 rfl rfl
theorem fw2_96 : Cond.code ⟨"FareDesk", "confirm", "(I)I"⟩ prog_1_method_7_code 3 (some .int) ∈ fd_T := fd_t2 96 rfl rfl
theorem fw2_97 : Cond.methodLink "FareDesk" 97 ⟨"FareDesk", "find", "(I)LFareDesk$Booking;"⟩ ∈ fd_T := fd_t2 97 rfl rfl
theorem fw2_99 : Cond.instanceMethod ⟨"FareDesk", "find", "(I)LFareDesk$Booking;"⟩ ∈ fd_T := fd_t2 99 rfl rfl
theorem fw2_100 : Cond.code ⟨"FareDesk", "find", "(I)LFareDesk$Booking;"⟩ prog_1_method_24_code 2 (some (.object "FareDesk$Booking")) ∈ fd_T := fd_t2 100 rfl rfl
theorem fw2_103 : Cond.methodLink "FareDeskLaw" 101 ⟨"FareDeskLaw", "cancel", "(LFareDesk;I[J)I"⟩ ∈ fd_T := fd_t2 103 rfl rfl
theorem fw2_104 : Cond.static ⟨"FareDeskLaw", "cancel", "(LFareDesk;I[J)I"⟩ ∈ fd_T := fd_t2 104 rfl rfl
theorem fw2_106 : Cond.methodLink "FareDeskLaw" 36 ⟨"FareDesk", "cancel", "(I)I"⟩ ∈ fd_T := fd_t2 106 rfl rfl
theorem fw2_107 : Cond.instanceMethod ⟨"FareDesk", "cancel", "(I)I"⟩ ∈ fd_T := fd_t2 107 rfl rfl
theorem fw2_108 : Cond.selects "FareDesk" ⟨"FareDesk", "cancel", "(I)I"⟩ ⟨"FareDesk", "cancel", "(I)I"⟩ ∈ fd_T := fd_t2 108 rfl rfl
theorem fw2_109 : Cond.code ⟨"FareDesk", "cancel", "(I)I"⟩ prog_1_method_8_code 4 (some .int) ∈ fd_T := fd_t2 109 rfl rfl
theorem fw2_110 : Cond.methodLink "FareDesk" 118 ⟨"FareDesk", "requireCountingOrWaiting", "(LFareDesk$Booking;)V"⟩ ∈ fd_T := fd_t2 110 rfl rfl
theorem fw2_112 : Cond.instanceMethod ⟨"FareDesk", "requireCountingOrWaiting", "(LFareDesk$Booking;)V"⟩ ∈ fd_T := fd_t2 112 rfl rfl
theorem fw2_113 : Cond.code ⟨"FareDesk", "requireCountingOrWaiting", "(LFareDesk$Booking;)V"⟩ prog_1_method_22_code 2 none ∈ fd_T := fd_t2 113 rfl rfl
theorem fw2_114 : Cond.methodLink "FareDesk" 131 ⟨"FareDesk$Booking", "isCounting", "()Z"⟩ ∈ fd_T := fd_t2 114 rfl rfl
theorem fw2_115 : Cond.instanceMethod ⟨"FareDesk$Booking", "isCounting", "()Z"⟩ ∈ fd_T := fd_t2 115 rfl rfl
theorem fw2_116 : Cond.selects "FareDesk$Booking" ⟨"FareDesk$Booking", "isCounting", "()Z"⟩ ⟨"FareDesk$Booking", "isCounting", "()Z"⟩ ∈ fd_T := fd_t2 116 rfl rfl
theorem fw2_117 : Cond.code ⟨"FareDesk$Booking", "isCounting", "()Z"⟩ prog_2_method_2_code 1 (some .boolean) ∈ fd_T := fd_t2 117 rfl rfl
theorem fw2_119 : Cond.methodLink "FareDesk" 121 ⟨"FareDesk", "payBack", "(LFareDesk$Booking;I)I"⟩ ∈ fd_T := fd_t2 119 rfl rfl
theorem fw2_121 : Cond.instanceMethod ⟨"FareDesk", "payBack", "(LFareDesk$Booking;I)I"⟩ ∈ fd_T := fd_t2 121 rfl rfl
theorem fw2_122 : Cond.code ⟨"FareDesk", "payBack", "(LFareDesk$Booking;I)I"⟩ prog_1_method_29_code 5 (some .int) ∈ fd_T := fd_t2 122 rfl rfl
theorem fw2_123 : Cond.methodLink "FareDesk" 249 ⟨"FareDesk$Booking", "paidFor", "(I)I"⟩ ∈ fd_T := fd_t2 123 rfl rfl
theorem fw2_124 : Cond.instanceMethod ⟨"FareDesk$Booking", "paidFor", "(I)I"⟩ ∈ fd_T := fd_t2 124 rfl rfl
theorem fw2_125 : Cond.selects "FareDesk$Booking" ⟨"FareDesk$Booking", "paidFor", "(I)I"⟩ ⟨"FareDesk$Booking", "paidFor", "(I)I"⟩ ∈ fd_T := fd_t2 125 rfl rfl
theorem fw2_126 : Cond.code ⟨"FareDesk$Booking", "paidFor", "(I)I"⟩ prog_2_method_4_code 2 (some .int) ∈ fd_T := fd_t2 126 rfl rfl
theorem fw2_127 : Cond.methodLink "FareDesk" 252 ⟨"FareDesk$Fares", "partBack", "(II)I"⟩ ∈ fd_T := fd_t2 127 rfl rfl
theorem fw2_128 : Cond.instanceMethod ⟨"FareDesk$Fares", "partBack", "(II)I"⟩ ∈ fd_T := fd_t2 128 rfl rfl
theorem fw2_129 : Cond.selects "FareDesk$Fares" ⟨"FareDesk$Fares", "partBack", "(II)I"⟩ ⟨"FareDesk$Fares", "partBack", "(II)I"⟩ ∈ fd_T := fd_t2 129 rfl rfl
theorem fw2_130 : Cond.code ⟨"FareDesk$Fares", "partBack", "(II)I"⟩ prog_4_method_6_code 3 (some .int) ∈ fd_T := fd_t2 130 rfl rfl
theorem fw2_131 : Cond.methodLink "FareDesk" 125 ⟨"FareDesk", "giveUp", "(LFareDesk$Booking;I)V"⟩ ∈ fd_T := fd_t2 131 rfl rfl
theorem fw2_133 : Cond.instanceMethod ⟨"FareDesk", "giveUp", "(LFareDesk$Booking;I)V"⟩ ∈ fd_T := fd_t2 133 rfl rfl
theorem fw2_134 : Cond.code ⟨"FareDesk", "giveUp", "(LFareDesk$Booking;I)V"⟩ prog_1_method_30_code 3 none ∈ fd_T := fd_t2 134 rfl rfl
theorem fw2_135 : Cond.methodLink "FareDesk" 138 ⟨"FareDesk$Cabin", "takeAllBut", "(LFareDesk$Booking;I)V"⟩ ∈ fd_T := fd_t2 135 rfl rfl
theorem fw2_136 : Cond.instanceMethod ⟨"FareDesk$Cabin", "takeAllBut", "(LFareDesk$Booking;I)V"⟩ ∈ fd_T := fd_t2 136 rfl rfl
theorem fw2_137 : Cond.selects "FareDesk$Cabin" ⟨"FareDesk$Cabin", "takeAllBut", "(LFareDesk$Booking;I)V"⟩ ⟨"FareDesk$Cabin", "takeAllBut", "(LFareDesk$Booking;I)V"⟩ ∈ fd_T := fd_t2 137 rfl rfl
theorem fw2_138 : Cond.code ⟨"FareDesk$Cabin", "takeAllBut", "(LFareDesk$Booking;I)V"⟩ prog_3_method_6_code 3 none ∈ fd_T := fd_t2 138 rfl rfl
theorem fw2_139 : Cond.methodLink "FareDeskLaw" 104 ⟨"FareDeskLaw", "shrink", "(LFareDesk;II[J)I"⟩ ∈ fd_T := fd_t2 139 rfl rfl
theorem fw2_140 : Cond.static ⟨"FareDeskLaw", "shrink", "(LFareDesk;II[J)I"⟩ ∈ fd_T := fd_t2 140 rfl rfl
theorem fw2_142 : Cond.methodLink "FareDeskLaw" 39 ⟨"FareDesk", "shrink", "(II)I"⟩ ∈ fd_T := fd_t2 142 rfl rfl
theorem fw2_143 : Cond.instanceMethod ⟨"FareDesk", "shrink", "(II)I"⟩ ∈ fd_T := fd_t2 143 rfl rfl
theorem fw2_144 : Cond.selects "FareDesk" ⟨"FareDesk", "shrink", "(II)I"⟩ ⟨"FareDesk", "shrink", "(II)I"⟩ ∈ fd_T := fd_t2 144 rfl rfl
theorem fw2_145 : Cond.code ⟨"FareDesk", "shrink", "(II)I"⟩ prog_1_method_9_code 5 (some .int) ∈ fd_T := fd_t2 145 rfl rfl
theorem fw2_147 : Cond.methodLink "FareDeskLaw" 108 ⟨"FareDeskLaw", "change", "(LFareDesk;II)I"⟩ ∈ fd_T := fd_t2 147 rfl rfl
theorem fw2_148 : Cond.static ⟨"FareDeskLaw", "change", "(LFareDesk;II)I"⟩ ∈ fd_T := fd_t2 148 rfl rfl
theorem fw2_150 : Cond.methodLink "FareDeskLaw" 43 ⟨"FareDesk", "change", "(II)V"⟩ ∈ fd_T := fd_t2 150 rfl rfl
theorem fw2_151 : Cond.instanceMethod ⟨"FareDesk", "change", "(II)V"⟩ ∈ fd_T := fd_t2 151 rfl rfl
theorem fw2_152 : Cond.selects "FareDesk" ⟨"FareDesk", "change", "(II)V"⟩ ⟨"FareDesk", "change", "(II)V"⟩ ∈ fd_T := fd_t2 152 rfl rfl
theorem fw2_153 : Cond.code ⟨"FareDesk", "change", "(II)V"⟩ prog_1_method_10_code 4 none ∈ fd_T := fd_t2 153 rfl rfl
theorem fw2_155 : Cond.methodLink "FareDesk" 143 ⟨"FareDesk$Fares", "roomWithout", "(LFareDesk$Booking;I)I"⟩ ∈ fd_T := fd_t2 155 rfl rfl
theorem fw2_156 : Cond.instanceMethod ⟨"FareDesk$Fares", "roomWithout", "(LFareDesk$Booking;I)I"⟩ ∈ fd_T := fd_t2 156 rfl rfl
theorem fw2_157 : Cond.selects "FareDesk$Fares" ⟨"FareDesk$Fares", "roomWithout", "(LFareDesk$Booking;I)I"⟩ ⟨"FareDesk$Fares", "roomWithout", "(LFareDesk$Booking;I)I"⟩ ∈ fd_T := fd_t2 157 rfl rfl
theorem fw2_158 : Cond.code ⟨"FareDesk$Fares", "roomWithout", "(LFareDesk$Booking;I)I"⟩ prog_4_method_5_code 4 (some .int) ∈ fd_T := fd_t2 158 rfl rfl
theorem fw2_159 : Cond.methodLink "FareDesk$Fares" 46 ⟨"FareDesk$Fares", "roomIn", "(I)I"⟩ ∈ fd_T := fd_t2 159 rfl rfl
theorem fw2_161 : Cond.methodLink "FareDeskLaw" 111 ⟨"FareDeskLaw", "seat", "(LFareDesk;II[J)I"⟩ ∈ fd_T := fd_t2 161 rfl rfl
theorem fw2_162 : Cond.static ⟨"FareDeskLaw", "seat", "(LFareDesk;II[J)I"⟩ ∈ fd_T := fd_t2 162 rfl rfl
theorem fw2_164 : Cond.methodLink "FareDeskLaw" 46 ⟨"FareDesk", "seat", "(II)I"⟩ ∈ fd_T := fd_t2 164 rfl rfl
theorem fw2_165 : Cond.instanceMethod ⟨"FareDesk", "seat", "(II)I"⟩ ∈ fd_T := fd_t2 165 rfl rfl
theorem fw2_166 : Cond.selects "FareDesk" ⟨"FareDesk", "seat", "(II)I"⟩ ⟨"FareDesk", "seat", "(II)I"⟩ ∈ fd_T := fd_t2 166 rfl rfl
theorem fw2_167 : Cond.code ⟨"FareDesk", "seat", "(II)I"⟩ prog_1_method_11_code 4 (some .int) ∈ fd_T := fd_t2 167 rfl rfl
theorem fw2_169 : Cond.methodLink "FareDesk" 157 ⟨"FareDesk", "requireSeatsMissing", "(LFareDesk$Booking;)V"⟩ ∈ fd_T := fd_t2 169 rfl rfl
theorem fw2_171 : Cond.instanceMethod ⟨"FareDesk", "requireSeatsMissing", "(LFareDesk$Booking;)V"⟩ ∈ fd_T := fd_t2 171 rfl rfl
theorem fw2_172 : Cond.code ⟨"FareDesk", "requireSeatsMissing", "(LFareDesk$Booking;)V"⟩ prog_1_method_23_code 2 none ∈ fd_T := fd_t2 172 rfl rfl
theorem fw2_174 : Cond.methodLink "FareDesk" 174 ⟨"FareDesk$Booking", "seatsMissing", "()I"⟩ ∈ fd_T := fd_t2 174 rfl rfl
theorem fw2_175 : Cond.instanceMethod ⟨"FareDesk$Booking", "seatsMissing", "()I"⟩ ∈ fd_T := fd_t2 175 rfl rfl
theorem fw2_176 : Cond.selects "FareDesk$Booking" ⟨"FareDesk$Booking", "seatsMissing", "()I"⟩ ⟨"FareDesk$Booking", "seatsMissing", "()I"⟩ ∈ fd_T := fd_t2 176 rfl rfl
theorem fw2_177 : Cond.code ⟨"FareDesk$Booking", "seatsMissing", "()I"⟩ prog_2_method_3_code 1 (some .int) ∈ fd_T := fd_t2 177 rfl rfl
theorem fw2_179 : Cond.methodLink "FareDesk" 160 ⟨"FareDesk$Cabin", "isFree", "(I)Z"⟩ ∈ fd_T := fd_t2 179 rfl rfl
theorem fw2_180 : Cond.instanceMethod ⟨"FareDesk$Cabin", "isFree", "(I)Z"⟩ ∈ fd_T := fd_t2 180 rfl rfl
theorem fw2_181 : Cond.selects "FareDesk$Cabin" ⟨"FareDesk$Cabin", "isFree", "(I)Z"⟩ ⟨"FareDesk$Cabin", "isFree", "(I)Z"⟩ ∈ fd_T := fd_t2 181 rfl rfl
theorem fw2_182 : Cond.code ⟨"FareDesk$Cabin", "isFree", "(I)Z"⟩ prog_3_method_3_code 2 (some .boolean) ∈ fd_T := fd_t2 182 rfl rfl
theorem fw2_184 : Cond.methodLink "FareDesk" 165 ⟨"FareDesk$Cabin", "give", "(LFareDesk$Booking;I)V"⟩ ∈ fd_T := fd_t2 184 rfl rfl
theorem fw2_185 : Cond.instanceMethod ⟨"FareDesk$Cabin", "give", "(LFareDesk$Booking;I)V"⟩ ∈ fd_T := fd_t2 185 rfl rfl
theorem fw2_186 : Cond.selects "FareDesk$Cabin" ⟨"FareDesk$Cabin", "give", "(LFareDesk$Booking;I)V"⟩ ⟨"FareDesk$Cabin", "give", "(LFareDesk$Booking;I)V"⟩ ∈ fd_T := fd_t2 186 rfl rfl
theorem fw2_187 : Cond.code ⟨"FareDesk$Cabin", "give", "(LFareDesk$Booking;I)V"⟩ prog_3_method_4_code 3 none ∈ fd_T := fd_t2 187 rfl rfl
theorem fw2_188 : Cond.methodLink "FareDeskLaw" 114 ⟨"FareDeskLaw", "together", "(LFareDesk;I[J)I"⟩ ∈ fd_T := fd_t2 188 rfl rfl
theorem fw2_189 : Cond.static ⟨"FareDeskLaw", "together", "(LFareDesk;I[J)I"⟩ ∈ fd_T := fd_t2 189 rfl rfl
theorem fw2_191 : Cond.methodLink "FareDeskLaw" 49 ⟨"FareDesk", "together", "(I)I"⟩ ∈ fd_T := fd_t2 191 rfl rfl
theorem fw2_192 : Cond.instanceMethod ⟨"FareDesk", "together", "(I)I"⟩ ∈ fd_T := fd_t2 192 rfl rfl
theorem fw2_193 : Cond.selects "FareDesk" ⟨"FareDesk", "together", "(I)I"⟩ ⟨"FareDesk", "together", "(I)I"⟩ ∈ fd_T := fd_t2 193 rfl rfl
theorem fw2_194 : Cond.code ⟨"FareDesk", "together", "(I)I"⟩ prog_1_method_12_code 4 (some .int) ∈ fd_T := fd_t2 194 rfl rfl
theorem fw2_196 : Cond.methodLink "FareDesk" 180 ⟨"FareDesk$Cabin", "bestStart", "(I)I"⟩ ∈ fd_T := fd_t2 196 rfl rfl
theorem fw2_197 : Cond.instanceMethod ⟨"FareDesk$Cabin", "bestStart", "(I)I"⟩ ∈ fd_T := fd_t2 197 rfl rfl
theorem fw2_198 : Cond.selects "FareDesk$Cabin" ⟨"FareDesk$Cabin", "bestStart", "(I)I"⟩ ⟨"FareDesk$Cabin", "bestStart", "(I)I"⟩ ∈ fd_T := fd_t2 198 rfl rfl
theorem fw2_199 : Cond.code ⟨"FareDesk$Cabin", "bestStart", "(I)I"⟩ prog_3_method_7_code 3 (some .int) ∈ fd_T := fd_t2 199 rfl rfl
theorem fw2_200 : Cond.methodLink "FareDesk$Cabin" 48 ⟨"FareDesk$Cabin", "blockStart", "(II)I"⟩ ∈ fd_T := fd_t2 200 rfl rfl
theorem fw2_201 : Cond.instanceMethod ⟨"FareDesk$Cabin", "blockStart", "(II)I"⟩ ∈ fd_T := fd_t2 201 rfl rfl
theorem fw2_202 : Cond.selects "FareDesk$Cabin" ⟨"FareDesk$Cabin", "blockStart", "(II)I"⟩ ⟨"FareDesk$Cabin", "blockStart", "(II)I"⟩ ∈ fd_T := fd_t2 202 rfl rfl
theorem fw2_203 : Cond.code ⟨"FareDesk$Cabin", "blockStart", "(II)I"⟩ prog_3_method_8_code 5 (some .int) ∈ fd_T := fd_t2 203 rfl rfl
theorem fw2_204 : Cond.methodLink "FareDesk$Cabin" 52 ⟨"FareDesk$Cabin", "areFree", "(II)Z"⟩ ∈ fd_T := fd_t2 204 rfl rfl
theorem fw2_205 : Cond.instanceMethod ⟨"FareDesk$Cabin", "areFree", "(II)Z"⟩ ∈ fd_T := fd_t2 205 rfl rfl
theorem fw2_206 : Cond.selects "FareDesk$Cabin" ⟨"FareDesk$Cabin", "areFree", "(II)Z"⟩ ⟨"FareDesk$Cabin", "areFree", "(II)Z"⟩ ∈ fd_T := fd_t2 206 rfl rfl
theorem fw2_207 : Cond.code ⟨"FareDesk$Cabin", "areFree", "(II)Z"⟩ prog_3_method_9_code 4 (some .boolean) ∈ fd_T := fd_t2 207 rfl rfl
theorem fw2_208 : Cond.methodLink "FareDesk$Cabin" 40 ⟨"FareDesk$Cabin", "isFree", "(I)Z"⟩ ∈ fd_T := fd_t2 208 rfl rfl
theorem fw2_209 : Cond.methodLink "FareDesk" 183 ⟨"FareDesk$Cabin", "giveMissing", "(LFareDesk$Booking;I)V"⟩ ∈ fd_T := fd_t2 209 rfl rfl
theorem fw2_210 : Cond.instanceMethod ⟨"FareDesk$Cabin", "giveMissing", "(LFareDesk$Booking;I)V"⟩ ∈ fd_T := fd_t2 210 rfl rfl
theorem fw2_211 : Cond.selects "FareDesk$Cabin" ⟨"FareDesk$Cabin", "giveMissing", "(LFareDesk$Booking;I)V"⟩ ⟨"FareDesk$Cabin", "giveMissing", "(LFareDesk$Booking;I)V"⟩ ∈ fd_T := fd_t2 211 rfl rfl
theorem fw2_212 : Cond.code ⟨"FareDesk$Cabin", "giveMissing", "(LFareDesk$Booking;I)V"⟩ prog_3_method_5_code 4 none ∈ fd_T := fd_t2 212 rfl rfl
theorem fw2_213 : Cond.methodLink "FareDesk$Cabin" 36 ⟨"FareDesk$Booking", "seatsMissing", "()I"⟩ ∈ fd_T := fd_t2 213 rfl rfl
theorem fw2_214 : Cond.methodLink "FareDesk$Cabin" 44 ⟨"FareDesk$Cabin", "give", "(LFareDesk$Booking;I)V"⟩ ∈ fd_T := fd_t2 214 rfl rfl
theorem fw2_215 : Cond.methodLink "FareDeskLaw" 117 ⟨"FareDeskLaw", "tick", "(LFareDesk;I)I"⟩ ∈ fd_T := fd_t2 215 rfl rfl
theorem fw2_216 : Cond.static ⟨"FareDeskLaw", "tick", "(LFareDesk;I)I"⟩ ∈ fd_T := fd_t2 216 rfl rfl
theorem fw2_218 : Cond.methodLink "FareDeskLaw" 52 ⟨"FareDesk", "tick", "(I)V"⟩ ∈ fd_T := fd_t2 218 rfl rfl
theorem fw2_219 : Cond.instanceMethod ⟨"FareDesk", "tick", "(I)V"⟩ ∈ fd_T := fd_t2 219 rfl rfl
theorem fw2_220 : Cond.selects "FareDesk" ⟨"FareDesk", "tick", "(I)V"⟩ ⟨"FareDesk", "tick", "(I)V"⟩ ∈ fd_T := fd_t2 220 rfl rfl
theorem fw2_221 : Cond.code ⟨"FareDesk", "tick", "(I)V"⟩ prog_1_method_13_code 3 none ∈ fd_T := fd_t2 221 rfl rfl
theorem fw2_223 : Cond.methodLink "FareDesk" 191 ⟨"FareDesk", "expireDue", "()Z"⟩ ∈ fd_T := fd_t2 223 rfl rfl
theorem fw2_225 : Cond.instanceMethod ⟨"FareDesk", "expireDue", "()Z"⟩ ∈ fd_T := fd_t2 225 rfl rfl
theorem fw2_226 : Cond.code ⟨"FareDesk", "expireDue", "()Z"⟩ prog_1_method_31_code 4 (some .boolean) ∈ fd_T := fd_t2 226 rfl rfl
theorem fw2_227 : Cond.methodLink "FareDeskLaw" 121 ⟨"FareDeskLaw", "close", "(LFareDesk;[J)I"⟩ ∈ fd_T := fd_t2 227 rfl rfl
theorem fw2_228 : Cond.static ⟨"FareDeskLaw", "close", "(LFareDesk;[J)I"⟩ ∈ fd_T := fd_t2 228 rfl rfl
theorem fw2_230 : Cond.methodLink "FareDeskLaw" 56 ⟨"FareDesk", "close", "()I"⟩ ∈ fd_T := fd_t2 230 rfl rfl
theorem fw2_231 : Cond.instanceMethod ⟨"FareDesk", "close", "()I"⟩ ∈ fd_T := fd_t2 231 rfl rfl
theorem fw2_232 : Cond.selects "FareDesk" ⟨"FareDesk", "close", "()I"⟩ ⟨"FareDesk", "close", "()I"⟩ ∈ fd_T := fd_t2 232 rfl rfl
theorem fw2_233 : Cond.code ⟨"FareDesk", "close", "()I"⟩ prog_1_method_14_code 3 (some .int) ∈ fd_T := fd_t2 233 rfl rfl
theorem fw2_234 : Cond.methodLink "FareDesk" 198 ⟨"FareDesk", "endUnconfirmed", "()V"⟩ ∈ fd_T := fd_t2 234 rfl rfl
theorem fw2_236 : Cond.instanceMethod ⟨"FareDesk", "endUnconfirmed", "()V"⟩ ∈ fd_T := fd_t2 236 rfl rfl
theorem fw2_237 : Cond.code ⟨"FareDesk", "endUnconfirmed", "()V"⟩ prog_1_method_32_code 3 none ∈ fd_T := fd_t2 237 rfl rfl
theorem fw2_238 : Cond.methodLink "FareDesk" 201 ⟨"FareDesk", "boardFare", "(I)I"⟩ ∈ fd_T := fd_t2 238 rfl rfl
theorem fw3_0 : Cond.instanceMethod ⟨"FareDesk", "boardFare", "(I)I"⟩ ∈ fd_T := fd_t3 0 rfl rfl
theorem fw3_1 : Cond.code ⟨"FareDesk", "boardFare", "(I)I"⟩ prog_1_method_33_code 5 (some .int) ∈ fd_T := fd_t3 1 rfl rfl
theorem fw3_2 : Cond.methodLink "FareDesk" 255 ⟨"FareDesk", "board", "(LFareDesk$Booking;)I"⟩ ∈ fd_T := fd_t3 2 rfl rfl
theorem fw3_4 : Cond.instanceMethod ⟨"FareDesk", "board", "(LFareDesk$Booking;)I"⟩ ∈ fd_T := fd_t3 4 rfl rfl
theorem fw3_5 : Cond.code ⟨"FareDesk", "board", "(LFareDesk$Booking;)I"⟩ prog_1_method_34_code 2 (some .int) ∈ fd_T := fd_t3 5 rfl rfl
theorem fw3_6 : Cond.methodLink "FareDesk" 259 ⟨"FareDesk", "leaveBehind", "(LFareDesk$Booking;)V"⟩ ∈ fd_T := fd_t3 6 rfl rfl
theorem fw3_8 : Cond.instanceMethod ⟨"FareDesk", "leaveBehind", "(LFareDesk$Booking;)V"⟩ ∈ fd_T := fd_t3 8 rfl rfl
theorem fw3_9 : Cond.code ⟨"FareDesk", "leaveBehind", "(LFareDesk$Booking;)V"⟩ prog_1_method_35_code 2 none ∈ fd_T := fd_t3 9 rfl rfl
theorem fw3_10 : Cond.methodLink "FareDeskLaw" 125 ⟨"FareDeskLaw", "of", "(LFareDesk;II[J)I"⟩ ∈ fd_T := fd_t3 10 rfl rfl
theorem fw3_11 : Cond.static ⟨"FareDeskLaw", "of", "(LFareDesk;II[J)I"⟩ ∈ fd_T := fd_t3 11 rfl rfl
theorem fw3_13 : Cond.methodLink "FareDeskLaw" 60 ⟨"FareDesk", "of", "(II)I"⟩ ∈ fd_T := fd_t3 13 rfl rfl
theorem fw3_14 : Cond.instanceMethod ⟨"FareDesk", "of", "(II)I"⟩ ∈ fd_T := fd_t3 14 rfl rfl
theorem fw3_15 : Cond.selects "FareDesk" ⟨"FareDesk", "of", "(II)I"⟩ ⟨"FareDesk", "of", "(II)I"⟩ ∈ fd_T := fd_t3 15 rfl rfl
theorem fw3_16 : Cond.code ⟨"FareDesk", "of", "(II)I"⟩ prog_1_method_15_code 4 (some .int) ∈ fd_T := fd_t3 16 rfl rfl
theorem fw3_18 : Cond.methodLink "FareDeskLaw" 132 ⟨"FareDeskLaw", "count", "(LFareDesk;I[J)I"⟩ ∈ fd_T := fd_t3 18 rfl rfl
theorem fw3_19 : Cond.static ⟨"FareDeskLaw", "count", "(LFareDesk;I[J)I"⟩ ∈ fd_T := fd_t3 19 rfl rfl
theorem fw3_21 : Cond.methodLink "FareDeskLaw" 63 ⟨"FareDesk", "count", "(I)I"⟩ ∈ fd_T := fd_t3 21 rfl rfl
theorem fw3_22 : Cond.instanceMethod ⟨"FareDesk", "count", "(I)I"⟩ ∈ fd_T := fd_t3 22 rfl rfl
theorem fw3_23 : Cond.selects "FareDesk" ⟨"FareDesk", "count", "(I)I"⟩ ⟨"FareDesk", "count", "(I)I"⟩ ∈ fd_T := fd_t3 23 rfl rfl
theorem fw3_24 : Cond.code ⟨"FareDesk", "count", "(I)I"⟩ prog_1_method_17_code 2 (some .int) ∈ fd_T := fd_t3 24 rfl rfl
theorem fw3_25 : Cond.methodLink "FareDesk" 218 ⟨"FareDesk$Fares", "shareFrom", "(I)I"⟩ ∈ fd_T := fd_t3 25 rfl rfl
theorem fw3_26 : Cond.methodLink "FareDesk" 221 ⟨"FareDesk", "waitingBookings", "()I"⟩ ∈ fd_T := fd_t3 26 rfl rfl
theorem fw3_28 : Cond.instanceMethod ⟨"FareDesk", "waitingBookings", "()I"⟩ ∈ fd_T := fd_t3 28 rfl rfl
theorem fw3_29 : Cond.code ⟨"FareDesk", "waitingBookings", "()I"⟩ prog_1_method_28_code 3 (some .int) ∈ fd_T := fd_t3 29 rfl rfl
theorem fw3_31 : Cond.classLink "FareDeskLaw" 74 "FareDeskModel" ∈ fd_T := fd_t3 31 rfl rfl
theorem fw3_32 : Cond.instantiable "FareDeskModel" 17 ∈ fd_T := fd_t3 32 rfl rfl
theorem fw3_33 : Cond.methodLink "FareDeskLaw" 76 ⟨"FareDeskModel", "<init>", "(I)V"⟩ ∈ fd_T := fd_t3 33 rfl rfl
theorem fw3_34 : Cond.instanceMethod ⟨"FareDeskModel", "<init>", "(I)V"⟩ ∈ fd_T := fd_t3 34 rfl rfl
theorem fw3_35 : Cond.code ⟨"FareDeskModel", "<init>", "(I)V"⟩ prog_6_method_1_code 3 none ∈ fd_T := fd_t3 35 rfl rfl
theorem fw3_36 : Cond.methodLink "FareDeskModel" 1 ⟨"java/lang/Object", "<init>", "()V"⟩ ∈ fd_T := fd_t3 36 rfl rfl
theorem fw3_37 : Cond.fieldLink "FareDeskModel" 47 "FareDeskModel" "thrown" "I" ∈ fd_T := fd_t3 37 rfl rfl
theorem fw3_38 : Cond.fieldLink "FareDeskModel" 43 "FareDeskModel" "seatCount" "I" ∈ fd_T := fd_t3 38 rfl rfl
theorem fw3_39 : Cond.fieldLink "FareDeskModel" 61 "FareDeskModel" "now" "I" ∈ fd_T := fd_t3 39 rfl rfl
theorem fw3_40 : Cond.fieldLink "FareDeskModel" 85 "FareDeskModel" "till" "I" ∈ fd_T := fd_t3 40 rfl rfl
theorem fw3_41 : Cond.fieldLink "FareDeskModel" 67 "FareDeskModel" "closed" "Z" ∈ fd_T := fd_t3 41 rfl rfl
theorem fw3_42 : Cond.fieldLink "FareDeskModel" 7 "FareDeskModel" "prices" "[I" ∈ fd_T := fd_t3 42 rfl rfl
theorem fw3_43 : Cond.fieldLink "FareDeskModel" 13 "FareDeskModel" "limits" "[I" ∈ fd_T := fd_t3 43 rfl rfl
theorem fw3_44 : Cond.fieldLink "FareDeskModel" 50 "FareDeskModel" "bookings" "I" ∈ fd_T := fd_t3 44 rfl rfl
theorem fw3_45 : Cond.fieldLink "FareDeskModel" 16 "FareDeskModel" "states" "[I" ∈ fd_T := fd_t3 45 rfl rfl
theorem fw3_46 : Cond.fieldLink "FareDeskModel" 19 "FareDeskModel" "fares" "[I" ∈ fd_T := fd_t3 46 rfl rfl
theorem fw3_47 : Cond.fieldLink "FareDeskModel" 22 "FareDeskModel" "places" "[I" ∈ fd_T := fd_t3 47 rfl rfl
theorem fw3_48 : Cond.fieldLink "FareDeskModel" 25 "FareDeskModel" "ticks" "[I" ∈ fd_T := fd_t3 48 rfl rfl
theorem fw3_49 : Cond.fieldLink "FareDeskModel" 28 "FareDeskModel" "ends" "[I" ∈ fd_T := fd_t3 49 rfl rfl
theorem fw3_50 : Cond.fieldLink "FareDeskModel" 31 "FareDeskModel" "paid" "[I" ∈ fd_T := fd_t3 50 rfl rfl
theorem fw3_51 : Cond.fieldLink "FareDeskModel" 34 "FareDeskModel" "seats" "[I" ∈ fd_T := fd_t3 51 rfl rfl
theorem fw3_52 : Cond.fieldLink "FareDeskModel" 37 "FareDeskModel" "given" "[I" ∈ fd_T := fd_t3 52 rfl rfl
theorem fw3_53 : Cond.fieldLink "FareDeskModel" 40 "FareDeskModel" "owner" "[I" ∈ fd_T := fd_t3 53 rfl rfl
theorem fw3_89 : Cond.methodLink "FareDeskLaw" 81 ⟨"FareDeskModel", "thrown", "()I"⟩ ∈ fd_T := fd_t3 89 rfl rfl
theorem fw3_90 : Cond.instanceMethod ⟨"FareDeskModel", "thrown", "()I"⟩ ∈ fd_T := fd_t3 90 rfl rfl
theorem fw3_91 : Cond.selects "FareDeskModel" ⟨"FareDeskModel", "thrown", "()I"⟩ ⟨"FareDeskModel", "thrown", "()I"⟩ ∈ fd_T := fd_t3 91 rfl rfl
theorem fw3_92 : Cond.code ⟨"FareDeskModel", "thrown", "()I"⟩ prog_6_method_2_code 1 (some .int) ∈ fd_T := fd_t3 92 rfl rfl
theorem fw3_93 : Cond.methodLink "FareDeskLaw" 80 ⟨"FareDeskModel", "limit", "(II)V"⟩ ∈ fd_T := fd_t3 93 rfl rfl
theorem fw3_94 : Cond.instanceMethod ⟨"FareDeskModel", "limit", "(II)V"⟩ ∈ fd_T := fd_t3 94 rfl rfl
theorem fw3_95 : Cond.selects "FareDeskModel" ⟨"FareDeskModel", "limit", "(II)V"⟩ ⟨"FareDeskModel", "limit", "(II)V"⟩ ∈ fd_T := fd_t3 95 rfl rfl
theorem fw3_96 : Cond.code ⟨"FareDeskModel", "limit", "(II)V"⟩ prog_6_method_8_code 4 none ∈ fd_T := fd_t3 96 rfl rfl
theorem fw3_97 : Cond.methodLink "FareDeskModel" 64 ⟨"FareDeskModel", "noFare", "(I)Z"⟩ ∈ fd_T := fd_t3 97 rfl rfl
theorem fw3_99 : Cond.instanceMethod ⟨"FareDeskModel", "noFare", "(I)Z"⟩ ∈ fd_T := fd_t3 99 rfl rfl
theorem fw3_100 : Cond.code ⟨"FareDeskModel", "noFare", "(I)Z"⟩ prog_6_method_3_code 2 (some .boolean) ∈ fd_T := fd_t3 100 rfl rfl
theorem fw3_101 : Cond.methodLink "FareDeskModel" 71 ⟨"FareDeskModel", "serve", "()V"⟩ ∈ fd_T := fd_t3 101 rfl rfl
theorem fw3_103 : Cond.instanceMethod ⟨"FareDeskModel", "serve", "()V"⟩ ∈ fd_T := fd_t3 103 rfl rfl
theorem fw3_104 : Cond.code ⟨"FareDeskModel", "serve", "()V"⟩ prog_6_method_7_code 2 none ∈ fd_T := fd_t3 104 rfl rfl
theorem fw3_105 : Cond.methodLink "FareDeskModel" 57 ⟨"FareDeskModel", "roomOf", "(II)I"⟩ ∈ fd_T := fd_t3 105 rfl rfl
theorem fw3_107 : Cond.instanceMethod ⟨"FareDeskModel", "roomOf", "(II)I"⟩ ∈ fd_T := fd_t3 107 rfl rfl
theorem fw3_108 : Cond.code ⟨"FareDeskModel", "roomOf", "(II)I"⟩ prog_6_method_6_code 8 (some .int) ∈ fd_T := fd_t3 108 rfl rfl
theorem fw3_109 : Cond.methodLink "FareDeskModel" 53 ⟨"FareDeskModel", "counts", "(I)Z"⟩ ∈ fd_T := fd_t3 109 rfl rfl
theorem fw3_111 : Cond.instanceMethod ⟨"FareDeskModel", "counts", "(I)Z"⟩ ∈ fd_T := fd_t3 111 rfl rfl
theorem fw3_112 : Cond.code ⟨"FareDeskModel", "counts", "(I)Z"⟩ prog_6_method_5_code 2 (some .boolean) ∈ fd_T := fd_t3 112 rfl rfl
theorem fw3_113 : Cond.methodLink "FareDeskLaw" 86 ⟨"FareDeskModel", "price", "(II)V"⟩ ∈ fd_T := fd_t3 113 rfl rfl
theorem fw3_114 : Cond.instanceMethod ⟨"FareDeskModel", "price", "(II)V"⟩ ∈ fd_T := fd_t3 114 rfl rfl
theorem fw3_115 : Cond.selects "FareDeskModel" ⟨"FareDeskModel", "price", "(II)V"⟩ ⟨"FareDeskModel", "price", "(II)V"⟩ ∈ fd_T := fd_t3 115 rfl rfl
theorem fw3_116 : Cond.code ⟨"FareDeskModel", "price", "(II)V"⟩ prog_6_method_9_code 3 none ∈ fd_T := fd_t3 116 rfl rfl
theorem fw3_117 : Cond.methodLink "FareDeskLaw" 90 ⟨"FareDeskModel", "room", "(I)I"⟩ ∈ fd_T := fd_t3 117 rfl rfl
theorem fw3_118 : Cond.instanceMethod ⟨"FareDeskModel", "room", "(I)I"⟩ ∈ fd_T := fd_t3 118 rfl rfl
theorem fw3_119 : Cond.selects "FareDeskModel" ⟨"FareDeskModel", "room", "(I)I"⟩ ⟨"FareDeskModel", "room", "(I)I"⟩ ∈ fd_T := fd_t3 119 rfl rfl
theorem fw3_120 : Cond.code ⟨"FareDeskModel", "room", "(I)I"⟩ prog_6_method_10_code 2 (some .int) ∈ fd_T := fd_t3 120 rfl rfl
theorem fw3_121 : Cond.methodLink "FareDeskLaw" 94 ⟨"FareDeskModel", "hold", "(III)I"⟩ ∈ fd_T := fd_t3 121 rfl rfl
theorem fw3_122 : Cond.instanceMethod ⟨"FareDeskModel", "hold", "(III)I"⟩ ∈ fd_T := fd_t3 122 rfl rfl
theorem fw3_123 : Cond.selects "FareDeskModel" ⟨"FareDeskModel", "hold", "(III)I"⟩ ⟨"FareDeskModel", "hold", "(III)I"⟩ ∈ fd_T := fd_t3 123 rfl rfl
theorem fw3_124 : Cond.code ⟨"FareDeskModel", "hold", "(III)I"⟩ prog_6_method_13_code 4 (some .int) ∈ fd_T := fd_t3 124 rfl rfl
theorem fw3_125 : Cond.methodLink "FareDeskModel" 74 ⟨"FareDeskModel", "checked", "(III)I"⟩ ∈ fd_T := fd_t3 125 rfl rfl
theorem fw3_127 : Cond.instanceMethod ⟨"FareDeskModel", "checked", "(III)I"⟩ ∈ fd_T := fd_t3 127 rfl rfl
theorem fw3_128 : Cond.code ⟨"FareDeskModel", "checked", "(III)I"⟩ prog_6_method_11_code 4 (some .int) ∈ fd_T := fd_t3 128 rfl rfl
theorem fw3_129 : Cond.methodLink "FareDeskModel" 78 ⟨"FareDeskModel", "make", "(IIII)I"⟩ ∈ fd_T := fd_t3 129 rfl rfl
theorem fw3_131 : Cond.instanceMethod ⟨"FareDeskModel", "make", "(IIII)I"⟩ ∈ fd_T := fd_t3 131 rfl rfl
theorem fw3_132 : Cond.code ⟨"FareDeskModel", "make", "(IIII)I"⟩ prog_6_method_12_code 6 (some .int) ∈ fd_T := fd_t3 132 rfl rfl
theorem fw3_133 : Cond.methodLink "FareDeskLaw" 97 ⟨"FareDeskModel", "join", "(III)I"⟩ ∈ fd_T := fd_t3 133 rfl rfl
theorem fw3_134 : Cond.instanceMethod ⟨"FareDeskModel", "join", "(III)I"⟩ ∈ fd_T := fd_t3 134 rfl rfl
theorem fw3_135 : Cond.selects "FareDeskModel" ⟨"FareDeskModel", "join", "(III)I"⟩ ⟨"FareDeskModel", "join", "(III)I"⟩ ∈ fd_T := fd_t3 135 rfl rfl
theorem fw3_136 : Cond.code ⟨"FareDeskModel", "join", "(III)I"⟩ prog_6_method_14_code 5 (some .int) ∈ fd_T := fd_t3 136 rfl rfl
theorem fw3_137 : Cond.methodLink "FareDeskLaw" 100 ⟨"FareDeskModel", "confirm", "(I)I"⟩ ∈ fd_T := fd_t3 137 rfl rfl
theorem fw3_138 : Cond.instanceMethod ⟨"FareDeskModel", "confirm", "(I)I"⟩ ∈ fd_T := fd_t3 138 rfl rfl
theorem fw3_139 : Cond.selects "FareDeskModel" ⟨"FareDeskModel", "confirm", "(I)I"⟩ ⟨"FareDeskModel", "confirm", "(I)I"⟩ ∈ fd_T := fd_t3 139 rfl rfl
theorem fw3_140 : Cond.code ⟨"FareDeskModel", "confirm", "(I)I"⟩ prog_6_method_15_code 2 (some .int) ∈ fd_T := fd_t3 140 rfl rfl
theorem fw3_141 : Cond.methodLink "FareDeskModel" 82 ⟨"FareDeskModel", "noBooking", "(I)Z"⟩ ∈ fd_T := fd_t3 141 rfl rfl
theorem fw3_143 : Cond.instanceMethod ⟨"FareDeskModel", "noBooking", "(I)Z"⟩ ∈ fd_T := fd_t3 143 rfl rfl
theorem fw3_144 : Cond.code ⟨"FareDeskModel", "noBooking", "(I)Z"⟩ prog_6_method_4_code 2 (some .boolean) ∈ fd_T := fd_t3 144 rfl rfl
theorem fw3_145 : Cond.methodLink "FareDeskLaw" 103 ⟨"FareDeskModel", "cancel", "(I)I"⟩ ∈ fd_T := fd_t3 145 rfl rfl
theorem fw3_146 : Cond.instanceMethod ⟨"FareDeskModel", "cancel", "(I)I"⟩ ∈ fd_T := fd_t3 146 rfl rfl
theorem fw3_147 : Cond.selects "FareDeskModel" ⟨"FareDeskModel", "cancel", "(I)I"⟩ ⟨"FareDeskModel", "cancel", "(I)I"⟩ ∈ fd_T := fd_t3 147 rfl rfl
theorem fw3_148 : Cond.code ⟨"FareDeskModel", "cancel", "(I)I"⟩ prog_6_method_18_code 3 (some .int) ∈ fd_T := fd_t3 148 rfl rfl
theorem fw3_149 : Cond.methodLink "FareDeskModel" 88 ⟨"FareDeskModel", "giveBack", "(II)I"⟩ ∈ fd_T := fd_t3 149 rfl rfl
theorem fw3_151 : Cond.instanceMethod ⟨"FareDeskModel", "giveBack", "(II)I"⟩ ∈ fd_T := fd_t3 151 rfl rfl
theorem fw3_152 : Cond.code ⟨"FareDeskModel", "giveBack", "(II)I"⟩ prog_6_method_16_code 6 (some .int) ∈ fd_T := fd_t3 152 rfl rfl
theorem fw3_153 : Cond.methodLink "FareDeskModel" 91 ⟨"FareDeskModel", "leaveSeats", "(II)V"⟩ ∈ fd_T := fd_t3 153 rfl rfl
theorem fw3_155 : Cond.instanceMethod ⟨"FareDeskModel", "leaveSeats", "(II)V"⟩ ∈ fd_T := fd_t3 155 rfl rfl
theorem fw3_156 : Cond.code ⟨"FareDeskModel", "leaveSeats", "(II)V"⟩ prog_6_method_17_code 3 none ∈ fd_T := fd_t3 156 rfl rfl
theorem fw3_157 : Cond.methodLink "FareDeskLaw" 107 ⟨"FareDeskModel", "shrink", "(II)I"⟩ ∈ fd_T := fd_t3 157 rfl rfl
theorem fw3_158 : Cond.instanceMethod ⟨"FareDeskModel", "shrink", "(II)I"⟩ ∈ fd_T := fd_t3 158 rfl rfl
theorem fw3_159 : Cond.selects "FareDeskModel" ⟨"FareDeskModel", "shrink", "(II)I"⟩ ⟨"FareDeskModel", "shrink", "(II)I"⟩ ∈ fd_T := fd_t3 159 rfl rfl
theorem fw3_160 : Cond.code ⟨"FareDeskModel", "shrink", "(II)I"⟩ prog_6_method_19_code 4 (some .int) ∈ fd_T := fd_t3 160 rfl rfl
theorem fw3_161 : Cond.methodLink "FareDeskLaw" 110 ⟨"FareDeskModel", "change", "(II)V"⟩ ∈ fd_T := fd_t3 161 rfl rfl
theorem fw3_162 : Cond.instanceMethod ⟨"FareDeskModel", "change", "(II)V"⟩ ∈ fd_T := fd_t3 162 rfl rfl
theorem fw3_163 : Cond.selects "FareDeskModel" ⟨"FareDeskModel", "change", "(II)V"⟩ ⟨"FareDeskModel", "change", "(II)V"⟩ ∈ fd_T := fd_t3 163 rfl rfl
theorem fw3_164 : Cond.code ⟨"FareDeskModel", "change", "(II)V"⟩ prog_6_method_20_code 3 none ∈ fd_T := fd_t3 164 rfl rfl
theorem fw3_165 : Cond.methodLink "FareDeskLaw" 113 ⟨"FareDeskModel", "seat", "(II)I"⟩ ∈ fd_T := fd_t3 165 rfl rfl
theorem fw3_166 : Cond.instanceMethod ⟨"FareDeskModel", "seat", "(II)I"⟩ ∈ fd_T := fd_t3 166 rfl rfl
theorem fw3_167 : Cond.selects "FareDeskModel" ⟨"FareDeskModel", "seat", "(II)I"⟩ ⟨"FareDeskModel", "seat", "(II)I"⟩ ∈ fd_T := fd_t3 167 rfl rfl
theorem fw3_168 : Cond.code ⟨"FareDeskModel", "seat", "(II)I"⟩ prog_6_method_24_code 3 (some .int) ∈ fd_T := fd_t3 168 rfl rfl
theorem fw3_169 : Cond.methodLink "FareDeskModel" 95 ⟨"FareDeskModel", "hasAll", "(I)Z"⟩ ∈ fd_T := fd_t3 169 rfl rfl
theorem fw3_171 : Cond.instanceMethod ⟨"FareDeskModel", "hasAll", "(I)Z"⟩ ∈ fd_T := fd_t3 171 rfl rfl
theorem fw3_172 : Cond.code ⟨"FareDeskModel", "hasAll", "(I)Z"⟩ prog_6_method_23_code 2 (some .boolean) ∈ fd_T := fd_t3 172 rfl rfl
theorem fw3_173 : Cond.methodLink "FareDeskModel" 98 ⟨"FareDeskModel", "give", "(II)V"⟩ ∈ fd_T := fd_t3 173 rfl rfl
theorem fw3_175 : Cond.instanceMethod ⟨"FareDeskModel", "give", "(II)V"⟩ ∈ fd_T := fd_t3 175 rfl rfl
theorem fw3_176 : Cond.code ⟨"FareDeskModel", "give", "(II)V"⟩ prog_6_method_21_code 3 none ∈ fd_T := fd_t3 176 rfl rfl
theorem fw3_177 : Cond.methodLink "FareDeskLaw" 116 ⟨"FareDeskModel", "together", "(I)I"⟩ ∈ fd_T := fd_t3 177 rfl rfl
theorem fw3_178 : Cond.instanceMethod ⟨"FareDeskModel", "together", "(I)I"⟩ ∈ fd_T := fd_t3 178 rfl rfl
theorem fw3_179 : Cond.selects "FareDeskModel" ⟨"FareDeskModel", "together", "(I)I"⟩ ⟨"FareDeskModel", "together", "(I)I"⟩ ∈ fd_T := fd_t3 179 rfl rfl
theorem fw3_180 : Cond.code ⟨"FareDeskModel", "together", "(I)I"⟩ prog_6_method_28_code 6 (some .int) ∈ fd_T := fd_t3 180 rfl rfl
theorem fw3_181 : Cond.methodLink "FareDeskModel" 105 ⟨"FareDeskModel", "freeSeats", "()I"⟩ ∈ fd_T := fd_t3 181 rfl rfl
theorem fw3_183 : Cond.instanceMethod ⟨"FareDeskModel", "freeSeats", "()I"⟩ ∈ fd_T := fd_t3 183 rfl rfl
theorem fw3_184 : Cond.code ⟨"FareDeskModel", "freeSeats", "()I"⟩ prog_6_method_22_code 3 (some .int) ∈ fd_T := fd_t3 184 rfl rfl
theorem fw3_185 : Cond.methodLink "FareDeskModel" 109 ⟨"FareDeskModel", "findRun", "(IZ)I"⟩ ∈ fd_T := fd_t3 185 rfl rfl
theorem fw3_187 : Cond.instanceMethod ⟨"FareDeskModel", "findRun", "(IZ)I"⟩ ∈ fd_T := fd_t3 187 rfl rfl
theorem fw3_188 : Cond.code ⟨"FareDeskModel", "findRun", "(IZ)I"⟩ prog_6_method_26_code 4 (some .int) ∈ fd_T := fd_t3 188 rfl rfl
theorem fw3_189 : Cond.methodLink "FareDeskModel" 101 ⟨"FareDeskModel", "isRun", "(IIZ)Z"⟩ ∈ fd_T := fd_t3 189 rfl rfl
theorem fw3_191 : Cond.instanceMethod ⟨"FareDeskModel", "isRun", "(IIZ)Z"⟩ ∈ fd_T := fd_t3 191 rfl rfl
theorem fw3_192 : Cond.code ⟨"FareDeskModel", "isRun", "(IIZ)Z"⟩ prog_6_method_25_code 8 (some .boolean) ∈ fd_T := fd_t3 192 rfl rfl
theorem fw3_193 : Cond.methodLink "FareDeskModel" 113 ⟨"FareDeskModel", "giveFirst", "(II)V"⟩ ∈ fd_T := fd_t3 193 rfl rfl
theorem fw3_195 : Cond.instanceMethod ⟨"FareDeskModel", "giveFirst", "(II)V"⟩ ∈ fd_T := fd_t3 195 rfl rfl
theorem fw3_196 : Cond.code ⟨"FareDeskModel", "giveFirst", "(II)V"⟩ prog_6_method_27_code 5 none ∈ fd_T := fd_t3 196 rfl rfl
theorem fw3_197 : Cond.methodLink "FareDeskLaw" 120 ⟨"FareDeskModel", "tick", "(I)V"⟩ ∈ fd_T := fd_t3 197 rfl rfl
theorem fw3_198 : Cond.instanceMethod ⟨"FareDeskModel", "tick", "(I)V"⟩ ∈ fd_T := fd_t3 198 rfl rfl
theorem fw3_199 : Cond.selects "FareDeskModel" ⟨"FareDeskModel", "tick", "(I)V"⟩ ⟨"FareDeskModel", "tick", "(I)V"⟩ ∈ fd_T := fd_t3 199 rfl rfl
theorem fw3_200 : Cond.code ⟨"FareDeskModel", "tick", "(I)V"⟩ prog_6_method_29_code 5 none ∈ fd_T := fd_t3 200 rfl rfl
theorem fw3_201 : Cond.methodLink "FareDeskLaw" 124 ⟨"FareDeskModel", "close", "()I"⟩ ∈ fd_T := fd_t3 201 rfl rfl
theorem fw3_202 : Cond.instanceMethod ⟨"FareDeskModel", "close", "()I"⟩ ∈ fd_T := fd_t3 202 rfl rfl
theorem fw3_203 : Cond.selects "FareDeskModel" ⟨"FareDeskModel", "close", "()I"⟩ ⟨"FareDeskModel", "close", "()I"⟩ ∈ fd_T := fd_t3 203 rfl rfl
theorem fw3_204 : Cond.code ⟨"FareDeskModel", "close", "()I"⟩ prog_6_method_31_code 4 (some .int) ∈ fd_T := fd_t3 204 rfl rfl
theorem fw3_205 : Cond.methodLink "FareDeskModel" 116 ⟨"FareDeskModel", "board", "(I)I"⟩ ∈ fd_T := fd_t3 205 rfl rfl
theorem fw3_207 : Cond.instanceMethod ⟨"FareDeskModel", "board", "(I)I"⟩ ∈ fd_T := fd_t3 207 rfl rfl
theorem fw3_208 : Cond.code ⟨"FareDeskModel", "board", "(I)I"⟩ prog_6_method_30_code 3 (some .int) ∈ fd_T := fd_t3 208 rfl rfl
theorem fw3_209 : Cond.methodLink "FareDeskLaw" 127 ⟨"FareDeskModel", "of", "(II)I"⟩ ∈ fd_T := fd_t3 209 rfl rfl
theorem fw3_210 : Cond.instanceMethod ⟨"FareDeskModel", "of", "(II)I"⟩ ∈ fd_T := fd_t3 210 rfl rfl
theorem fw3_211 : Cond.selects "FareDeskModel" ⟨"FareDeskModel", "of", "(II)I"⟩ ⟨"FareDeskModel", "of", "(II)I"⟩ ∈ fd_T := fd_t3 211 rfl rfl
theorem fw3_212 : Cond.code ⟨"FareDeskModel", "of", "(II)I"⟩ prog_6_method_32_code 3 (some .int) ∈ fd_T := fd_t3 212 rfl rfl
theorem fw3_213 : Cond.methodLink "FareDeskLaw" 131 ⟨"FareDeskModel", "at", "(I)I"⟩ ∈ fd_T := fd_t3 213 rfl rfl
theorem fw3_214 : Cond.instanceMethod ⟨"FareDeskModel", "at", "(I)I"⟩ ∈ fd_T := fd_t3 214 rfl rfl
theorem fw3_215 : Cond.selects "FareDeskModel" ⟨"FareDeskModel", "at", "(I)I"⟩ ⟨"FareDeskModel", "at", "(I)I"⟩ ∈ fd_T := fd_t3 215 rfl rfl
theorem fw3_216 : Cond.code ⟨"FareDeskModel", "at", "(I)I"⟩ prog_6_method_33_code 2 (some .int) ∈ fd_T := fd_t3 216 rfl rfl
theorem fw3_217 : Cond.methodLink "FareDeskLaw" 134 ⟨"FareDeskModel", "count", "(I)I"⟩ ∈ fd_T := fd_t3 217 rfl rfl
theorem fw3_218 : Cond.instanceMethod ⟨"FareDeskModel", "count", "(I)I"⟩ ∈ fd_T := fd_t3 218 rfl rfl
theorem fw3_219 : Cond.selects "FareDeskModel" ⟨"FareDeskModel", "count", "(I)I"⟩ ⟨"FareDeskModel", "count", "(I)I"⟩ ∈ fd_T := fd_t3 219 rfl rfl
theorem fw3_220 : Cond.code ⟨"FareDeskModel", "count", "(I)I"⟩ prog_6_method_34_code 4 (some .int) ∈ fd_T := fd_t3 220 rfl rfl
theorem fw3_221 : Cond.arrayClass .long ∈ fd_T := fd_t3 221 rfl rfl
theorem fs1_0 : Cond.selects "FareDesk" ⟨"FareDesk", "requireFare", "(I)V"⟩ ⟨"FareDesk", "requireFare", "(I)V"⟩ ∈ fd_T := fd_s1 (y := ⟨"FareDesk", "requireFare", "(I)V"⟩) 0 7 rfl
theorem fs1_1 : Cond.selects "java/lang/Throwable" ⟨"java/lang/Throwable", "fillInStackTrace", "(I)Ljava/lang/Throwable;"⟩ ⟨"java/lang/Throwable", "fillInStackTrace", "(I)Ljava/lang/Throwable;"⟩ ∈ fd_T := fd_s1 (y := ⟨"java/lang/Throwable", "fillInStackTrace", "(I)Ljava/lang/Throwable;"⟩) 1 6 rfl
theorem fs1_2 : Cond.selects "FareDesk" ⟨"FareDesk", "requireOpen", "()V"⟩ ⟨"FareDesk", "requireOpen", "()V"⟩ ∈ fd_T := fd_s1 (y := ⟨"FareDesk", "requireOpen", "()V"⟩) 2 7 rfl
theorem fs1_3 : Cond.selects "FareDesk" ⟨"FareDesk", "serveWaiting", "()V"⟩ ⟨"FareDesk", "serveWaiting", "()V"⟩ ∈ fd_T := fd_s1 (y := ⟨"FareDesk", "serveWaiting", "()V"⟩) 3 7 rfl
theorem fs1_4 : Cond.selects "FareDesk" ⟨"FareDesk", "startHolding", "(LFareDesk$Booking;)V"⟩ ⟨"FareDesk", "startHolding", "(LFareDesk$Booking;)V"⟩ ∈ fd_T := fd_s1 (y := ⟨"FareDesk", "startHolding", "(LFareDesk$Booking;)V"⟩) 4 7 rfl
theorem fs1_5 : Cond.selects "FareDesk" ⟨"FareDesk", "requireNewBooking", "(III)V"⟩ ⟨"FareDesk", "requireNewBooking", "(III)V"⟩ ∈ fd_T := fd_s1 (y := ⟨"FareDesk", "requireNewBooking", "(III)V"⟩) 5 7 rfl
theorem fs1_6 : Cond.selects "FareDesk" ⟨"FareDesk", "requireRoom", "(II)V"⟩ ⟨"FareDesk", "requireRoom", "(II)V"⟩ ∈ fd_T := fd_s1 (y := ⟨"FareDesk", "requireRoom", "(II)V"⟩) 6 7 rfl
theorem fs1_7 : Cond.selects "FareDesk" ⟨"FareDesk", "newBooking", "(III)LFareDesk$Booking;"⟩ ⟨"FareDesk", "newBooking", "(III)LFareDesk$Booking;"⟩ ∈ fd_T := fd_s1 (y := ⟨"FareDesk", "newBooking", "(III)LFareDesk$Booking;"⟩) 7 7 rfl
theorem fs1_8 : Cond.selects "FareDesk" ⟨"FareDesk", "find", "(I)LFareDesk$Booking;"⟩ ⟨"FareDesk", "find", "(I)LFareDesk$Booking;"⟩ ∈ fd_T := fd_s1 (y := ⟨"FareDesk", "find", "(I)LFareDesk$Booking;"⟩) 8 7 rfl
theorem fs1_9 : Cond.selects "FareDesk" ⟨"FareDesk", "requireCountingOrWaiting", "(LFareDesk$Booking;)V"⟩ ⟨"FareDesk", "requireCountingOrWaiting", "(LFareDesk$Booking;)V"⟩ ∈ fd_T := fd_s1 (y := ⟨"FareDesk", "requireCountingOrWaiting", "(LFareDesk$Booking;)V"⟩) 9 7 rfl
theorem fs1_10 : Cond.selects "FareDesk" ⟨"FareDesk", "payBack", "(LFareDesk$Booking;I)I"⟩ ⟨"FareDesk", "payBack", "(LFareDesk$Booking;I)I"⟩ ∈ fd_T := fd_s1 (y := ⟨"FareDesk", "payBack", "(LFareDesk$Booking;I)I"⟩) 10 7 rfl
theorem fs1_11 : Cond.selects "FareDesk" ⟨"FareDesk", "giveUp", "(LFareDesk$Booking;I)V"⟩ ⟨"FareDesk", "giveUp", "(LFareDesk$Booking;I)V"⟩ ∈ fd_T := fd_s1 (y := ⟨"FareDesk", "giveUp", "(LFareDesk$Booking;I)V"⟩) 11 7 rfl
theorem fs1_12 : Cond.selects "FareDesk" ⟨"FareDesk", "requireSeatsMissing", "(LFareDesk$Booking;)V"⟩ ⟨"FareDesk", "requireSeatsMissing", "(LFareDesk$Booking;)V"⟩ ∈ fd_T := fd_s1 (y := ⟨"FareDesk", "requireSeatsMissing", "(LFareDesk$Booking;)V"⟩) 12 7 rfl
theorem fs1_13 : Cond.selects "FareDesk" ⟨"FareDesk", "expireDue", "()Z"⟩ ⟨"FareDesk", "expireDue", "()Z"⟩ ∈ fd_T := fd_s1 (y := ⟨"FareDesk", "expireDue", "()Z"⟩) 13 7 rfl
theorem fs1_14 : Cond.selects "FareDesk" ⟨"FareDesk", "endUnconfirmed", "()V"⟩ ⟨"FareDesk", "endUnconfirmed", "()V"⟩ ∈ fd_T := fd_s1 (y := ⟨"FareDesk", "endUnconfirmed", "()V"⟩) 14 7 rfl
theorem fs1_15 : Cond.selects "FareDesk" ⟨"FareDesk", "boardFare", "(I)I"⟩ ⟨"FareDesk", "boardFare", "(I)I"⟩ ∈ fd_T := fd_s1 (y := ⟨"FareDesk", "boardFare", "(I)I"⟩) 15 7 rfl
theorem fs2_0 : Cond.selects "FareDesk" ⟨"FareDesk", "board", "(LFareDesk$Booking;)I"⟩ ⟨"FareDesk", "board", "(LFareDesk$Booking;)I"⟩ ∈ fd_T := fd_s2 (y := ⟨"FareDesk", "board", "(LFareDesk$Booking;)I"⟩) 0 7 rfl
theorem fs2_1 : Cond.selects "FareDesk" ⟨"FareDesk", "leaveBehind", "(LFareDesk$Booking;)V"⟩ ⟨"FareDesk", "leaveBehind", "(LFareDesk$Booking;)V"⟩ ∈ fd_T := fd_s2 (y := ⟨"FareDesk", "leaveBehind", "(LFareDesk$Booking;)V"⟩) 1 7 rfl
theorem fs2_2 : Cond.selects "FareDesk" ⟨"FareDesk", "waitingBookings", "()I"⟩ ⟨"FareDesk", "waitingBookings", "()I"⟩ ∈ fd_T := fd_s2 (y := ⟨"FareDesk", "waitingBookings", "()I"⟩) 2 7 rfl
theorem fs2_3 : Cond.selects "FareDeskModel" ⟨"FareDeskModel", "noFare", "(I)Z"⟩ ⟨"FareDeskModel", "noFare", "(I)Z"⟩ ∈ fd_T := fd_s2 (y := ⟨"FareDeskModel", "noFare", "(I)Z"⟩) 3 17 rfl
theorem fs2_4 : Cond.selects "FareDeskModel" ⟨"FareDeskModel", "serve", "()V"⟩ ⟨"FareDeskModel", "serve", "()V"⟩ ∈ fd_T := fd_s2 (y := ⟨"FareDeskModel", "serve", "()V"⟩) 4 17 rfl
theorem fs2_5 : Cond.selects "FareDeskModel" ⟨"FareDeskModel", "roomOf", "(II)I"⟩ ⟨"FareDeskModel", "roomOf", "(II)I"⟩ ∈ fd_T := fd_s2 (y := ⟨"FareDeskModel", "roomOf", "(II)I"⟩) 5 17 rfl
theorem fs2_6 : Cond.selects "FareDeskModel" ⟨"FareDeskModel", "counts", "(I)Z"⟩ ⟨"FareDeskModel", "counts", "(I)Z"⟩ ∈ fd_T := fd_s2 (y := ⟨"FareDeskModel", "counts", "(I)Z"⟩) 6 17 rfl
theorem fs2_7 : Cond.selects "FareDeskModel" ⟨"FareDeskModel", "checked", "(III)I"⟩ ⟨"FareDeskModel", "checked", "(III)I"⟩ ∈ fd_T := fd_s2 (y := ⟨"FareDeskModel", "checked", "(III)I"⟩) 7 17 rfl
theorem fs2_8 : Cond.selects "FareDeskModel" ⟨"FareDeskModel", "make", "(IIII)I"⟩ ⟨"FareDeskModel", "make", "(IIII)I"⟩ ∈ fd_T := fd_s2 (y := ⟨"FareDeskModel", "make", "(IIII)I"⟩) 8 17 rfl
theorem fs2_9 : Cond.selects "FareDeskModel" ⟨"FareDeskModel", "noBooking", "(I)Z"⟩ ⟨"FareDeskModel", "noBooking", "(I)Z"⟩ ∈ fd_T := fd_s2 (y := ⟨"FareDeskModel", "noBooking", "(I)Z"⟩) 9 17 rfl
theorem fs2_10 : Cond.selects "FareDeskModel" ⟨"FareDeskModel", "giveBack", "(II)I"⟩ ⟨"FareDeskModel", "giveBack", "(II)I"⟩ ∈ fd_T := fd_s2 (y := ⟨"FareDeskModel", "giveBack", "(II)I"⟩) 10 17 rfl
theorem fs2_11 : Cond.selects "FareDeskModel" ⟨"FareDeskModel", "leaveSeats", "(II)V"⟩ ⟨"FareDeskModel", "leaveSeats", "(II)V"⟩ ∈ fd_T := fd_s2 (y := ⟨"FareDeskModel", "leaveSeats", "(II)V"⟩) 11 17 rfl
theorem fs2_12 : Cond.selects "FareDeskModel" ⟨"FareDeskModel", "hasAll", "(I)Z"⟩ ⟨"FareDeskModel", "hasAll", "(I)Z"⟩ ∈ fd_T := fd_s2 (y := ⟨"FareDeskModel", "hasAll", "(I)Z"⟩) 12 17 rfl
theorem fs2_13 : Cond.selects "FareDeskModel" ⟨"FareDeskModel", "give", "(II)V"⟩ ⟨"FareDeskModel", "give", "(II)V"⟩ ∈ fd_T := fd_s2 (y := ⟨"FareDeskModel", "give", "(II)V"⟩) 13 17 rfl
theorem fs2_14 : Cond.selects "FareDeskModel" ⟨"FareDeskModel", "freeSeats", "()I"⟩ ⟨"FareDeskModel", "freeSeats", "()I"⟩ ∈ fd_T := fd_s2 (y := ⟨"FareDeskModel", "freeSeats", "()I"⟩) 14 17 rfl
theorem fs2_15 : Cond.selects "FareDeskModel" ⟨"FareDeskModel", "findRun", "(IZ)I"⟩ ⟨"FareDeskModel", "findRun", "(IZ)I"⟩ ∈ fd_T := fd_s2 (y := ⟨"FareDeskModel", "findRun", "(IZ)I"⟩) 15 17 rfl
theorem fs3_0 : Cond.selects "FareDeskModel" ⟨"FareDeskModel", "isRun", "(IIZ)Z"⟩ ⟨"FareDeskModel", "isRun", "(IIZ)Z"⟩ ∈ fd_T := fd_s3 (y := ⟨"FareDeskModel", "isRun", "(IIZ)Z"⟩) 0 17 rfl
theorem fs3_1 : Cond.selects "FareDeskModel" ⟨"FareDeskModel", "giveFirst", "(II)V"⟩ ⟨"FareDeskModel", "giveFirst", "(II)V"⟩ ∈ fd_T := fd_s3 (y := ⟨"FareDeskModel", "giveFirst", "(II)V"⟩) 1 17 rfl
theorem fs3_2 : Cond.selects "FareDeskModel" ⟨"FareDeskModel", "board", "(I)I"⟩ ⟨"FareDeskModel", "board", "(I)I"⟩ ∈ fd_T := fd_s3 (y := ⟨"FareDeskModel", "board", "(I)I"⟩) 2 17 rfl
