/-! names: fields of each kind of object, methods, what each instruction is; by program out of the listing -/
def RD : String := "FareDesk"
def TD : u_T := fun k => match k with
  | 0 => ("FareDesk", "fares", "LFareDesk$Fares;", true)
  | 1 => ("FareDesk", "cabin", "LFareDesk$Cabin;", true)
  | 2 => ("FareDesk", "bookings", "[LFareDesk$Booking;", true)
  | 3 => ("FareDesk", "made", "I", false)
  | 4 => ("FareDesk", "time", "I", false)
  | 5 => ("FareDesk", "till", "I", false)
  | _ => ("FareDesk", "closed", "Z", false)
def tyD : Nat → FieldType := fun k => match k with
  | 0 => .object "FareDesk$Fares"
  | 1 => .object "FareDesk$Cabin"
  | 2 => .array (.object "FareDesk$Booking")
  | 3 => .int
  | 4 => .int
  | 5 => .int
  | _ => .boolean
theorem nmD : ∀ a, a < 7 → ∀ b, b < 7 → a ≠ b → (TD a).2.1 ≠ (TD b).2.1 := by decide +kernel
theorem tyD_ok : ∀ k, k < 7 → parseFieldDescriptor (TD k).2.2.1 = some (tyD k) := by decide +kernel
theorem lyD_0 : u_lay RD TD 0 ∈ fd_T := fd_t1 120 rfl rfl
theorem lyD_1 : u_lay RD TD 1 ∈ fd_T := fd_t1 122 rfl rfl
theorem lyD_2 : u_lay RD TD 2 ∈ fd_T := fd_t1 124 rfl rfl
theorem lyD_3 : u_lay RD TD 3 ∈ fd_T := fd_t1 126 rfl rfl
theorem lyD_4 : u_lay RD TD 4 ∈ fd_T := fd_t1 128 rfl rfl
theorem lyD_5 : u_lay RD TD 5 ∈ fd_T := fd_t1 130 rfl rfl
theorem lyD_6 : u_lay RD TD 6 ∈ fd_T := fd_t1 132 rfl rfl
theorem wsD : ∀ w ∈ u_ws RD TD 7, w ∈ fd_T := by
  intro w hw
  unfold u_ws at hw
  obtain ⟨k, hk, rfl⟩ := List.mem_map.mp hw
  rw [List.mem_range] at hk
  rcases (show k = 0 ∨ k = 1 ∨ k = 2 ∨ k = 3 ∨ k = 4 ∨ k = 5 ∨ k = 6 by omega) with rfl | rfl | rfl | rfl | rfl | rfl | rfl
  · exact lyD_0
  · exact lyD_1
  · exact lyD_2
  · exact lyD_3
  · exact lyD_4
  · exact lyD_5
  · exact lyD_6
def RB : String := "FareDesk$Booking"
def TB : u_T := fun k => match k with
  | 0 => ("FareDesk$Booking", "number", "I", true)
  | 1 => ("FareDesk$Booking", "seats", "[I", true)
  | 2 => ("FareDesk$Booking", "seated", "I", false)
  | 3 => ("FareDesk$Booking", "state", "I", false)
  | 4 => ("FareDesk$Booking", "fare", "I", false)
  | 5 => ("FareDesk$Booking", "places", "I", false)
  | 6 => ("FareDesk$Booking", "paid", "I", false)
  | 7 => ("FareDesk$Booking", "ticks", "I", false)
  | _ => ("FareDesk$Booking", "expiry", "I", false)
def tyB : Nat → FieldType := fun k => match k with
  | 0 => .int
  | 1 => .array .int
  | 2 => .int
  | 3 => .int
  | 4 => .int
  | 5 => .int
  | 6 => .int
  | 7 => .int
  | _ => .int
theorem nmB : ∀ a, a < 9 → ∀ b, b < 9 → a ≠ b → (TB a).2.1 ≠ (TB b).2.1 := by decide +kernel
theorem tyB_ok : ∀ k, k < 9 → parseFieldDescriptor (TB k).2.2.1 = some (tyB k) := by decide +kernel
theorem lyB_0 : u_lay RB TB 0 ∈ fd_T := fd_t1 94 rfl rfl
theorem lyB_1 : u_lay RB TB 1 ∈ fd_T := fd_t1 96 rfl rfl
theorem lyB_2 : u_lay RB TB 2 ∈ fd_T := fd_t1 98 rfl rfl
theorem lyB_3 : u_lay RB TB 3 ∈ fd_T := fd_t1 100 rfl rfl
theorem lyB_4 : u_lay RB TB 4 ∈ fd_T := fd_t1 102 rfl rfl
theorem lyB_5 : u_lay RB TB 5 ∈ fd_T := fd_t1 104 rfl rfl
theorem lyB_6 : u_lay RB TB 6 ∈ fd_T := fd_t1 106 rfl rfl
theorem lyB_7 : u_lay RB TB 7 ∈ fd_T := fd_t1 108 rfl rfl
theorem lyB_8 : u_lay RB TB 8 ∈ fd_T := fd_t1 110 rfl rfl
theorem wsB : ∀ w ∈ u_ws RB TB 9, w ∈ fd_T := by
  intro w hw
  unfold u_ws at hw
  obtain ⟨k, hk, rfl⟩ := List.mem_map.mp hw
  rw [List.mem_range] at hk
  rcases (show k = 0 ∨ k = 1 ∨ k = 2 ∨ k = 3 ∨ k = 4 ∨ k = 5 ∨ k = 6 ∨ k = 7 ∨ k = 8 by omega) with rfl | rfl | rfl | rfl | rfl | rfl | rfl | rfl | rfl
  · exact lyB_0
  · exact lyB_1
  · exact lyB_2
  · exact lyB_3
  · exact lyB_4
  · exact lyB_5
  · exact lyB_6
  · exact lyB_7
  · exact lyB_8
def RF : String := "FareDesk$Fares"
def TF : u_T := fun k => match k with
  | 0 => ("FareDesk$Fares", "limits", "[I", true)
  | 1 => ("FareDesk$Fares", "prices", "[I", true)
  | _ => ("FareDesk$Fares", "shares", "[I", true)
def tyF : Nat → FieldType := fun k => match k with
  | 0 => .array .int
  | 1 => .array .int
  | _ => .array .int
theorem nmF : ∀ a, a < 3 → ∀ b, b < 3 → a ≠ b → (TF a).2.1 ≠ (TF b).2.1 := by decide +kernel
theorem tyF_ok : ∀ k, k < 3 → parseFieldDescriptor (TF k).2.2.1 = some (tyF k) := by decide +kernel
theorem lyF_0 : u_lay RF TF 0 ∈ fd_T := fd_t1 45 rfl rfl
theorem lyF_1 : u_lay RF TF 1 ∈ fd_T := fd_t1 47 rfl rfl
theorem lyF_2 : u_lay RF TF 2 ∈ fd_T := fd_t1 49 rfl rfl
theorem wsF : ∀ w ∈ u_ws RF TF 3, w ∈ fd_T := by
  intro w hw
  unfold u_ws at hw
  obtain ⟨k, hk, rfl⟩ := List.mem_map.mp hw
  rw [List.mem_range] at hk
  rcases (show k = 0 ∨ k = 1 ∨ k = 2 by omega) with rfl | rfl | rfl
  · exact lyF_0
  · exact lyF_1
  · exact lyF_2
def RK : String := "FareDesk$Cabin"
def TK : u_T := fun k => match k with
  | 0 => ("FareDesk$Cabin", "holders", "[I", true)
  | _ => ("FareDesk$Cabin", "free", "I", false)
def tyK : Nat → FieldType := fun k => match k with
  | 0 => .array .int
  | _ => .int
theorem nmK : ∀ a, a < 2 → ∀ b, b < 2 → a ≠ b → (TK a).2.1 ≠ (TK b).2.1 := by decide +kernel
theorem tyK_ok : ∀ k, k < 2 → parseFieldDescriptor (TK k).2.2.1 = some (tyK k) := by decide +kernel
theorem lyK_0 : u_lay RK TK 0 ∈ fd_T := fd_t1 64 rfl rfl
theorem lyK_1 : u_lay RK TK 1 ∈ fd_T := fd_t1 66 rfl rfl
theorem wsK : ∀ w ∈ u_ws RK TK 2, w ∈ fd_T := by
  intro w hw
  unfold u_ws at hw
  obtain ⟨k, hk, rfl⟩ := List.mem_map.mp hw
  rw [List.mem_range] at hk
  rcases (show k = 0 ∨ k = 1 by omega) with rfl | rfl
  · exact lyK_0
  · exact lyK_1
def RM : String := "FareDeskModel"
def TM : u_T := fun k => match k with
  | 0 => ("FareDeskModel", "thrown", "I", false)
  | 1 => ("FareDeskModel", "seatCount", "I", false)
  | 2 => ("FareDeskModel", "now", "I", false)
  | 3 => ("FareDeskModel", "till", "I", false)
  | 4 => ("FareDeskModel", "closed", "Z", false)
  | 5 => ("FareDeskModel", "prices", "[I", false)
  | 6 => ("FareDeskModel", "limits", "[I", false)
  | 7 => ("FareDeskModel", "bookings", "I", false)
  | 8 => ("FareDeskModel", "states", "[I", false)
  | 9 => ("FareDeskModel", "fares", "[I", false)
  | 10 => ("FareDeskModel", "places", "[I", false)
  | 11 => ("FareDeskModel", "ticks", "[I", false)
  | 12 => ("FareDeskModel", "ends", "[I", false)
  | 13 => ("FareDeskModel", "paid", "[I", false)
  | 14 => ("FareDeskModel", "seats", "[I", false)
  | 15 => ("FareDeskModel", "given", "[I", false)
  | _ => ("FareDeskModel", "owner", "[I", false)
def tyM : Nat → FieldType := fun k => match k with
  | 0 => .int
  | 1 => .int
  | 2 => .int
  | 3 => .int
  | 4 => .boolean
  | 5 => .array .int
  | 6 => .array .int
  | 7 => .int
  | 8 => .array .int
  | 9 => .array .int
  | 10 => .array .int
  | 11 => .array .int
  | 12 => .array .int
  | 13 => .array .int
  | 14 => .array .int
  | 15 => .array .int
  | _ => .array .int
theorem nmM : ∀ a, a < 17 → ∀ b, b < 17 → a ≠ b → (TM a).2.1 ≠ (TM b).2.1 := by decide +kernel
theorem tyM_ok : ∀ k, k < 17 → parseFieldDescriptor (TM k).2.2.1 = some (tyM k) := by decide +kernel
theorem lyM_0 : u_lay RM TM 0 ∈ fd_T := fd_t3 54 rfl rfl
theorem lyM_1 : u_lay RM TM 1 ∈ fd_T := fd_t3 56 rfl rfl
theorem lyM_2 : u_lay RM TM 2 ∈ fd_T := fd_t3 58 rfl rfl
theorem lyM_3 : u_lay RM TM 3 ∈ fd_T := fd_t3 60 rfl rfl
theorem lyM_4 : u_lay RM TM 4 ∈ fd_T := fd_t3 62 rfl rfl
theorem lyM_5 : u_lay RM TM 5 ∈ fd_T := fd_t3 64 rfl rfl
theorem lyM_6 : u_lay RM TM 6 ∈ fd_T := fd_t3 66 rfl rfl
theorem lyM_7 : u_lay RM TM 7 ∈ fd_T := fd_t3 68 rfl rfl
theorem lyM_8 : u_lay RM TM 8 ∈ fd_T := fd_t3 70 rfl rfl
theorem lyM_9 : u_lay RM TM 9 ∈ fd_T := fd_t3 72 rfl rfl
theorem lyM_10 : u_lay RM TM 10 ∈ fd_T := fd_t3 74 rfl rfl
theorem lyM_11 : u_lay RM TM 11 ∈ fd_T := fd_t3 76 rfl rfl
theorem lyM_12 : u_lay RM TM 12 ∈ fd_T := fd_t3 78 rfl rfl
theorem lyM_13 : u_lay RM TM 13 ∈ fd_T := fd_t3 80 rfl rfl
theorem lyM_14 : u_lay RM TM 14 ∈ fd_T := fd_t3 82 rfl rfl
theorem lyM_15 : u_lay RM TM 15 ∈ fd_T := fd_t3 84 rfl rfl
theorem lyM_16 : u_lay RM TM 16 ∈ fd_T := fd_t3 86 rfl rfl
theorem wsM : ∀ w ∈ u_ws RM TM 17, w ∈ fd_T := by
  intro w hw
  unfold u_ws at hw
  obtain ⟨k, hk, rfl⟩ := List.mem_map.mp hw
  rw [List.mem_range] at hk
  rcases (show k = 0 ∨ k = 1 ∨ k = 2 ∨ k = 3 ∨ k = 4 ∨ k = 5 ∨ k = 6 ∨ k = 7 ∨ k = 8 ∨ k = 9 ∨ k = 10 ∨ k = 11 ∨ k = 12 ∨ k = 13 ∨ k = 14 ∨ k = 15 ∨ k = 16 by omega) with rfl | rfl | rfl | rfl | rfl | rfl | rfl | rfl | rfl | rfl | rfl | rfl | rfl | rfl | rfl | rfl | rfl
  · exact lyM_0
  · exact lyM_1
  · exact lyM_2
  · exact lyM_3
  · exact lyM_4
  · exact lyM_5
  · exact lyM_6
  · exact lyM_7
  · exact lyM_8
  · exact lyM_9
  · exact lyM_10
  · exact lyM_11
  · exact lyM_12
  · exact lyM_13
  · exact lyM_14
  · exact lyM_15
  · exact lyM_16
def fd_cl : List vw_C := [(RD, TD, 7), (RB, TB, 9), (RF, TF, 3), (RK, TK, 2), (RM, TM, 17)]
abbrev cD_init : ByteArray := prog_1_method_1_code
def yD_init : MethodName := ⟨"FareDesk", "<init>", "(I)V"⟩
abbrev wD_init : List Cond := Cond.code yD_init cD_init 4 none :: fd_T
theorem kD_init : Cond.code yD_init cD_init 4 none ∈ fd_T := fw1_18
abbrev cF_init : ByteArray := prog_4_method_1_code
def yF_init : MethodName := ⟨"FareDesk$Fares", "<init>", "(I)V"⟩
abbrev wF_init : List Cond := Cond.code yF_init cF_init 2 none :: fd_T
theorem kF_init : Cond.code yF_init cF_init 2 none ∈ fd_T := fw1_34
abbrev cK_init : ByteArray := prog_3_method_1_code
def yK_init : MethodName := ⟨"FareDesk$Cabin", "<init>", "(I)V"⟩
abbrev wK_init : List Cond := Cond.code yK_init cK_init 2 none :: fd_T
theorem kK_init : Cond.code yK_init cK_init 2 none ∈ fd_T := fw1_57
abbrev cB_init : ByteArray := prog_2_method_1_code
def yB_init : MethodName := ⟨"FareDesk$Booking", "<init>", "(I)V"⟩
abbrev wB_init : List Cond := Cond.code yB_init cB_init 2 none :: fd_T
theorem kB_init : Cond.code yB_init cB_init 2 none ∈ fd_T := fw1_72
abbrev cD_at : ByteArray := prog_1_method_16_code
def yD_at : MethodName := ⟨"FareDesk", "at", "(I)I"⟩
abbrev wD_at : List Cond := Cond.code yD_at cD_at 2 (some .int) :: fd_T
theorem kD_at : Cond.code yD_at cD_at 2 (some .int) ∈ fd_T := fw1_138
theorem gD_at {own : String} {idx : Nat} (hl : Cond.methodLink own idx yD_at ∈ fd_T) : GoodIn fd_T (wsV own idx "FareDesk" yD_at wD_at) := fd_cwV hl fw1_136 fw1_137 fw1_1 kD_at
abbrev cK_hasSeat : ByteArray := prog_3_method_2_code
def yK_hasSeat : MethodName := ⟨"FareDesk$Cabin", "hasSeat", "(I)Z"⟩
abbrev wK_hasSeat : List Cond := Cond.code yK_hasSeat cK_hasSeat 2 (some .boolean) :: fd_T
theorem kK_hasSeat : Cond.code yK_hasSeat cK_hasSeat 2 (some .boolean) ∈ fd_T := fw1_142
theorem gK_hasSeat {own : String} {idx : Nat} (hl : Cond.methodLink own idx yK_hasSeat ∈ fd_T) : GoodIn fd_T (wsV own idx "FareDesk$Cabin" yK_hasSeat wK_hasSeat) := fd_cwV hl fw1_140 fw1_141 fw1_5 kK_hasSeat
abbrev cL_cell : ByteArray := method_2_code
def yL_cell : MethodName := ⟨"FareDeskLaw", "cell", "([II)I"⟩
abbrev wL_cell : List Cond := Cond.code yL_cell cL_cell 2 (some .int) :: fd_T
theorem kL_cell : Cond.code yL_cell cL_cell 2 (some .int) ∈ fd_T := fw1_145
abbrev cL_limit : ByteArray := method_3_code
def yL_limit : MethodName := ⟨"FareDeskLaw", "limit", "(LFareDesk;II)I"⟩
abbrev cD_limit : ByteArray := prog_1_method_2_code
def yD_limit : MethodName := ⟨"FareDesk", "limit", "(II)V"⟩
abbrev wD_limit : List Cond := Cond.code yD_limit cD_limit 3 none :: fd_T
theorem kD_limit : Cond.code yD_limit cD_limit 3 none ∈ fd_T := fw1_154
theorem gD_limit {own : String} {idx : Nat} (hl : Cond.methodLink own idx yD_limit ∈ fd_T) : GoodIn fd_T (wsV own idx "FareDesk" yD_limit wD_limit) := fd_cwV hl fw1_152 fw1_153 fw1_1 kD_limit
abbrev cD_requireFare : ByteArray := prog_1_method_18_code
def yD_requireFare : MethodName := ⟨"FareDesk", "requireFare", "(I)V"⟩
abbrev wD_requireFare : List Cond := Cond.code yD_requireFare cD_requireFare 2 none :: fd_T
theorem kD_requireFare : Cond.code yD_requireFare cD_requireFare 2 none ∈ fd_T := fw1_158
theorem gD_requireFare {own : String} {idx : Nat} (hl : Cond.methodLink own idx yD_requireFare ∈ fd_T) : GoodIn fd_T (wsV own idx "FareDesk" yD_requireFare wD_requireFare) := fd_cwV hl fw1_157 fs1_0 fw1_1 kD_requireFare
abbrev cF_mayLimit : ByteArray := prog_4_method_2_code
def yF_mayLimit : MethodName := ⟨"FareDesk$Fares", "mayLimit", "(II)Z"⟩
abbrev wF_mayLimit : List Cond := Cond.code yF_mayLimit cF_mayLimit 3 (some .boolean) :: fd_T
theorem kF_mayLimit : Cond.code yF_mayLimit cF_mayLimit 3 (some .boolean) ∈ fd_T := fw1_230
theorem gF_mayLimit {own : String} {idx : Nat} (hl : Cond.methodLink own idx yF_mayLimit ∈ fd_T) : GoodIn fd_T (wsV own idx "FareDesk$Fares" yF_mayLimit wF_mayLimit) := fd_cwV hl fw1_228 fw1_229 fw1_3 kF_mayLimit
abbrev cD_requireOpen : ByteArray := prog_1_method_19_code
def yD_requireOpen : MethodName := ⟨"FareDesk", "requireOpen", "()V"⟩
abbrev wD_requireOpen : List Cond := Cond.code yD_requireOpen cD_requireOpen 1 none :: fd_T
theorem kD_requireOpen : Cond.code yD_requireOpen cD_requireOpen 1 none ∈ fd_T := fw1_235
theorem gD_requireOpen {own : String} {idx : Nat} (hl : Cond.methodLink own idx yD_requireOpen ∈ fd_T) : GoodIn fd_T (wsV own idx "FareDesk" yD_requireOpen wD_requireOpen) := fd_cwV hl fw1_234 fs1_2 fw1_1 kD_requireOpen
abbrev cD_serveWaiting : ByteArray := prog_1_method_27_code
def yD_serveWaiting : MethodName := ⟨"FareDesk", "serveWaiting", "()V"⟩
abbrev wD_serveWaiting : List Cond := Cond.code yD_serveWaiting cD_serveWaiting 3 none :: fd_T
theorem kD_serveWaiting : Cond.code yD_serveWaiting cD_serveWaiting 3 none ∈ fd_T := fw2_15
theorem gD_serveWaiting {own : String} {idx : Nat} (hl : Cond.methodLink own idx yD_serveWaiting ∈ fd_T) : GoodIn fd_T (wsV own idx "FareDesk" yD_serveWaiting wD_serveWaiting) := fd_cwV hl fw2_14 fs1_3 fw1_1 kD_serveWaiting
abbrev cF_roomIn : ByteArray := prog_4_method_4_code
def yF_roomIn : MethodName := ⟨"FareDesk$Fares", "roomIn", "(I)I"⟩
abbrev wF_roomIn : List Cond := Cond.code yF_roomIn cF_roomIn 4 (some .int) :: fd_T
theorem kF_roomIn : Cond.code yF_roomIn cF_roomIn 4 (some .int) ∈ fd_T := fw2_19
theorem gF_roomIn {own : String} {idx : Nat} (hl : Cond.methodLink own idx yF_roomIn ∈ fd_T) : GoodIn fd_T (wsV own idx "FareDesk$Fares" yF_roomIn wF_roomIn) := fd_cwV hl fw2_17 fw2_18 fw1_3 kF_roomIn
abbrev cF_shareFrom : ByteArray := prog_4_method_3_code
def yF_shareFrom : MethodName := ⟨"FareDesk$Fares", "shareFrom", "(I)I"⟩
abbrev wF_shareFrom : List Cond := Cond.code yF_shareFrom cF_shareFrom 4 (some .int) :: fd_T
theorem kF_shareFrom : Cond.code yF_shareFrom cF_shareFrom 4 (some .int) ∈ fd_T := fw2_23
theorem gF_shareFrom {own : String} {idx : Nat} (hl : Cond.methodLink own idx yF_shareFrom ∈ fd_T) : GoodIn fd_T (wsV own idx "FareDesk$Fares" yF_shareFrom wF_shareFrom) := fd_cwV hl fw2_21 fw2_22 fw1_3 kF_shareFrom
abbrev cD_startHolding : ByteArray := prog_1_method_26_code
def yD_startHolding : MethodName := ⟨"FareDesk", "startHolding", "(LFareDesk$Booking;)V"⟩
abbrev wD_startHolding : List Cond := Cond.code yD_startHolding cD_startHolding 2 none :: fd_T
theorem kD_startHolding : Cond.code yD_startHolding cD_startHolding 2 none ∈ fd_T := fw2_28
theorem gD_startHolding {own : String} {idx : Nat} (hl : Cond.methodLink own idx yD_startHolding ∈ fd_T) : GoodIn fd_T (wsV own idx "FareDesk" yD_startHolding wD_startHolding) := fd_cwV hl fw2_27 fs1_4 fw1_1 kD_startHolding
abbrev cL_price : ByteArray := method_4_code
def yL_price : MethodName := ⟨"FareDeskLaw", "price", "(LFareDesk;II)I"⟩
abbrev cD_price : ByteArray := prog_1_method_3_code
def yD_price : MethodName := ⟨"FareDesk", "price", "(II)V"⟩
abbrev wD_price : List Cond := Cond.code yD_price cD_price 3 none :: fd_T
theorem kD_price : Cond.code yD_price cD_price 3 none ∈ fd_T := fw2_35
theorem gD_price {own : String} {idx : Nat} (hl : Cond.methodLink own idx yD_price ∈ fd_T) : GoodIn fd_T (wsV own idx "FareDesk" yD_price wD_price) := fd_cwV hl fw2_33 fw2_34 fw1_1 kD_price
abbrev cL_room : ByteArray := method_5_code
def yL_room : MethodName := ⟨"FareDeskLaw", "room", "(LFareDesk;I[J)I"⟩
abbrev cD_room : ByteArray := prog_1_method_4_code
def yD_room : MethodName := ⟨"FareDesk", "room", "(I)I"⟩
abbrev wD_room : List Cond := Cond.code yD_room cD_room 2 (some .int) :: fd_T
theorem kD_room : Cond.code yD_room cD_room 2 (some .int) ∈ fd_T := fw2_43
theorem gD_room {own : String} {idx : Nat} (hl : Cond.methodLink own idx yD_room ∈ fd_T) : GoodIn fd_T (wsV own idx "FareDesk" yD_room wD_room) := fd_cwV hl fw2_41 fw2_42 fw1_1 kD_room
abbrev cL_hold : ByteArray := method_6_code
def yL_hold : MethodName := ⟨"FareDeskLaw", "hold", "(LFareDesk;III[J)I"⟩
abbrev cD_hold : ByteArray := prog_1_method_5_code
def yD_hold : MethodName := ⟨"FareDesk", "hold", "(III)I"⟩
abbrev wD_hold : List Cond := Cond.code yD_hold cD_hold 5 (some .int) :: fd_T
theorem kD_hold : Cond.code yD_hold cD_hold 5 (some .int) ∈ fd_T := fw2_51
theorem gD_hold {own : String} {idx : Nat} (hl : Cond.methodLink own idx yD_hold ∈ fd_T) : GoodIn fd_T (wsV own idx "FareDesk" yD_hold wD_hold) := fd_cwV hl fw2_49 fw2_50 fw1_1 kD_hold
abbrev cD_requireNewBooking : ByteArray := prog_1_method_20_code
def yD_requireNewBooking : MethodName := ⟨"FareDesk", "requireNewBooking", "(III)V"⟩
abbrev wD_requireNewBooking : List Cond := Cond.code yD_requireNewBooking cD_requireNewBooking 4 none :: fd_T
theorem kD_requireNewBooking : Cond.code yD_requireNewBooking cD_requireNewBooking 4 none ∈ fd_T := fw2_55
theorem gD_requireNewBooking {own : String} {idx : Nat} (hl : Cond.methodLink own idx yD_requireNewBooking ∈ fd_T) : GoodIn fd_T (wsV own idx "FareDesk" yD_requireNewBooking wD_requireNewBooking) := fd_cwV hl fw2_54 fs1_5 fw1_1 kD_requireNewBooking
abbrev cD_requireRoom : ByteArray := prog_1_method_21_code
def yD_requireRoom : MethodName := ⟨"FareDesk", "requireRoom", "(II)V"⟩
abbrev wD_requireRoom : List Cond := Cond.code yD_requireRoom cD_requireRoom 3 none :: fd_T
theorem kD_requireRoom : Cond.code yD_requireRoom cD_requireRoom 3 none ∈ fd_T := fw2_62
theorem gD_requireRoom {own : String} {idx : Nat} (hl : Cond.methodLink own idx yD_requireRoom ∈ fd_T) : GoodIn fd_T (wsV own idx "FareDesk" yD_requireRoom wD_requireRoom) := fd_cwV hl fw2_61 fs1_6 fw1_1 kD_requireRoom
abbrev cD_newBooking : ByteArray := prog_1_method_25_code
def yD_newBooking : MethodName := ⟨"FareDesk", "newBooking", "(III)LFareDesk$Booking;"⟩
abbrev wD_newBooking : List Cond := Cond.code yD_newBooking cD_newBooking 5 (some (.object "FareDesk$Booking")) :: fd_T
theorem kD_newBooking : Cond.code yD_newBooking cD_newBooking 5 (some (.object "FareDesk$Booking")) ∈ fd_T := fw2_82
theorem gD_newBooking {own : String} {idx : Nat} (hl : Cond.methodLink own idx yD_newBooking ∈ fd_T) : GoodIn fd_T (wsV own idx "FareDesk" yD_newBooking wD_newBooking) := fd_cwV hl fw2_81 fs1_7 fw1_1 kD_newBooking
abbrev cL_join : ByteArray := method_7_code
def yL_join : MethodName := ⟨"FareDeskLaw", "join", "(LFareDesk;III[J)I"⟩
abbrev cD_join : ByteArray := prog_1_method_6_code
def yD_join : MethodName := ⟨"FareDesk", "join", "(III)I"⟩
abbrev wD_join : List Cond := Cond.code yD_join cD_join 5 (some .int) :: fd_T
theorem kD_join : Cond.code yD_join cD_join 5 (some .int) ∈ fd_T := fw2_89
theorem gD_join {own : String} {idx : Nat} (hl : Cond.methodLink own idx yD_join ∈ fd_T) : GoodIn fd_T (wsV own idx "FareDesk" yD_join wD_join) := fd_cwV hl fw2_87 fw2_88 fw1_1 kD_join
abbrev cL_confirm : ByteArray := method_8_code
def yL_confirm : MethodName := ⟨"FareDeskLaw", "confirm", "(LFareDesk;I[J)I"⟩
abbrev cD_confirm : ByteArray := prog_1_method_7_code
def yD_confirm : MethodName := ⟨"FareDesk", "confirm", "(I)I"⟩
abbrev wD_confirm : List Cond := Cond.code yD_confirm cD_confirm 3 (some .int) :: fd_T
theorem kD_confirm : Cond.code yD_confirm cD_confirm 3 (some .int) ∈ fd_T := fw2_96
theorem gD_confirm {own : String} {idx : Nat} (hl : Cond.methodLink own idx yD_confirm ∈ fd_T) : GoodIn fd_T (wsV own idx "FareDesk" yD_confirm wD_confirm) := fd_cwV hl fw2_94 fw2_95 fw1_1 kD_confirm
abbrev cD_find : ByteArray := prog_1_method_24_code
def yD_find : MethodName := ⟨"FareDesk", "find", "(I)LFareDesk$Booking;"⟩
abbrev wD_find : List Cond := Cond.code yD_find cD_find 2 (some (.object "FareDesk$Booking")) :: fd_T
theorem kD_find : Cond.code yD_find cD_find 2 (some (.object "FareDesk$Booking")) ∈ fd_T := fw2_100
theorem gD_find {own : String} {idx : Nat} (hl : Cond.methodLink own idx yD_find ∈ fd_T) : GoodIn fd_T (wsV own idx "FareDesk" yD_find wD_find) := fd_cwV hl fw2_99 fs1_8 fw1_1 kD_find
abbrev cL_cancel : ByteArray := method_9_code
def yL_cancel : MethodName := ⟨"FareDeskLaw", "cancel", "(LFareDesk;I[J)I"⟩
abbrev cD_cancel : ByteArray := prog_1_method_8_code
def yD_cancel : MethodName := ⟨"FareDesk", "cancel", "(I)I"⟩
abbrev wD_cancel : List Cond := Cond.code yD_cancel cD_cancel 4 (some .int) :: fd_T
theorem kD_cancel : Cond.code yD_cancel cD_cancel 4 (some .int) ∈ fd_T := fw2_109
theorem gD_cancel {own : String} {idx : Nat} (hl : Cond.methodLink own idx yD_cancel ∈ fd_T) : GoodIn fd_T (wsV own idx "FareDesk" yD_cancel wD_cancel) := fd_cwV hl fw2_107 fw2_108 fw1_1 kD_cancel
abbrev cD_requireCountingOrWaiting : ByteArray := prog_1_method_22_code
def yD_requireCountingOrWaiting : MethodName := ⟨"FareDesk", "requireCountingOrWaiting", "(LFareDesk$Booking;)V"⟩
abbrev wD_requireCountingOrWaiting : List Cond := Cond.code yD_requireCountingOrWaiting cD_requireCountingOrWaiting 2 none :: fd_T
theorem kD_requireCountingOrWaiting : Cond.code yD_requireCountingOrWaiting cD_requireCountingOrWaiting 2 none ∈ fd_T := fw2_113
theorem gD_requireCountingOrWaiting {own : String} {idx : Nat} (hl : Cond.methodLink own idx yD_requireCountingOrWaiting ∈ fd_T) : GoodIn fd_T (wsV own idx "FareDesk" yD_requireCountingOrWaiting wD_requireCountingOrWaiting) := fd_cwV hl fw2_112 fs1_9 fw1_1 kD_requireCountingOrWaiting
abbrev cB_isCounting : ByteArray := prog_2_method_2_code
def yB_isCounting : MethodName := ⟨"FareDesk$Booking", "isCounting", "()Z"⟩
abbrev wB_isCounting : List Cond := Cond.code yB_isCounting cB_isCounting 1 (some .boolean) :: fd_T
theorem kB_isCounting : Cond.code yB_isCounting cB_isCounting 1 (some .boolean) ∈ fd_T := fw2_117
theorem gB_isCounting {own : String} {idx : Nat} (hl : Cond.methodLink own idx yB_isCounting ∈ fd_T) : GoodIn fd_T (wsV own idx "FareDesk$Booking" yB_isCounting wB_isCounting) := fd_cwV hl fw2_115 fw2_116 fw1_6 kB_isCounting
abbrev cD_payBack : ByteArray := prog_1_method_29_code
def yD_payBack : MethodName := ⟨"FareDesk", "payBack", "(LFareDesk$Booking;I)I"⟩
abbrev wD_payBack : List Cond := Cond.code yD_payBack cD_payBack 5 (some .int) :: fd_T
theorem kD_payBack : Cond.code yD_payBack cD_payBack 5 (some .int) ∈ fd_T := fw2_122
theorem gD_payBack {own : String} {idx : Nat} (hl : Cond.methodLink own idx yD_payBack ∈ fd_T) : GoodIn fd_T (wsV own idx "FareDesk" yD_payBack wD_payBack) := fd_cwV hl fw2_121 fs1_10 fw1_1 kD_payBack
abbrev cB_paidFor : ByteArray := prog_2_method_4_code
def yB_paidFor : MethodName := ⟨"FareDesk$Booking", "paidFor", "(I)I"⟩
abbrev wB_paidFor : List Cond := Cond.code yB_paidFor cB_paidFor 2 (some .int) :: fd_T
theorem kB_paidFor : Cond.code yB_paidFor cB_paidFor 2 (some .int) ∈ fd_T := fw2_126
theorem gB_paidFor {own : String} {idx : Nat} (hl : Cond.methodLink own idx yB_paidFor ∈ fd_T) : GoodIn fd_T (wsV own idx "FareDesk$Booking" yB_paidFor wB_paidFor) := fd_cwV hl fw2_124 fw2_125 fw1_6 kB_paidFor
abbrev cF_partBack : ByteArray := prog_4_method_6_code
def yF_partBack : MethodName := ⟨"FareDesk$Fares", "partBack", "(II)I"⟩
abbrev wF_partBack : List Cond := Cond.code yF_partBack cF_partBack 3 (some .int) :: fd_T
theorem kF_partBack : Cond.code yF_partBack cF_partBack 3 (some .int) ∈ fd_T := fw2_130
theorem gF_partBack {own : String} {idx : Nat} (hl : Cond.methodLink own idx yF_partBack ∈ fd_T) : GoodIn fd_T (wsV own idx "FareDesk$Fares" yF_partBack wF_partBack) := fd_cwV hl fw2_128 fw2_129 fw1_3 kF_partBack
abbrev cD_giveUp : ByteArray := prog_1_method_30_code
def yD_giveUp : MethodName := ⟨"FareDesk", "giveUp", "(LFareDesk$Booking;I)V"⟩
abbrev wD_giveUp : List Cond := Cond.code yD_giveUp cD_giveUp 3 none :: fd_T
theorem kD_giveUp : Cond.code yD_giveUp cD_giveUp 3 none ∈ fd_T := fw2_134
theorem gD_giveUp {own : String} {idx : Nat} (hl : Cond.methodLink own idx yD_giveUp ∈ fd_T) : GoodIn fd_T (wsV own idx "FareDesk" yD_giveUp wD_giveUp) := fd_cwV hl fw2_133 fs1_11 fw1_1 kD_giveUp
abbrev cK_takeAllBut : ByteArray := prog_3_method_6_code
def yK_takeAllBut : MethodName := ⟨"FareDesk$Cabin", "takeAllBut", "(LFareDesk$Booking;I)V"⟩
abbrev wK_takeAllBut : List Cond := Cond.code yK_takeAllBut cK_takeAllBut 3 none :: fd_T
theorem kK_takeAllBut : Cond.code yK_takeAllBut cK_takeAllBut 3 none ∈ fd_T := fw2_138
theorem gK_takeAllBut {own : String} {idx : Nat} (hl : Cond.methodLink own idx yK_takeAllBut ∈ fd_T) : GoodIn fd_T (wsV own idx "FareDesk$Cabin" yK_takeAllBut wK_takeAllBut) := fd_cwV hl fw2_136 fw2_137 fw1_5 kK_takeAllBut
abbrev cL_shrink : ByteArray := method_10_code
def yL_shrink : MethodName := ⟨"FareDeskLaw", "shrink", "(LFareDesk;II[J)I"⟩
abbrev cD_shrink : ByteArray := prog_1_method_9_code
def yD_shrink : MethodName := ⟨"FareDesk", "shrink", "(II)I"⟩
abbrev wD_shrink : List Cond := Cond.code yD_shrink cD_shrink 5 (some .int) :: fd_T
theorem kD_shrink : Cond.code yD_shrink cD_shrink 5 (some .int) ∈ fd_T := fw2_145
theorem gD_shrink {own : String} {idx : Nat} (hl : Cond.methodLink own idx yD_shrink ∈ fd_T) : GoodIn fd_T (wsV own idx "FareDesk" yD_shrink wD_shrink) := fd_cwV hl fw2_143 fw2_144 fw1_1 kD_shrink
abbrev cL_change : ByteArray := method_11_code
def yL_change : MethodName := ⟨"FareDeskLaw", "change", "(LFareDesk;II)I"⟩
abbrev cD_change : ByteArray := prog_1_method_10_code
def yD_change : MethodName := ⟨"FareDesk", "change", "(II)V"⟩
abbrev wD_change : List Cond := Cond.code yD_change cD_change 4 none :: fd_T
theorem kD_change : Cond.code yD_change cD_change 4 none ∈ fd_T := fw2_153
theorem gD_change {own : String} {idx : Nat} (hl : Cond.methodLink own idx yD_change ∈ fd_T) : GoodIn fd_T (wsV own idx "FareDesk" yD_change wD_change) := fd_cwV hl fw2_151 fw2_152 fw1_1 kD_change
abbrev cF_roomWithout : ByteArray := prog_4_method_5_code
def yF_roomWithout : MethodName := ⟨"FareDesk$Fares", "roomWithout", "(LFareDesk$Booking;I)I"⟩
abbrev wF_roomWithout : List Cond := Cond.code yF_roomWithout cF_roomWithout 4 (some .int) :: fd_T
theorem kF_roomWithout : Cond.code yF_roomWithout cF_roomWithout 4 (some .int) ∈ fd_T := fw2_158
theorem gF_roomWithout {own : String} {idx : Nat} (hl : Cond.methodLink own idx yF_roomWithout ∈ fd_T) : GoodIn fd_T (wsV own idx "FareDesk$Fares" yF_roomWithout wF_roomWithout) := fd_cwV hl fw2_156 fw2_157 fw1_3 kF_roomWithout
abbrev cL_seat : ByteArray := method_12_code
def yL_seat : MethodName := ⟨"FareDeskLaw", "seat", "(LFareDesk;II[J)I"⟩
abbrev cD_seat : ByteArray := prog_1_method_11_code
def yD_seat : MethodName := ⟨"FareDesk", "seat", "(II)I"⟩
abbrev wD_seat : List Cond := Cond.code yD_seat cD_seat 4 (some .int) :: fd_T
theorem kD_seat : Cond.code yD_seat cD_seat 4 (some .int) ∈ fd_T := fw2_167
theorem gD_seat {own : String} {idx : Nat} (hl : Cond.methodLink own idx yD_seat ∈ fd_T) : GoodIn fd_T (wsV own idx "FareDesk" yD_seat wD_seat) := fd_cwV hl fw2_165 fw2_166 fw1_1 kD_seat
abbrev cD_requireSeatsMissing : ByteArray := prog_1_method_23_code
def yD_requireSeatsMissing : MethodName := ⟨"FareDesk", "requireSeatsMissing", "(LFareDesk$Booking;)V"⟩
abbrev wD_requireSeatsMissing : List Cond := Cond.code yD_requireSeatsMissing cD_requireSeatsMissing 2 none :: fd_T
theorem kD_requireSeatsMissing : Cond.code yD_requireSeatsMissing cD_requireSeatsMissing 2 none ∈ fd_T := fw2_172
theorem gD_requireSeatsMissing {own : String} {idx : Nat} (hl : Cond.methodLink own idx yD_requireSeatsMissing ∈ fd_T) : GoodIn fd_T (wsV own idx "FareDesk" yD_requireSeatsMissing wD_requireSeatsMissing) := fd_cwV hl fw2_171 fs1_12 fw1_1 kD_requireSeatsMissing
abbrev cB_seatsMissing : ByteArray := prog_2_method_3_code
def yB_seatsMissing : MethodName := ⟨"FareDesk$Booking", "seatsMissing", "()I"⟩
abbrev wB_seatsMissing : List Cond := Cond.code yB_seatsMissing cB_seatsMissing 1 (some .int) :: fd_T
theorem kB_seatsMissing : Cond.code yB_seatsMissing cB_seatsMissing 1 (some .int) ∈ fd_T := fw2_177
theorem gB_seatsMissing {own : String} {idx : Nat} (hl : Cond.methodLink own idx yB_seatsMissing ∈ fd_T) : GoodIn fd_T (wsV own idx "FareDesk$Booking" yB_seatsMissing wB_seatsMissing) := fd_cwV hl fw2_175 fw2_176 fw1_6 kB_seatsMissing
abbrev cK_isFree : ByteArray := prog_3_method_3_code
def yK_isFree : MethodName := ⟨"FareDesk$Cabin", "isFree", "(I)Z"⟩
abbrev wK_isFree : List Cond := Cond.code yK_isFree cK_isFree 2 (some .boolean) :: fd_T
theorem kK_isFree : Cond.code yK_isFree cK_isFree 2 (some .boolean) ∈ fd_T := fw2_182
theorem gK_isFree {own : String} {idx : Nat} (hl : Cond.methodLink own idx yK_isFree ∈ fd_T) : GoodIn fd_T (wsV own idx "FareDesk$Cabin" yK_isFree wK_isFree) := fd_cwV hl fw2_180 fw2_181 fw1_5 kK_isFree
abbrev cK_give : ByteArray := prog_3_method_4_code
def yK_give : MethodName := ⟨"FareDesk$Cabin", "give", "(LFareDesk$Booking;I)V"⟩
abbrev wK_give : List Cond := Cond.code yK_give cK_give 3 none :: fd_T
theorem kK_give : Cond.code yK_give cK_give 3 none ∈ fd_T := fw2_187
theorem gK_give {own : String} {idx : Nat} (hl : Cond.methodLink own idx yK_give ∈ fd_T) : GoodIn fd_T (wsV own idx "FareDesk$Cabin" yK_give wK_give) := fd_cwV hl fw2_185 fw2_186 fw1_5 kK_give
abbrev cL_together : ByteArray := method_13_code
def yL_together : MethodName := ⟨"FareDeskLaw", "together", "(LFareDesk;I[J)I"⟩
abbrev cD_together : ByteArray := prog_1_method_12_code
def yD_together : MethodName := ⟨"FareDesk", "together", "(I)I"⟩
abbrev wD_together : List Cond := Cond.code yD_together cD_together 4 (some .int) :: fd_T
theorem kD_together : Cond.code yD_together cD_together 4 (some .int) ∈ fd_T := fw2_194
theorem gD_together {own : String} {idx : Nat} (hl : Cond.methodLink own idx yD_together ∈ fd_T) : GoodIn fd_T (wsV own idx "FareDesk" yD_together wD_together) := fd_cwV hl fw2_192 fw2_193 fw1_1 kD_together
abbrev cK_bestStart : ByteArray := prog_3_method_7_code
def yK_bestStart : MethodName := ⟨"FareDesk$Cabin", "bestStart", "(I)I"⟩
abbrev wK_bestStart : List Cond := Cond.code yK_bestStart cK_bestStart 3 (some .int) :: fd_T
theorem kK_bestStart : Cond.code yK_bestStart cK_bestStart 3 (some .int) ∈ fd_T := fw2_199
theorem gK_bestStart {own : String} {idx : Nat} (hl : Cond.methodLink own idx yK_bestStart ∈ fd_T) : GoodIn fd_T (wsV own idx "FareDesk$Cabin" yK_bestStart wK_bestStart) := fd_cwV hl fw2_197 fw2_198 fw1_5 kK_bestStart
abbrev cK_blockStart : ByteArray := prog_3_method_8_code
def yK_blockStart : MethodName := ⟨"FareDesk$Cabin", "blockStart", "(II)I"⟩
abbrev wK_blockStart : List Cond := Cond.code yK_blockStart cK_blockStart 5 (some .int) :: fd_T
theorem kK_blockStart : Cond.code yK_blockStart cK_blockStart 5 (some .int) ∈ fd_T := fw2_203
theorem gK_blockStart {own : String} {idx : Nat} (hl : Cond.methodLink own idx yK_blockStart ∈ fd_T) : GoodIn fd_T (wsV own idx "FareDesk$Cabin" yK_blockStart wK_blockStart) := fd_cwV hl fw2_201 fw2_202 fw1_5 kK_blockStart
abbrev cK_areFree : ByteArray := prog_3_method_9_code
def yK_areFree : MethodName := ⟨"FareDesk$Cabin", "areFree", "(II)Z"⟩
abbrev wK_areFree : List Cond := Cond.code yK_areFree cK_areFree 4 (some .boolean) :: fd_T
theorem kK_areFree : Cond.code yK_areFree cK_areFree 4 (some .boolean) ∈ fd_T := fw2_207
theorem gK_areFree {own : String} {idx : Nat} (hl : Cond.methodLink own idx yK_areFree ∈ fd_T) : GoodIn fd_T (wsV own idx "FareDesk$Cabin" yK_areFree wK_areFree) := fd_cwV hl fw2_205 fw2_206 fw1_5 kK_areFree
abbrev cK_giveMissing : ByteArray := prog_3_method_5_code
def yK_giveMissing : MethodName := ⟨"FareDesk$Cabin", "giveMissing", "(LFareDesk$Booking;I)V"⟩
abbrev wK_giveMissing : List Cond := Cond.code yK_giveMissing cK_giveMissing 4 none :: fd_T
theorem kK_giveMissing : Cond.code yK_giveMissing cK_giveMissing 4 none ∈ fd_T := fw2_212
theorem gK_giveMissing {own : String} {idx : Nat} (hl : Cond.methodLink own idx yK_giveMissing ∈ fd_T) : GoodIn fd_T (wsV own idx "FareDesk$Cabin" yK_giveMissing wK_giveMissing) := fd_cwV hl fw2_210 fw2_211 fw1_5 kK_giveMissing
abbrev cL_tick : ByteArray := method_14_code
def yL_tick : MethodName := ⟨"FareDeskLaw", "tick", "(LFareDesk;I)I"⟩
abbrev cD_tick : ByteArray := prog_1_method_13_code
def yD_tick : MethodName := ⟨"FareDesk", "tick", "(I)V"⟩
abbrev wD_tick : List Cond := Cond.code yD_tick cD_tick 3 none :: fd_T
theorem kD_tick : Cond.code yD_tick cD_tick 3 none ∈ fd_T := fw2_221
theorem gD_tick {own : String} {idx : Nat} (hl : Cond.methodLink own idx yD_tick ∈ fd_T) : GoodIn fd_T (wsV own idx "FareDesk" yD_tick wD_tick) := fd_cwV hl fw2_219 fw2_220 fw1_1 kD_tick
abbrev cD_expireDue : ByteArray := prog_1_method_31_code
def yD_expireDue : MethodName := ⟨"FareDesk", "expireDue", "()Z"⟩
abbrev wD_expireDue : List Cond := Cond.code yD_expireDue cD_expireDue 4 (some .boolean) :: fd_T
theorem kD_expireDue : Cond.code yD_expireDue cD_expireDue 4 (some .boolean) ∈ fd_T := fw2_226
theorem gD_expireDue {own : String} {idx : Nat} (hl : Cond.methodLink own idx yD_expireDue ∈ fd_T) : GoodIn fd_T (wsV own idx "FareDesk" yD_expireDue wD_expireDue) := fd_cwV hl fw2_225 fs1_13 fw1_1 kD_expireDue
abbrev cL_close : ByteArray := method_15_code
def yL_close : MethodName := ⟨"FareDeskLaw", "close", "(LFareDesk;[J)I"⟩
abbrev cD_close : ByteArray := prog_1_method_14_code
def yD_close : MethodName := ⟨"FareDesk", "close", "()I"⟩
abbrev wD_close : List Cond := Cond.code yD_close cD_close 3 (some .int) :: fd_T
theorem kD_close : Cond.code yD_close cD_close 3 (some .int) ∈ fd_T := fw2_233
theorem gD_close {own : String} {idx : Nat} (hl : Cond.methodLink own idx yD_close ∈ fd_T) : GoodIn fd_T (wsV own idx "FareDesk" yD_close wD_close) := fd_cwV hl fw2_231 fw2_232 fw1_1 kD_close
abbrev cD_endUnconfirmed : ByteArray := prog_1_method_32_code
def yD_endUnconfirmed : MethodName := ⟨"FareDesk", "endUnconfirmed", "()V"⟩
abbrev wD_endUnconfirmed : List Cond := Cond.code yD_endUnconfirmed cD_endUnconfirmed 3 none :: fd_T
theorem kD_endUnconfirmed : Cond.code yD_endUnconfirmed cD_endUnconfirmed 3 none ∈ fd_T := fw2_237
theorem gD_endUnconfirmed {own : String} {idx : Nat} (hl : Cond.methodLink own idx yD_endUnconfirmed ∈ fd_T) : GoodIn fd_T (wsV own idx "FareDesk" yD_endUnconfirmed wD_endUnconfirmed) := fd_cwV hl fw2_236 fs1_14 fw1_1 kD_endUnconfirmed
abbrev cD_boardFare : ByteArray := prog_1_method_33_code
def yD_boardFare : MethodName := ⟨"FareDesk", "boardFare", "(I)I"⟩
abbrev wD_boardFare : List Cond := Cond.code yD_boardFare cD_boardFare 5 (some .int) :: fd_T
theorem kD_boardFare : Cond.code yD_boardFare cD_boardFare 5 (some .int) ∈ fd_T := fw3_1
theorem gD_boardFare {own : String} {idx : Nat} (hl : Cond.methodLink own idx yD_boardFare ∈ fd_T) : GoodIn fd_T (wsV own idx "FareDesk" yD_boardFare wD_boardFare) := fd_cwV hl fw3_0 fs1_15 fw1_1 kD_boardFare
abbrev cD_board : ByteArray := prog_1_method_34_code
def yD_board : MethodName := ⟨"FareDesk", "board", "(LFareDesk$Booking;)I"⟩
abbrev wD_board : List Cond := Cond.code yD_board cD_board 2 (some .int) :: fd_T
theorem kD_board : Cond.code yD_board cD_board 2 (some .int) ∈ fd_T := fw3_5
theorem gD_board {own : String} {idx : Nat} (hl : Cond.methodLink own idx yD_board ∈ fd_T) : GoodIn fd_T (wsV own idx "FareDesk" yD_board wD_board) := fd_cwV hl fw3_4 fs2_0 fw1_1 kD_board
abbrev cD_leaveBehind : ByteArray := prog_1_method_35_code
def yD_leaveBehind : MethodName := ⟨"FareDesk", "leaveBehind", "(LFareDesk$Booking;)V"⟩
abbrev wD_leaveBehind : List Cond := Cond.code yD_leaveBehind cD_leaveBehind 2 none :: fd_T
theorem kD_leaveBehind : Cond.code yD_leaveBehind cD_leaveBehind 2 none ∈ fd_T := fw3_9
theorem gD_leaveBehind {own : String} {idx : Nat} (hl : Cond.methodLink own idx yD_leaveBehind ∈ fd_T) : GoodIn fd_T (wsV own idx "FareDesk" yD_leaveBehind wD_leaveBehind) := fd_cwV hl fw3_8 fs2_1 fw1_1 kD_leaveBehind
abbrev cL_of : ByteArray := method_16_code
def yL_of : MethodName := ⟨"FareDeskLaw", "of", "(LFareDesk;II[J)I"⟩
abbrev cD_of : ByteArray := prog_1_method_15_code
def yD_of : MethodName := ⟨"FareDesk", "of", "(II)I"⟩
abbrev wD_of : List Cond := Cond.code yD_of cD_of 4 (some .int) :: fd_T
theorem kD_of : Cond.code yD_of cD_of 4 (some .int) ∈ fd_T := fw3_16
theorem gD_of {own : String} {idx : Nat} (hl : Cond.methodLink own idx yD_of ∈ fd_T) : GoodIn fd_T (wsV own idx "FareDesk" yD_of wD_of) := fd_cwV hl fw3_14 fw3_15 fw1_1 kD_of
abbrev cL_count : ByteArray := method_17_code
def yL_count : MethodName := ⟨"FareDeskLaw", "count", "(LFareDesk;I[J)I"⟩
abbrev cD_count : ByteArray := prog_1_method_17_code
def yD_count : MethodName := ⟨"FareDesk", "count", "(I)I"⟩
abbrev wD_count : List Cond := Cond.code yD_count cD_count 2 (some .int) :: fd_T
theorem kD_count : Cond.code yD_count cD_count 2 (some .int) ∈ fd_T := fw3_24
theorem gD_count {own : String} {idx : Nat} (hl : Cond.methodLink own idx yD_count ∈ fd_T) : GoodIn fd_T (wsV own idx "FareDesk" yD_count wD_count) := fd_cwV hl fw3_22 fw3_23 fw1_1 kD_count
abbrev cD_waitingBookings : ByteArray := prog_1_method_28_code
def yD_waitingBookings : MethodName := ⟨"FareDesk", "waitingBookings", "()I"⟩
abbrev wD_waitingBookings : List Cond := Cond.code yD_waitingBookings cD_waitingBookings 3 (some .int) :: fd_T
theorem kD_waitingBookings : Cond.code yD_waitingBookings cD_waitingBookings 3 (some .int) ∈ fd_T := fw3_29
theorem gD_waitingBookings {own : String} {idx : Nat} (hl : Cond.methodLink own idx yD_waitingBookings ∈ fd_T) : GoodIn fd_T (wsV own idx "FareDesk" yD_waitingBookings wD_waitingBookings) := fd_cwV hl fw3_28 fs2_2 fw1_1 kD_waitingBookings
abbrev cM_init : ByteArray := prog_6_method_1_code
def yM_init : MethodName := ⟨"FareDeskModel", "<init>", "(I)V"⟩
abbrev wM_init : List Cond := Cond.code yM_init cM_init 3 none :: fd_T
theorem kM_init : Cond.code yM_init cM_init 3 none ∈ fd_T := fw3_35
abbrev cM_thrown : ByteArray := prog_6_method_2_code
def yM_thrown : MethodName := ⟨"FareDeskModel", "thrown", "()I"⟩
abbrev wM_thrown : List Cond := Cond.code yM_thrown cM_thrown 1 (some .int) :: fd_T
theorem kM_thrown : Cond.code yM_thrown cM_thrown 1 (some .int) ∈ fd_T := fw3_92
theorem gM_thrown {own : String} {idx : Nat} (hl : Cond.methodLink own idx yM_thrown ∈ fd_T) : GoodIn fd_T (wsV own idx "FareDeskModel" yM_thrown wM_thrown) := fd_cwV hl fw3_90 fw3_91 fw1_7 kM_thrown
abbrev cM_limit : ByteArray := prog_6_method_8_code
def yM_limit : MethodName := ⟨"FareDeskModel", "limit", "(II)V"⟩
abbrev wM_limit : List Cond := Cond.code yM_limit cM_limit 4 none :: fd_T
theorem kM_limit : Cond.code yM_limit cM_limit 4 none ∈ fd_T := fw3_96
theorem gM_limit {own : String} {idx : Nat} (hl : Cond.methodLink own idx yM_limit ∈ fd_T) : GoodIn fd_T (wsV own idx "FareDeskModel" yM_limit wM_limit) := fd_cwV hl fw3_94 fw3_95 fw1_7 kM_limit
abbrev cM_noFare : ByteArray := prog_6_method_3_code
def yM_noFare : MethodName := ⟨"FareDeskModel", "noFare", "(I)Z"⟩
abbrev wM_noFare : List Cond := Cond.code yM_noFare cM_noFare 2 (some .boolean) :: fd_T
theorem kM_noFare : Cond.code yM_noFare cM_noFare 2 (some .boolean) ∈ fd_T := fw3_100
theorem gM_noFare {own : String} {idx : Nat} (hl : Cond.methodLink own idx yM_noFare ∈ fd_T) : GoodIn fd_T (wsV own idx "FareDeskModel" yM_noFare wM_noFare) := fd_cwV hl fw3_99 fs2_3 fw1_7 kM_noFare
abbrev cM_serve : ByteArray := prog_6_method_7_code
def yM_serve : MethodName := ⟨"FareDeskModel", "serve", "()V"⟩
abbrev wM_serve : List Cond := Cond.code yM_serve cM_serve 2 none :: fd_T
theorem kM_serve : Cond.code yM_serve cM_serve 2 none ∈ fd_T := fw3_104
theorem gM_serve {own : String} {idx : Nat} (hl : Cond.methodLink own idx yM_serve ∈ fd_T) : GoodIn fd_T (wsV own idx "FareDeskModel" yM_serve wM_serve) := fd_cwV hl fw3_103 fs2_4 fw1_7 kM_serve
abbrev cM_roomOf : ByteArray := prog_6_method_6_code
def yM_roomOf : MethodName := ⟨"FareDeskModel", "roomOf", "(II)I"⟩
abbrev wM_roomOf : List Cond := Cond.code yM_roomOf cM_roomOf 8 (some .int) :: fd_T
theorem kM_roomOf : Cond.code yM_roomOf cM_roomOf 8 (some .int) ∈ fd_T := fw3_108
theorem gM_roomOf {own : String} {idx : Nat} (hl : Cond.methodLink own idx yM_roomOf ∈ fd_T) : GoodIn fd_T (wsV own idx "FareDeskModel" yM_roomOf wM_roomOf) := fd_cwV hl fw3_107 fs2_5 fw1_7 kM_roomOf
abbrev cM_counts : ByteArray := prog_6_method_5_code
def yM_counts : MethodName := ⟨"FareDeskModel", "counts", "(I)Z"⟩
abbrev wM_counts : List Cond := Cond.code yM_counts cM_counts 2 (some .boolean) :: fd_T
theorem kM_counts : Cond.code yM_counts cM_counts 2 (some .boolean) ∈ fd_T := fw3_112
theorem gM_counts {own : String} {idx : Nat} (hl : Cond.methodLink own idx yM_counts ∈ fd_T) : GoodIn fd_T (wsV own idx "FareDeskModel" yM_counts wM_counts) := fd_cwV hl fw3_111 fs2_6 fw1_7 kM_counts
abbrev cM_price : ByteArray := prog_6_method_9_code
def yM_price : MethodName := ⟨"FareDeskModel", "price", "(II)V"⟩
abbrev wM_price : List Cond := Cond.code yM_price cM_price 3 none :: fd_T
theorem kM_price : Cond.code yM_price cM_price 3 none ∈ fd_T := fw3_116
theorem gM_price {own : String} {idx : Nat} (hl : Cond.methodLink own idx yM_price ∈ fd_T) : GoodIn fd_T (wsV own idx "FareDeskModel" yM_price wM_price) := fd_cwV hl fw3_114 fw3_115 fw1_7 kM_price
abbrev cM_room : ByteArray := prog_6_method_10_code
def yM_room : MethodName := ⟨"FareDeskModel", "room", "(I)I"⟩
abbrev wM_room : List Cond := Cond.code yM_room cM_room 2 (some .int) :: fd_T
theorem kM_room : Cond.code yM_room cM_room 2 (some .int) ∈ fd_T := fw3_120
theorem gM_room {own : String} {idx : Nat} (hl : Cond.methodLink own idx yM_room ∈ fd_T) : GoodIn fd_T (wsV own idx "FareDeskModel" yM_room wM_room) := fd_cwV hl fw3_118 fw3_119 fw1_7 kM_room
abbrev cM_hold : ByteArray := prog_6_method_13_code
def yM_hold : MethodName := ⟨"FareDeskModel", "hold", "(III)I"⟩
abbrev wM_hold : List Cond := Cond.code yM_hold cM_hold 4 (some .int) :: fd_T
theorem kM_hold : Cond.code yM_hold cM_hold 4 (some .int) ∈ fd_T := fw3_124
theorem gM_hold {own : String} {idx : Nat} (hl : Cond.methodLink own idx yM_hold ∈ fd_T) : GoodIn fd_T (wsV own idx "FareDeskModel" yM_hold wM_hold) := fd_cwV hl fw3_122 fw3_123 fw1_7 kM_hold
abbrev cM_checked : ByteArray := prog_6_method_11_code
def yM_checked : MethodName := ⟨"FareDeskModel", "checked", "(III)I"⟩
abbrev wM_checked : List Cond := Cond.code yM_checked cM_checked 4 (some .int) :: fd_T
theorem kM_checked : Cond.code yM_checked cM_checked 4 (some .int) ∈ fd_T := fw3_128
theorem gM_checked {own : String} {idx : Nat} (hl : Cond.methodLink own idx yM_checked ∈ fd_T) : GoodIn fd_T (wsV own idx "FareDeskModel" yM_checked wM_checked) := fd_cwV hl fw3_127 fs2_7 fw1_7 kM_checked
abbrev cM_make : ByteArray := prog_6_method_12_code
def yM_make : MethodName := ⟨"FareDeskModel", "make", "(IIII)I"⟩
abbrev wM_make : List Cond := Cond.code yM_make cM_make 6 (some .int) :: fd_T
theorem kM_make : Cond.code yM_make cM_make 6 (some .int) ∈ fd_T := fw3_132
theorem gM_make {own : String} {idx : Nat} (hl : Cond.methodLink own idx yM_make ∈ fd_T) : GoodIn fd_T (wsV own idx "FareDeskModel" yM_make wM_make) := fd_cwV hl fw3_131 fs2_8 fw1_7 kM_make
abbrev cM_join : ByteArray := prog_6_method_14_code
def yM_join : MethodName := ⟨"FareDeskModel", "join", "(III)I"⟩
abbrev wM_join : List Cond := Cond.code yM_join cM_join 5 (some .int) :: fd_T
theorem kM_join : Cond.code yM_join cM_join 5 (some .int) ∈ fd_T := fw3_136
theorem gM_join {own : String} {idx : Nat} (hl : Cond.methodLink own idx yM_join ∈ fd_T) : GoodIn fd_T (wsV own idx "FareDeskModel" yM_join wM_join) := fd_cwV hl fw3_134 fw3_135 fw1_7 kM_join
abbrev cM_confirm : ByteArray := prog_6_method_15_code
def yM_confirm : MethodName := ⟨"FareDeskModel", "confirm", "(I)I"⟩
abbrev wM_confirm : List Cond := Cond.code yM_confirm cM_confirm 2 (some .int) :: fd_T
theorem kM_confirm : Cond.code yM_confirm cM_confirm 2 (some .int) ∈ fd_T := fw3_140
theorem gM_confirm {own : String} {idx : Nat} (hl : Cond.methodLink own idx yM_confirm ∈ fd_T) : GoodIn fd_T (wsV own idx "FareDeskModel" yM_confirm wM_confirm) := fd_cwV hl fw3_138 fw3_139 fw1_7 kM_confirm
abbrev cM_noBooking : ByteArray := prog_6_method_4_code
def yM_noBooking : MethodName := ⟨"FareDeskModel", "noBooking", "(I)Z"⟩
abbrev wM_noBooking : List Cond := Cond.code yM_noBooking cM_noBooking 2 (some .boolean) :: fd_T
theorem kM_noBooking : Cond.code yM_noBooking cM_noBooking 2 (some .boolean) ∈ fd_T := fw3_144
theorem gM_noBooking {own : String} {idx : Nat} (hl : Cond.methodLink own idx yM_noBooking ∈ fd_T) : GoodIn fd_T (wsV own idx "FareDeskModel" yM_noBooking wM_noBooking) := fd_cwV hl fw3_143 fs2_9 fw1_7 kM_noBooking
abbrev cM_cancel : ByteArray := prog_6_method_18_code
def yM_cancel : MethodName := ⟨"FareDeskModel", "cancel", "(I)I"⟩
abbrev wM_cancel : List Cond := Cond.code yM_cancel cM_cancel 3 (some .int) :: fd_T
theorem kM_cancel : Cond.code yM_cancel cM_cancel 3 (some .int) ∈ fd_T := fw3_148
theorem gM_cancel {own : String} {idx : Nat} (hl : Cond.methodLink own idx yM_cancel ∈ fd_T) : GoodIn fd_T (wsV own idx "FareDeskModel" yM_cancel wM_cancel) := fd_cwV hl fw3_146 fw3_147 fw1_7 kM_cancel
abbrev cM_giveBack : ByteArray := prog_6_method_16_code
def yM_giveBack : MethodName := ⟨"FareDeskModel", "giveBack", "(II)I"⟩
abbrev wM_giveBack : List Cond := Cond.code yM_giveBack cM_giveBack 6 (some .int) :: fd_T
theorem kM_giveBack : Cond.code yM_giveBack cM_giveBack 6 (some .int) ∈ fd_T := fw3_152
theorem gM_giveBack {own : String} {idx : Nat} (hl : Cond.methodLink own idx yM_giveBack ∈ fd_T) : GoodIn fd_T (wsV own idx "FareDeskModel" yM_giveBack wM_giveBack) := fd_cwV hl fw3_151 fs2_10 fw1_7 kM_giveBack
abbrev cM_leaveSeats : ByteArray := prog_6_method_17_code
def yM_leaveSeats : MethodName := ⟨"FareDeskModel", "leaveSeats", "(II)V"⟩
abbrev wM_leaveSeats : List Cond := Cond.code yM_leaveSeats cM_leaveSeats 3 none :: fd_T
theorem kM_leaveSeats : Cond.code yM_leaveSeats cM_leaveSeats 3 none ∈ fd_T := fw3_156
theorem gM_leaveSeats {own : String} {idx : Nat} (hl : Cond.methodLink own idx yM_leaveSeats ∈ fd_T) : GoodIn fd_T (wsV own idx "FareDeskModel" yM_leaveSeats wM_leaveSeats) := fd_cwV hl fw3_155 fs2_11 fw1_7 kM_leaveSeats
abbrev cM_shrink : ByteArray := prog_6_method_19_code
def yM_shrink : MethodName := ⟨"FareDeskModel", "shrink", "(II)I"⟩
abbrev wM_shrink : List Cond := Cond.code yM_shrink cM_shrink 4 (some .int) :: fd_T
theorem kM_shrink : Cond.code yM_shrink cM_shrink 4 (some .int) ∈ fd_T := fw3_160
theorem gM_shrink {own : String} {idx : Nat} (hl : Cond.methodLink own idx yM_shrink ∈ fd_T) : GoodIn fd_T (wsV own idx "FareDeskModel" yM_shrink wM_shrink) := fd_cwV hl fw3_158 fw3_159 fw1_7 kM_shrink
abbrev cM_change : ByteArray := prog_6_method_20_code
def yM_change : MethodName := ⟨"FareDeskModel", "change", "(II)V"⟩
abbrev wM_change : List Cond := Cond.code yM_change cM_change 3 none :: fd_T
theorem kM_change : Cond.code yM_change cM_change 3 none ∈ fd_T := fw3_164
theorem gM_change {own : String} {idx : Nat} (hl : Cond.methodLink own idx yM_change ∈ fd_T) : GoodIn fd_T (wsV own idx "FareDeskModel" yM_change wM_change) := fd_cwV hl fw3_162 fw3_163 fw1_7 kM_change
abbrev cM_seat : ByteArray := prog_6_method_24_code
def yM_seat : MethodName := ⟨"FareDeskModel", "seat", "(II)I"⟩
abbrev wM_seat : List Cond := Cond.code yM_seat cM_seat 3 (some .int) :: fd_T
theorem kM_seat : Cond.code yM_seat cM_seat 3 (some .int) ∈ fd_T := fw3_168
theorem gM_seat {own : String} {idx : Nat} (hl : Cond.methodLink own idx yM_seat ∈ fd_T) : GoodIn fd_T (wsV own idx "FareDeskModel" yM_seat wM_seat) := fd_cwV hl fw3_166 fw3_167 fw1_7 kM_seat
abbrev cM_hasAll : ByteArray := prog_6_method_23_code
def yM_hasAll : MethodName := ⟨"FareDeskModel", "hasAll", "(I)Z"⟩
abbrev wM_hasAll : List Cond := Cond.code yM_hasAll cM_hasAll 2 (some .boolean) :: fd_T
theorem kM_hasAll : Cond.code yM_hasAll cM_hasAll 2 (some .boolean) ∈ fd_T := fw3_172
theorem gM_hasAll {own : String} {idx : Nat} (hl : Cond.methodLink own idx yM_hasAll ∈ fd_T) : GoodIn fd_T (wsV own idx "FareDeskModel" yM_hasAll wM_hasAll) := fd_cwV hl fw3_171 fs2_12 fw1_7 kM_hasAll
abbrev cM_give : ByteArray := prog_6_method_21_code
def yM_give : MethodName := ⟨"FareDeskModel", "give", "(II)V"⟩
abbrev wM_give : List Cond := Cond.code yM_give cM_give 3 none :: fd_T
theorem kM_give : Cond.code yM_give cM_give 3 none ∈ fd_T := fw3_176
theorem gM_give {own : String} {idx : Nat} (hl : Cond.methodLink own idx yM_give ∈ fd_T) : GoodIn fd_T (wsV own idx "FareDeskModel" yM_give wM_give) := fd_cwV hl fw3_175 fs2_13 fw1_7 kM_give
abbrev cM_together : ByteArray := prog_6_method_28_code
def yM_together : MethodName := ⟨"FareDeskModel", "together", "(I)I"⟩
abbrev wM_together : List Cond := Cond.code yM_together cM_together 6 (some .int) :: fd_T
theorem kM_together : Cond.code yM_together cM_together 6 (some .int) ∈ fd_T := fw3_180
theorem gM_together {own : String} {idx : Nat} (hl : Cond.methodLink own idx yM_together ∈ fd_T) : GoodIn fd_T (wsV own idx "FareDeskModel" yM_together wM_together) := fd_cwV hl fw3_178 fw3_179 fw1_7 kM_together
abbrev cM_freeSeats : ByteArray := prog_6_method_22_code
def yM_freeSeats : MethodName := ⟨"FareDeskModel", "freeSeats", "()I"⟩
abbrev wM_freeSeats : List Cond := Cond.code yM_freeSeats cM_freeSeats 3 (some .int) :: fd_T
theorem kM_freeSeats : Cond.code yM_freeSeats cM_freeSeats 3 (some .int) ∈ fd_T := fw3_184
theorem gM_freeSeats {own : String} {idx : Nat} (hl : Cond.methodLink own idx yM_freeSeats ∈ fd_T) : GoodIn fd_T (wsV own idx "FareDeskModel" yM_freeSeats wM_freeSeats) := fd_cwV hl fw3_183 fs2_14 fw1_7 kM_freeSeats
abbrev cM_findRun : ByteArray := prog_6_method_26_code
def yM_findRun : MethodName := ⟨"FareDeskModel", "findRun", "(IZ)I"⟩
abbrev wM_findRun : List Cond := Cond.code yM_findRun cM_findRun 4 (some .int) :: fd_T
theorem kM_findRun : Cond.code yM_findRun cM_findRun 4 (some .int) ∈ fd_T := fw3_188
theorem gM_findRun {own : String} {idx : Nat} (hl : Cond.methodLink own idx yM_findRun ∈ fd_T) : GoodIn fd_T (wsV own idx "FareDeskModel" yM_findRun wM_findRun) := fd_cwV hl fw3_187 fs2_15 fw1_7 kM_findRun
abbrev cM_isRun : ByteArray := prog_6_method_25_code
def yM_isRun : MethodName := ⟨"FareDeskModel", "isRun", "(IIZ)Z"⟩
abbrev wM_isRun : List Cond := Cond.code yM_isRun cM_isRun 8 (some .boolean) :: fd_T
theorem kM_isRun : Cond.code yM_isRun cM_isRun 8 (some .boolean) ∈ fd_T := fw3_192
theorem gM_isRun {own : String} {idx : Nat} (hl : Cond.methodLink own idx yM_isRun ∈ fd_T) : GoodIn fd_T (wsV own idx "FareDeskModel" yM_isRun wM_isRun) := fd_cwV hl fw3_191 fs3_0 fw1_7 kM_isRun
abbrev cM_giveFirst : ByteArray := prog_6_method_27_code
def yM_giveFirst : MethodName := ⟨"FareDeskModel", "giveFirst", "(II)V"⟩
abbrev wM_giveFirst : List Cond := Cond.code yM_giveFirst cM_giveFirst 5 none :: fd_T
theorem kM_giveFirst : Cond.code yM_giveFirst cM_giveFirst 5 none ∈ fd_T := fw3_196
theorem gM_giveFirst {own : String} {idx : Nat} (hl : Cond.methodLink own idx yM_giveFirst ∈ fd_T) : GoodIn fd_T (wsV own idx "FareDeskModel" yM_giveFirst wM_giveFirst) := fd_cwV hl fw3_195 fs3_1 fw1_7 kM_giveFirst
abbrev cM_tick : ByteArray := prog_6_method_29_code
def yM_tick : MethodName := ⟨"FareDeskModel", "tick", "(I)V"⟩
abbrev wM_tick : List Cond := Cond.code yM_tick cM_tick 5 none :: fd_T
theorem kM_tick : Cond.code yM_tick cM_tick 5 none ∈ fd_T := fw3_200
theorem gM_tick {own : String} {idx : Nat} (hl : Cond.methodLink own idx yM_tick ∈ fd_T) : GoodIn fd_T (wsV own idx "FareDeskModel" yM_tick wM_tick) := fd_cwV hl fw3_198 fw3_199 fw1_7 kM_tick
abbrev cM_close : ByteArray := prog_6_method_31_code
def yM_close : MethodName := ⟨"FareDeskModel", "close", "()I"⟩
abbrev wM_close : List Cond := Cond.code yM_close cM_close 4 (some .int) :: fd_T
theorem kM_close : Cond.code yM_close cM_close 4 (some .int) ∈ fd_T := fw3_204
theorem gM_close {own : String} {idx : Nat} (hl : Cond.methodLink own idx yM_close ∈ fd_T) : GoodIn fd_T (wsV own idx "FareDeskModel" yM_close wM_close) := fd_cwV hl fw3_202 fw3_203 fw1_7 kM_close
abbrev cM_board : ByteArray := prog_6_method_30_code
def yM_board : MethodName := ⟨"FareDeskModel", "board", "(I)I"⟩
abbrev wM_board : List Cond := Cond.code yM_board cM_board 3 (some .int) :: fd_T
theorem kM_board : Cond.code yM_board cM_board 3 (some .int) ∈ fd_T := fw3_208
theorem gM_board {own : String} {idx : Nat} (hl : Cond.methodLink own idx yM_board ∈ fd_T) : GoodIn fd_T (wsV own idx "FareDeskModel" yM_board wM_board) := fd_cwV hl fw3_207 fs3_2 fw1_7 kM_board
abbrev cM_of : ByteArray := prog_6_method_32_code
def yM_of : MethodName := ⟨"FareDeskModel", "of", "(II)I"⟩
abbrev wM_of : List Cond := Cond.code yM_of cM_of 3 (some .int) :: fd_T
theorem kM_of : Cond.code yM_of cM_of 3 (some .int) ∈ fd_T := fw3_212
theorem gM_of {own : String} {idx : Nat} (hl : Cond.methodLink own idx yM_of ∈ fd_T) : GoodIn fd_T (wsV own idx "FareDeskModel" yM_of wM_of) := fd_cwV hl fw3_210 fw3_211 fw1_7 kM_of
abbrev cM_at : ByteArray := prog_6_method_33_code
def yM_at : MethodName := ⟨"FareDeskModel", "at", "(I)I"⟩
abbrev wM_at : List Cond := Cond.code yM_at cM_at 2 (some .int) :: fd_T
theorem kM_at : Cond.code yM_at cM_at 2 (some .int) ∈ fd_T := fw3_216
theorem gM_at {own : String} {idx : Nat} (hl : Cond.methodLink own idx yM_at ∈ fd_T) : GoodIn fd_T (wsV own idx "FareDeskModel" yM_at wM_at) := fd_cwV hl fw3_214 fw3_215 fw1_7 kM_at
abbrev cM_count : ByteArray := prog_6_method_34_code
def yM_count : MethodName := ⟨"FareDeskModel", "count", "(I)I"⟩
abbrev wM_count : List Cond := Cond.code yM_count cM_count 4 (some .int) :: fd_T
theorem kM_count : Cond.code yM_count cM_count 4 (some .int) ∈ fd_T := fw3_220
theorem gM_count {own : String} {idx : Nat} (hl : Cond.methodLink own idx yM_count ∈ fd_T) : GoodIn fd_T (wsV own idx "FareDeskModel" yM_count wM_count) := fd_cwV hl fw3_218 fw3_219 fw1_7 kM_count
