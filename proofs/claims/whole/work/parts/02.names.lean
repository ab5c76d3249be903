def tblG : List Cond := lw_tbl.filter goodWord
theorem inG {w : Cond} (h : w ∈ lw_tbl) (g : goodWord w = true) : w ∈ tblG := List.mem_filter.mpr ⟨h, g⟩
theorem atG {w : Cond} (i : Nat) (h : lw_tbl[i]? = some w) (g : goodWord w = true) : w ∈ tblG := inG (List.mem_of_getElem? h) g
theorem tblGood : ∀ w ∈ tblG, (w.onTables && w.keeps) = true ∨ ∃ ty, w = .arrayClass ty := fun w h => good_of_word (List.mem_filter.mp h).2
theorem tblG_in : ∀ w ∈ tblG, w ∈ lw_tbl := fun w h => (List.mem_filter.mp h).1
def nestW : List Cond := [.methodLinkNest "ShadeTown" (9 : Nat) ({ cls := "ShadeTown$Tape", name := "<init>", desc := "()V" } : Jvm.MethodName) "ShadeTown", .methodLinkNest "ShadeTown" (18 : Nat) ({ cls := "ShadeTown$Law", name := "<init>", desc := "()V" } : Jvm.MethodName) "ShadeTown", .methodLinkNest "ShadeTown" (37 : Nat) ({ cls := "ShadeTown$Town", name := "<init>", desc := "()V" } : Jvm.MethodName) "ShadeTown", .methodLinkNest "ShadeTown" (60 : Nat) ({ cls := "ShadeTown$Strips", name := "<init>", desc := "()V" } : Jvm.MethodName) "ShadeTown", .methodLinkNest "ShadeTown" (67 : Nat) ({ cls := "ShadeTown$Walks", name := "<init>", desc := "()V" } : Jvm.MethodName) "ShadeTown", .methodLinkNest "ShadeTown" (74 : Nat) ({ cls := "ShadeTown$Market", name := "<init>", desc := "()V" } : Jvm.MethodName) "ShadeTown", .methodLinkNest "ShadeTown" (81 : Nat) ({ cls := "ShadeTown$Wishes", name := "<init>", desc := "()V" } : Jvm.MethodName) "ShadeTown", .methodLinkNest "ShadeTown" (88 : Nat) ({ cls := "ShadeTown$Clouds", name := "<init>", desc := "()V" } : Jvm.MethodName) "ShadeTown", .methodLinkNest "ShadeTown$Day" (144 : Nat) ({ cls := "ShadeTown", name := "eastOf", desc := "(I)I" } : Jvm.MethodName) "ShadeTown", .methodLinkNest "ShadeTown$Day" (147 : Nat) ({ cls := "ShadeTown", name := "northOf", desc := "(I)I" } : Jvm.MethodName) "ShadeTown", .methodLinkNest "ShadeTown$Day" (164 : Nat) ({ cls := "ShadeTown", name := "inTown", desc := "(II)Z" } : Jvm.MethodName) "ShadeTown", .methodLinkNest "ShadeTown$Day" (55 : Nat) ({ cls := "ShadeTown", name := "isHour", desc := "(I)Z" } : Jvm.MethodName) "ShadeTown", .methodLinkNest "ShadeTown$Strips" (51 : Nat) ({ cls := "ShadeTown", name := "beside", desc := "(II)I" } : Jvm.MethodName) "ShadeTown", .methodLinkNest "ShadeTown$Wishes" (75 : Nat) ({ cls := "ShadeTown", name := "beside", desc := "(II)I" } : Jvm.MethodName) "ShadeTown"]
theorem nestW_in : ∀ w ∈ nestW, w ∈ lw_tbl := by decide +kernel
def R_Sh : String := "ShadeTown"
def T_Sh : u_T := fun k => match k with
  | 0 => ("ShadeTown", "tape", "LShadeTown$Tape;", true)
  | 1 => ("ShadeTown", "law", "LShadeTown$Law;", true)
  | 2 => ("ShadeTown", "lawBeingRead", "LShadeTown$Law;", true)
  | 3 => ("ShadeTown", "reader", "LShadeTown$LawReader;", true)
  | 4 => ("ShadeTown", "town", "LShadeTown$Town;", true)
  | 5 => ("ShadeTown", "townKept", "LShadeTown$Town;", true)
  | 6 => ("ShadeTown", "somethingKept", "Z", false)
  | 7 => ("ShadeTown", "day", "LShadeTown$Day;", true)
  | 8 => ("ShadeTown", "strips", "LShadeTown$Strips;", true)
  | 9 => ("ShadeTown", "walks", "LShadeTown$Walks;", true)
  | 10 => ("ShadeTown", "market", "LShadeTown$Market;", true)
  | 11 => ("ShadeTown", "wishes", "LShadeTown$Wishes;", true)
  | _ => ("ShadeTown", "clouds", "LShadeTown$Clouds;", true)
def t_Sh : Nat → FieldType := fun k => match k with
  | 0 => .object "ShadeTown$Tape"
  | 1 => .object "ShadeTown$Law"
  | 2 => .object "ShadeTown$Law"
  | 3 => .object "ShadeTown$LawReader"
  | 4 => .object "ShadeTown$Town"
  | 5 => .object "ShadeTown$Town"
  | 6 => .boolean
  | 7 => .object "ShadeTown$Day"
  | 8 => .object "ShadeTown$Strips"
  | 9 => .object "ShadeTown$Walks"
  | 10 => .object "ShadeTown$Market"
  | 11 => .object "ShadeTown$Wishes"
  | _ => .object "ShadeTown$Clouds"
def R_Ta : String := "ShadeTown$Tape"
def T_Ta : u_T := fun k => match k with
  | 0 => ("ShadeTown$Tape", "bytes", "[I", true)
  | _ => ("ShadeTown$Tape", "used", "I", false)
def t_Ta : Nat → FieldType := fun k => match k with
  | 0 => .array .int
  | _ => .int
def R_La : String := "ShadeTown$Law"
def T_La : u_T := fun k => match k with
  | 0 => ("ShadeTown$Law", "code", "[I", true)
  | 1 => ("ShadeTown$Law", "used", "I", false)
  | 2 => ("ShadeTown$Law", "letterOf", "[I", true)
  | 3 => ("ShadeTown$Law", "valueStart", "[I", true)
  | 4 => ("ShadeTown$Law", "holdsStart", "[I", true)
  | 5 => ("ShadeTown$Law", "number", "I", false)
  | 6 => ("ShadeTown$Law", "told", "[I", true)
  | _ => ("ShadeTown$Law", "stack", "[I", true)
def t_La : Nat → FieldType := fun k => match k with
  | 0 => .array .int
  | 1 => .int
  | 2 => .array .int
  | 3 => .array .int
  | 4 => .array .int
  | 5 => .int
  | 6 => .array .int
  | _ => .array .int
def R_Rd : String := "ShadeTown$LawReader"
def T_Rd : u_T := fun k => match k with
  | 0 => ("ShadeTown$LawReader", "tape", "LShadeTown$Tape;", true)
  | 1 => ("ShadeTown$LawReader", "law", "LShadeTown$Law;", true)
  | 2 => ("ShadeTown$LawReader", "text", "[I", true)
  | 3 => ("ShadeTown$LawReader", "length", "I", false)
  | 4 => ("ShadeTown$LawReader", "place", "I", false)
  | _ => ("ShadeTown$LawReader", "fault", "I", false)
def t_Rd : Nat → FieldType := fun k => match k with
  | 0 => .object "ShadeTown$Tape"
  | 1 => .object "ShadeTown$Law"
  | 2 => .array .int
  | 3 => .int
  | 4 => .int
  | _ => .int
def R_To : String := "ShadeTown$Town"
def T_To : u_T := fun k => match k with
  | 0 => ("ShadeTown$Town", "kind", "[I", true)
  | 1 => ("ShadeTown$Town", "place", "[I", true)
  | 2 => ("ShadeTown$Town", "size", "[I", true)
  | 3 => ("ShadeTown$Town", "direction", "[I", true)
  | 4 => ("ShadeTown$Town", "owner", "[I", true)
  | 5 => ("ShadeTown$Town", "purse", "[I", true)
  | 6 => ("ShadeTown$Town", "number", "I", false)
  | 7 => ("ShadeTown$Town", "standing", "I", false)
  | 8 => ("ShadeTown$Town", "season", "I", false)
  | _ => ("ShadeTown$Town", "drawn", "I", false)
def t_To : Nat → FieldType := fun k => match k with
  | 0 => .array .int
  | 1 => .array .int
  | 2 => .array .int
  | 3 => .array .int
  | 4 => .array .int
  | 5 => .array .int
  | 6 => .int
  | 7 => .int
  | 8 => .int
  | _ => .int
def R_Da : String := "ShadeTown$Day"
def T_Da : u_T := fun k => match k with
  | 0 => ("ShadeTown$Day", "town", "LShadeTown$Town;", true)
  | 1 => ("ShadeTown$Day", "law", "LShadeTown$Law;", true)
  | 2 => ("ShadeTown$Day", "up", "[Z", true)
  | 3 => ("ShadeTown$Day", "east", "[I", true)
  | 4 => ("ShadeTown$Day", "north", "[I", true)
  | 5 => ("ShadeTown$Day", "cloud", "[I", true)
  | 6 => ("ShadeTown$Day", "skyKnown", "Z", false)
  | 7 => ("ShadeTown$Day", "reached", "[I", true)
  | 8 => ("ShadeTown$Day", "built", "[Z", true)
  | 9 => ("ShadeTown$Day", "shadeKnown", "Z", false)
  | _ => ("ShadeTown$Day", "trialReached", "[I", true)
def t_Da : Nat → FieldType := fun k => match k with
  | 0 => .object "ShadeTown$Town"
  | 1 => .object "ShadeTown$Law"
  | 2 => .array .boolean
  | 3 => .array .int
  | 4 => .array .int
  | 5 => .array .int
  | 6 => .boolean
  | 7 => .array .int
  | 8 => .array .boolean
  | 9 => .boolean
  | _ => .array .int
def R_St : String := "ShadeTown$Strips"
def T_St : u_T := fun k => match k with
  | 0 => ("ShadeTown$Strips", "toEnd", "[I", true)
  | 1 => ("ShadeTown$Strips", "row", "[I", true)
  | 2 => ("ShadeTown$Strips", "first", "I", false)
  | _ => ("ShadeTown$Strips", "cost", "I", false)
def t_St : Nat → FieldType := fun k => match k with
  | 0 => .array .int
  | 1 => .array .int
  | 2 => .int
  | _ => .int
def R_Wa : String := "ShadeTown$Walks"
def T_Wa : u_T := fun k => match k with
  | 0 => ("ShadeTown$Walks", "now", "[I", false)
  | _ => ("ShadeTown$Walks", "next", "[I", false)
def t_Wa : Nat → FieldType := fun k => match k with
  | 0 => .array .int
  | _ => .array .int
def R_Ma : String := "ShadeTown$Market"
def T_Ma : u_T := fun k => match k with
  | 0 => ("ShadeTown$Market", "place", "[I", true)
  | 1 => ("ShadeTown$Market", "told", "I", false)
  | 2 => ("ShadeTown$Market", "wanted", "[I", true)
  | 3 => ("ShadeTown$Market", "wantedWorth", "[I", true)
  | 4 => ("ShadeTown$Market", "wantedNumber", "[I", true)
  | 5 => ("ShadeTown$Market", "passed", "[I", true)
  | 6 => ("ShadeTown$Market", "offer", "[J", true)
  | 7 => ("ShadeTown$Market", "best", "[J", true)
  | 8 => ("ShadeTown$Market", "had", "[I", true)
  | 9 => ("ShadeTown$Market", "sold", "I", false)
  | _ => ("ShadeTown$Market", "sum", "J", false)
def t_Ma : Nat → FieldType := fun k => match k with
  | 0 => .array .int
  | 1 => .int
  | 2 => .array .int
  | 3 => .array .int
  | 4 => .array .int
  | 5 => .array .int
  | 6 => .array .long
  | 7 => .array .long
  | 8 => .array .int
  | 9 => .int
  | _ => .long
def R_Wi : String := "ShadeTown$Wishes"
def T_Wi : u_T := fun k => match k with
  | 0 => ("ShadeTown$Wishes", "told", "I", false)
  | 1 => ("ShadeTown$Wishes", "place", "[I", true)
  | 2 => ("ShadeTown$Wishes", "from", "[I", true)
  | 3 => ("ShadeTown$Wishes", "to", "[I", true)
  | 4 => ("ShadeTown$Wishes", "forSun", "[Z", true)
  | 5 => ("ShadeTown$Wishes", "weight", "[I", true)
  | _ => ("ShadeTown$Wishes", "gain", "[I", true)
def t_Wi : Nat → FieldType := fun k => match k with
  | 0 => .int
  | 1 => .array .int
  | 2 => .array .int
  | 3 => .array .int
  | 4 => .array .boolean
  | 5 => .array .int
  | _ => .array .int
def R_Cl : String := "ShadeTown$Clouds"
def T_Cl : u_T := fun k => match k with
  | _ => ("ShadeTown$Clouds", "brought", "[I", true)
def t_Cl : Nat → FieldType := fun k => match k with
  | _ => .array .int
def R_Mo : String := "ShadeTownModel"
def T_Mo : u_T := fun k => match k with
  | 0 => ("ShadeTownModel", "casters", "I", false)
  | 1 => ("ShadeTownModel", "standing", "I", false)
  | 2 => ("ShadeTownModel", "season0", "I", false)
  | 3 => ("ShadeTownModel", "x0", "I", false)
  | 4 => ("ShadeTownModel", "kindOf", "[I", true)
  | 5 => ("ShadeTownModel", "squareOf", "[I", true)
  | 6 => ("ShadeTownModel", "heightOf", "[I", true)
  | 7 => ("ShadeTownModel", "directionOf", "[I", true)
  | 8 => ("ShadeTownModel", "ownerOf", "[I", true)
  | 9 => ("ShadeTownModel", "purses", "[I", true)
  | 10 => ("ShadeTownModel", "tape", "[B", true)
  | 11 => ("ShadeTownModel", "taped", "I", false)
  | 12 => ("ShadeTownModel", "place0", "I", false)
  | 13 => ("ShadeTownModel", "length0", "I", false)
  | 14 => ("ShadeTownModel", "fault", "I", false)
  | 15 => ("ShadeTownModel", "open", "I", false)
  | 16 => ("ShadeTownModel", "codeMany", "I", false)
  | 17 => ("ShadeTownModel", "waiting", "I", false)
  | 18 => ("ShadeTownModel", "saidMany", "I", false)
  | 19 => ("ShadeTownModel", "number0", "I", false)
  | 20 => ("ShadeTownModel", "clauses", "I", false)
  | 21 => ("ShadeTownModel", "said", "[I", true)
  | 22 => ("ShadeTownModel", "waits", "[I", true)
  | 23 => ("ShadeTownModel", "saidLetter", "[I", true)
  | 24 => ("ShadeTownModel", "saidFrom", "[I", true)
  | 25 => ("ShadeTownModel", "saidHalf", "[I", true)
  | 26 => ("ShadeTownModel", "saidTo", "[I", true)
  | 27 => ("ShadeTownModel", "codes", "[I", true)
  | 28 => ("ShadeTownModel", "clauseOf", "[I", true)
  | 29 => ("ShadeTownModel", "codeFrom", "[I", true)
  | 30 => ("ShadeTownModel", "codeHalf", "[I", true)
  | 31 => ("ShadeTownModel", "codeTo", "[I", true)
  | 32 => ("ShadeTownModel", "stack", "[I", true)
  | 33 => ("ShadeTownModel", "facts", "[I", true)
  | 34 => ("ShadeTownModel", "shadeBy", "[I", true)
  | 35 => ("ShadeTownModel", "isUpIn", "[Z", true)
  | 36 => ("ShadeTownModel", "isFreeNow", "[Z", true)
  | 37 => ("ShadeTownModel", "freeMany", "I", false)
  | 38 => ("ShadeTownModel", "longMany", "I", false)
  | 39 => ("ShadeTownModel", "longFirst", "I", false)
  | 40 => ("ShadeTownModel", "stripFrom", "[I", true)
  | 41 => ("ShadeTownModel", "canBe", "[Z", true)
  | 42 => ("ShadeTownModel", "canThen", "[Z", true)
  | 43 => ("ShadeTownModel", "sunBy", "[I", true)
  | 44 => ("ShadeTownModel", "sunThen", "[I", true)
  | 45 => ("ShadeTownModel", "leastSun", "I", false)
  | 46 => ("ShadeTownModel", "leastParts", "I", false)
  | 47 => ("ShadeTownModel", "toldBuyers", "I", false)
  | 48 => ("ShadeTownModel", "buyerAt", "[I", true)
  | 49 => ("ShadeTownModel", "sumBy", "[I", true)
  | 50 => ("ShadeTownModel", "keyBy", "[J", true)
  | 51 => ("ShadeTownModel", "placeOf", "[J", true)
  | 52 => ("ShadeTownModel", "worthNow", "[I", true)
  | 53 => ("ShadeTownModel", "bestSum", "I", false)
  | 54 => ("ShadeTownModel", "bestKey", "J", false)
  | 55 => ("ShadeTownModel", "toldWishes", "I", false)
  | 56 => ("ShadeTownModel", "wishAt", "[I", true)
  | 57 => ("ShadeTownModel", "wishFrom", "[I", true)
  | 58 => ("ShadeTownModel", "wishTo", "[I", true)
  | 59 => ("ShadeTownModel", "wishWeight", "[I", true)
  | 60 => ("ShadeTownModel", "isForSun", "[Z", true)
  | 61 => ("ShadeTownModel", "besides", "[I", true)
  | 62 => ("ShadeTownModel", "besideMany", "I", false)
  | 63 => ("ShadeTownModel", "wasShade", "[Z", true)
  | 64 => ("ShadeTownModel", "sunUnder", "[I", true)
  | 65 => ("ShadeTownModel", "sunHouse", "[I", true)
  | 66 => ("ShadeTownModel", "turnsOf", "[I", true)
  | 67 => ("ShadeTownModel", "growsBy", "[I", true)
  | 68 => ("ShadeTownModel", "isKept", "Z", false)
  | 69 => ("ShadeTownModel", "keptCasters", "I", false)
  | 70 => ("ShadeTownModel", "keptStanding", "I", false)
  | 71 => ("ShadeTownModel", "keptSeason", "I", false)
  | 72 => ("ShadeTownModel", "keptX", "I", false)
  | 73 => ("ShadeTownModel", "keptKind", "[I", true)
  | 74 => ("ShadeTownModel", "keptSquare", "[I", true)
  | 75 => ("ShadeTownModel", "keptHeight", "[I", true)
  | 76 => ("ShadeTownModel", "keptDirection", "[I", true)
  | 77 => ("ShadeTownModel", "keptOwner", "[I", true)
  | _ => ("ShadeTownModel", "keptPurses", "[I", true)
def t_Mo : Nat → FieldType := fun k => match k with
  | 0 => .int
  | 1 => .int
  | 2 => .int
  | 3 => .int
  | 4 => .array .int
  | 5 => .array .int
  | 6 => .array .int
  | 7 => .array .int
  | 8 => .array .int
  | 9 => .array .int
  | 10 => .array .byte
  | 11 => .int
  | 12 => .int
  | 13 => .int
  | 14 => .int
  | 15 => .int
  | 16 => .int
  | 17 => .int
  | 18 => .int
  | 19 => .int
  | 20 => .int
  | 21 => .array .int
  | 22 => .array .int
  | 23 => .array .int
  | 24 => .array .int
  | 25 => .array .int
  | 26 => .array .int
  | 27 => .array .int
  | 28 => .array .int
  | 29 => .array .int
  | 30 => .array .int
  | 31 => .array .int
  | 32 => .array .int
  | 33 => .array .int
  | 34 => .array .int
  | 35 => .array .boolean
  | 36 => .array .boolean
  | 37 => .int
  | 38 => .int
  | 39 => .int
  | 40 => .array .int
  | 41 => .array .boolean
  | 42 => .array .boolean
  | 43 => .array .int
  | 44 => .array .int
  | 45 => .int
  | 46 => .int
  | 47 => .int
  | 48 => .array .int
  | 49 => .array .int
  | 50 => .array .long
  | 51 => .array .long
  | 52 => .array .int
  | 53 => .int
  | 54 => .long
  | 55 => .int
  | 56 => .array .int
  | 57 => .array .int
  | 58 => .array .int
  | 59 => .array .int
  | 60 => .array .boolean
  | 61 => .array .int
  | 62 => .int
  | 63 => .array .boolean
  | 64 => .array .int
  | 65 => .array .int
  | 66 => .array .int
  | 67 => .array .int
  | 68 => .boolean
  | 69 => .int
  | 70 => .int
  | 71 => .int
  | 72 => .int
  | 73 => .array .int
  | 74 => .array .int
  | 75 => .array .int
  | 76 => .array .int
  | 77 => .array .int
  | _ => .array .int
abbrev classes : List vw_C := [(R_Sh, T_Sh, 13), (R_Ta, T_Ta, 2), (R_La, T_La, 8), (R_Rd, T_Rd, 6), (R_To, T_To, 10), (R_Da, T_Da, 11), (R_St, T_St, 4), (R_Wa, T_Wa, 2), (R_Ma, T_Ma, 11), (R_Wi, T_Wi, 7), (R_Cl, T_Cl, 1), (R_Mo, T_Mo, 79)]
def ClsOk (ci : Nat) (C : String) (T : u_T) (N : Nat) (ty : Nat → FieldType) : Prop := classes[ci]? = some (C, T, N) ∧ (∀ w ∈ u_ws C T N, w ∈ tblG) ∧ (∀ k, k < N → parseFieldDescriptor (T k).2.2.1 = some (ty k)) ∧ (∀ a, a < N → ∀ b, b < N → a ≠ b → (T a).2.1 ≠ (T b).2.1)
theorem u_ws_in {C : String} {T : u_T} {N : Nat} {l : List Cond} (ps : List Nat) (h : ps.map (fun i => l[i]?) = (u_ws C T N).map some) : ∀ w ∈ u_ws C T N, w ∈ l := by
  intro w hw
  have h1 : some w ∈ ps.map (fun i => l[i]?) := by rw [h]; exact List.mem_map_of_mem hw
  obtain ⟨i, -, hi⟩ := List.mem_map.mp h1
  exact List.mem_of_getElem? hi
set_option maxRecDepth 100000 in
theorem ok_Sh : ClsOk 0 R_Sh T_Sh 13 t_Sh := ⟨rfl, fun w h => inG (u_ws_in [432, 434, 436, 438, 440, 442, 444, 446, 448, 450, 452, 454, 456] (by decide +kernel) w h) (List.all_eq_true.mp (by decide +kernel : (u_ws R_Sh T_Sh 13).all goodWord = true) w h), by decide +kernel, by decide +kernel⟩
set_option maxRecDepth 100000 in
theorem ok_Ta : ClsOk 1 R_Ta T_Ta 2 t_Ta := ⟨rfl, fun w h => inG (u_ws_in [148, 150] (by decide +kernel) w h) (List.all_eq_true.mp (by decide +kernel : (u_ws R_Ta T_Ta 2).all goodWord = true) w h), by decide +kernel, by decide +kernel⟩
set_option maxRecDepth 100000 in
theorem ok_La : ClsOk 2 R_La T_La 8 t_La := ⟨rfl, fun w h => inG (u_ws_in [168, 170, 172, 174, 176, 178, 180, 182] (by decide +kernel) w h) (List.all_eq_true.mp (by decide +kernel : (u_ws R_La T_La 8).all goodWord = true) w h), by decide +kernel, by decide +kernel⟩
set_option maxRecDepth 100000 in
theorem ok_Rd : ClsOk 3 R_Rd T_Rd 6 t_Rd := ⟨rfl, fun w h => inG (u_ws_in [197, 199, 201, 203, 205, 207] (by decide +kernel) w h) (List.all_eq_true.mp (by decide +kernel : (u_ws R_Rd T_Rd 6).all goodWord = true) w h), by decide +kernel, by decide +kernel⟩
set_option maxRecDepth 100000 in
theorem ok_To : ClsOk 4 R_To T_To 10 t_To := ⟨rfl, fun w h => inG (u_ws_in [245, 247, 249, 251, 253, 255, 257, 259, 261, 263] (by decide +kernel) w h) (List.all_eq_true.mp (by decide +kernel : (u_ws R_To T_To 10).all goodWord = true) w h), by decide +kernel, by decide +kernel⟩
set_option maxRecDepth 100000 in
theorem ok_Da : ClsOk 5 R_Da T_Da 11 t_Da := ⟨rfl, fun w h => inG (u_ws_in [283, 285, 287, 289, 291, 293, 295, 297, 299, 301, 303] (by decide +kernel) w h) (List.all_eq_true.mp (by decide +kernel : (u_ws R_Da T_Da 11).all goodWord = true) w h), by decide +kernel, by decide +kernel⟩
set_option maxRecDepth 100000 in
theorem ok_St : ClsOk 6 R_St T_St 4 t_St := ⟨rfl, fun w h => inG (u_ws_in [318, 320, 322, 324] (by decide +kernel) w h) (List.all_eq_true.mp (by decide +kernel : (u_ws R_St T_St 4).all goodWord = true) w h), by decide +kernel, by decide +kernel⟩
set_option maxRecDepth 100000 in
theorem ok_Wa : ClsOk 7 R_Wa T_Wa 2 t_Wa := ⟨rfl, fun w h => inG (u_ws_in [335, 337] (by decide +kernel) w h) (List.all_eq_true.mp (by decide +kernel : (u_ws R_Wa T_Wa 2).all goodWord = true) w h), by decide +kernel, by decide +kernel⟩
set_option maxRecDepth 100000 in
theorem ok_Ma : ClsOk 8 R_Ma T_Ma 11 t_Ma := ⟨rfl, fun w h => inG (u_ws_in [357, 359, 361, 363, 365, 367, 369, 371, 373, 375, 377] (by decide +kernel) w h) (List.all_eq_true.mp (by decide +kernel : (u_ws R_Ma T_Ma 11).all goodWord = true) w h), by decide +kernel, by decide +kernel⟩
set_option maxRecDepth 100000 in
theorem ok_Wi : ClsOk 9 R_Wi T_Wi 7 t_Wi := ⟨rfl, fun w h => inG (u_ws_in [394, 396, 398, 400, 402, 404, 406] (by decide +kernel) w h) (List.all_eq_true.mp (by decide +kernel : (u_ws R_Wi T_Wi 7).all goodWord = true) w h), by decide +kernel, by decide +kernel⟩
set_option maxRecDepth 100000 in
theorem ok_Cl : ClsOk 10 R_Cl T_Cl 1 t_Cl := ⟨rfl, fun w h => inG (u_ws_in [416] (by decide +kernel) w h) (List.all_eq_true.mp (by decide +kernel : (u_ws R_Cl T_Cl 1).all goodWord = true) w h), by decide +kernel, by decide +kernel⟩
set_option maxRecDepth 100000 in
theorem ok_Mo : ClsOk 11 R_Mo T_Mo 79 t_Mo := ⟨rfl, fun w h => inG (u_ws_in [1411, 1413, 1415, 1417, 1419, 1421, 1423, 1425, 1427, 1429, 1431, 1433, 1435, 1437, 1439, 1441, 1443, 1445, 1447, 1449, 1451, 1453, 1455, 1457, 1459, 1461, 1463, 1465, 1467, 1469, 1471, 1473, 1475, 1477, 1479, 1481, 1483, 1485, 1487, 1489, 1491, 1493, 1495, 1497, 1499, 1501, 1503, 1505, 1507, 1509, 1511, 1513, 1515, 1517, 1519, 1521, 1523, 1525, 1527, 1529, 1531, 1533, 1535, 1537, 1539, 1541, 1543, 1545, 1547, 1549, 1551, 1553, 1555, 1557, 1559, 1561, 1563, 1565, 1567] (by decide +kernel) w h) (List.all_eq_true.mp (by decide +kernel : (u_ws R_Mo T_Mo 79).all goodWord = true) w h), by decide +kernel, by decide +kernel⟩
