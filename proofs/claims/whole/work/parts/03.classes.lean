/-! the classes of the worlds -/
def T_Bk : u_T := fun k => match k with
  | 0 => ("LightDoses$Book", "hours", "[I", true)
  | 1 => ("LightDoses$Book", "chosen", "[I", true)
  | 2 => ("LightDoses$Book", "pages", "I", false)
  | _ => ("LightDoses$Book", "chosenPages", "I", false)
def t_Bk : Nat → FieldType := fun k => match k with
  | 0 => .array .int
  | 1 => .array .int
  | 2 => .int
  | _ => .int
theorem n_Bk : ∀ a, a < 4 → ∀ b, b < 4 → a ≠ b → (T_Bk a).2.1 ≠ (T_Bk b).2.1 := by decide +kernel
theorem tok_Bk : ∀ k, k < 4 → parseFieldDescriptor (T_Bk k).2.2.1 = some (t_Bk k) := by decide +kernel
theorem in_Bk : ∀ w ∈ u_ws "LightDoses$Book" T_Bk 4, w ∈ TG := show ∀ w ∈ ([.laysFinal "LightDoses$Book" "LightDoses$Book" "hours" "[I", .laysFinal "LightDoses$Book" "LightDoses$Book" "chosen" "[I", .lays "LightDoses$Book" "LightDoses$Book" "pages" "I", .lays "LightDoses$Book" "LightDoses$Book" "chosenPages" "I"] : List Cond), w ∈ TG from List.forall_mem_cons.mpr ⟨wd_130, List.forall_mem_cons.mpr ⟨wd_132, List.forall_mem_cons.mpr ⟨wd_134, List.forall_mem_cons.mpr ⟨wd_136, fun _ h => absurd h List.not_mem_nil⟩⟩⟩⟩
def T_Br : u_T := fun k => match k with
  | 0 => ("LightDoses$Breaches", "hours", "[I", true)
  | 1 => ("LightDoses$Breaches", "objects", "[I", true)
  | _ => ("LightDoses$Breaches", "size", "I", false)
def t_Br : Nat → FieldType := fun k => match k with
  | 0 => .array .int
  | 1 => .array .int
  | _ => .int
theorem n_Br : ∀ a, a < 3 → ∀ b, b < 3 → a ≠ b → (T_Br a).2.1 ≠ (T_Br b).2.1 := by decide +kernel
theorem tok_Br : ∀ k, k < 3 → parseFieldDescriptor (T_Br k).2.2.1 = some (t_Br k) := by decide +kernel
theorem in_Br : ∀ w ∈ u_ws "LightDoses$Breaches" T_Br 3, w ∈ TG := show ∀ w ∈ ([.laysFinal "LightDoses$Breaches" "LightDoses$Breaches" "hours" "[I", .laysFinal "LightDoses$Breaches" "LightDoses$Breaches" "objects" "[I", .lays "LightDoses$Breaches" "LightDoses$Breaches" "size" "I"] : List Cond), w ∈ TG from List.forall_mem_cons.mpr ⟨wd_110, List.forall_mem_cons.mpr ⟨wd_112, List.forall_mem_cons.mpr ⟨wd_114, fun _ h => absurd h List.not_mem_nil⟩⟩⟩
def T_Ch : u_T := fun k => match k with
  | 0 => ("LightDoses$Changes", "first", "I", true)
  | 1 => ("LightDoses$Changes", "hours", "[I", true)
  | 2 => ("LightDoses$Changes", "values", "[I", true)
  | _ => ("LightDoses$Changes", "size", "I", false)
def t_Ch : Nat → FieldType := fun k => match k with
  | 0 => .int
  | 1 => .array .int
  | 2 => .array .int
  | _ => .int
theorem n_Ch : ∀ a, a < 4 → ∀ b, b < 4 → a ≠ b → (T_Ch a).2.1 ≠ (T_Ch b).2.1 := by decide +kernel
theorem tok_Ch : ∀ k, k < 4 → parseFieldDescriptor (T_Ch k).2.2.1 = some (t_Ch k) := by decide +kernel
theorem in_Ch : ∀ w ∈ u_ws "LightDoses$Changes" T_Ch 4, w ∈ TG := show ∀ w ∈ ([.laysFinal "LightDoses$Changes" "LightDoses$Changes" "first" "I", .laysFinal "LightDoses$Changes" "LightDoses$Changes" "hours" "[I", .laysFinal "LightDoses$Changes" "LightDoses$Changes" "values" "[I", .lays "LightDoses$Changes" "LightDoses$Changes" "size" "I"] : List Cond), w ∈ TG from List.forall_mem_cons.mpr ⟨wd_483, List.forall_mem_cons.mpr ⟨wd_485, List.forall_mem_cons.mpr ⟨wd_487, List.forall_mem_cons.mpr ⟨wd_489, fun _ h => absurd h List.not_mem_nil⟩⟩⟩⟩
def T_Dy : u_T := fun k => match k with
  | 0 => ("LightDoses$Day", "lux", "[I", true)
  | _ => ("LightDoses$Day", "luxHours", "[J", true)
def t_Dy : Nat → FieldType := fun k => match k with
  | 0 => .array .int
  | _ => .array .long
theorem n_Dy : ∀ a, a < 2 → ∀ b, b < 2 → a ≠ b → (T_Dy a).2.1 ≠ (T_Dy b).2.1 := by decide +kernel
theorem tok_Dy : ∀ k, k < 2 → parseFieldDescriptor (T_Dy k).2.2.1 = some (t_Dy k) := by decide +kernel
theorem in_Dy : ∀ w ∈ u_ws "LightDoses$Day" T_Dy 2, w ∈ TG := show ∀ w ∈ ([.laysFinal "LightDoses$Day" "LightDoses$Day" "lux" "[I", .laysFinal "LightDoses$Day" "LightDoses$Day" "luxHours" "[J"] : List Cond), w ∈ TG from List.forall_mem_cons.mpr ⟨wd_71, List.forall_mem_cons.mpr ⟨wd_73, fun _ h => absurd h List.not_mem_nil⟩⟩
def T_Ex : u_T := fun k => match k with
  | 0 => ("LightDoses$Exhibit", "kind", "I", true)
  | 1 => ("LightDoses$Exhibit", "shares", "[I", true)
  | 2 => ("LightDoses$Exhibit", "starts", "[I", true)
  | 3 => ("LightDoses$Exhibit", "ends", "[I", true)
  | _ => ("LightDoses$Exhibit", "rows", "I", false)
def t_Ex : Nat → FieldType := fun k => match k with
  | 0 => .int
  | 1 => .array .int
  | 2 => .array .int
  | 3 => .array .int
  | _ => .int
theorem n_Ex : ∀ a, a < 5 → ∀ b, b < 5 → a ≠ b → (T_Ex a).2.1 ≠ (T_Ex b).2.1 := by decide +kernel
theorem tok_Ex : ∀ k, k < 5 → parseFieldDescriptor (T_Ex k).2.2.1 = some (t_Ex k) := by decide +kernel
theorem in_Ex : ∀ w ∈ u_ws "LightDoses$Exhibit" T_Ex 5, w ∈ TG := show ∀ w ∈ ([.laysFinal "LightDoses$Exhibit" "LightDoses$Exhibit" "kind" "I", .laysFinal "LightDoses$Exhibit" "LightDoses$Exhibit" "shares" "[I", .laysFinal "LightDoses$Exhibit" "LightDoses$Exhibit" "starts" "[I", .laysFinal "LightDoses$Exhibit" "LightDoses$Exhibit" "ends" "[I", .lays "LightDoses$Exhibit" "LightDoses$Exhibit" "rows" "I"] : List Cond), w ∈ TG from List.forall_mem_cons.mpr ⟨wd_364, List.forall_mem_cons.mpr ⟨wd_366, List.forall_mem_cons.mpr ⟨wd_368, List.forall_mem_cons.mpr ⟨wd_370, List.forall_mem_cons.mpr ⟨wd_372, fun _ h => absurd h List.not_mem_nil⟩⟩⟩⟩⟩
def T_Fl : u_T := fun k => match k with
  | 0 => ("LightDoses$Flashes", "objects", "[I", true)
  | 1 => ("LightDoses$Flashes", "hours", "[I", true)
  | 2 => ("LightDoses$Flashes", "strengths", "[I", true)
  | _ => ("LightDoses$Flashes", "size", "I", false)
def t_Fl : Nat → FieldType := fun k => match k with
  | 0 => .array .int
  | 1 => .array .int
  | 2 => .array .int
  | _ => .int
theorem n_Fl : ∀ a, a < 4 → ∀ b, b < 4 → a ≠ b → (T_Fl a).2.1 ≠ (T_Fl b).2.1 := by decide +kernel
theorem tok_Fl : ∀ k, k < 4 → parseFieldDescriptor (T_Fl k).2.2.1 = some (t_Fl k) := by decide +kernel
theorem in_Fl : ∀ w ∈ u_ws "LightDoses$Flashes" T_Fl 4, w ∈ TG := show ∀ w ∈ ([.laysFinal "LightDoses$Flashes" "LightDoses$Flashes" "objects" "[I", .laysFinal "LightDoses$Flashes" "LightDoses$Flashes" "hours" "[I", .laysFinal "LightDoses$Flashes" "LightDoses$Flashes" "strengths" "[I", .lays "LightDoses$Flashes" "LightDoses$Flashes" "size" "I"] : List Cond), w ∈ TG from List.forall_mem_cons.mpr ⟨wd_89, List.forall_mem_cons.mpr ⟨wd_91, List.forall_mem_cons.mpr ⟨wd_93, List.forall_mem_cons.mpr ⟨wd_95, fun _ h => absurd h List.not_mem_nil⟩⟩⟩⟩
def T_Lp : u_T := fun k => match k with
  | 0 => ("LightDoses$Lamp", "switches", "LLightDoses$Changes;", true)
  | 1 => ("LightDoses$Lamp", "measures", "LLightDoses$Changes;", true)
  | 2 => ("LightDoses$Lamp", "starts", "[I", true)
  | 3 => ("LightDoses$Lamp", "lux", "[I", true)
  | 4 => ("LightDoses$Lamp", "luxHours", "[J", true)
  | _ => ("LightDoses$Lamp", "pieces", "I", false)
def t_Lp : Nat → FieldType := fun k => match k with
  | 0 => .object "LightDoses$Changes"
  | 1 => .object "LightDoses$Changes"
  | 2 => .array .int
  | 3 => .array .int
  | 4 => .array .long
  | _ => .int
theorem n_Lp : ∀ a, a < 6 → ∀ b, b < 6 → a ≠ b → (T_Lp a).2.1 ≠ (T_Lp b).2.1 := by decide +kernel
theorem tok_Lp : ∀ k, k < 6 → parseFieldDescriptor (T_Lp k).2.2.1 = some (t_Lp k) := by decide +kernel
theorem in_Lp : ∀ w ∈ u_ws "LightDoses$Lamp" T_Lp 6, w ∈ TG := show ∀ w ∈ ([.laysFinal "LightDoses$Lamp" "LightDoses$Lamp" "switches" "LLightDoses$Changes;", .laysFinal "LightDoses$Lamp" "LightDoses$Lamp" "measures" "LLightDoses$Changes;", .laysFinal "LightDoses$Lamp" "LightDoses$Lamp" "starts" "[I", .laysFinal "LightDoses$Lamp" "LightDoses$Lamp" "lux" "[I", .laysFinal "LightDoses$Lamp" "LightDoses$Lamp" "luxHours" "[J", .lays "LightDoses$Lamp" "LightDoses$Lamp" "pieces" "I"] : List Cond), w ∈ TG from List.forall_mem_cons.mpr ⟨wd_517, List.forall_mem_cons.mpr ⟨wd_519, List.forall_mem_cons.mpr ⟨wd_521, List.forall_mem_cons.mpr ⟨wd_523, List.forall_mem_cons.mpr ⟨wd_525, List.forall_mem_cons.mpr ⟨wd_527, fun _ h => absurd h List.not_mem_nil⟩⟩⟩⟩⟩⟩
def T_LD : u_T := fun k => match k with
  | 0 => ("LightDoses", "exhibits", "Ljava/util/ArrayList;", true)
  | 1 => ("LightDoses", "lamps", "Ljava/util/ArrayList;", true)
  | 2 => ("LightDoses", "allowances", "[I", true)
  | 3 => ("LightDoses", "day", "LLightDoses$Day;", true)
  | 4 => ("LightDoses", "flashes", "LLightDoses$Flashes;", true)
  | 5 => ("LightDoses", "found", "LLightDoses$Breaches;", true)
  | 6 => ("LightDoses", "book", "LLightDoses$Book;", true)
  | 7 => ("LightDoses", "foundIsFresh", "Z", false)
  | _ => ("LightDoses", "partsOver", "I", false)
def t_LD : Nat → FieldType := fun k => match k with
  | 0 => .object "java/util/ArrayList"
  | 1 => .object "java/util/ArrayList"
  | 2 => .array .int
  | 3 => .object "LightDoses$Day"
  | 4 => .object "LightDoses$Flashes"
  | 5 => .object "LightDoses$Breaches"
  | 6 => .object "LightDoses$Book"
  | 7 => .boolean
  | _ => .int
theorem n_LD : ∀ a, a < 9 → ∀ b, b < 9 → a ≠ b → (T_LD a).2.1 ≠ (T_LD b).2.1 := by decide +kernel
theorem tok_LD : ∀ k, k < 9 → parseFieldDescriptor (T_LD k).2.2.1 = some (t_LD k) := by decide +kernel
theorem in_LD : ∀ w ∈ u_ws "LightDoses" T_LD 9, w ∈ TG := show ∀ w ∈ ([.laysFinal "LightDoses" "LightDoses" "exhibits" "Ljava/util/ArrayList;", .laysFinal "LightDoses" "LightDoses" "lamps" "Ljava/util/ArrayList;", .laysFinal "LightDoses" "LightDoses" "allowances" "[I", .laysFinal "LightDoses" "LightDoses" "day" "LLightDoses$Day;", .laysFinal "LightDoses" "LightDoses" "flashes" "LLightDoses$Flashes;", .laysFinal "LightDoses" "LightDoses" "found" "LLightDoses$Breaches;", .laysFinal "LightDoses" "LightDoses" "book" "LLightDoses$Book;", .lays "LightDoses" "LightDoses" "foundIsFresh" "Z", .lays "LightDoses" "LightDoses" "partsOver" "I"] : List Cond), w ∈ TG from List.forall_mem_cons.mpr ⟨wd_148, List.forall_mem_cons.mpr ⟨wd_150, List.forall_mem_cons.mpr ⟨wd_152, List.forall_mem_cons.mpr ⟨wd_154, List.forall_mem_cons.mpr ⟨wd_156, List.forall_mem_cons.mpr ⟨wd_158, List.forall_mem_cons.mpr ⟨wd_160, List.forall_mem_cons.mpr ⟨wd_162, List.forall_mem_cons.mpr ⟨wd_164, fun _ h => absurd h List.not_mem_nil⟩⟩⟩⟩⟩⟩⟩⟩⟩
def T_Md : u_T := fun k => match k with
  | 0 => ("LightDosesModel", "thrown", "I", false)
  | 1 => ("LightDosesModel", "objects", "I", false)
  | 2 => ("LightDosesModel", "classes", "[I", true)
  | 3 => ("LightDosesModel", "bounds", "[I", true)
  | 4 => ("LightDosesModel", "lamps", "I", false)
  | 5 => ("LightDosesModel", "luxes", "[I", true)
  | 6 => ("LightDosesModel", "shares", "[I", true)
  | 7 => ("LightDosesModel", "day", "[I", true)
  | 8 => ("LightDosesModel", "lit", "[I", true)
  | 9 => ("LightDosesModel", "rows", "[I", true)
  | 10 => ("LightDosesModel", "froms", "[I", true)
  | 11 => ("LightDosesModel", "tos", "[I", true)
  | 12 => ("LightDosesModel", "turns", "[I", true)
  | 13 => ("LightDosesModel", "turnHours", "[I", true)
  | 14 => ("LightDosesModel", "turnOn", "[Z", true)
  | 15 => ("LightDosesModel", "meters", "[I", true)
  | 16 => ("LightDosesModel", "meterHours", "[I", true)
  | 17 => ("LightDosesModel", "meterLux", "[I", true)
  | 18 => ("LightDosesModel", "flashes", "I", false)
  | 19 => ("LightDosesModel", "flashObjects", "[I", true)
  | 20 => ("LightDosesModel", "flashHours", "[I", true)
  | 21 => ("LightDosesModel", "flashSeconds", "[I", true)
  | 22 => ("LightDosesModel", "rest", "I", false)
  | 23 => ("LightDosesModel", "isCounted", "Z", false)
  | 24 => ("LightDosesModel", "many", "I", false)
  | 25 => ("LightDosesModel", "breachHours", "[I", true)
  | 26 => ("LightDosesModel", "breachObjects", "[I", true)
  | 27 => ("LightDosesModel", "years", "[J", true)
  | 28 => ("LightDosesModel", "pages", "I", false)
  | 29 => ("LightDosesModel", "pageHours", "[I", true)
  | 30 => ("LightDosesModel", "chosen", "I", false)
  | _ => ("LightDosesModel", "chosenPages", "[I", true)
def t_Md : Nat → FieldType := fun k => match k with
  | 0 => .int
  | 1 => .int
  | 2 => .array .int
  | 3 => .array .int
  | 4 => .int
  | 5 => .array .int
  | 6 => .array .int
  | 7 => .array .int
  | 8 => .array .int
  | 9 => .array .int
  | 10 => .array .int
  | 11 => .array .int
  | 12 => .array .int
  | 13 => .array .int
  | 14 => .array .boolean
  | 15 => .array .int
  | 16 => .array .int
  | 17 => .array .int
  | 18 => .int
  | 19 => .array .int
  | 20 => .array .int
  | 21 => .array .int
  | 22 => .int
  | 23 => .boolean
  | 24 => .int
  | 25 => .array .int
  | 26 => .array .int
  | 27 => .array .long
  | 28 => .int
  | 29 => .array .int
  | 30 => .int
  | _ => .array .int
theorem n_Md : ∀ a, a < 32 → ∀ b, b < 32 → a ≠ b → (T_Md a).2.1 ≠ (T_Md b).2.1 := by decide +kernel
theorem tok_Md : ∀ k, k < 32 → parseFieldDescriptor (T_Md k).2.2.1 = some (t_Md k) := by decide +kernel
theorem in_Md : ∀ w ∈ u_ws "LightDosesModel" T_Md 32, w ∈ TG := show ∀ w ∈ ([.lays "LightDosesModel" "LightDosesModel" "thrown" "I", .lays "LightDosesModel" "LightDosesModel" "objects" "I", .laysFinal "LightDosesModel" "LightDosesModel" "classes" "[I", .laysFinal "LightDosesModel" "LightDosesModel" "bounds" "[I", .lays "LightDosesModel" "LightDosesModel" "lamps" "I", .laysFinal "LightDosesModel" "LightDosesModel" "luxes" "[I", .laysFinal "LightDosesModel" "LightDosesModel" "shares" "[I", .laysFinal "LightDosesModel" "LightDosesModel" "day" "[I", .laysFinal "LightDosesModel" "LightDosesModel" "lit" "[I", .laysFinal "LightDosesModel" "LightDosesModel" "rows" "[I", .laysFinal "LightDosesModel" "LightDosesModel" "froms" "[I", .laysFinal "LightDosesModel" "LightDosesModel" "tos" "[I", .laysFinal "LightDosesModel" "LightDosesModel" "turns" "[I", .laysFinal "LightDosesModel" "LightDosesModel" "turnHours" "[I", .laysFinal "LightDosesModel" "LightDosesModel" "turnOn" "[Z", .laysFinal "LightDosesModel" "LightDosesModel" "meters" "[I", .laysFinal "LightDosesModel" "LightDosesModel" "meterHours" "[I", .laysFinal "LightDosesModel" "LightDosesModel" "meterLux" "[I", .lays "LightDosesModel" "LightDosesModel" "flashes" "I", .laysFinal "LightDosesModel" "LightDosesModel" "flashObjects" "[I", .laysFinal "LightDosesModel" "LightDosesModel" "flashHours" "[I", .laysFinal "LightDosesModel" "LightDosesModel" "flashSeconds" "[I", .lays "LightDosesModel" "LightDosesModel" "rest" "I", .lays "LightDosesModel" "LightDosesModel" "isCounted" "Z", .lays "LightDosesModel" "LightDosesModel" "many" "I", .laysFinal "LightDosesModel" "LightDosesModel" "breachHours" "[I", .laysFinal "LightDosesModel" "LightDosesModel" "breachObjects" "[I", .laysFinal "LightDosesModel" "LightDosesModel" "years" "[J", .lays "LightDosesModel" "LightDosesModel" "pages" "I", .laysFinal "LightDosesModel" "LightDosesModel" "pageHours" "[I", .lays "LightDosesModel" "LightDosesModel" "chosen" "I", .laysFinal "LightDosesModel" "LightDosesModel" "chosenPages" "[I"] : List Cond), w ∈ TG from List.forall_mem_cons.mpr ⟨wd_735, List.forall_mem_cons.mpr ⟨wd_737, List.forall_mem_cons.mpr ⟨wd_739, List.forall_mem_cons.mpr ⟨wd_741, List.forall_mem_cons.mpr ⟨wd_743, List.forall_mem_cons.mpr ⟨wd_745, List.forall_mem_cons.mpr ⟨wd_747, List.forall_mem_cons.mpr ⟨wd_749, List.forall_mem_cons.mpr ⟨wd_751, List.forall_mem_cons.mpr ⟨wd_753, List.forall_mem_cons.mpr ⟨wd_755, List.forall_mem_cons.mpr ⟨wd_757, List.forall_mem_cons.mpr ⟨wd_759, List.forall_mem_cons.mpr ⟨wd_761, List.forall_mem_cons.mpr ⟨wd_763, List.forall_mem_cons.mpr ⟨wd_765, List.forall_mem_cons.mpr ⟨wd_767, List.forall_mem_cons.mpr ⟨wd_769, List.forall_mem_cons.mpr ⟨wd_771, List.forall_mem_cons.mpr ⟨wd_773, List.forall_mem_cons.mpr ⟨wd_775, List.forall_mem_cons.mpr ⟨wd_777, List.forall_mem_cons.mpr ⟨wd_779, List.forall_mem_cons.mpr ⟨wd_781, List.forall_mem_cons.mpr ⟨wd_783, List.forall_mem_cons.mpr ⟨wd_785, List.forall_mem_cons.mpr ⟨wd_787, List.forall_mem_cons.mpr ⟨wd_789, List.forall_mem_cons.mpr ⟨wd_791, List.forall_mem_cons.mpr ⟨wd_793, List.forall_mem_cons.mpr ⟨wd_795, List.forall_mem_cons.mpr ⟨wd_797, fun _ h => absurd h List.not_mem_nil⟩⟩⟩⟩⟩⟩⟩⟩⟩⟩⟩⟩⟩⟩⟩⟩⟩⟩⟩⟩⟩⟩⟩⟩⟩⟩⟩⟩⟩⟩⟩⟩
def T_AL : u_T := fun k => match k with
  | 0 => ("java/util/ArrayList", "elementData", "[Ljava/lang/Object;", false)
  | 1 => ("java/util/ArrayList", "size", "I", false)
  | _ => ("java/util/AbstractList", "modCount", "I", false)
def t_AL : Nat → FieldType := fun k => match k with
  | 0 => .array (.object "java/lang/Object")
  | 1 => .int
  | _ => .int
theorem n_AL : ∀ a, a < 3 → ∀ b, b < 3 → a ≠ b → (T_AL a).2.1 ≠ (T_AL b).2.1 := by decide +kernel
theorem tok_AL : ∀ k, k < 3 → parseFieldDescriptor (T_AL k).2.2.1 = some (t_AL k) := by decide +kernel
theorem in_AL : ∀ w ∈ u_ws "java/util/ArrayList" T_AL 3, w ∈ TG := show ∀ w ∈ ([.lays "java/util/ArrayList" "java/util/ArrayList" "elementData" "[Ljava/lang/Object;", .lays "java/util/ArrayList" "java/util/ArrayList" "size" "I", .lays "java/util/ArrayList" "java/util/AbstractList" "modCount" "I"] : List Cond), w ∈ TG from List.forall_mem_cons.mpr ⟨wd_52, List.forall_mem_cons.mpr ⟨wd_54, List.forall_mem_cons.mpr ⟨wd_56, fun _ h => absurd h List.not_mem_nil⟩⟩⟩
abbrev vwCl : List vw_C := [("LightDoses$Book", T_Bk, 4), ("LightDoses$Breaches", T_Br, 3), ("LightDoses$Changes", T_Ch, 4), ("LightDoses$Day", T_Dy, 2), ("LightDoses$Exhibit", T_Ex, 5), ("LightDoses$Flashes", T_Fl, 4), ("LightDoses$Lamp", T_Lp, 6), ("LightDoses", T_LD, 9), ("LightDosesModel", T_Md, 32), ("java/util/ArrayList", T_AL, 3)]
