def RX0 : String := "OysterBeds$Bed"
def TX0 : u_T := fun k => match k with
  | 0 => ("OysterBeds$Bed", "kind", "[I", true)
  | 1 => ("OysterBeds$Bed", "fear", "[I", true)
  | 2 => ("OysterBeds$Bed", "view", "[I", true)
  | 3 => ("OysterBeds$Bed", "shut", "[I", true)
  | 4 => ("OysterBeds$Bed", "pearl", "[I", true)
  | 5 => ("OysterBeds$Bed", "size", "I", false)
  | 6 => ("OysterBeds$Bed", "tide", "I", false)
  | _ => ("OysterBeds$Bed", "asked", "I", false)
def tyX0 : Nat → FieldType := fun k => match k with
  | 0 => .array .int
  | 1 => .array .int
  | 2 => .array .int
  | 3 => .array .int
  | 4 => .array .int
  | 5 => .int
  | 6 => .int
  | _ => .int
theorem nmX0 : ∀ a, a < 8 → ∀ b, b < 8 → a ≠ b → (TX0 a).2.1 ≠ (TX0 b).2.1 := by decide +kernel
theorem tyX0_ok : ∀ k, k < 8 → parseFieldDescriptor (TX0 k).2.2.1 = some (tyX0 k) := by decide +kernel
def RX4 : String := "OysterBeds$Hearsay"
def TX4 : u_T := fun k => match k with
  | 0 => ("OysterBeds$Hearsay", "what", "[I", true)
  | 1 => ("OysterBeds$Hearsay", "value", "[I", true)
  | _ => ("OysterBeds$Hearsay", "size", "I", false)
def tyX4 : Nat → FieldType := fun k => match k with
  | 0 => .array .int
  | 1 => .array .int
  | _ => .int
theorem nmX4 : ∀ a, a < 3 → ∀ b, b < 3 → a ≠ b → (TX4 a).2.1 ≠ (TX4 b).2.1 := by decide +kernel
theorem tyX4_ok : ∀ k, k < 3 → parseFieldDescriptor (TX4 k).2.2.1 = some (tyX4 k) := by decide +kernel
def RX5 : String := "OysterBeds$Law"
def TX5 : u_T := fun k => match k with
  | 0 => ("OysterBeds$Law", "code", "[I", true)
  | 1 => ("OysterBeds$Law", "length", "I", false)
  | 2 => ("OysterBeds$Law", "waiting", "[I", true)
  | 3 => ("OysterBeds$Law", "waits", "I", false)
  | 4 => ("OysterBeds$Law", "compared", "[Z", true)
  | 5 => ("OysterBeds$Law", "depth", "I", false)
  | 6 => ("OysterBeds$Law", "digits", "I", false)
  | 7 => ("OysterBeds$Law", "isBehindThing", "Z", false)
  | _ => ("OysterBeds$Law", "stack", "[I", true)
def tyX5 : Nat → FieldType := fun k => match k with
  | 0 => .array .int
  | 1 => .int
  | 2 => .array .int
  | 3 => .int
  | 4 => .array .boolean
  | 5 => .int
  | 6 => .int
  | 7 => .boolean
  | _ => .array .int
theorem nmX5 : ∀ a, a < 9 → ∀ b, b < 9 → a ≠ b → (TX5 a).2.1 ≠ (TX5 b).2.1 := by decide +kernel
theorem tyX5_ok : ∀ k, k < 9 → parseFieldDescriptor (TX5 k).2.2.1 = some (tyX5 k) := by decide +kernel
def RX6 : String := "OysterBeds$Past"
def TX6 : u_T := fun k => match k with
  | 0 => ("OysterBeds$Past", "undos", "[LOysterBeds$Bed;", true)
  | 1 => ("OysterBeds$Past", "place", "I", false)
  | 2 => ("OysterBeds$Past", "size", "I", false)
  | 3 => ("OysterBeds$Past", "shelves", "[LOysterBeds$Bed;", true)
  | _ => ("OysterBeds$Past", "isKept", "[Z", true)
def tyX6 : Nat → FieldType := fun k => match k with
  | 0 => .array (.object "OysterBeds$Bed")
  | 1 => .int
  | 2 => .int
  | 3 => .array (.object "OysterBeds$Bed")
  | _ => .array .boolean
theorem nmX6 : ∀ a, a < 5 → ∀ b, b < 5 → a ≠ b → (TX6 a).2.1 ≠ (TX6 b).2.1 := by decide +kernel
theorem tyX6_ok : ∀ k, k < 5 → parseFieldDescriptor (TX6 k).2.2.1 = some (tyX6 k) := by decide +kernel
def RX7 : String := "OysterBeds$Sightings"
def TX7 : u_T := fun k => match k with
  | 0 => ("OysterBeds$Sightings", "topic", "[I", true)
  | 1 => ("OysterBeds$Sightings", "wording", "[I", true)
  | 2 => ("OysterBeds$Sightings", "closed", "[I", true)
  | _ => ("OysterBeds$Sightings", "size", "I", false)
def tyX7 : Nat → FieldType := fun k => match k with
  | 0 => .array .int
  | 1 => .array .int
  | 2 => .array .int
  | _ => .int
theorem nmX7 : ∀ a, a < 4 → ∀ b, b < 4 → a ≠ b → (TX7 a).2.1 ≠ (TX7 b).2.1 := by decide +kernel
theorem tyX7_ok : ∀ k, k < 4 → parseFieldDescriptor (TX7 k).2.2.1 = some (tyX7 k) := by decide +kernel
def RX8 : String := "OysterBeds$Text"
def TX8 : u_T := fun k => match k with
  | 0 => ("OysterBeds$Text", "signs", "[C", true)
  | _ => ("OysterBeds$Text", "length", "I", false)
def tyX8 : Nat → FieldType := fun k => match k with
  | 0 => .array .char
  | _ => .int
theorem nmX8 : ∀ a, a < 2 → ∀ b, b < 2 → a ≠ b → (TX8 a).2.1 ≠ (TX8 b).2.1 := by decide +kernel
theorem tyX8_ok : ∀ k, k < 2 → parseFieldDescriptor (TX8 k).2.2.1 = some (tyX8 k) := by decide +kernel
def RX9 : String := "OysterBeds$Told"
def TX9 : u_T := fun k => match k with
  | 0 => ("OysterBeds$Told", "numbers", "[J", true)
  | _ => ("OysterBeds$Told", "size", "I", false)
def tyX9 : Nat → FieldType := fun k => match k with
  | 0 => .array .long
  | _ => .int
theorem nmX9 : ∀ a, a < 2 → ∀ b, b < 2 → a ≠ b → (TX9 a).2.1 ≠ (TX9 b).2.1 := by decide +kernel
theorem tyX9_ok : ∀ k, k < 2 → parseFieldDescriptor (TX9 k).2.2.1 = some (tyX9 k) := by decide +kernel
def RX11 : String := "OysterBeds"
def TX11 : u_T := fun k => match k with
  | 0 => ("OysterBeds", "text", "LOysterBeds$Text;", true)
  | 1 => ("OysterBeds", "told", "LOysterBeds$Told;", true)
  | 2 => ("OysterBeds", "bed", "LOysterBeds$Bed;", true)
  | 3 => ("OysterBeds", "spare", "LOysterBeds$Bed;", true)
  | 4 => ("OysterBeds", "past", "LOysterBeds$Past;", true)
  | 5 => ("OysterBeds", "sightings", "LOysterBeds$Sightings;", true)
  | 6 => ("OysterBeds", "hearsay", "LOysterBeds$Hearsay;", true)
  | 7 => ("OysterBeds", "rule", "LOysterBeds$Law;", false)
  | _ => ("OysterBeds", "draft", "LOysterBeds$Law;", false)
def tyX11 : Nat → FieldType := fun k => match k with
  | 0 => .object "OysterBeds$Text"
  | 1 => .object "OysterBeds$Told"
  | 2 => .object "OysterBeds$Bed"
  | 3 => .object "OysterBeds$Bed"
  | 4 => .object "OysterBeds$Past"
  | 5 => .object "OysterBeds$Sightings"
  | 6 => .object "OysterBeds$Hearsay"
  | 7 => .object "OysterBeds$Law"
  | _ => .object "OysterBeds$Law"
theorem nmX11 : ∀ a, a < 9 → ∀ b, b < 9 → a ≠ b → (TX11 a).2.1 ≠ (TX11 b).2.1 := by decide +kernel
theorem tyX11_ok : ∀ k, k < 9 → parseFieldDescriptor (TX11 k).2.2.1 = some (tyX11 k) := by decide +kernel
def RX12 : String := "OysterBedsModel"
def TX12 : u_T := fun k => match k with
  | 0 => ("OysterBedsModel", "thrown", "I", false)
  | 1 => ("OysterBedsModel", "told", "I", false)
  | 2 => ("OysterBedsModel", "row", "[J", true)
  | 3 => ("OysterBedsModel", "oysters", "I", false)
  | 4 => ("OysterBedsModel", "changes", "I", false)
  | 5 => ("OysterBedsModel", "kind", "[I", true)
  | 6 => ("OysterBedsModel", "now", "[I", true)
  | 7 => ("OysterBedsModel", "then", "[I", true)
  | 8 => ("OysterBedsModel", "tape", "[I", true)
  | 9 => ("OysterBedsModel", "taped", "I", false)
  | 10 => ("OysterBedsModel", "at", "I", false)
  | 11 => ("OysterBedsModel", "to", "I", false)
  | 12 => ("OysterBedsModel", "nest", "I", false)
  | 13 => ("OysterBedsModel", "read", "[I", true)
  | 14 => ("OysterBedsModel", "readMany", "I", false)
  | 15 => ("OysterBedsModel", "code", "[I", true)
  | 16 => ("OysterBedsModel", "readCode", "[I", true)
  | 17 => ("OysterBedsModel", "codeLong", "I", false)
  | 18 => ("OysterBedsModel", "codesRead", "I", false)
  | 19 => ("OysterBedsModel", "stack", "[I", true)
  | 20 => ("OysterBedsModel", "asked", "[I", true)
  | 21 => ("OysterBedsModel", "undos", "I", false)
  | 22 => ("OysterBedsModel", "undone", "[I", true)
  | 23 => ("OysterBedsModel", "actSign", "[I", true)
  | 24 => ("OysterBedsModel", "actOne", "[I", true)
  | 25 => ("OysterBedsModel", "actTwo", "[I", true)
  | 26 => ("OysterBedsModel", "acts", "I", false)
  | 27 => ("OysterBedsModel", "seenMany", "I", false)
  | 28 => ("OysterBedsModel", "seenQuestion", "[I", true)
  | 29 => ("OysterBedsModel", "seenClosed", "[I", true)
  | 30 => ("OysterBedsModel", "often", "[I", true)
  | 31 => ("OysterBedsModel", "heardMany", "I", false)
  | 32 => ("OysterBedsModel", "heardWhat", "[I", true)
  | 33 => ("OysterBedsModel", "heardOf", "[I", true)
  | 34 => ("OysterBedsModel", "ways", "[J", true)
  | 35 => ("OysterBedsModel", "winning", "[I", true)
  | 36 => ("OysterBedsModel", "wasCode", "[I", true)
  | 37 => ("OysterBedsModel", "random", "I", false)
  | 38 => ("OysterBedsModel", "isKept", "[Z", true)
  | 39 => ("OysterBedsModel", "keptChanges", "[I", true)
  | _ => ("OysterBedsModel", "kept", "[I", true)
def tyX12 : Nat → FieldType := fun k => match k with
  | 0 => .int
  | 1 => .int
  | 2 => .array .long
  | 3 => .int
  | 4 => .int
  | 5 => .array .int
  | 6 => .array .int
  | 7 => .array .int
  | 8 => .array .int
  | 9 => .int
  | 10 => .int
  | 11 => .int
  | 12 => .int
  | 13 => .array .int
  | 14 => .int
  | 15 => .array .int
  | 16 => .array .int
  | 17 => .int
  | 18 => .int
  | 19 => .array .int
  | 20 => .array .int
  | 21 => .int
  | 22 => .array .int
  | 23 => .array .int
  | 24 => .array .int
  | 25 => .array .int
  | 26 => .int
  | 27 => .int
  | 28 => .array .int
  | 29 => .array .int
  | 30 => .array .int
  | 31 => .int
  | 32 => .array .int
  | 33 => .array .int
  | 34 => .array .long
  | 35 => .array .int
  | 36 => .array .int
  | 37 => .int
  | 38 => .array .boolean
  | 39 => .array .int
  | _ => .array .int
theorem nmX12 : ∀ a, a < 41 → ∀ b, b < 41 → a ≠ b → (TX12 a).2.1 ≠ (TX12 b).2.1 := by decide +kernel
theorem tyX12_ok : ∀ k, k < 41 → parseFieldDescriptor (TX12 k).2.2.1 = some (tyX12 k) := by decide +kernel
theorem inX0 : ∀ w ∈ u_ws RX0 TX0 8, w ∈ WG := by
  show ∀ w ∈ [Cond.laysFinal "OysterBeds$Bed" "OysterBeds$Bed" "kind" "[I", Cond.laysFinal "OysterBeds$Bed" "OysterBeds$Bed" "fear" "[I", Cond.laysFinal "OysterBeds$Bed" "OysterBeds$Bed" "view" "[I", Cond.laysFinal "OysterBeds$Bed" "OysterBeds$Bed" "shut" "[I", Cond.laysFinal "OysterBeds$Bed" "OysterBeds$Bed" "pearl" "[I", Cond.lays "OysterBeds$Bed" "OysterBeds$Bed" "size" "I", Cond.lays "OysterBeds$Bed" "OysterBeds$Bed" "tide" "I", Cond.lays "OysterBeds$Bed" "OysterBeds$Bed" "asked" "I"], w ∈ WG
  exact List.forall_mem_cons.mpr ⟨wd_101, List.forall_mem_cons.mpr ⟨wd_103, List.forall_mem_cons.mpr ⟨wd_105, List.forall_mem_cons.mpr ⟨wd_107, List.forall_mem_cons.mpr ⟨wd_109, List.forall_mem_cons.mpr ⟨wd_111, List.forall_mem_cons.mpr ⟨wd_113, List.forall_mem_cons.mpr ⟨wd_115, fun _ h => absurd h List.not_mem_nil⟩⟩⟩⟩⟩⟩⟩⟩
theorem inX4 : ∀ w ∈ u_ws RX4 TX4 3, w ∈ WG := by
  show ∀ w ∈ [Cond.laysFinal "OysterBeds$Hearsay" "OysterBeds$Hearsay" "what" "[I", Cond.laysFinal "OysterBeds$Hearsay" "OysterBeds$Hearsay" "value" "[I", Cond.lays "OysterBeds$Hearsay" "OysterBeds$Hearsay" "size" "I"], w ∈ WG
  exact List.forall_mem_cons.mpr ⟨wd_176, List.forall_mem_cons.mpr ⟨wd_178, List.forall_mem_cons.mpr ⟨wd_180, fun _ h => absurd h List.not_mem_nil⟩⟩⟩
theorem inX5 : ∀ w ∈ u_ws RX5 TX5 9, w ∈ WG := by
  show ∀ w ∈ [Cond.laysFinal "OysterBeds$Law" "OysterBeds$Law" "code" "[I", Cond.lays "OysterBeds$Law" "OysterBeds$Law" "length" "I", Cond.laysFinal "OysterBeds$Law" "OysterBeds$Law" "waiting" "[I", Cond.lays "OysterBeds$Law" "OysterBeds$Law" "waits" "I", Cond.laysFinal "OysterBeds$Law" "OysterBeds$Law" "compared" "[Z", Cond.lays "OysterBeds$Law" "OysterBeds$Law" "depth" "I", Cond.lays "OysterBeds$Law" "OysterBeds$Law" "digits" "I", Cond.lays "OysterBeds$Law" "OysterBeds$Law" "isBehindThing" "Z", Cond.laysFinal "OysterBeds$Law" "OysterBeds$Law" "stack" "[I"], w ∈ WG
  exact List.forall_mem_cons.mpr ⟨wd_245, List.forall_mem_cons.mpr ⟨wd_247, List.forall_mem_cons.mpr ⟨wd_249, List.forall_mem_cons.mpr ⟨wd_251, List.forall_mem_cons.mpr ⟨wd_253, List.forall_mem_cons.mpr ⟨wd_255, List.forall_mem_cons.mpr ⟨wd_257, List.forall_mem_cons.mpr ⟨wd_259, List.forall_mem_cons.mpr ⟨wd_261, fun _ h => absurd h List.not_mem_nil⟩⟩⟩⟩⟩⟩⟩⟩⟩
theorem inX6 : ∀ w ∈ u_ws RX6 TX6 5, w ∈ WG := by
  show ∀ w ∈ [Cond.laysFinal "OysterBeds$Past" "OysterBeds$Past" "undos" "[LOysterBeds$Bed;", Cond.lays "OysterBeds$Past" "OysterBeds$Past" "place" "I", Cond.lays "OysterBeds$Past" "OysterBeds$Past" "size" "I", Cond.laysFinal "OysterBeds$Past" "OysterBeds$Past" "shelves" "[LOysterBeds$Bed;", Cond.laysFinal "OysterBeds$Past" "OysterBeds$Past" "isKept" "[Z"], w ∈ WG
  exact List.forall_mem_cons.mpr ⟨wd_134, List.forall_mem_cons.mpr ⟨wd_136, List.forall_mem_cons.mpr ⟨wd_138, List.forall_mem_cons.mpr ⟨wd_140, List.forall_mem_cons.mpr ⟨wd_142, fun _ h => absurd h List.not_mem_nil⟩⟩⟩⟩⟩
theorem inX7 : ∀ w ∈ u_ws RX7 TX7 4, w ∈ WG := by
  show ∀ w ∈ [Cond.laysFinal "OysterBeds$Sightings" "OysterBeds$Sightings" "topic" "[I", Cond.laysFinal "OysterBeds$Sightings" "OysterBeds$Sightings" "wording" "[I", Cond.laysFinal "OysterBeds$Sightings" "OysterBeds$Sightings" "closed" "[I", Cond.lays "OysterBeds$Sightings" "OysterBeds$Sightings" "size" "I"], w ∈ WG
  exact List.forall_mem_cons.mpr ⟨wd_157, List.forall_mem_cons.mpr ⟨wd_159, List.forall_mem_cons.mpr ⟨wd_161, List.forall_mem_cons.mpr ⟨wd_163, fun _ h => absurd h List.not_mem_nil⟩⟩⟩⟩
theorem inX8 : ∀ w ∈ u_ws RX8 TX8 2, w ∈ WG := by
  show ∀ w ∈ [Cond.laysFinal "OysterBeds$Text" "OysterBeds$Text" "signs" "[C", Cond.lays "OysterBeds$Text" "OysterBeds$Text" "length" "I"], w ∈ WG
  exact List.forall_mem_cons.mpr ⟨wd_42, List.forall_mem_cons.mpr ⟨wd_44, fun _ h => absurd h List.not_mem_nil⟩⟩
theorem inX9 : ∀ w ∈ u_ws RX9 TX9 2, w ∈ WG := by
  show ∀ w ∈ [Cond.laysFinal "OysterBeds$Told" "OysterBeds$Told" "numbers" "[J", Cond.lays "OysterBeds$Told" "OysterBeds$Told" "size" "I"], w ∈ WG
  exact List.forall_mem_cons.mpr ⟨wd_58, List.forall_mem_cons.mpr ⟨wd_60, fun _ h => absurd h List.not_mem_nil⟩⟩
theorem inX11 : ∀ w ∈ u_ws RX11 TX11 9, w ∈ WG := by
  show ∀ w ∈ [Cond.laysFinal "OysterBeds" "OysterBeds" "text" "LOysterBeds$Text;", Cond.laysFinal "OysterBeds" "OysterBeds" "told" "LOysterBeds$Told;", Cond.laysFinal "OysterBeds" "OysterBeds" "bed" "LOysterBeds$Bed;", Cond.laysFinal "OysterBeds" "OysterBeds" "spare" "LOysterBeds$Bed;", Cond.laysFinal "OysterBeds" "OysterBeds" "past" "LOysterBeds$Past;", Cond.laysFinal "OysterBeds" "OysterBeds" "sightings" "LOysterBeds$Sightings;", Cond.laysFinal "OysterBeds" "OysterBeds" "hearsay" "LOysterBeds$Hearsay;", Cond.lays "OysterBeds" "OysterBeds" "rule" "LOysterBeds$Law;", Cond.lays "OysterBeds" "OysterBeds" "draft" "LOysterBeds$Law;"], w ∈ WG
  exact List.forall_mem_cons.mpr ⟨wd_273, List.forall_mem_cons.mpr ⟨wd_275, List.forall_mem_cons.mpr ⟨wd_277, List.forall_mem_cons.mpr ⟨wd_279, List.forall_mem_cons.mpr ⟨wd_281, List.forall_mem_cons.mpr ⟨wd_283, List.forall_mem_cons.mpr ⟨wd_285, List.forall_mem_cons.mpr ⟨wd_287, List.forall_mem_cons.mpr ⟨wd_289, fun _ h => absurd h List.not_mem_nil⟩⟩⟩⟩⟩⟩⟩⟩⟩
theorem inX12 : ∀ w ∈ u_ws RX12 TX12 41, w ∈ WG := by
  show ∀ w ∈ [Cond.lays "OysterBedsModel" "OysterBedsModel" "thrown" "I", Cond.lays "OysterBedsModel" "OysterBedsModel" "told" "I", Cond.laysFinal "OysterBedsModel" "OysterBedsModel" "row" "[J", Cond.lays "OysterBedsModel" "OysterBedsModel" "oysters" "I", Cond.lays "OysterBedsModel" "OysterBedsModel" "changes" "I", Cond.laysFinal "OysterBedsModel" "OysterBedsModel" "kind" "[I", Cond.laysFinal "OysterBedsModel" "OysterBedsModel" "now" "[I", Cond.laysFinal "OysterBedsModel" "OysterBedsModel" "then" "[I", Cond.laysFinal "OysterBedsModel" "OysterBedsModel" "tape" "[I", Cond.lays "OysterBedsModel" "OysterBedsModel" "taped" "I", Cond.lays "OysterBedsModel" "OysterBedsModel" "at" "I", Cond.lays "OysterBedsModel" "OysterBedsModel" "to" "I", Cond.lays "OysterBedsModel" "OysterBedsModel" "nest" "I", Cond.laysFinal "OysterBedsModel" "OysterBedsModel" "read" "[I", Cond.lays "OysterBedsModel" "OysterBedsModel" "readMany" "I", Cond.laysFinal "OysterBedsModel" "OysterBedsModel" "code" "[I", Cond.laysFinal "OysterBedsModel" "OysterBedsModel" "readCode" "[I", Cond.lays "OysterBedsModel" "OysterBedsModel" "codeLong" "I", Cond.lays "OysterBedsModel" "OysterBedsModel" "codesRead" "I", Cond.laysFinal "OysterBedsModel" "OysterBedsModel" "stack" "[I", Cond.laysFinal "OysterBedsModel" "OysterBedsModel" "asked" "[I", Cond.lays "OysterBedsModel" "OysterBedsModel" "undos" "I", Cond.laysFinal "OysterBedsModel" "OysterBedsModel" "undone" "[I", Cond.laysFinal "OysterBedsModel" "OysterBedsModel" "actSign" "[I", Cond.laysFinal "OysterBedsModel" "OysterBedsModel" "actOne" "[I", Cond.laysFinal "OysterBedsModel" "OysterBedsModel" "actTwo" "[I", Cond.lays "OysterBedsModel" "OysterBedsModel" "acts" "I", Cond.lays "OysterBedsModel" "OysterBedsModel" "seenMany" "I", Cond.laysFinal "OysterBedsModel" "OysterBedsModel" "seenQuestion" "[I", Cond.laysFinal "OysterBedsModel" "OysterBedsModel" "seenClosed" "[I", Cond.laysFinal "OysterBedsModel" "OysterBedsModel" "often" "[I", Cond.lays "OysterBedsModel" "OysterBedsModel" "heardMany" "I", Cond.laysFinal "OysterBedsModel" "OysterBedsModel" "heardWhat" "[I", Cond.laysFinal "OysterBedsModel" "OysterBedsModel" "heardOf" "[I", Cond.laysFinal "OysterBedsModel" "OysterBedsModel" "ways" "[J", Cond.laysFinal "OysterBedsModel" "OysterBedsModel" "winning" "[I", Cond.laysFinal "OysterBedsModel" "OysterBedsModel" "wasCode" "[I", Cond.lays "OysterBedsModel" "OysterBedsModel" "random" "I", Cond.laysFinal "OysterBedsModel" "OysterBedsModel" "isKept" "[Z", Cond.laysFinal "OysterBedsModel" "OysterBedsModel" "keptChanges" "[I", Cond.laysFinal "OysterBedsModel" "OysterBedsModel" "kept" "[I"], w ∈ WG
  exact List.forall_mem_cons.mpr ⟨wd_997, List.forall_mem_cons.mpr ⟨wd_999, List.forall_mem_cons.mpr ⟨wd_1001, List.forall_mem_cons.mpr ⟨wd_1003, List.forall_mem_cons.mpr ⟨wd_1005, List.forall_mem_cons.mpr ⟨wd_1007, List.forall_mem_cons.mpr ⟨wd_1009, List.forall_mem_cons.mpr ⟨wd_1011, List.forall_mem_cons.mpr ⟨wd_1013, List.forall_mem_cons.mpr ⟨wd_1015, List.forall_mem_cons.mpr ⟨wd_1017, List.forall_mem_cons.mpr ⟨wd_1019, List.forall_mem_cons.mpr ⟨wd_1021, List.forall_mem_cons.mpr ⟨wd_1023, List.forall_mem_cons.mpr ⟨wd_1025, List.forall_mem_cons.mpr ⟨wd_1027, List.forall_mem_cons.mpr ⟨wd_1029, List.forall_mem_cons.mpr ⟨wd_1031, List.forall_mem_cons.mpr ⟨wd_1033, List.forall_mem_cons.mpr ⟨wd_1035, List.forall_mem_cons.mpr ⟨wd_1037, List.forall_mem_cons.mpr ⟨wd_1039, List.forall_mem_cons.mpr ⟨wd_1041, List.forall_mem_cons.mpr ⟨wd_1043, List.forall_mem_cons.mpr ⟨wd_1045, List.forall_mem_cons.mpr ⟨wd_1047, List.forall_mem_cons.mpr ⟨wd_1049, List.forall_mem_cons.mpr ⟨wd_1051, List.forall_mem_cons.mpr ⟨wd_1053, List.forall_mem_cons.mpr ⟨wd_1055, List.forall_mem_cons.mpr ⟨wd_1057, List.forall_mem_cons.mpr ⟨wd_1059, List.forall_mem_cons.mpr ⟨wd_1061, List.forall_mem_cons.mpr ⟨wd_1063, List.forall_mem_cons.mpr ⟨wd_1065, List.forall_mem_cons.mpr ⟨wd_1067, List.forall_mem_cons.mpr ⟨wd_1069, List.forall_mem_cons.mpr ⟨wd_1071, List.forall_mem_cons.mpr ⟨wd_1073, List.forall_mem_cons.mpr ⟨wd_1075, List.forall_mem_cons.mpr ⟨wd_1077, fun _ h => absurd h List.not_mem_nil⟩⟩⟩⟩⟩⟩⟩⟩⟩⟩⟩⟩⟩⟩⟩⟩⟩⟩⟩⟩⟩⟩⟩⟩⟩⟩⟩⟩⟩⟩⟩⟩⟩⟩⟩⟩⟩⟩⟩⟩⟩
abbrev vwCl : List vw_C := [(RX0, TX0, 8), (RX4, TX4, 3), (RX5, TX5, 9), (RX6, TX6, 5), (RX7, TX7, 4), (RX8, TX8, 2), (RX9, TX9, 2), (RX11, TX11, 9), (RX12, TX12, 41)]
/-! THE WORLD of both systems: a place is a number, ga G its address. Below 300: the class's cells; 300 and on: the reference's. -/
abbrev gT : Type := va_G × (Nat → ClassId) × (Nat → Nat) × Heap × (Nat → Nat) × (Nat → Nat) × (Nat → Prop) × List Nat
abbrev gD (G : gT) : va_G := G.1
abbrev gy (G : gT) : Nat → ClassId := G.2.1
abbrev ga (G : gT) : Nat → Nat := G.2.2.1
abbrev gH (G : gT) : Heap := G.2.2.2.1
abbrev gK (G : gT) : Nat → Nat := G.2.2.2.2.1
abbrev gV (G : gT) : Nat → Nat := G.2.2.2.2.2.1
/-- what may be written; the places that are there -/
abbrev gA (G : gT) : Nat → Prop := G.2.2.2.2.2.2.1
abbrev gP (G : gT) : List Nat := G.2.2.2.2.2.2.2
def gtys (G : gT) : List (ClassId × FieldType) := [(gy G 0, .char), (gy G 1, .int), (gy G 2, .long), (gy G 3, .boolean), (gy G 4, .object "OysterBeds$Bed")]
/-- the beds' places: 0 the bed, 1 the spare one, 2 to 16 what can be undone, 17 to 19 what is kept -/
def bedL : List Nat := (List.range 20).map (fun b => 32 + 8 * b)
def PL : List Nat := List.range 27 ++ (bedL.flatMap (fun b => [b, b + 1, b + 2, b + 3, b + 4, b + 5]) ++ [300, 302, 305, 306, 307, 308, 313, 315, 316, 319, 320, 322, 323, 324, 325, 328, 329, 330, 332, 333, 334, 335, 336, 338, 339, 340])
/-- kinds: 0 to 8 objects, by their place in vwCl; 10 char[], 11 int[], 12 long[], 13 boolean[], 14 Bed[] -/
def pk (p : Nat) : Nat := if 32 ≤ p ∧ p < 192 then (if p % 8 = 0 then 0 else 11) else match p with
  | 0 => 7 | 1 => 5 | 2 => 10 | 3 => 6 | 4 => 12 | 5 => 3 | 6 => 14 | 7 => 14 | 8 => 13 | 9 => 4 | 13 => 1 | 16 => 2 | 19 => 13 | 21 => 2 | 24 => 13 | 26 => 12
  | 300 => 8 | 302 => 12 | 334 => 12 | 338 => 13 | _ => 11
/-- how many fields; how long -/
def pn (p : Nat) : Nat := if 32 ≤ p ∧ p < 192 then 8 else match p with
  | 0 => 9 | 1 => 2 | 2 => 80 | 3 => 2 | 4 => 12 | 5 => 5 | 6 => 15 | 7 => 3 | 8 => 3 | 9 => 4 | 10 => 10 | 11 => 10 | 12 => 10 | 13 => 3 | 14 => 12 | 15 => 12
  | 16 => 9 | 17 => 40 | 18 => 40 | 19 => 5 | 20 => 40 | 21 => 9 | 22 => 40 | 23 => 40 | 24 => 5 | 25 => 40 | 26 => 1
  | 300 => 41 | 302 => 24 | 305 => 8 | 306 => 34 | 307 => 34 | 308 => 80 | 313 => 24 | 315 => 80 | 316 => 80 | 319 => 80 | 320 => 7 | 322 => 544 | 323 => 60 | 324 => 60 | 325 => 60
  | 328 => 10 | 329 => 10 | 330 => 9 | 332 => 12 | 333 => 12 | 334 => 10 | 335 => 61 | 336 => 80 | 338 => 3 | 339 => 3 | 340 => 102 | _ => 0
/-- whether field j of kind c is a number -/
def pI (c j : Nat) : Bool := match c with
  | 0 => decide (5 ≤ j) | 1 => j == 2 | 2 => j == 1 || j == 3 || j == 5 || j == 6 || j == 7 | 3 => j == 1 || j == 2 | 4 => j == 3 | 5 => j == 1 | 6 => j == 1 | 7 => false
  | _ => j == 0 || j == 1 || j == 3 || j == 4 || j == 9 || j == 10 || j == 11 || j == 12 || j == 14 || j == 17 || j == 18 || j == 21 || j == 26 || j == 27 || j == 31 || j == 37
/-- where a reference points -/
def rt (w : Nat × Nat) (p j : Nat) : Nat :=
  if p = 0 then (match j with | 0 => 1 | 1 => 3 | 2 => 32 | 3 => 40 | 4 => 5 | 5 => 9 | 6 => 13 | 7 => w.1 | _ => w.2)
  else if p = 5 then (match j with | 0 => 6 | 3 => 7 | _ => 8)
  else if p = 300 then 300 + j
  else if pk p = 2 then (match j with | 0 => p + 1 | 2 => p + 2 | 4 => p + 3 | _ => p + 4)
  else p + 1 + j
def bt (p i : Nat) : Nat := if p = 6 then 48 + 8 * i else 168 + 8 * i
def eV (G : gT) (F : Nat → Nat → Int32) (w : Nat × Nat) (p j : Nat) : Value := if pI (pk p) j = true then .int (F p j) else .ref (ga G (rt w p j))
def eE (G : gT) (F A : Nat → Nat → Int32) (L : Nat → Nat → Int64) (w : Nat × Nat) (p : Nat) : va_E :=
  if pk p ≤ 8 then .inr (pk p, (List.range (pn p)).map (eV G F w p))
  else if pk p = 14 then .inl (gy G 4, pn p, .inr (.inr (.inr (.inr (fun i => some (ga G (bt p i)))))))
  else if pk p = 12 then .inl (gy G 2, pn p, .inr (.inl (L p)))
  else .inl (gy G (pk p - 10), pn p, .inl (A p))
def gW (G : gT) (F A : Nat → Nat → Int32) (L : Nat → Nat → Int64) (w : Nat × Nat) : va_W := (gP G).map (fun p => (ga G p, eE G F A L w p))
def GH (G : gT) (F A : Nat → Nat → Int32) (L : Nat → Nat → Int64) (w : Nat × Nat) (H : Heap) : Prop :=
  va_P (gD G) vwCl (gW G F A L w) H ∧ va_D (gA G) (gW G F A L w) ∧ (∀ q : Nat, q < (gH G).size → ¬ gA G q → H[q]? = (gH G)[q]?) ∧ (gH G).size ≤ H.size
def GQ (G : gT) (F A : Nat → Nat → Int32) (L : Nat → Nat → Int64) (w : Nat × Nat) (H : Heap) (locs : List Loc) : Prop := GH G F A L w H ∧ ∀ q ∈ locs, gA G q.base
theorem GQ.s {G : gT} {F A : Nat → Nat → Int32} {L : Nat → Nat → Int64} {w : Nat × Nat} {H : Heap} {locs : List Loc} (h : GQ G F A L w H locs) : va_S (gA G) (gH G) H locs := ⟨h.1.2.2.2, fun q h1 h2 => h.1.2.2.1 q h1 h2, h.2⟩
theorem GQ.of {G : gT} {F A : Nat → Nat → Int32} {L : Nat → Nat → Int64} {w : Nat × Nat} {H : Heap} {locs : List Loc} (hP : va_P (gD G) vwCl (gW G F A L w) H) (hD : va_D (gA G) (gW G F A L w)) (hS : va_S (gA G) (gH G) H locs) : GQ G F A L w H locs := ⟨⟨hP, hD, fun q h1 h2 => hS.2.1 q h1 h2, hS.1⟩, hS.2.2⟩
theorem pl_nd : PL.Nodup := by decide +kernel
theorem pl_set {α : Type} {L : List Nat} (hn : L.Nodup) {g g' : Nat → α} {P p : Nat} (hP : L[P]? = some p) (h : ∀ q : Nat, q ≠ p → g' q = g q) : (L.map g).set P (g' p) = L.map g' := by
  have hl : P < L.length := (List.getElem?_eq_some_iff.mp hP).1
  apply List.ext_getElem?
  intro k
  by_cases hk : k = P
  · subst hk
    rw [List.getElem?_set_self (by rw [List.length_map]; exact hl), List.getElem?_map, hP]
    rfl
  · rw [List.getElem?_set_ne (Ne.symm hk), List.getElem?_map, List.getElem?_map]
    cases hq : L[k]? with
    | none => rfl
    | some q =>
      have hkl : k < L.length := (List.getElem?_eq_some_iff.mp hq).1
      have hne : q ≠ p := fun e => hk ((List.getElem?_inj hkl hn).mp (by rw [hq, hP, e]))
      simp only [Option.map_some]
      rw [h q hne]
def up2 (F : Nat → Nat → Int32) (p k : Nat) (x : Int32) : Nat → Nat → Int32 := fun q => if q = p then upd (F q) k x else F q
def up3 (F : Nat → Nat → Int64) (p k : Nat) (x : Int64) : Nat → Nat → Int64 := fun q => if q = p then vp_updL (F q) k x else F q
theorem up2_s (F : Nat → Nat → Int32) (p k : Nat) (x : Int32) : up2 F p k x p = upd (F p) k x := if_pos rfl
theorem up2_n (F : Nat → Nat → Int32) {p q : Nat} (k : Nat) (x : Int32) (h : q ≠ p) : up2 F p k x q = F q := if_neg h
theorem up3_s (F : Nat → Nat → Int64) (p k : Nat) (x : Int64) : up3 F p k x p = vp_updL (F p) k x := if_pos rfl
theorem up3_n (F : Nat → Nat → Int64) {p q : Nat} (k : Nat) (x : Int64) (h : q ≠ p) : up3 F p k x q = F q := if_neg h
/-- the words of nest mates -/
def NWL : List Cond := [Cond.methodLinkNest "OysterBeds" 11 ⟨"OysterBeds$Text", "<init>", "()V"⟩ "OysterBeds", Cond.fieldLinkNest "OysterBeds" 64 "OysterBeds$Text" "length" "I" "OysterBeds", Cond.fieldLinkNest "OysterBeds$Law" 36 "OysterBeds$Text" "length" "I" "OysterBeds", Cond.methodLinkNest "OysterBeds" 18 ⟨"OysterBeds$Told", "<init>", "()V"⟩ "OysterBeds", Cond.fieldLinkNest "OysterBeds" 378 "OysterBeds$Told" "numbers" "[J" "OysterBeds", Cond.fieldLinkNest "OysterBeds" 375 "OysterBeds$Told" "size" "I" "OysterBeds", Cond.methodLinkNest "OysterBeds" 25 ⟨"OysterBeds$Bed", "<init>", "()V"⟩ "OysterBeds", Cond.fieldLinkNest "OysterBeds" 118 "OysterBeds$Bed" "kind" "[I" "OysterBeds", Cond.fieldLinkNest "OysterBeds$Hearsay" 44 "OysterBeds$Bed" "kind" "[I" "OysterBeds", Cond.fieldLinkNest "OysterBeds$Law" 120 "OysterBeds$Bed" "kind" "[I" "OysterBeds", Cond.fieldLinkNest "OysterBeds$Council" 13 "OysterBeds$Bed" "fear" "[I" "OysterBeds", Cond.fieldLinkNest "OysterBeds" 122 "OysterBeds$Bed" "fear" "[I" "OysterBeds", Cond.fieldLinkNest "OysterBeds$Hearsay" 47 "OysterBeds$Bed" "fear" "[I" "OysterBeds", Cond.fieldLinkNest "OysterBeds$Law" 117 "OysterBeds$Bed" "fear" "[I" "OysterBeds", Cond.fieldLinkNest "OysterBeds" 125 "OysterBeds$Bed" "view" "[I" "OysterBeds", Cond.fieldLinkNest "OysterBeds$Views" 30 "OysterBeds$Bed" "view" "[I" "OysterBeds", Cond.fieldLinkNest "OysterBeds$Hearsay" 50 "OysterBeds$Bed" "view" "[I" "OysterBeds", Cond.fieldLinkNest "OysterBeds" 128 "OysterBeds$Bed" "shut" "[I" "OysterBeds", Cond.fieldLinkNest "OysterBeds$Hearsay" 53 "OysterBeds$Bed" "shut" "[I" "OysterBeds", Cond.fieldLinkNest "OysterBeds" 131 "OysterBeds$Bed" "pearl" "[I" "OysterBeds", Cond.fieldLinkNest "OysterBeds$Hearsay" 56 "OysterBeds$Bed" "pearl" "[I" "OysterBeds", Cond.fieldLinkNest "OysterBeds$Law" 126 "OysterBeds$Bed" "pearl" "[I" "OysterBeds", Cond.fieldLinkNest "OysterBeds$Council" 7 "OysterBeds$Bed" "size" "I" "OysterBeds", Cond.fieldLinkNest "OysterBeds" 76 "OysterBeds$Bed" "size" "I" "OysterBeds", Cond.fieldLinkNest "OysterBeds$Views" 26 "OysterBeds$Bed" "size" "I" "OysterBeds", Cond.fieldLinkNest "OysterBeds$Past" 42 "OysterBeds$Bed" "size" "I" "OysterBeds", Cond.fieldLinkNest "OysterBeds$Hearsay" 39 "OysterBeds$Bed" "size" "I" "OysterBeds", Cond.fieldLinkNest "OysterBeds$Law" 129 "OysterBeds$Bed" "tide" "I" "OysterBeds", Cond.fieldLinkNest "OysterBeds" 367 "OysterBeds$Bed" "tide" "I" "OysterBeds", Cond.fieldLinkNest "OysterBeds" 370 "OysterBeds$Bed" "asked" "I" "OysterBeds", Cond.methodLinkNest "OysterBeds$Past" 24 ⟨"OysterBeds$Bed", "<init>", "()V"⟩ "OysterBeds", Cond.fieldLinkNest "OysterBeds" 203 "OysterBeds$Past" "size" "I" "OysterBeds", Cond.methodLinkNest "OysterBeds" 42 ⟨"OysterBeds$Sightings", "<init>", "()V"⟩ "OysterBeds", Cond.fieldLinkNest "OysterBeds" 373 "OysterBeds$Sightings" "size" "I" "OysterBeds", Cond.methodLinkNest "OysterBeds" 49 ⟨"OysterBeds$Hearsay", "<init>", "()V"⟩ "OysterBeds", Cond.fieldLinkNest "OysterBeds" 374 "OysterBeds$Hearsay" "size" "I" "OysterBeds", Cond.castable "java/util/NoSuchElementException" "java/util/NoSuchElementException", Cond.declares ⟨"java/lang/RuntimeException", "<init>", "()V"⟩, Cond.declares ⟨"java/lang/RuntimeException", "<init>", "(Ljava/lang/String;)V"⟩, Cond.declares ⟨"java/lang/Exception", "<init>", "()V"⟩, Cond.declares ⟨"java/lang/Exception", "<init>", "(Ljava/lang/String;)V"⟩, Cond.declares ⟨"java/lang/Throwable", "<init>", "()V"⟩, Cond.declares ⟨"java/lang/Throwable", "<init>", "(Ljava/lang/String;)V"⟩, Cond.castable "OysterBeds" "java/lang/Object", Cond.castable "OysterBeds$Text" "java/lang/Object", Cond.castable "OysterBeds$Told" "java/lang/Object", Cond.castable "OysterBeds$Bed" "java/lang/Object", Cond.castable "OysterBeds$Past" "java/lang/Object", Cond.castable "OysterBeds$Sightings" "java/lang/Object", Cond.castable "OysterBeds$Hearsay" "java/lang/Object", Cond.castable "OysterBeds$Law" "java/lang/Object", Cond.castable "OysterBedsModel" "java/lang/Object", Cond.castable "java/util/NoSuchElementException" "java/lang/Object", Cond.castable "java/lang/Throwable" "java/lang/Object", Cond.castable "java/lang/String" "java/lang/Object"]
theorem nwl_tbl : ∀ w ∈ NWL, w ∈ lw_tbl := by decide +kernel
/-- the statics and texts, which nobody writes -/
def SS (G : gT) (U : State) : Prop :=
  (∃ t : Nat, va_Z "OysterBeds$Law" "NO_RULE" "[C" (.ref t) (gA G) U (gH G) ∧ va_T .char t 7 (fun j => .int (([118, 42, 57, 45, 102, 43, 119] : List Int32).getD j 0)) (gA G) U (gH G)) ∧
  (∃ t : Nat, va_Z "OysterBeds$Views" "WITH_YES" "[I" (.ref t) (gA G) U (gH G) ∧ va_T .int t 4 (fun j => .int (([43690, 52428, 61680, 65280] : List Int32).getD j 0)) (gA G) U (gH G)) ∧
  (∃ t : Nat, va_Z "OysterBeds$Hearsay" "GREATEST" "[I" (.ref t) (gA G) U (gH G) ∧ va_T .int t 5 (fun j => .int (([2, 9, 3, 1, 9] : List Int32).getD j 0)) (gA G) U (gH G)) ∧
  va_Z "java/lang/String" "COMPACT_STRINGS" "Z" (.int 1) (gA G) U (gH G) ∧ vx_Zq "java/lang/Throwable" "UNASSIGNED_STACK" "[Ljava/lang/StackTraceElement;" (gA G) U (gH G) ∧ vx_Zq "java/lang/Throwable" "SUPPRESSED_SENTINEL" "Ljava/util/List;" (gA G) U (gH G) ∧ va_Zq "jdk/internal/util/Preconditions" "SIOOBE_FORMATTER" "Ljava/util/function/BiFunction;" (gA G) U (gH G) ∧
  vk_S 9 [14, 25, 25, 3, 7, 3, 2, 2, 5] [[110, 111, 32, 115, 117, 99, 104, 32, 111, 121, 115, 116, 101, 114], [110, 111, 116, 104, 105, 110, 103, 32, 115, 117, 99, 104, 32, 111, 102, 32, 97, 110, 32, 111, 121, 115, 116, 101, 114], [110, 111, 32, 115, 117, 99, 104, 32, 110, 117, 109, 98, 101, 114, 32, 111, 102, 32, 116, 104, 101, 32, 114, 111, 119], [110, 112, 114], [102, 118, 107, 119, 99, 112, 110], [60, 62, 61], [43, 45], [42, 47], [110, 107, 113, 102, 118]] (gK G) (gV G) (gA G) U (gH G) ∧
  vk_R "OysterBeds" 113 "no such oyster" (gK G 0) U ∧ vk_R "OysterBeds" 134 "nothing such of an oyster" (gK G 1) U ∧ vk_R "OysterBeds" 376 "no such number of the row" (gK G 2) U ∧ vk_R "OysterBedsModel" 164 "npr" (gK G 3) U ∧ vk_R "OysterBedsModel" 203 "fvkwcpn" (gK G 4) U ∧ vk_R "OysterBedsModel" 208 "<>=" (gK G 5) U ∧ vk_R "OysterBedsModel" 210 "+-" (gK G 6) U ∧ vk_R "OysterBedsModel" 212 "*/" (gK G 7) U ∧ vk_R "OysterBedsModel" 299 "nkqfv" (gK G 8) U
def KK (G : gT) (U : State) : Prop := va_K (gD G) vwCl (gtys G) U ∧ (∀ w ∈ NWL, va_Nw w U) ∧ SS G U
theorem SS.mv {G : gT} {u U : State} (hvm : u.vm.Alike U.vm) (hR : ∀ (own tx : String) (k a : Nat), vk_R own k tx a u → vk_R own k tx a U) (h : SS G u) : SS G U := by
  obtain ⟨⟨t1, a1, b1⟩, ⟨t2, a2, b2⟩, ⟨t3, a3, b3⟩, h4, h5, h6, h7, h8, r0, r1, r2, r3, r4, r5, r6, r7, r8⟩ := h
  exact ⟨⟨t1, a1.moved hvm, b1.moved hvm⟩, ⟨t2, a2.moved hvm, b2.moved hvm⟩, ⟨t3, a3.moved hvm, b3.moved hvm⟩, h4.moved hvm, h5.moved hvm, h6.moved hvm, h7.moved hvm, h8.moved hvm, hR _ _ _ _ r0, hR _ _ _ _ r1, hR _ _ _ _ r2, hR _ _ _ _ r3, hR _ _ _ _ r4, hR _ _ _ _ r5, hR _ _ _ _ r6, hR _ _ _ _ r7, hR _ _ _ _ r8⟩
theorem nwl_warm {s U : State} (hW : s.WarmedH U.vm) : ∀ w ∈ NWL, va_Nw w s → va_Nw w U := by
  intro w hw h
  simp only [NWL, List.mem_cons, List.not_mem_nil, or_false] at hw
  repeat first | (rcases hw with rfl | hw; first | exact va_Nw.warmF hW h | exact va_Nw.warmM hW h | exact va_Nw.warmC hW h | exact va_Nw.warmD hW h) | (subst hw; first | exact va_Nw.warmF hW h | exact va_Nw.warmM hW h | exact va_Nw.warmC hW h | exact va_Nw.warmD hW h)
theorem nwl_same {u U : State} (hv : u.vm = U.vm) : ∀ w ∈ NWL, va_Nw w u → va_Nw w U := by
  intro w hw h
  have hon : w.onTables = true := by
    have h1 : NWL.all (fun w => w.onTables) = true := by decide +kernel
    exact List.all_eq_true.mp h1 w hw
  exact va_Nw.same hon hv h
theorem KK.warm {G : gT} {s U : State} (hW : s.WarmedH U.vm) (h : KK G s) : KK G U := ⟨h.1.moved hW.alike, fun w hw => nwl_warm hW w hw (h.2.1 w hw), h.2.2.mv hW.alike (fun _ _ _ _ r => r.warm hW)⟩
theorem KK.blind {G : gT} {U V : State} (hv : V.vm = U.vm) (h : KK G U) : KK G V := by
  have hal : U.vm.Alike V.vm := by rw [hv]; exact Vm.Alike.refl _
  exact ⟨h.1.moved hal, fun w hw => nwl_same hv.symm w hw (h.2.1 w hw), h.2.2.mv hal (fun _ _ _ _ r => r.same hv)⟩
/-- what a class's table of fields must hold for the rows -/
def CT (ci : Nat) (C : String) (T : u_T) (N : Nat) (ty : Nat → FieldType) : Prop :=
  vwCl[ci]? = some (C, T, N) ∧ (∀ w ∈ u_ws C T N, w ∈ WG) ∧ (∀ k, k < N → parseFieldDescriptor (T k).2.2.1 = some (ty k)) ∧ (∀ a, a < N → ∀ b, b < N → a ≠ b → (T a).2.1 ≠ (T b).2.1) ∧ (∀ k, k < N → (T k).1 = C) ∧ ci ≤ 8
theorem ct0 : CT 0 RX0 TX0 8 tyX0 := ⟨rfl, inX0, tyX0_ok, nmX0, by decide +kernel, by decide⟩
theorem ct1 : CT 1 RX4 TX4 3 tyX4 := ⟨rfl, inX4, tyX4_ok, nmX4, by decide +kernel, by decide⟩
theorem ct2 : CT 2 RX5 TX5 9 tyX5 := ⟨rfl, inX5, tyX5_ok, nmX5, by decide +kernel, by decide⟩
theorem ct3 : CT 3 RX6 TX6 5 tyX6 := ⟨rfl, inX6, tyX6_ok, nmX6, by decide +kernel, by decide⟩
theorem ct4 : CT 4 RX7 TX7 4 tyX7 := ⟨rfl, inX7, tyX7_ok, nmX7, by decide +kernel, by decide⟩
theorem ct5 : CT 5 RX8 TX8 2 tyX8 := ⟨rfl, inX8, tyX8_ok, nmX8, by decide +kernel, by decide⟩
theorem ct6 : CT 6 RX9 TX9 2 tyX9 := ⟨rfl, inX9, tyX9_ok, nmX9, by decide +kernel, by decide⟩
theorem ct7 : CT 7 RX11 TX11 9 tyX11 := ⟨rfl, inX11, tyX11_ok, nmX11, by decide +kernel, by decide⟩
theorem ct8 : CT 8 RX12 TX12 41 tyX12 := ⟨rfl, inX12, tyX12_ok, nmX12, by decide +kernel, by decide⟩
/-- a place with an object of kind ci; a place with an array of kind ci, n long -/
def OP (G : gT) (p ci N : Nat) : Prop := p ∈ gP G ∧ pk p = ci ∧ pn p = N
theorem gp_nd {G : gT} {A : Nat → Prop} {F A' : Nat → Nat → Int32} {L : Nat → Nat → Int64} {w : Nat × Nat} (h : va_D A (gW G F A' L w)) : (gP G).Nodup := by
  refine List.pairwise_iff_getElem.mpr (fun i j hi hj hij e => ?_)
  have h1 : (gW G F A' L w)[i]? = some (ga G (gP G)[i], eE G F A' L w (gP G)[i]) := by unfold gW; rw [List.getElem?_map, List.getElem?_eq_getElem hi]; rfl
  have h2 : (gW G F A' L w)[j]? = some (ga G (gP G)[j], eE G F A' L w (gP G)[j]) := by unfold gW; rw [List.getElem?_map, List.getElem?_eq_getElem hj]; rfl
  exact absurd (h.1 i j _ _ h1 h2 (by show ga G _ = ga G _; rw [e])) (Nat.ne_of_lt hij)
def FX (p : Program) (m : MethodId) (c : Code) (cc : ByteArray) (nL : Nat) (s : State) (args : Array Value) (own : String) (G : gT) : Prop :=
  p.tables.exec = Jvm.exec ∧ c.code = cc ∧ c.maxLocals = nL ∧ s.vm.findClass own = some m.cls ∧ (∀ w ∈ WG, w.before args s = true) ∧ KK G s
section GROWS
variable {p : Program} {l : Launch} {e : Env} {R : Room} {s : State} {m : MethodId} {args : Array Value} {below : List Frame} {meth : Method} {c : Code} {H : Heap} {locs : List Loc} {cells slots : Nat} {Q : State → Prop}
variable {pc nL : Nat} {ls : Array Slot} {rest : List Value} {cc : ByteArray} {own : String} {G : gT} {F A : Nat → Nat → Int32} {L : Nat → Nat → Int64} {w : Nat × Nat}
theorem gw_at {P : Nat} (hp : P ∈ gP G) : ∃ k : Nat, (gP G)[k]? = some P ∧ (gW G F A L w)[k]? = some (ga G P, eE G F A L w P) := by
  obtain ⟨k, hk⟩ := List.getElem?_of_mem hp
  exact ⟨k, hk, by unfold gW; rw [List.getElem?_map, hk]; rfl⟩
theorem ee_obj {P ci N : Nat} (h : OP G P ci N) (hc : ci ≤ 8) : eE G F A L w P = .inr (ci, (List.range N).map (eV G F w P)) := by
  obtain ⟨-, h2, h3⟩ := h
  unfold eE
  rw [if_pos (by rw [h2]; exact hc), h2, h3]
theorem ee_arr {P ci N : Nat} (h : OP G P ci N) (hc : ci = 10 ∨ ci = 11 ∨ ci = 13) : eE G F A L w P = .inl (gy G (ci - 10), N, .inl (A P)) := by
  obtain ⟨-, h2, h3⟩ := h
  unfold eE
  rw [h2, h3, if_neg (by omega), if_neg (by omega), if_neg (by omega)]
theorem ee_lon {P N : Nat} (h : OP G P 12 N) : eE G F A L w P = .inl (gy G 2, N, .inr (.inl (L P))) := by
  obtain ⟨-, h2, h3⟩ := h
  unfold eE
  rw [h2, h3, if_neg (by omega), if_neg (by omega), if_pos rfl]
theorem ee_bed {P N : Nat} (h : OP G P 14 N) : eE G F A L w P = .inl (gy G 4, N, .inr (.inr (.inr (.inr (fun i => some (ga G (bt P i))))))) := by
  obtain ⟨-, h2, h3⟩ := h
  unfold eE
  rw [h2, h3, if_neg (by omega), if_pos rfl]
theorem fl_at {N j : Nat} (hj : j < N) (P : Nat) : ((List.range N).map (eV G F w P))[j]? = some (eV G F w P j) := by
  rw [List.getElem?_map, List.getElem?_range hj]
  rfl
theorem gr_getf (X : FX p m c cc nL s args own G) (h : GQ G F A L w H locs) {P ci N j idx : Nat} {C : String} {T : u_T} {ty : Nat → FieldType} (hT : CT ci C T N ty) (hO : OP G P ci N) (hj : j < N) (hlk : Cond.fieldLink own idx C (T j).2.1 (T j).2.2.1 ∈ WG) {v : Value} (hv : eV G F w P j = v) (hdg : decode cc pc = .ok (.getfield idx, 3))
    (k : W p l e R s m args below meth c H locs cells slots Q (F0 m (pc + 3) ls (v :: rest))) : W p l e R s m args below meth c H locs cells slots Q (F0 m pc ls (.ref (ga G P) :: rest)) := by
  obtain ⟨hx, hb, hml, hown, hts, hK⟩ := X
  obtain ⟨q0, -, hq⟩ := gw_at (G := G) (F := F) (A := A) (L := L) (w := w) hO.1
  rw [ee_obj hO hT.2.2.2.2.2] at hq
  exact va_get (D := gD G) (C := C) (T := T) (N := N) hx hb hts hT.2.1 hown hK.1 h.1.1 q0 hq hT.1 j hj (hts _ hlk) (fun x hx => by rw [hT.2.2.2.2.1 j hj] at hx; exact hx) (v := v) (by rw [fl_at hj, hv]) hdg k
theorem gr_getN (X : FX p m c cc nL s args own G) (h : GQ G F A L w H locs) {P ci N j idx : Nat} {C host : String} {T : u_T} {ty : Nat → FieldType} (hT : CT ci C T N ty) (hO : OP G P ci N) (hj : j < N) (hlk : Cond.fieldLinkNest own idx C (T j).2.1 (T j).2.2.1 host ∈ NWL) {v : Value} (hv : eV G F w P j = v) (hdg : decode cc pc = .ok (.getfield idx, 3))
    (k : W p l e R s m args below meth c H locs cells slots Q (F0 m (pc + 3) ls (v :: rest))) : W p l e R s m args below meth c H locs cells slots Q (F0 m pc ls (.ref (ga G P) :: rest)) := by
  obtain ⟨hx, hb, hml, hown, hts, hK⟩ := X
  obtain ⟨q0, -, hq⟩ := gw_at (G := G) (F := F) (A := A) (L := L) (w := w) hO.1
  rw [ee_obj hO hT.2.2.2.2.2] at hq
  exact va_getN (D := gD G) (C := C) (T := T) (N := N) (host := host) hx hb hts hT.2.1 hown hK.1 h.1.1 q0 hq hT.1 j hj (va_Nw.use rfl (hK.2.1 _ hlk)) (fun x hx => by rw [hT.2.2.2.2.1 j hj] at hx; exact hx) (v := v) (by rw [fl_at hj, hv]) hdg k
theorem ev_set {P j N : Nat} {x : Int32} (hI : pI (pk P) j = true) : eV G (up2 F P j x) w P j = .int x := by
  unfold eV
  rw [if_pos hI, up2_s]
  unfold upd
  rw [if_pos rfl]
theorem ev_oth {P j q : Nat} {x : Int32} (hq : q ≠ j) : eV G (up2 F P j x) w P q = eV G F w P q := by
  unfold eV
  rw [up2_s]
  unfold upd
  rw [if_neg hq]
theorem ee_oth {P j q : Nat} {x : Int32} (hq : q ≠ P) : eE G (up2 F P j x) A L w q = eE G F A L w q := by
  have h1 : eV G (up2 F P j x) w q = eV G F w q := by
    funext i
    unfold eV
    rw [up2_n F j x hq]
  unfold eE
  rw [h1]
theorem gw_put {P j N ci k : Nat} {x : Int32} (hO : OP G P ci N) (hc : ci ≤ 8) (hI : pI ci j = true) (hj : j < N) (hn : (gP G).Nodup) (hk : (gP G)[k]? = some P) :
    (gW G F A L w).set k (ga G P, .inr (ci, ((List.range N).map (eV G F w P)).set j (.int x))) = gW G (up2 F P j x) A L w := by
  have e1 : ((List.range N).map (eV G F w P)).set j (.int x) = (List.range N).map (eV G (up2 F P j x) w P) := by
    have h1 := pl_set (L := List.range N) List.nodup_range (g := eV G F w P) (g' := eV G (up2 F P j x) w P) (P := j) (p := j) (List.getElem?_range hj) (fun q hq => ev_oth hq)
    rw [ev_set (N := N) (by rw [hO.2.1]; exact hI)] at h1
    exact h1
  rw [e1, ← ee_obj (A := A) (L := L) hO hc]
  exact pl_set hn (g := fun p => (ga G p, eE G F A L w p)) (g' := fun p => (ga G p, eE G (up2 F P j x) A L w p)) hk (fun q hq => by show (ga G q, _) = (ga G q, _); rw [ee_oth hq])
theorem gr_putf (X : FX p m c cc nL s args own G) (h : GQ G F A L w H locs) {P ci N j idx : Nat} {C : String} {T : u_T} {ty : Nat → FieldType} (hT : CT ci C T N ty) (hO : OP G P ci N) (hj : j < N) (hlk : Cond.fieldLink own idx C (T j).2.1 (T j).2.2.1 ∈ WG) (hI : pI ci j = true) (hf : (T j).2.2.2 = false) {x : Int32} (hn : narrow (ty j) (.int x) = .int x) (hfit : fits (ty j) (.int x) = true) (hdg : decode cc pc = .ok (.putfield idx, 3))
    (k : ∀ (H1 : Heap) (locs1 : List Loc), GQ G (up2 F P j x) A L w H1 locs1 → W p l e R s m args below meth c H1 locs1 cells slots Q (F0 m (pc + 3) ls rest)) : W p l e R s m args below meth c H locs cells slots Q (F0 m pc ls (.int x :: .ref (ga G P) :: rest)) := by
  obtain ⟨hx, hb, hml, hown, hts, hK⟩ := X
  obtain ⟨q0, hq0, hq⟩ := gw_at (G := G) (F := F) (A := A) (L := L) (w := w) hO.1
  rw [ee_obj hO hT.2.2.2.2.2] at hq
  refine va_put (D := gD G) (C := C) (T := T) (N := N) (v := .int x) (ty := ty j) hx hb hts hT.2.1 ty hT.2.2.1 hT.2.2.2.1 hown hK.1 h.1.1 h.1.2.1 h.s q0 hq hT.1 j hj (hts _ hlk) (fun x hx => by rw [hT.2.2.2.2.1 j hj] at hx; exact hx) hf (hT.2.2.1 j hj) hn hfit (by rw [List.length_map, List.length_range]; exact hj) hdg (fun H1 locs1 a1 a2 a3 => ?_)
  rw [gw_put hO hT.2.2.2.2.2 hI hj (gp_nd h.1.2.1) hq0] at a1 a2
  exact k H1 locs1 (GQ.of a1 a2 a3)
theorem gr_putN (X : FX p m c cc nL s args own G) (h : GQ G F A L w H locs) {P ci N j idx : Nat} {C host : String} {T : u_T} {ty : Nat → FieldType} (hT : CT ci C T N ty) (hO : OP G P ci N) (hj : j < N) (hlk : Cond.fieldLinkNest own idx C (T j).2.1 (T j).2.2.1 host ∈ NWL) (hI : pI ci j = true) (hf : (T j).2.2.2 = false) {x : Int32} (hn : narrow (ty j) (.int x) = .int x) (hfit : fits (ty j) (.int x) = true) (hdg : decode cc pc = .ok (.putfield idx, 3))
    (k : ∀ (H1 : Heap) (locs1 : List Loc), GQ G (up2 F P j x) A L w H1 locs1 → W p l e R s m args below meth c H1 locs1 cells slots Q (F0 m (pc + 3) ls rest)) : W p l e R s m args below meth c H locs cells slots Q (F0 m pc ls (.int x :: .ref (ga G P) :: rest)) := by
  obtain ⟨hx, hb, hml, hown, hts, hK⟩ := X
  obtain ⟨q0, hq0, hq⟩ := gw_at (G := G) (F := F) (A := A) (L := L) (w := w) hO.1
  rw [ee_obj hO hT.2.2.2.2.2] at hq
  refine va_putN (D := gD G) (C := C) (T := T) (N := N) (host := host) (v := .int x) (ty := ty j) hx hb hts hT.2.1 ty hT.2.2.1 hT.2.2.2.1 hown hK.1 h.1.1 h.1.2.1 h.s q0 hq hT.1 j hj (va_Nw.use rfl (hK.2.1 _ hlk)) (fun x hx => by rw [hT.2.2.2.2.1 j hj] at hx; exact hx) hf (hT.2.2.1 j hj) hn hfit (by rw [List.length_map, List.length_range]; exact hj) hdg (fun H1 locs1 a1 a2 a3 => ?_)
  rw [gw_put hO hT.2.2.2.2.2 hI hj (gp_nd h.1.2.1) hq0] at a1 a2
  exact k H1 locs1 (GQ.of a1 a2 a3)
theorem gw_ast {P N ci k i : Nat} {x : Int32} (hO : OP G P ci N) (hc : ci = 10 ∨ ci = 11 ∨ ci = 13) (hn : (gP G).Nodup) (hk : (gP G)[k]? = some P) :
    (gW G F A L w).set k (ga G P, .inl (gy G (ci - 10), N, .inl (upd (A P) i x))) = gW G F (up2 A P i x) L w := by
  have e1 : eE G F (up2 A P i x) L w P = .inl (gy G (ci - 10), N, .inl (upd (A P) i x)) := by rw [ee_arr hO hc, up2_s]
  rw [← e1]
  exact pl_set hn (g := fun p => (ga G p, eE G F A L w p)) (g' := fun p => (ga G p, eE G F (up2 A P i x) L w p)) hk (fun q hq => by
    show (ga G q, _) = (ga G q, _)
    congr 1
    unfold eE
    rw [up2_n A i x hq])
theorem gw_lst {P N k i : Nat} {x : Int64} (hO : OP G P 12 N) (hn : (gP G).Nodup) (hk : (gP G)[k]? = some P) :
    (gW G F A L w).set k (ga G P, .inl (gy G 2, N, .inr (.inl (vp_updL (L P) i x)))) = gW G F A (up3 L P i x) w := by
  have e1 : eE G F A (up3 L P i x) w P = .inl (gy G 2, N, .inr (.inl (vp_updL (L P) i x))) := by rw [ee_lon hO, up3_s]
  rw [← e1]
  exact pl_set hn (g := fun p => (ga G p, eE G F A L w p)) (g' := fun p => (ga G p, eE G F A (up3 L P i x) w p)) hk (fun q hq => by
    show (ga G q, _) = (ga G q, _)
    congr 1
    unfold eE
    rw [up3_n L i x hq])
theorem gr_iald (X : FX p m c cc nL s args own G) (h : GQ G F A L w H locs) {P N : Nat} (hO : OP G P 11 N) {i : Int32} (hin : vp_in i N) (hdg : decode cc pc = .ok (.iaload, 1))
    (k : W p l e R s m args below meth c H locs cells slots Q (F0 m (pc + 1) ls (.int (A P i.toNatClampNeg) :: rest))) : W p l e R s m args below meth c H locs cells slots Q (F0 m pc ls (.int i :: .ref (ga G P) :: rest)) := by
  obtain ⟨hx, hb, hml, hown, hts, hK⟩ := X
  obtain ⟨q0, -, hq⟩ := gw_at (G := G) (F := F) (A := A) (L := L) (w := w) hO.1
  rw [ee_arr hO (by omega)] at hq
  exact va_iald hx hb hK.1 h.1.1 q0 1 hq rfl hin hdg k
theorem gr_zald (X : FX p m c cc nL s args own G) (h : GQ G F A L w H locs) {P N : Nat} (hO : OP G P 13 N) {i : Int32} (hin : vp_in i N) (hdg : decode cc pc = .ok (.baload, 1))
    (k : W p l e R s m args below meth c H locs cells slots Q (F0 m (pc + 1) ls (.int (A P i.toNatClampNeg) :: rest))) : W p l e R s m args below meth c H locs cells slots Q (F0 m pc ls (.int i :: .ref (ga G P) :: rest)) := by
  obtain ⟨hx, hb, hml, hown, hts, hK⟩ := X
  obtain ⟨q0, -, hq⟩ := gw_at (G := G) (F := F) (A := A) (L := L) (w := w) hO.1
  rw [ee_arr hO (by omega)] at hq
  exact va_zald hx hb hK.1 h.1.1 q0 3 hq rfl hin hdg k
theorem gr_cald (X : FX p m c cc nL s args own G) (h : GQ G F A L w H locs) {P N : Nat} (hO : OP G P 10 N) {i : Int32} (hin : vp_in i N) (hdg : decode cc pc = .ok (.caload, 1))
    (k : W p l e R s m args below meth c H locs cells slots Q (F0 m (pc + 1) ls (.int (A P i.toNatClampNeg) :: rest))) : W p l e R s m args below meth c H locs cells slots Q (F0 m pc ls (.int i :: .ref (ga G P) :: rest)) := by
  obtain ⟨hx, hb, hml, hown, hts, hK⟩ := X
  obtain ⟨q0, -, hq⟩ := gw_at (G := G) (F := F) (A := A) (L := L) (w := w) hO.1
  rw [ee_arr hO (by omega)] at hq
  exact va_cald hx hb hK.1 h.1.1 q0 0 hq rfl hin hdg k
theorem gr_lald (X : FX p m c cc nL s args own G) (h : GQ G F A L w H locs) {P N : Nat} (hO : OP G P 12 N) {i : Int32} (hin : vp_in i N) (hdg : decode cc pc = .ok (.laload, 1))
    (k : W p l e R s m args below meth c H locs cells slots Q (F0 m (pc + 1) ls (.long (L P i.toNatClampNeg) :: rest))) : W p l e R s m args below meth c H locs cells slots Q (F0 m pc ls (.int i :: .ref (ga G P) :: rest)) := by
  obtain ⟨hx, hb, hml, hown, hts, hK⟩ := X
  obtain ⟨q0, -, hq⟩ := gw_at (G := G) (F := F) (A := A) (L := L) (w := w) hO.1
  rw [ee_lon hO] at hq
  exact va_lald hx hb hK.1 h.1.1 q0 2 hq rfl hin hdg k
theorem gr_aald (X : FX p m c cc nL s args own G) (h : GQ G F A L w H locs) {P N : Nat} (hO : OP G P 14 N) {i : Int32} (hin : vp_in i N) (hdg : decode cc pc = .ok (.aaload, 1))
    (k : W p l e R s m args below meth c H locs cells slots Q (F0 m (pc + 1) ls (.ref (ga G (bt P i.toNatClampNeg)) :: rest))) : W p l e R s m args below meth c H locs cells slots Q (F0 m pc ls (.int i :: .ref (ga G P) :: rest)) := by
  obtain ⟨hx, hb, hml, hown, hts, hK⟩ := X
  obtain ⟨q0, -, hq⟩ := gw_at (G := G) (F := F) (A := A) (L := L) (w := w) hO.1
  rw [ee_bed hO] at hq
  exact va_aldq hx hb hK.1 h.1.1 q0 4 hq rfl hin hdg k
theorem gr_iast (X : FX p m c cc nL s args own G) (h : GQ G F A L w H locs) {P N : Nat} (hO : OP G P 11 N) {i x : Int32} (hin : vp_in i N) (hdg : decode cc pc = .ok (.iastore, 1))
    (k : ∀ (H1 : Heap) (locs1 : List Loc), GQ G F (up2 A P i.toNatClampNeg x) L w H1 locs1 → W p l e R s m args below meth c H1 locs1 cells slots Q (F0 m (pc + 1) ls rest)) : W p l e R s m args below meth c H locs cells slots Q (F0 m pc ls (.int x :: .int i :: .ref (ga G P) :: rest)) := by
  obtain ⟨hx, hb, hml, hown, hts, hK⟩ := X
  obtain ⟨q0, hq0, hq⟩ := gw_at (G := G) (F := F) (A := A) (L := L) (w := w) hO.1
  rw [ee_arr hO (by omega)] at hq
  refine va_iast hx hb hK.1 h.1.1 h.1.2.1 h.s q0 1 hq rfl hin hdg (fun H1 locs1 a1 a2 a3 => ?_)
  rw [gw_ast hO (by omega) (gp_nd h.1.2.1) hq0] at a1 a2
  exact k H1 locs1 (GQ.of a1 a2 a3)
theorem gr_zast (X : FX p m c cc nL s args own G) (h : GQ G F A L w H locs) {P N : Nat} (hO : OP G P 13 N) {i x : Int32} (hin : vp_in i N) (hdg : decode cc pc = .ok (.bastore, 1))
    (k : ∀ (H1 : Heap) (locs1 : List Loc), GQ G F (up2 A P i.toNatClampNeg (vp_nar .boolean x)) L w H1 locs1 → W p l e R s m args below meth c H1 locs1 cells slots Q (F0 m (pc + 1) ls rest)) : W p l e R s m args below meth c H locs cells slots Q (F0 m pc ls (.int x :: .int i :: .ref (ga G P) :: rest)) := by
  obtain ⟨hx, hb, hml, hown, hts, hK⟩ := X
  obtain ⟨q0, hq0, hq⟩ := gw_at (G := G) (F := F) (A := A) (L := L) (w := w) hO.1
  rw [ee_arr hO (by omega)] at hq
  refine va_zast hx hb hK.1 h.1.1 h.1.2.1 h.s q0 3 hq rfl hin hdg (fun H1 locs1 a1 a2 a3 => ?_)
  rw [gw_ast hO (by omega) (gp_nd h.1.2.1) hq0] at a1 a2
  exact k H1 locs1 (GQ.of a1 a2 a3)
theorem gr_cast (X : FX p m c cc nL s args own G) (h : GQ G F A L w H locs) {P N : Nat} (hO : OP G P 10 N) {i x : Int32} (hin : vp_in i N) (hdg : decode cc pc = .ok (.castore, 1))
    (k : ∀ (H1 : Heap) (locs1 : List Loc), GQ G F (up2 A P i.toNatClampNeg (vp_nar .char x)) L w H1 locs1 → W p l e R s m args below meth c H1 locs1 cells slots Q (F0 m (pc + 1) ls rest)) : W p l e R s m args below meth c H locs cells slots Q (F0 m pc ls (.int x :: .int i :: .ref (ga G P) :: rest)) := by
  obtain ⟨hx, hb, hml, hown, hts, hK⟩ := X
  obtain ⟨q0, hq0, hq⟩ := gw_at (G := G) (F := F) (A := A) (L := L) (w := w) hO.1
  rw [ee_arr hO (by omega)] at hq
  refine va_cast hx hb hK.1 h.1.1 h.1.2.1 h.s q0 0 hq rfl hin hdg (fun H1 locs1 a1 a2 a3 => ?_)
  rw [gw_ast hO (by omega) (gp_nd h.1.2.1) hq0] at a1 a2
  exact k H1 locs1 (GQ.of a1 a2 a3)
theorem gr_last (X : FX p m c cc nL s args own G) (h : GQ G F A L w H locs) {P N : Nat} (hO : OP G P 12 N) {i : Int32} {x : Int64} (hin : vp_in i N) (hdg : decode cc pc = .ok (.lastore, 1))
    (k : ∀ (H1 : Heap) (locs1 : List Loc), GQ G F A (up3 L P i.toNatClampNeg x) w H1 locs1 → W p l e R s m args below meth c H1 locs1 cells slots Q (F0 m (pc + 1) ls rest)) : W p l e R s m args below meth c H locs cells slots Q (F0 m pc ls (.long x :: .int i :: .ref (ga G P) :: rest)) := by
  obtain ⟨hx, hb, hml, hown, hts, hK⟩ := X
  obtain ⟨q0, hq0, hq⟩ := gw_at (G := G) (F := F) (A := A) (L := L) (w := w) hO.1
  rw [ee_lon hO] at hq
  refine va_last hx hb hK.1 h.1.1 h.1.2.1 h.s q0 2 hq rfl hin hdg (fun H1 locs1 a1 a2 a3 => ?_)
  rw [gw_lst hO (gp_nd h.1.2.1) hq0] at a1 a2
  exact k H1 locs1 (GQ.of a1 a2 a3)
theorem gr_recv (hK : KK G s) (h : GQ G F A L w H locs) {P ci N : Nat} {C : String} {T : u_T} {ty : Nat → FieldType} (hT : CT ci C T N ty) (hO : OP G P ci N) : ∃ cell : Cell, H[ga G P]? = some cell ∧ cell.vm.isStatics = false ∧ s.vm.findClass C = some cell.cls := by
  obtain ⟨q0, -, hq⟩ := gw_at (G := G) (F := F) (A := A) (L := L) (w := w) hO.1
  rw [ee_obj hO hT.2.2.2.2.2] at hq
  exact va_recv hK.1 h.1.1 hT.1 hq
end GROWS

