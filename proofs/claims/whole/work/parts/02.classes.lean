-- class tables (out of claim/NAMES.whole), the layout of all cells that the two constructors make
def RX0 : String := "PutOn$Clock"
def TX0 : u_T := fun k => match k with
  | 0 => ("PutOn$Clock", "room", "I", false)
  | 1 => ("PutOn$Clock", "off", "I", false)
  | 2 => ("PutOn$Clock", "self", "I", false)
  | _ => ("PutOn$Clock", "saw", "I", false)
def tyX0 : Nat → FieldType := fun k => match k with
  | 0 => .int
  | 1 => .int
  | 2 => .int
  | _ => .int
theorem nmX0 : ∀ a, a < 4 → ∀ b, b < 4 → a ≠ b → (TX0 a).2.1 ≠ (TX0 b).2.1 := by decide +kernel
theorem tyX0_ok : ∀ k, k < 4 → parseFieldDescriptor (TX0 k).2.2.1 = some (tyX0 k) := by decide +kernel
def RX1 : String := "PutOn$Doer"
def TX1 : u_T := fun k => match k with
  | 0 => ("PutOn$Doer", "kind", "I", false)
  | 1 => ("PutOn$Doer", "number", "I", false)
  | _ => ("PutOn$Doer", "way", "I", false)
def tyX1 : Nat → FieldType := fun k => match k with
  | 0 => .int
  | 1 => .int
  | _ => .int
theorem nmX1 : ∀ a, a < 3 → ∀ b, b < 3 → a ≠ b → (TX1 a).2.1 ≠ (TX1 b).2.1 := by decide +kernel
theorem tyX1_ok : ∀ k, k < 3 → parseFieldDescriptor (TX1 k).2.2.1 = some (tyX1 k) := by decide +kernel
def RX2 : String := "PutOn$House"
def TX2 : u_T := fun k => match k with
  | 0 => ("PutOn$House", "clocks", "[LPutOn$Clock;", true)
  | 1 => ("PutOn$House", "doers", "[LPutOn$Doer;", true)
  | 2 => ("PutOn$House", "clockCount", "I", false)
  | 3 => ("PutOn$House", "doerCount", "I", false)
  | _ => ("PutOn$House", "rule", "I", false)
def tyX2 : Nat → FieldType := fun k => match k with
  | 0 => .array (.object "PutOn$Clock")
  | 1 => .array (.object "PutOn$Doer")
  | 2 => .int
  | 3 => .int
  | _ => .int
theorem nmX2 : ∀ a, a < 5 → ∀ b, b < 5 → a ≠ b → (TX2 a).2.1 ≠ (TX2 b).2.1 := by decide +kernel
theorem tyX2_ok : ∀ k, k < 5 → parseFieldDescriptor (TX2 k).2.2.1 = some (tyX2 k) := by decide +kernel
def RX3 : String := "PutOn$Known"
def TX3 : u_T := fun k => match k with
  | 0 => ("PutOn$Known", "sums", "LPutOn$Sums;", true)
  | _ => ("PutOn$Known", "blind", "[Z", true)
def tyX3 : Nat → FieldType := fun k => match k with
  | 0 => .object "PutOn$Sums"
  | _ => .array .boolean
theorem nmX3 : ∀ a, a < 2 → ∀ b, b < 2 → a ≠ b → (TX3 a).2.1 ≠ (TX3 b).2.1 := by decide +kernel
theorem tyX3_ok : ∀ k, k < 2 → parseFieldDescriptor (TX3 k).2.2.1 = some (tyX3 k) := by decide +kernel
def RX4 : String := "PutOn$Reader"
def TX4 : u_T := fun k => match k with
  | 0 => ("PutOn$Reader", "tokens", "[I", true)
  | 1 => ("PutOn$Reader", "places", "[I", true)
  | 2 => ("PutOn$Reader", "ends", "[I", true)
  | 3 => ("PutOn$Reader", "count", "I", false)
  | 4 => ("PutOn$Reader", "next", "I", false)
  | _ => ("PutOn$Reader", "text", "LPutOn$Text;", true)
def tyX4 : Nat → FieldType := fun k => match k with
  | 0 => .array .int
  | 1 => .array .int
  | 2 => .array .int
  | 3 => .int
  | 4 => .int
  | _ => .object "PutOn$Text"
theorem nmX4 : ∀ a, a < 6 → ∀ b, b < 6 → a ≠ b → (TX4 a).2.1 ≠ (TX4 b).2.1 := by decide +kernel
theorem tyX4_ok : ∀ k, k < 6 → parseFieldDescriptor (TX4 k).2.2.1 = some (tyX4 k) := by decide +kernel
def RX5 : String := "PutOn$Sheet"
def TX5 : u_T := fun k => match k with
  | 0 => ("PutOn$Sheet", "cells", "[I", true)
  | 1 => ("PutOn$Sheet", "sort", "I", false)
  | _ => ("PutOn$Sheet", "size", "I", false)
def tyX5 : Nat → FieldType := fun k => match k with
  | 0 => .array .int
  | 1 => .int
  | _ => .int
theorem nmX5 : ∀ a, a < 3 → ∀ b, b < 3 → a ≠ b → (TX5 a).2.1 ≠ (TX5 b).2.1 := by decide +kernel
theorem tyX5_ok : ∀ k, k < 3 → parseFieldDescriptor (TX5 k).2.2.1 = some (tyX5 k) := by decide +kernel
def RX6 : String := "PutOn$Sums"
def TX6 : u_T := fun k => match k with
  | 0 => ("PutOn$Sums", "keys", "[I", true)
  | 1 => ("PutOn$Sums", "sums", "[J", true)
  | _ => ("PutOn$Sums", "count", "I", false)
def tyX6 : Nat → FieldType := fun k => match k with
  | 0 => .array .int
  | 1 => .array .long
  | _ => .int
theorem nmX6 : ∀ a, a < 3 → ∀ b, b < 3 → a ≠ b → (TX6 a).2.1 ≠ (TX6 b).2.1 := by decide +kernel
theorem tyX6_ok : ∀ k, k < 3 → parseFieldDescriptor (TX6 k).2.2.1 = some (tyX6 k) := by decide +kernel
def RX7 : String := "PutOn$Text"
def TX7 : u_T := fun k => match k with
  | 0 => ("PutOn$Text", "code", "[I", true)
  | 1 => ("PutOn$Text", "ends", "[I", true)
  | 2 => ("PutOn$Text", "stack", "[I", true)
  | 3 => ("PutOn$Text", "size", "I", false)
  | _ => ("PutOn$Text", "top", "I", false)
def tyX7 : Nat → FieldType := fun k => match k with
  | 0 => .array .int
  | 1 => .array .int
  | 2 => .array .int
  | 3 => .int
  | _ => .int
theorem nmX7 : ∀ a, a < 5 → ∀ b, b < 5 → a ≠ b → (TX7 a).2.1 ≠ (TX7 b).2.1 := by decide +kernel
theorem tyX7_ok : ∀ k, k < 5 → parseFieldDescriptor (TX7 k).2.2.1 = some (tyX7 k) := by decide +kernel
def RX8 : String := "PutOn$Worlds"
def TX8 : u_T := fun k => match k with
  | 0 => ("PutOn$Worlds", "at", "[[I", true)
  | 1 => ("PutOn$Worlds", "done", "[[I", true)
  | 2 => ("PutOn$Worlds", "right", "[I", true)
  | 3 => ("PutOn$Worlds", "fits", "[Z", true)
  | 4 => ("PutOn$Worlds", "times", "[I", true)
  | 5 => ("PutOn$Worlds", "chances", "[J", true)
  | 6 => ("PutOn$Worlds", "came", "[I", true)
  | 7 => ("PutOn$Worlds", "names", "[I", true)
  | 8 => ("PutOn$Worlds", "house", "LPutOn$House;", true)
  | 9 => ("PutOn$Worlds", "rule", "LPutOn$Text;", false)
  | 10 => ("PutOn$Worlds", "count", "I", false)
  | 11 => ("PutOn$Worlds", "all", "J", false)
  | _ => ("PutOn$Worlds", "stale", "Z", false)
def tyX8 : Nat → FieldType := fun k => match k with
  | 0 => .array (.array .int)
  | 1 => .array (.array .int)
  | 2 => .array .int
  | 3 => .array .boolean
  | 4 => .array .int
  | 5 => .array .long
  | 6 => .array .int
  | 7 => .array .int
  | 8 => .object "PutOn$House"
  | 9 => .object "PutOn$Text"
  | 10 => .int
  | 11 => .long
  | _ => .boolean
theorem nmX8 : ∀ a, a < 13 → ∀ b, b < 13 → a ≠ b → (TX8 a).2.1 ≠ (TX8 b).2.1 := by decide +kernel
theorem tyX8_ok : ∀ k, k < 13 → parseFieldDescriptor (TX8 k).2.2.1 = some (tyX8 k) := by decide +kernel
def RX9 : String := "PutOn"
def TX9 : u_T := fun k => match k with
  | 0 => ("PutOn", "worlds", "LPutOn$Worlds;", true)
  | 1 => ("PutOn", "house", "LPutOn$House;", true)
  | 2 => ("PutOn", "kept", "LPutOn$House;", true)
  | 3 => ("PutOn", "isKept", "Z", false)
  | 4 => ("PutOn", "texts", "[LPutOn$Text;", true)
  | 5 => ("PutOn", "textCount", "I", false)
  | 6 => ("PutOn", "tape", "[I", true)
  | 7 => ("PutOn", "tapeSize", "I", false)
  | 8 => ("PutOn", "reader", "LPutOn$Reader;", true)
  | 9 => ("PutOn", "known", "LPutOn$Known;", true)
  | _ => ("PutOn", "sheets", "[LPutOn$Sheet;", true)
def tyX9 : Nat → FieldType := fun k => match k with
  | 0 => .object "PutOn$Worlds"
  | 1 => .object "PutOn$House"
  | 2 => .object "PutOn$House"
  | 3 => .boolean
  | 4 => .array (.object "PutOn$Text")
  | 5 => .int
  | 6 => .array .int
  | 7 => .int
  | 8 => .object "PutOn$Reader"
  | 9 => .object "PutOn$Known"
  | _ => .array (.object "PutOn$Sheet")
theorem nmX9 : ∀ a, a < 11 → ∀ b, b < 11 → a ≠ b → (TX9 a).2.1 ≠ (TX9 b).2.1 := by decide +kernel
theorem tyX9_ok : ∀ k, k < 11 → parseFieldDescriptor (TX9 k).2.2.1 = some (tyX9 k) := by decide +kernel
def RX10 : String := "PutOnModel"
def TX10 : u_T := fun k => match k with
  | 0 => ("PutOnModel", "thrown", "I", false)
  | 1 => ("PutOnModel", "texts", "[I", true)
  | 2 => ("PutOnModel", "textSize", "[I", true)
  | 3 => ("PutOnModel", "textCount", "I", false)
  | 4 => ("PutOnModel", "rule", "I", false)
  | 5 => ("PutOnModel", "tape", "[I", true)
  | 6 => ("PutOnModel", "taped", "I", false)
  | 7 => ("PutOnModel", "offs", "[I", true)
  | 8 => ("PutOnModel", "rooms", "[I", true)
  | 9 => ("PutOnModel", "selfs", "[I", true)
  | 10 => ("PutOnModel", "saw", "[I", true)
  | 11 => ("PutOnModel", "clockCount", "I", false)
  | 12 => ("PutOnModel", "kinds", "[I", true)
  | 13 => ("PutOnModel", "numbers", "[I", true)
  | 14 => ("PutOnModel", "waysOf", "[I", true)
  | 15 => ("PutOnModel", "doers", "I", false)
  | 16 => ("PutOnModel", "ofClock", "I", false)
  | 17 => ("PutOnModel", "ofWho", "I", false)
  | 18 => ("PutOnModel", "ofRoom", "I", false)
  | 19 => ("PutOnModel", "ofOff", "I", false)
  | 20 => ("PutOnModel", "ofDone", "I", false)
  | 21 => ("PutOnModel", "ofRooms", "I", false)
  | 22 => ("PutOnModel", "from", "I", false)
  | 23 => ("PutOnModel", "size", "I", false)
  | 24 => ("PutOnModel", "here", "I", false)
  | 25 => ("PutOnModel", "token", "I", false)
  | 26 => ("PutOnModel", "tokenAt", "I", false)
  | 27 => ("PutOnModel", "tokenWorth", "J", false)
  | 28 => ("PutOnModel", "open", "I", false)
  | 29 => ("PutOnModel", "bad", "Z", false)
  | 30 => ("PutOnModel", "fault", "I", false)
  | 31 => ("PutOnModel", "atRow", "[I", true)
  | 32 => ("PutOnModel", "doneRow", "[I", true)
  | 33 => ("PutOnModel", "chances", "[J", true)
  | 34 => ("PutOnModel", "rightRow", "[I", true)
  | 35 => ("PutOnModel", "fitRow", "[I", true)
  | 36 => ("PutOnModel", "timeRow", "[I", true)
  | 37 => ("PutOnModel", "all", "J", false)
  | 38 => ("PutOnModel", "likeliest", "I", false)
  | 39 => ("PutOnModel", "likely", "J", false)
  | 40 => ("PutOnModel", "clocksKept", "[I", true)
  | 41 => ("PutOnModel", "doersKept", "[I", true)
  | 42 => ("PutOnModel", "clockKept", "I", false)
  | 43 => ("PutOnModel", "doerKept", "I", false)
  | 44 => ("PutOnModel", "ruleKept", "I", false)
  | 45 => ("PutOnModel", "isThere", "[Z", true)
  | 46 => ("PutOnModel", "sorts", "[I", true)
  | 47 => ("PutOnModel", "sheetSize", "[I", true)
  | _ => ("PutOnModel", "items", "[I", true)
def tyX10 : Nat → FieldType := fun k => match k with
  | 0 => .int
  | 1 => .array .int
  | 2 => .array .int
  | 3 => .int
  | 4 => .int
  | 5 => .array .int
  | 6 => .int
  | 7 => .array .int
  | 8 => .array .int
  | 9 => .array .int
  | 10 => .array .int
  | 11 => .int
  | 12 => .array .int
  | 13 => .array .int
  | 14 => .array .int
  | 15 => .int
  | 16 => .int
  | 17 => .int
  | 18 => .int
  | 19 => .int
  | 20 => .int
  | 21 => .int
  | 22 => .int
  | 23 => .int
  | 24 => .int
  | 25 => .int
  | 26 => .int
  | 27 => .long
  | 28 => .int
  | 29 => .boolean
  | 30 => .int
  | 31 => .array .int
  | 32 => .array .int
  | 33 => .array .long
  | 34 => .array .int
  | 35 => .array .int
  | 36 => .array .int
  | 37 => .long
  | 38 => .int
  | 39 => .long
  | 40 => .array .int
  | 41 => .array .int
  | 42 => .int
  | 43 => .int
  | 44 => .int
  | 45 => .array .boolean
  | 46 => .array .int
  | 47 => .array .int
  | _ => .array .int
theorem nmX10 : ∀ a, a < 49 → ∀ b, b < 49 → a ≠ b → (TX10 a).2.1 ≠ (TX10 b).2.1 := by decide +kernel
theorem tyX10_ok : ∀ k, k < 49 → parseFieldDescriptor (TX10 k).2.2.1 = some (tyX10 k) := by decide +kernel
def zT : List Cond := lw_tbl.filter goodWord
theorem zT_mem {w : Cond} {i : Nat} (h : lw_tbl[i]? = some w) (hg : goodWord w = true) : w ∈ zT := List.mem_filter.mpr ⟨List.mem_of_getElem? h, hg⟩
set_option maxRecDepth 100000 in
theorem inX0 : ∀ w ∈ u_ws RX0 TX0 4, w ∈ zT := by decide +kernel
set_option maxRecDepth 100000 in
theorem inX1 : ∀ w ∈ u_ws RX1 TX1 3, w ∈ zT := by decide +kernel
set_option maxRecDepth 100000 in
theorem inX2 : ∀ w ∈ u_ws RX2 TX2 5, w ∈ zT := by decide +kernel
set_option maxRecDepth 100000 in
theorem inX3 : ∀ w ∈ u_ws RX3 TX3 2, w ∈ zT := by decide +kernel
set_option maxRecDepth 100000 in
theorem inX4 : ∀ w ∈ u_ws RX4 TX4 6, w ∈ zT := by decide +kernel
set_option maxRecDepth 100000 in
theorem inX5 : ∀ w ∈ u_ws RX5 TX5 3, w ∈ zT := by decide +kernel
set_option maxRecDepth 100000 in
theorem inX6 : ∀ w ∈ u_ws RX6 TX6 3, w ∈ zT := by decide +kernel
set_option maxRecDepth 100000 in
theorem inX7 : ∀ w ∈ u_ws RX7 TX7 5, w ∈ zT := by decide +kernel
set_option maxRecDepth 100000 in
theorem inX8 : ∀ w ∈ u_ws RX8 TX8 13, w ∈ zT := by decide +kernel
set_option maxRecDepth 100000 in
theorem inX9 : ∀ w ∈ u_ws RX9 TX9 11, w ∈ zT := by decide +kernel
set_option maxRecDepth 100000 in
theorem inX10 : ∀ w ∈ u_ws RX10 TX10 49, w ∈ zT := by decide +kernel
def zcl : List vw_C := [(RX0, TX0, 4), (RX1, TX1, 3), (RX2, TX2, 5), (RX3, TX3, 2), (RX4, TX4, 6), (RX5, TX5, 3), (RX6, TX6, 3), (RX7, TX7, 5), (RX8, TX8, 13), (RX9, TX9, 11), (RX10, TX10, 49)]
def zft (ci : Nat) : Nat → FieldType := match ci with
  | 0 => tyX0
  | 1 => tyX1
  | 2 => tyX2
  | 3 => tyX3
  | 4 => tyX4
  | 5 => tyX5
  | 6 => tyX6
  | 7 => tyX7
  | 8 => tyX8
  | 9 => tyX9
  | _ => tyX10
theorem zcl_ok : ∀ (ci : Nat) (r : vw_C), zcl[ci]? = some r → (∀ w ∈ u_ws r.1 r.2.1 r.2.2, w ∈ zT) ∧ (∀ k, k < r.2.2 → parseFieldDescriptor (r.2.1 k).2.2.1 = some (zft ci k)) ∧ (∀ a, a < r.2.2 → ∀ b, b < r.2.2 → a ≠ b → (r.2.1 a).2.1 ≠ (r.2.1 b).2.1) := by
  intro ci r h
  match ci, h with
  | 0, h => cases h; exact ⟨inX0, tyX0_ok, nmX0⟩
  | 1, h => cases h; exact ⟨inX1, tyX1_ok, nmX1⟩
  | 2, h => cases h; exact ⟨inX2, tyX2_ok, nmX2⟩
  | 3, h => cases h; exact ⟨inX3, tyX3_ok, nmX3⟩
  | 4, h => cases h; exact ⟨inX4, tyX4_ok, nmX4⟩
  | 5, h => cases h; exact ⟨inX5, tyX5_ok, nmX5⟩
  | 6, h => cases h; exact ⟨inX6, tyX6_ok, nmX6⟩
  | 7, h => cases h; exact ⟨inX7, tyX7_ok, nmX7⟩
  | 8, h => cases h; exact ⟨inX8, tyX8_ok, nmX8⟩
  | 9, h => cases h; exact ⟨inX9, tyX9_ok, nmX9⟩
  | 10, h => cases h; exact ⟨inX10, tyX10_ok, nmX10⟩
  | k + 11, h => simp [zcl] at h
def SH : List (Nat ⊕ (FieldType × Nat)) := [.inl 9, .inl 8, .inr (.array .int, 32), .inr (.int, 6), .inr (.int, 6), .inr (.int, 6), .inr (.int, 6), .inr (.int, 6), .inr (.int, 6), .inr (.int, 6), .inr (.int, 6), .inr (.int, 6), .inr (.int, 6), .inr (.int, 6), .inr (.int, 6), .inr (.int, 6), .inr (.int, 6), .inr (.int, 6), .inr (.int, 6), .inr (.int, 6), .inr (.int, 6), .inr (.int, 6), .inr (.int, 6), .inr (.int, 6), .inr (.int, 6), .inr (.int, 6), .inr (.int, 6), .inr (.int, 6), .inr (.int, 6), .inr (.int, 6), .inr (.int, 6), .inr (.int, 6), .inr (.int, 6), .inr (.int, 6), .inr (.int, 6), .inr (.array .int, 32), .inr (.int, 6), .inr (.int, 6), .inr (.int, 6), .inr (.int, 6), .inr (.int, 6), .inr (.int, 6), .inr (.int, 6), .inr (.int, 6), .inr (.int, 6), .inr (.int, 6), .inr (.int, 6), .inr (.int, 6), .inr (.int, 6), .inr (.int, 6), .inr (.int, 6), .inr (.int, 6), .inr (.int, 6), .inr (.int, 6), .inr (.int, 6), .inr (.int, 6), .inr (.int, 6), .inr (.int, 6), .inr (.int, 6), .inr (.int, 6), .inr (.int, 6), .inr (.int, 6), .inr (.int, 6), .inr (.int, 6), .inr (.int, 6), .inr (.int, 6), .inr (.int, 6), .inr (.int, 6), .inr (.int, 32), .inr (.boolean, 32), .inr (.int, 32), .inr (.long, 32), .inr (.int, 5), .inr (.int, 6), .inl 2, .inr (.object "PutOn$Clock", 6), .inr (.object "PutOn$Doer", 5), .inl 0, .inl 0, .inl 0, .inl 0, .inl 0, .inl 0, .inl 1, .inl 1, .inl 1, .inl 1, .inl 1, .inl 7, .inr (.int, 160), .inr (.int, 3), .inr (.int, 160), .inl 2, .inr (.object "PutOn$Clock", 6), .inr (.object "PutOn$Doer", 5), .inl 0, .inl 0, .inl 0, .inl 0, .inl 0, .inl 0, .inl 1, .inl 1, .inl 1, .inl 1, .inl 1, .inr (.object "PutOn$Text", 6), .inr (.int, 160), .inl 4, .inr (.int, 161), .inr (.int, 161), .inr (.int, 161), .inl 7, .inr (.int, 160), .inr (.int, 3), .inr (.int, 160), .inl 3, .inl 6, .inr (.int, 32), .inr (.long, 32), .inr (.boolean, 64), .inr (.object "PutOn$Sheet", 4), .inl 7, .inr (.int, 160), .inr (.int, 3), .inr (.int, 160), .inl 7, .inr (.int, 160), .inr (.int, 3), .inr (.int, 160), .inl 7, .inr (.int, 160), .inr (.int, 3), .inr (.int, 160), .inl 7, .inr (.int, 160), .inr (.int, 3), .inr (.int, 160), .inl 7, .inr (.int, 160), .inr (.int, 3), .inr (.int, 160), .inl 7, .inr (.int, 160), .inr (.int, 3), .inr (.int, 160), .inl 5, .inr (.int, 40), .inl 5, .inr (.int, 40), .inl 5, .inr (.int, 40), .inl 5, .inr (.int, 40), .inl 10, .inr (.int, 960), .inr (.int, 6), .inr (.int, 160), .inr (.int, 6), .inr (.int, 6), .inr (.int, 6), .inr (.int, 6), .inr (.int, 5), .inr (.int, 5), .inr (.int, 5), .inr (.int, 192), .inr (.int, 192), .inr (.long, 32), .inr (.int, 32), .inr (.int, 32), .inr (.int, 32), .inr (.int, 24), .inr (.int, 10), .inr (.boolean, 4), .inr (.int, 4), .inr (.int, 4), .inr (.int, 160)]
def NF : Nat := 177
theorem SH_len : SH.length = NF := by decide +kernel
def zsz (x : Nat ⊕ (FieldType × Nat)) : Nat := match x with
  | .inl ci => match zcl[ci]? with
    | some r => r.2.2
    | none => 0
  | .inr a => a.2
def zs (n : Nat) : Nat := ((SH.take n).map zsz).sum
-- P = 0
-- W = 1
-- AT = 2
-- DN = 35
-- RI = 68
-- FI = 69
-- TI = 70
-- CH = 71
-- CM = 72
-- NM = 73
-- H = 74
-- T0 = 88
-- K = 92
-- TX = 106
-- TP = 107
-- RD = 108
-- RT = 109
-- RP = 110
-- RE = 111
-- TR = 112
-- KN = 116
-- SU = 117
-- SK = 118
-- SS = 119
-- BL = 120
-- SHS = 121
-- T1 = 122
-- S1 = 146
-- M = 154
-- Mtexts = 155
-- MtextSize = 156
-- Mtape = 157
-- Moffs = 158
-- Mrooms = 159
-- Mselfs = 160
-- Msaw = 161
-- Mkinds = 162
-- Mnumbers = 163
-- MwaysOf = 164
-- MatRow = 165
-- MdoneRow = 166
-- Mchances = 167
-- MrightRow = 168
-- MfitRow = 169
-- MtimeRow = 170
-- MclocksKept = 171
-- MdoersKept = 172
-- MisThere = 173
-- Msorts = 174
-- MsheetSize = 175
-- Mitems = 176
