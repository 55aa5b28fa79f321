/-! classes, layout -/
/-- the words that stay good: what every method gets -/
def lw_tbg : List Cond := lw_tbl.filter goodWord
theorem j_mg {w : Cond} (i : Nat) (h : lw_tbl[i]? = some w) (hg : goodWord w = true) : w ∈ lw_tbg := List.mem_filter.mpr ⟨List.mem_of_getElem? h, hg⟩
theorem j_mem {ws : List Cond} (ps : List Nat) (h : ws = ps.filterMap (fun i => lw_tbl[i]?)) (hg : ws.all goodWord = true) : ∀ w ∈ ws, w ∈ lw_tbg := by
  intro w hw
  have h1 := List.all_eq_true.mp hg w hw
  rw [h] at hw
  obtain ⟨i, -, hi⟩ := List.mem_filterMap.mp hw
  exact j_mg i hi h1
def jR0 : String := "LongProof"
def jT0 : u_T := fun k => match k with
  | 0 => ("LongProof", "tape", "LLongProof$Tape;", true)
  | 1 => ("LongProof", "parser", "LLongProof$Parser;", true)
  | 2 => ("LongProof", "facts", "LLongProof$Facts;", true)
  | 3 => ("LongProof", "pair", "LLongProof$Beside;", true)
  | 4 => ("LongProof", "runs", "LLongProof$Runs;", true)
  | 5 => ("LongProof", "orders", "LLongProof$Orders;", true)
  | 6 => ("LongProof", "ways", "LLongProof$Ways;", true)
  | 7 => ("LongProof", "watch", "LLongProof$Watch;", true)
  | 8 => ("LongProof", "picture", "[I", true)
  | 9 => ("LongProof", "book", "LLongProof$Book;", false)
  | 10 => ("LongProof", "spare", "LLongProof$Book;", false)
  | 11 => ("LongProof", "faultKind", "I", false)
  | 12 => ("LongProof", "faultPlace", "I", false)
  | 13 => ("LongProof", "wrongRules", "I", false)
  | 14 => ("LongProof", "fallen", "J", false)
  | _ => ("LongProof", "isPictured", "Z", false)
def jty0 : Nat → FieldType := fun k => match k with
  | 0 => .object "LongProof$Tape"
  | 1 => .object "LongProof$Parser"
  | 2 => .object "LongProof$Facts"
  | 3 => .object "LongProof$Beside"
  | 4 => .object "LongProof$Runs"
  | 5 => .object "LongProof$Orders"
  | 6 => .object "LongProof$Ways"
  | 7 => .object "LongProof$Watch"
  | 8 => .array .int
  | 9 => .object "LongProof$Book"
  | 10 => .object "LongProof$Book"
  | 11 => .int
  | 12 => .int
  | 13 => .int
  | 14 => .long
  | _ => .boolean
theorem jnm0 : ∀ a, a < 16 → ∀ b, b < 16 → a ≠ b → (jT0 a).2.1 ≠ (jT0 b).2.1 := by decide +kernel
theorem jtok0 : ∀ k, k < 16 → parseFieldDescriptor (jT0 k).2.2.1 = some (jty0 k) := by decide +kernel
theorem jin0 : ∀ w ∈ u_ws jR0 jT0 16, w ∈ lw_tbg := j_mem [591, 593, 595, 597, 599, 601, 603, 605, 607, 609, 611, 613, 615, 617, 619, 621] (by decide +kernel) (by decide +kernel)
def jR1 : String := "LongProof$Beside"
def jT1 : u_T := fun k => match k with
  | 0 => ("LongProof$Beside", "cell", "[I", true)
  | 1 => ("LongProof$Beside", "one", "[I", true)
  | 2 => ("LongProof$Beside", "other", "[I", true)
  | 3 => ("LongProof$Beside", "size", "I", false)
  | 4 => ("LongProof$Beside", "made", "I", false)
  | _ => ("LongProof$Beside", "unlike", "I", false)
def jty1 : Nat → FieldType := fun k => match k with
  | 0 => .array .int
  | 1 => .array .int
  | 2 => .array .int
  | 3 => .int
  | 4 => .int
  | _ => .int
theorem jnm1 : ∀ a, a < 6 → ∀ b, b < 6 → a ≠ b → (jT1 a).2.1 ≠ (jT1 b).2.1 := by decide +kernel
theorem jtok1 : ∀ k, k < 6 → parseFieldDescriptor (jT1 k).2.2.1 = some (jty1 k) := by decide +kernel
theorem jin1 : ∀ w ∈ u_ws jR1 jT1 6, w ∈ lw_tbg := j_mem [462, 464, 466, 468, 470, 472] (by decide +kernel) (by decide +kernel)
def jR2 : String := "LongProof$Book"
def jT2 : u_T := fun k => match k with
  | 0 => ("LongProof$Book", "terms", "LLongProof$Terms;", true)
  | 1 => ("LongProof$Book", "ruleName", "[I", true)
  | 2 => ("LongProof$Book", "premises", "[I", true)
  | 3 => ("LongProof$Book", "premise", "[I", true)
  | 4 => ("LongProof$Book", "gives", "[I", true)
  | 5 => ("LongProof$Book", "stepRule", "[I", true)
  | 6 => ("LongProof$Book", "stepTerm", "[I", true)
  | 7 => ("LongProof$Book", "namedSteps", "[I", true)
  | 8 => ("LongProof$Book", "readerName", "[I", true)
  | 9 => ("LongProof$Book", "odds", "[I", true)
  | 10 => ("LongProof$Book", "from", "[I", true)
  | 11 => ("LongProof$Book", "upTo", "[I", true)
  | 12 => ("LongProof$Book", "rules", "I", false)
  | 13 => ("LongProof$Book", "steps", "I", false)
  | 14 => ("LongProof$Book", "readers", "I", false)
  | _ => ("LongProof$Book", "goal", "I", false)
def jty2 : Nat → FieldType := fun k => match k with
  | 0 => .object "LongProof$Terms"
  | 1 => .array .int
  | 2 => .array .int
  | 3 => .array .int
  | 4 => .array .int
  | 5 => .array .int
  | 6 => .array .int
  | 7 => .array .int
  | 8 => .array .int
  | 9 => .array .int
  | 10 => .array .int
  | 11 => .array .int
  | 12 => .int
  | 13 => .int
  | 14 => .int
  | _ => .int
theorem jnm2 : ∀ a, a < 16 → ∀ b, b < 16 → a ≠ b → (jT2 a).2.1 ≠ (jT2 b).2.1 := by decide +kernel
theorem jtok2 : ∀ k, k < 16 → parseFieldDescriptor (jT2 k).2.2.1 = some (jty2 k) := by decide +kernel
theorem jin2 : ∀ w ∈ u_ws jR2 jT2 16, w ∈ lw_tbg := j_mem [311, 313, 315, 317, 319, 321, 323, 325, 327, 329, 331, 333, 335, 337, 339, 341] (by decide +kernel) (by decide +kernel)
def jR3 : String := "LongProof$Facts"
def jT3 : u_T := fun k => match k with
  | 0 => ("LongProof$Facts", "first", "[I", true)
  | 1 => ("LongProof$Facts", "coverer", "[I", true)
  | 2 => ("LongProof$Facts", "covering", "[I", true)
  | 3 => ("LongProof$Facts", "deep", "[I", true)
  | 4 => ("LongProof$Facts", "below", "[J", true)
  | 5 => ("LongProof$Facts", "namers", "[J", true)
  | 6 => ("LongProof$Facts", "left", "LLongProof$Rest;", true)
  | 7 => ("LongProof$Facts", "book", "LLongProof$Book;", false)
  | 8 => ("LongProof$Facts", "right", "J", false)
  | 9 => ("LongProof$Facts", "needed", "J", false)
  | 10 => ("LongProof$Facts", "twice", "J", false)
  | 11 => ("LongProof$Facts", "covered", "J", false)
  | _ => ("LongProof$Facts", "vitalSteps", "J", false)
def jty3 : Nat → FieldType := fun k => match k with
  | 0 => .array .int
  | 1 => .array .int
  | 2 => .array .int
  | 3 => .array .int
  | 4 => .array .long
  | 5 => .array .long
  | 6 => .object "LongProof$Rest"
  | 7 => .object "LongProof$Book"
  | 8 => .long
  | 9 => .long
  | 10 => .long
  | 11 => .long
  | _ => .long
theorem jnm3 : ∀ a, a < 13 → ∀ b, b < 13 → a ≠ b → (jT3 a).2.1 ≠ (jT3 b).2.1 := by decide +kernel
theorem jtok3 : ∀ k, k < 13 → parseFieldDescriptor (jT3 k).2.2.1 = some (jty3 k) := by decide +kernel
theorem jin3 : ∀ w ∈ u_ws jR3 jT3 13, w ∈ lw_tbg := j_mem [419, 421, 423, 425, 427, 429, 431, 433, 435, 437, 439, 441, 443] (by decide +kernel) (by decide +kernel)
def jR4 : String := "LongProof$Orders"
def jT4 : u_T := fun k => match k with
  | 0 => ("LongProof$Orders", "line", "[I", true)
  | 1 => ("LongProof$Orders", "dead", "[J", true)
  | 2 => ("LongProof$Orders", "backward", "[I", true)
  | 3 => ("LongProof$Orders", "nextPage", "[I", true)
  | 4 => ("LongProof$Orders", "known", "Z", false)
  | 5 => ("LongProof$Orders", "most", "I", false)
  | 6 => ("LongProof$Orders", "count", "I", false)
  | _ => ("LongProof$Orders", "pageSize", "I", false)
def jty4 : Nat → FieldType := fun k => match k with
  | 0 => .array .int
  | 1 => .array .long
  | 2 => .array .int
  | 3 => .array .int
  | 4 => .boolean
  | 5 => .int
  | 6 => .int
  | _ => .int
theorem jnm4 : ∀ a, a < 8 → ∀ b, b < 8 → a ≠ b → (jT4 a).2.1 ≠ (jT4 b).2.1 := by decide +kernel
theorem jtok4 : ∀ k, k < 8 → parseFieldDescriptor (jT4 k).2.2.1 = some (jty4 k) := by decide +kernel
theorem jin4 : ∀ w ∈ u_ws jR4 jT4 8, w ∈ lw_tbg := j_mem [516, 518, 520, 522, 524, 526, 528, 530] (by decide +kernel) (by decide +kernel)
def jR5 : String := "LongProof$Parser"
def jT5 : u_T := fun k => match k with
  | 0 => ("LongProof$Parser", "openCell", "[I", true)
  | 1 => ("LongProof$Parser", "openPlace", "[I", true)
  | 2 => ("LongProof$Parser", "openParts", "[I", true)
  | 3 => ("LongProof$Parser", "open", "I", false)
  | 4 => ("LongProof$Parser", "text", "LLongProof$Tape;", false)
  | 5 => ("LongProof$Parser", "book", "LLongProof$Book;", false)
  | 6 => ("LongProof$Parser", "goal", "I", false)
  | 7 => ("LongProof$Parser", "namePlace", "I", false)
  | 8 => ("LongProof$Parser", "kind", "I", false)
  | _ => ("LongProof$Parser", "place", "I", false)
def jty5 : Nat → FieldType := fun k => match k with
  | 0 => .array .int
  | 1 => .array .int
  | 2 => .array .int
  | 3 => .int
  | 4 => .object "LongProof$Tape"
  | 5 => .object "LongProof$Book"
  | 6 => .int
  | 7 => .int
  | 8 => .int
  | _ => .int
theorem jnm5 : ∀ a, a < 10 → ∀ b, b < 10 → a ≠ b → (jT5 a).2.1 ≠ (jT5 b).2.1 := by decide +kernel
theorem jtok5 : ∀ k, k < 10 → parseFieldDescriptor (jT5 k).2.2.1 = some (jty5 k) := by decide +kernel
theorem jin5 : ∀ w ∈ u_ws jR5 jT5 10, w ∈ lw_tbg := j_mem [187, 189, 191, 193, 195, 197, 199, 201, 203, 205] (by decide +kernel) (by decide +kernel)
def jR6 : String := "LongProof$Rest"
def jT6 : u_T := fun k => match k with
  | 0 => ("LongProof$Rest", "stepAt", "[I", true)
  | 1 => ("LongProof$Rest", "number", "[I", true)
  | 2 => ("LongProof$Rest", "leanCount", "[I", true)
  | 3 => ("LongProof$Rest", "lean", "[I", true)
  | 4 => ("LongProof$Rest", "leansOn", "[J", true)
  | 5 => ("LongProof$Rest", "leanedOnBy", "[J", true)
  | _ => ("LongProof$Rest", "count", "I", false)
def jty6 : Nat → FieldType := fun k => match k with
  | 0 => .array .int
  | 1 => .array .int
  | 2 => .array .int
  | 3 => .array .int
  | 4 => .array .long
  | 5 => .array .long
  | _ => .int
theorem jnm6 : ∀ a, a < 7 → ∀ b, b < 7 → a ≠ b → (jT6 a).2.1 ≠ (jT6 b).2.1 := by decide +kernel
theorem jtok6 : ∀ k, k < 7 → parseFieldDescriptor (jT6 k).2.2.1 = some (jty6 k) := by decide +kernel
theorem jin6 : ∀ w ∈ u_ws jR6 jT6 7, w ∈ lw_tbg := j_mem [370, 372, 374, 376, 378, 380, 382] (by decide +kernel) (by decide +kernel)
def jR7 : String := "LongProof$Runs"
def jT7 : u_T := fun k => match k with
  | 0 => ("LongProof$Runs", "known", "Z", false)
  | 1 => ("LongProof$Runs", "bestFirst", "I", false)
  | 2 => ("LongProof$Runs", "bestLength", "I", false)
  | _ => ("LongProof$Runs", "bestWorth", "I", false)
def jty7 : Nat → FieldType := fun k => match k with
  | 0 => .boolean
  | 1 => .int
  | 2 => .int
  | _ => .int
theorem jnm7 : ∀ a, a < 4 → ∀ b, b < 4 → a ≠ b → (jT7 a).2.1 ≠ (jT7 b).2.1 := by decide +kernel
theorem jtok7 : ∀ k, k < 4 → parseFieldDescriptor (jT7 k).2.2.1 = some (jty7 k) := by decide +kernel
theorem jin7 : ∀ w ∈ u_ws jR7 jT7 4, w ∈ lw_tbg := j_mem [489, 491, 493, 495] (by decide +kernel) (by decide +kernel)
def jR8 : String := "LongProof$Tape"
def jT8 : u_T := fun k => match k with
  | 0 => ("LongProof$Tape", "row", "[B", true)
  | 1 => ("LongProof$Tape", "count", "I", false)
  | 2 => ("LongProof$Tape", "type", "I", false)
  | 3 => ("LongProof$Tape", "place", "I", false)
  | 4 => ("LongProof$Tape", "size", "I", false)
  | 5 => ("LongProof$Tape", "value", "I", false)
  | _ => ("LongProof$Tape", "isGlued", "Z", false)
def jty8 : Nat → FieldType := fun k => match k with
  | 0 => .array .byte
  | 1 => .int
  | 2 => .int
  | 3 => .int
  | 4 => .int
  | 5 => .int
  | _ => .boolean
theorem jnm8 : ∀ a, a < 7 → ∀ b, b < 7 → a ≠ b → (jT8 a).2.1 ≠ (jT8 b).2.1 := by decide +kernel
theorem jtok8 : ∀ k, k < 7 → parseFieldDescriptor (jT8 k).2.2.1 = some (jty8 k) := by decide +kernel
theorem jin8 : ∀ w ∈ u_ws jR8 jT8 7, w ∈ lw_tbg := j_mem [153, 155, 157, 159, 161, 163, 165] (by decide +kernel) (by decide +kernel)
def jR9 : String := "LongProof$Terms"
def jT9 : u_T := fun k => match k with
  | 0 => ("LongProof$Terms", "signName", "[I", true)
  | 1 => ("LongProof$Terms", "signParts", "[I", true)
  | 2 => ("LongProof$Terms", "holeName", "[I", true)
  | 3 => ("LongProof$Terms", "cell", "[I", true)
  | 4 => ("LongProof$Terms", "behind", "[I", true)
  | 5 => ("LongProof$Terms", "taken", "[I", true)
  | 6 => ("LongProof$Terms", "signs", "I", false)
  | 7 => ("LongProof$Terms", "holes", "I", false)
  | _ => ("LongProof$Terms", "cells", "I", false)
def jty9 : Nat → FieldType := fun k => match k with
  | 0 => .array .int
  | 1 => .array .int
  | 2 => .array .int
  | 3 => .array .int
  | 4 => .array .int
  | 5 => .array .int
  | 6 => .int
  | 7 => .int
  | _ => .int
theorem jnm9 : ∀ a, a < 9 → ∀ b, b < 9 → a ≠ b → (jT9 a).2.1 ≠ (jT9 b).2.1 := by decide +kernel
theorem jtok9 : ∀ k, k < 9 → parseFieldDescriptor (jT9 k).2.2.1 = some (jty9 k) := by decide +kernel
theorem jin9 : ∀ w ∈ u_ws jR9 jT9 9, w ∈ lw_tbg := j_mem [238, 240, 242, 244, 246, 248, 250, 252, 254] (by decide +kernel) (by decide +kernel)
def jR10 : String := "LongProof$Watch"
def jT10 : u_T := fun k => match k with
  | 0 => ("LongProof$Watch", "asked", "I", false)
  | _ => ("LongProof$Watch", "draws", "I", false)
def jty10 : Nat → FieldType := fun k => match k with
  | 0 => .int
  | _ => .int
theorem jnm10 : ∀ a, a < 2 → ∀ b, b < 2 → a ≠ b → (jT10 a).2.1 ≠ (jT10 b).2.1 := by decide +kernel
theorem jtok10 : ∀ k, k < 2 → parseFieldDescriptor (jT10 k).2.2.1 = some (jty10 k) := by decide +kernel
theorem jin10 : ∀ w ∈ u_ws jR10 jT10 2, w ∈ lw_tbg := j_mem [570, 572] (by decide +kernel) (by decide +kernel)
def jR11 : String := "LongProof$Ways"
def jT11 : u_T := fun k => match k with
  | 0 => ("LongProof$Ways", "start", "[I", true)
  | 1 => ("LongProof$Ways", "choices", "[I", true)
  | 2 => ("LongProof$Ways", "pick", "[I", true)
  | 3 => ("LongProof$Ways", "next", "[I", true)
  | 4 => ("LongProof$Ways", "known", "Z", false)
  | _ => ("LongProof$Ways", "best", "J", false)
def jty11 : Nat → FieldType := fun k => match k with
  | 0 => .array .int
  | 1 => .array .int
  | 2 => .array .int
  | 3 => .array .int
  | 4 => .boolean
  | _ => .long
theorem jnm11 : ∀ a, a < 6 → ∀ b, b < 6 → a ≠ b → (jT11 a).2.1 ≠ (jT11 b).2.1 := by decide +kernel
theorem jtok11 : ∀ k, k < 6 → parseFieldDescriptor (jT11 k).2.2.1 = some (jty11 k) := by decide +kernel
theorem jin11 : ∀ w ∈ u_ws jR11 jT11 6, w ∈ lw_tbg := j_mem [547, 549, 551, 553, 555, 557] (by decide +kernel) (by decide +kernel)
def jR12 : String := "LongProofModel"
def jT12 : u_T := fun k => match k with
  | 0 => ("LongProofModel", "tape", "[I", true)
  | 1 => ("LongProofModel", "taped", "I", false)
  | 2 => ("LongProofModel", "at", "I", false)
  | 3 => ("LongProofModel", "end", "I", false)
  | 4 => ("LongProofModel", "ended", "I", false)
  | 5 => ("LongProofModel", "bad", "I", false)
  | 6 => ("LongProofModel", "badPlace", "I", false)
  | 7 => ("LongProofModel", "fault", "I", false)
  | 8 => ("LongProofModel", "faultPlace", "I", false)
  | 9 => ("LongProofModel", "ruleWord", "[C", true)
  | 10 => ("LongProofModel", "givesWord", "[C", true)
  | 11 => ("LongProofModel", "stepWord", "[C", true)
  | 12 => ("LongProofModel", "byWord", "[C", true)
  | 13 => ("LongProofModel", "goalWord", "[C", true)
  | 14 => ("LongProofModel", "readerWord", "[C", true)
  | 15 => ("LongProofModel", "oddsWord", "[C", true)
  | 16 => ("LongProofModel", "fromWord", "[C", true)
  | 17 => ("LongProofModel", "toWord", "[C", true)
  | 18 => ("LongProofModel", "namePlace", "I", false)
  | 19 => ("LongProofModel", "many", "[I", true)
  | 20 => ("LongProofModel", "names", "[J", true)
  | 21 => ("LongProofModel", "parts", "[I", true)
  | 22 => ("LongProofModel", "sym", "[I", true)
  | 23 => ("LongProofModel", "laid", "I", false)
  | 24 => ("LongProofModel", "termFrom", "[I", true)
  | 25 => ("LongProofModel", "termLong", "[I", true)
  | 26 => ("LongProofModel", "premises", "[I", true)
  | 27 => ("LongProofModel", "ruleOf", "[I", true)
  | 28 => ("LongProofModel", "named", "[I", true)
  | 29 => ("LongProofModel", "odds", "[I", true)
  | 30 => ("LongProofModel", "readFrom", "[I", true)
  | 31 => ("LongProofModel", "readTo", "[I", true)
  | 32 => ("LongProofModel", "goalTold", "I", false)
  | 33 => ("LongProofModel", "goalStep", "I", false)
  | 34 => ("LongProofModel", "statements", "I", false)
  | 35 => ("LongProofModel", "openSign", "[I", true)
  | 36 => ("LongProofModel", "openPlace", "[I", true)
  | 37 => ("LongProofModel", "openParts", "[I", true)
  | 38 => ("LongProofModel", "open", "I", false)
  | 39 => ("LongProofModel", "laidFor", "[I", true)
  | 40 => ("LongProofModel", "firstOf", "[I", true)
  | 41 => ("LongProofModel", "under", "[J", true)
  | 42 => ("LongProofModel", "rest", "[I", true)
  | 43 => ("LongProofModel", "inRest", "[I", true)
  | 44 => ("LongProofModel", "restMany", "I", false)
  | 45 => ("LongProofModel", "isWrong", "[Z", true)
  | 46 => ("LongProofModel", "isFallen", "[Z", true)
  | 47 => ("LongProofModel", "isAsked", "[Z", true)
  | 48 => ("LongProofModel", "deep", "[I", true)
  | 49 => ("LongProofModel", "isProved", "[Z", true)
  | 50 => ("LongProofModel", "both", "[I", true)
  | 51 => ("LongProofModel", "bothMany", "I", false)
  | 52 => ("LongProofModel", "pairA", "[I", true)
  | 53 => ("LongProofModel", "pairB", "[I", true)
  | 54 => ("LongProofModel", "pairs", "I", false)
  | 55 => ("LongProofModel", "holesMade", "I", false)
  | 56 => ("LongProofModel", "heldFrom", "[I", true)
  | 57 => ("LongProofModel", "asksFor", "[I", true)
  | 58 => ("LongProofModel", "askedBy", "[I", true)
  | 59 => ("LongProofModel", "looks", "[I", true)
  | 60 => ("LongProofModel", "taken", "[I", true)
  | 61 => ("LongProofModel", "seeded", "J", false)
  | 62 => ("LongProofModel", "octet", "[I", true)
  | _ => ("LongProofModel", "octets", "I", false)
def jty12 : Nat → FieldType := fun k => match k with
  | 0 => .array .int
  | 1 => .int
  | 2 => .int
  | 3 => .int
  | 4 => .int
  | 5 => .int
  | 6 => .int
  | 7 => .int
  | 8 => .int
  | 9 => .array .char
  | 10 => .array .char
  | 11 => .array .char
  | 12 => .array .char
  | 13 => .array .char
  | 14 => .array .char
  | 15 => .array .char
  | 16 => .array .char
  | 17 => .array .char
  | 18 => .int
  | 19 => .array .int
  | 20 => .array .long
  | 21 => .array .int
  | 22 => .array .int
  | 23 => .int
  | 24 => .array .int
  | 25 => .array .int
  | 26 => .array .int
  | 27 => .array .int
  | 28 => .array .int
  | 29 => .array .int
  | 30 => .array .int
  | 31 => .array .int
  | 32 => .int
  | 33 => .int
  | 34 => .int
  | 35 => .array .int
  | 36 => .array .int
  | 37 => .array .int
  | 38 => .int
  | 39 => .array .int
  | 40 => .array .int
  | 41 => .array .long
  | 42 => .array .int
  | 43 => .array .int
  | 44 => .int
  | 45 => .array .boolean
  | 46 => .array .boolean
  | 47 => .array .boolean
  | 48 => .array .int
  | 49 => .array .boolean
  | 50 => .array .int
  | 51 => .int
  | 52 => .array .int
  | 53 => .array .int
  | 54 => .int
  | 55 => .int
  | 56 => .array .int
  | 57 => .array .int
  | 58 => .array .int
  | 59 => .array .int
  | 60 => .array .int
  | 61 => .long
  | 62 => .array .int
  | _ => .int
theorem jnm12 : ∀ a, a < 64 → ∀ b, b < 64 → a ≠ b → (jT12 a).2.1 ≠ (jT12 b).2.1 := by decide +kernel
theorem jtok12 : ∀ k, k < 64 → parseFieldDescriptor (jT12 k).2.2.1 = some (jty12 k) := by decide +kernel
theorem jin12 : ∀ w ∈ u_ws jR12 jT12 64, w ∈ lw_tbg := j_mem [1305, 1307, 1309, 1311, 1313, 1315, 1317, 1319, 1321, 1323, 1325, 1327, 1329, 1331, 1333, 1335, 1337, 1339, 1341, 1343, 1345, 1347, 1349, 1351, 1353, 1355, 1357, 1359, 1361, 1363, 1365, 1367, 1369, 1371, 1373, 1375, 1377, 1379, 1381, 1383, 1385, 1387, 1389, 1391, 1393, 1395, 1397, 1399, 1401, 1403, 1405, 1407, 1409, 1411, 1413, 1415, 1417, 1419, 1421, 1423, 1425, 1427, 1429, 1431] (by decide +kernel) (by decide +kernel)
abbrev jCl : List vw_C := [(jR0, jT0, 16), (jR1, jT1, 6), (jR2, jT2, 16), (jR3, jT3, 13), (jR4, jT4, 8), (jR5, jT5, 10), (jR6, jT6, 7), (jR7, jT7, 4), (jR8, jT8, 7), (jR9, jT9, 9), (jR10, jT10, 2), (jR11, jT11, 6), (jR12, jT12, 64)]
def jty : Nat → Nat → FieldType := fun c => match c with
  | 0 => jty0
  | 1 => jty1
  | 2 => jty2
  | 3 => jty3
  | 4 => jty4
  | 5 => jty5
  | 6 => jty6
  | 7 => jty7
  | 8 => jty8
  | 9 => jty9
  | 10 => jty10
  | 11 => jty11
  | _ => jty12
theorem jty_ok : ∀ (ci : Nat) (q : vw_C), jCl[ci]? = some q → (∀ k, k < q.2.2 → parseFieldDescriptor (q.2.1 k).2.2.1 = some (jty ci k)) ∧ (∀ a, a < q.2.2 → ∀ b, b < q.2.2 → a ≠ b → (q.2.1 a).2.1 ≠ (q.2.1 b).2.1) ∧ (∀ w ∈ u_ws q.1 q.2.1 q.2.2, w ∈ lw_tbg) := by
  intro ci q h
  match ci, h with
  | 0, h => cases h; exact ⟨jtok0, jnm0, jin0⟩
  | 1, h => cases h; exact ⟨jtok1, jnm1, jin1⟩
  | 2, h => cases h; exact ⟨jtok2, jnm2, jin2⟩
  | 3, h => cases h; exact ⟨jtok3, jnm3, jin3⟩
  | 4, h => cases h; exact ⟨jtok4, jnm4, jin4⟩
  | 5, h => cases h; exact ⟨jtok5, jnm5, jin5⟩
  | 6, h => cases h; exact ⟨jtok6, jnm6, jin6⟩
  | 7, h => cases h; exact ⟨jtok7, jnm7, jin7⟩
  | 8, h => cases h; exact ⟨jtok8, jnm8, jin8⟩
  | 9, h => cases h; exact ⟨jtok9, jnm9, jin9⟩
  | 10, h => cases h; exact ⟨jtok10, jnm10, jin10⟩
  | 11, h => cases h; exact ⟨jtok11, jnm11, jin11⟩
  | 12, h => cases h; exact ⟨jtok12, jnm12, jin12⟩
  | k + 13, h => simp [jCl] at h
/-- the cells that the law makes, in their order: an array (its elements, how many), or an object (its class) -/
def jCt : List ((FieldType × Nat) ⊕ Nat) := [.inr 0, .inr 8, .inl (.byte, 1600), .inr 5, .inl (.int, 6), .inl (.int, 6), .inl (.int, 6), .inr 2, .inr 9, .inl (.int, 24), .inl (.int, 24), .inl (.int, 12), .inl (.int, 400), .inl (.int, 400), .inl (.int, 12), .inl (.int, 12), .inl (.int, 12), .inl (.int, 36), .inl (.int, 12), .inl (.int, 40), .inl (.int, 40), .inl (.int, 120), .inl (.int, 6), .inl (.int, 6), .inl (.int, 6), .inl (.int, 6), .inr 2, .inr 9, .inl (.int, 24), .inl (.int, 24), .inl (.int, 12), .inl (.int, 400), .inl (.int, 400), .inl (.int, 12), .inl (.int, 12), .inl (.int, 12), .inl (.int, 36), .inl (.int, 12), .inl (.int, 40), .inl (.int, 40), .inl (.int, 120), .inl (.int, 6), .inl (.int, 6), .inl (.int, 6), .inl (.int, 6), .inr 3, .inl (.int, 40), .inl (.int, 40), .inl (.int, 40), .inl (.int, 40), .inl (.long, 40), .inl (.long, 40), .inr 6, .inl (.int, 40), .inl (.int, 40), .inl (.int, 40), .inl (.int, 120), .inl (.long, 40), .inl (.long, 40), .inr 1, .inl (.int, 24), .inl (.int, 24), .inl (.int, 24), .inr 7, .inr 4, .inl (.int, 14), .inl (.long, 256), .inl (.int, 41), .inl (.int, 41), .inr 11, .inl (.int, 40), .inl (.int, 40), .inl (.int, 40), .inl (.int, 40), .inr 10, .inl (.int, 4), .inr 12, .inl (.int, 1600), .inl (.char, 4), .inl (.char, 5), .inl (.char, 4), .inl (.char, 2), .inl (.char, 4), .inl (.char, 6), .inl (.char, 4), .inl (.char, 4), .inl (.char, 2), .inl (.int, 10), .inl (.long, 192), .inl (.int, 48), .inl (.int, 800), .inl (.int, 176), .inl (.int, 176), .inl (.int, 24), .inl (.int, 80), .inl (.int, 240), .inl (.int, 12), .inl (.int, 12), .inl (.int, 12), .inl (.int, 7), .inl (.int, 7), .inl (.int, 7), .inl (.int, 12), .inl (.int, 40), .inl (.long, 40), .inl (.int, 40), .inl (.int, 40), .inl (.boolean, 12), .inl (.boolean, 40), .inl (.boolean, 6), .inl (.int, 40), .inl (.boolean, 40), .inl (.int, 24), .inl (.int, 24), .inl (.int, 24), .inl (.int, 16384), .inl (.int, 40), .inl (.int, 40), .inl (.int, 1722), .inl (.int, 40), .inl (.int, 4)]
def jN (ci : Nat) : Nat := match jCl[ci]? with
  | some q => q.2.2
  | none => 0
def jSz (c : (FieldType × Nat) ⊕ Nat) : Nat := match c with
  | .inl a => a.2
  | .inr ci => jN ci
def jSum (n : Nat) : Nat := ((jCt.take n).map jSz).sum
theorem jSum_all : jSum 121 = 27345 := by decide +kernel
