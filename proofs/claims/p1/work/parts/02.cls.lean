/-! the classes whose objects the worlds hold, their fields; the words of the tables that last -/
def gt : List Cond := lw_tbl.filter goodWord
theorem gt_of {ws : List Cond} (h : GoodIn lw_tbl ws) : ∀ w ∈ ws, w ∈ gt := fun w hw => by
  obtain ⟨h1, h2⟩ := h w hw
  refine List.mem_filter.mpr ⟨h1, ?_⟩
  rcases h2 with h2 | ⟨ty, rfl⟩
  · cases w <;> first | rfl | exact h2
  · rfl
theorem gt_good {w : Cond} (h : w ∈ gt) : (w.onTables && w.keeps) = true ∨ ∃ ty, w = .arrayClass ty := good_of_word (List.mem_filter.mp h).2
theorem gt_in {w : Cond} (i : Nat) (h : lw_tbl[i]? = some w) (hg : goodWord w = true) : w ∈ gt := List.mem_filter.mpr ⟨List.mem_of_getElem? h, hg⟩
theorem gt_ps (ws : List Cond) (ps : List Nat) (hp : ws = ps.filterMap (fun i => lw_tbl[i]?)) (h : ws.all goodWord = true) : ∀ w ∈ ws, w ∈ gt := fun w hw => by
  have h1 := List.all_eq_true.mp h w hw
  rw [hp] at hw
  obtain ⟨i, -, hi⟩ := List.mem_filterMap.mp hw
  exact gt_in i hi h1
def cn0 : String := "OneWaySpell$Borders"
def tf0 : u_T := fun k => match k with
  | 0 => ("OneWaySpell$Borders", "passes", "[J", true)
  | 1 => ("OneWaySpell$Borders", "endsInside", "[J", true)
  | 2 => ("OneWaySpell$Borders", "list", "[I", false)
  | 3 => ("OneWaySpell$Borders", "size", "I", false)
  | 4 => ("OneWaySpell$Borders", "start", "[I", true)
  | _ => ("OneWaySpell$Borders", "stamp", "I", false)
def ft0 : Nat → FieldType := fun k => match k with
  | 0 => .array .long
  | 1 => .array .long
  | 2 => .array .int
  | 3 => .int
  | 4 => .array .int
  | _ => .int
def cn1 : String := "OneWaySpell$Census"
def tf1 : u_T := fun k => match k with
  | 0 => ("OneWaySpell$Census", "key", "[I", false)
  | 1 => ("OneWaySpell$Census", "level", "[I", false)
  | 2 => ("OneWaySpell$Census", "some", "[J", false)
  | 3 => ("OneWaySpell$Census", "once", "[J", false)
  | 4 => ("OneWaySpell$Census", "states", "I", false)
  | 5 => ("OneWaySpell$Census", "slot", "[I", false)
  | 6 => ("OneWaySpell$Census", "firstEdge", "[I", false)
  | 7 => ("OneWaySpell$Census", "edgeSign", "[B", false)
  | 8 => ("OneWaySpell$Census", "edgeTo", "[I", false)
  | 9 => ("OneWaySpell$Census", "edgeCount", "I", false)
  | _ => ("OneWaySpell$Census", "stamp", "I", false)
def ft1 : Nat → FieldType := fun k => match k with
  | 0 => .array .int
  | 1 => .array .int
  | 2 => .array .long
  | 3 => .array .long
  | 4 => .int
  | 5 => .array .int
  | 6 => .array .int
  | 7 => .array .byte
  | 8 => .array .int
  | 9 => .int
  | _ => .int
def cn2 : String := "OneWaySpell$Cures"
def tf2 : u_T := fun k => match k with
  | 0 => ("OneWaySpell$Cures", "trial", "LOneWaySpell$Groups;", true)
  | 1 => ("OneWaySpell$Cures", "tails", "LOneWaySpell$Tails;", true)
  | 2 => ("OneWaySpell$Cures", "answer", "[I", true)
  | 3 => ("OneWaySpell$Cures", "answerStamp", "[I", true)
  | 4 => ("OneWaySpell$Cures", "number", "[I", true)
  | 5 => ("OneWaySpell$Cures", "numbers", "I", false)
  | 6 => ("OneWaySpell$Cures", "choosable", "I", false)
  | 7 => ("OneWaySpell$Cures", "chosen", "[I", true)
  | 8 => ("OneWaySpell$Cures", "clash", "[I", true)
  | 9 => ("OneWaySpell$Cures", "clashChosen", "[I", true)
  | 10 => ("OneWaySpell$Cures", "learnt", "I", false)
  | _ => ("OneWaySpell$Cures", "hopeless", "Z", false)
def ft2 : Nat → FieldType := fun k => match k with
  | 0 => .object "OneWaySpell$Groups"
  | 1 => .object "OneWaySpell$Tails"
  | 2 => .array .int
  | 3 => .array .int
  | 4 => .array .int
  | 5 => .int
  | 6 => .int
  | 7 => .array .int
  | 8 => .array .int
  | 9 => .array .int
  | 10 => .int
  | _ => .boolean
def cn3 : String := "OneWaySpell$Groups"
def tf3 : u_T := fun k => match k with
  | 0 => ("OneWaySpell$Groups", "code", "[J", true)
  | 1 => ("OneWaySpell$Groups", "length", "[I", true)
  | 2 => ("OneWaySpell$Groups", "sound", "[I", true)
  | 3 => ("OneWaySpell$Groups", "count", "I", false)
  | 4 => ("OneWaySpell$Groups", "soundCount", "I", false)
  | 5 => ("OneWaySpell$Groups", "in", "I", false)
  | 6 => ("OneWaySpell$Groups", "stamp", "I", false)
  | 7 => ("OneWaySpell$Groups", "actWay", "[I", true)
  | 8 => ("OneWaySpell$Groups", "actMask", "[I", true)
  | _ => ("OneWaySpell$Groups", "actCount", "I", false)
def ft3 : Nat → FieldType := fun k => match k with
  | 0 => .array .long
  | 1 => .array .int
  | 2 => .array .int
  | 3 => .int
  | 4 => .int
  | 5 => .int
  | 6 => .int
  | 7 => .array .int
  | 8 => .array .int
  | _ => .int
def cn4 : String := "OneWaySpell$Reader"
def tf4 : u_T := fun k => match k with
  | 0 => ("OneWaySpell$Reader", "best", "[B", true)
  | 1 => ("OneWaySpell$Reader", "bestSize", "I", false)
  | 2 => ("OneWaySpell$Reader", "trial", "[B", true)
  | 3 => ("OneWaySpell$Reader", "trialSize", "I", false)
  | _ => ("OneWaySpell$Reader", "covered", "[Z", true)
def ft4 : Nat → FieldType := fun k => match k with
  | 0 => .array .byte
  | 1 => .int
  | 2 => .array .byte
  | 3 => .int
  | _ => .array .boolean
def cn5 : String := "OneWaySpell$Speller"
def tf5 : u_T := fun k => match k with
  | 0 => ("OneWaySpell$Speller", "asked", "[I", true)
  | 1 => ("OneWaySpell$Speller", "askedCount", "I", false)
  | 2 => ("OneWaySpell$Speller", "atLeast", "[I", true)
  | 3 => ("OneWaySpell$Speller", "row", "[I", true)
  | 4 => ("OneWaySpell$Speller", "best", "[I", true)
  | 5 => ("OneWaySpell$Speller", "bestSize", "I", false)
  | _ => ("OneWaySpell$Speller", "ways", "[I", true)
def ft5 : Nat → FieldType := fun k => match k with
  | 0 => .array .int
  | 1 => .int
  | 2 => .array .int
  | 3 => .array .int
  | 4 => .array .int
  | 5 => .int
  | _ => .array .int
def cn6 : String := "OneWaySpell$Tails"
def tf6 : u_T := fun k => match k with
  | 0 => ("OneWaySpell$Tails", "code", "[J", true)
  | 1 => ("OneWaySpell$Tails", "length", "[I", true)
  | 2 => ("OneWaySpell$Tails", "from", "[I", true)
  | 3 => ("OneWaySpell$Tails", "size", "I", false)
  | 4 => ("OneWaySpell$Tails", "start", "[I", true)
  | 5 => ("OneWaySpell$Tails", "rounds", "I", false)
  | 6 => ("OneWaySpell$Tails", "doubtRound", "I", false)
  | 7 => ("OneWaySpell$Tails", "clash", "I", false)
  | 8 => ("OneWaySpell$Tails", "stamp", "I", false)
  | 9 => ("OneWaySpell$Tails", "deep", "[I", true)
  | 10 => ("OneWaySpell$Tails", "gain", "[I", true)
  | _ => ("OneWaySpell$Tails", "leadsTo", "[I", true)
def ft6 : Nat → FieldType := fun k => match k with
  | 0 => .array .long
  | 1 => .array .int
  | 2 => .array .int
  | 3 => .int
  | 4 => .array .int
  | 5 => .int
  | 6 => .int
  | 7 => .int
  | 8 => .int
  | 9 => .array .int
  | 10 => .array .int
  | _ => .array .int
def cn7 : String := "OneWaySpell$Teller"
def tf7 : u_T := fun k => match k with
  | 0 => ("OneWaySpell$Teller", "name", "[J", true)
  | 1 => ("OneWaySpell$Teller", "nameCount", "I", false)
  | 2 => ("OneWaySpell$Teller", "code", "[J", true)
  | 3 => ("OneWaySpell$Teller", "length", "[I", true)
  | 4 => ("OneWaySpell$Teller", "sound", "[I", true)
  | 5 => ("OneWaySpell$Teller", "groupCount", "I", false)
  | 6 => ("OneWaySpell$Teller", "state", "I", false)
  | 7 => ("OneWaySpell$Teller", "wrong", "I", false)
  | _ => ("OneWaySpell$Teller", "wrongAt", "I", false)
def ft7 : Nat → FieldType := fun k => match k with
  | 0 => .array .long
  | 1 => .int
  | 2 => .array .long
  | 3 => .array .int
  | 4 => .array .int
  | 5 => .int
  | 6 => .int
  | 7 => .int
  | _ => .int
def cn8 : String := "OneWaySpell$Tree"
def tf8 : u_T := fun k => match k with
  | 0 => ("OneWaySpell$Tree", "child", "[I", true)
  | 1 => ("OneWaySpell$Tree", "suffix", "[I", true)
  | 2 => ("OneWaySpell$Tree", "depth", "[I", true)
  | 3 => ("OneWaySpell$Tree", "whole", "[Z", true)
  | 4 => ("OneWaySpell$Tree", "inner", "[Z", true)
  | 5 => ("OneWaySpell$Tree", "parent", "[I", true)
  | 6 => ("OneWaySpell$Tree", "lastSign", "[I", true)
  | 7 => ("OneWaySpell$Tree", "bySign", "[I", true)
  | 8 => ("OneWaySpell$Tree", "signStart", "[I", true)
  | 9 => ("OneWaySpell$Tree", "size", "I", false)
  | _ => ("OneWaySpell$Tree", "stamp", "I", false)
def ft8 : Nat → FieldType := fun k => match k with
  | 0 => .array .int
  | 1 => .array .int
  | 2 => .array .int
  | 3 => .array .boolean
  | 4 => .array .boolean
  | 5 => .array .int
  | 6 => .array .int
  | 7 => .array .int
  | 8 => .array .int
  | 9 => .int
  | _ => .int
def cn9 : String := "OneWaySpell$Twins"
def tf9 : u_T := fun k => match k with
  | 0 => ("OneWaySpell$Twins", "met", "[Z", true)
  | 1 => ("OneWaySpell$Twins", "state", "[I", true)
  | 2 => ("OneWaySpell$Twins", "parent", "[I", true)
  | 3 => ("OneWaySpell$Twins", "sign", "[B", true)
  | 4 => ("OneWaySpell$Twins", "beginning", "[I", true)
  | 5 => ("OneWaySpell$Twins", "size", "I", false)
  | 6 => ("OneWaySpell$Twins", "beginnings", "I", false)
  | 7 => ("OneWaySpell$Twins", "last", "I", false)
  | 8 => ("OneWaySpell$Twins", "lastSign", "I", false)
  | _ => ("OneWaySpell$Twins", "found", "[B", true)
def ft9 : Nat → FieldType := fun k => match k with
  | 0 => .array .boolean
  | 1 => .array .int
  | 2 => .array .int
  | 3 => .array .byte
  | 4 => .array .int
  | 5 => .int
  | 6 => .int
  | 7 => .int
  | 8 => .int
  | _ => .array .byte
def cn10 : String := "OneWaySpell$Word"
def tf10 : u_T := fun k => match k with
  | 0 => ("OneWaySpell$Word", "sign", "[B", true)
  | 1 => ("OneWaySpell$Word", "size", "I", false)
  | 2 => ("OneWaySpell$Word", "ways", "[J", true)
  | 3 => ("OneWaySpell$Word", "reached", "[Z", true)
  | _ => ("OneWaySpell$Word", "toPass", "J", false)
def ft10 : Nat → FieldType := fun k => match k with
  | 0 => .array .byte
  | 1 => .int
  | 2 => .array .long
  | 3 => .array .boolean
  | _ => .long
def cn11 : String := "OneWaySpell"
def tf11 : u_T := fun k => match k with
  | 0 => ("OneWaySpell", "tape", "[B", true)
  | 1 => ("OneWaySpell", "taped", "I", false)
  | 2 => ("OneWaySpell", "groups", "LOneWaySpell$Groups;", true)
  | 3 => ("OneWaySpell", "teller", "LOneWaySpell$Teller;", true)
  | 4 => ("OneWaySpell", "theWord", "LOneWaySpell$Word;", true)
  | 5 => ("OneWaySpell", "tree", "LOneWaySpell$Tree;", false)
  | 6 => ("OneWaySpell", "tailRounds", "LOneWaySpell$Tails;", false)
  | 7 => ("OneWaySpell", "twins", "LOneWaySpell$Twins;", false)
  | 8 => ("OneWaySpell", "reader", "LOneWaySpell$Reader;", false)
  | 9 => ("OneWaySpell", "speller", "LOneWaySpell$Speller;", false)
  | 10 => ("OneWaySpell", "census", "LOneWaySpell$Census;", false)
  | 11 => ("OneWaySpell", "edges", "LOneWaySpell$Borders;", false)
  | _ => ("OneWaySpell", "cures", "LOneWaySpell$Cures;", false)
def ft11 : Nat → FieldType := fun k => match k with
  | 0 => .array .byte
  | 1 => .int
  | 2 => .object "OneWaySpell$Groups"
  | 3 => .object "OneWaySpell$Teller"
  | 4 => .object "OneWaySpell$Word"
  | 5 => .object "OneWaySpell$Tree"
  | 6 => .object "OneWaySpell$Tails"
  | 7 => .object "OneWaySpell$Twins"
  | 8 => .object "OneWaySpell$Reader"
  | 9 => .object "OneWaySpell$Speller"
  | 10 => .object "OneWaySpell$Census"
  | 11 => .object "OneWaySpell$Borders"
  | _ => .object "OneWaySpell$Cures"
def cn12 : String := "OneWaySpellModel"
def tf12 : u_T := fun k => match k with
  | 0 => ("OneWaySpellModel", "thrown", "I", false)
  | 1 => ("OneWaySpellModel", "letters", "[I", true)
  | 2 => ("OneWaySpellModel", "size", "[I", true)
  | 3 => ("OneWaySpellModel", "soundOf", "[I", true)
  | 4 => ("OneWaySpellModel", "groups", "I", false)
  | 5 => ("OneWaySpellModel", "soundMany", "I", false)
  | 6 => ("OneWaySpellModel", "there", "I", false)
  | 7 => ("OneWaySpellModel", "tape", "[I", true)
  | 8 => ("OneWaySpellModel", "nameRead", "[I", true)
  | 9 => ("OneWaySpellModel", "lettersRead", "[I", true)
  | 10 => ("OneWaySpellModel", "sizeRead", "[I", true)
  | 11 => ("OneWaySpellModel", "soundRead", "[I", true)
  | 12 => ("OneWaySpellModel", "taped", "I", false)
  | 13 => ("OneWaySpellModel", "length", "I", false)
  | 14 => ("OneWaySpellModel", "at", "I", false)
  | 15 => ("OneWaySpellModel", "behind", "I", false)
  | 16 => ("OneWaySpellModel", "token", "I", false)
  | 17 => ("OneWaySpellModel", "faultKind", "I", false)
  | 18 => ("OneWaySpellModel", "faultPlace", "I", false)
  | 19 => ("OneWaySpellModel", "wrong", "I", false)
  | 20 => ("OneWaySpellModel", "wrongAt", "I", false)
  | 21 => ("OneWaySpellModel", "soundsRead", "I", false)
  | 22 => ("OneWaySpellModel", "groupsRead", "I", false)
  | 23 => ("OneWaySpellModel", "word", "[I", true)
  | 24 => ("OneWaySpellModel", "wordSize", "I", false)
  | 25 => ("OneWaySpellModel", "tailsAre", "Z", false)
  | 26 => ("OneWaySpellModel", "nodesAre", "Z", false)
  | 27 => ("OneWaySpellModel", "tailGroup", "[I", true)
  | 28 => ("OneWaySpellModel", "tailAt", "[I", true)
  | 29 => ("OneWaySpellModel", "roundOf", "[I", true)
  | 30 => ("OneWaySpellModel", "endOf", "[I", true)
  | 31 => ("OneWaySpellModel", "toTail", "[I", true)
  | 32 => ("OneWaySpellModel", "tails", "I", false)
  | 33 => ("OneWaySpellModel", "rounds", "I", false)
  | 34 => ("OneWaySpellModel", "doubtRound", "I", false)
  | 35 => ("OneWaySpellModel", "best", "[I", true)
  | 36 => ("OneWaySpellModel", "bestSize", "[I", true)
  | 37 => ("OneWaySpellModel", "trial", "[I", true)
  | 38 => ("OneWaySpellModel", "trialSize", "I", false)
  | 39 => ("OneWaySpellModel", "more", "[I", true)
  | 40 => ("OneWaySpellModel", "ways", "[J", true)
  | 41 => ("OneWaySpellModel", "readAt", "I", false)
  | 42 => ("OneWaySpellModel", "readGroup", "I", false)
  | 43 => ("OneWaySpellModel", "firstRow", "[I", true)
  | 44 => ("OneWaySpellModel", "cover", "[I", true)
  | 45 => ("OneWaySpellModel", "coverSize", "[I", true)
  | 46 => ("OneWaySpellModel", "least", "[I", true)
  | 47 => ("OneWaySpellModel", "leastSize", "I", false)
  | 48 => ("OneWaySpellModel", "comesTo", "[Z", true)
  | 49 => ("OneWaySpellModel", "told", "[I", true)
  | 50 => ("OneWaySpellModel", "chosen", "[I", true)
  | 51 => ("OneWaySpellModel", "nodeNext", "[I", true)
  | 52 => ("OneWaySpellModel", "nodeEnds", "[Z", true)
  | 53 => ("OneWaySpellModel", "nodes", "I", false)
  | 54 => ("OneWaySpellModel", "keys", "[J", true)
  | 55 => ("OneWaySpellModel", "counts", "[J", true)
  | 56 => ("OneWaySpellModel", "isTaken", "[Z", true)
  | 57 => ("OneWaySpellModel", "taken", "[I", true)
  | 58 => ("OneWaySpellModel", "takenMany", "[I", true)
  | 59 => ("OneWaySpellModel", "from", "[J", true)
  | 60 => ("OneWaySpellModel", "to", "[J", true)
  | 61 => ("OneWaySpellModel", "some", "J", false)
  | 62 => ("OneWaySpellModel", "twice", "J", false)
  | 63 => ("OneWaySpellModel", "here", "[J", true)
  | 64 => ("OneWaySpellModel", "gone", "[J", true)
  | 65 => ("OneWaySpellModel", "open", "[I", true)
  | 66 => ("OneWaySpellModel", "openMany", "[I", true)
  | 67 => ("OneWaySpellModel", "border", "[I", true)
  | 68 => ("OneWaySpellModel", "its", "[I", true)
  | 69 => ("OneWaySpellModel", "isEnd", "[Z", true)
  | 70 => ("OneWaySpellModel", "bordersOf", "I", false)
  | 71 => ("OneWaySpellModel", "borderMany", "I", false)
  | 72 => ("OneWaySpellModel", "line", "[I", true)
  | 73 => ("OneWaySpellModel", "isIn", "[Z", true)
  | 74 => ("OneWaySpellModel", "lineMany", "I", false)
  | 75 => ("OneWaySpellModel", "kept", "[I", true)
  | _ => ("OneWaySpellModel", "acts", "I", false)
def ft12 : Nat → FieldType := fun k => match k with
  | 0 => .int
  | 1 => .array .int
  | 2 => .array .int
  | 3 => .array .int
  | 4 => .int
  | 5 => .int
  | 6 => .int
  | 7 => .array .int
  | 8 => .array .int
  | 9 => .array .int
  | 10 => .array .int
  | 11 => .array .int
  | 12 => .int
  | 13 => .int
  | 14 => .int
  | 15 => .int
  | 16 => .int
  | 17 => .int
  | 18 => .int
  | 19 => .int
  | 20 => .int
  | 21 => .int
  | 22 => .int
  | 23 => .array .int
  | 24 => .int
  | 25 => .boolean
  | 26 => .boolean
  | 27 => .array .int
  | 28 => .array .int
  | 29 => .array .int
  | 30 => .array .int
  | 31 => .array .int
  | 32 => .int
  | 33 => .int
  | 34 => .int
  | 35 => .array .int
  | 36 => .array .int
  | 37 => .array .int
  | 38 => .int
  | 39 => .array .int
  | 40 => .array .long
  | 41 => .int
  | 42 => .int
  | 43 => .array .int
  | 44 => .array .int
  | 45 => .array .int
  | 46 => .array .int
  | 47 => .int
  | 48 => .array .boolean
  | 49 => .array .int
  | 50 => .array .int
  | 51 => .array .int
  | 52 => .array .boolean
  | 53 => .int
  | 54 => .array .long
  | 55 => .array .long
  | 56 => .array .boolean
  | 57 => .array .int
  | 58 => .array .int
  | 59 => .array .long
  | 60 => .array .long
  | 61 => .long
  | 62 => .long
  | 63 => .array .long
  | 64 => .array .long
  | 65 => .array .int
  | 66 => .array .int
  | 67 => .array .int
  | 68 => .array .int
  | 69 => .array .boolean
  | 70 => .int
  | 71 => .int
  | 72 => .array .int
  | 73 => .array .boolean
  | 74 => .int
  | 75 => .array .int
  | _ => .int
abbrev cls : List vw_C := [(cn0, tf0, 6), (cn1, tf1, 11), (cn2, tf2, 12), (cn3, tf3, 10), (cn4, tf4, 5), (cn5, tf5, 7), (cn6, tf6, 12), (cn7, tf7, 9), (cn8, tf8, 11), (cn9, tf9, 10), (cn10, tf10, 5), (cn11, tf11, 13), (cn12, tf12, 77)]
def ftL : List (Nat → FieldType) := [ft0, ft1, ft2, ft3, ft4, ft5, ft6, ft7, ft8, ft9, ft10, ft11, ft12]
def fty (ci : Nat) : Nat → FieldType := ftL.getD ci (fun _ => .int)
def fNL : List Nat := [6, 11, 12, 10, 5, 7, 12, 9, 11, 10, 5, 13, 77]
def fN (ci : Nat) : Nat := fNL.getD ci 0
def clsOK (ci : Nat) (C : String) (T : u_T) (N : Nat) : Prop := (∀ w ∈ u_ws C T N, w ∈ gt) ∧ (∀ k, k < N → parseFieldDescriptor (T k).2.2.1 = some (fty ci k)) ∧ (∀ a, a < N → ∀ b, b < N → a ≠ b → (T a).2.1 ≠ (T b).2.1) ∧ (∀ k, k < N → (T k).1 = C) ∧ Cond.instantiable C N ∈ gt ∧ Cond.initialized C ∈ gt ∧ fN ci = N
set_option maxRecDepth 20000 in
theorem clsOK0 : clsOK 0 cn0 tf0 6 := ⟨gt_ps _ [1206, 1208, 1210, 1212, 1214, 1216] (by decide +kernel) (by decide +kernel), by decide +kernel, by decide +kernel, by decide +kernel, gt_in 1194 (by decide +kernel) (by decide +kernel), gt_in 189 (by decide +kernel) (by decide +kernel), rfl⟩
set_option maxRecDepth 20000 in
theorem clsOK1 : clsOK 1 cn1 tf1 11 := ⟨gt_ps _ [1085, 1087, 1089, 1091, 1093, 1095, 1097, 1099, 1101, 1103, 1105] (by decide +kernel) (by decide +kernel), by decide +kernel, by decide +kernel, by decide +kernel, gt_in 1068 (by decide +kernel) (by decide +kernel), gt_in 188 (by decide +kernel) (by decide +kernel), rfl⟩
set_option maxRecDepth 20000 in
theorem clsOK2 : clsOK 2 cn2 tf2 12 := ⟨gt_ps _ [1305, 1307, 1309, 1311, 1313, 1315, 1317, 1319, 1321, 1323, 1325, 1327] (by decide +kernel) (by decide +kernel), by decide +kernel, by decide +kernel, by decide +kernel, gt_in 1284 (by decide +kernel) (by decide +kernel), gt_in 190 (by decide +kernel) (by decide +kernel), rfl⟩
set_option maxRecDepth 20000 in
theorem clsOK3 : clsOK 3 cn3 tf3 10 := ⟨gt_ps _ [246, 248, 250, 252, 254, 256, 258, 260, 262, 264] (by decide +kernel) (by decide +kernel), by decide +kernel, by decide +kernel, by decide +kernel, gt_in 200 (by decide +kernel) (by decide +kernel), gt_in 175 (by decide +kernel) (by decide +kernel), rfl⟩
set_option maxRecDepth 20000 in
theorem clsOK4 : clsOK 4 cn4 tf4 5 := ⟨gt_ps _ [900, 902, 904, 906, 908] (by decide +kernel) (by decide +kernel), by decide +kernel, by decide +kernel, by decide +kernel, gt_in 890 (by decide +kernel) (by decide +kernel), gt_in 186 (by decide +kernel) (by decide +kernel), rfl⟩
set_option maxRecDepth 20000 in
theorem clsOK5 : clsOK 5 cn5 tf5 7 := ⟨gt_ps _ [999, 1001, 1003, 1005, 1007, 1009, 1011] (by decide +kernel) (by decide +kernel), by decide +kernel, by decide +kernel, by decide +kernel, gt_in 987 (by decide +kernel) (by decide +kernel), gt_in 187 (by decide +kernel) (by decide +kernel), rfl⟩
set_option maxRecDepth 20000 in
theorem clsOK6 : clsOK 6 cn6 tf6 12 := ⟨gt_ps _ [547, 549, 551, 553, 555, 557, 559, 561, 563, 565, 567, 569] (by decide +kernel) (by decide +kernel), by decide +kernel, by decide +kernel, by decide +kernel, gt_in 523 (by decide +kernel) (by decide +kernel), gt_in 182 (by decide +kernel) (by decide +kernel), rfl⟩
set_option maxRecDepth 20000 in
theorem clsOK7 : clsOK 7 cn7 tf7 9 := ⟨gt_ps _ [292, 294, 296, 298, 300, 302, 304, 306, 308] (by decide +kernel) (by decide +kernel), by decide +kernel, by decide +kernel, by decide +kernel, gt_in 271 (by decide +kernel) (by decide +kernel), gt_in 176 (by decide +kernel) (by decide +kernel), rfl⟩
set_option maxRecDepth 20000 in
theorem clsOK8 : clsOK 8 cn8 tf8 11 := ⟨gt_ps _ [702, 704, 706, 708, 710, 712, 714, 716, 718, 720, 722] (by decide +kernel) (by decide +kernel), by decide +kernel, by decide +kernel, by decide +kernel, gt_in 674 (by decide +kernel) (by decide +kernel), gt_in 184 (by decide +kernel) (by decide +kernel), rfl⟩
set_option maxRecDepth 20000 in
theorem clsOK9 : clsOK 9 cn9 tf9 10 := ⟨gt_ps _ [648, 650, 652, 654, 656, 658, 660, 662, 664, 666] (by decide +kernel) (by decide +kernel), by decide +kernel, by decide +kernel, by decide +kernel, gt_in 633 (by decide +kernel) (by decide +kernel), gt_in 183 (by decide +kernel) (by decide +kernel), rfl⟩
set_option maxRecDepth 20000 in
theorem clsOK10 : clsOK 10 cn10 tf10 5 := ⟨gt_ps _ [328, 330, 332, 334, 336] (by decide +kernel) (by decide +kernel), by decide +kernel, by decide +kernel, by decide +kernel, gt_in 312 (by decide +kernel) (by decide +kernel), gt_in 177 (by decide +kernel) (by decide +kernel), rfl⟩
set_option maxRecDepth 20000 in
theorem clsOK11 : clsOK 11 cn11 tf11 13 := ⟨gt_ps _ [353, 355, 357, 359, 361, 363, 365, 367, 369, 371, 373, 375, 377] (by decide +kernel) (by decide +kernel), by decide +kernel, by decide +kernel, by decide +kernel, gt_in 192 (by decide +kernel) (by decide +kernel), gt_in 174 (by decide +kernel) (by decide +kernel), rfl⟩
set_option maxRecDepth 20000 in
theorem clsOK12 : clsOK 12 cn12 tf12 77 := ⟨gt_ps _ [1481, 1483, 1485, 1487, 1489, 1491, 1493, 1495, 1497, 1499, 1501, 1503, 1505, 1507, 1509, 1511, 1513, 1515, 1517, 1519, 1521, 1523, 1525, 1527, 1529, 1531, 1533, 1535, 1537, 1539, 1541, 1543, 1545, 1547, 1549, 1551, 1553, 1555, 1557, 1559, 1561, 1563, 1565, 1567, 1569, 1571, 1573, 1575, 1577, 1579, 1581, 1583, 1585, 1587, 1589, 1591, 1593, 1595, 1597, 1599, 1601, 1603, 1605, 1607, 1609, 1611, 1613, 1615, 1617, 1619, 1621, 1623, 1625, 1627, 1629, 1631, 1633] (by decide +kernel) (by decide +kernel), by decide +kernel, by decide +kernel, by decide +kernel, gt_in 1395 (by decide +kernel) (by decide +kernel), gt_in 178 (by decide +kernel) (by decide +kernel), rfl⟩
theorem cls_ok : ∀ (ci : Nat) (C : String) (T : u_T) (N : Nat), cls[ci]? = some (C, T, N) → clsOK ci C T N := by
  intro ci C T N h
  match ci, h with
  | 0, h => cases h; exact clsOK0
  | 1, h => cases h; exact clsOK1
  | 2, h => cases h; exact clsOK2
  | 3, h => cases h; exact clsOK3
  | 4, h => cases h; exact clsOK4
  | 5, h => cases h; exact clsOK5
  | 6, h => cases h; exact clsOK6
  | 7, h => cases h; exact clsOK7
  | 8, h => cases h; exact clsOK8
  | 9, h => cases h; exact clsOK9
  | 10, h => cases h; exact clsOK10
  | 11, h => cases h; exact clsOK11
  | 12, h => cases h; exact clsOK12
  | ci + 13, h => simp [cls] at h
