def nRS : String := "LacedSound"
def nRW : String := "LacedSound$Wire"
def nRO : String := "LacedSound$Outbox"
def nRK : String := "LacedSound$Packet"
def nRI : String := "LacedSound$Inbox"
def nRE : String := "LacedSound$Event"
def nRR : String := "LacedSound$Reader"
def nRH : String := "LacedSound$Hand"
def nRB : String := "LacedSound$Book"
def nRC : String := "LacedSound$CurvePlan"
def nRP : String := "LacedSound$ValuePlan"
def nRD : String := "LacedSound$Decoder"
def nRM : String := "LacedSoundModel"
def nRL : String := "LacedSoundLaw"
def nRA : String := "java/util/Arrays"
def nTS : u_T := fun k => match k with
  | 0 => ("LacedSound", "line", "LLacedSound$Wire;", true)
  | 1 => ("LacedSound", "atHand", "[I", true)
  | 2 => ("LacedSound", "countAtHand", "I", false)
  | 3 => ("LacedSound", "outboxes", "[LLacedSound$Outbox;", true)
  | 4 => ("LacedSound", "hand", "LLacedSound$Hand;", true)
  | 5 => ("LacedSound", "reader", "LLacedSound$Reader;", true)
  | _ => ("LacedSound", "decoder", "LLacedSound$Decoder;", true)
def nYS : Nat → FieldType := fun k => match k with
  | 0 => .object "LacedSound$Wire"
  | 1 => .array .int
  | 2 => .int
  | 3 => .array (.object "LacedSound$Outbox")
  | 4 => .object "LacedSound$Hand"
  | 5 => .object "LacedSound$Reader"
  | _ => .object "LacedSound$Decoder"
def nTW : u_T := fun k => match k with
  | 0 => ("LacedSound$Wire", "bytes", "[I", true)
  | 1 => ("LacedSound$Wire", "size", "I", false)
  | _ => ("LacedSound$Wire", "readPlace", "I", false)
def nYW : Nat → FieldType := fun k => match k with
  | 0 => .array .int
  | 1 => .int
  | _ => .int
def nTO : u_T := fun k => match k with
  | 0 => ("LacedSound$Outbox", "stream", "I", true)
  | 1 => ("LacedSound$Outbox", "lacings", "[I", true)
  | 2 => ("LacedSound$Outbox", "octets", "[I", true)
  | 3 => ("LacedSound$Outbox", "times", "[I", true)
  | 4 => ("LacedSound$Outbox", "begins", "[Z", true)
  | 5 => ("LacedSound$Outbox", "waiting", "I", false)
  | 6 => ("LacedSound$Outbox", "pages", "I", false)
  | _ => ("LacedSound$Outbox", "ended", "Z", false)
def nYO : Nat → FieldType := fun k => match k with
  | 0 => .int
  | 1 => .array .int
  | 2 => .array .int
  | 3 => .array .int
  | 4 => .array .boolean
  | 5 => .int
  | 6 => .int
  | _ => .boolean
def nTK : u_T := fun k => match k with
  | 0 => ("LacedSound$Packet", "places", "[I", true)
  | 1 => ("LacedSound$Packet", "segments", "I", false)
  | _ => ("LacedSound$Packet", "size", "I", false)
def nYK : Nat → FieldType := fun k => match k with
  | 0 => .array .int
  | 1 => .int
  | _ => .int
def nTI : u_T := fun k => match k with
  | 0 => ("LacedSound$Inbox", "known", "Z", false)
  | 1 => ("LacedSound$Inbox", "serial", "I", false)
  | 2 => ("LacedSound$Inbox", "number", "I", false)
  | 3 => ("LacedSound$Inbox", "packets", "I", false)
  | _ => ("LacedSound$Inbox", "unfinished", "LLacedSound$Packet;", true)
def nYI : Nat → FieldType := fun k => match k with
  | 0 => .boolean
  | 1 => .int
  | 2 => .int
  | 3 => .int
  | _ => .object "LacedSound$Packet"
def nTE : u_T := fun k => match k with
  | 0 => ("LacedSound$Event", "kind", "I", false)
  | 1 => ("LacedSound$Event", "amount", "I", false)
  | 2 => ("LacedSound$Event", "serial", "I", false)
  | 3 => ("LacedSound$Event", "time", "I", false)
  | 4 => ("LacedSound$Event", "closing", "Z", false)
  | _ => ("LacedSound$Event", "packet", "LLacedSound$Packet;", true)
def nYE : Nat → FieldType := fun k => match k with
  | 0 => .int
  | 1 => .int
  | 2 => .int
  | 3 => .int
  | 4 => .boolean
  | _ => .object "LacedSound$Packet"
def nTR : u_T := fun k => match k with
  | 0 => ("LacedSound$Reader", "wire", "LLacedSound$Wire;", true)
  | 1 => ("LacedSound$Reader", "hand", "LLacedSound$Hand;", true)
  | 2 => ("LacedSound$Reader", "inboxes", "[LLacedSound$Inbox;", true)
  | 3 => ("LacedSound$Reader", "events", "[LLacedSound$Event;", true)
  | 4 => ("LacedSound$Reader", "made", "I", false)
  | 5 => ("LacedSound$Reader", "given", "I", false)
  | 6 => ("LacedSound$Reader", "latest", "LLacedSound$Event;", true)
  | _ => ("LacedSound$Reader", "pieces", "I", false)
def nYR : Nat → FieldType := fun k => match k with
  | 0 => .object "LacedSound$Wire"
  | 1 => .object "LacedSound$Hand"
  | 2 => .array (.object "LacedSound$Inbox")
  | 3 => .array (.object "LacedSound$Event")
  | 4 => .int
  | 5 => .int
  | 6 => .object "LacedSound$Event"
  | _ => .int
def nTH : u_T := fun k => match k with
  | 0 => ("LacedSound$Hand", "octets", "[I", true)
  | 1 => ("LacedSound$Hand", "full", "Z", false)
  | 2 => ("LacedSound$Hand", "size", "I", false)
  | 3 => ("LacedSound$Hand", "time", "I", false)
  | 4 => ("LacedSound$Hand", "closing", "Z", false)
  | 5 => ("LacedSound$Hand", "position", "I", false)
  | _ => ("LacedSound$Hand", "out", "Z", false)
def nYH : Nat → FieldType := fun k => match k with
  | 0 => .array .int
  | 1 => .boolean
  | 2 => .int
  | 3 => .int
  | 4 => .boolean
  | 5 => .int
  | _ => .boolean
def nTB : u_T := fun k => match k with
  | 0 => ("LacedSound$Book", "entries", "I", false)
  | 1 => ("LacedSound$Book", "dimension", "I", false)
  | 2 => ("LacedSound$Book", "lengths", "[I", true)
  | 3 => ("LacedSound$Book", "marked", "[I", true)
  | 4 => ("LacedSound$Book", "used", "I", false)
  | 5 => ("LacedSound$Book", "hasVectors", "Z", false)
  | 6 => ("LacedSound$Book", "numbers", "[I", true)
  | _ => ("LacedSound$Book", "components", "[I", true)
def nYB : Nat → FieldType := fun k => match k with
  | 0 => .int
  | 1 => .int
  | 2 => .array .int
  | 3 => .array .int
  | 4 => .int
  | 5 => .boolean
  | 6 => .array .int
  | _ => .array .int
def nTC : u_T := fun k => match k with
  | 0 => ("LacedSound$CurvePlan", "grain", "I", false)
  | 1 => ("LacedSound$CurvePlan", "parts", "I", false)
  | 2 => ("LacedSound$CurvePlan", "partClass", "[I", true)
  | 3 => ("LacedSound$CurvePlan", "classSize", "[I", true)
  | 4 => ("LacedSound$CurvePlan", "split", "[Z", true)
  | 5 => ("LacedSound$CurvePlan", "master", "[I", true)
  | 6 => ("LacedSound$CurvePlan", "subbooks", "[I", true)
  | 7 => ("LacedSound$CurvePlan", "points", "I", false)
  | 8 => ("LacedSound$CurvePlan", "places", "[I", true)
  | 9 => ("LacedSound$CurvePlan", "numbers", "[I", true)
  | 10 => ("LacedSound$CurvePlan", "heights", "[I", true)
  | _ => ("LacedSound$CurvePlan", "set", "[Z", true)
def nYC : Nat → FieldType := fun k => match k with
  | 0 => .int
  | 1 => .int
  | 2 => .array .int
  | 3 => .array .int
  | 4 => .array .boolean
  | 5 => .array .int
  | 6 => .array .int
  | 7 => .int
  | 8 => .array .int
  | 9 => .array .int
  | 10 => .array .int
  | _ => .array .boolean
def nTP : u_T := fun k => match k with
  | 0 => ("LacedSound$ValuePlan", "channels", "I", false)
  | 1 => ("LacedSound$ValuePlan", "mode", "I", false)
  | 2 => ("LacedSound$ValuePlan", "begin", "I", false)
  | 3 => ("LacedSound$ValuePlan", "end", "I", false)
  | 4 => ("LacedSound$ValuePlan", "partSize", "I", false)
  | 5 => ("LacedSound$ValuePlan", "kinds", "I", false)
  | 6 => ("LacedSound$ValuePlan", "kindsBook", "I", false)
  | 7 => ("LacedSound$ValuePlan", "passBooks", "[I", true)
  | 8 => ("LacedSound$ValuePlan", "joined", "Z", false)
  | 9 => ("LacedSound$ValuePlan", "rows", "I", false)
  | 10 => ("LacedSound$ValuePlan", "rowChannel", "[I", true)
  | _ => ("LacedSound$ValuePlan", "kindOfPart", "[[I", true)
def nYP : Nat → FieldType := fun k => match k with
  | 0 => .int
  | 1 => .int
  | 2 => .int
  | 3 => .int
  | 4 => .int
  | 5 => .int
  | 6 => .int
  | 7 => .array .int
  | 8 => .boolean
  | 9 => .int
  | 10 => .array .int
  | _ => .array (.array .int)
def nTD : u_T := fun k => match k with
  | 0 => ("LacedSound$Decoder", "hand", "LLacedSound$Hand;", true)
  | 1 => ("LacedSound$Decoder", "books", "[LLacedSound$Book;", true)
  | 2 => ("LacedSound$Decoder", "bookCount", "I", false)
  | 3 => ("LacedSound$Decoder", "channels", "I", false)
  | 4 => ("LacedSound$Decoder", "shortSize", "I", false)
  | 5 => ("LacedSound$Decoder", "longSize", "I", false)
  | 6 => ("LacedSound$Decoder", "hasSetup", "Z", false)
  | 7 => ("LacedSound$Decoder", "curvePlan", "LLacedSound$CurvePlan;", false)
  | 8 => ("LacedSound$Decoder", "valuePlan", "LLacedSound$ValuePlan;", false)
  | 9 => ("LacedSound$Decoder", "spareCurvePlan", "LLacedSound$CurvePlan;", false)
  | 10 => ("LacedSound$Decoder", "spareValuePlan", "LLacedSound$ValuePlan;", false)
  | 11 => ("LacedSound$Decoder", "blockSize", "I", false)
  | 12 => ("LacedSound$Decoder", "marks", "I", false)
  | 13 => ("LacedSound$Decoder", "curves", "[[I", true)
  | 14 => ("LacedSound$Decoder", "values", "[[I", true)
  | _ => ("LacedSound$Decoder", "samples", "I", false)
def nYD : Nat → FieldType := fun k => match k with
  | 0 => .object "LacedSound$Hand"
  | 1 => .array (.object "LacedSound$Book")
  | 2 => .int
  | 3 => .int
  | 4 => .int
  | 5 => .int
  | 6 => .boolean
  | 7 => .object "LacedSound$CurvePlan"
  | 8 => .object "LacedSound$ValuePlan"
  | 9 => .object "LacedSound$CurvePlan"
  | 10 => .object "LacedSound$ValuePlan"
  | 11 => .int
  | 12 => .int
  | 13 => .array (.array .int)
  | 14 => .array (.array .int)
  | _ => .int
def nTM : u_T := fun k => match k with
  | 0 => ("LacedSoundModel", "wire", "[I", true)
  | 1 => ("LacedSoundModel", "len", "I", false)
  | 2 => ("LacedSoundModel", "readPlace", "I", false)
  | 3 => ("LacedSoundModel", "hand", "[I", true)
  | 4 => ("LacedSoundModel", "hands", "I", false)
  | 5 => ("LacedSoundModel", "segLen", "[I", true)
  | 6 => ("LacedSoundModel", "segBegin", "[I", true)
  | 7 => ("LacedSoundModel", "segTime", "[I", true)
  | 8 => ("LacedSoundModel", "segByte", "[I", true)
  | 9 => ("LacedSoundModel", "waits", "[I", true)
  | 10 => ("LacedSoundModel", "pagesOut", "[I", true)
  | 11 => ("LacedSoundModel", "ended", "[Z", true)
  | 12 => ("LacedSoundModel", "pagePlace", "[I", true)
  | 13 => ("LacedSoundModel", "pages", "I", false)
  | 14 => ("LacedSoundModel", "given", "I", false)
  | 15 => ("LacedSoundModel", "known", "[I", true)
  | 16 => ("LacedSoundModel", "lastNumber", "[I", true)
  | 17 => ("LacedSoundModel", "counted", "[I", true)
  | 18 => ("LacedSoundModel", "unfinished", "[Z", true)
  | 19 => ("LacedSoundModel", "partLen", "[I", true)
  | 20 => ("LacedSoundModel", "part", "[I", true)
  | 21 => ("LacedSoundModel", "pieceCount", "I", false)
  | 22 => ("LacedSoundModel", "events", "I", false)
  | 23 => ("LacedSoundModel", "evKind", "[I", true)
  | 24 => ("LacedSoundModel", "evAmount", "[I", true)
  | 25 => ("LacedSoundModel", "evTime", "[I", true)
  | 26 => ("LacedSoundModel", "evClosing", "[Z", true)
  | 27 => ("LacedSoundModel", "evStart", "[I", true)
  | 28 => ("LacedSoundModel", "store", "[I", true)
  | 29 => ("LacedSoundModel", "stored", "I", false)
  | 30 => ("LacedSoundModel", "lastKind", "I", false)
  | 31 => ("LacedSoundModel", "lastAmount", "I", false)
  | 32 => ("LacedSoundModel", "lastSerial", "I", false)
  | 33 => ("LacedSoundModel", "lastTime", "I", false)
  | 34 => ("LacedSoundModel", "inHand", "Z", false)
  | 35 => ("LacedSoundModel", "packet", "[I", true)
  | 36 => ("LacedSoundModel", "packetLen", "I", false)
  | 37 => ("LacedSoundModel", "packetTime", "I", false)
  | 38 => ("LacedSoundModel", "packetClosing", "Z", false)
  | 39 => ("LacedSoundModel", "pos", "I", false)
  | 40 => ("LacedSoundModel", "out", "Z", false)
  | 41 => ("LacedSoundModel", "channels", "I", false)
  | 42 => ("LacedSoundModel", "shortN", "I", false)
  | 43 => ("LacedSoundModel", "longN", "I", false)
  | 44 => ("LacedSoundModel", "books", "I", false)
  | 45 => ("LacedSoundModel", "dim", "[I", true)
  | 46 => ("LacedSoundModel", "many", "[I", true)
  | 47 => ("LacedSoundModel", "lens", "[I", true)
  | 48 => ("LacedSoundModel", "code", "[I", true)
  | 49 => ("LacedSoundModel", "hasVectors", "[Z", true)
  | 50 => ("LacedSoundModel", "vector", "[I", true)
  | 51 => ("LacedSoundModel", "number", "[I", true)
  | 52 => ("LacedSoundModel", "set", "[I", true)
  | 53 => ("LacedSoundModel", "live", "I", false)
  | 54 => ("LacedSoundModel", "hasBlock", "Z", false)
  | 55 => ("LacedSoundModel", "isLong", "Z", false)
  | 56 => ("LacedSoundModel", "wings", "I", false)
  | 57 => ("LacedSoundModel", "size", "I", false)
  | 58 => ("LacedSoundModel", "wasOut", "Z", false)
  | 59 => ("LacedSoundModel", "used", "[Z", true)
  | 60 => ("LacedSoundModel", "curve", "[I", true)
  | 61 => ("LacedSoundModel", "value", "[I", true)
  | 62 => ("LacedSoundModel", "num", "[I", true)
  | 63 => ("LacedSoundModel", "height", "[I", true)
  | 64 => ("LacedSoundModel", "fixed", "[Z", true)
  | 65 => ("LacedSoundModel", "rows", "I", false)
  | 66 => ("LacedSoundModel", "rowChannel", "[I", true)
  | 67 => ("LacedSoundModel", "kindOf", "[I", true)
  | _ => ("LacedSoundModel", "sampleCount", "I", false)
def nYM : Nat → FieldType := fun k => match k with
  | 0 => .array .int
  | 1 => .int
  | 2 => .int
  | 3 => .array .int
  | 4 => .int
  | 5 => .array .int
  | 6 => .array .int
  | 7 => .array .int
  | 8 => .array .int
  | 9 => .array .int
  | 10 => .array .int
  | 11 => .array .boolean
  | 12 => .array .int
  | 13 => .int
  | 14 => .int
  | 15 => .array .int
  | 16 => .array .int
  | 17 => .array .int
  | 18 => .array .boolean
  | 19 => .array .int
  | 20 => .array .int
  | 21 => .int
  | 22 => .int
  | 23 => .array .int
  | 24 => .array .int
  | 25 => .array .int
  | 26 => .array .boolean
  | 27 => .array .int
  | 28 => .array .int
  | 29 => .int
  | 30 => .int
  | 31 => .int
  | 32 => .int
  | 33 => .int
  | 34 => .boolean
  | 35 => .array .int
  | 36 => .int
  | 37 => .int
  | 38 => .boolean
  | 39 => .int
  | 40 => .boolean
  | 41 => .int
  | 42 => .int
  | 43 => .int
  | 44 => .int
  | 45 => .array .int
  | 46 => .array .int
  | 47 => .array .int
  | 48 => .array .int
  | 49 => .array .boolean
  | 50 => .array .int
  | 51 => .array .int
  | 52 => .array .int
  | 53 => .int
  | 54 => .boolean
  | 55 => .boolean
  | 56 => .int
  | 57 => .int
  | 58 => .boolean
  | 59 => .array .boolean
  | 60 => .array .int
  | 61 => .array .int
  | 62 => .array .int
  | 63 => .array .int
  | 64 => .array .boolean
  | 65 => .int
  | 66 => .array .int
  | 67 => .array .int
  | _ => .int
def vwCl : List vw_C := [(nRS, nTS, 7), (nRW, nTW, 3), (nRO, nTO, 8), (nRK, nTK, 3), (nRI, nTI, 5), (nRE, nTE, 6), (nRR, nTR, 8), (nRH, nTH, 7), (nRB, nTB, 8), (nRC, nTC, 12), (nRP, nTP, 12), (nRD, nTD, 16), (nRM, nTM, 69)]
def fkT : List (List Bool) := [[true, true, false, true, true, true, true], [true, false, false], [false, true, true, true, true, false, false, false], [true, false, false], [false, false, false, false, true], [false, false, false, false, false, true], [true, true, true, true, false, false, true, false], [true, false, false, false, false, false, false], [false, false, true, true, false, false, true, true], [false, false, true, true, true, true, true, false, true, true, true, true], [false, false, false, false, false, false, false, true, false, false, true, true], [true, true, false, false, false, false, false, true, true, true, true, false, false, true, true, false], [true, false, false, true, false, true, true, true, true, true, true, true, true, false, false, true, true, true, true, true, true, false, false, true, true, true, true, true, true, false, false, false, false, false, false, true, false, false, false, false, false, false, false, false, false, true, true, true, true, true, true, true, true, false, false, false, false, false, false, true, true, true, true, true, true, false, true, true, false]]
def fkR (c k : Nat) : Bool := (fkT.getD c []).getD k false
def tyT (t : Nat) : FieldType := ([.int, .boolean, .object "LacedSound$Outbox", .object "LacedSound$Inbox", .object "LacedSound$Event", .object "LacedSound$Book", .array .int] : List FieldType).getD t .int
def stT : List (String × String × List Int32) := [("LacedSound", "SIGN", [76, 97, 76, 83]), ("LacedSound$CurvePlan", "RANGES", [32, 16, 12, 8]), ("LacedSound$CurvePlan", "NUMBER_BITS", [5, 4, 4, 3])]
def sCl (j : Nat) : String := (stT.getD j ("", "", [])).1
def sNm (j : Nat) : String := (stT.getD j ("", "", [])).2.1
def sLen (j : Nat) : Nat := (stT.getD j ("", "", [])).2.2.length
def sV (j i : Nat) : Int32 := (stT.getD j ("", "", [])).2.2.getD i 0
def yS_init : MethodName := ⟨nRS, "<init>", "()V"⟩
abbrev kS_init : ByteArray := prog_1_method_1_code
abbrev rmS_init : Room := { frames := 4, cells := 0, slots := 0, locals := 83 }
def yS_add : MethodName := ⟨nRS, "add", "(JI)I"⟩
abbrev kS_add : ByteArray := prog_1_method_2_code
abbrev rmS_add : Room := { frames := 1, cells := 0, slots := 0, locals := 22 }
def yS_send : MethodName := ⟨nRS, "send", "(II)I"⟩
abbrev kS_send : ByteArray := prog_1_method_3_code
abbrev rmS_send : Room := { frames := 5, cells := 0, slots := 0, locals := 125 }
def yS_flush : MethodName := ⟨nRS, "flush", "(IZ)I"⟩
abbrev kS_flush : ByteArray := prog_1_method_4_code
abbrev rmS_flush : Room := { frames := 5, cells := 0, slots := 0, locals := 122 }
def yS_raw : MethodName := ⟨nRS, "raw", "(JI)I"⟩
abbrev kS_raw : ByteArray := prog_1_method_5_code
abbrev rmS_raw : Room := { frames := 1, cells := 0, slots := 0, locals := 22 }
def yS_alter : MethodName := ⟨nRS, "alter", "(II)Z"⟩
abbrev kS_alter : ByteArray := prog_1_method_6_code
abbrev rmS_alter : Room := { frames := 1, cells := 0, slots := 0, locals := 22 }
def yS_cut : MethodName := ⟨nRS, "cut", "(II)Z"⟩
abbrev kS_cut : ByteArray := prog_1_method_7_code
abbrev rmS_cut : Room := { frames := 2, cells := 0, slots := 0, locals := 70 }
def yS_wire : MethodName := ⟨nRS, "wire", "(I)I"⟩
abbrev kS_wire : ByteArray := prog_1_method_8_code
abbrev rmS_wire : Room := { frames := 1, cells := 0, slots := 0, locals := 21 }
def yS_length : MethodName := ⟨nRS, "length", "()I"⟩
abbrev kS_length : ByteArray := prog_1_method_9_code
abbrev rmS_length : Room := { frames := 0, cells := 0, slots := 0, locals := 0 }
def yS_next : MethodName := ⟨nRS, "next", "()I"⟩
abbrev kS_next : ByteArray := prog_1_method_10_code
abbrev rmS_next : Room := { frames := 6, cells := 0, slots := 0, locals := 169 }
def yS_amount : MethodName := ⟨nRS, "amount", "()I"⟩
abbrev kS_amount : ByteArray := prog_1_method_11_code
abbrev rmS_amount : Room := { frames := 0, cells := 0, slots := 0, locals := 0 }
def yS_serial : MethodName := ⟨nRS, "serial", "()I"⟩
abbrev kS_serial : ByteArray := prog_1_method_12_code
abbrev rmS_serial : Room := { frames := 0, cells := 0, slots := 0, locals := 0 }
def yS_time : MethodName := ⟨nRS, "time", "()I"⟩
abbrev kS_time : ByteArray := prog_1_method_13_code
abbrev rmS_time : Room := { frames := 0, cells := 0, slots := 0, locals := 0 }
def yS_octet : MethodName := ⟨nRS, "octet", "(I)I"⟩
abbrev kS_octet : ByteArray := prog_1_method_14_code
abbrev rmS_octet : Room := { frames := 1, cells := 0, slots := 0, locals := 21 }
def yS_pieces : MethodName := ⟨nRS, "pieces", "()I"⟩
abbrev kS_pieces : ByteArray := prog_1_method_15_code
abbrev rmS_pieces : Room := { frames := 0, cells := 0, slots := 0, locals := 0 }
def yS_take : MethodName := ⟨nRS, "take", "()I"⟩
abbrev kS_take : ByteArray := prog_1_method_16_code
abbrev rmS_take : Room := { frames := 7, cells := 0, slots := 0, locals := 161 }
def yS_entry : MethodName := ⟨nRS, "entry", "(II)I"⟩
abbrev kS_entry : ByteArray := prog_1_method_17_code
abbrev rmS_entry : Room := { frames := 1, cells := 0, slots := 0, locals := 22 }
def yS_block : MethodName := ⟨nRS, "block", "()I"⟩
abbrev kS_block : ByteArray := prog_1_method_18_code
abbrev rmS_block : Room := { frames := 0, cells := 0, slots := 0, locals := 0 }
def yS_curve : MethodName := ⟨nRS, "curve", "(II)I"⟩
abbrev kS_curve : ByteArray := prog_1_method_19_code
abbrev rmS_curve : Room := { frames := 1, cells := 0, slots := 0, locals := 23 }
def yS_value : MethodName := ⟨nRS, "value", "(II)I"⟩
abbrev kS_value : ByteArray := prog_1_method_20_code
abbrev rmS_value : Room := { frames := 1, cells := 0, slots := 0, locals := 23 }
def yS_samples : MethodName := ⟨nRS, "samples", "()I"⟩
abbrev kS_samples : ByteArray := prog_1_method_21_code
abbrev rmS_samples : Room := { frames := 0, cells := 0, slots := 0, locals := 0 }
def yS_octetOf : MethodName := ⟨nRS, "octetOf", "(JI)I"⟩
abbrev kS_octetOf : ByteArray := prog_1_method_22_code
abbrev rmS_octetOf : Room := { frames := 0, cells := 0, slots := 0, locals := 0 }
def yM_init : MethodName := ⟨nRM, "<init>", "()V"⟩
abbrev kM_init : ByteArray := prog_14_method_1_code
abbrev rmM_init : Room := { frames := 1, cells := 0, slots := 0, locals := 20 }
def yM_raw : MethodName := ⟨nRM, "raw", "(JI)I"⟩
abbrev kM_raw : ByteArray := prog_14_method_2_code
abbrev rmM_raw : Room := { frames := 0, cells := 0, slots := 0, locals := 0 }
def yM_alter : MethodName := ⟨nRM, "alter", "(II)Z"⟩
abbrev kM_alter : ByteArray := prog_14_method_3_code
abbrev rmM_alter : Room := { frames := 0, cells := 0, slots := 0, locals := 0 }
def yM_cut : MethodName := ⟨nRM, "cut", "(II)Z"⟩
abbrev kM_cut : ByteArray := prog_14_method_4_code
abbrev rmM_cut : Room := { frames := 0, cells := 0, slots := 0, locals := 0 }
def yM_wire : MethodName := ⟨nRM, "wire", "(I)I"⟩
abbrev kM_wire : ByteArray := prog_14_method_5_code
abbrev rmM_wire : Room := { frames := 0, cells := 0, slots := 0, locals := 0 }
def yM_length : MethodName := ⟨nRM, "length", "()I"⟩
abbrev kM_length : ByteArray := prog_14_method_6_code
abbrev rmM_length : Room := { frames := 0, cells := 0, slots := 0, locals := 0 }
def yM_check : MethodName := ⟨nRM, "check", "(II)I"⟩
abbrev kM_check : ByteArray := prog_14_method_7_code
abbrev rmM_check : Room := { frames := 0, cells := 0, slots := 0, locals := 0 }
def yM_magic : MethodName := ⟨nRM, "magic", "(I)I"⟩
abbrev kM_magic : ByteArray := prog_14_method_8_code
abbrev rmM_magic : Room := { frames := 0, cells := 0, slots := 0, locals := 0 }
def yM_pageLength : MethodName := ⟨nRM, "pageLength", "(I)I"⟩
abbrev kM_pageLength : ByteArray := prog_14_method_9_code
abbrev rmM_pageLength : Room := { frames := 0, cells := 0, slots := 0, locals := 0 }
def yM_state : MethodName := ⟨nRM, "state", "(I)I"⟩
abbrev kM_state : ByteArray := prog_14_method_10_code
abbrev rmM_state : Room := { frames := 1, cells := 0, slots := 0, locals := 28 }
def yM_add : MethodName := ⟨nRM, "add", "(JI)I"⟩
abbrev kM_add : ByteArray := prog_14_method_11_code
abbrev rmM_add : Room := { frames := 0, cells := 0, slots := 0, locals := 0 }
def yM_noStream : MethodName := ⟨nRM, "noStream", "(I)Z"⟩
abbrev kM_noStream : ByteArray := prog_14_method_12_code
abbrev rmM_noStream : Room := { frames := 0, cells := 0, slots := 0, locals := 0 }
def yM_send : MethodName := ⟨nRM, "send", "(II)I"⟩
abbrev kM_send : ByteArray := prog_14_method_13_code
abbrev rmM_send : Room := { frames := 2, cells := 0, slots := 0, locals := 56 }
def yM_flush : MethodName := ⟨nRM, "flush", "(IZ)I"⟩
abbrev kM_flush : ByteArray := prog_14_method_14_code
abbrev rmM_flush : Room := { frames := 2, cells := 0, slots := 0, locals := 56 }
def yM_put : MethodName := ⟨nRM, "put", "(I)V"⟩
abbrev kM_put : ByteArray := prog_14_method_15_code
abbrev rmM_put : Room := { frames := 0, cells := 0, slots := 0, locals := 0 }
def yM_page : MethodName := ⟨nRM, "page", "(IIZ)V"⟩
abbrev kM_page : ByteArray := prog_14_method_16_code
abbrev rmM_page : Room := { frames := 1, cells := 0, slots := 0, locals := 28 }
def yM_forget : MethodName := ⟨nRM, "forget", "(III)V"⟩
abbrev kM_forget : ByteArray := prog_14_method_17_code
abbrev rmM_forget : Room := { frames := 0, cells := 0, slots := 0, locals := 0 }
def yM_event : MethodName := ⟨nRM, "event", "(IIIZ)V"⟩
abbrev kM_event : ByteArray := prog_14_method_18_code
abbrev rmM_event : Room := { frames := 0, cells := 0, slots := 0, locals := 0 }
def yM_drop : MethodName := ⟨nRM, "drop", "(I)V"⟩
abbrev kM_drop : ByteArray := prog_14_method_19_code
abbrev rmM_drop : Room := { frames := 0, cells := 0, slots := 0, locals := 0 }
def yM_replay : MethodName := ⟨nRM, "replay", "()V"⟩
abbrev kM_replay : ByteArray := prog_14_method_20_code
abbrev rmM_replay : Room := { frames := 3, cells := 0, slots := 0, locals := 79 }
def yM_stream : MethodName := ⟨nRM, "stream", "(I)I"⟩
abbrev kM_stream : ByteArray := prog_14_method_21_code
abbrev rmM_stream : Room := { frames := 1, cells := 0, slots := 0, locals := 24 }
def yM_segments : MethodName := ⟨nRM, "segments", "(II)V"⟩
abbrev kM_segments : ByteArray := prog_14_method_22_code
abbrev rmM_segments : Room := { frames := 2, cells := 0, slots := 0, locals := 48 }
def yM_carry : MethodName := ⟨nRM, "carry", "(III)V"⟩
abbrev kM_carry : ByteArray := prog_14_method_23_code
abbrev rmM_carry : Room := { frames := 0, cells := 0, slots := 0, locals := 0 }
def yM_finish : MethodName := ⟨nRM, "finish", "(IIZ)V"⟩
abbrev kM_finish : ByteArray := prog_14_method_24_code
abbrev rmM_finish : Room := { frames := 1, cells := 0, slots := 0, locals := 24 }
def yM_give : MethodName := ⟨nRM, "give", "()I"⟩
abbrev kM_give : ByteArray := prog_14_method_25_code
abbrev rmM_give : Room := { frames := 0, cells := 0, slots := 0, locals := 0 }
def yM_next : MethodName := ⟨nRM, "next", "()I"⟩
abbrev kM_next : ByteArray := prog_14_method_26_code
abbrev rmM_next : Room := { frames := 4, cells := 0, slots := 0, locals := 101 }
def yM_amount : MethodName := ⟨nRM, "amount", "()I"⟩
abbrev kM_amount : ByteArray := prog_14_method_27_code
abbrev rmM_amount : Room := { frames := 0, cells := 0, slots := 0, locals := 0 }
def yM_serial : MethodName := ⟨nRM, "serial", "()I"⟩
abbrev kM_serial : ByteArray := prog_14_method_28_code
abbrev rmM_serial : Room := { frames := 0, cells := 0, slots := 0, locals := 0 }
def yM_time : MethodName := ⟨nRM, "time", "()I"⟩
abbrev kM_time : ByteArray := prog_14_method_29_code
abbrev rmM_time : Room := { frames := 0, cells := 0, slots := 0, locals := 0 }
def yM_octet : MethodName := ⟨nRM, "octet", "(I)I"⟩
abbrev kM_octet : ByteArray := prog_14_method_30_code
abbrev rmM_octet : Room := { frames := 0, cells := 0, slots := 0, locals := 0 }
def yM_pieces : MethodName := ⟨nRM, "pieces", "()I"⟩
abbrev kM_pieces : ByteArray := prog_14_method_31_code
abbrev rmM_pieces : Room := { frames := 0, cells := 0, slots := 0, locals := 0 }
def yM_read : MethodName := ⟨nRM, "read", "(I)I"⟩
abbrev kM_read : ByteArray := prog_14_method_32_code
abbrev rmM_read : Room := { frames := 0, cells := 0, slots := 0, locals := 0 }
def yM_take : MethodName := ⟨nRM, "take", "()I"⟩
abbrev kM_take : ByteArray := prog_14_method_33_code
abbrev rmM_take : Room := { frames := 5, cells := 0, slots := 0, locals := 133 }
def yM_format : MethodName := ⟨nRM, "format", "()Z"⟩
abbrev kM_format : ByteArray := prog_14_method_34_code
abbrev rmM_format : Room := { frames := 1, cells := 0, slots := 0, locals := 23 }
def yM_book : MethodName := ⟨nRM, "book", "()Z"⟩
abbrev kM_book : ByteArray := prog_14_method_35_code
abbrev rmM_book : Room := { frames := 2, cells := 0, slots := 0, locals := 57 }
def yM_plainLengths : MethodName := ⟨nRM, "plainLengths", "(II)Z"⟩
abbrev kM_plainLengths : ByteArray := prog_14_method_36_code
abbrev rmM_plainLengths : Room := { frames := 1, cells := 0, slots := 0, locals := 23 }
def yM_ordered : MethodName := ⟨nRM, "ordered", "(II)Z"⟩
abbrev kM_ordered : ByteArray := prog_14_method_37_code
abbrev rmM_ordered : Room := { frames := 1, cells := 0, slots := 0, locals := 23 }
def yM_power : MethodName := ⟨nRM, "power", "(II)I"⟩
abbrev kM_power : ByteArray := prog_14_method_38_code
abbrev rmM_power : Room := { frames := 0, cells := 0, slots := 0, locals := 0 }
def yM_vectors : MethodName := ⟨nRM, "vectors", "(I)Z"⟩
abbrev kM_vectors : ByteArray := prog_14_method_39_code
abbrev rmM_vectors : Room := { frames := 1, cells := 0, slots := 0, locals := 23 }
def yM_fits : MethodName := ⟨nRM, "fits", "(IIII)Z"⟩
abbrev kM_fits : ByteArray := prog_14_method_40_code
abbrev rmM_fits : Room := { frames := 0, cells := 0, slots := 0, locals := 0 }
def yM_words : MethodName := ⟨nRM, "words", "(II)Z"⟩
abbrev kM_words : ByteArray := prog_14_method_41_code
abbrev rmM_words : Room := { frames := 1, cells := 0, slots := 0, locals := 27 }
def yM_entry : MethodName := ⟨nRM, "entry", "(II)I"⟩
abbrev kM_entry : ByteArray := prog_14_method_42_code
abbrev rmM_entry : Room := { frames := 0, cells := 0, slots := 0, locals := 0 }
def yM_pick : MethodName := ⟨nRM, "pick", "(I)I"⟩
abbrev kM_pick : ByteArray := prog_14_method_43_code
abbrev rmM_pick : Room := { frames := 1, cells := 0, slots := 0, locals := 23 }
def yM_setup : MethodName := ⟨nRM, "setup", "()Z"⟩
abbrev kM_setup : ByteArray := prog_14_method_44_code
abbrev rmM_setup : Room := { frames := 3, cells := 0, slots := 0, locals := 77 }
def yM_range : MethodName := ⟨nRM, "range", "(I)I"⟩
abbrev kM_range : ByteArray := prog_14_method_45_code
abbrev rmM_range : Room := { frames := 0, cells := 0, slots := 0, locals := 0 }
def yM_curvePart : MethodName := ⟨nRM, "curvePart", "(I)Z"⟩
abbrev kM_curvePart : ByteArray := prog_14_method_46_code
abbrev rmM_curvePart : Room := { frames := 2, cells := 0, slots := 0, locals := 49 }
def yM_points : MethodName := ⟨nRM, "points", "(I)Z"⟩
abbrev kM_points : ByteArray := prog_14_method_47_code
abbrev rmM_points : Room := { frames := 1, cells := 0, slots := 0, locals := 23 }
def yM_valuePart : MethodName := ⟨nRM, "valuePart", "(I)Z"⟩
abbrev kM_valuePart : ByteArray := prog_14_method_48_code
abbrev rmM_valuePart : Room := { frames := 1, cells := 0, slots := 0, locals := 23 }
def yM_sound : MethodName := ⟨nRM, "sound", "()Z"⟩
abbrev kM_sound : ByteArray := prog_14_method_49_code
abbrev rmM_sound : Room := { frames := 4, cells := 0, slots := 0, locals := 109 }
def yM_curveOf : MethodName := ⟨nRM, "curveOf", "(I)Z"⟩
abbrev kM_curveOf : ByteArray := prog_14_method_50_code
abbrev rmM_curveOf : Room := { frames := 2, cells := 0, slots := 0, locals := 56 }
def yM_below : MethodName := ⟨nRM, "below", "(IIZ)I"⟩
abbrev kM_below : ByteArray := prog_14_method_51_code
abbrev rmM_below : Room := { frames := 0, cells := 0, slots := 0, locals := 0 }
def yM_above : MethodName := ⟨nRM, "above", "(IIZ)I"⟩
abbrev kM_above : ByteArray := prog_14_method_52_code
abbrev rmM_above : Room := { frames := 0, cells := 0, slots := 0, locals := 0 }
def yM_line : MethodName := ⟨nRM, "line", "(IIII)I"⟩
abbrev kM_line : ByteArray := prog_14_method_53_code
abbrev rmM_line : Room := { frames := 0, cells := 0, slots := 0, locals := 0 }
def yM_heights : MethodName := ⟨nRM, "heights", "(I)V"⟩
abbrev kM_heights : ByteArray := prog_14_method_54_code
abbrev rmM_heights : Room := { frames := 1, cells := 0, slots := 0, locals := 30 }
def yM_heightOf : MethodName := ⟨nRM, "heightOf", "(III)I"⟩
abbrev kM_heightOf : ByteArray := prog_14_method_55_code
abbrev rmM_heightOf : Room := { frames := 0, cells := 0, slots := 0, locals := 0 }
def yM_draw : MethodName := ⟨nRM, "draw", "(II)I"⟩
abbrev kM_draw : ByteArray := prog_14_method_56_code
abbrev rmM_draw : Room := { frames := 1, cells := 0, slots := 0, locals := 30 }
def yM_cell : MethodName := ⟨nRM, "cell", "(II)I"⟩
abbrev kM_cell : ByteArray := prog_14_method_57_code
abbrev rmM_cell : Room := { frames := 0, cells := 0, slots := 0, locals := 0 }
def yM_findRows : MethodName := ⟨nRM, "findRows", "()V"⟩
abbrev kM_findRows : ByteArray := prog_14_method_58_code
abbrev rmM_findRows : Room := { frames := 0, cells := 0, slots := 0, locals := 0 }
def yM_values : MethodName := ⟨nRM, "values", "()V"⟩
abbrev kM_values : ByteArray := prog_14_method_59_code
abbrev rmM_values : Room := { frames := 3, cells := 0, slots := 0, locals := 78 }
def yM_kinds : MethodName := ⟨nRM, "kinds", "(IIII)Z"⟩
abbrev kM_kinds : ByteArray := prog_14_method_60_code
abbrev rmM_kinds : Room := { frames := 2, cells := 0, slots := 0, locals := 49 }
def yM_fill : MethodName := ⟨nRM, "fill", "(III)Z"⟩
abbrev kM_fill : ByteArray := prog_14_method_61_code
abbrev rmM_fill : Room := { frames := 2, cells := 0, slots := 0, locals := 49 }
def yM_join : MethodName := ⟨nRM, "join", "(I)V"⟩
abbrev kM_join : ByteArray := prog_14_method_62_code
abbrev rmM_join : Room := { frames := 0, cells := 0, slots := 0, locals := 0 }
def yM_block : MethodName := ⟨nRM, "block", "()I"⟩
abbrev kM_block : ByteArray := prog_14_method_63_code
abbrev rmM_block : Room := { frames := 0, cells := 0, slots := 0, locals := 0 }
def yM_noPlace : MethodName := ⟨nRM, "noPlace", "(II)Z"⟩
abbrev kM_noPlace : ByteArray := prog_14_method_64_code
abbrev rmM_noPlace : Room := { frames := 0, cells := 0, slots := 0, locals := 0 }
def yM_curve : MethodName := ⟨nRM, "curve", "(II)I"⟩
abbrev kM_curve : ByteArray := prog_14_method_65_code
abbrev rmM_curve : Room := { frames := 1, cells := 0, slots := 0, locals := 22 }
def yM_value : MethodName := ⟨nRM, "value", "(II)I"⟩
abbrev kM_value : ByteArray := prog_14_method_66_code
abbrev rmM_value : Room := { frames := 1, cells := 0, slots := 0, locals := 22 }
def yM_samples : MethodName := ⟨nRM, "samples", "()I"⟩
abbrev kM_samples : ByteArray := prog_14_method_67_code
abbrev rmM_samples : Room := { frames := 0, cells := 0, slots := 0, locals := 0 }
def yB_init : MethodName := ⟨nRB, "<init>", "()V"⟩
abbrev kB_init : ByteArray := prog_2_method_1_code
abbrev rmB_init : Room := { frames := 1, cells := 0, slots := 0, locals := 20 }
def yB_load : MethodName := ⟨nRB, "load", "(LLacedSound$Hand;)Z"⟩
abbrev kB_load : ByteArray := prog_2_method_2_code
abbrev rmB_load : Room := { frames := 4, cells := 0, slots := 0, locals := 93 }
def yB_readLengths : MethodName := ⟨nRB, "readLengths", "(LLacedSound$Hand;)V"⟩
abbrev kB_readLengths : ByteArray := prog_2_method_3_code
abbrev rmB_readLengths : Room := { frames := 2, cells := 0, slots := 0, locals := 44 }
def yB_readOrderedLengths : MethodName := ⟨nRB, "readOrderedLengths", "(LLacedSound$Hand;)Z"⟩
abbrev kB_readOrderedLengths : ByteArray := prog_2_method_4_code
abbrev rmB_readOrderedLengths : Room := { frames := 1, cells := 0, slots := 0, locals := 24 }
def yB_binaryDigits : MethodName := ⟨nRB, "binaryDigits", "(I)I"⟩
abbrev kB_binaryDigits : ByteArray := prog_2_method_5_code
abbrev rmB_binaryDigits : Room := { frames := 0, cells := 0, slots := 0, locals := 0 }
def yB_readVectors : MethodName := ⟨nRB, "readVectors", "(LLacedSound$Hand;)Z"⟩
abbrev kB_readVectors : ByteArray := prog_2_method_6_code
abbrev rmB_readVectors : Room := { frames := 2, cells := 0, slots := 0, locals := 44 }
def yB_rootOfEntries : MethodName := ⟨nRB, "rootOfEntries", "()I"⟩
abbrev kB_rootOfEntries : ByteArray := prog_2_method_7_code
abbrev rmB_rootOfEntries : Room := { frames := 0, cells := 0, slots := 0, locals := 0 }
def yB_giveCodewords : MethodName := ⟨nRB, "giveCodewords", "()Z"⟩
abbrev kB_giveCodewords : ByteArray := prog_2_method_8_code
abbrev rmB_giveCodewords : Room := { frames := 3, cells := 0, slots := 0, locals := 70 }
def yB_leastFree : MethodName := ⟨nRB, "leastFree", "(I)I"⟩
abbrev kB_leastFree : ByteArray := prog_2_method_9_code
abbrev rmB_leastFree : Room := { frames := 2, cells := 0, slots := 0, locals := 47 }
def yB_isFree : MethodName := ⟨nRB, "isFree", "(II)Z"⟩
abbrev kB_isFree : ByteArray := prog_2_method_10_code
abbrev rmB_isFree : Room := { frames := 1, cells := 0, slots := 0, locals := 21 }
def yB_readEntry : MethodName := ⟨nRB, "readEntry", "(LLacedSound$Hand;)I"⟩
abbrev kB_readEntry : ByteArray := prog_2_method_11_code
abbrev rmB_readEntry : Room := { frames := 1, cells := 0, slots := 0, locals := 24 }
def yC_init : MethodName := ⟨nRC, "<init>", "()V"⟩
abbrev kC_init : ByteArray := prog_3_method_1_code
abbrev rmC_init : Room := { frames := 1, cells := 0, slots := 0, locals := 20 }
def yC_load : MethodName := ⟨nRC, "load", "(LLacedSound$Hand;I)Z"⟩
abbrev kC_load : ByteArray := prog_3_method_2_code
abbrev rmC_load : Room := { frames := 3, cells := 0, slots := 0, locals := 69 }
def yC_loadClass : MethodName := ⟨nRC, "loadClass", "(LLacedSound$Hand;II)Z"⟩
abbrev kC_loadClass : ByteArray := prog_3_method_3_code
abbrev rmC_loadClass : Room := { frames := 2, cells := 0, slots := 0, locals := 44 }
def yC_loadPoints : MethodName := ⟨nRC, "loadPoints", "(LLacedSound$Hand;)Z"⟩
abbrev kC_loadPoints : ByteArray := prog_3_method_4_code
abbrev rmC_loadPoints : Room := { frames := 1, cells := 0, slots := 0, locals := 24 }
def yC_isTaken : MethodName := ⟨nRC, "isTaken", "(I)Z"⟩
abbrev kC_isTaken : ByteArray := prog_3_method_5_code
abbrev rmC_isTaken : Room := { frames := 0, cells := 0, slots := 0, locals := 0 }
def yC_decode : MethodName := ⟨nRC, "decode", "(LLacedSound$Hand;[LLacedSound$Book;[II)Z"⟩
abbrev kC_decode : ByteArray := prog_3_method_6_code
abbrev rmC_decode : Room := { frames := 3, cells := 0, slots := 0, locals := 77 }
def yC_readNumbers : MethodName := ⟨nRC, "readNumbers", "(LLacedSound$Hand;[LLacedSound$Book;)Z"⟩
abbrev kC_readNumbers : ByteArray := prog_3_method_7_code
abbrev rmC_readNumbers : Room := { frames := 2, cells := 0, slots := 0, locals := 49 }
def yC_raise : MethodName := ⟨nRC, "raise", "()V"⟩
abbrev kC_raise : ByteArray := prog_3_method_8_code
abbrev rmC_raise : Room := { frames := 2, cells := 0, slots := 0, locals := 49 }
def yC_heightOf : MethodName := ⟨nRC, "heightOf", "(II)I"⟩
abbrev kC_heightOf : ByteArray := prog_3_method_9_code
abbrev rmC_heightOf : Room := { frames := 1, cells := 0, slots := 0, locals := 21 }
def yC_heightBetween : MethodName := ⟨nRC, "heightBetween", "(IIII)I"⟩
abbrev kC_heightBetween : ByteArray := prog_3_method_10_code
abbrev rmC_heightBetween : Room := { frames := 1, cells := 0, slots := 0, locals := 21 }
def yC_draw : MethodName := ⟨nRC, "draw", "([II)V"⟩
abbrev kC_draw : ByteArray := prog_3_method_11_code
abbrev rmC_draw : Room := { frames := 2, cells := 0, slots := 0, locals := 49 }
def yD_init : MethodName := ⟨nRD, "<init>", "(LLacedSound$Hand;)V"⟩
abbrev kD_init : ByteArray := prog_4_method_1_code
abbrev rmD_init : Room := { frames := 2, cells := 0, slots := 0, locals := 40 }
def yD_codewordOf : MethodName := ⟨nRD, "codewordOf", "(II)I"⟩
abbrev kD_codewordOf : ByteArray := prog_4_method_2_code
abbrev rmD_codewordOf : Room := { frames := 0, cells := 0, slots := 0, locals := 0 }
def yD_hasPlace : MethodName := ⟨nRD, "hasPlace", "(II)Z"⟩
abbrev kD_hasPlace : ByteArray := prog_4_method_3_code
abbrev rmD_hasPlace : Room := { frames := 0, cells := 0, slots := 0, locals := 0 }
def yD_decode : MethodName := ⟨nRD, "decode", "()I"⟩
abbrev kD_decode : ByteArray := prog_4_method_4_code
abbrev rmD_decode : Room := { frames := 6, cells := 0, slots := 0, locals := 140 }
def yD_decodeFormat : MethodName := ⟨nRD, "decodeFormat", "()Z"⟩
abbrev kD_decodeFormat : ByteArray := prog_4_method_5_code
abbrev rmD_decodeFormat : Room := { frames := 1, cells := 0, slots := 0, locals := 24 }
def yD_decodeBook : MethodName := ⟨nRD, "decodeBook", "()Z"⟩
abbrev kD_decodeBook : ByteArray := prog_4_method_6_code
abbrev rmD_decodeBook : Room := { frames := 5, cells := 0, slots := 0, locals := 115 }
def yD_decodeSetup : MethodName := ⟨nRD, "decodeSetup", "()Z"⟩
abbrev kD_decodeSetup : ByteArray := prog_4_method_7_code
abbrev rmD_decodeSetup : Room := { frames := 4, cells := 0, slots := 0, locals := 93 }
def yD_decodeSound : MethodName := ⟨nRD, "decodeSound", "()Z"⟩
abbrev kD_decodeSound : ByteArray := prog_4_method_8_code
abbrev rmD_decodeSound : Room := { frames := 4, cells := 0, slots := 0, locals := 114 }
def yD_unjoin : MethodName := ⟨nRD, "unjoin", "(I)V"⟩
abbrev kD_unjoin : ByteArray := prog_4_method_9_code
abbrev rmD_unjoin : Room := { frames := 0, cells := 0, slots := 0, locals := 0 }
def yD_countSamples : MethodName := ⟨nRD, "countSamples", "(I)V"⟩
abbrev kD_countSamples : ByteArray := prog_4_method_10_code
abbrev rmD_countSamples : Room := { frames := 0, cells := 0, slots := 0, locals := 0 }
def yE_init : MethodName := ⟨nRE, "<init>", "()V"⟩
abbrev kE_init : ByteArray := prog_5_method_1_code
abbrev rmE_init : Room := { frames := 2, cells := 0, slots := 0, locals := 40 }
def yE_set : MethodName := ⟨nRE, "set", "(III)V"⟩
abbrev kE_set : ByteArray := prog_5_method_2_code
abbrev rmE_set : Room := { frames := 0, cells := 0, slots := 0, locals := 0 }
def yH_init : MethodName := ⟨nRH, "<init>", "()V"⟩
abbrev kH_init : ByteArray := prog_6_method_1_code
abbrev rmH_init : Room := { frames := 1, cells := 0, slots := 0, locals := 20 }
def yH_load : MethodName := ⟨nRH, "load", "(LLacedSound$Wire;LLacedSound$Event;)V"⟩
abbrev kH_load : ByteArray := prog_6_method_2_code
abbrev rmH_load : Room := { frames := 1, cells := 0, slots := 0, locals := 21 }
def yH_at : MethodName := ⟨nRH, "at", "(I)I"⟩
abbrev kH_at : ByteArray := prog_6_method_3_code
abbrev rmH_at : Room := { frames := 0, cells := 0, slots := 0, locals := 0 }
def yH_rewind : MethodName := ⟨nRH, "rewind", "()V"⟩
abbrev kH_rewind : ByteArray := prog_6_method_4_code
abbrev rmH_rewind : Room := { frames := 0, cells := 0, slots := 0, locals := 0 }
def yH_read : MethodName := ⟨nRH, "read", "(I)I"⟩
abbrev kH_read : ByteArray := prog_6_method_5_code
abbrev rmH_read : Room := { frames := 0, cells := 0, slots := 0, locals := 0 }
def yH_readFlag : MethodName := ⟨nRH, "readFlag", "()Z"⟩
abbrev kH_readFlag : ByteArray := prog_6_method_6_code
abbrev rmH_readFlag : Room := { frames := 1, cells := 0, slots := 0, locals := 24 }
def yI_init : MethodName := ⟨nRI, "<init>", "()V"⟩
abbrev kI_init : ByteArray := prog_7_method_1_code
abbrev rmI_init : Room := { frames := 2, cells := 0, slots := 0, locals := 40 }
def yI_begin : MethodName := ⟨nRI, "begin", "(I)V"⟩
abbrev kI_begin : ByteArray := prog_7_method_2_code
abbrev rmI_begin : Room := { frames := 1, cells := 0, slots := 0, locals := 20 }
def yO_init : MethodName := ⟨nRO, "<init>", "(I)V"⟩
abbrev kO_init : ByteArray := prog_8_method_1_code
abbrev rmO_init : Room := { frames := 1, cells := 0, slots := 0, locals := 20 }
def yO_post : MethodName := ⟨nRO, "post", "(LLacedSound$Wire;[III)I"⟩
abbrev kO_post : ByteArray := prog_8_method_2_code
abbrev rmO_post : Room := { frames := 4, cells := 0, slots := 0, locals := 99 }
def yO_empty : MethodName := ⟨nRO, "empty", "(LLacedSound$Wire;Z)I"⟩
abbrev kO_empty : ByteArray := prog_8_method_3_code
abbrev rmO_empty : Room := { frames := 4, cells := 0, slots := 0, locals := 99 }
def yO_layOut : MethodName := ⟨nRO, "layOut", "([III)V"⟩
abbrev kO_layOut : ByteArray := prog_8_method_4_code
abbrev rmO_layOut : Room := { frames := 1, cells := 0, slots := 0, locals := 48 }
def yO_pageSize : MethodName := ⟨nRO, "pageSize", "(I)I"⟩
abbrev kO_pageSize : ByteArray := prog_8_method_5_code
abbrev rmO_pageSize : Room := { frames := 0, cells := 0, slots := 0, locals := 0 }
def yO_putOut : MethodName := ⟨nRO, "putOut", "(LLacedSound$Wire;IZ)V"⟩
abbrev kO_putOut : ByteArray := prog_8_method_6_code
abbrev rmO_putOut : Room := { frames := 3, cells := 0, slots := 0, locals := 72 }
def yO_flagsOf : MethodName := ⟨nRO, "flagsOf", "(IZ)I"⟩
abbrev kO_flagsOf : ByteArray := prog_8_method_7_code
abbrev rmO_flagsOf : Room := { frames := 0, cells := 0, slots := 0, locals := 0 }
def yO_timeOf : MethodName := ⟨nRO, "timeOf", "(I)I"⟩
abbrev kO_timeOf : ByteArray := prog_8_method_8_code
abbrev rmO_timeOf : Room := { frames := 0, cells := 0, slots := 0, locals := 0 }
def yO_forget : MethodName := ⟨nRO, "forget", "(I)V"⟩
abbrev kO_forget : ByteArray := prog_8_method_9_code
abbrev rmO_forget : Room := { frames := 1, cells := 0, slots := 0, locals := 48 }
def yK_init : MethodName := ⟨nRK, "<init>", "()V"⟩
abbrev kK_init : ByteArray := prog_9_method_1_code
abbrev rmK_init : Room := { frames := 1, cells := 0, slots := 0, locals := 20 }
def yK_clear : MethodName := ⟨nRK, "clear", "()V"⟩
abbrev kK_clear : ByteArray := prog_9_method_2_code
abbrev rmK_clear : Room := { frames := 0, cells := 0, slots := 0, locals := 0 }
def yK_extend : MethodName := ⟨nRK, "extend", "(II)V"⟩
abbrev kK_extend : ByteArray := prog_9_method_3_code
abbrev rmK_extend : Room := { frames := 0, cells := 0, slots := 0, locals := 0 }
def yK_become : MethodName := ⟨nRK, "become", "(LLacedSound$Packet;)V"⟩
abbrev kK_become : ByteArray := prog_9_method_4_code
abbrev rmK_become : Room := { frames := 1, cells := 0, slots := 0, locals := 48 }
def yR_init : MethodName := ⟨nRR, "<init>", "(LLacedSound$Wire;LLacedSound$Hand;)V"⟩
abbrev kR_init : ByteArray := prog_10_method_1_code
abbrev rmR_init : Room := { frames := 3, cells := 0, slots := 0, locals := 60 }
def yR_advance : MethodName := ⟨nRR, "advance", "()I"⟩
abbrev kR_advance : ByteArray := prog_10_method_2_code
abbrev rmR_advance : Room := { frames := 5, cells := 0, slots := 0, locals := 147 }
def yR_give : MethodName := ⟨nRR, "give", "()I"⟩
abbrev kR_give : ByteArray := prog_10_method_3_code
abbrev rmR_give : Room := { frames := 2, cells := 0, slots := 0, locals := 45 }
def yR_skip : MethodName := ⟨nRR, "skip", "()I"⟩
abbrev kR_skip : ByteArray := prog_10_method_4_code
abbrev rmR_skip : Room := { frames := 3, cells := 0, slots := 0, locals := 74 }
def yR_readPage : MethodName := ⟨nRR, "readPage", "(I)V"⟩
abbrev kR_readPage : ByteArray := prog_10_method_5_code
abbrev rmR_readPage : Room := { frames := 4, cells := 0, slots := 0, locals := 122 }
def yR_inboxOf : MethodName := ⟨nRR, "inboxOf", "(I)LLacedSound$Inbox;"⟩
abbrev kR_inboxOf : ByteArray := prog_10_method_6_code
abbrev rmR_inboxOf : Room := { frames := 0, cells := 0, slots := 0, locals := 0 }
def yR_enter : MethodName := ⟨nRR, "enter", "(LLacedSound$Inbox;III)V"⟩
abbrev kR_enter : ByteArray := prog_10_method_7_code
abbrev rmR_enter : Room := { frames := 2, cells := 0, slots := 0, locals := 47 }
def yR_takeSegments : MethodName := ⟨nRR, "takeSegments", "(LLacedSound$Inbox;II)V"⟩
abbrev kR_takeSegments : ByteArray := prog_10_method_8_code
abbrev rmR_takeSegments : Room := { frames := 3, cells := 0, slots := 0, locals := 93 }
def yR_afterFirstEnd : MethodName := ⟨nRR, "afterFirstEnd", "(II)I"⟩
abbrev kR_afterFirstEnd : ByteArray := prog_10_method_9_code
abbrev rmR_afterFirstEnd : Room := { frames := 1, cells := 0, slots := 0, locals := 21 }
def yR_lastEndOf : MethodName := ⟨nRR, "lastEndOf", "(II)I"⟩
abbrev kR_lastEndOf : ByteArray := prog_10_method_10_code
abbrev rmR_lastEndOf : Room := { frames := 1, cells := 0, slots := 0, locals := 21 }
def yR_finish : MethodName := ⟨nRR, "finish", "(LLacedSound$Inbox;I)V"⟩
abbrev kR_finish : ByteArray := prog_10_method_11_code
abbrev rmR_finish : Room := { frames := 2, cells := 0, slots := 0, locals := 69 }
def yR_makeEvent : MethodName := ⟨nRR, "makeEvent", "(III)LLacedSound$Event;"⟩
abbrev kR_makeEvent : ByteArray := prog_10_method_12_code
abbrev rmR_makeEvent : Room := { frames := 1, cells := 0, slots := 0, locals := 23 }
def yR_drop : MethodName := ⟨nRR, "drop", "(LLacedSound$Inbox;)V"⟩
abbrev kR_drop : ByteArray := prog_10_method_13_code
abbrev rmR_drop : Room := { frames := 1, cells := 0, slots := 0, locals := 20 }
def yP_init : MethodName := ⟨nRP, "<init>", "()V"⟩
abbrev kP_init : ByteArray := prog_11_method_1_code
abbrev rmP_init : Room := { frames := 1, cells := 0, slots := 0, locals := 20 }
def yP_load : MethodName := ⟨nRP, "load", "(LLacedSound$Hand;[LLacedSound$Book;II)Z"⟩
abbrev kP_load : ByteArray := prog_11_method_2_code
abbrev rmP_load : Room := { frames := 2, cells := 0, slots := 0, locals := 44 }
def yP_suits : MethodName := ⟨nRP, "suits", "(LLacedSound$Book;)Z"⟩
abbrev kP_suits : ByteArray := prog_11_method_3_code
abbrev rmP_suits : Room := { frames := 0, cells := 0, slots := 0, locals := 0 }
def yP_decode : MethodName := ⟨nRP, "decode", "(LLacedSound$Hand;[LLacedSound$Book;I[[II)V"⟩
abbrev kP_decode : ByteArray := prog_11_method_4_code
abbrev rmP_decode : Room := { frames := 3, cells := 0, slots := 0, locals := 82 }
def yP_chooseRows : MethodName := ⟨nRP, "chooseRows", "(I)V"⟩
abbrev kP_chooseRows : ByteArray := prog_11_method_5_code
abbrev rmP_chooseRows : Room := { frames := 0, cells := 0, slots := 0, locals := 0 }
def yP_readKinds : MethodName := ⟨nRP, "readKinds", "(LLacedSound$Hand;LLacedSound$Book;I)V"⟩
abbrev kP_readKinds : ByteArray := prog_11_method_6_code
abbrev rmP_readKinds : Room := { frames := 2, cells := 0, slots := 0, locals := 49 }
def yP_addPart : MethodName := ⟨nRP, "addPart", "(LLacedSound$Hand;LLacedSound$Book;II[[I)V"⟩
abbrev kP_addPart : ByteArray := prog_11_method_7_code
abbrev rmP_addPart : Room := { frames := 2, cells := 0, slots := 0, locals := 49 }
def yW_init : MethodName := ⟨nRW, "<init>", "()V"⟩
abbrev kW_init : ByteArray := prog_12_method_1_code
abbrev rmW_init : Room := { frames := 1, cells := 0, slots := 0, locals := 20 }
def yW_hasRoom : MethodName := ⟨nRW, "hasRoom", "(I)Z"⟩
abbrev kW_hasRoom : ByteArray := prog_12_method_2_code
abbrev rmW_hasRoom : Room := { frames := 0, cells := 0, slots := 0, locals := 0 }
def yW_append : MethodName := ⟨nRW, "append", "(I)V"⟩
abbrev kW_append : ByteArray := prog_12_method_3_code
abbrev rmW_append : Room := { frames := 0, cells := 0, slots := 0, locals := 0 }
def yW_at : MethodName := ⟨nRW, "at", "(I)I"⟩
abbrev kW_at : ByteArray := prog_12_method_4_code
abbrev rmW_at : Room := { frames := 0, cells := 0, slots := 0, locals := 0 }
def yW_change : MethodName := ⟨nRW, "change", "(II)Z"⟩
abbrev kW_change : ByteArray := prog_12_method_5_code
abbrev rmW_change : Room := { frames := 0, cells := 0, slots := 0, locals := 0 }
def yW_takeOut : MethodName := ⟨nRW, "takeOut", "(II)Z"⟩
abbrev kW_takeOut : ByteArray := prog_12_method_6_code
abbrev rmW_takeOut : Room := { frames := 1, cells := 0, slots := 0, locals := 48 }
def yW_pageAt : MethodName := ⟨nRW, "pageAt", "(I)I"⟩
abbrev kW_pageAt : ByteArray := prog_12_method_7_code
abbrev rmW_pageAt : Room := { frames := 2, cells := 0, slots := 0, locals := 49 }
def yW_canBeHead : MethodName := ⟨nRW, "canBeHead", "(I)Z"⟩
abbrev kW_canBeHead : ByteArray := prog_12_method_8_code
abbrev rmW_canBeHead : Room := { frames := 1, cells := 0, slots := 0, locals := 21 }
def yW_checkAt : MethodName := ⟨nRW, "checkAt", "(I)I"⟩
abbrev kW_checkAt : ByteArray := prog_12_method_9_code
abbrev rmW_checkAt : Room := { frames := 1, cells := 0, slots := 0, locals := 21 }
def yW_checkOf : MethodName := ⟨nRW, "checkOf", "(II)I"⟩
abbrev kW_checkOf : ByteArray := prog_12_method_10_code
abbrev rmW_checkOf : Room := { frames := 1, cells := 0, slots := 0, locals := 21 }
def yW_seal : MethodName := ⟨nRW, "seal", "(I)V"⟩
abbrev kW_seal : ByteArray := prog_12_method_11_code
abbrev rmW_seal : Room := { frames := 2, cells := 0, slots := 0, locals := 49 }
def yA_fill : MethodName := ⟨nRA, "fill", "([II)V"⟩
abbrev kA_fill : ByteArray := prog_17_method_103_code
abbrev rmA_fill : Room := { frames := 0, cells := 0, slots := 0, locals := 0 }
