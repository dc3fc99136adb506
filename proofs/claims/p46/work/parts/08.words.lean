/-! The words of the tables, by their places. -/
noncomputable def zTk (k : Nat) : List Cond := match k with
  | 1 => tables_1_1
  | 2 => tables_1_2
  | 3 => tables_1_3
  | 4 => tables_1_4
  | 5 => tables_1_5
  | 6 => tables_1_6
  | 7 => tables_1_7
  | 8 => tables_1_8
  | 20 => k2_sels lw_privs
  | _ => []
noncomputable def zin (w : Cond) (p : Nat) : Bool := decide ((zTk (p / 1000))[p % 1000]? = some w) && goodWord w
noncomputable def zcn (o : Nat) : String :=
 (bif Nat.blt o 12 then (bif Nat.blt o 6 then (bif Nat.blt o 3 then (bif Nat.blt o 1 then (bif Nat.beq o 0 then "BackwardProofs$Duties" else "") else
    (bif Nat.blt o 2 then (bif Nat.beq o 1 then "BackwardProofs$Formula" else "") else
     (bif Nat.beq o 2 then "BackwardProofs$History" else ""))) else
   (bif Nat.blt o 4 then (bif Nat.beq o 3 then "BackwardProofs$Parser" else "") else
    (bif Nat.blt o 5 then (bif Nat.beq o 4 then "BackwardProofs$Program" else "") else
     (bif Nat.beq o 5 then "BackwardProofs$Runs" else "")))) else
  (bif Nat.blt o 9 then (bif Nat.blt o 7 then (bif Nat.beq o 6 then "BackwardProofs$Scanner" else "") else
    (bif Nat.blt o 8 then (bif Nat.beq o 7 then "BackwardProofs$Sets" else "") else
     (bif Nat.beq o 8 then "BackwardProofs$Sheet" else ""))) else
   (bif Nat.blt o 10 then (bif Nat.beq o 9 then "BackwardProofs$Version" else "") else
    (bif Nat.blt o 11 then (bif Nat.beq o 10 then "BackwardProofs$Words" else "") else
     (bif Nat.beq o 11 then "BackwardProofs" else ""))))) else
 (bif Nat.blt o 18 then (bif Nat.blt o 15 then (bif Nat.blt o 13 then (bif Nat.beq o 12 then "java/lang/StringBuilder" else "") else
    (bif Nat.blt o 14 then (bif Nat.beq o 13 then "BackwardProofsLaw" else "") else
     (bif Nat.beq o 14 then "java/lang/Math" else ""))) else
   (bif Nat.blt o 16 then (bif Nat.beq o 15 then "java/lang/Long" else "") else
    (bif Nat.blt o 17 then (bif Nat.beq o 16 then "java/util/Arrays" else "") else
     (bif Nat.beq o 17 then "java/lang/Float" else "")))) else
  (bif Nat.blt o 21 then (bif Nat.blt o 19 then (bif Nat.beq o 18 then "java/lang/Double" else "") else
    (bif Nat.blt o 20 then (bif Nat.beq o 19 then "java/lang/AbstractStringBuilder" else "") else
     (bif Nat.beq o 20 then "java/lang/String" else ""))) else
   (bif Nat.blt o 22 then (bif Nat.beq o 21 then "java/lang/Integer" else "") else
    (bif Nat.blt o 23 then (bif Nat.beq o 22 then "jdk/internal/util/ArraysSupport" else "") else
     (bif Nat.beq o 23 then "java/lang/StringLatin1" else ""))))))
noncomputable def zvn (c : Nat) : String :=
 (bif Nat.blt c 6 then (bif Nat.blt c 3 then (bif Nat.blt c 1 then (bif Nat.beq c 0 then "BackwardProofs$Duties" else "") else
   (bif Nat.blt c 2 then (bif Nat.beq c 1 then "BackwardProofs$Formula" else "") else
    (bif Nat.beq c 2 then "BackwardProofs$History" else ""))) else
  (bif Nat.blt c 4 then (bif Nat.beq c 3 then "BackwardProofs$Parser" else "") else
   (bif Nat.blt c 5 then (bif Nat.beq c 4 then "BackwardProofs$Program" else "") else
    (bif Nat.beq c 5 then "BackwardProofs$Runs" else "")))) else
 (bif Nat.blt c 9 then (bif Nat.blt c 7 then (bif Nat.beq c 6 then "BackwardProofs$Scanner" else "") else
   (bif Nat.blt c 8 then (bif Nat.beq c 7 then "BackwardProofs$Sets" else "") else
    (bif Nat.beq c 8 then "BackwardProofs$Sheet" else ""))) else
  (bif Nat.blt c 11 then (bif Nat.blt c 10 then (bif Nat.beq c 9 then "BackwardProofs$Version" else "") else
    (bif Nat.beq c 10 then "BackwardProofs" else "")) else
   (bif Nat.blt c 12 then (bif Nat.beq c 11 then "java/lang/StringBuilder" else "") else
    (bif Nat.beq c 12 then "java/lang/String" else "")))))
noncomputable def zT_0 : u_T := fun k =>
 (bif Nat.blt k 2 then (bif Nat.blt k 1 then (bif Nat.beq k 0 then ("BackwardProofs$Duties", "sets", "LBackwardProofs$Sets;", true) else ("", "", "", false)) else
  (bif Nat.beq k 1 then ("BackwardProofs$Duties", "runs", "LBackwardProofs$Runs;", true) else ("", "", "", false))) else
 (bif Nat.blt k 3 then (bif Nat.beq k 2 then ("BackwardProofs$Duties", "program", "LBackwardProofs$Program;", false) else ("", "", "", false)) else
  (bif Nat.blt k 4 then (bif Nat.beq k 3 then ("BackwardProofs$Duties", "needs", "[J", true) else ("", "", "", false)) else
   (bif Nat.beq k 4 then ("BackwardProofs$Duties", "fails", "[J", true) else ("", "", "", false)))))
noncomputable def zT_1 : u_T := fun k =>
 (bif Nat.beq k 0 then ("BackwardProofs$Formula", "nodes", "[B", true) else ("", "", "", false))
noncomputable def zT_2 : u_T := fun k =>
 (bif Nat.blt k 2 then (bif Nat.blt k 1 then (bif Nat.beq k 0 then ("BackwardProofs$History", "count", "I", false) else ("", "", "", false)) else
  (bif Nat.beq k 1 then ("BackwardProofs$History", "newest", "I", false) else ("", "", "", false))) else
 (bif Nat.blt k 3 then (bif Nat.beq k 2 then ("BackwardProofs$History", "past", "[LBackwardProofs$Version;", true) else ("", "", "", false)) else
  (bif Nat.blt k 4 then (bif Nat.beq k 3 then ("BackwardProofs$History", "slots", "[LBackwardProofs$Version;", true) else ("", "", "", false)) else
   (bif Nat.beq k 4 then ("BackwardProofs$History", "held", "[Z", true) else ("", "", "", false)))))
noncomputable def zT_3 : u_T := fun k =>
 (bif Nat.blt k 4 then (bif Nat.blt k 2 then (bif Nat.blt k 1 then (bif Nat.beq k 0 then ("BackwardProofs$Parser", "errorCode", "I", false) else ("", "", "", false)) else
   (bif Nat.beq k 1 then ("BackwardProofs$Parser", "errorPosition", "I", false) else ("", "", "", false))) else
  (bif Nat.blt k 3 then (bif Nat.beq k 2 then ("BackwardProofs$Parser", "scanner", "LBackwardProofs$Scanner;", true) else ("", "", "", false)) else
   (bif Nat.beq k 3 then ("BackwardProofs$Parser", "nodes", "[B", true) else ("", "", "", false)))) else
 (bif Nat.blt k 6 then (bif Nat.blt k 5 then (bif Nat.beq k 4 then ("BackwardProofs$Parser", "program", "LBackwardProofs$Program;", false) else ("", "", "", false)) else
   (bif Nat.beq k 5 then ("BackwardProofs$Parser", "version", "LBackwardProofs$Version;", false) else ("", "", "", false))) else
  (bif Nat.blt k 7 then (bif Nat.beq k 6 then ("BackwardProofs$Parser", "open", "I", false) else ("", "", "", false)) else
   (bif Nat.beq k 7 then ("BackwardProofs$Parser", "inSecond", "Z", false) else ("", "", "", false)))))
noncomputable def zT_4 : u_T := fun k =>
 (bif Nat.blt k 7 then (bif Nat.blt k 3 then (bif Nat.blt k 1 then (bif Nat.beq k 0 then ("BackwardProofs$Program", "count", "I", false) else ("", "", "", false)) else
   (bif Nat.blt k 2 then (bif Nat.beq k 1 then ("BackwardProofs$Program", "loops", "I", false) else ("", "", "", false)) else
    (bif Nat.beq k 2 then ("BackwardProofs$Program", "holes", "I", false) else ("", "", "", false)))) else
  (bif Nat.blt k 5 then (bif Nat.blt k 4 then (bif Nat.beq k 3 then ("BackwardProofs$Program", "kind", "[I", true) else ("", "", "", false)) else
    (bif Nat.beq k 4 then ("BackwardProofs$Program", "variable", "[I", true) else ("", "", "", false))) else
   (bif Nat.blt k 6 then (bif Nat.beq k 5 then ("BackwardProofs$Program", "parent", "[I", true) else ("", "", "", false)) else
    (bif Nat.beq k 6 then ("BackwardProofs$Program", "number", "[I", true) else ("", "", "", false))))) else
 (bif Nat.blt k 10 then (bif Nat.blt k 8 then (bif Nat.beq k 7 then ("BackwardProofs$Program", "next", "[I", true) else ("", "", "", false)) else
   (bif Nat.blt k 9 then (bif Nat.beq k 8 then ("BackwardProofs$Program", "first", "[I", true) else ("", "", "", false)) else
    (bif Nat.beq k 9 then ("BackwardProofs$Program", "second", "[I", true) else ("", "", "", false)))) else
  (bif Nat.blt k 12 then (bif Nat.blt k 11 then (bif Nat.beq k 10 then ("BackwardProofs$Program", "then", "[I", true) else ("", "", "", false)) else
    (bif Nat.beq k 11 then ("BackwardProofs$Program", "loopAt", "[I", true) else ("", "", "", false))) else
   (bif Nat.blt k 13 then (bif Nat.beq k 12 then ("BackwardProofs$Program", "part", "[LBackwardProofs$Formula;", true) else ("", "", "", false)) else
    (bif Nat.beq k 13 then ("BackwardProofs$Program", "none", "LBackwardProofs$Formula;", true) else ("", "", "", false))))))
noncomputable def zT_5 : u_T := fun k =>
 (bif Nat.blt k 5 then (bif Nat.blt k 2 then (bif Nat.blt k 1 then (bif Nat.beq k 0 then ("BackwardProofs$Runs", "sets", "LBackwardProofs$Sets;", true) else ("", "", "", false)) else
   (bif Nat.beq k 1 then ("BackwardProofs$Runs", "program", "LBackwardProofs$Program;", false) else ("", "", "", false))) else
  (bif Nat.blt k 3 then (bif Nat.beq k 2 then ("BackwardProofs$Runs", "version", "LBackwardProofs$Version;", false) else ("", "", "", false)) else
   (bif Nat.blt k 4 then (bif Nat.beq k 3 then ("BackwardProofs$Runs", "ends", "[I", true) else ("", "", "", false)) else
    (bif Nat.beq k 4 then ("BackwardProofs$Runs", "jumps", "[I", true) else ("", "", "", false))))) else
 (bif Nat.blt k 7 then (bif Nat.blt k 6 then (bif Nat.beq k 5 then ("BackwardProofs$Runs", "seen", "[J", true) else ("", "", "", false)) else
   (bif Nat.beq k 6 then ("BackwardProofs$Runs", "stepsDone", "I", false) else ("", "", "", false))) else
  (bif Nat.blt k 8 then (bif Nat.beq k 7 then ("BackwardProofs$Runs", "costSoFar", "F", false) else ("", "", "", false)) else
   (bif Nat.blt k 9 then (bif Nat.beq k 8 then ("BackwardProofs$Runs", "roundsDone", "I", false) else ("", "", "", false)) else
    (bif Nat.beq k 9 then ("BackwardProofs$Runs", "mostRoundsDone", "I", false) else ("", "", "", false))))))
noncomputable def zT_6 : u_T := fun k =>
 (bif Nat.blt k 4 then (bif Nat.blt k 2 then (bif Nat.blt k 1 then (bif Nat.beq k 0 then ("BackwardProofs$Scanner", "token", "I", false) else ("", "", "", false)) else
   (bif Nat.beq k 1 then ("BackwardProofs$Scanner", "start", "I", false) else ("", "", "", false))) else
  (bif Nat.blt k 3 then (bif Nat.beq k 2 then ("BackwardProofs$Scanner", "text", "[B", true) else ("", "", "", false)) else
   (bif Nat.beq k 3 then ("BackwardProofs$Scanner", "length", "I", false) else ("", "", "", false)))) else
 (bif Nat.blt k 6 then (bif Nat.blt k 5 then (bif Nat.beq k 4 then ("BackwardProofs$Scanner", "end", "I", false) else ("", "", "", false)) else
   (bif Nat.beq k 5 then ("BackwardProofs$Scanner", "tokens", "[I", true) else ("", "", "", false))) else
  (bif Nat.blt k 7 then (bif Nat.beq k 6 then ("BackwardProofs$Scanner", "starts", "[I", true) else ("", "", "", false)) else
   (bif Nat.blt k 8 then (bif Nat.beq k 7 then ("BackwardProofs$Scanner", "count", "I", false) else ("", "", "", false)) else
    (bif Nat.beq k 8 then ("BackwardProofs$Scanner", "taken", "I", false) else ("", "", "", false))))))
noncomputable def zT_7 : u_T := fun k =>
 (bif Nat.blt k 8 then (bif Nat.blt k 4 then (bif Nat.blt k 2 then (bif Nat.blt k 1 then (bif Nat.beq k 0 then ("BackwardProofs$Sets", "before", "J", false) else ("", "", "", false)) else
    (bif Nat.beq k 1 then ("BackwardProofs$Sets", "after", "J", false) else ("", "", "", false))) else
   (bif Nat.blt k 3 then (bif Nat.beq k 2 then ("BackwardProofs$Sets", "keep", "[J", true) else ("", "", "", false)) else
    (bif Nat.beq k 3 then ("BackwardProofs$Sets", "lessLow", "[J", true) else ("", "", "", false)))) else
  (bif Nat.blt k 6 then (bif Nat.blt k 5 then (bif Nat.beq k 4 then ("BackwardProofs$Sets", "lessHigh", "[J", true) else ("", "", "", false)) else
    (bif Nat.beq k 5 then ("BackwardProofs$Sets", "valueLow", "[J", true) else ("", "", "", false))) else
   (bif Nat.blt k 7 then (bif Nat.beq k 6 then ("BackwardProofs$Sets", "valueHigh", "[J", true) else ("", "", "", false)) else
    (bif Nat.beq k 7 then ("BackwardProofs$Sets", "target", "[I", true) else ("", "", "", false))))) else
 (bif Nat.blt k 12 then (bif Nat.blt k 10 then (bif Nat.blt k 9 then (bif Nat.beq k 8 then ("BackwardProofs$Sets", "formula", "[LBackwardProofs$Formula;", true) else ("", "", "", false)) else
    (bif Nat.beq k 9 then ("BackwardProofs$Sets", "none", "LBackwardProofs$Formula;", true) else ("", "", "", false))) else
   (bif Nat.blt k 11 then (bif Nat.beq k 10 then ("BackwardProofs$Sets", "formulaOfForm", "[LBackwardProofs$Formula;", true) else ("", "", "", false)) else
    (bif Nat.beq k 11 then ("BackwardProofs$Sets", "low", "[J", true) else ("", "", "", false)))) else
  (bif Nat.blt k 14 then (bif Nat.blt k 13 then (bif Nat.beq k 12 then ("BackwardProofs$Sets", "high", "[J", true) else ("", "", "", false)) else
    (bif Nat.beq k 13 then ("BackwardProofs$Sets", "depth", "I", false) else ("", "", "", false))) else
   (bif Nat.blt k 15 then (bif Nat.beq k 14 then ("BackwardProofs$Sets", "program", "LBackwardProofs$Program;", false) else ("", "", "", false)) else
    (bif Nat.beq k 15 then ("BackwardProofs$Sets", "version", "LBackwardProofs$Version;", false) else ("", "", "", false))))))
noncomputable def zT_8 : u_T := fun k =>
 (bif Nat.blt k 2 then (bif Nat.blt k 1 then (bif Nat.beq k 0 then ("BackwardProofs$Sheet", "sets", "LBackwardProofs$Sets;", true) else ("", "", "", false)) else
  (bif Nat.beq k 1 then ("BackwardProofs$Sheet", "program", "LBackwardProofs$Program;", false) else ("", "", "", false))) else
 (bif Nat.blt k 3 then (bif Nat.beq k 2 then ("BackwardProofs$Sheet", "rows", "[[B", true) else ("", "", "", false)) else
  (bif Nat.beq k 3 then ("BackwardProofs$Sheet", "sizes", "[I", true) else ("", "", "", false))))
noncomputable def zT_9 : u_T := fun k =>
 (bif Nat.blt k 3 then (bif Nat.blt k 1 then (bif Nat.beq k 0 then ("BackwardProofs$Version", "before", "LBackwardProofs$Formula;", false) else ("", "", "", false)) else
  (bif Nat.blt k 2 then (bif Nat.beq k 1 then ("BackwardProofs$Version", "after", "LBackwardProofs$Formula;", false) else ("", "", "", false)) else
   (bif Nat.beq k 2 then ("BackwardProofs$Version", "none", "LBackwardProofs$Formula;", true) else ("", "", "", false)))) else
 (bif Nat.blt k 5 then (bif Nat.blt k 4 then (bif Nat.beq k 3 then ("BackwardProofs$Version", "keep", "[LBackwardProofs$Formula;", true) else ("", "", "", false)) else
   (bif Nat.beq k 4 then ("BackwardProofs$Version", "less", "[LBackwardProofs$Formula;", true) else ("", "", "", false))) else
  (bif Nat.blt k 6 then (bif Nat.beq k 5 then ("BackwardProofs$Version", "filling", "[I", true) else ("", "", "", false)) else
   (bif Nat.beq k 6 then ("BackwardProofs$Version", "price", "[I", true) else ("", "", "", false)))))
noncomputable def zT_10 : u_T := fun k =>
 (bif Nat.blt k 7 then (bif Nat.blt k 3 then (bif Nat.blt k 1 then (bif Nat.beq k 0 then ("BackwardProofs", "input", "[B", true) else ("", "", "", false)) else
   (bif Nat.blt k 2 then (bif Nat.beq k 1 then ("BackwardProofs", "inputLength", "I", false) else ("", "", "", false)) else
    (bif Nat.beq k 2 then ("BackwardProofs", "output", "[B", true) else ("", "", "", false)))) else
  (bif Nat.blt k 5 then (bif Nat.blt k 4 then (bif Nat.beq k 3 then ("BackwardProofs", "outputLength", "I", false) else ("", "", "", false)) else
    (bif Nat.beq k 4 then ("BackwardProofs", "errorCode", "I", false) else ("", "", "", false))) else
   (bif Nat.blt k 6 then (bif Nat.beq k 5 then ("BackwardProofs", "errorPosition", "I", false) else ("", "", "", false)) else
    (bif Nat.beq k 6 then ("BackwardProofs", "none", "LBackwardProofs$Formula;", true) else ("", "", "", false))))) else
 (bif Nat.blt k 11 then (bif Nat.blt k 9 then (bif Nat.blt k 8 then (bif Nat.beq k 7 then ("BackwardProofs", "parser", "LBackwardProofs$Parser;", true) else ("", "", "", false)) else
    (bif Nat.beq k 8 then ("BackwardProofs", "history", "LBackwardProofs$History;", true) else ("", "", "", false))) else
   (bif Nat.blt k 10 then (bif Nat.beq k 9 then ("BackwardProofs", "sets", "LBackwardProofs$Sets;", true) else ("", "", "", false)) else
    (bif Nat.beq k 10 then ("BackwardProofs", "runs", "LBackwardProofs$Runs;", true) else ("", "", "", false)))) else
  (bif Nat.blt k 13 then (bif Nat.blt k 12 then (bif Nat.beq k 11 then ("BackwardProofs", "duties", "LBackwardProofs$Duties;", true) else ("", "", "", false)) else
    (bif Nat.beq k 12 then ("BackwardProofs", "sheet", "LBackwardProofs$Sheet;", true) else ("", "", "", false))) else
   (bif Nat.blt k 14 then (bif Nat.beq k 13 then ("BackwardProofs", "program", "LBackwardProofs$Program;", false) else ("", "", "", false)) else
    (bif Nat.beq k 14 then ("BackwardProofs", "version", "LBackwardProofs$Version;", false) else ("", "", "", false))))))
noncomputable def zT_11 : u_T := fun k =>
 (bif Nat.blt k 2 then (bif Nat.blt k 1 then (bif Nat.beq k 0 then ("java/lang/AbstractStringBuilder", "value", "[B", false) else ("", "", "", false)) else
  (bif Nat.beq k 1 then ("java/lang/AbstractStringBuilder", "coder", "B", false) else ("", "", "", false))) else
 (bif Nat.blt k 3 then (bif Nat.beq k 2 then ("java/lang/AbstractStringBuilder", "maybeLatin1", "Z", false) else ("", "", "", false)) else
  (bif Nat.beq k 3 then ("java/lang/AbstractStringBuilder", "count", "I", false) else ("", "", "", false))))
noncomputable def zT_12 : u_T := fun k =>
 (bif Nat.blt k 2 then (bif Nat.blt k 1 then (bif Nat.beq k 0 then ("java/lang/String", "value", "[B", true) else ("", "", "", false)) else
  (bif Nat.beq k 1 then ("java/lang/String", "coder", "B", true) else ("", "", "", false))) else
 (bif Nat.blt k 3 then (bif Nat.beq k 2 then ("java/lang/String", "hash", "I", false) else ("", "", "", false)) else
  (bif Nat.beq k 3 then ("java/lang/String", "hashIsZero", "Z", false) else ("", "", "", false))))
noncomputable def zT (c : Nat) : u_T :=
 (bif Nat.blt c 6 then (bif Nat.blt c 3 then (bif Nat.blt c 1 then (bif Nat.beq c 0 then zT_0 else (fun _ => ("", "", "", false))) else
   (bif Nat.blt c 2 then (bif Nat.beq c 1 then zT_1 else (fun _ => ("", "", "", false))) else
    (bif Nat.beq c 2 then zT_2 else (fun _ => ("", "", "", false))))) else
  (bif Nat.blt c 4 then (bif Nat.beq c 3 then zT_3 else (fun _ => ("", "", "", false))) else
   (bif Nat.blt c 5 then (bif Nat.beq c 4 then zT_4 else (fun _ => ("", "", "", false))) else
    (bif Nat.beq c 5 then zT_5 else (fun _ => ("", "", "", false)))))) else
 (bif Nat.blt c 9 then (bif Nat.blt c 7 then (bif Nat.beq c 6 then zT_6 else (fun _ => ("", "", "", false))) else
   (bif Nat.blt c 8 then (bif Nat.beq c 7 then zT_7 else (fun _ => ("", "", "", false))) else
    (bif Nat.beq c 8 then zT_8 else (fun _ => ("", "", "", false))))) else
  (bif Nat.blt c 11 then (bif Nat.blt c 10 then (bif Nat.beq c 9 then zT_9 else (fun _ => ("", "", "", false))) else
    (bif Nat.beq c 10 then zT_10 else (fun _ => ("", "", "", false)))) else
   (bif Nat.blt c 12 then (bif Nat.beq c 11 then zT_11 else (fun _ => ("", "", "", false))) else
    (bif Nat.beq c 12 then zT_12 else (fun _ => ("", "", "", false)))))))
noncomputable def zFT (c k : Nat) : FieldType :=
 (bif Nat.blt c 6 then (bif Nat.blt c 3 then (bif Nat.blt c 1 then (bif Nat.beq c 0 then (bif Nat.blt k 2 then (bif Nat.blt k 1 then (bif Nat.beq k 0 then (.object "BackwardProofs$Sets") else .int) else
  (bif Nat.beq k 1 then (.object "BackwardProofs$Runs") else .int)) else
 (bif Nat.blt k 3 then (bif Nat.beq k 2 then (.object "BackwardProofs$Program") else .int) else
  (bif Nat.blt k 4 then (bif Nat.beq k 3 then (.array .long) else .int) else
   (bif Nat.beq k 4 then (.array .long) else .int)))) else .int) else
   (bif Nat.blt c 2 then (bif Nat.beq c 1 then (bif Nat.beq k 0 then (.array .byte) else .int) else .int) else
    (bif Nat.beq c 2 then (bif Nat.blt k 2 then (bif Nat.blt k 1 then (bif Nat.beq k 0 then .int else .int) else
  (bif Nat.beq k 1 then .int else .int)) else
 (bif Nat.blt k 3 then (bif Nat.beq k 2 then (.array (.object "BackwardProofs$Version")) else .int) else
  (bif Nat.blt k 4 then (bif Nat.beq k 3 then (.array (.object "BackwardProofs$Version")) else .int) else
   (bif Nat.beq k 4 then (.array .boolean) else .int)))) else .int))) else
  (bif Nat.blt c 4 then (bif Nat.beq c 3 then (bif Nat.blt k 4 then (bif Nat.blt k 2 then (bif Nat.blt k 1 then (bif Nat.beq k 0 then .int else .int) else
   (bif Nat.beq k 1 then .int else .int)) else
  (bif Nat.blt k 3 then (bif Nat.beq k 2 then (.object "BackwardProofs$Scanner") else .int) else
   (bif Nat.beq k 3 then (.array .byte) else .int))) else
 (bif Nat.blt k 6 then (bif Nat.blt k 5 then (bif Nat.beq k 4 then (.object "BackwardProofs$Program") else .int) else
   (bif Nat.beq k 5 then (.object "BackwardProofs$Version") else .int)) else
  (bif Nat.blt k 7 then (bif Nat.beq k 6 then .int else .int) else
   (bif Nat.beq k 7 then .boolean else .int)))) else .int) else
   (bif Nat.blt c 5 then (bif Nat.beq c 4 then (bif Nat.blt k 7 then (bif Nat.blt k 3 then (bif Nat.blt k 1 then (bif Nat.beq k 0 then .int else .int) else
   (bif Nat.blt k 2 then (bif Nat.beq k 1 then .int else .int) else
    (bif Nat.beq k 2 then .int else .int))) else
  (bif Nat.blt k 5 then (bif Nat.blt k 4 then (bif Nat.beq k 3 then (.array .int) else .int) else
    (bif Nat.beq k 4 then (.array .int) else .int)) else
   (bif Nat.blt k 6 then (bif Nat.beq k 5 then (.array .int) else .int) else
    (bif Nat.beq k 6 then (.array .int) else .int)))) else
 (bif Nat.blt k 10 then (bif Nat.blt k 8 then (bif Nat.beq k 7 then (.array .int) else .int) else
   (bif Nat.blt k 9 then (bif Nat.beq k 8 then (.array .int) else .int) else
    (bif Nat.beq k 9 then (.array .int) else .int))) else
  (bif Nat.blt k 12 then (bif Nat.blt k 11 then (bif Nat.beq k 10 then (.array .int) else .int) else
    (bif Nat.beq k 11 then (.array .int) else .int)) else
   (bif Nat.blt k 13 then (bif Nat.beq k 12 then (.array (.object "BackwardProofs$Formula")) else .int) else
    (bif Nat.beq k 13 then (.object "BackwardProofs$Formula") else .int))))) else .int) else
    (bif Nat.beq c 5 then (bif Nat.blt k 5 then (bif Nat.blt k 2 then (bif Nat.blt k 1 then (bif Nat.beq k 0 then (.object "BackwardProofs$Sets") else .int) else
   (bif Nat.beq k 1 then (.object "BackwardProofs$Program") else .int)) else
  (bif Nat.blt k 3 then (bif Nat.beq k 2 then (.object "BackwardProofs$Version") else .int) else
   (bif Nat.blt k 4 then (bif Nat.beq k 3 then (.array .int) else .int) else
    (bif Nat.beq k 4 then (.array .int) else .int)))) else
 (bif Nat.blt k 7 then (bif Nat.blt k 6 then (bif Nat.beq k 5 then (.array .long) else .int) else
   (bif Nat.beq k 6 then .int else .int)) else
  (bif Nat.blt k 8 then (bif Nat.beq k 7 then .float else .int) else
   (bif Nat.blt k 9 then (bif Nat.beq k 8 then .int else .int) else
    (bif Nat.beq k 9 then .int else .int))))) else .int)))) else
 (bif Nat.blt c 9 then (bif Nat.blt c 7 then (bif Nat.beq c 6 then (bif Nat.blt k 4 then (bif Nat.blt k 2 then (bif Nat.blt k 1 then (bif Nat.beq k 0 then .int else .int) else
   (bif Nat.beq k 1 then .int else .int)) else
  (bif Nat.blt k 3 then (bif Nat.beq k 2 then (.array .byte) else .int) else
   (bif Nat.beq k 3 then .int else .int))) else
 (bif Nat.blt k 6 then (bif Nat.blt k 5 then (bif Nat.beq k 4 then .int else .int) else
   (bif Nat.beq k 5 then (.array .int) else .int)) else
  (bif Nat.blt k 7 then (bif Nat.beq k 6 then (.array .int) else .int) else
   (bif Nat.blt k 8 then (bif Nat.beq k 7 then .int else .int) else
    (bif Nat.beq k 8 then .int else .int))))) else .int) else
   (bif Nat.blt c 8 then (bif Nat.beq c 7 then (bif Nat.blt k 8 then (bif Nat.blt k 4 then (bif Nat.blt k 2 then (bif Nat.blt k 1 then (bif Nat.beq k 0 then .long else .int) else
    (bif Nat.beq k 1 then .long else .int)) else
   (bif Nat.blt k 3 then (bif Nat.beq k 2 then (.array .long) else .int) else
    (bif Nat.beq k 3 then (.array .long) else .int))) else
  (bif Nat.blt k 6 then (bif Nat.blt k 5 then (bif Nat.beq k 4 then (.array .long) else .int) else
    (bif Nat.beq k 5 then (.array .long) else .int)) else
   (bif Nat.blt k 7 then (bif Nat.beq k 6 then (.array .long) else .int) else
    (bif Nat.beq k 7 then (.array .int) else .int)))) else
 (bif Nat.blt k 12 then (bif Nat.blt k 10 then (bif Nat.blt k 9 then (bif Nat.beq k 8 then (.array (.object "BackwardProofs$Formula")) else .int) else
    (bif Nat.beq k 9 then (.object "BackwardProofs$Formula") else .int)) else
   (bif Nat.blt k 11 then (bif Nat.beq k 10 then (.array (.object "BackwardProofs$Formula")) else .int) else
    (bif Nat.beq k 11 then (.array .long) else .int))) else
  (bif Nat.blt k 14 then (bif Nat.blt k 13 then (bif Nat.beq k 12 then (.array .long) else .int) else
    (bif Nat.beq k 13 then .int else .int)) else
   (bif Nat.blt k 15 then (bif Nat.beq k 14 then (.object "BackwardProofs$Program") else .int) else
    (bif Nat.beq k 15 then (.object "BackwardProofs$Version") else .int))))) else .int) else
    (bif Nat.beq c 8 then (bif Nat.blt k 2 then (bif Nat.blt k 1 then (bif Nat.beq k 0 then (.object "BackwardProofs$Sets") else .int) else
  (bif Nat.beq k 1 then (.object "BackwardProofs$Program") else .int)) else
 (bif Nat.blt k 3 then (bif Nat.beq k 2 then (.array (.array .byte)) else .int) else
  (bif Nat.beq k 3 then (.array .int) else .int))) else .int))) else
  (bif Nat.blt c 11 then (bif Nat.blt c 10 then (bif Nat.beq c 9 then (bif Nat.blt k 3 then (bif Nat.blt k 1 then (bif Nat.beq k 0 then (.object "BackwardProofs$Formula") else .int) else
  (bif Nat.blt k 2 then (bif Nat.beq k 1 then (.object "BackwardProofs$Formula") else .int) else
   (bif Nat.beq k 2 then (.object "BackwardProofs$Formula") else .int))) else
 (bif Nat.blt k 5 then (bif Nat.blt k 4 then (bif Nat.beq k 3 then (.array (.object "BackwardProofs$Formula")) else .int) else
   (bif Nat.beq k 4 then (.array (.object "BackwardProofs$Formula")) else .int)) else
  (bif Nat.blt k 6 then (bif Nat.beq k 5 then (.array .int) else .int) else
   (bif Nat.beq k 6 then (.array .int) else .int)))) else .int) else
    (bif Nat.beq c 10 then (bif Nat.blt k 7 then (bif Nat.blt k 3 then (bif Nat.blt k 1 then (bif Nat.beq k 0 then (.array .byte) else .int) else
   (bif Nat.blt k 2 then (bif Nat.beq k 1 then .int else .int) else
    (bif Nat.beq k 2 then (.array .byte) else .int))) else
  (bif Nat.blt k 5 then (bif Nat.blt k 4 then (bif Nat.beq k 3 then .int else .int) else
    (bif Nat.beq k 4 then .int else .int)) else
   (bif Nat.blt k 6 then (bif Nat.beq k 5 then .int else .int) else
    (bif Nat.beq k 6 then (.object "BackwardProofs$Formula") else .int)))) else
 (bif Nat.blt k 11 then (bif Nat.blt k 9 then (bif Nat.blt k 8 then (bif Nat.beq k 7 then (.object "BackwardProofs$Parser") else .int) else
    (bif Nat.beq k 8 then (.object "BackwardProofs$History") else .int)) else
   (bif Nat.blt k 10 then (bif Nat.beq k 9 then (.object "BackwardProofs$Sets") else .int) else
    (bif Nat.beq k 10 then (.object "BackwardProofs$Runs") else .int))) else
  (bif Nat.blt k 13 then (bif Nat.blt k 12 then (bif Nat.beq k 11 then (.object "BackwardProofs$Duties") else .int) else
    (bif Nat.beq k 12 then (.object "BackwardProofs$Sheet") else .int)) else
   (bif Nat.blt k 14 then (bif Nat.beq k 13 then (.object "BackwardProofs$Program") else .int) else
    (bif Nat.beq k 14 then (.object "BackwardProofs$Version") else .int))))) else .int)) else
   (bif Nat.blt c 12 then (bif Nat.beq c 11 then (bif Nat.blt k 2 then (bif Nat.blt k 1 then (bif Nat.beq k 0 then (.array .byte) else .int) else
  (bif Nat.beq k 1 then .byte else .int)) else
 (bif Nat.blt k 3 then (bif Nat.beq k 2 then .boolean else .int) else
  (bif Nat.beq k 3 then .int else .int))) else .int) else
    (bif Nat.beq c 12 then (bif Nat.blt k 2 then (bif Nat.blt k 1 then (bif Nat.beq k 0 then (.array .byte) else .int) else
  (bif Nat.beq k 1 then .byte else .int)) else
 (bif Nat.blt k 3 then (bif Nat.beq k 2 then .int else .int) else
  (bif Nat.beq k 3 then .boolean else .int))) else .int)))))
noncomputable def zy (m : Nat) : MethodName :=
 (bif Nat.blt m 131 then (bif Nat.blt m 65 then (bif Nat.blt m 32 then (bif Nat.blt m 16 then (bif Nat.blt m 8 then (bif Nat.blt m 4 then (bif Nat.blt m 2 then (bif Nat.blt m 1 then (bif Nat.beq m 0 then ⟨"BackwardProofs$Duties", "<init>", "(LBackwardProofs$Sets;LBackwardProofs$Runs;)V"⟩ else ⟨"", "", ""⟩) else
        (bif Nat.beq m 1 then ⟨"BackwardProofs$Duties", "look", "(LBackwardProofs$Program;LBackwardProofs$Version;)V"⟩ else ⟨"", "", ""⟩)) else
       (bif Nat.blt m 3 then (bif Nat.beq m 2 then ⟨"BackwardProofs$Duties", "lookAtNeeds", "()V"⟩ else ⟨"", "", ""⟩) else
        (bif Nat.beq m 3 then ⟨"BackwardProofs$Duties", "putNeed", "(IJ)V"⟩ else ⟨"", "", ""⟩))) else
      (bif Nat.blt m 6 then (bif Nat.blt m 5 then (bif Nat.beq m 4 then ⟨"BackwardProofs$Duties", "ahead", "(I)J"⟩ else ⟨"", "", ""⟩) else
        (bif Nat.beq m 5 then ⟨"BackwardProofs$Duties", "behind", "(I)J"⟩ else ⟨"", "", ""⟩)) else
       (bif Nat.blt m 7 then (bif Nat.beq m 6 then ⟨"BackwardProofs$Duties", "endingIn", "(IJ)J"⟩ else ⟨"", "", ""⟩) else
        (bif Nat.beq m 7 then ⟨"BackwardProofs$Duties", "lookAtLoop", "(II)V"⟩ else ⟨"", "", ""⟩)))) else
     (bif Nat.blt m 12 then (bif Nat.blt m 10 then (bif Nat.blt m 9 then (bif Nat.beq m 8 then ⟨"BackwardProofs$Duties", "lessening", "(II)J"⟩ else ⟨"", "", ""⟩) else
        (bif Nat.beq m 9 then ⟨"BackwardProofs$Duties", "failingStates", "(I)J"⟩ else ⟨"", "", ""⟩)) else
       (bif Nat.blt m 11 then (bif Nat.beq m 10 then ⟨"BackwardProofs$Duties", "count", "()I"⟩ else ⟨"", "", ""⟩) else
        (bif Nat.beq m 11 then ⟨"BackwardProofs$Duties", "failed", "()I"⟩ else ⟨"", "", ""⟩))) else
      (bif Nat.blt m 14 then (bif Nat.blt m 13 then (bif Nat.beq m 12 then ⟨"BackwardProofs$Duties", "safeStates", "(I)J"⟩ else ⟨"", "", ""⟩) else
        (bif Nat.beq m 13 then ⟨"BackwardProofs$Formula", "<init>", "([BI)V"⟩ else ⟨"", "", ""⟩)) else
       (bif Nat.blt m 15 then (bif Nat.beq m 14 then ⟨"BackwardProofs$Formula", "size", "()I"⟩ else ⟨"", "", ""⟩) else
        (bif Nat.beq m 15 then ⟨"BackwardProofs$History", "<init>", "(LBackwardProofs$Formula;)V"⟩ else ⟨"", "", ""⟩))))) else
    (bif Nat.blt m 24 then (bif Nat.blt m 20 then (bif Nat.blt m 18 then (bif Nat.blt m 17 then (bif Nat.beq m 16 then ⟨"BackwardProofs$History", "forget", "()V"⟩ else ⟨"", "", ""⟩) else
        (bif Nat.beq m 17 then ⟨"BackwardProofs$History", "remember", "(LBackwardProofs$Version;)V"⟩ else ⟨"", "", ""⟩)) else
       (bif Nat.blt m 19 then (bif Nat.beq m 18 then ⟨"BackwardProofs$History", "holds", "(I)Z"⟩ else ⟨"", "", ""⟩) else
        (bif Nat.beq m 19 then ⟨"BackwardProofs$History", "bringBack", "(ILBackwardProofs$Version;)V"⟩ else ⟨"", "", ""⟩))) else
      (bif Nat.blt m 22 then (bif Nat.blt m 21 then (bif Nat.beq m 20 then ⟨"BackwardProofs$History", "takeBack", "(LBackwardProofs$Version;)V"⟩ else ⟨"", "", ""⟩) else
        (bif Nat.beq m 21 then ⟨"BackwardProofs$History", "keepIn", "(ILBackwardProofs$Version;)V"⟩ else ⟨"", "", ""⟩)) else
       (bif Nat.blt m 23 then (bif Nat.beq m 22 then ⟨"BackwardProofs$History", "heldSlots", "()I"⟩ else ⟨"", "", ""⟩) else
        (bif Nat.beq m 23 then ⟨"BackwardProofs$Parser", "<init>", "([B)V"⟩ else ⟨"", "", ""⟩)))) else
     (bif Nat.blt m 28 then (bif Nat.blt m 26 then (bif Nat.blt m 25 then (bif Nat.beq m 24 then ⟨"BackwardProofs$Parser", "begin", "(I)V"⟩ else ⟨"", "", ""⟩) else
        (bif Nat.beq m 25 then ⟨"BackwardProofs$Parser", "parseDescription", "(LBackwardProofs$Program;LBackwardProofs$Version;)V"⟩ else ⟨"", "", ""⟩)) else
       (bif Nat.blt m 27 then (bif Nat.beq m 26 then ⟨"BackwardProofs$Parser", "take", "(I)V"⟩ else ⟨"", "", ""⟩) else
        (bif Nat.beq m 27 then ⟨"BackwardProofs$Parser", "refuse", "(I)V"⟩ else ⟨"", "", ""⟩))) else
      (bif Nat.blt m 30 then (bif Nat.blt m 29 then (bif Nat.beq m 28 then ⟨"BackwardProofs$Parser", "parseFormula", "(Z)LBackwardProofs$Formula;"⟩ else ⟨"", "", ""⟩) else
        (bif Nat.beq m 29 then ⟨"BackwardProofs$Parser", "checkNode", "(ZI)Z"⟩ else ⟨"", "", ""⟩)) else
       (bif Nat.blt m 31 then (bif Nat.beq m 30 then ⟨"BackwardProofs$Parser", "parseRowWord", "()V"⟩ else ⟨"", "", ""⟩) else
        (bif Nat.beq m 31 then ⟨"BackwardProofs$Parser", "parseStatement", "(I)V"⟩ else ⟨"", "", ""⟩)))))) else
   (bif Nat.blt m 48 then (bif Nat.blt m 40 then (bif Nat.blt m 36 then (bif Nat.blt m 34 then (bif Nat.blt m 33 then (bif Nat.beq m 32 then ⟨"BackwardProofs$Parser", "parseVariable", "(I)V"⟩ else ⟨"", "", ""⟩) else
        (bif Nat.beq m 33 then ⟨"BackwardProofs$Parser", "closeStatement", "()V"⟩ else ⟨"", "", ""⟩)) else
       (bif Nat.blt m 35 then (bif Nat.beq m 34 then ⟨"BackwardProofs$Parser", "parseAlone", "(Z)LBackwardProofs$Formula;"⟩ else ⟨"", "", ""⟩) else
        (bif Nat.beq m 35 then ⟨"BackwardProofs$Program", "<init>", "(LBackwardProofs$Formula;)V"⟩ else ⟨"", "", ""⟩))) else
      (bif Nat.blt m 38 then (bif Nat.blt m 37 then (bif Nat.beq m 36 then ⟨"BackwardProofs$Program", "kindOf", "(I)I"⟩ else ⟨"", "", ""⟩) else
        (bif Nat.beq m 37 then ⟨"BackwardProofs$Program", "has", "(I)Z"⟩ else ⟨"", "", ""⟩)) else
       (bif Nat.blt m 39 then (bif Nat.beq m 38 then ⟨"BackwardProofs$Program", "add", "(IIZ)I"⟩ else ⟨"", "", ""⟩) else
        (bif Nat.beq m 39 then ⟨"BackwardProofs$Program", "start", "()I"⟩ else ⟨"", "", ""⟩)))) else
     (bif Nat.blt m 44 then (bif Nat.blt m 42 then (bif Nat.blt m 41 then (bif Nat.beq m 40 then ⟨"BackwardProofs$Program", "secondOf", "(I)I"⟩ else ⟨"", "", ""⟩) else
        (bif Nat.beq m 41 then ⟨"BackwardProofs$Program", "firstOf", "(I)I"⟩ else ⟨"", "", ""⟩)) else
       (bif Nat.blt m 43 then (bif Nat.beq m 42 then ⟨"BackwardProofs$Program", "lastOfRow", "(I)I"⟩ else ⟨"", "", ""⟩) else
        (bif Nat.beq m 43 then ⟨"BackwardProofs$Program", "takeNumber", "(II)I"⟩ else ⟨"", "", ""⟩))) else
      (bif Nat.blt m 46 then (bif Nat.blt m 45 then (bif Nat.beq m 44 then ⟨"BackwardProofs$Program", "putVariable", "(II)V"⟩ else ⟨"", "", ""⟩) else
        (bif Nat.beq m 45 then ⟨"BackwardProofs$Program", "putPart", "(ILBackwardProofs$Formula;)V"⟩ else ⟨"", "", ""⟩)) else
       (bif Nat.blt m 47 then (bif Nat.beq m 46 then ⟨"BackwardProofs$Program", "numberOf", "(I)I"⟩ else ⟨"", "", ""⟩) else
        (bif Nat.beq m 47 then ⟨"BackwardProofs$Program", "parentOf", "(I)I"⟩ else ⟨"", "", ""⟩))))) else
    (bif Nat.blt m 56 then (bif Nat.blt m 52 then (bif Nat.blt m 50 then (bif Nat.blt m 49 then (bif Nat.beq m 48 then ⟨"BackwardProofs$Program", "nextOf", "(I)I"⟩ else ⟨"", "", ""⟩) else
        (bif Nat.beq m 49 then ⟨"BackwardProofs$Program", "connect", "()V"⟩ else ⟨"", "", ""⟩)) else
       (bif Nat.blt m 51 then (bif Nat.beq m 50 then ⟨"BackwardProofs$Program", "thenOf", "(I)I"⟩ else ⟨"", "", ""⟩) else
        (bif Nat.beq m 51 then ⟨"BackwardProofs$Program", "variableOf", "(I)I"⟩ else ⟨"", "", ""⟩))) else
      (bif Nat.blt m 54 then (bif Nat.blt m 53 then (bif Nat.beq m 52 then ⟨"BackwardProofs$Program", "partOf", "(I)LBackwardProofs$Formula;"⟩ else ⟨"", "", ""⟩) else
        (bif Nat.beq m 53 then ⟨"BackwardProofs$Program", "loopAt", "(I)I"⟩ else ⟨"", "", ""⟩)) else
       (bif Nat.blt m 55 then (bif Nat.beq m 54 then ⟨"BackwardProofs$Program", "entry", "(IZ)I"⟩ else ⟨"", "", ""⟩) else
        (bif Nat.beq m 55 then ⟨"BackwardProofs$Program", "depthOf", "(I)I"⟩ else ⟨"", "", ""⟩)))) else
     (bif Nat.blt m 60 then (bif Nat.blt m 58 then (bif Nat.blt m 57 then (bif Nat.beq m 56 then ⟨"BackwardProofs$Program", "inRow", "(I)I"⟩ else ⟨"", "", ""⟩) else
        (bif Nat.beq m 57 then ⟨"BackwardProofs$Runs", "<init>", "(LBackwardProofs$Sets;)V"⟩ else ⟨"", "", ""⟩)) else
       (bif Nat.blt m 59 then (bif Nat.beq m 58 then ⟨"BackwardProofs$Runs", "look", "(LBackwardProofs$Program;LBackwardProofs$Version;)V"⟩ else ⟨"", "", ""⟩) else
        (bif Nat.beq m 59 then ⟨"BackwardProofs$Runs", "lookAtLoop", "(I)V"⟩ else ⟨"", "", ""⟩))) else
      (bif Nat.blt m 62 then (bif Nat.blt m 61 then (bif Nat.beq m 60 then ⟨"BackwardProofs$Runs", "endOfRow", "(II)I"⟩ else ⟨"", "", ""⟩) else
        (bif Nat.beq m 61 then ⟨"BackwardProofs$Runs", "putEnd", "(III)V"⟩ else ⟨"", "", ""⟩)) else
       (bif Nat.blt m 63 then (bif Nat.beq m 62 then ⟨"BackwardProofs$Runs", "lookAtOther", "(I)V"⟩ else ⟨"", "", ""⟩) else
        (bif Nat.blt m 64 then (bif Nat.beq m 63 then ⟨"BackwardProofs$Runs", "endOf", "(II)I"⟩ else ⟨"", "", ""⟩) else
         (bif Nat.beq m 64 then ⟨"BackwardProofs$Runs", "wrongStates", "()J"⟩ else ⟨"", "", ""⟩)))))))) else
  (bif Nat.blt m 98 then (bif Nat.blt m 81 then (bif Nat.blt m 73 then (bif Nat.blt m 69 then (bif Nat.blt m 67 then (bif Nat.blt m 66 then (bif Nat.beq m 65 then ⟨"BackwardProofs$Runs", "endFrom", "(I)I"⟩ else ⟨"", "", ""⟩) else
        (bif Nat.beq m 66 then ⟨"BackwardProofs$Runs", "dearestState", "()I"⟩ else ⟨"", "", ""⟩)) else
       (bif Nat.blt m 68 then (bif Nat.beq m 67 then ⟨"BackwardProofs$Runs", "endsFromBefore", "(I)Z"⟩ else ⟨"", "", ""⟩) else
        (bif Nat.beq m 68 then ⟨"BackwardProofs$Runs", "follow", "(II)V"⟩ else ⟨"", "", ""⟩))) else
      (bif Nat.blt m 71 then (bif Nat.blt m 70 then (bif Nat.beq m 69 then ⟨"BackwardProofs$Runs", "countRound", "(Z)V"⟩ else ⟨"", "", ""⟩) else
        (bif Nat.beq m 70 then ⟨"BackwardProofs$Runs", "statementBehind", "(II)I"⟩ else ⟨"", "", ""⟩)) else
       (bif Nat.blt m 72 then (bif Nat.beq m 71 then ⟨"BackwardProofs$Runs", "looksAtCondition", "(I)Z"⟩ else ⟨"", "", ""⟩) else
        (bif Nat.beq m 72 then ⟨"BackwardProofs$Runs", "stateBehind", "(II)I"⟩ else ⟨"", "", ""⟩)))) else
     (bif Nat.blt m 77 then (bif Nat.blt m 75 then (bif Nat.blt m 74 then (bif Nat.beq m 73 then ⟨"BackwardProofs$Runs", "mean", "()D"⟩ else ⟨"", "", ""⟩) else
        (bif Nat.beq m 74 then ⟨"BackwardProofs$Runs", "bitsOf", "(D)J"⟩ else ⟨"", "", ""⟩)) else
       (bif Nat.blt m 76 then (bif Nat.beq m 75 then ⟨"BackwardProofs$Runs", "stepsFrom", "(I)I"⟩ else ⟨"", "", ""⟩) else
        (bif Nat.beq m 76 then ⟨"BackwardProofs$Runs", "costFrom", "(I)F"⟩ else ⟨"", "", ""⟩))) else
      (bif Nat.blt m 79 then (bif Nat.blt m 78 then (bif Nat.beq m 77 then ⟨"BackwardProofs$Runs", "bitsOf", "(F)I"⟩ else ⟨"", "", ""⟩) else
        (bif Nat.beq m 78 then ⟨"BackwardProofs$Runs", "metAt", "(I)J"⟩ else ⟨"", "", ""⟩)) else
       (bif Nat.blt m 80 then (bif Nat.beq m 79 then ⟨"BackwardProofs$Runs", "takeUnseen", "(II)Z"⟩ else ⟨"", "", ""⟩) else
        (bif Nat.beq m 80 then ⟨"java/lang/StringBuilder", "<init>", "(Ljava/lang/String;)V"⟩ else ⟨"", "", ""⟩))))) else
    (bif Nat.blt m 89 then (bif Nat.blt m 85 then (bif Nat.blt m 83 then (bif Nat.blt m 82 then (bif Nat.beq m 81 then ⟨"BackwardProofs$Scanner", "<init>", "([B)V"⟩ else ⟨"", "", ""⟩) else
        (bif Nat.beq m 82 then ⟨"BackwardProofs$Scanner", "begin", "(I)V"⟩ else ⟨"", "", ""⟩)) else
       (bif Nat.blt m 84 then (bif Nat.beq m 83 then ⟨"BackwardProofs$Scanner", "scan", "()V"⟩ else ⟨"", "", ""⟩) else
        (bif Nat.beq m 84 then ⟨"BackwardProofs$Scanner", "behindBlanks", "(I)I"⟩ else ⟨"", "", ""⟩))) else
      (bif Nat.blt m 87 then (bif Nat.blt m 86 then (bif Nat.beq m 85 then ⟨"BackwardProofs$Scanner", "byteAt", "(I)I"⟩ else ⟨"", "", ""⟩) else
        (bif Nat.beq m 86 then ⟨"BackwardProofs$Scanner", "isLetter", "(I)Z"⟩ else ⟨"", "", ""⟩)) else
       (bif Nat.blt m 88 then (bif Nat.beq m 87 then ⟨"BackwardProofs$Scanner", "behindLetters", "(I)I"⟩ else ⟨"", "", ""⟩) else
        (bif Nat.beq m 88 then ⟨"BackwardProofs$Scanner", "isDigit", "(I)Z"⟩ else ⟨"", "", ""⟩)))) else
     (bif Nat.blt m 93 then (bif Nat.blt m 91 then (bif Nat.blt m 90 then (bif Nat.beq m 89 then ⟨"BackwardProofs$Scanner", "behindDigits", "(I)I"⟩ else ⟨"", "", ""⟩) else
        (bif Nat.beq m 90 then ⟨"BackwardProofs$Scanner", "numberToken", "()I"⟩ else ⟨"", "", ""⟩)) else
       (bif Nat.blt m 92 then (bif Nat.beq m 91 then ⟨"BackwardProofs$Scanner", "advance", "()V"⟩ else ⟨"", "", ""⟩) else
        (bif Nat.beq m 92 then ⟨"BackwardProofs$Sets", "<init>", "(LBackwardProofs$Formula;)V"⟩ else ⟨"", "", ""⟩))) else
      (bif Nat.blt m 95 then (bif Nat.blt m 94 then (bif Nat.beq m 93 then ⟨"BackwardProofs$Sets", "nodesOfForm", "(I[B)I"⟩ else ⟨"", "", ""⟩) else
        (bif Nat.beq m 94 then ⟨"BackwardProofs$Sets", "look", "(LBackwardProofs$Program;LBackwardProofs$Version;)V"⟩ else ⟨"", "", ""⟩)) else
       (bif Nat.blt m 96 then (bif Nat.beq m 95 then ⟨"BackwardProofs$Sets", "evaluate", "([BI)V"⟩ else ⟨"", "", ""⟩) else
        (bif Nat.blt m 97 then (bif Nat.beq m 96 then ⟨"BackwardProofs$Sets", "push", "(JJ)V"⟩ else ⟨"", "", ""⟩) else
         (bif Nat.beq m 97 then ⟨"BackwardProofs$Sets", "negate", "()V"⟩ else ⟨"", "", ""⟩))))))) else
   (bif Nat.blt m 114 then (bif Nat.blt m 106 then (bif Nat.blt m 102 then (bif Nat.blt m 100 then (bif Nat.blt m 99 then (bif Nat.beq m 98 then ⟨"BackwardProofs$Sets", "join", "(I)V"⟩ else ⟨"", "", ""⟩) else
        (bif Nat.beq m 99 then ⟨"BackwardProofs$Sets", "holding", "()J"⟩ else ⟨"", "", ""⟩)) else
       (bif Nat.blt m 101 then (bif Nat.beq m 100 then ⟨"BackwardProofs$Sets", "lookAtStatement", "(I)V"⟩ else ⟨"", "", ""⟩) else
        (bif Nat.beq m 101 then ⟨"BackwardProofs$Sets", "lookAtLoop", "(I)V"⟩ else ⟨"", "", ""⟩))) else
      (bif Nat.blt m 104 then (bif Nat.blt m 103 then (bif Nat.beq m 102 then ⟨"BackwardProofs$Sets", "holdsIn", "(II)Z"⟩ else ⟨"", "", ""⟩) else
        (bif Nat.beq m 103 then ⟨"BackwardProofs$Sets", "conditionOf", "(I)J"⟩ else ⟨"", "", ""⟩)) else
       (bif Nat.blt m 105 then (bif Nat.beq m 104 then ⟨"BackwardProofs$Sets", "has", "(JI)Z"⟩ else ⟨"", "", ""⟩) else
        (bif Nat.beq m 105 then ⟨"BackwardProofs$Sets", "moved", "(II)I"⟩ else ⟨"", "", ""⟩)))) else
     (bif Nat.blt m 110 then (bif Nat.blt m 108 then (bif Nat.blt m 107 then (bif Nat.beq m 106 then ⟨"BackwardProofs$Sets", "number", "(JJI)I"⟩ else ⟨"", "", ""⟩) else
        (bif Nat.beq m 107 then ⟨"BackwardProofs$Sets", "keepOf", "(I)J"⟩ else ⟨"", "", ""⟩)) else
       (bif Nat.blt m 109 then (bif Nat.beq m 108 then ⟨"BackwardProofs$Sets", "lessOf", "(II)I"⟩ else ⟨"", "", ""⟩) else
        (bif Nat.beq m 109 then ⟨"BackwardProofs$Sets", "targetOf", "(I)I"⟩ else ⟨"", "", ""⟩))) else
      (bif Nat.blt m 112 then (bif Nat.blt m 111 then (bif Nat.beq m 110 then ⟨"BackwardProofs$Sets", "least", "(J)I"⟩ else ⟨"", "", ""⟩) else
        (bif Nat.beq m 111 then ⟨"BackwardProofs$Sets", "formulaOf", "(I)LBackwardProofs$Formula;"⟩ else ⟨"", "", ""⟩)) else
       (bif Nat.blt m 113 then (bif Nat.beq m 112 then ⟨"BackwardProofs$Sets", "greatestLess", "(I)I"⟩ else ⟨"", "", ""⟩) else
        (bif Nat.beq m 113 then ⟨"BackwardProofs$Sheet", "<init>", "(LBackwardProofs$Sets;)V"⟩ else ⟨"", "", ""⟩))))) else
    (bif Nat.blt m 122 then (bif Nat.blt m 118 then (bif Nat.blt m 116 then (bif Nat.blt m 115 then (bif Nat.beq m 114 then ⟨"BackwardProofs$Sheet", "write", "(LBackwardProofs$Program;LBackwardProofs$Version;)V"⟩ else ⟨"", "", ""⟩) else
        (bif Nat.beq m 115 then ⟨"BackwardProofs$Sheet", "appendFormula", "(ILBackwardProofs$Formula;)V"⟩ else ⟨"", "", ""⟩)) else
       (bif Nat.blt m 117 then (bif Nat.beq m 116 then ⟨"BackwardProofs$Sheet", "appendNode", "(II)V"⟩ else ⟨"", "", ""⟩) else
        (bif Nat.beq m 117 then ⟨"BackwardProofs$Sheet", "sizeOf", "(I)I"⟩ else ⟨"", "", ""⟩))) else
      (bif Nat.blt m 120 then (bif Nat.blt m 119 then (bif Nat.beq m 118 then ⟨"BackwardProofs$Sheet", "giveUp", "(I)V"⟩ else ⟨"", "", ""⟩) else
        (bif Nat.beq m 119 then ⟨"BackwardProofs$Sheet", "writeBranch", "(I)V"⟩ else ⟨"", "", ""⟩)) else
       (bif Nat.blt m 121 then (bif Nat.beq m 120 then ⟨"BackwardProofs$Sheet", "rowAt", "(I)I"⟩ else ⟨"", "", ""⟩) else
        (bif Nat.beq m 121 then ⟨"BackwardProofs$Sheet", "appendRow", "(II)V"⟩ else ⟨"", "", ""⟩)))) else
     (bif Nat.blt m 126 then (bif Nat.blt m 124 then (bif Nat.blt m 123 then (bif Nat.beq m 122 then ⟨"BackwardProofs$Sheet", "rowOf", "(I)[B"⟩ else ⟨"", "", ""⟩) else
        (bif Nat.beq m 123 then ⟨"BackwardProofs$Sheet", "writeSwapped", "(II)V"⟩ else ⟨"", "", ""⟩)) else
       (bif Nat.blt m 125 then (bif Nat.beq m 124 then ⟨"BackwardProofs$Version", "<init>", "(LBackwardProofs$Formula;)V"⟩ else ⟨"", "", ""⟩) else
        (bif Nat.beq m 125 then ⟨"BackwardProofs$Version", "putKeep", "(ILBackwardProofs$Formula;)V"⟩ else ⟨"", "", ""⟩))) else
      (bif Nat.blt m 128 then (bif Nat.blt m 127 then (bif Nat.beq m 126 then ⟨"BackwardProofs$Version", "fits", "(I)Z"⟩ else ⟨"", "", ""⟩) else
        (bif Nat.beq m 127 then ⟨"BackwardProofs$Version", "putLess", "(ILBackwardProofs$Formula;)V"⟩ else ⟨"", "", ""⟩)) else
       (bif Nat.blt m 129 then (bif Nat.beq m 128 then ⟨"BackwardProofs$Version", "fillingOf", "(I)I"⟩ else ⟨"", "", ""⟩) else
        (bif Nat.blt m 130 then (bif Nat.beq m 129 then ⟨"BackwardProofs$Version", "keepOf", "(I)LBackwardProofs$Formula;"⟩ else ⟨"", "", ""⟩) else
         (bif Nat.beq m 130 then ⟨"BackwardProofs$Version", "lessOf", "(I)LBackwardProofs$Formula;"⟩ else ⟨"", "", ""⟩))))))))) else
 (bif Nat.blt m 196 then (bif Nat.blt m 163 then (bif Nat.blt m 147 then (bif Nat.blt m 139 then (bif Nat.blt m 135 then (bif Nat.blt m 133 then (bif Nat.blt m 132 then (bif Nat.beq m 131 then ⟨"BackwardProofs$Version", "priceOf", "(I)I"⟩ else ⟨"", "", ""⟩) else
        (bif Nat.beq m 132 then ⟨"BackwardProofs$Version", "filledHoles", "(I)I"⟩ else ⟨"", "", ""⟩)) else
       (bif Nat.blt m 134 then (bif Nat.beq m 133 then ⟨"BackwardProofs$Version", "putFilling", "(II)V"⟩ else ⟨"", "", ""⟩) else
        (bif Nat.beq m 134 then ⟨"BackwardProofs$Version", "copy", "(LBackwardProofs$Version;)V"⟩ else ⟨"", "", ""⟩))) else
      (bif Nat.blt m 137 then (bif Nat.blt m 136 then (bif Nat.beq m 135 then ⟨"BackwardProofs$Version", "putPrice", "(II)V"⟩ else ⟨"", "", ""⟩) else
        (bif Nat.beq m 136 then ⟨"BackwardProofs$Words", "spell", "(Ljava/lang/String;[BI)I"⟩ else ⟨"", "", ""⟩)) else
       (bif Nat.blt m 138 then (bif Nat.beq m 137 then ⟨"BackwardProofs$Words", "find", "([BII)I"⟩ else ⟨"", "", ""⟩) else
        (bif Nat.beq m 138 then ⟨"BackwardProofs$Words", "text", "(I)Ljava/lang/String;"⟩ else ⟨"", "", ""⟩)))) else
     (bif Nat.blt m 143 then (bif Nat.blt m 141 then (bif Nat.blt m 140 then (bif Nat.beq m 139 then ⟨"BackwardProofs$Words", "stands", "(Ljava/lang/String;[BII)Z"⟩ else ⟨"", "", ""⟩) else
        (bif Nat.beq m 140 then ⟨"BackwardProofs$Words", "isOfExpressions", "(I)Z"⟩ else ⟨"", "", ""⟩)) else
       (bif Nat.blt m 142 then (bif Nat.beq m 141 then ⟨"BackwardProofs$Words", "isOfConditions", "(I)Z"⟩ else ⟨"", "", ""⟩) else
        (bif Nat.beq m 142 then ⟨"BackwardProofs$Words", "expressionsBehind", "(I)I"⟩ else ⟨"", "", ""⟩))) else
      (bif Nat.blt m 145 then (bif Nat.blt m 144 then (bif Nat.beq m 143 then ⟨"BackwardProofs$Words", "conditionsBehind", "(I)I"⟩ else ⟨"", "", ""⟩) else
        (bif Nat.beq m 144 then ⟨"BackwardProofs$Words", "isStatement", "(I)Z"⟩ else ⟨"", "", ""⟩)) else
       (bif Nat.blt m 146 then (bif Nat.beq m 145 then ⟨"BackwardProofs$Words", "isVariable", "(I)Z"⟩ else ⟨"", "", ""⟩) else
        (bif Nat.beq m 146 then ⟨"BackwardProofs", "<init>", "()V"⟩ else ⟨"", "", ""⟩))))) else
    (bif Nat.blt m 155 then (bif Nat.blt m 151 then (bif Nat.blt m 149 then (bif Nat.blt m 148 then (bif Nat.beq m 147 then ⟨"BackwardProofs", "errorCode", "()I"⟩ else ⟨"", "", ""⟩) else
        (bif Nat.beq m 148 then ⟨"java/lang/StringBuilder", "append", "(Ljava/lang/String;)Ljava/lang/AbstractStringBuilder;"⟩ else ⟨"", "", ""⟩)) else
       (bif Nat.blt m 150 then (bif Nat.beq m 149 then ⟨"BackwardProofs", "before", "()J"⟩ else ⟨"", "", ""⟩) else
        (bif Nat.beq m 150 then ⟨"BackwardProofs", "after", "()J"⟩ else ⟨"", "", ""⟩))) else
      (bif Nat.blt m 153 then (bif Nat.blt m 152 then (bif Nat.beq m 151 then ⟨"BackwardProofs", "needAhead", "()J"⟩ else ⟨"", "", ""⟩) else
        (bif Nat.beq m 152 then ⟨"BackwardProofs", "trouble", "()I"⟩ else ⟨"", "", ""⟩)) else
       (bif Nat.blt m 154 then (bif Nat.beq m 153 then ⟨"BackwardProofs", "wrong", "()J"⟩ else ⟨"", "", ""⟩) else
        (bif Nat.beq m 154 then ⟨"BackwardProofs", "dearest", "()I"⟩ else ⟨"", "", ""⟩)))) else
     (bif Nat.blt m 159 then (bif Nat.blt m 157 then (bif Nat.blt m 156 then (bif Nat.beq m 155 then ⟨"BackwardProofs", "meanCost", "()D"⟩ else ⟨"", "", ""⟩) else
        (bif Nat.beq m 156 then ⟨"BackwardProofs", "meanBits", "()J"⟩ else ⟨"", "", ""⟩)) else
       (bif Nat.blt m 158 then (bif Nat.beq m 157 then ⟨"BackwardProofs", "share", "()F"⟩ else ⟨"", "", ""⟩) else
        (bif Nat.beq m 158 then ⟨"BackwardProofs", "feed", "(IIIII)I"⟩ else ⟨"", "", ""⟩))) else
      (bif Nat.blt m 161 then (bif Nat.blt m 160 then (bif Nat.beq m 159 then ⟨"BackwardProofs", "appendInput", "(I)V"⟩ else ⟨"", "", ""⟩) else
        (bif Nat.beq m 160 then ⟨"BackwardProofs", "load", "(I)I"⟩ else ⟨"", "", ""⟩)) else
       (bif Nat.blt m 162 then (bif Nat.beq m 161 then ⟨"BackwardProofs", "requireLength", "(I)V"⟩ else ⟨"", "", ""⟩) else
        (bif Nat.beq m 162 then ⟨"BackwardProofs", "closeInput", "()V"⟩ else ⟨"", "", ""⟩)))))) else
   (bif Nat.blt m 179 then (bif Nat.blt m 171 then (bif Nat.blt m 167 then (bif Nat.blt m 165 then (bif Nat.blt m 164 then (bif Nat.beq m 163 then ⟨"BackwardProofs", "value", "(I)I"⟩ else ⟨"", "", ""⟩) else
        (bif Nat.beq m 164 then ⟨"BackwardProofs", "statement", "(II)I"⟩ else ⟨"", "", ""⟩)) else
       (bif Nat.blt m 166 then (bif Nat.beq m 165 then ⟨"BackwardProofs", "requireStatement", "(I)V"⟩ else ⟨"", "", ""⟩) else
        (bif Nat.beq m 166 then ⟨"BackwardProofs", "nodesOf", "(I)I"⟩ else ⟨"", "", ""⟩))) else
      (bif Nat.blt m 169 then (bif Nat.blt m 168 then (bif Nat.beq m 167 then ⟨"BackwardProofs", "loopSet", "(II)J"⟩ else ⟨"", "", ""⟩) else
        (bif Nat.beq m 168 then ⟨"BackwardProofs", "requireLoop", "(I)V"⟩ else ⟨"", "", ""⟩)) else
       (bif Nat.blt m 170 then (bif Nat.beq m 169 then ⟨"BackwardProofs", "less", "(II)I"⟩ else ⟨"", "", ""⟩) else
        (bif Nat.beq m 170 then ⟨"BackwardProofs", "requireState", "(I)V"⟩ else ⟨"", "", ""⟩)))) else
     (bif Nat.blt m 175 then (bif Nat.blt m 173 then (bif Nat.blt m 172 then (bif Nat.beq m 171 then ⟨"BackwardProofs", "need", "(I)J"⟩ else ⟨"", "", ""⟩) else
        (bif Nat.beq m 172 then ⟨"BackwardProofs", "duty", "(II)I"⟩ else ⟨"", "", ""⟩)) else
       (bif Nat.blt m 174 then (bif Nat.beq m 173 then ⟨"BackwardProofs", "requireDuty", "(I)V"⟩ else ⟨"", "", ""⟩) else
        (bif Nat.beq m 174 then ⟨"BackwardProofs", "failing", "(I)J"⟩ else ⟨"", "", ""⟩))) else
      (bif Nat.blt m 177 then (bif Nat.blt m 176 then (bif Nat.beq m 175 then ⟨"BackwardProofs", "run", "(I)I"⟩ else ⟨"", "", ""⟩) else
        (bif Nat.beq m 176 then ⟨"BackwardProofs", "steps", "(I)I"⟩ else ⟨"", "", ""⟩)) else
       (bif Nat.blt m 178 then (bif Nat.beq m 177 then ⟨"BackwardProofs", "cost", "(I)F"⟩ else ⟨"", "", ""⟩) else
        (bif Nat.beq m 178 then ⟨"BackwardProofs", "costBits", "(I)I"⟩ else ⟨"", "", ""⟩))))) else
    (bif Nat.blt m 187 then (bif Nat.blt m 183 then (bif Nat.blt m 181 then (bif Nat.blt m 180 then (bif Nat.beq m 179 then ⟨"BackwardProofs", "met", "(I)J"⟩ else ⟨"", "", ""⟩) else
        (bif Nat.beq m 180 then ⟨"java/lang/StringBuilder", "append", "(Ljava/lang/String;)Ljava/lang/StringBuilder;"⟩ else ⟨"", "", ""⟩)) else
       (bif Nat.blt m 182 then (bif Nat.beq m 181 then ⟨"BackwardProofs", "proves", "(I)I"⟩ else ⟨"", "", ""⟩) else
        (bif Nat.beq m 182 then ⟨"BackwardProofs", "requireHole", "(I)V"⟩ else ⟨"", "", ""⟩))) else
      (bif Nat.blt m 185 then (bif Nat.blt m 184 then (bif Nat.beq m 183 then ⟨"BackwardProofs", "leastFilling", "(IZ)I"⟩ else ⟨"", "", ""⟩) else
        (bif Nat.beq m 184 then ⟨"BackwardProofs", "rights", "(I)I"⟩ else ⟨"", "", ""⟩)) else
       (bif Nat.blt m 186 then (bif Nat.beq m 185 then ⟨"BackwardProofs", "safe", "(I)J"⟩ else ⟨"", "", ""⟩) else
        (bif Nat.beq m 186 then ⟨"BackwardProofs", ("uns" ++ "afe"), "(I)J"⟩ else ⟨"", "", ""⟩)))) else
     (bif Nat.blt m 191 then (bif Nat.blt m 189 then (bif Nat.blt m 188 then (bif Nat.beq m 187 then ⟨"BackwardProofs", "writeNeed", "(I)I"⟩ else ⟨"", "", ""⟩) else
        (bif Nat.beq m 188 then ⟨"BackwardProofs", "writeWords", "([BI)V"⟩ else ⟨"", "", ""⟩)) else
       (bif Nat.blt m 190 then (bif Nat.beq m 189 then ⟨"java/lang/StringBuilder", "append", "(C)Ljava/lang/StringBuilder;"⟩ else ⟨"", "", ""⟩) else
        (bif Nat.beq m 190 then ⟨"BackwardProofs", "needNodes", "(I)I"⟩ else ⟨"", "", ""⟩))) else
      (bif Nat.blt m 193 then (bif Nat.blt m 192 then (bif Nat.beq m 191 then ⟨"BackwardProofs", "gap", "(I)I"⟩ else ⟨"", "", ""⟩) else
        (bif Nat.beq m 192 then ⟨"BackwardProofs", "setBefore", "(I)I"⟩ else ⟨"", "", ""⟩)) else
       (bif Nat.blt m 194 then (bif Nat.beq m 193 then ⟨"BackwardProofs", "parseAlone", "(IZ)LBackwardProofs$Formula;"⟩ else ⟨"", "", ""⟩) else
        (bif Nat.blt m 195 then (bif Nat.beq m 194 then ⟨"BackwardProofs", "setAfter", "(I)I"⟩ else ⟨"", "", ""⟩) else
         (bif Nat.beq m 195 then ⟨"BackwardProofs", "setKeep", "(II)I"⟩ else ⟨"", "", ""⟩)))))))) else
  (bif Nat.blt m 229 then (bif Nat.blt m 212 then (bif Nat.blt m 204 then (bif Nat.blt m 200 then (bif Nat.blt m 198 then (bif Nat.blt m 197 then (bif Nat.beq m 196 then ⟨"BackwardProofs", "setLess", "(II)I"⟩ else ⟨"", "", ""⟩) else
        (bif Nat.beq m 197 then ⟨"BackwardProofs", "fill", "(II)I"⟩ else ⟨"", "", ""⟩)) else
       (bif Nat.blt m 199 then (bif Nat.beq m 198 then ⟨"BackwardProofs", "setPrice", "(II)I"⟩ else ⟨"", "", ""⟩) else
        (bif Nat.beq m 199 then ⟨"BackwardProofs", "restore", "(I)I"⟩ else ⟨"", "", ""⟩))) else
      (bif Nat.blt m 202 then (bif Nat.blt m 201 then (bif Nat.beq m 200 then ⟨"BackwardProofs", "requireSlot", "(I)V"⟩ else ⟨"", "", ""⟩) else
        (bif Nat.beq m 201 then ⟨"BackwardProofs", "undo", "()I"⟩ else ⟨"", "", ""⟩)) else
       (bif Nat.blt m 203 then (bif Nat.beq m 202 then ⟨"BackwardProofs", "save", "(I)I"⟩ else ⟨"", "", ""⟩) else
        (bif Nat.beq m 203 then ⟨"java/lang/StringBuilder", "append", "(I)Ljava/lang/StringBuilder;"⟩ else ⟨"", "", ""⟩)))) else
     (bif Nat.blt m 208 then (bif Nat.blt m 206 then (bif Nat.blt m 205 then (bif Nat.beq m 204 then ⟨"java/lang/StringBuilder", "toString", "()Ljava/lang/String;"⟩ else ⟨"", "", ""⟩) else
        (bif Nat.beq m 205 then ⟨"java/lang/StringBuilder", "length", "()I"⟩ else ⟨"", "", ""⟩)) else
       (bif Nat.blt m 207 then (bif Nat.beq m 206 then ⟨"java/lang/StringBuilder", "<init>", "()V"⟩ else ⟨"", "", ""⟩) else
        (bif Nat.beq m 207 then ⟨"BackwardProofsLaw", "next", "([I)I"⟩ else ⟨"", "", ""⟩))) else
      (bif Nat.blt m 210 then (bif Nat.blt m 209 then (bif Nat.beq m 208 then ⟨"BackwardProofsLaw", "load", "(LBackwardProofs;Ljava/lang/String;)I"⟩ else ⟨"", "", ""⟩) else
        (bif Nat.beq m 209 then ⟨"BackwardProofsLaw", "type", "(LBackwardProofs;Ljava/lang/String;)I"⟩ else ⟨"", "", ""⟩)) else
       (bif Nat.blt m 211 then (bif Nat.beq m 210 then ⟨"BackwardProofsLaw", "undone", "(LBackwardProofs;)I"⟩ else ⟨"", "", ""⟩) else
        (bif Nat.beq m 211 then ⟨"BackwardProofsLaw", "filled", "(LBackwardProofs;II)I"⟩ else ⟨"", "", ""⟩))))) else
    (bif Nat.blt m 220 then (bif Nat.blt m 216 then (bif Nat.blt m 214 then (bif Nat.blt m 213 then (bif Nat.beq m 212 then ⟨"BackwardProofsLaw", "priced", "(LBackwardProofs;II)I"⟩ else ⟨"", "", ""⟩) else
        (bif Nat.beq m 213 then ⟨"BackwardProofsLaw", "before", "(LBackwardProofs;Ljava/lang/String;)I"⟩ else ⟨"", "", ""⟩)) else
       (bif Nat.blt m 215 then (bif Nat.beq m 214 then ⟨"BackwardProofsLaw", "after", "(LBackwardProofs;Ljava/lang/String;)I"⟩ else ⟨"", "", ""⟩) else
        (bif Nat.beq m 215 then ⟨"BackwardProofsLaw", "proof", "([I)Ljava/lang/String;"⟩ else ⟨"", "", ""⟩))) else
      (bif Nat.blt m 218 then (bif Nat.blt m 217 then (bif Nat.beq m 216 then ⟨"BackwardProofsLaw", "formula", "(Ljava/lang/StringBuilder;ZI[I)V"⟩ else ⟨"", "", ""⟩) else
        (bif Nat.beq m 217 then ⟨"BackwardProofsLaw", "sum", "(LBackwardProofs;)J"⟩ else ⟨"", "", ""⟩)) else
       (bif Nat.blt m 219 then (bif Nat.beq m 218 then ⟨"BackwardProofsLaw", "adds", "(LBackwardProofs;)Z"⟩ else ⟨"", "", ""⟩) else
        (bif Nat.beq m 219 then ⟨"BackwardProofsLaw", "holds", "(JI)Z"⟩ else ⟨"", "", ""⟩)))) else
     (bif Nat.blt m 224 then (bif Nat.blt m 222 then (bif Nat.blt m 221 then (bif Nat.beq m 220 then ⟨"BackwardProofsLaw", "act", "(LBackwardProofs;[I)Z"⟩ else ⟨"", "", ""⟩) else
        (bif Nat.beq m 221 then ⟨"BackwardProofsLaw", "keep", "(LBackwardProofs;ILjava/lang/String;)I"⟩ else ⟨"", "", ""⟩)) else
       (bif Nat.blt m 223 then (bif Nat.beq m 222 then ⟨"BackwardProofsLaw", "less", "(LBackwardProofs;ILjava/lang/String;)I"⟩ else ⟨"", "", ""⟩) else
        (bif Nat.beq m 223 then ⟨"java/lang/Math", "max", "(II)I"⟩ else ⟨"", "", ""⟩))) else
      (bif Nat.blt m 226 then (bif Nat.blt m 225 then (bif Nat.beq m 224 then ⟨"java/lang/Math", "min", "(II)I"⟩ else ⟨"", "", ""⟩) else
        (bif Nat.beq m 225 then ⟨"java/lang/Math", "floorMod", "(II)I"⟩ else ⟨"", "", ""⟩)) else
       (bif Nat.blt m 227 then (bif Nat.beq m 226 then ⟨"java/lang/Long", "bitCount", "(J)I"⟩ else ⟨"", "", ""⟩) else
        (bif Nat.blt m 228 then (bif Nat.beq m 227 then ⟨"java/lang/Long", "numberOfTrailingZeros", "(J)I"⟩ else ⟨"", "", ""⟩) else
         (bif Nat.beq m 228 then ⟨"java/util/Arrays", "fill", "([JJ)V"⟩ else ⟨"", "", ""⟩))))))) else
   (bif Nat.blt m 245 then (bif Nat.blt m 237 then (bif Nat.blt m 233 then (bif Nat.blt m 231 then (bif Nat.blt m 230 then (bif Nat.beq m 229 then ⟨"java/util/Arrays", "copyOfRange", "([BII)[B"⟩ else ⟨"", "", ""⟩) else
        (bif Nat.beq m 230 then ⟨"java/util/Arrays", "copyOfRangeByte", "([BII)[B"⟩ else ⟨"", "", ""⟩)) else
       (bif Nat.blt m 232 then (bif Nat.beq m 231 then ⟨"java/util/Arrays", "checkLength", "(II)V"⟩ else ⟨"", "", ""⟩) else
        (bif Nat.beq m 232 then ⟨"java/util/Arrays", "fill", "([II)V"⟩ else ⟨"", "", ""⟩))) else
      (bif Nat.blt m 235 then (bif Nat.blt m 234 then (bif Nat.beq m 233 then ⟨"java/lang/Float", "floatToIntBits", "(F)I"⟩ else ⟨"", "", ""⟩) else
        (bif Nat.beq m 234 then ⟨"java/lang/Float", "isNaN", "(F)Z"⟩ else ⟨"", "", ""⟩)) else
       (bif Nat.blt m 236 then (bif Nat.beq m 235 then ⟨"java/lang/Double", "doubleToLongBits", "(D)J"⟩ else ⟨"", "", ""⟩) else
        (bif Nat.beq m 236 then ⟨"java/lang/Double", "isNaN", "(D)Z"⟩ else ⟨"", "", ""⟩)))) else
     (bif Nat.blt m 241 then (bif Nat.blt m 239 then (bif Nat.blt m 238 then (bif Nat.beq m 237 then ⟨"java/lang/AbstractStringBuilder", "<init>", "(Ljava/lang/String;)V"⟩ else ⟨"", "", ""⟩) else
        (bif Nat.beq m 238 then ⟨"java/lang/AbstractStringBuilder", "append", "(Ljava/lang/String;)Ljava/lang/AbstractStringBuilder;"⟩ else ⟨"", "", ""⟩)) else
       (bif Nat.blt m 240 then (bif Nat.beq m 239 then ⟨"java/lang/AbstractStringBuilder", "ensureCapacityInternal", "(I)V"⟩ else ⟨"", "", ""⟩) else
        (bif Nat.beq m 240 then ⟨"java/lang/AbstractStringBuilder", "newCapacity", "(I)I"⟩ else ⟨"", "", ""⟩))) else
      (bif Nat.blt m 243 then (bif Nat.blt m 242 then (bif Nat.beq m 241 then ⟨"java/lang/AbstractStringBuilder", "isLatin1", "()Z"⟩ else ⟨"", "", ""⟩) else
        (bif Nat.beq m 242 then ⟨"java/lang/AbstractStringBuilder", "putStringAt", "(ILjava/lang/String;)V"⟩ else ⟨"", "", ""⟩)) else
       (bif Nat.blt m 244 then (bif Nat.beq m 243 then ⟨"java/lang/AbstractStringBuilder", "inflateIfNeededFor", "(Ljava/lang/String;)V"⟩ else ⟨"", "", ""⟩) else
        (bif Nat.beq m 244 then ⟨"java/lang/AbstractStringBuilder", "append", "(C)Ljava/lang/AbstractStringBuilder;"⟩ else ⟨"", "", ""⟩))))) else
    (bif Nat.blt m 253 then (bif Nat.blt m 249 then (bif Nat.blt m 247 then (bif Nat.blt m 246 then (bif Nat.beq m 245 then ⟨"java/lang/AbstractStringBuilder", "append", "(I)Ljava/lang/AbstractStringBuilder;"⟩ else ⟨"", "", ""⟩) else
        (bif Nat.beq m 246 then ⟨"java/lang/AbstractStringBuilder", "getValue", "()[B"⟩ else ⟨"", "", ""⟩)) else
       (bif Nat.blt m 248 then (bif Nat.beq m 247 then ⟨"java/lang/AbstractStringBuilder", "length", "()I"⟩ else ⟨"", "", ""⟩) else
        (bif Nat.beq m 248 then ⟨"java/lang/AbstractStringBuilder", "<init>", "(I)V"⟩ else ⟨"", "", ""⟩))) else
      (bif Nat.blt m 251 then (bif Nat.blt m 250 then (bif Nat.beq m 249 then ⟨"java/lang/String", "length", "()I"⟩ else ⟨"", "", ""⟩) else
        (bif Nat.beq m 250 then ⟨"java/lang/String", "coder", "()B"⟩ else ⟨"", "", ""⟩)) else
       (bif Nat.blt m 252 then (bif Nat.beq m 251 then ⟨"java/lang/String", "charAt", "(I)C"⟩ else ⟨"", "", ""⟩) else
        (bif Nat.beq m 252 then ⟨"java/lang/String", "isLatin1", "()Z"⟩ else ⟨"", "", ""⟩)))) else
     (bif Nat.blt m 257 then (bif Nat.blt m 255 then (bif Nat.blt m 254 then (bif Nat.beq m 253 then ⟨"java/lang/String", "<init>", "(Ljava/lang/StringBuilder;)V"⟩ else ⟨"", "", ""⟩) else
        (bif Nat.beq m 254 then ⟨"java/lang/String", "<init>", "(Ljava/lang/AbstractStringBuilder;Ljava/lang/Void;)V"⟩ else ⟨"", "", ""⟩)) else
       (bif Nat.blt m 256 then (bif Nat.beq m 255 then ⟨"java/lang/Integer", "stringSize", "(I)I"⟩ else ⟨"", "", ""⟩) else
        (bif Nat.beq m 256 then ⟨"java/lang/Integer", "getChars", "(II[B)I"⟩ else ⟨"", "", ""⟩))) else
      (bif Nat.blt m 259 then (bif Nat.blt m 258 then (bif Nat.beq m 257 then ⟨"java/lang/Integer", "numberOfTrailingZeros", "(I)I"⟩ else ⟨"", "", ""⟩) else
        (bif Nat.beq m 258 then ⟨"jdk/internal/util/ArraysSupport", "newLength", "(III)I"⟩ else ⟨"", "", ""⟩)) else
       (bif Nat.blt m 260 then (bif Nat.beq m 259 then ⟨"java/lang/StringLatin1", "charAt", "([BI)C"⟩ else ⟨"", "", ""⟩) else
        (bif Nat.blt m 261 then (bif Nat.beq m 260 then ⟨"java/lang/StringLatin1", "canEncode", "(C)Z"⟩ else ⟨"", "", ""⟩) else
         (bif Nat.beq m 261 then ⟨"BackwardProofsLaw", "law", "([I)Z"⟩ else ⟨"", "", ""⟩))))))))))
noncomputable def zbytes (m : Nat) : ByteArray :=
 (bif Nat.blt m 131 then (bif Nat.blt m 65 then (bif Nat.blt m 32 then (bif Nat.blt m 16 then (bif Nat.blt m 8 then (bif Nat.blt m 4 then (bif Nat.blt m 2 then (bif Nat.blt m 1 then (bif Nat.beq m 0 then prog_2_method_1_code else ⟨#[]⟩) else
        (bif Nat.beq m 1 then prog_2_method_2_code else ⟨#[]⟩)) else
       (bif Nat.blt m 3 then (bif Nat.beq m 2 then prog_2_method_3_code else ⟨#[]⟩) else
        (bif Nat.beq m 3 then prog_2_method_6_code else ⟨#[]⟩))) else
      (bif Nat.blt m 6 then (bif Nat.blt m 5 then (bif Nat.beq m 4 then prog_2_method_7_code else ⟨#[]⟩) else
        (bif Nat.beq m 5 then prog_2_method_8_code else ⟨#[]⟩)) else
       (bif Nat.blt m 7 then (bif Nat.beq m 6 then prog_2_method_9_code else ⟨#[]⟩) else
        (bif Nat.beq m 7 then prog_2_method_4_code else ⟨#[]⟩)))) else
     (bif Nat.blt m 12 then (bif Nat.blt m 10 then (bif Nat.blt m 9 then (bif Nat.beq m 8 then prog_2_method_5_code else ⟨#[]⟩) else
        (bif Nat.beq m 9 then prog_2_method_12_code else ⟨#[]⟩)) else
       (bif Nat.blt m 11 then (bif Nat.beq m 10 then prog_2_method_11_code else ⟨#[]⟩) else
        (bif Nat.beq m 11 then prog_2_method_13_code else ⟨#[]⟩))) else
      (bif Nat.blt m 14 then (bif Nat.blt m 13 then (bif Nat.beq m 12 then prog_2_method_10_code else ⟨#[]⟩) else
        (bif Nat.beq m 13 then prog_3_method_1_code else ⟨#[]⟩)) else
       (bif Nat.blt m 15 then (bif Nat.beq m 14 then prog_3_method_2_code else ⟨#[]⟩) else
        (bif Nat.beq m 15 then prog_4_method_1_code else ⟨#[]⟩))))) else
    (bif Nat.blt m 24 then (bif Nat.blt m 20 then (bif Nat.blt m 18 then (bif Nat.blt m 17 then (bif Nat.beq m 16 then prog_4_method_2_code else ⟨#[]⟩) else
        (bif Nat.beq m 17 then prog_4_method_3_code else ⟨#[]⟩)) else
       (bif Nat.blt m 19 then (bif Nat.beq m 18 then prog_4_method_5_code else ⟨#[]⟩) else
        (bif Nat.beq m 19 then prog_4_method_7_code else ⟨#[]⟩))) else
      (bif Nat.blt m 22 then (bif Nat.blt m 21 then (bif Nat.beq m 20 then prog_4_method_4_code else ⟨#[]⟩) else
        (bif Nat.beq m 21 then prog_4_method_6_code else ⟨#[]⟩)) else
       (bif Nat.blt m 23 then (bif Nat.beq m 22 then prog_4_method_8_code else ⟨#[]⟩) else
        (bif Nat.beq m 23 then prog_5_method_1_code else ⟨#[]⟩)))) else
     (bif Nat.blt m 28 then (bif Nat.blt m 26 then (bif Nat.blt m 25 then (bif Nat.beq m 24 then prog_5_method_2_code else ⟨#[]⟩) else
        (bif Nat.beq m 25 then prog_5_method_4_code else ⟨#[]⟩)) else
       (bif Nat.blt m 27 then (bif Nat.beq m 26 then prog_5_method_6_code else ⟨#[]⟩) else
        (bif Nat.beq m 27 then prog_5_method_5_code else ⟨#[]⟩))) else
      (bif Nat.blt m 30 then (bif Nat.blt m 29 then (bif Nat.beq m 28 then prog_5_method_11_code else ⟨#[]⟩) else
        (bif Nat.beq m 29 then prog_5_method_12_code else ⟨#[]⟩)) else
       (bif Nat.blt m 31 then (bif Nat.beq m 30 then prog_5_method_7_code else ⟨#[]⟩) else
        (bif Nat.beq m 31 then prog_5_method_9_code else ⟨#[]⟩)))))) else
   (bif Nat.blt m 48 then (bif Nat.blt m 40 then (bif Nat.blt m 36 then (bif Nat.blt m 34 then (bif Nat.blt m 33 then (bif Nat.beq m 32 then prog_5_method_10_code else ⟨#[]⟩) else
        (bif Nat.beq m 33 then prog_5_method_8_code else ⟨#[]⟩)) else
       (bif Nat.blt m 35 then (bif Nat.beq m 34 then prog_5_method_3_code else ⟨#[]⟩) else
        (bif Nat.beq m 35 then prog_6_method_1_code else ⟨#[]⟩))) else
      (bif Nat.blt m 38 then (bif Nat.blt m 37 then (bif Nat.beq m 36 then prog_6_method_4_code else ⟨#[]⟩) else
        (bif Nat.beq m 37 then prog_6_method_2_code else ⟨#[]⟩)) else
       (bif Nat.blt m 39 then (bif Nat.beq m 38 then prog_6_method_17_code else ⟨#[]⟩) else
        (bif Nat.beq m 39 then prog_6_method_3_code else ⟨#[]⟩)))) else
     (bif Nat.blt m 44 then (bif Nat.blt m 42 then (bif Nat.blt m 41 then (bif Nat.beq m 40 then prog_6_method_10_code else ⟨#[]⟩) else
        (bif Nat.beq m 41 then prog_6_method_9_code else ⟨#[]⟩)) else
       (bif Nat.blt m 43 then (bif Nat.beq m 42 then prog_6_method_18_code else ⟨#[]⟩) else
        (bif Nat.beq m 43 then prog_6_method_19_code else ⟨#[]⟩))) else
      (bif Nat.blt m 46 then (bif Nat.blt m 45 then (bif Nat.beq m 44 then prog_6_method_20_code else ⟨#[]⟩) else
        (bif Nat.beq m 45 then prog_6_method_21_code else ⟨#[]⟩)) else
       (bif Nat.blt m 47 then (bif Nat.beq m 46 then prog_6_method_7_code else ⟨#[]⟩) else
        (bif Nat.beq m 47 then prog_6_method_6_code else ⟨#[]⟩))))) else
    (bif Nat.blt m 56 then (bif Nat.blt m 52 then (bif Nat.blt m 50 then (bif Nat.blt m 49 then (bif Nat.beq m 48 then prog_6_method_8_code else ⟨#[]⟩) else
        (bif Nat.beq m 49 then prog_6_method_22_code else ⟨#[]⟩)) else
       (bif Nat.blt m 51 then (bif Nat.beq m 50 then prog_6_method_11_code else ⟨#[]⟩) else
        (bif Nat.beq m 51 then prog_6_method_5_code else ⟨#[]⟩))) else
      (bif Nat.blt m 54 then (bif Nat.blt m 53 then (bif Nat.beq m 52 then prog_6_method_12_code else ⟨#[]⟩) else
        (bif Nat.beq m 53 then prog_6_method_13_code else ⟨#[]⟩)) else
       (bif Nat.blt m 55 then (bif Nat.beq m 54 then prog_6_method_16_code else ⟨#[]⟩) else
        (bif Nat.beq m 55 then prog_6_method_14_code else ⟨#[]⟩)))) else
     (bif Nat.blt m 60 then (bif Nat.blt m 58 then (bif Nat.blt m 57 then (bif Nat.beq m 56 then prog_6_method_15_code else ⟨#[]⟩) else
        (bif Nat.beq m 57 then prog_7_method_1_code else ⟨#[]⟩)) else
       (bif Nat.blt m 59 then (bif Nat.beq m 58 then prog_7_method_2_code else ⟨#[]⟩) else
        (bif Nat.beq m 59 then prog_7_method_4_code else ⟨#[]⟩))) else
      (bif Nat.blt m 62 then (bif Nat.blt m 61 then (bif Nat.beq m 60 then prog_7_method_7_code else ⟨#[]⟩) else
        (bif Nat.beq m 61 then prog_7_method_5_code else ⟨#[]⟩)) else
       (bif Nat.blt m 63 then (bif Nat.beq m 62 then prog_7_method_3_code else ⟨#[]⟩) else
        (bif Nat.blt m 64 then (bif Nat.beq m 63 then prog_7_method_6_code else ⟨#[]⟩) else
         (bif Nat.beq m 64 then prog_7_method_20_code else ⟨#[]⟩)))))))) else
  (bif Nat.blt m 98 then (bif Nat.blt m 81 then (bif Nat.blt m 73 then (bif Nat.blt m 69 then (bif Nat.blt m 67 then (bif Nat.blt m 66 then (bif Nat.beq m 65 then prog_7_method_8_code else ⟨#[]⟩) else
        (bif Nat.beq m 66 then prog_7_method_21_code else ⟨#[]⟩)) else
       (bif Nat.blt m 68 then (bif Nat.beq m 67 then prog_7_method_9_code else ⟨#[]⟩) else
        (bif Nat.beq m 68 then prog_7_method_13_code else ⟨#[]⟩))) else
      (bif Nat.blt m 71 then (bif Nat.blt m 70 then (bif Nat.beq m 69 then prog_7_method_14_code else ⟨#[]⟩) else
        (bif Nat.beq m 70 then prog_7_method_11_code else ⟨#[]⟩)) else
       (bif Nat.blt m 72 then (bif Nat.beq m 71 then prog_7_method_10_code else ⟨#[]⟩) else
        (bif Nat.beq m 72 then prog_7_method_12_code else ⟨#[]⟩)))) else
     (bif Nat.blt m 77 then (bif Nat.blt m 75 then (bif Nat.blt m 74 then (bif Nat.beq m 73 then prog_7_method_22_code else ⟨#[]⟩) else
        (bif Nat.beq m 74 then prog_7_method_24_code else ⟨#[]⟩)) else
       (bif Nat.blt m 76 then (bif Nat.beq m 75 then prog_7_method_15_code else ⟨#[]⟩) else
        (bif Nat.beq m 76 then prog_7_method_16_code else ⟨#[]⟩))) else
      (bif Nat.blt m 79 then (bif Nat.blt m 78 then (bif Nat.beq m 77 then prog_7_method_23_code else ⟨#[]⟩) else
        (bif Nat.beq m 78 then prog_7_method_18_code else ⟨#[]⟩)) else
       (bif Nat.blt m 80 then (bif Nat.beq m 79 then prog_7_method_19_code else ⟨#[]⟩) else
        (bif Nat.beq m 80 then prog_32_method_3_code else ⟨#[]⟩))))) else
    (bif Nat.blt m 89 then (bif Nat.blt m 85 then (bif Nat.blt m 83 then (bif Nat.blt m 82 then (bif Nat.beq m 81 then prog_8_method_1_code else ⟨#[]⟩) else
        (bif Nat.beq m 82 then prog_8_method_2_code else ⟨#[]⟩)) else
       (bif Nat.blt m 84 then (bif Nat.beq m 83 then prog_8_method_4_code else ⟨#[]⟩) else
        (bif Nat.beq m 84 then prog_8_method_6_code else ⟨#[]⟩))) else
      (bif Nat.blt m 87 then (bif Nat.blt m 86 then (bif Nat.beq m 85 then prog_8_method_11_code else ⟨#[]⟩) else
        (bif Nat.beq m 86 then prog_8_method_9_code else ⟨#[]⟩)) else
       (bif Nat.blt m 88 then (bif Nat.beq m 87 then prog_8_method_7_code else ⟨#[]⟩) else
        (bif Nat.beq m 88 then prog_8_method_10_code else ⟨#[]⟩)))) else
     (bif Nat.blt m 93 then (bif Nat.blt m 91 then (bif Nat.blt m 90 then (bif Nat.beq m 89 then prog_8_method_8_code else ⟨#[]⟩) else
        (bif Nat.beq m 90 then prog_8_method_5_code else ⟨#[]⟩)) else
       (bif Nat.blt m 92 then (bif Nat.beq m 91 then prog_8_method_3_code else ⟨#[]⟩) else
        (bif Nat.beq m 92 then prog_9_method_1_code else ⟨#[]⟩))) else
      (bif Nat.blt m 95 then (bif Nat.blt m 94 then (bif Nat.beq m 93 then prog_9_method_2_code else ⟨#[]⟩) else
        (bif Nat.beq m 94 then prog_9_method_3_code else ⟨#[]⟩)) else
       (bif Nat.blt m 96 then (bif Nat.beq m 95 then prog_9_method_18_code else ⟨#[]⟩) else
        (bif Nat.blt m 97 then (bif Nat.beq m 96 then prog_9_method_19_code else ⟨#[]⟩) else
         (bif Nat.beq m 97 then prog_9_method_20_code else ⟨#[]⟩))))))) else
   (bif Nat.blt m 114 then (bif Nat.blt m 106 then (bif Nat.blt m 102 then (bif Nat.blt m 100 then (bif Nat.blt m 99 then (bif Nat.beq m 98 then prog_9_method_21_code else ⟨#[]⟩) else
        (bif Nat.beq m 99 then prog_9_method_17_code else ⟨#[]⟩)) else
       (bif Nat.blt m 101 then (bif Nat.beq m 100 then prog_9_method_4_code else ⟨#[]⟩) else
        (bif Nat.beq m 101 then prog_9_method_5_code else ⟨#[]⟩))) else
      (bif Nat.blt m 104 then (bif Nat.blt m 103 then (bif Nat.beq m 102 then prog_9_method_10_code else ⟨#[]⟩) else
        (bif Nat.beq m 103 then prog_9_method_9_code else ⟨#[]⟩)) else
       (bif Nat.blt m 105 then (bif Nat.beq m 104 then prog_9_method_14_code else ⟨#[]⟩) else
        (bif Nat.beq m 105 then prog_9_method_8_code else ⟨#[]⟩)))) else
     (bif Nat.blt m 110 then (bif Nat.blt m 108 then (bif Nat.blt m 107 then (bif Nat.beq m 106 then prog_9_method_16_code else ⟨#[]⟩) else
        (bif Nat.beq m 107 then prog_9_method_11_code else ⟨#[]⟩)) else
       (bif Nat.blt m 109 then (bif Nat.beq m 108 then prog_9_method_12_code else ⟨#[]⟩) else
        (bif Nat.beq m 109 then prog_9_method_7_code else ⟨#[]⟩))) else
      (bif Nat.blt m 112 then (bif Nat.blt m 111 then (bif Nat.beq m 110 then prog_9_method_15_code else ⟨#[]⟩) else
        (bif Nat.beq m 111 then prog_9_method_6_code else ⟨#[]⟩)) else
       (bif Nat.blt m 113 then (bif Nat.beq m 112 then prog_9_method_13_code else ⟨#[]⟩) else
        (bif Nat.beq m 113 then prog_10_method_1_code else ⟨#[]⟩))))) else
    (bif Nat.blt m 122 then (bif Nat.blt m 118 then (bif Nat.blt m 116 then (bif Nat.blt m 115 then (bif Nat.beq m 114 then prog_10_method_4_code else ⟨#[]⟩) else
        (bif Nat.beq m 115 then prog_10_method_9_code else ⟨#[]⟩)) else
       (bif Nat.blt m 117 then (bif Nat.beq m 116 then prog_10_method_10_code else ⟨#[]⟩) else
        (bif Nat.beq m 117 then prog_10_method_2_code else ⟨#[]⟩))) else
      (bif Nat.blt m 120 then (bif Nat.blt m 119 then (bif Nat.beq m 118 then prog_10_method_11_code else ⟨#[]⟩) else
        (bif Nat.beq m 119 then prog_10_method_6_code else ⟨#[]⟩)) else
       (bif Nat.blt m 121 then (bif Nat.beq m 120 then prog_10_method_5_code else ⟨#[]⟩) else
        (bif Nat.beq m 121 then prog_10_method_8_code else ⟨#[]⟩)))) else
     (bif Nat.blt m 126 then (bif Nat.blt m 124 then (bif Nat.blt m 123 then (bif Nat.beq m 122 then prog_10_method_3_code else ⟨#[]⟩) else
        (bif Nat.beq m 123 then prog_10_method_7_code else ⟨#[]⟩)) else
       (bif Nat.blt m 125 then (bif Nat.beq m 124 then prog_11_method_1_code else ⟨#[]⟩) else
        (bif Nat.beq m 125 then prog_11_method_8_code else ⟨#[]⟩))) else
      (bif Nat.blt m 128 then (bif Nat.blt m 127 then (bif Nat.beq m 126 then prog_11_method_3_code else ⟨#[]⟩) else
        (bif Nat.beq m 127 then prog_11_method_9_code else ⟨#[]⟩)) else
       (bif Nat.blt m 129 then (bif Nat.beq m 128 then prog_11_method_6_code else ⟨#[]⟩) else
        (bif Nat.blt m 130 then (bif Nat.beq m 129 then prog_11_method_4_code else ⟨#[]⟩) else
         (bif Nat.beq m 130 then prog_11_method_5_code else ⟨#[]⟩))))))))) else
 (bif Nat.blt m 196 then (bif Nat.blt m 163 then (bif Nat.blt m 147 then (bif Nat.blt m 139 then (bif Nat.blt m 135 then (bif Nat.blt m 133 then (bif Nat.blt m 132 then (bif Nat.beq m 131 then prog_11_method_7_code else ⟨#[]⟩) else
        (bif Nat.beq m 132 then prog_11_method_12_code else ⟨#[]⟩)) else
       (bif Nat.blt m 134 then (bif Nat.beq m 133 then prog_11_method_10_code else ⟨#[]⟩) else
        (bif Nat.beq m 134 then prog_11_method_2_code else ⟨#[]⟩))) else
      (bif Nat.blt m 137 then (bif Nat.blt m 136 then (bif Nat.beq m 135 then prog_11_method_11_code else ⟨#[]⟩) else
        (bif Nat.beq m 136 then prog_12_method_5_code else ⟨#[]⟩)) else
       (bif Nat.blt m 138 then (bif Nat.beq m 137 then prog_12_method_3_code else ⟨#[]⟩) else
        (bif Nat.beq m 138 then prog_12_method_2_code else ⟨#[]⟩)))) else
     (bif Nat.blt m 143 then (bif Nat.blt m 141 then (bif Nat.blt m 140 then (bif Nat.beq m 139 then prog_12_method_4_code else ⟨#[]⟩) else
        (bif Nat.beq m 140 then prog_12_method_7_code else ⟨#[]⟩)) else
       (bif Nat.blt m 142 then (bif Nat.beq m 141 then prog_12_method_8_code else ⟨#[]⟩) else
        (bif Nat.beq m 142 then prog_12_method_10_code else ⟨#[]⟩))) else
      (bif Nat.blt m 145 then (bif Nat.blt m 144 then (bif Nat.beq m 143 then prog_12_method_11_code else ⟨#[]⟩) else
        (bif Nat.beq m 144 then prog_12_method_9_code else ⟨#[]⟩)) else
       (bif Nat.blt m 146 then (bif Nat.beq m 145 then prog_12_method_6_code else ⟨#[]⟩) else
        (bif Nat.beq m 146 then prog_1_method_1_code else ⟨#[]⟩))))) else
    (bif Nat.blt m 155 then (bif Nat.blt m 151 then (bif Nat.blt m 149 then (bif Nat.blt m 148 then (bif Nat.beq m 147 then prog_1_method_4_code else ⟨#[]⟩) else
        (bif Nat.beq m 148 then prog_32_method_80_code else ⟨#[]⟩)) else
       (bif Nat.blt m 150 then (bif Nat.beq m 149 then prog_1_method_8_code else ⟨#[]⟩) else
        (bif Nat.beq m 150 then prog_1_method_9_code else ⟨#[]⟩))) else
      (bif Nat.blt m 153 then (bif Nat.blt m 152 then (bif Nat.beq m 151 then prog_1_method_13_code else ⟨#[]⟩) else
        (bif Nat.beq m 152 then prog_1_method_16_code else ⟨#[]⟩)) else
       (bif Nat.blt m 154 then (bif Nat.beq m 153 then prog_1_method_23_code else ⟨#[]⟩) else
        (bif Nat.beq m 154 then prog_1_method_24_code else ⟨#[]⟩)))) else
     (bif Nat.blt m 159 then (bif Nat.blt m 157 then (bif Nat.blt m 156 then (bif Nat.beq m 155 then prog_1_method_25_code else ⟨#[]⟩) else
        (bif Nat.beq m 156 then prog_1_method_26_code else ⟨#[]⟩)) else
       (bif Nat.blt m 158 then (bif Nat.beq m 157 then prog_1_method_27_code else ⟨#[]⟩) else
        (bif Nat.beq m 158 then prog_1_method_2_code else ⟨#[]⟩))) else
      (bif Nat.blt m 161 then (bif Nat.blt m 160 then (bif Nat.beq m 159 then prog_1_method_45_code else ⟨#[]⟩) else
        (bif Nat.beq m 160 then prog_1_method_3_code else ⟨#[]⟩)) else
       (bif Nat.blt m 162 then (bif Nat.beq m 161 then prog_1_method_51_code else ⟨#[]⟩) else
        (bif Nat.beq m 162 then prog_1_method_47_code else ⟨#[]⟩)))))) else
   (bif Nat.blt m 179 then (bif Nat.blt m 171 then (bif Nat.blt m 167 then (bif Nat.blt m 165 then (bif Nat.blt m 164 then (bif Nat.beq m 163 then prog_1_method_6_code else ⟨#[]⟩) else
        (bif Nat.beq m 164 then prog_1_method_7_code else ⟨#[]⟩)) else
       (bif Nat.blt m 166 then (bif Nat.beq m 165 then prog_1_method_54_code else ⟨#[]⟩) else
        (bif Nat.beq m 166 then prog_1_method_48_code else ⟨#[]⟩))) else
      (bif Nat.blt m 169 then (bif Nat.blt m 168 then (bif Nat.beq m 167 then prog_1_method_10_code else ⟨#[]⟩) else
        (bif Nat.beq m 168 then prog_1_method_55_code else ⟨#[]⟩)) else
       (bif Nat.blt m 170 then (bif Nat.beq m 169 then prog_1_method_11_code else ⟨#[]⟩) else
        (bif Nat.beq m 170 then prog_1_method_52_code else ⟨#[]⟩)))) else
     (bif Nat.blt m 175 then (bif Nat.blt m 173 then (bif Nat.blt m 172 then (bif Nat.beq m 171 then prog_1_method_12_code else ⟨#[]⟩) else
        (bif Nat.beq m 172 then prog_1_method_14_code else ⟨#[]⟩)) else
       (bif Nat.blt m 174 then (bif Nat.beq m 173 then prog_1_method_57_code else ⟨#[]⟩) else
        (bif Nat.beq m 174 then prog_1_method_15_code else ⟨#[]⟩))) else
      (bif Nat.blt m 177 then (bif Nat.blt m 176 then (bif Nat.beq m 175 then prog_1_method_17_code else ⟨#[]⟩) else
        (bif Nat.beq m 176 then prog_1_method_18_code else ⟨#[]⟩)) else
       (bif Nat.blt m 178 then (bif Nat.beq m 177 then prog_1_method_19_code else ⟨#[]⟩) else
        (bif Nat.beq m 178 then prog_1_method_20_code else ⟨#[]⟩))))) else
    (bif Nat.blt m 187 then (bif Nat.blt m 183 then (bif Nat.blt m 181 then (bif Nat.blt m 180 then (bif Nat.beq m 179 then prog_1_method_21_code else ⟨#[]⟩) else
        (bif Nat.beq m 180 then prog_32_method_7_code else ⟨#[]⟩)) else
       (bif Nat.blt m 182 then (bif Nat.beq m 181 then prog_1_method_28_code else ⟨#[]⟩) else
        (bif Nat.beq m 182 then prog_1_method_56_code else ⟨#[]⟩))) else
      (bif Nat.blt m 185 then (bif Nat.blt m 184 then (bif Nat.beq m 183 then prog_1_method_49_code else ⟨#[]⟩) else
        (bif Nat.beq m 184 then prog_1_method_29_code else ⟨#[]⟩)) else
       (bif Nat.blt m 186 then (bif Nat.beq m 185 then prog_1_method_30_code else ⟨#[]⟩) else
        (bif Nat.beq m 186 then prog_1_method_31_code else ⟨#[]⟩)))) else
     (bif Nat.blt m 191 then (bif Nat.blt m 189 then (bif Nat.blt m 188 then (bif Nat.beq m 187 then prog_1_method_32_code else ⟨#[]⟩) else
        (bif Nat.beq m 188 then prog_1_method_50_code else ⟨#[]⟩)) else
       (bif Nat.blt m 190 then (bif Nat.beq m 189 then prog_32_method_14_code else ⟨#[]⟩) else
        (bif Nat.beq m 190 then prog_1_method_34_code else ⟨#[]⟩))) else
      (bif Nat.blt m 193 then (bif Nat.blt m 192 then (bif Nat.beq m 191 then prog_1_method_35_code else ⟨#[]⟩) else
        (bif Nat.beq m 192 then prog_1_method_36_code else ⟨#[]⟩)) else
       (bif Nat.blt m 194 then (bif Nat.beq m 193 then prog_1_method_46_code else ⟨#[]⟩) else
        (bif Nat.blt m 195 then (bif Nat.beq m 194 then prog_1_method_37_code else ⟨#[]⟩) else
         (bif Nat.beq m 195 then prog_1_method_38_code else ⟨#[]⟩)))))))) else
  (bif Nat.blt m 229 then (bif Nat.blt m 212 then (bif Nat.blt m 204 then (bif Nat.blt m 200 then (bif Nat.blt m 198 then (bif Nat.blt m 197 then (bif Nat.beq m 196 then prog_1_method_39_code else ⟨#[]⟩) else
        (bif Nat.beq m 197 then prog_1_method_40_code else ⟨#[]⟩)) else
       (bif Nat.blt m 199 then (bif Nat.beq m 198 then prog_1_method_41_code else ⟨#[]⟩) else
        (bif Nat.beq m 199 then prog_1_method_42_code else ⟨#[]⟩))) else
      (bif Nat.blt m 202 then (bif Nat.blt m 201 then (bif Nat.beq m 200 then prog_1_method_53_code else ⟨#[]⟩) else
        (bif Nat.beq m 201 then prog_1_method_43_code else ⟨#[]⟩)) else
       (bif Nat.blt m 203 then (bif Nat.beq m 202 then prog_1_method_44_code else ⟨#[]⟩) else
        (bif Nat.beq m 203 then prog_32_method_15_code else ⟨#[]⟩)))) else
     (bif Nat.blt m 208 then (bif Nat.blt m 206 then (bif Nat.blt m 205 then (bif Nat.beq m 204 then prog_32_method_42_code else ⟨#[]⟩) else
        (bif Nat.beq m 205 then prog_32_method_93_code else ⟨#[]⟩)) else
       (bif Nat.blt m 207 then (bif Nat.beq m 206 then prog_32_method_1_code else ⟨#[]⟩) else
        (bif Nat.beq m 207 then method_2_code else ⟨#[]⟩))) else
      (bif Nat.blt m 210 then (bif Nat.blt m 209 then (bif Nat.beq m 208 then method_4_code else ⟨#[]⟩) else
        (bif Nat.beq m 209 then method_3_code else ⟨#[]⟩)) else
       (bif Nat.blt m 211 then (bif Nat.beq m 210 then method_5_code else ⟨#[]⟩) else
        (bif Nat.beq m 211 then method_6_code else ⟨#[]⟩))))) else
    (bif Nat.blt m 220 then (bif Nat.blt m 216 then (bif Nat.blt m 214 then (bif Nat.blt m 213 then (bif Nat.beq m 212 then method_7_code else ⟨#[]⟩) else
        (bif Nat.beq m 213 then method_8_code else ⟨#[]⟩)) else
       (bif Nat.blt m 215 then (bif Nat.beq m 214 then method_9_code else ⟨#[]⟩) else
        (bif Nat.beq m 215 then method_13_code else ⟨#[]⟩))) else
      (bif Nat.blt m 218 then (bif Nat.blt m 217 then (bif Nat.beq m 216 then method_12_code else ⟨#[]⟩) else
        (bif Nat.beq m 217 then method_15_code else ⟨#[]⟩)) else
       (bif Nat.blt m 219 then (bif Nat.beq m 218 then method_16_code else ⟨#[]⟩) else
        (bif Nat.beq m 219 then method_14_code else ⟨#[]⟩)))) else
     (bif Nat.blt m 224 then (bif Nat.blt m 222 then (bif Nat.blt m 221 then (bif Nat.beq m 220 then method_17_code else ⟨#[]⟩) else
        (bif Nat.beq m 221 then method_10_code else ⟨#[]⟩)) else
       (bif Nat.blt m 223 then (bif Nat.beq m 222 then method_11_code else ⟨#[]⟩) else
        (bif Nat.beq m 223 then prog_28_method_65_code else ⟨#[]⟩))) else
      (bif Nat.blt m 226 then (bif Nat.blt m 225 then (bif Nat.beq m 224 then prog_28_method_69_code else ⟨#[]⟩) else
        (bif Nat.beq m 225 then prog_28_method_50_code else ⟨#[]⟩)) else
       (bif Nat.blt m 227 then (bif Nat.beq m 226 then prog_27_method_50_code else ⟨#[]⟩) else
        (bif Nat.blt m 228 then (bif Nat.beq m 227 then prog_27_method_49_code else ⟨#[]⟩) else
         (bif Nat.beq m 228 then prog_39_method_101_code else ⟨#[]⟩))))))) else
   (bif Nat.blt m 245 then (bif Nat.blt m 237 then (bif Nat.blt m 233 then (bif Nat.blt m 231 then (bif Nat.blt m 230 then (bif Nat.beq m 229 then prog_39_method_132_code else ⟨#[]⟩) else
        (bif Nat.beq m 230 then prog_39_method_133_code else ⟨#[]⟩)) else
       (bif Nat.blt m 232 then (bif Nat.beq m 231 then prog_39_method_131_code else ⟨#[]⟩) else
        (bif Nat.beq m 232 then prog_39_method_103_code else ⟨#[]⟩))) else
      (bif Nat.blt m 235 then (bif Nat.blt m 234 then (bif Nat.beq m 233 then prog_23_method_24_code else ⟨#[]⟩) else
        (bif Nat.beq m 234 then prog_23_method_6_code else ⟨#[]⟩)) else
       (bif Nat.blt m 236 then (bif Nat.beq m 235 then prog_21_method_23_code else ⟨#[]⟩) else
        (bif Nat.beq m 236 then prog_21_method_6_code else ⟨#[]⟩)))) else
     (bif Nat.blt m 241 then (bif Nat.blt m 239 then (bif Nat.blt m 238 then (bif Nat.beq m 237 then prog_16_method_3_code else ⟨#[]⟩) else
        (bif Nat.beq m 238 then prog_16_method_22_code else ⟨#[]⟩)) else
       (bif Nat.blt m 240 then (bif Nat.beq m 239 then prog_16_method_9_code else ⟨#[]⟩) else
        (bif Nat.beq m 240 then prog_16_method_10_code else ⟨#[]⟩))) else
      (bif Nat.blt m 243 then (bif Nat.blt m 242 then (bif Nat.beq m 241 then prog_16_method_68_code else ⟨#[]⟩) else
        (bif Nat.beq m 242 then prog_16_method_73_code else ⟨#[]⟩)) else
       (bif Nat.blt m 244 then (bif Nat.beq m 243 then prog_16_method_71_code else ⟨#[]⟩) else
        (bif Nat.beq m 244 then prog_16_method_31_code else ⟨#[]⟩))))) else
    (bif Nat.blt m 253 then (bif Nat.blt m 249 then (bif Nat.blt m 247 then (bif Nat.blt m 246 then (bif Nat.beq m 245 then prog_16_method_32_code else ⟨#[]⟩) else
        (bif Nat.beq m 246 then prog_16_method_64_code else ⟨#[]⟩)) else
       (bif Nat.blt m 248 then (bif Nat.beq m 247 then prog_16_method_6_code else ⟨#[]⟩) else
        (bif Nat.beq m 248 then prog_16_method_2_code else ⟨#[]⟩))) else
      (bif Nat.blt m 251 then (bif Nat.blt m 250 then (bif Nat.beq m 249 then prog_31_method_54_code else ⟨#[]⟩) else
        (bif Nat.beq m 250 then prog_31_method_152_code else ⟨#[]⟩)) else
       (bif Nat.blt m 252 then (bif Nat.beq m 251 then prog_31_method_56_code else ⟨#[]⟩) else
        (bif Nat.beq m 252 then prog_31_method_154_code else ⟨#[]⟩)))) else
     (bif Nat.blt m 257 then (bif Nat.blt m 255 then (bif Nat.blt m 254 then (bif Nat.beq m 253 then prog_31_method_53_code else ⟨#[]⟩) else
        (bif Nat.beq m 254 then prog_31_method_150_code else ⟨#[]⟩)) else
       (bif Nat.blt m 256 then (bif Nat.beq m 255 then prog_26_method_13_code else ⟨#[]⟩) else
        (bif Nat.beq m 256 then prog_26_method_12_code else ⟨#[]⟩))) else
      (bif Nat.blt m 259 then (bif Nat.blt m 258 then (bif Nat.beq m 257 then prog_26_method_48_code else ⟨#[]⟩) else
        (bif Nat.beq m 258 then prog_41_method_27_code else ⟨#[]⟩)) else
       (bif Nat.blt m 260 then (bif Nat.beq m 259 then prog_33_method_2_code else ⟨#[]⟩) else
        (bif Nat.blt m 261 then (bif Nat.beq m 260 then prog_33_method_3_code else ⟨#[]⟩) else
         (bif Nat.beq m 261 then code else ⟨#[]⟩))))))))))
noncomputable def zlen (m : Nat) : Nat :=
 (bif Nat.blt m 131 then (bif Nat.blt m 65 then (bif Nat.blt m 32 then (bif Nat.blt m 16 then (bif Nat.blt m 8 then (bif Nat.blt m 4 then (bif Nat.blt m 2 then (bif Nat.blt m 1 then (bif Nat.beq m 0 then 31 else 0) else
        (bif Nat.beq m 1 then 103 else 0)) else
       (bif Nat.blt m 3 then (bif Nat.beq m 2 then 151 else 0) else
        (bif Nat.beq m 3 then 18 else 0))) else
      (bif Nat.blt m 6 then (bif Nat.blt m 5 then (bif Nat.beq m 4 then 27 else 0) else
        (bif Nat.beq m 5 then 13 else 0)) else
       (bif Nat.blt m 7 then (bif Nat.beq m 6 then 58 else 0) else
        (bif Nat.beq m 7 then 130 else 0)))) else
     (bif Nat.blt m 12 then (bif Nat.blt m 10 then (bif Nat.blt m 9 then (bif Nat.beq m 8 then 68 else 0) else
        (bif Nat.beq m 9 then 21 else 0)) else
       (bif Nat.blt m 11 then (bif Nat.beq m 10 then 12 else 0) else
        (bif Nat.beq m 11 then 32 else 0))) else
      (bif Nat.blt m 14 then (bif Nat.blt m 13 then (bif Nat.beq m 12 then 20 else 0) else
        (bif Nat.beq m 13 then 18 else 0)) else
       (bif Nat.blt m 15 then (bif Nat.beq m 14 then 6 else 0) else
        (bif Nat.beq m 15 then 84 else 0))))) else
    (bif Nat.blt m 24 then (bif Nat.blt m 20 then (bif Nat.blt m 18 then (bif Nat.blt m 17 then (bif Nat.beq m 16 then 26 else 0) else
        (bif Nat.beq m 17 then 44 else 0)) else
       (bif Nat.blt m 19 then (bif Nat.beq m 18 then 24 else 0) else
        (bif Nat.beq m 19 then 19 else 0))) else
      (bif Nat.blt m 22 then (bif Nat.blt m 21 then (bif Nat.beq m 20 then 44 else 0) else
        (bif Nat.beq m 21 then 27 else 0)) else
       (bif Nat.blt m 23 then (bif Nat.beq m 22 then 29 else 0) else
        (bif Nat.beq m 23 then 25 else 0)))) else
     (bif Nat.blt m 28 then (bif Nat.blt m 26 then (bif Nat.blt m 25 then (bif Nat.beq m 24 then 19 else 0) else
        (bif Nat.beq m 25 then 109 else 0)) else
       (bif Nat.blt m 27 then (bif Nat.beq m 26 then 35 else 0) else
        (bif Nat.beq m 27 then 24 else 0))) else
      (bif Nat.blt m 30 then (bif Nat.blt m 29 then (bif Nat.beq m 28 then 162 else 0) else
        (bif Nat.beq m 29 then 79 else 0)) else
       (bif Nat.blt m 31 then (bif Nat.beq m 30 then 124 else 0) else
        (bif Nat.beq m 31 then 152 else 0)))))) else
   (bif Nat.blt m 48 then (bif Nat.blt m 40 then (bif Nat.blt m 36 then (bif Nat.blt m 34 then (bif Nat.blt m 33 then (bif Nat.beq m 32 then 46 else 0) else
        (bif Nat.beq m 33 then 80 else 0)) else
       (bif Nat.blt m 35 then (bif Nat.beq m 34 then 25 else 0) else
        (bif Nat.beq m 35 then 112 else 0))) else
      (bif Nat.blt m 38 then (bif Nat.blt m 37 then (bif Nat.beq m 36 then 19 else 0) else
        (bif Nat.beq m 37 then 24 else 0)) else
       (bif Nat.blt m 39 then (bif Nat.beq m 38 then 202 else 0) else
        (bif Nat.beq m 39 then 13 else 0)))) else
     (bif Nat.blt m 44 then (bif Nat.blt m 42 then (bif Nat.blt m 41 then (bif Nat.beq m 40 then 19 else 0) else
        (bif Nat.beq m 41 then 19 else 0)) else
       (bif Nat.blt m 43 then (bif Nat.beq m 42 then 41 else 0) else
        (bif Nat.beq m 43 then 72 else 0))) else
      (bif Nat.blt m 46 then (bif Nat.blt m 45 then (bif Nat.beq m 44 then 16 else 0) else
        (bif Nat.beq m 45 then 16 else 0)) else
       (bif Nat.blt m 47 then (bif Nat.beq m 46 then 19 else 0) else
        (bif Nat.beq m 47 then 19 else 0))))) else
    (bif Nat.blt m 56 then (bif Nat.blt m 52 then (bif Nat.blt m 50 then (bif Nat.blt m 49 then (bif Nat.beq m 48 then 19 else 0) else
        (bif Nat.beq m 49 then 84 else 0)) else
       (bif Nat.blt m 51 then (bif Nat.beq m 50 then 19 else 0) else
        (bif Nat.beq m 51 then 19 else 0))) else
      (bif Nat.blt m 54 then (bif Nat.blt m 53 then (bif Nat.beq m 52 then 22 else 0) else
        (bif Nat.beq m 53 then 29 else 0)) else
       (bif Nat.blt m 55 then (bif Nat.beq m 54 then 71 else 0) else
        (bif Nat.beq m 55 then 40 else 0)))) else
     (bif Nat.blt m 60 then (bif Nat.blt m 58 then (bif Nat.blt m 57 then (bif Nat.beq m 56 then 36 else 0) else
        (bif Nat.beq m 57 then 35 else 0)) else
       (bif Nat.blt m 59 then (bif Nat.beq m 58 then 61 else 0) else
        (bif Nat.beq m 59 then 167 else 0))) else
      (bif Nat.blt m 62 then (bif Nat.blt m 61 then (bif Nat.beq m 60 then 70 else 0) else
        (bif Nat.beq m 61 then 32 else 0)) else
       (bif Nat.blt m 63 then (bif Nat.beq m 62 then 108 else 0) else
        (bif Nat.blt m 64 then (bif Nat.beq m 63 then 35 else 0) else
         (bif Nat.beq m 64 then 60 else 0)))))))) else
  (bif Nat.blt m 98 then (bif Nat.blt m 81 then (bif Nat.blt m 73 then (bif Nat.blt m 69 then (bif Nat.blt m 67 then (bif Nat.blt m 66 then (bif Nat.beq m 65 then 13 else 0) else
        (bif Nat.beq m 66 then 51 else 0)) else
       (bif Nat.blt m 68 then (bif Nat.beq m 67 then 29 else 0) else
        (bif Nat.beq m 68 then 128 else 0))) else
      (bif Nat.blt m 71 then (bif Nat.blt m 70 then (bif Nat.beq m 69 then 34 else 0) else
        (bif Nat.beq m 70 then 37 else 0)) else
       (bif Nat.blt m 72 then (bif Nat.beq m 71 then 25 else 0) else
        (bif Nat.beq m 72 then 19 else 0)))) else
     (bif Nat.blt m 77 then (bif Nat.blt m 75 then (bif Nat.blt m 74 then (bif Nat.beq m 73 then 60 else 0) else
        (bif Nat.beq m 74 then 106 else 0)) else
       (bif Nat.blt m 76 then (bif Nat.beq m 75 then 22 else 0) else
        (bif Nat.beq m 76 then 23 else 0))) else
      (bif Nat.blt m 79 then (bif Nat.blt m 78 then (bif Nat.beq m 77 then 108 else 0) else
        (bif Nat.beq m 78 then 120 else 0)) else
       (bif Nat.blt m 80 then (bif Nat.beq m 79 then 39 else 0) else
        (bif Nat.beq m 80 then 6 else 0))))) else
    (bif Nat.blt m 89 then (bif Nat.blt m 85 then (bif Nat.blt m 83 then (bif Nat.blt m 82 then (bif Nat.beq m 81 then 28 else 0) else
        (bif Nat.beq m 82 then 105 else 0)) else
       (bif Nat.blt m 84 then (bif Nat.beq m 83 then 150 else 0) else
        (bif Nat.beq m 84 then 42 else 0))) else
      (bif Nat.blt m 87 then (bif Nat.blt m 86 then (bif Nat.beq m 85 then 32 else 0) else
        (bif Nat.beq m 86 then 18 else 0)) else
       (bif Nat.blt m 88 then (bif Nat.beq m 87 then 33 else 0) else
        (bif Nat.beq m 88 then 18 else 0)))) else
     (bif Nat.blt m 93 then (bif Nat.blt m 91 then (bif Nat.blt m 90 then (bif Nat.beq m 89 then 33 else 0) else
        (bif Nat.beq m 90 then 63 else 0)) else
       (bif Nat.blt m 92 then (bif Nat.beq m 91 then 65 else 0) else
        (bif Nat.beq m 92 then 152 else 0))) else
      (bif Nat.blt m 95 then (bif Nat.blt m 94 then (bif Nat.beq m 93 then 73 else 0) else
        (bif Nat.beq m 94 then 123 else 0)) else
       (bif Nat.blt m 96 then (bif Nat.beq m 95 then 157 else 0) else
        (bif Nat.blt m 97 then (bif Nat.beq m 96 then 62 else 0) else
         (bif Nat.beq m 97 then 47 else 0))))))) else
   (bif Nat.blt m 114 then (bif Nat.blt m 106 then (bif Nat.blt m 102 then (bif Nat.blt m 100 then (bif Nat.blt m 99 then (bif Nat.beq m 98 then 299 else 0) else
        (bif Nat.beq m 99 then 7 else 0)) else
       (bif Nat.blt m 101 then (bif Nat.beq m 100 then 155 else 0) else
        (bif Nat.beq m 101 then 88 else 0))) else
      (bif Nat.blt m 104 then (bif Nat.blt m 103 then (bif Nat.beq m 102 then 10 else 0) else
        (bif Nat.beq m 103 then 21 else 0)) else
       (bif Nat.blt m 105 then (bif Nat.beq m 104 then 16 else 0) else
        (bif Nat.beq m 105 then 58 else 0)))) else
     (bif Nat.blt m 110 then (bif Nat.blt m 108 then (bif Nat.blt m 107 then (bif Nat.beq m 106 then 18 else 0) else
        (bif Nat.beq m 107 then 21 else 0)) else
       (bif Nat.blt m 109 then (bif Nat.beq m 108 then 31 else 0) else
        (bif Nat.beq m 109 then 21 else 0))) else
      (bif Nat.blt m 112 then (bif Nat.blt m 111 then (bif Nat.beq m 110 then 20 else 0) else
        (bif Nat.beq m 111 then 24 else 0)) else
       (bif Nat.blt m 113 then (bif Nat.beq m 112 then 41 else 0) else
        (bif Nat.beq m 113 then 31 else 0))))) else
    (bif Nat.blt m 122 then (bif Nat.blt m 118 then (bif Nat.blt m 116 then (bif Nat.blt m 115 then (bif Nat.beq m 114 then 128 else 0) else
        (bif Nat.beq m 115 then 29 else 0)) else
       (bif Nat.blt m 117 then (bif Nat.beq m 116 then 55 else 0) else
        (bif Nat.beq m 117 then 21 else 0))) else
      (bif Nat.blt m 120 then (bif Nat.blt m 119 then (bif Nat.beq m 118 then 18 else 0) else
        (bif Nat.beq m 119 then 84 else 0)) else
       (bif Nat.blt m 121 then (bif Nat.beq m 120 then 12 else 0) else
        (bif Nat.beq m 121 then 57 else 0)))) else
     (bif Nat.blt m 126 then (bif Nat.blt m 124 then (bif Nat.blt m 123 then (bif Nat.beq m 122 then 22 else 0) else
        (bif Nat.beq m 123 then 102 else 0)) else
       (bif Nat.blt m 125 then (bif Nat.beq m 124 then 97 else 0) else
        (bif Nat.beq m 125 then 15 else 0))) else
      (bif Nat.blt m 128 then (bif Nat.blt m 127 then (bif Nat.beq m 126 then 16 else 0) else
        (bif Nat.beq m 127 then 15 else 0)) else
       (bif Nat.blt m 129 then (bif Nat.beq m 128 then 18 else 0) else
        (bif Nat.blt m 130 then (bif Nat.beq m 129 then 21 else 0) else
         (bif Nat.beq m 130 then 21 else 0))))))))) else
 (bif Nat.blt m 196 then (bif Nat.blt m 163 then (bif Nat.blt m 147 then (bif Nat.blt m 139 then (bif Nat.blt m 135 then (bif Nat.blt m 133 then (bif Nat.blt m 132 then (bif Nat.beq m 131 then 18 else 0) else
        (bif Nat.beq m 132 then 36 else 0)) else
       (bif Nat.blt m 134 then (bif Nat.beq m 133 then 15 else 0) else
        (bif Nat.beq m 134 then 79 else 0))) else
      (bif Nat.blt m 137 then (bif Nat.blt m 136 then (bif Nat.beq m 135 then 15 else 0) else
        (bif Nat.beq m 136 then 45 else 0)) else
       (bif Nat.blt m 138 then (bif Nat.beq m 137 then 32 else 0) else
        (bif Nat.beq m 138 then 201 else 0)))) else
     (bif Nat.blt m 143 then (bif Nat.blt m 141 then (bif Nat.blt m 140 then (bif Nat.beq m 139 then 59 else 0) else
        (bif Nat.beq m 140 then 16 else 0)) else
       (bif Nat.blt m 142 then (bif Nat.beq m 141 then 18 else 0) else
        (bif Nat.beq m 142 then 30 else 0))) else
      (bif Nat.blt m 145 then (bif Nat.blt m 144 then (bif Nat.beq m 143 then 28 else 0) else
        (bif Nat.beq m 144 then 18 else 0)) else
       (bif Nat.blt m 146 then (bif Nat.beq m 145 then 17 else 0) else
        (bif Nat.beq m 146 then 228 else 0))))) else
    (bif Nat.blt m 155 then (bif Nat.blt m 151 then (bif Nat.blt m 149 then (bif Nat.blt m 148 then (bif Nat.beq m 147 then 5 else 0) else
        (bif Nat.beq m 148 then 6 else 0)) else
       (bif Nat.blt m 150 then (bif Nat.beq m 149 then 8 else 0) else
        (bif Nat.beq m 150 then 8 else 0))) else
      (bif Nat.blt m 153 then (bif Nat.blt m 152 then (bif Nat.beq m 151 then 15 else 0) else
        (bif Nat.beq m 152 then 31 else 0)) else
       (bif Nat.blt m 154 then (bif Nat.beq m 153 then 8 else 0) else
        (bif Nat.beq m 154 then 8 else 0)))) else
     (bif Nat.blt m 159 then (bif Nat.blt m 157 then (bif Nat.blt m 156 then (bif Nat.beq m 155 then 8 else 0) else
        (bif Nat.beq m 156 then 11 else 0)) else
       (bif Nat.blt m 158 then (bif Nat.beq m 157 then 23 else 0) else
        (bif Nat.beq m 158 then 53 else 0))) else
      (bif Nat.blt m 161 then (bif Nat.blt m 160 then (bif Nat.beq m 159 then 54 else 0) else
        (bif Nat.beq m 160 then 90 else 0)) else
       (bif Nat.blt m 162 then (bif Nat.beq m 161 then 21 else 0) else
        (bif Nat.beq m 162 then 43 else 0)))))) else
   (bif Nat.blt m 179 then (bif Nat.blt m 171 then (bif Nat.blt m 167 then (bif Nat.blt m 165 then (bif Nat.blt m 164 then (bif Nat.beq m 163 then 135 else 0) else
        (bif Nat.beq m 164 then 143 else 0)) else
       (bif Nat.blt m 166 then (bif Nat.beq m 165 then 24 else 0) else
        (bif Nat.beq m 166 then 61 else 0))) else
      (bif Nat.blt m 169 then (bif Nat.blt m 168 then (bif Nat.beq m 167 then 47 else 0) else
        (bif Nat.beq m 168 then 24 else 0)) else
       (bif Nat.blt m 170 then (bif Nat.beq m 169 then 20 else 0) else
        (bif Nat.beq m 170 then 19 else 0)))) else
     (bif Nat.blt m 175 then (bif Nat.blt m 173 then (bif Nat.blt m 172 then (bif Nat.beq m 171 then 14 else 0) else
        (bif Nat.beq m 172 then 105 else 0)) else
       (bif Nat.blt m 174 then (bif Nat.beq m 173 then 24 else 0) else
        (bif Nat.beq m 174 then 14 else 0))) else
      (bif Nat.blt m 177 then (bif Nat.blt m 176 then (bif Nat.beq m 175 then 21 else 0) else
        (bif Nat.beq m 176 then 14 else 0)) else
       (bif Nat.blt m 178 then (bif Nat.beq m 177 then 14 else 0) else
        (bif Nat.beq m 178 then 17 else 0))))) else
    (bif Nat.blt m 187 then (bif Nat.blt m 183 then (bif Nat.blt m 181 then (bif Nat.blt m 180 then (bif Nat.beq m 179 then 14 else 0) else
        (bif Nat.beq m 180 then 8 else 0)) else
       (bif Nat.blt m 182 then (bif Nat.beq m 181 then 12 else 0) else
        (bif Nat.beq m 182 then 24 else 0))) else
      (bif Nat.blt m 185 then (bif Nat.blt m 184 then (bif Nat.beq m 183 then 119 else 0) else
        (bif Nat.beq m 184 then 12 else 0)) else
       (bif Nat.blt m 186 then (bif Nat.beq m 185 then 14 else 0) else
        (bif Nat.beq m 186 then 27 else 0)))) else
     (bif Nat.blt m 191 then (bif Nat.blt m 189 then (bif Nat.blt m 188 then (bif Nat.beq m 187 then 54 else 0) else
        (bif Nat.beq m 188 then 68 else 0)) else
       (bif Nat.blt m 190 then (bif Nat.beq m 189 then 8 else 0) else
        (bif Nat.beq m 190 then 29 else 0))) else
      (bif Nat.blt m 193 then (bif Nat.blt m 192 then (bif Nat.beq m 191 then 72 else 0) else
        (bif Nat.beq m 192 then 57 else 0)) else
       (bif Nat.blt m 194 then (bif Nat.beq m 193 then 23 else 0) else
        (bif Nat.blt m 195 then (bif Nat.beq m 194 then 57 else 0) else
         (bif Nat.beq m 195 then 64 else 0)))))))) else
  (bif Nat.blt m 229 then (bif Nat.blt m 212 then (bif Nat.blt m 204 then (bif Nat.blt m 200 then (bif Nat.blt m 198 then (bif Nat.blt m 197 then (bif Nat.beq m 196 then 61 else 0) else
        (bif Nat.beq m 197 then 67 else 0)) else
       (bif Nat.blt m 199 then (bif Nat.beq m 198 then 54 else 0) else
        (bif Nat.beq m 199 then 70 else 0))) else
      (bif Nat.blt m 202 then (bif Nat.blt m 201 then (bif Nat.beq m 200 then 18 else 0) else
        (bif Nat.beq m 201 then 52 else 0)) else
       (bif Nat.blt m 203 then (bif Nat.beq m 202 then 25 else 0) else
        (bif Nat.beq m 203 then 8 else 0)))) else
     (bif Nat.blt m 208 then (bif Nat.blt m 206 then (bif Nat.blt m 205 then (bif Nat.beq m 204 then 9 else 0) else
        (bif Nat.beq m 205 then 5 else 0)) else
       (bif Nat.blt m 207 then (bif Nat.beq m 206 then 7 else 0) else
        (bif Nat.beq m 207 then 32 else 0))) else
      (bif Nat.blt m 210 then (bif Nat.blt m 209 then (bif Nat.beq m 208 then 19 else 0) else
        (bif Nat.beq m 209 then 107 else 0)) else
       (bif Nat.blt m 211 then (bif Nat.beq m 210 then 8 else 0) else
        (bif Nat.beq m 211 then 15 else 0))))) else
    (bif Nat.blt m 220 then (bif Nat.blt m 216 then (bif Nat.blt m 214 then (bif Nat.blt m 213 then (bif Nat.beq m 212 then 15 else 0) else
        (bif Nat.beq m 213 then 20 else 0)) else
       (bif Nat.blt m 215 then (bif Nat.beq m 214 then 20 else 0) else
        (bif Nat.beq m 215 then 312 else 0))) else
      (bif Nat.blt m 218 then (bif Nat.blt m 217 then (bif Nat.beq m 216 then 336 else 0) else
        (bif Nat.beq m 217 then 123 else 0)) else
       (bif Nat.blt m 219 then (bif Nat.beq m 218 then 788 else 0) else
        (bif Nat.beq m 219 then 16 else 0)))) else
     (bif Nat.blt m 224 then (bif Nat.blt m 222 then (bif Nat.blt m 221 then (bif Nat.beq m 220 then 522 else 0) else
        (bif Nat.beq m 221 then 28 else 0)) else
       (bif Nat.blt m 223 then (bif Nat.beq m 222 then 28 else 0) else
        (bif Nat.beq m 223 then 11 else 0))) else
      (bif Nat.blt m 226 then (bif Nat.blt m 225 then (bif Nat.beq m 224 then 11 else 0) else
        (bif Nat.beq m 225 then 20 else 0)) else
       (bif Nat.blt m 227 then (bif Nat.beq m 226 then 61 else 0) else
        (bif Nat.blt m 228 then (bif Nat.beq m 227 then 26 else 0) else
         (bif Nat.beq m 228 then 23 else 0))))))) else
   (bif Nat.blt m 245 then (bif Nat.blt m 237 then (bif Nat.blt m 233 then (bif Nat.blt m 231 then (bif Nat.blt m 230 then (bif Nat.beq m 229 then 25 else 0) else
        (bif Nat.beq m 230 then 33 else 0)) else
       (bif Nat.blt m 232 then (bif Nat.beq m 231 then 38 else 0) else
        (bif Nat.beq m 232 then 21 else 0))) else
      (bif Nat.blt m 235 then (bif Nat.blt m 234 then (bif Nat.beq m 233 then 15 else 0) else
        (bif Nat.beq m 234 then 12 else 0)) else
       (bif Nat.blt m 236 then (bif Nat.beq m 235 then 16 else 0) else
        (bif Nat.beq m 236 then 12 else 0)))) else
     (bif Nat.blt m 241 then (bif Nat.blt m 239 then (bif Nat.blt m 238 then (bif Nat.beq m 237 then 63 else 0) else
        (bif Nat.beq m 238 then 45 else 0)) else
       (bif Nat.blt m 240 then (bif Nat.beq m 239 then 39 else 0) else
        (bif Nat.beq m 240 then 59 else 0))) else
      (bif Nat.blt m 243 then (bif Nat.blt m 242 then (bif Nat.beq m 241 then 19 else 0) else
        (bif Nat.beq m 242 then 19 else 0)) else
       (bif Nat.blt m 244 then (bif Nat.beq m 243 then 22 else 0) else
        (bif Nat.beq m 244 then 77 else 0))))) else
    (bif Nat.blt m 253 then (bif Nat.blt m 249 then (bif Nat.blt m 247 then (bif Nat.blt m 246 then (bif Nat.beq m 245 then 55 else 0) else
        (bif Nat.beq m 246 then 5 else 0)) else
       (bif Nat.blt m 248 then (bif Nat.beq m 247 then 5 else 0) else
        (bif Nat.beq m 248 then 39 else 0))) else
      (bif Nat.blt m 251 then (bif Nat.blt m 250 then (bif Nat.beq m 249 then 11 else 0) else
        (bif Nat.beq m 250 then 15 else 0)) else
       (bif Nat.blt m 252 then (bif Nat.beq m 251 then 25 else 0) else
        (bif Nat.beq m 252 then 19 else 0)))) else
     (bif Nat.blt m 257 then (bif Nat.blt m 255 then (bif Nat.blt m 254 then (bif Nat.beq m 253 then 7 else 0) else
        (bif Nat.beq m 254 then 98 else 0)) else
       (bif Nat.blt m 256 then (bif Nat.beq m 255 then 47 else 0) else
        (bif Nat.beq m 256 then 121 else 0))) else
      (bif Nat.blt m 259 then (bif Nat.blt m 258 then (bif Nat.beq m 257 then 80 else 0) else
        (bif Nat.beq m 258 then 27 else 0)) else
       (bif Nat.blt m 260 then (bif Nat.beq m 259 then 15 else 0) else
        (bif Nat.blt m 261 then (bif Nat.beq m 260 then 13 else 0) else
         (bif Nat.beq m 261 then 318 else 0))))))))))
noncomputable def zret (m : Nat) : Option FieldType :=
 (bif Nat.blt m 131 then (bif Nat.blt m 65 then (bif Nat.blt m 32 then (bif Nat.blt m 16 then (bif Nat.blt m 8 then (bif Nat.blt m 4 then (bif Nat.blt m 2 then (bif Nat.blt m 1 then (bif Nat.beq m 0 then none else none) else
        (bif Nat.beq m 1 then none else none)) else
       (bif Nat.blt m 3 then (bif Nat.beq m 2 then none else none) else
        (bif Nat.beq m 3 then none else none))) else
      (bif Nat.blt m 6 then (bif Nat.blt m 5 then (bif Nat.beq m 4 then some .long else none) else
        (bif Nat.beq m 5 then some .long else none)) else
       (bif Nat.blt m 7 then (bif Nat.beq m 6 then some .long else none) else
        (bif Nat.beq m 7 then none else none)))) else
     (bif Nat.blt m 12 then (bif Nat.blt m 10 then (bif Nat.blt m 9 then (bif Nat.beq m 8 then some .long else none) else
        (bif Nat.beq m 9 then some .long else none)) else
       (bif Nat.blt m 11 then (bif Nat.beq m 10 then some .int else none) else
        (bif Nat.beq m 11 then some .int else none))) else
      (bif Nat.blt m 14 then (bif Nat.blt m 13 then (bif Nat.beq m 12 then some .long else none) else
        (bif Nat.beq m 13 then none else none)) else
       (bif Nat.blt m 15 then (bif Nat.beq m 14 then some .int else none) else
        (bif Nat.beq m 15 then none else none))))) else
    (bif Nat.blt m 24 then (bif Nat.blt m 20 then (bif Nat.blt m 18 then (bif Nat.blt m 17 then (bif Nat.beq m 16 then none else none) else
        (bif Nat.beq m 17 then none else none)) else
       (bif Nat.blt m 19 then (bif Nat.beq m 18 then some .boolean else none) else
        (bif Nat.beq m 19 then none else none))) else
      (bif Nat.blt m 22 then (bif Nat.blt m 21 then (bif Nat.beq m 20 then none else none) else
        (bif Nat.beq m 21 then none else none)) else
       (bif Nat.blt m 23 then (bif Nat.beq m 22 then some .int else none) else
        (bif Nat.beq m 23 then none else none)))) else
     (bif Nat.blt m 28 then (bif Nat.blt m 26 then (bif Nat.blt m 25 then (bif Nat.beq m 24 then none else none) else
        (bif Nat.beq m 25 then none else none)) else
       (bif Nat.blt m 27 then (bif Nat.beq m 26 then none else none) else
        (bif Nat.beq m 27 then none else none))) else
      (bif Nat.blt m 30 then (bif Nat.blt m 29 then (bif Nat.beq m 28 then some (.object "BackwardProofs$Formula") else none) else
        (bif Nat.beq m 29 then some .boolean else none)) else
       (bif Nat.blt m 31 then (bif Nat.beq m 30 then none else none) else
        (bif Nat.beq m 31 then none else none)))))) else
   (bif Nat.blt m 48 then (bif Nat.blt m 40 then (bif Nat.blt m 36 then (bif Nat.blt m 34 then (bif Nat.blt m 33 then (bif Nat.beq m 32 then none else none) else
        (bif Nat.beq m 33 then none else none)) else
       (bif Nat.blt m 35 then (bif Nat.beq m 34 then some (.object "BackwardProofs$Formula") else none) else
        (bif Nat.beq m 35 then none else none))) else
      (bif Nat.blt m 38 then (bif Nat.blt m 37 then (bif Nat.beq m 36 then some .int else none) else
        (bif Nat.beq m 37 then some .boolean else none)) else
       (bif Nat.blt m 39 then (bif Nat.beq m 38 then some .int else none) else
        (bif Nat.beq m 39 then some .int else none)))) else
     (bif Nat.blt m 44 then (bif Nat.blt m 42 then (bif Nat.blt m 41 then (bif Nat.beq m 40 then some .int else none) else
        (bif Nat.beq m 41 then some .int else none)) else
       (bif Nat.blt m 43 then (bif Nat.beq m 42 then some .int else none) else
        (bif Nat.beq m 43 then some .int else none))) else
      (bif Nat.blt m 46 then (bif Nat.blt m 45 then (bif Nat.beq m 44 then none else none) else
        (bif Nat.beq m 45 then none else none)) else
       (bif Nat.blt m 47 then (bif Nat.beq m 46 then some .int else none) else
        (bif Nat.beq m 47 then some .int else none))))) else
    (bif Nat.blt m 56 then (bif Nat.blt m 52 then (bif Nat.blt m 50 then (bif Nat.blt m 49 then (bif Nat.beq m 48 then some .int else none) else
        (bif Nat.beq m 49 then none else none)) else
       (bif Nat.blt m 51 then (bif Nat.beq m 50 then some .int else none) else
        (bif Nat.beq m 51 then some .int else none))) else
      (bif Nat.blt m 54 then (bif Nat.blt m 53 then (bif Nat.beq m 52 then some (.object "BackwardProofs$Formula") else none) else
        (bif Nat.beq m 53 then some .int else none)) else
       (bif Nat.blt m 55 then (bif Nat.beq m 54 then some .int else none) else
        (bif Nat.beq m 55 then some .int else none)))) else
     (bif Nat.blt m 60 then (bif Nat.blt m 58 then (bif Nat.blt m 57 then (bif Nat.beq m 56 then some .int else none) else
        (bif Nat.beq m 57 then none else none)) else
       (bif Nat.blt m 59 then (bif Nat.beq m 58 then none else none) else
        (bif Nat.beq m 59 then none else none))) else
      (bif Nat.blt m 62 then (bif Nat.blt m 61 then (bif Nat.beq m 60 then some .int else none) else
        (bif Nat.beq m 61 then none else none)) else
       (bif Nat.blt m 63 then (bif Nat.beq m 62 then none else none) else
        (bif Nat.blt m 64 then (bif Nat.beq m 63 then some .int else none) else
         (bif Nat.beq m 64 then some .long else none)))))))) else
  (bif Nat.blt m 98 then (bif Nat.blt m 81 then (bif Nat.blt m 73 then (bif Nat.blt m 69 then (bif Nat.blt m 67 then (bif Nat.blt m 66 then (bif Nat.beq m 65 then some .int else none) else
        (bif Nat.beq m 66 then some .int else none)) else
       (bif Nat.blt m 68 then (bif Nat.beq m 67 then some .boolean else none) else
        (bif Nat.beq m 68 then none else none))) else
      (bif Nat.blt m 71 then (bif Nat.blt m 70 then (bif Nat.beq m 69 then none else none) else
        (bif Nat.beq m 70 then some .int else none)) else
       (bif Nat.blt m 72 then (bif Nat.beq m 71 then some .boolean else none) else
        (bif Nat.beq m 72 then some .int else none)))) else
     (bif Nat.blt m 77 then (bif Nat.blt m 75 then (bif Nat.blt m 74 then (bif Nat.beq m 73 then some .double else none) else
        (bif Nat.beq m 74 then some .long else none)) else
       (bif Nat.blt m 76 then (bif Nat.beq m 75 then some .int else none) else
        (bif Nat.beq m 76 then some .float else none))) else
      (bif Nat.blt m 79 then (bif Nat.blt m 78 then (bif Nat.beq m 77 then some .int else none) else
        (bif Nat.beq m 78 then some .long else none)) else
       (bif Nat.blt m 80 then (bif Nat.beq m 79 then some .boolean else none) else
        (bif Nat.beq m 80 then none else none))))) else
    (bif Nat.blt m 89 then (bif Nat.blt m 85 then (bif Nat.blt m 83 then (bif Nat.blt m 82 then (bif Nat.beq m 81 then none else none) else
        (bif Nat.beq m 82 then none else none)) else
       (bif Nat.blt m 84 then (bif Nat.beq m 83 then none else none) else
        (bif Nat.beq m 84 then some .int else none))) else
      (bif Nat.blt m 87 then (bif Nat.blt m 86 then (bif Nat.beq m 85 then some .int else none) else
        (bif Nat.beq m 86 then some .boolean else none)) else
       (bif Nat.blt m 88 then (bif Nat.beq m 87 then some .int else none) else
        (bif Nat.beq m 88 then some .boolean else none)))) else
     (bif Nat.blt m 93 then (bif Nat.blt m 91 then (bif Nat.blt m 90 then (bif Nat.beq m 89 then some .int else none) else
        (bif Nat.beq m 90 then some .int else none)) else
       (bif Nat.blt m 92 then (bif Nat.beq m 91 then none else none) else
        (bif Nat.beq m 92 then none else none))) else
      (bif Nat.blt m 95 then (bif Nat.blt m 94 then (bif Nat.beq m 93 then some .int else none) else
        (bif Nat.beq m 94 then none else none)) else
       (bif Nat.blt m 96 then (bif Nat.beq m 95 then none else none) else
        (bif Nat.blt m 97 then (bif Nat.beq m 96 then none else none) else
         (bif Nat.beq m 97 then none else none))))))) else
   (bif Nat.blt m 114 then (bif Nat.blt m 106 then (bif Nat.blt m 102 then (bif Nat.blt m 100 then (bif Nat.blt m 99 then (bif Nat.beq m 98 then none else none) else
        (bif Nat.beq m 99 then some .long else none)) else
       (bif Nat.blt m 101 then (bif Nat.beq m 100 then none else none) else
        (bif Nat.beq m 101 then none else none))) else
      (bif Nat.blt m 104 then (bif Nat.blt m 103 then (bif Nat.beq m 102 then some .boolean else none) else
        (bif Nat.beq m 103 then some .long else none)) else
       (bif Nat.blt m 105 then (bif Nat.beq m 104 then some .boolean else none) else
        (bif Nat.beq m 105 then some .int else none)))) else
     (bif Nat.blt m 110 then (bif Nat.blt m 108 then (bif Nat.blt m 107 then (bif Nat.beq m 106 then some .int else none) else
        (bif Nat.beq m 107 then some .long else none)) else
       (bif Nat.blt m 109 then (bif Nat.beq m 108 then some .int else none) else
        (bif Nat.beq m 109 then some .int else none))) else
      (bif Nat.blt m 112 then (bif Nat.blt m 111 then (bif Nat.beq m 110 then some .int else none) else
        (bif Nat.beq m 111 then some (.object "BackwardProofs$Formula") else none)) else
       (bif Nat.blt m 113 then (bif Nat.beq m 112 then some .int else none) else
        (bif Nat.beq m 113 then none else none))))) else
    (bif Nat.blt m 122 then (bif Nat.blt m 118 then (bif Nat.blt m 116 then (bif Nat.blt m 115 then (bif Nat.beq m 114 then none else none) else
        (bif Nat.beq m 115 then none else none)) else
       (bif Nat.blt m 117 then (bif Nat.beq m 116 then none else none) else
        (bif Nat.beq m 117 then some .int else none))) else
      (bif Nat.blt m 120 then (bif Nat.blt m 119 then (bif Nat.beq m 118 then none else none) else
        (bif Nat.beq m 119 then none else none)) else
       (bif Nat.blt m 121 then (bif Nat.beq m 120 then some .int else none) else
        (bif Nat.beq m 121 then none else none)))) else
     (bif Nat.blt m 126 then (bif Nat.blt m 124 then (bif Nat.blt m 123 then (bif Nat.beq m 122 then some (.array .byte) else none) else
        (bif Nat.beq m 123 then none else none)) else
       (bif Nat.blt m 125 then (bif Nat.beq m 124 then none else none) else
        (bif Nat.beq m 125 then none else none))) else
      (bif Nat.blt m 128 then (bif Nat.blt m 127 then (bif Nat.beq m 126 then some .boolean else none) else
        (bif Nat.beq m 127 then none else none)) else
       (bif Nat.blt m 129 then (bif Nat.beq m 128 then some .int else none) else
        (bif Nat.blt m 130 then (bif Nat.beq m 129 then some (.object "BackwardProofs$Formula") else none) else
         (bif Nat.beq m 130 then some (.object "BackwardProofs$Formula") else none))))))))) else
 (bif Nat.blt m 196 then (bif Nat.blt m 163 then (bif Nat.blt m 147 then (bif Nat.blt m 139 then (bif Nat.blt m 135 then (bif Nat.blt m 133 then (bif Nat.blt m 132 then (bif Nat.beq m 131 then some .int else none) else
        (bif Nat.beq m 132 then some .int else none)) else
       (bif Nat.blt m 134 then (bif Nat.beq m 133 then none else none) else
        (bif Nat.beq m 134 then none else none))) else
      (bif Nat.blt m 137 then (bif Nat.blt m 136 then (bif Nat.beq m 135 then none else none) else
        (bif Nat.beq m 136 then some .int else none)) else
       (bif Nat.blt m 138 then (bif Nat.beq m 137 then some .int else none) else
        (bif Nat.beq m 138 then some (.object "java/lang/String") else none)))) else
     (bif Nat.blt m 143 then (bif Nat.blt m 141 then (bif Nat.blt m 140 then (bif Nat.beq m 139 then some .boolean else none) else
        (bif Nat.beq m 140 then some .boolean else none)) else
       (bif Nat.blt m 142 then (bif Nat.beq m 141 then some .boolean else none) else
        (bif Nat.beq m 142 then some .int else none))) else
      (bif Nat.blt m 145 then (bif Nat.blt m 144 then (bif Nat.beq m 143 then some .int else none) else
        (bif Nat.beq m 144 then some .boolean else none)) else
       (bif Nat.blt m 146 then (bif Nat.beq m 145 then some .boolean else none) else
        (bif Nat.beq m 146 then none else none))))) else
    (bif Nat.blt m 155 then (bif Nat.blt m 151 then (bif Nat.blt m 149 then (bif Nat.blt m 148 then (bif Nat.beq m 147 then some .int else none) else
        (bif Nat.beq m 148 then some (.object "java/lang/AbstractStringBuilder") else none)) else
       (bif Nat.blt m 150 then (bif Nat.beq m 149 then some .long else none) else
        (bif Nat.beq m 150 then some .long else none))) else
      (bif Nat.blt m 153 then (bif Nat.blt m 152 then (bif Nat.beq m 151 then some .long else none) else
        (bif Nat.beq m 152 then some .int else none)) else
       (bif Nat.blt m 154 then (bif Nat.beq m 153 then some .long else none) else
        (bif Nat.beq m 154 then some .int else none)))) else
     (bif Nat.blt m 159 then (bif Nat.blt m 157 then (bif Nat.blt m 156 then (bif Nat.beq m 155 then some .double else none) else
        (bif Nat.beq m 156 then some .long else none)) else
       (bif Nat.blt m 158 then (bif Nat.beq m 157 then some .float else none) else
        (bif Nat.beq m 158 then some .int else none))) else
      (bif Nat.blt m 161 then (bif Nat.blt m 160 then (bif Nat.beq m 159 then none else none) else
        (bif Nat.beq m 160 then some .int else none)) else
       (bif Nat.blt m 162 then (bif Nat.beq m 161 then none else none) else
        (bif Nat.beq m 162 then none else none)))))) else
   (bif Nat.blt m 179 then (bif Nat.blt m 171 then (bif Nat.blt m 167 then (bif Nat.blt m 165 then (bif Nat.blt m 164 then (bif Nat.beq m 163 then some .int else none) else
        (bif Nat.beq m 164 then some .int else none)) else
       (bif Nat.blt m 166 then (bif Nat.beq m 165 then none else none) else
        (bif Nat.beq m 166 then some .int else none))) else
      (bif Nat.blt m 169 then (bif Nat.blt m 168 then (bif Nat.beq m 167 then some .long else none) else
        (bif Nat.beq m 168 then none else none)) else
       (bif Nat.blt m 170 then (bif Nat.beq m 169 then some .int else none) else
        (bif Nat.beq m 170 then none else none)))) else
     (bif Nat.blt m 175 then (bif Nat.blt m 173 then (bif Nat.blt m 172 then (bif Nat.beq m 171 then some .long else none) else
        (bif Nat.beq m 172 then some .int else none)) else
       (bif Nat.blt m 174 then (bif Nat.beq m 173 then none else none) else
        (bif Nat.beq m 174 then some .long else none))) else
      (bif Nat.blt m 177 then (bif Nat.blt m 176 then (bif Nat.beq m 175 then some .int else none) else
        (bif Nat.beq m 176 then some .int else none)) else
       (bif Nat.blt m 178 then (bif Nat.beq m 177 then some .float else none) else
        (bif Nat.beq m 178 then some .int else none))))) else
    (bif Nat.blt m 187 then (bif Nat.blt m 183 then (bif Nat.blt m 181 then (bif Nat.blt m 180 then (bif Nat.beq m 179 then some .long else none) else
        (bif Nat.beq m 180 then some (.object "java/lang/StringBuilder") else none)) else
       (bif Nat.blt m 182 then (bif Nat.beq m 181 then some .int else none) else
        (bif Nat.beq m 182 then none else none))) else
      (bif Nat.blt m 185 then (bif Nat.blt m 184 then (bif Nat.beq m 183 then some .int else none) else
        (bif Nat.beq m 184 then some .int else none)) else
       (bif Nat.blt m 186 then (bif Nat.beq m 185 then some .long else none) else
        (bif Nat.beq m 186 then some .long else none)))) else
     (bif Nat.blt m 191 then (bif Nat.blt m 189 then (bif Nat.blt m 188 then (bif Nat.beq m 187 then some .int else none) else
        (bif Nat.beq m 188 then none else none)) else
       (bif Nat.blt m 190 then (bif Nat.beq m 189 then some (.object "java/lang/StringBuilder") else none) else
        (bif Nat.beq m 190 then some .int else none))) else
      (bif Nat.blt m 193 then (bif Nat.blt m 192 then (bif Nat.beq m 191 then some .int else none) else
        (bif Nat.beq m 192 then some .int else none)) else
       (bif Nat.blt m 194 then (bif Nat.beq m 193 then some (.object "BackwardProofs$Formula") else none) else
        (bif Nat.blt m 195 then (bif Nat.beq m 194 then some .int else none) else
         (bif Nat.beq m 195 then some .int else none)))))))) else
  (bif Nat.blt m 229 then (bif Nat.blt m 212 then (bif Nat.blt m 204 then (bif Nat.blt m 200 then (bif Nat.blt m 198 then (bif Nat.blt m 197 then (bif Nat.beq m 196 then some .int else none) else
        (bif Nat.beq m 197 then some .int else none)) else
       (bif Nat.blt m 199 then (bif Nat.beq m 198 then some .int else none) else
        (bif Nat.beq m 199 then some .int else none))) else
      (bif Nat.blt m 202 then (bif Nat.blt m 201 then (bif Nat.beq m 200 then none else none) else
        (bif Nat.beq m 201 then some .int else none)) else
       (bif Nat.blt m 203 then (bif Nat.beq m 202 then some .int else none) else
        (bif Nat.beq m 203 then some (.object "java/lang/StringBuilder") else none)))) else
     (bif Nat.blt m 208 then (bif Nat.blt m 206 then (bif Nat.blt m 205 then (bif Nat.beq m 204 then some (.object "java/lang/String") else none) else
        (bif Nat.beq m 205 then some .int else none)) else
       (bif Nat.blt m 207 then (bif Nat.beq m 206 then none else none) else
        (bif Nat.beq m 207 then some .int else none))) else
      (bif Nat.blt m 210 then (bif Nat.blt m 209 then (bif Nat.beq m 208 then some .int else none) else
        (bif Nat.beq m 209 then some .int else none)) else
       (bif Nat.blt m 211 then (bif Nat.beq m 210 then some .int else none) else
        (bif Nat.beq m 211 then some .int else none))))) else
    (bif Nat.blt m 220 then (bif Nat.blt m 216 then (bif Nat.blt m 214 then (bif Nat.blt m 213 then (bif Nat.beq m 212 then some .int else none) else
        (bif Nat.beq m 213 then some .int else none)) else
       (bif Nat.blt m 215 then (bif Nat.beq m 214 then some .int else none) else
        (bif Nat.beq m 215 then some (.object "java/lang/String") else none))) else
      (bif Nat.blt m 218 then (bif Nat.blt m 217 then (bif Nat.beq m 216 then none else none) else
        (bif Nat.beq m 217 then some .long else none)) else
       (bif Nat.blt m 219 then (bif Nat.beq m 218 then some .boolean else none) else
        (bif Nat.beq m 219 then some .boolean else none)))) else
     (bif Nat.blt m 224 then (bif Nat.blt m 222 then (bif Nat.blt m 221 then (bif Nat.beq m 220 then some .boolean else none) else
        (bif Nat.beq m 221 then some .int else none)) else
       (bif Nat.blt m 223 then (bif Nat.beq m 222 then some .int else none) else
        (bif Nat.beq m 223 then some .int else none))) else
      (bif Nat.blt m 226 then (bif Nat.blt m 225 then (bif Nat.beq m 224 then some .int else none) else
        (bif Nat.beq m 225 then some .int else none)) else
       (bif Nat.blt m 227 then (bif Nat.beq m 226 then some .int else none) else
        (bif Nat.blt m 228 then (bif Nat.beq m 227 then some .int else none) else
         (bif Nat.beq m 228 then none else none))))))) else
   (bif Nat.blt m 245 then (bif Nat.blt m 237 then (bif Nat.blt m 233 then (bif Nat.blt m 231 then (bif Nat.blt m 230 then (bif Nat.beq m 229 then some (.array .byte) else none) else
        (bif Nat.beq m 230 then some (.array .byte) else none)) else
       (bif Nat.blt m 232 then (bif Nat.beq m 231 then none else none) else
        (bif Nat.beq m 232 then none else none))) else
      (bif Nat.blt m 235 then (bif Nat.blt m 234 then (bif Nat.beq m 233 then some .int else none) else
        (bif Nat.beq m 234 then some .boolean else none)) else
       (bif Nat.blt m 236 then (bif Nat.beq m 235 then some .long else none) else
        (bif Nat.beq m 236 then some .boolean else none)))) else
     (bif Nat.blt m 241 then (bif Nat.blt m 239 then (bif Nat.blt m 238 then (bif Nat.beq m 237 then none else none) else
        (bif Nat.beq m 238 then some (.object "java/lang/AbstractStringBuilder") else none)) else
       (bif Nat.blt m 240 then (bif Nat.beq m 239 then none else none) else
        (bif Nat.beq m 240 then some .int else none))) else
      (bif Nat.blt m 243 then (bif Nat.blt m 242 then (bif Nat.beq m 241 then some .boolean else none) else
        (bif Nat.beq m 242 then none else none)) else
       (bif Nat.blt m 244 then (bif Nat.beq m 243 then none else none) else
        (bif Nat.beq m 244 then some (.object "java/lang/AbstractStringBuilder") else none))))) else
    (bif Nat.blt m 253 then (bif Nat.blt m 249 then (bif Nat.blt m 247 then (bif Nat.blt m 246 then (bif Nat.beq m 245 then some (.object "java/lang/AbstractStringBuilder") else none) else
        (bif Nat.beq m 246 then some (.array .byte) else none)) else
       (bif Nat.blt m 248 then (bif Nat.beq m 247 then some .int else none) else
        (bif Nat.beq m 248 then none else none))) else
      (bif Nat.blt m 251 then (bif Nat.blt m 250 then (bif Nat.beq m 249 then some .int else none) else
        (bif Nat.beq m 250 then some .byte else none)) else
       (bif Nat.blt m 252 then (bif Nat.beq m 251 then some .char else none) else
        (bif Nat.beq m 252 then some .boolean else none)))) else
     (bif Nat.blt m 257 then (bif Nat.blt m 255 then (bif Nat.blt m 254 then (bif Nat.beq m 253 then none else none) else
        (bif Nat.beq m 254 then none else none)) else
       (bif Nat.blt m 256 then (bif Nat.beq m 255 then some .int else none) else
        (bif Nat.beq m 256 then some .int else none))) else
      (bif Nat.blt m 259 then (bif Nat.blt m 258 then (bif Nat.beq m 257 then some .int else none) else
        (bif Nat.beq m 258 then some .int else none)) else
       (bif Nat.blt m 260 then (bif Nat.beq m 259 then some .char else none) else
        (bif Nat.blt m 261 then (bif Nat.beq m 260 then some .boolean else none) else
         (bif Nat.beq m 261 then some .boolean else none))))))))))
noncomputable def zhh (m : Nat) : List (Nat × Nat × Nat × Nat) :=
 (bif Nat.blt m 213 then (bif Nat.blt m 211 then (bif Nat.blt m 210 then (bif Nat.beq m 208 then [(6, 11, 12, 34), (6, 11, 16, 36)] else []) else
   (bif Nat.beq m 210 then [(0, 4, 5, 36)] else [])) else
  (bif Nat.blt m 212 then (bif Nat.beq m 211 then [(0, 6, 7, 45), (0, 6, 11, 34)] else []) else
   (bif Nat.beq m 212 then [(0, 6, 7, 45), (0, 6, 11, 34)] else []))) else
 (bif Nat.blt m 221 then (bif Nat.blt m 214 then (bif Nat.beq m 213 then [(6, 11, 12, 34), (6, 11, 16, 36)] else []) else
   (bif Nat.beq m 214 then [(6, 11, 12, 34), (6, 11, 16, 36)] else [])) else
  (bif Nat.blt m 222 then (bif Nat.beq m 221 then [(6, 12, 13, 45), (6, 12, 18, 34), (6, 12, 23, 36)] else []) else
   (bif Nat.beq m 222 then [(6, 12, 13, 45), (6, 12, 18, 34), (6, 12, 23, 36)] else []))))
noncomputable def zpC (m : Nat) : Nat :=
 (bif Nat.blt m 130 then (bif Nat.blt m 65 then (bif Nat.blt m 32 then (bif Nat.blt m 16 then (bif Nat.blt m 8 then (bif Nat.blt m 4 then (bif Nat.blt m 2 then (bif Nat.blt m 1 then (bif Nat.beq m 0 then 2138 else 0) else
        (bif Nat.beq m 1 then 3203 else 0)) else
       (bif Nat.blt m 3 then (bif Nat.beq m 2 then 4074 else 0) else
        (bif Nat.beq m 3 then 4086 else 0))) else
      (bif Nat.blt m 6 then (bif Nat.blt m 5 then (bif Nat.beq m 4 then 4096 else 0) else
        (bif Nat.beq m 5 then 4101 else 0)) else
       (bif Nat.blt m 7 then (bif Nat.beq m 6 then 4106 else 0) else
        (bif Nat.beq m 7 then 4119 else 0)))) else
     (bif Nat.blt m 12 then (bif Nat.blt m 10 then (bif Nat.blt m 9 then (bif Nat.beq m 8 then 4124 else 0) else
        (bif Nat.beq m 9 then 7067 else 0)) else
       (bif Nat.blt m 11 then (bif Nat.beq m 10 then 4187 else 0) else
        (bif Nat.beq m 11 then 4191 else 0))) else
      (bif Nat.blt m 14 then (bif Nat.blt m 13 then (bif Nat.beq m 12 then 7224 else 0) else
        (bif Nat.beq m 13 then 1046 else 0)) else
       (bif Nat.blt m 15 then (bif Nat.beq m 14 then 3211 else 0) else
        (bif Nat.beq m 15 then 1148 else 0))))) else
    (bif Nat.blt m 24 then (bif Nat.blt m 20 then (bif Nat.blt m 18 then (bif Nat.blt m 17 then (bif Nat.beq m 16 then 5109 else 0) else
        (bif Nat.beq m 17 then 5046 else 0)) else
       (bif Nat.blt m 19 then (bif Nat.beq m 18 then 5027 else 0) else
        (bif Nat.beq m 19 then 5058 else 0))) else
      (bif Nat.blt m 22 then (bif Nat.blt m 21 then (bif Nat.beq m 20 then 5120 else 0) else
        (bif Nat.beq m 21 then 5067 else 0)) else
       (bif Nat.blt m 23 then (bif Nat.beq m 22 then 5071 else 0) else
        (bif Nat.beq m 23 then 1078 else 0)))) else
     (bif Nat.blt m 28 then (bif Nat.blt m 26 then (bif Nat.blt m 25 then (bif Nat.beq m 24 then 2233 else 0) else
        (bif Nat.beq m 25 then 3072 else 0)) else
       (bif Nat.blt m 27 then (bif Nat.beq m 26 then 3076 else 0) else
        (bif Nat.beq m 27 then 3081 else 0))) else
      (bif Nat.blt m 30 then (bif Nat.blt m 29 then (bif Nat.beq m 28 then 3085 else 0) else
        (bif Nat.beq m 29 then 3089 else 0)) else
       (bif Nat.blt m 31 then (bif Nat.beq m 30 then 3107 else 0) else
        (bif Nat.beq m 31 then 3122 else 0)))))) else
   (bif Nat.blt m 48 then (bif Nat.blt m 40 then (bif Nat.blt m 36 then (bif Nat.blt m 34 then (bif Nat.blt m 33 then (bif Nat.beq m 32 then 3150 else 0) else
        (bif Nat.beq m 33 then 3180 else 0)) else
       (bif Nat.blt m 35 then (bif Nat.beq m 34 then 5185 else 0) else
        (bif Nat.beq m 35 then 1210 else 0))) else
      (bif Nat.blt m 38 then (bif Nat.blt m 37 then (bif Nat.beq m 36 then 3111 else 0) else
        (bif Nat.beq m 37 then 3115 else 0)) else
       (bif Nat.blt m 39 then (bif Nat.beq m 38 then 3126 else 0) else
        (bif Nat.beq m 39 then 3130 else 0)))) else
     (bif Nat.blt m 44 then (bif Nat.blt m 42 then (bif Nat.blt m 41 then (bif Nat.beq m 40 then 3134 else 0) else
        (bif Nat.beq m 41 then 3138 else 0)) else
       (bif Nat.blt m 43 then (bif Nat.beq m 42 then 3142 else 0) else
        (bif Nat.beq m 43 then 3146 else 0))) else
      (bif Nat.blt m 46 then (bif Nat.blt m 45 then (bif Nat.beq m 44 then 3157 else 0) else
        (bif Nat.beq m 45 then 3161 else 0)) else
       (bif Nat.blt m 47 then (bif Nat.beq m 46 then 3165 else 0) else
        (bif Nat.beq m 47 then 3184 else 0))))) else
    (bif Nat.blt m 56 then (bif Nat.blt m 52 then (bif Nat.blt m 50 then (bif Nat.blt m 49 then (bif Nat.beq m 48 then 3189 else 0) else
        (bif Nat.beq m 49 then 3193 else 0)) else
       (bif Nat.blt m 51 then (bif Nat.beq m 50 then 3199 else 0) else
        (bif Nat.beq m 51 then 4011 else 0))) else
      (bif Nat.blt m 54 then (bif Nat.blt m 53 then (bif Nat.beq m 52 then 4015 else 0) else
        (bif Nat.beq m 53 then 4078 else 0)) else
       (bif Nat.blt m 55 then (bif Nat.beq m 54 then 4092 else 0) else
        (bif Nat.beq m 55 then 7011 else 0)))) else
     (bif Nat.blt m 60 then (bif Nat.blt m 58 then (bif Nat.blt m 57 then (bif Nat.beq m 56 then 7016 else 0) else
        (bif Nat.beq m 57 then 2101 else 0)) else
       (bif Nat.blt m 59 then (bif Nat.beq m 58 then 4031 else 0) else
        (bif Nat.beq m 59 then 4037 else 0))) else
      (bif Nat.blt m 62 then (bif Nat.blt m 61 then (bif Nat.beq m 60 then 4053 else 0) else
        (bif Nat.beq m 61 then 4058 else 0)) else
       (bif Nat.blt m 63 then (bif Nat.beq m 62 then 4062 else 0) else
        (bif Nat.blt m 64 then (bif Nat.beq m 63 then 4110 else 0) else
         (bif Nat.beq m 64 then 7096 else 0)))))))) else
  (bif Nat.blt m 97 then (bif Nat.blt m 81 then (bif Nat.blt m 73 then (bif Nat.blt m 69 then (bif Nat.blt m 67 then (bif Nat.blt m 66 then (bif Nat.beq m 65 then 7100 else 0) else
        (bif Nat.beq m 66 then 8052 else 0)) else
       (bif Nat.blt m 68 then (bif Nat.beq m 67 then 8056 else 0) else
        (bif Nat.beq m 68 then 8007 else 0))) else
      (bif Nat.blt m 71 then (bif Nat.blt m 70 then (bif Nat.beq m 69 then 8013 else 0) else
        (bif Nat.beq m 70 then 7205 else 0)) else
       (bif Nat.blt m 72 then (bif Nat.beq m 71 then 7209 else 0) else
        (bif Nat.beq m 72 then 7215 else 0)))) else
     (bif Nat.blt m 77 then (bif Nat.blt m 75 then (bif Nat.blt m 74 then (bif Nat.beq m 73 then 8064 else 0) else
        (bif Nat.beq m 74 then 8071 else 0)) else
       (bif Nat.blt m 76 then (bif Nat.beq m 75 then 8025 else 0) else
        (bif Nat.beq m 76 then 8002 else 0))) else
      (bif Nat.blt m 79 then (bif Nat.blt m 78 then (bif Nat.beq m 77 then 8032 else 0) else
        (bif Nat.beq m 78 then 7196 else 0)) else
       (bif Nat.blt m 80 then (bif Nat.beq m 79 then 7201 else 0) else
        (bif Nat.beq m 80 then 5207 else 0))))) else
    (bif Nat.blt m 89 then (bif Nat.blt m 85 then (bif Nat.blt m 83 then (bif Nat.blt m 82 then (bif Nat.beq m 81 then 1084 else 0) else
        (bif Nat.beq m 82 then 2237 else 0)) else
       (bif Nat.blt m 84 then (bif Nat.beq m 83 then 3002 else 0) else
        (bif Nat.beq m 84 then 3006 else 0))) else
      (bif Nat.blt m 87 then (bif Nat.blt m 86 then (bif Nat.beq m 85 then 3010 else 0) else
        (bif Nat.beq m 86 then 3013 else 0)) else
       (bif Nat.blt m 88 then (bif Nat.beq m 87 then 3017 else 0) else
        (bif Nat.beq m 88 then 3056 else 0)))) else
     (bif Nat.blt m 93 then (bif Nat.blt m 91 then (bif Nat.blt m 90 then (bif Nat.beq m 89 then 3060 else 0) else
        (bif Nat.beq m 90 then 3064 else 0)) else
       (bif Nat.blt m 92 then (bif Nat.beq m 91 then 3068 else 0) else
        (bif Nat.beq m 92 then 2034 else 0))) else
      (bif Nat.blt m 95 then (bif Nat.blt m 94 then (bif Nat.beq m 93 then 2039 else 0) else
        (bif Nat.beq m 94 then 3207 else 0)) else
       (bif Nat.blt m 96 then (bif Nat.beq m 95 then 3215 else 0) else
        (bif Nat.beq m 96 then 3220 else 0)))))) else
   (bif Nat.blt m 113 then (bif Nat.blt m 105 then (bif Nat.blt m 101 then (bif Nat.blt m 99 then (bif Nat.blt m 98 then (bif Nat.beq m 97 then 3229 else 0) else
        (bif Nat.beq m 98 then 3233 else 0)) else
       (bif Nat.blt m 100 then (bif Nat.beq m 99 then 3237 else 0) else
        (bif Nat.beq m 100 then 4001 else 0))) else
      (bif Nat.blt m 103 then (bif Nat.blt m 102 then (bif Nat.beq m 101 then 4019 else 0) else
        (bif Nat.beq m 102 then 4041 else 0)) else
       (bif Nat.blt m 104 then (bif Nat.beq m 103 then 4045 else 0) else
        (bif Nat.beq m 104 then 4048 else 0)))) else
     (bif Nat.blt m 109 then (bif Nat.blt m 107 then (bif Nat.blt m 106 then (bif Nat.beq m 105 then 4066 else 0) else
        (bif Nat.beq m 106 then 4069 else 0)) else
       (bif Nat.blt m 108 then (bif Nat.beq m 107 then 4082 else 0) else
        (bif Nat.beq m 108 then 4129 else 0))) else
      (bif Nat.blt m 111 then (bif Nat.blt m 110 then (bif Nat.beq m 109 then 7007 else 0) else
        (bif Nat.beq m 110 then 7074 else 0)) else
       (bif Nat.blt m 112 then (bif Nat.beq m 111 then 7170 else 0) else
        (bif Nat.beq m 112 then 8125 else 0))))) else
    (bif Nat.blt m 121 then (bif Nat.blt m 117 then (bif Nat.blt m 115 then (bif Nat.blt m 114 then (bif Nat.beq m 113 then 2160 else 0) else
        (bif Nat.beq m 114 then 7121 else 0)) else
       (bif Nat.blt m 116 then (bif Nat.beq m 115 then 7128 else 0) else
        (bif Nat.beq m 116 then 7132 else 0))) else
      (bif Nat.blt m 119 then (bif Nat.blt m 118 then (bif Nat.beq m 117 then 7136 else 0) else
        (bif Nat.beq m 118 then 7140 else 0)) else
       (bif Nat.blt m 120 then (bif Nat.beq m 119 then 7147 else 0) else
        (bif Nat.beq m 120 then 7152 else 0)))) else
     (bif Nat.blt m 125 then (bif Nat.blt m 123 then (bif Nat.blt m 122 then (bif Nat.beq m 121 then 7156 else 0) else
        (bif Nat.beq m 122 then 7160 else 0)) else
       (bif Nat.blt m 124 then (bif Nat.beq m 123 then 7165 else 0) else
        (bif Nat.beq m 124 then 1155 else 0))) else
      (bif Nat.blt m 127 then (bif Nat.blt m 126 then (bif Nat.beq m 125 then 3169 else 0) else
        (bif Nat.beq m 126 then 3172 else 0)) else
       (bif Nat.blt m 128 then (bif Nat.beq m 127 then 3176 else 0) else
        (bif Nat.blt m 129 then (bif Nat.beq m 128 then 4007 else 0) else
         (bif Nat.beq m 129 then 4023 else 0))))))))) else
 (bif Nat.blt m 195 then (bif Nat.blt m 162 then (bif Nat.blt m 146 then (bif Nat.blt m 138 then (bif Nat.blt m 134 then (bif Nat.blt m 132 then (bif Nat.blt m 131 then (bif Nat.beq m 130 then 4027 else 0) else
        (bif Nat.beq m 131 then 5166 else 0)) else
       (bif Nat.blt m 133 then (bif Nat.beq m 132 then 4183 else 0) else
        (bif Nat.beq m 133 then 5151 else 0))) else
      (bif Nat.blt m 136 then (bif Nat.blt m 135 then (bif Nat.beq m 134 then 5053 else 0) else
        (bif Nat.beq m 135 then 5170 else 0)) else
       (bif Nat.blt m 137 then (bif Nat.beq m 136 then 2180 else 0) else
        (bif Nat.beq m 137 then 3020 else 0)))) else
     (bif Nat.blt m 142 then (bif Nat.blt m 140 then (bif Nat.blt m 139 then (bif Nat.beq m 138 then 3023 else 0) else
        (bif Nat.beq m 139 then 3053 else 0)) else
       (bif Nat.blt m 141 then (bif Nat.beq m 140 then 3092 else 0) else
        (bif Nat.beq m 141 then 3095 else 0))) else
      (bif Nat.blt m 144 then (bif Nat.blt m 143 then (bif Nat.beq m 142 then 3098 else 0) else
        (bif Nat.beq m 143 then 3101 else 0)) else
       (bif Nat.blt m 145 then (bif Nat.beq m 144 then 3118 else 0) else
        (bif Nat.beq m 145 then 3153 else 0))))) else
    (bif Nat.blt m 154 then (bif Nat.blt m 150 then (bif Nat.blt m 148 then (bif Nat.blt m 147 then (bif Nat.beq m 146 then 1038 else 0) else
        (bif Nat.beq m 147 then 8105 else 0)) else
       (bif Nat.blt m 149 then (bif Nat.beq m 148 then 5228 else 0) else
        (bif Nat.beq m 149 then 6234 else 0))) else
      (bif Nat.blt m 152 then (bif Nat.blt m 151 then (bif Nat.beq m 150 then 6238 else 0) else
        (bif Nat.beq m 151 then 7112 else 0)) else
       (bif Nat.blt m 153 then (bif Nat.beq m 152 then 7088 else 0) else
        (bif Nat.beq m 153 then 7092 else 0)))) else
     (bif Nat.blt m 158 then (bif Nat.blt m 156 then (bif Nat.blt m 155 then (bif Nat.beq m 154 then 8048 else 0) else
        (bif Nat.beq m 155 then 8060 else 0)) else
       (bif Nat.blt m 157 then (bif Nat.beq m 156 then 8068 else 0) else
        (bif Nat.beq m 157 then 7106 else 0))) else
      (bif Nat.blt m 160 then (bif Nat.blt m 159 then (bif Nat.beq m 158 then 5089 else 0) else
        (bif Nat.beq m 159 then 5093 else 0)) else
       (bif Nat.blt m 161 then (bif Nat.beq m 160 then 5097 else 0) else
        (bif Nat.beq m 161 then 5101 else 0)))))) else
   (bif Nat.blt m 178 then (bif Nat.blt m 170 then (bif Nat.blt m 166 then (bif Nat.blt m 164 then (bif Nat.blt m 163 then (bif Nat.beq m 162 then 5105 else 0) else
        (bif Nat.beq m 163 then 4179 else 0)) else
       (bif Nat.blt m 165 then (bif Nat.beq m 164 then 7002 else 0) else
        (bif Nat.beq m 165 then 5162 else 0))) else
      (bif Nat.blt m 168 then (bif Nat.blt m 167 then (bif Nat.beq m 166 then 7022 else 0) else
        (bif Nat.beq m 167 then 7036 else 0)) else
       (bif Nat.blt m 169 then (bif Nat.beq m 168 then 7040 else 0) else
        (bif Nat.beq m 169 then 7047 else 0)))) else
     (bif Nat.blt m 174 then (bif Nat.blt m 172 then (bif Nat.blt m 171 then (bif Nat.beq m 170 then 7051 else 0) else
        (bif Nat.beq m 171 then 7031 else 0)) else
       (bif Nat.blt m 173 then (bif Nat.beq m 172 then 7071 else 0) else
        (bif Nat.beq m 173 then 7063 else 0))) else
      (bif Nat.blt m 176 then (bif Nat.blt m 175 then (bif Nat.beq m 174 then 7059 else 0) else
        (bif Nat.beq m 175 then 7233 else 0)) else
       (bif Nat.blt m 177 then (bif Nat.beq m 176 then 8021 else 0) else
        (bif Nat.beq m 177 then 7238 else 0))))) else
    (bif Nat.blt m 186 then (bif Nat.blt m 182 then (bif Nat.blt m 180 then (bif Nat.blt m 179 then (bif Nat.beq m 178 then 8029 else 0) else
        (bif Nat.beq m 179 then 7192 else 0)) else
       (bif Nat.blt m 181 then (bif Nat.beq m 180 then 5232 else 0) else
        (bif Nat.beq m 181 then 8092 else 0))) else
      (bif Nat.blt m 184 then (bif Nat.blt m 183 then (bif Nat.beq m 182 then 5132 else 0) else
        (bif Nat.beq m 183 then 8096 else 0)) else
       (bif Nat.blt m 185 then (bif Nat.beq m 184 then 8101 else 0) else
        (bif Nat.beq m 185 then 7229 else 0)))) else
     (bif Nat.blt m 190 then (bif Nat.blt m 188 then (bif Nat.blt m 187 then (bif Nat.beq m 186 then 7220 else 0) else
        (bif Nat.beq m 187 then 7182 else 0)) else
       (bif Nat.blt m 189 then (bif Nat.beq m 188 then 7186 else 0) else
        (bif Nat.beq m 189 then 6093 else 0))) else
      (bif Nat.blt m 192 then (bif Nat.blt m 191 then (bif Nat.beq m 190 then 7178 else 0) else
        (bif Nat.beq m 191 then 7117 else 0)) else
       (bif Nat.blt m 193 then (bif Nat.beq m 192 then 5177 else 0) else
        (bif Nat.blt m 194 then (bif Nat.beq m 193 then 5181 else 0) else
         (bif Nat.beq m 194 then 5198 else 0)))))))) else
  (bif Nat.blt m 228 then (bif Nat.blt m 211 then (bif Nat.blt m 203 then (bif Nat.blt m 199 then (bif Nat.blt m 197 then (bif Nat.blt m 196 then (bif Nat.beq m 195 then 8112 else 0) else
        (bif Nat.beq m 196 then 8120 else 0)) else
       (bif Nat.blt m 198 then (bif Nat.beq m 197 then 5128 else 0) else
        (bif Nat.beq m 198 then 5158 else 0))) else
      (bif Nat.blt m 201 then (bif Nat.blt m 200 then (bif Nat.beq m 199 then 5019 else 0) else
        (bif Nat.beq m 200 then 5023 else 0)) else
       (bif Nat.blt m 202 then (bif Nat.beq m 201 then 5116 else 0) else
        (bif Nat.beq m 202 then 5063 else 0)))) else
     (bif Nat.blt m 207 then (bif Nat.blt m 205 then (bif Nat.blt m 204 then (bif Nat.beq m 203 then 6106 else 0) else
        (bif Nat.beq m 204 then 6149 else 0)) else
       (bif Nat.blt m 206 then (bif Nat.beq m 205 then 6169 else 0) else
        (bif Nat.beq m 206 then 6186 else 0))) else
      (bif Nat.blt m 209 then (bif Nat.blt m 208 then (bif Nat.beq m 207 then 5074 else 0) else
        (bif Nat.beq m 208 then 5078 else 0)) else
       (bif Nat.blt m 210 then (bif Nat.beq m 209 then 5083 else 0) else
        (bif Nat.beq m 210 then 5112 else 0))))) else
    (bif Nat.blt m 219 then (bif Nat.blt m 215 then (bif Nat.blt m 213 then (bif Nat.blt m 212 then (bif Nat.beq m 211 then 5123 else 0) else
        (bif Nat.beq m 212 then 5154 else 0)) else
       (bif Nat.blt m 214 then (bif Nat.beq m 213 then 5173 else 0) else
        (bif Nat.beq m 214 then 5194 else 0))) else
      (bif Nat.blt m 217 then (bif Nat.blt m 216 then (bif Nat.beq m 215 then 5201 else 0) else
        (bif Nat.beq m 216 then 6085 else 0)) else
       (bif Nat.blt m 218 then (bif Nat.beq m 217 then 6229 else 0) else
        (bif Nat.beq m 218 then 7055 else 0)))) else
     (bif Nat.blt m 223 then (bif Nat.blt m 221 then (bif Nat.blt m 220 then (bif Nat.beq m 219 then 8017 else 0) else
        (bif Nat.beq m 220 then 8087 else 0)) else
       (bif Nat.blt m 222 then (bif Nat.beq m 221 then 8108 else 0) else
        (bif Nat.beq m 222 then 8116 else 0))) else
      (bif Nat.blt m 225 then (bif Nat.blt m 224 then (bif Nat.beq m 223 then 1050 else 0) else
        (bif Nat.beq m 224 then 1063 else 0)) else
       (bif Nat.blt m 226 then (bif Nat.beq m 225 then 5049 else 0) else
        (bif Nat.blt m 227 then (bif Nat.beq m 226 then 5188 else 0) else
         (bif Nat.beq m 227 then 7079 else 0))))))) else
   (bif Nat.blt m 244 then (bif Nat.blt m 236 then (bif Nat.blt m 232 then (bif Nat.blt m 230 then (bif Nat.blt m 229 then (bif Nat.beq m 228 then 4114 else 0) else
        (bif Nat.beq m 229 then 6175 else 0)) else
       (bif Nat.blt m 231 then (bif Nat.beq m 230 then 6178 else 0) else
        (bif Nat.beq m 231 then 6181 else 0))) else
      (bif Nat.blt m 234 then (bif Nat.blt m 233 then (bif Nat.beq m 232 then 7124 else 0) else
        (bif Nat.beq m 233 then 8037 else 0)) else
       (bif Nat.blt m 235 then (bif Nat.beq m 234 then 8040 else 0) else
        (bif Nat.beq m 235 then 8077 else 0)))) else
     (bif Nat.blt m 240 then (bif Nat.blt m 238 then (bif Nat.blt m 237 then (bif Nat.beq m 236 then 8080 else 0) else
        (bif Nat.beq m 237 then 5210 else 0)) else
       (bif Nat.blt m 239 then (bif Nat.beq m 238 then 5235 else 0) else
        (bif Nat.beq m 239 then 6003 else 0))) else
      (bif Nat.blt m 242 then (bif Nat.blt m 241 then (bif Nat.beq m 240 then 6007 else 0) else
        (bif Nat.beq m 241 then 6021 else 0)) else
       (bif Nat.blt m 243 then (bif Nat.beq m 242 then 6041 else 0) else
        (bif Nat.beq m 243 then 6045 else 0))))) else
    (bif Nat.blt m 252 then (bif Nat.blt m 248 then (bif Nat.blt m 246 then (bif Nat.blt m 245 then (bif Nat.beq m 244 then 6096 else 0) else
        (bif Nat.beq m 245 then 6109 else 0)) else
       (bif Nat.blt m 247 then (bif Nat.beq m 246 then 6163 else 0) else
        (bif Nat.beq m 247 then 6171 else 0))) else
      (bif Nat.blt m 250 then (bif Nat.blt m 249 then (bif Nat.beq m 248 then 6189 else 0) else
        (bif Nat.beq m 249 then 2185 else 0)) else
       (bif Nat.blt m 251 then (bif Nat.beq m 250 then 2189 else 0) else
        (bif Nat.beq m 251 then 2195 else 0)))) else
     (bif Nat.blt m 256 then (bif Nat.blt m 254 then (bif Nat.blt m 253 then (bif Nat.beq m 252 then 2199 else 0) else
        (bif Nat.beq m 253 then 6154 else 0)) else
       (bif Nat.blt m 255 then (bif Nat.beq m 254 then 6157 else 0) else
        (bif Nat.beq m 255 then 6112 else 0))) else
      (bif Nat.blt m 258 then (bif Nat.blt m 257 then (bif Nat.beq m 256 then 6115 else 0) else
        (bif Nat.beq m 257 then 7082 else 0)) else
       (bif Nat.blt m 259 then (bif Nat.beq m 258 then 6010 else 0) else
        (bif Nat.blt m 260 then (bif Nat.beq m 259 then 2202 else 0) else
         (bif Nat.beq m 260 then 6099 else 0))))))))))
noncomputable def zpI (m : Nat) : Nat :=
 (bif Nat.blt m 130 then (bif Nat.blt m 65 then (bif Nat.blt m 32 then (bif Nat.blt m 16 then (bif Nat.blt m 8 then (bif Nat.blt m 4 then (bif Nat.blt m 2 then (bif Nat.blt m 1 then (bif Nat.beq m 0 then 2137 else 0) else
        (bif Nat.beq m 1 then 3201 else 0)) else
       (bif Nat.blt m 3 then (bif Nat.beq m 2 then 4073 else 0) else
        (bif Nat.beq m 3 then 4085 else 0))) else
      (bif Nat.blt m 6 then (bif Nat.blt m 5 then (bif Nat.beq m 4 then 4094 else 0) else
        (bif Nat.beq m 5 then 4100 else 0)) else
       (bif Nat.blt m 7 then (bif Nat.beq m 6 then 4105 else 0) else
        (bif Nat.beq m 7 then 4118 else 0)))) else
     (bif Nat.blt m 12 then (bif Nat.blt m 10 then (bif Nat.blt m 9 then (bif Nat.beq m 8 then 4123 else 0) else
        (bif Nat.beq m 9 then 7065 else 0)) else
       (bif Nat.blt m 11 then (bif Nat.beq m 10 then 4185 else 0) else
        (bif Nat.beq m 11 then 4189 else 0))) else
      (bif Nat.blt m 14 then (bif Nat.blt m 13 then (bif Nat.beq m 12 then 7222 else 0) else
        (bif Nat.beq m 13 then 1045 else 0)) else
       (bif Nat.blt m 15 then (bif Nat.beq m 14 then 3209 else 0) else
        (bif Nat.beq m 15 then 1147 else 0))))) else
    (bif Nat.blt m 24 then (bif Nat.blt m 20 then (bif Nat.blt m 18 then (bif Nat.blt m 17 then (bif Nat.beq m 16 then 5107 else 0) else
        (bif Nat.beq m 17 then 5044 else 0)) else
       (bif Nat.blt m 19 then (bif Nat.beq m 18 then 5025 else 0) else
        (bif Nat.beq m 19 then 5056 else 0))) else
      (bif Nat.blt m 22 then (bif Nat.blt m 21 then (bif Nat.beq m 20 then 5118 else 0) else
        (bif Nat.beq m 21 then 5065 else 0)) else
       (bif Nat.blt m 23 then (bif Nat.beq m 22 then 5069 else 0) else
        (bif Nat.beq m 23 then 1077 else 0)))) else
     (bif Nat.blt m 28 then (bif Nat.blt m 26 then (bif Nat.blt m 25 then (bif Nat.beq m 24 then 2231 else 0) else
        (bif Nat.beq m 25 then 3070 else 0)) else
       (bif Nat.blt m 27 then (bif Nat.beq m 26 then 3075 else 0) else
        (bif Nat.beq m 27 then 3080 else 0))) else
      (bif Nat.blt m 30 then (bif Nat.blt m 29 then (bif Nat.beq m 28 then 3084 else 0) else
        (bif Nat.beq m 29 then 3088 else 0)) else
       (bif Nat.blt m 31 then (bif Nat.beq m 30 then 3106 else 0) else
        (bif Nat.beq m 31 then 3121 else 0)))))) else
   (bif Nat.blt m 48 then (bif Nat.blt m 40 then (bif Nat.blt m 36 then (bif Nat.blt m 34 then (bif Nat.blt m 33 then (bif Nat.beq m 32 then 3149 else 0) else
        (bif Nat.beq m 33 then 3179 else 0)) else
       (bif Nat.blt m 35 then (bif Nat.beq m 34 then 5183 else 0) else
        (bif Nat.beq m 35 then 1209 else 0))) else
      (bif Nat.blt m 38 then (bif Nat.blt m 37 then (bif Nat.beq m 36 then 3109 else 0) else
        (bif Nat.beq m 37 then 3113 else 0)) else
       (bif Nat.blt m 39 then (bif Nat.beq m 38 then 3124 else 0) else
        (bif Nat.beq m 39 then 3128 else 0)))) else
     (bif Nat.blt m 44 then (bif Nat.blt m 42 then (bif Nat.blt m 41 then (bif Nat.beq m 40 then 3132 else 0) else
        (bif Nat.beq m 41 then 3136 else 0)) else
       (bif Nat.blt m 43 then (bif Nat.beq m 42 then 3141 else 0) else
        (bif Nat.beq m 43 then 3145 else 0))) else
      (bif Nat.blt m 46 then (bif Nat.blt m 45 then (bif Nat.beq m 44 then 3155 else 0) else
        (bif Nat.beq m 45 then 3159 else 0)) else
       (bif Nat.blt m 47 then (bif Nat.beq m 46 then 3163 else 0) else
        (bif Nat.beq m 47 then 3182 else 0))))) else
    (bif Nat.blt m 56 then (bif Nat.blt m 52 then (bif Nat.blt m 50 then (bif Nat.blt m 49 then (bif Nat.beq m 48 then 3187 else 0) else
        (bif Nat.beq m 49 then 3191 else 0)) else
       (bif Nat.blt m 51 then (bif Nat.beq m 50 then 3197 else 0) else
        (bif Nat.beq m 51 then 4009 else 0))) else
      (bif Nat.blt m 54 then (bif Nat.blt m 53 then (bif Nat.beq m 52 then 4013 else 0) else
        (bif Nat.beq m 53 then 4076 else 0)) else
       (bif Nat.blt m 55 then (bif Nat.beq m 54 then 4090 else 0) else
        (bif Nat.beq m 55 then 7009 else 0)))) else
     (bif Nat.blt m 60 then (bif Nat.blt m 58 then (bif Nat.blt m 57 then (bif Nat.beq m 56 then 7014 else 0) else
        (bif Nat.beq m 57 then 2100 else 0)) else
       (bif Nat.blt m 59 then (bif Nat.beq m 58 then 4029 else 0) else
        (bif Nat.beq m 59 then 4036 else 0))) else
      (bif Nat.blt m 62 then (bif Nat.blt m 61 then (bif Nat.beq m 60 then 4051 else 0) else
        (bif Nat.beq m 61 then 4057 else 0)) else
       (bif Nat.blt m 63 then (bif Nat.beq m 62 then 4061 else 0) else
        (bif Nat.blt m 64 then (bif Nat.beq m 63 then 4108 else 0) else
         (bif Nat.beq m 64 then 7094 else 0)))))))) else
  (bif Nat.blt m 97 then (bif Nat.blt m 81 then (bif Nat.blt m 73 then (bif Nat.blt m 69 then (bif Nat.blt m 67 then (bif Nat.blt m 66 then (bif Nat.beq m 65 then 7099 else 0) else
        (bif Nat.beq m 66 then 8050 else 0)) else
       (bif Nat.blt m 68 then (bif Nat.beq m 67 then 8055 else 0) else
        (bif Nat.beq m 68 then 8006 else 0))) else
      (bif Nat.blt m 71 then (bif Nat.blt m 70 then (bif Nat.beq m 69 then 8012 else 0) else
        (bif Nat.beq m 70 then 7204 else 0)) else
       (bif Nat.blt m 72 then (bif Nat.beq m 71 then 7208 else 0) else
        (bif Nat.beq m 72 then 7214 else 0)))) else
     (bif Nat.blt m 77 then (bif Nat.blt m 75 then (bif Nat.blt m 74 then (bif Nat.beq m 73 then 8062 else 0) else
        (bif Nat.beq m 74 then 8070 else 0)) else
       (bif Nat.blt m 76 then (bif Nat.beq m 75 then 8023 else 0) else
        (bif Nat.beq m 76 then 8000 else 0))) else
      (bif Nat.blt m 79 then (bif Nat.blt m 78 then (bif Nat.beq m 77 then 8031 else 0) else
        (bif Nat.beq m 78 then 7194 else 0)) else
       (bif Nat.blt m 80 then (bif Nat.beq m 79 then 7200 else 0) else
        (bif Nat.beq m 80 then 5206 else 0))))) else
    (bif Nat.blt m 89 then (bif Nat.blt m 85 then (bif Nat.blt m 83 then (bif Nat.blt m 82 then (bif Nat.beq m 81 then 1083 else 0) else
        (bif Nat.beq m 82 then 2235 else 0)) else
       (bif Nat.blt m 84 then (bif Nat.beq m 83 then 3001 else 0) else
        (bif Nat.beq m 84 then 3005 else 0))) else
      (bif Nat.blt m 87 then (bif Nat.blt m 86 then (bif Nat.beq m 85 then 3009 else 0) else
        (bif Nat.beq m 86 then 3012 else 0)) else
       (bif Nat.blt m 88 then (bif Nat.beq m 87 then 3016 else 0) else
        (bif Nat.beq m 88 then 3055 else 0)))) else
     (bif Nat.blt m 93 then (bif Nat.blt m 91 then (bif Nat.blt m 90 then (bif Nat.beq m 89 then 3059 else 0) else
        (bif Nat.beq m 90 then 3063 else 0)) else
       (bif Nat.blt m 92 then (bif Nat.beq m 91 then 3066 else 0) else
        (bif Nat.beq m 92 then 2033 else 0))) else
      (bif Nat.blt m 95 then (bif Nat.blt m 94 then (bif Nat.beq m 93 then 2038 else 0) else
        (bif Nat.beq m 94 then 3205 else 0)) else
       (bif Nat.blt m 96 then (bif Nat.beq m 95 then 3213 else 0) else
        (bif Nat.beq m 96 then 3219 else 0)))))) else
   (bif Nat.blt m 113 then (bif Nat.blt m 105 then (bif Nat.blt m 101 then (bif Nat.blt m 99 then (bif Nat.blt m 98 then (bif Nat.beq m 97 then 3228 else 0) else
        (bif Nat.beq m 98 then 3232 else 0)) else
       (bif Nat.blt m 100 then (bif Nat.beq m 99 then 3235 else 0) else
        (bif Nat.beq m 100 then 4000 else 0))) else
      (bif Nat.blt m 103 then (bif Nat.blt m 102 then (bif Nat.beq m 101 then 4018 else 0) else
        (bif Nat.beq m 102 then 4039 else 0)) else
       (bif Nat.blt m 104 then (bif Nat.beq m 103 then 4043 else 0) else
        (bif Nat.beq m 104 then 4047 else 0)))) else
     (bif Nat.blt m 109 then (bif Nat.blt m 107 then (bif Nat.blt m 106 then (bif Nat.beq m 105 then 4064 else 0) else
        (bif Nat.beq m 106 then 4068 else 0)) else
       (bif Nat.blt m 108 then (bif Nat.beq m 107 then 4080 else 0) else
        (bif Nat.beq m 108 then 4127 else 0))) else
      (bif Nat.blt m 111 then (bif Nat.blt m 110 then (bif Nat.beq m 109 then 7005 else 0) else
        (bif Nat.beq m 110 then 7073 else 0)) else
       (bif Nat.blt m 112 then (bif Nat.beq m 111 then 7168 else 0) else
        (bif Nat.beq m 112 then 8123 else 0))))) else
    (bif Nat.blt m 121 then (bif Nat.blt m 117 then (bif Nat.blt m 115 then (bif Nat.blt m 114 then (bif Nat.beq m 113 then 2159 else 0) else
        (bif Nat.beq m 114 then 7119 else 0)) else
       (bif Nat.blt m 116 then (bif Nat.beq m 115 then 7127 else 0) else
        (bif Nat.beq m 116 then 7131 else 0))) else
      (bif Nat.blt m 119 then (bif Nat.blt m 118 then (bif Nat.beq m 117 then 7134 else 0) else
        (bif Nat.beq m 118 then 7139 else 0)) else
       (bif Nat.blt m 120 then (bif Nat.beq m 119 then 7146 else 0) else
        (bif Nat.beq m 120 then 7151 else 0)))) else
     (bif Nat.blt m 125 then (bif Nat.blt m 123 then (bif Nat.blt m 122 then (bif Nat.beq m 121 then 7155 else 0) else
        (bif Nat.beq m 122 then 7158 else 0)) else
       (bif Nat.blt m 124 then (bif Nat.beq m 123 then 7164 else 0) else
        (bif Nat.beq m 124 then 1154 else 0))) else
      (bif Nat.blt m 127 then (bif Nat.blt m 126 then (bif Nat.beq m 125 then 3167 else 0) else
        (bif Nat.beq m 126 then 3171 else 0)) else
       (bif Nat.blt m 128 then (bif Nat.beq m 127 then 3174 else 0) else
        (bif Nat.blt m 129 then (bif Nat.beq m 128 then 4005 else 0) else
         (bif Nat.beq m 129 then 4021 else 0))))))))) else
 (bif Nat.blt m 195 then (bif Nat.blt m 162 then (bif Nat.blt m 146 then (bif Nat.blt m 138 then (bif Nat.blt m 134 then (bif Nat.blt m 132 then (bif Nat.blt m 131 then (bif Nat.beq m 130 then 4025 else 0) else
        (bif Nat.beq m 131 then 5164 else 0)) else
       (bif Nat.blt m 133 then (bif Nat.beq m 132 then 4181 else 0) else
        (bif Nat.beq m 133 then 5149 else 0))) else
      (bif Nat.blt m 136 then (bif Nat.blt m 135 then (bif Nat.beq m 134 then 5051 else 0) else
        (bif Nat.beq m 135 then 5168 else 0)) else
       (bif Nat.blt m 137 then (bif Nat.beq m 136 then 2179 else 0) else
        (bif Nat.beq m 137 then 3019 else 0)))) else
     (bif Nat.blt m 142 then (bif Nat.blt m 140 then (bif Nat.blt m 139 then (bif Nat.beq m 138 then 3022 else 0) else
        (bif Nat.beq m 139 then 3052 else 0)) else
       (bif Nat.blt m 141 then (bif Nat.beq m 140 then 3091 else 0) else
        (bif Nat.beq m 141 then 3094 else 0))) else
      (bif Nat.blt m 144 then (bif Nat.blt m 143 then (bif Nat.beq m 142 then 3097 else 0) else
        (bif Nat.beq m 143 then 3100 else 0)) else
       (bif Nat.blt m 145 then (bif Nat.beq m 144 then 3117 else 0) else
        (bif Nat.beq m 145 then 3152 else 0))))) else
    (bif Nat.blt m 154 then (bif Nat.blt m 150 then (bif Nat.blt m 148 then (bif Nat.blt m 147 then (bif Nat.beq m 146 then 1037 else 0) else
        (bif Nat.beq m 147 then 8103 else 0)) else
       (bif Nat.blt m 149 then (bif Nat.beq m 148 then 5227 else 0) else
        (bif Nat.beq m 149 then 6232 else 0))) else
      (bif Nat.blt m 152 then (bif Nat.blt m 151 then (bif Nat.beq m 150 then 6236 else 0) else
        (bif Nat.beq m 151 then 7110 else 0)) else
       (bif Nat.blt m 153 then (bif Nat.beq m 152 then 7086 else 0) else
        (bif Nat.beq m 153 then 7090 else 0)))) else
     (bif Nat.blt m 158 then (bif Nat.blt m 156 then (bif Nat.blt m 155 then (bif Nat.beq m 154 then 8046 else 0) else
        (bif Nat.beq m 155 then 8058 else 0)) else
       (bif Nat.blt m 157 then (bif Nat.beq m 156 then 8066 else 0) else
        (bif Nat.beq m 157 then 7104 else 0))) else
      (bif Nat.blt m 160 then (bif Nat.blt m 159 then (bif Nat.beq m 158 then 5087 else 0) else
        (bif Nat.beq m 159 then 5092 else 0)) else
       (bif Nat.blt m 161 then (bif Nat.beq m 160 then 5095 else 0) else
        (bif Nat.beq m 161 then 5100 else 0)))))) else
   (bif Nat.blt m 178 then (bif Nat.blt m 170 then (bif Nat.blt m 166 then (bif Nat.blt m 164 then (bif Nat.blt m 163 then (bif Nat.beq m 162 then 5104 else 0) else
        (bif Nat.beq m 163 then 4177 else 0)) else
       (bif Nat.blt m 165 then (bif Nat.beq m 164 then 7000 else 0) else
        (bif Nat.beq m 165 then 5161 else 0))) else
      (bif Nat.blt m 168 then (bif Nat.blt m 167 then (bif Nat.beq m 166 then 7021 else 0) else
        (bif Nat.beq m 167 then 7034 else 0)) else
       (bif Nat.blt m 169 then (bif Nat.beq m 168 then 7039 else 0) else
        (bif Nat.beq m 169 then 7045 else 0)))) else
     (bif Nat.blt m 174 then (bif Nat.blt m 172 then (bif Nat.blt m 171 then (bif Nat.beq m 170 then 7050 else 0) else
        (bif Nat.beq m 171 then 7029 else 0)) else
       (bif Nat.blt m 173 then (bif Nat.beq m 172 then 7069 else 0) else
        (bif Nat.beq m 173 then 7062 else 0))) else
      (bif Nat.blt m 176 then (bif Nat.blt m 175 then (bif Nat.beq m 174 then 7057 else 0) else
        (bif Nat.beq m 175 then 7231 else 0)) else
       (bif Nat.blt m 177 then (bif Nat.beq m 176 then 8019 else 0) else
        (bif Nat.beq m 177 then 7236 else 0))))) else
    (bif Nat.blt m 186 then (bif Nat.blt m 182 then (bif Nat.blt m 180 then (bif Nat.blt m 179 then (bif Nat.beq m 178 then 8027 else 0) else
        (bif Nat.beq m 179 then 7190 else 0)) else
       (bif Nat.blt m 181 then (bif Nat.beq m 180 then 5230 else 0) else
        (bif Nat.beq m 181 then 8090 else 0))) else
      (bif Nat.blt m 184 then (bif Nat.blt m 183 then (bif Nat.beq m 182 then 5131 else 0) else
        (bif Nat.beq m 183 then 8095 else 0)) else
       (bif Nat.blt m 185 then (bif Nat.beq m 184 then 8099 else 0) else
        (bif Nat.beq m 185 then 7227 else 0)))) else
     (bif Nat.blt m 190 then (bif Nat.blt m 188 then (bif Nat.blt m 187 then (bif Nat.beq m 186 then 7218 else 0) else
        (bif Nat.beq m 187 then 7180 else 0)) else
       (bif Nat.blt m 189 then (bif Nat.beq m 188 then 7185 else 0) else
        (bif Nat.beq m 189 then 6091 else 0))) else
      (bif Nat.blt m 192 then (bif Nat.blt m 191 then (bif Nat.beq m 190 then 7176 else 0) else
        (bif Nat.beq m 191 then 7115 else 0)) else
       (bif Nat.blt m 193 then (bif Nat.beq m 192 then 5175 else 0) else
        (bif Nat.blt m 194 then (bif Nat.beq m 193 then 5180 else 0) else
         (bif Nat.beq m 194 then 5196 else 0)))))))) else
  (bif Nat.blt m 228 then (bif Nat.blt m 211 then (bif Nat.blt m 203 then (bif Nat.blt m 199 then (bif Nat.blt m 197 then (bif Nat.blt m 196 then (bif Nat.beq m 195 then 8110 else 0) else
        (bif Nat.beq m 196 then 8118 else 0)) else
       (bif Nat.blt m 198 then (bif Nat.beq m 197 then 5126 else 0) else
        (bif Nat.beq m 198 then 5156 else 0))) else
      (bif Nat.blt m 201 then (bif Nat.blt m 200 then (bif Nat.beq m 199 then 5017 else 0) else
        (bif Nat.beq m 200 then 5022 else 0)) else
       (bif Nat.blt m 202 then (bif Nat.beq m 201 then 5114 else 0) else
        (bif Nat.beq m 202 then 5061 else 0)))) else
     (bif Nat.blt m 207 then (bif Nat.blt m 205 then (bif Nat.blt m 204 then (bif Nat.beq m 203 then 6104 else 0) else
        (bif Nat.beq m 204 then 6147 else 0)) else
       (bif Nat.blt m 206 then (bif Nat.beq m 205 then 6168 else 0) else
        (bif Nat.beq m 206 then 6185 else 0))) else
      (bif Nat.blt m 209 then (bif Nat.blt m 208 then (bif Nat.beq m 207 then 5073 else 0) else
        (bif Nat.beq m 208 then 5077 else 0)) else
       (bif Nat.blt m 210 then (bif Nat.beq m 209 then 5082 else 0) else
        (bif Nat.beq m 210 then 5111 else 0))))) else
    (bif Nat.blt m 219 then (bif Nat.blt m 215 then (bif Nat.blt m 213 then (bif Nat.blt m 212 then (bif Nat.beq m 211 then 5122 else 0) else
        (bif Nat.beq m 212 then 5153 else 0)) else
       (bif Nat.blt m 214 then (bif Nat.beq m 213 then 5172 else 0) else
        (bif Nat.beq m 214 then 5193 else 0))) else
      (bif Nat.blt m 217 then (bif Nat.blt m 216 then (bif Nat.beq m 215 then 5200 else 0) else
        (bif Nat.beq m 216 then 6084 else 0)) else
       (bif Nat.blt m 218 then (bif Nat.beq m 217 then 6228 else 0) else
        (bif Nat.beq m 218 then 7054 else 0)))) else
     (bif Nat.blt m 223 then (bif Nat.blt m 221 then (bif Nat.blt m 220 then (bif Nat.beq m 219 then 8016 else 0) else
        (bif Nat.beq m 220 then 8086 else 0)) else
       (bif Nat.blt m 222 then (bif Nat.beq m 221 then 8107 else 0) else
        (bif Nat.beq m 222 then 8115 else 0))) else
      (bif Nat.blt m 225 then (bif Nat.blt m 224 then (bif Nat.beq m 223 then 1049 else 0) else
        (bif Nat.beq m 224 then 1062 else 0)) else
       (bif Nat.blt m 226 then (bif Nat.beq m 225 then 5048 else 0) else
        (bif Nat.blt m 227 then (bif Nat.beq m 226 then 5187 else 0) else
         (bif Nat.beq m 227 then 7078 else 0))))))) else
   (bif Nat.blt m 244 then (bif Nat.blt m 236 then (bif Nat.blt m 232 then (bif Nat.blt m 230 then (bif Nat.blt m 229 then (bif Nat.beq m 228 then 4113 else 0) else
        (bif Nat.beq m 229 then 6174 else 0)) else
       (bif Nat.blt m 231 then (bif Nat.beq m 230 then 6177 else 0) else
        (bif Nat.beq m 231 then 6180 else 0))) else
      (bif Nat.blt m 234 then (bif Nat.blt m 233 then (bif Nat.beq m 232 then 7123 else 0) else
        (bif Nat.beq m 233 then 8036 else 0)) else
       (bif Nat.blt m 235 then (bif Nat.beq m 234 then 8039 else 0) else
        (bif Nat.beq m 235 then 8076 else 0)))) else
     (bif Nat.blt m 240 then (bif Nat.blt m 238 then (bif Nat.blt m 237 then (bif Nat.beq m 236 then 8079 else 0) else
        (bif Nat.beq m 237 then 5209 else 0)) else
       (bif Nat.blt m 239 then (bif Nat.beq m 238 then 5224 else 0) else
        (bif Nat.beq m 239 then 6002 else 0))) else
      (bif Nat.blt m 242 then (bif Nat.blt m 241 then (bif Nat.beq m 240 then 6006 else 0) else
        (bif Nat.beq m 241 then 6018 else 0)) else
       (bif Nat.blt m 243 then (bif Nat.beq m 242 then 6040 else 0) else
        (bif Nat.beq m 243 then 6044 else 0))))) else
    (bif Nat.blt m 252 then (bif Nat.blt m 248 then (bif Nat.blt m 246 then (bif Nat.blt m 245 then (bif Nat.beq m 244 then 6095 else 0) else
        (bif Nat.beq m 245 then 6108 else 0)) else
       (bif Nat.blt m 247 then (bif Nat.beq m 246 then 6160 else 0) else
        (bif Nat.beq m 247 then 6165 else 0))) else
      (bif Nat.blt m 250 then (bif Nat.blt m 249 then (bif Nat.beq m 248 then 6188 else 0) else
        (bif Nat.beq m 249 then 2183 else 0)) else
       (bif Nat.blt m 251 then (bif Nat.beq m 250 then 2187 else 0) else
        (bif Nat.beq m 251 then 2193 else 0)))) else
     (bif Nat.blt m 256 then (bif Nat.blt m 254 then (bif Nat.blt m 253 then (bif Nat.beq m 252 then 2197 else 0) else
        (bif Nat.beq m 253 then 6153 else 0)) else
       (bif Nat.blt m 255 then (bif Nat.beq m 254 then 6156 else 0) else
        (bif Nat.beq m 255 then 6111 else 0))) else
      (bif Nat.blt m 258 then (bif Nat.blt m 257 then (bif Nat.beq m 256 then 6114 else 0) else
        (bif Nat.beq m 257 then 7081 else 0)) else
       (bif Nat.blt m 259 then (bif Nat.beq m 258 then 6009 else 0) else
        (bif Nat.blt m 260 then (bif Nat.beq m 259 then 2201 else 0) else
         (bif Nat.beq m 260 then 6098 else 0))))))))))
noncomputable def zpS (m : Nat) : Nat :=
 (bif Nat.blt m 130 then (bif Nat.blt m 65 then (bif Nat.blt m 32 then (bif Nat.blt m 16 then (bif Nat.blt m 8 then (bif Nat.blt m 4 then (bif Nat.blt m 2 then (bif Nat.blt m 1 then (bif Nat.beq m 0 then 0 else 0) else
        (bif Nat.beq m 1 then 3202 else 0)) else
       (bif Nat.blt m 3 then (bif Nat.beq m 2 then 20024 else 0) else
        (bif Nat.beq m 3 then 20025 else 0))) else
      (bif Nat.blt m 6 then (bif Nat.blt m 5 then (bif Nat.beq m 4 then 4095 else 0) else
        (bif Nat.beq m 5 then 20026 else 0)) else
       (bif Nat.blt m 7 then (bif Nat.beq m 6 then 20027 else 0) else
        (bif Nat.beq m 7 then 20028 else 0)))) else
     (bif Nat.blt m 12 then (bif Nat.blt m 10 then (bif Nat.blt m 9 then (bif Nat.beq m 8 then 20029 else 0) else
        (bif Nat.beq m 9 then 7066 else 0)) else
       (bif Nat.blt m 11 then (bif Nat.beq m 10 then 4186 else 0) else
        (bif Nat.beq m 11 then 4190 else 0))) else
      (bif Nat.blt m 14 then (bif Nat.blt m 13 then (bif Nat.beq m 12 then 7223 else 0) else
        (bif Nat.beq m 13 then 0 else 0)) else
       (bif Nat.blt m 15 then (bif Nat.beq m 14 then 3210 else 0) else
        (bif Nat.beq m 15 then 0 else 0))))) else
    (bif Nat.blt m 24 then (bif Nat.blt m 20 then (bif Nat.blt m 18 then (bif Nat.blt m 17 then (bif Nat.beq m 16 then 5108 else 0) else
        (bif Nat.beq m 17 then 5045 else 0)) else
       (bif Nat.blt m 19 then (bif Nat.beq m 18 then 5026 else 0) else
        (bif Nat.beq m 19 then 5057 else 0))) else
      (bif Nat.blt m 22 then (bif Nat.blt m 21 then (bif Nat.beq m 20 then 5119 else 0) else
        (bif Nat.beq m 21 then 5066 else 0)) else
       (bif Nat.blt m 23 then (bif Nat.beq m 22 then 5070 else 0) else
        (bif Nat.beq m 23 then 0 else 0)))) else
     (bif Nat.blt m 28 then (bif Nat.blt m 26 then (bif Nat.blt m 25 then (bif Nat.beq m 24 then 2232 else 0) else
        (bif Nat.beq m 25 then 3071 else 0)) else
       (bif Nat.blt m 27 then (bif Nat.beq m 26 then 20006 else 0) else
        (bif Nat.beq m 27 then 20007 else 0))) else
      (bif Nat.blt m 30 then (bif Nat.blt m 29 then (bif Nat.beq m 28 then 20008 else 0) else
        (bif Nat.beq m 29 then 20009 else 0)) else
       (bif Nat.blt m 31 then (bif Nat.beq m 30 then 20010 else 0) else
        (bif Nat.beq m 31 then 20011 else 0)))))) else
   (bif Nat.blt m 48 then (bif Nat.blt m 40 then (bif Nat.blt m 36 then (bif Nat.blt m 34 then (bif Nat.blt m 33 then (bif Nat.beq m 32 then 20014 else 0) else
        (bif Nat.beq m 33 then 20015 else 0)) else
       (bif Nat.blt m 35 then (bif Nat.beq m 34 then 5184 else 0) else
        (bif Nat.beq m 35 then 0 else 0))) else
      (bif Nat.blt m 38 then (bif Nat.blt m 37 then (bif Nat.beq m 36 then 3110 else 0) else
        (bif Nat.beq m 37 then 3114 else 0)) else
       (bif Nat.blt m 39 then (bif Nat.beq m 38 then 3125 else 0) else
        (bif Nat.beq m 39 then 3129 else 0)))) else
     (bif Nat.blt m 44 then (bif Nat.blt m 42 then (bif Nat.blt m 41 then (bif Nat.beq m 40 then 3133 else 0) else
        (bif Nat.beq m 41 then 3137 else 0)) else
       (bif Nat.blt m 43 then (bif Nat.beq m 42 then 20012 else 0) else
        (bif Nat.beq m 43 then 20013 else 0))) else
      (bif Nat.blt m 46 then (bif Nat.blt m 45 then (bif Nat.beq m 44 then 3156 else 0) else
        (bif Nat.beq m 45 then 3160 else 0)) else
       (bif Nat.blt m 47 then (bif Nat.beq m 46 then 3164 else 0) else
        (bif Nat.beq m 47 then 3183 else 0))))) else
    (bif Nat.blt m 56 then (bif Nat.blt m 52 then (bif Nat.blt m 50 then (bif Nat.blt m 49 then (bif Nat.beq m 48 then 3188 else 0) else
        (bif Nat.beq m 49 then 3192 else 0)) else
       (bif Nat.blt m 51 then (bif Nat.beq m 50 then 3198 else 0) else
        (bif Nat.beq m 51 then 4010 else 0))) else
      (bif Nat.blt m 54 then (bif Nat.blt m 53 then (bif Nat.beq m 52 then 4014 else 0) else
        (bif Nat.beq m 53 then 4077 else 0)) else
       (bif Nat.blt m 55 then (bif Nat.beq m 54 then 4091 else 0) else
        (bif Nat.beq m 55 then 7010 else 0)))) else
     (bif Nat.blt m 60 then (bif Nat.blt m 58 then (bif Nat.blt m 57 then (bif Nat.beq m 56 then 7015 else 0) else
        (bif Nat.beq m 57 then 0 else 0)) else
       (bif Nat.blt m 59 then (bif Nat.beq m 58 then 4030 else 0) else
        (bif Nat.beq m 59 then 20021 else 0))) else
      (bif Nat.blt m 62 then (bif Nat.blt m 61 then (bif Nat.beq m 60 then 4052 else 0) else
        (bif Nat.beq m 61 then 20022 else 0)) else
       (bif Nat.blt m 63 then (bif Nat.beq m 62 then 20023 else 0) else
        (bif Nat.blt m 64 then (bif Nat.beq m 63 then 4109 else 0) else
         (bif Nat.beq m 64 then 7095 else 0)))))))) else
  (bif Nat.blt m 97 then (bif Nat.blt m 81 then (bif Nat.blt m 73 then (bif Nat.blt m 69 then (bif Nat.blt m 67 then (bif Nat.blt m 66 then (bif Nat.beq m 65 then 20042 else 0) else
        (bif Nat.beq m 66 then 8051 else 0)) else
       (bif Nat.blt m 68 then (bif Nat.beq m 67 then 20056 else 0) else
        (bif Nat.beq m 68 then 20054 else 0))) else
      (bif Nat.blt m 71 then (bif Nat.blt m 70 then (bif Nat.beq m 69 then 20055 else 0) else
        (bif Nat.beq m 70 then 20051 else 0)) else
       (bif Nat.blt m 72 then (bif Nat.beq m 71 then 20052 else 0) else
        (bif Nat.beq m 72 then 20053 else 0)))) else
     (bif Nat.blt m 77 then (bif Nat.blt m 75 then (bif Nat.blt m 74 then (bif Nat.beq m 73 then 8063 else 0) else
        (bif Nat.beq m 74 then 0 else 0)) else
       (bif Nat.blt m 76 then (bif Nat.beq m 75 then 8024 else 0) else
        (bif Nat.beq m 76 then 8001 else 0))) else
      (bif Nat.blt m 79 then (bif Nat.blt m 78 then (bif Nat.beq m 77 then 0 else 0) else
        (bif Nat.beq m 78 then 7195 else 0)) else
       (bif Nat.blt m 80 then (bif Nat.beq m 79 then 20050 else 0) else
        (bif Nat.beq m 80 then 0 else 0))))) else
    (bif Nat.blt m 89 then (bif Nat.blt m 85 then (bif Nat.blt m 83 then (bif Nat.blt m 82 then (bif Nat.beq m 81 then 0 else 0) else
        (bif Nat.beq m 82 then 2236 else 0)) else
       (bif Nat.blt m 84 then (bif Nat.beq m 83 then 20000 else 0) else
        (bif Nat.beq m 84 then 20001 else 0))) else
      (bif Nat.blt m 87 then (bif Nat.blt m 86 then (bif Nat.beq m 85 then 20002 else 0) else
        (bif Nat.beq m 86 then 0 else 0)) else
       (bif Nat.blt m 88 then (bif Nat.beq m 87 then 20003 else 0) else
        (bif Nat.beq m 88 then 0 else 0)))) else
     (bif Nat.blt m 93 then (bif Nat.blt m 91 then (bif Nat.blt m 90 then (bif Nat.beq m 89 then 20004 else 0) else
        (bif Nat.beq m 90 then 20005 else 0)) else
       (bif Nat.blt m 92 then (bif Nat.beq m 91 then 3067 else 0) else
        (bif Nat.beq m 92 then 0 else 0))) else
      (bif Nat.blt m 95 then (bif Nat.blt m 94 then (bif Nat.beq m 93 then 0 else 0) else
        (bif Nat.beq m 94 then 3206 else 0)) else
       (bif Nat.blt m 96 then (bif Nat.beq m 95 then 3214 else 0) else
        (bif Nat.beq m 96 then 20016 else 0)))))) else
   (bif Nat.blt m 113 then (bif Nat.blt m 105 then (bif Nat.blt m 101 then (bif Nat.blt m 99 then (bif Nat.blt m 98 then (bif Nat.beq m 97 then 20017 else 0) else
        (bif Nat.beq m 98 then 20018 else 0)) else
       (bif Nat.blt m 100 then (bif Nat.beq m 99 then 3236 else 0) else
        (bif Nat.beq m 100 then 20019 else 0))) else
      (bif Nat.blt m 103 then (bif Nat.blt m 102 then (bif Nat.beq m 101 then 20020 else 0) else
        (bif Nat.beq m 102 then 4040 else 0)) else
       (bif Nat.blt m 104 then (bif Nat.beq m 103 then 4044 else 0) else
        (bif Nat.beq m 104 then 0 else 0)))) else
     (bif Nat.blt m 109 then (bif Nat.blt m 107 then (bif Nat.blt m 106 then (bif Nat.beq m 105 then 4065 else 0) else
        (bif Nat.beq m 106 then 0 else 0)) else
       (bif Nat.blt m 108 then (bif Nat.beq m 107 then 4081 else 0) else
        (bif Nat.beq m 108 then 4128 else 0))) else
      (bif Nat.blt m 111 then (bif Nat.blt m 110 then (bif Nat.beq m 109 then 7006 else 0) else
        (bif Nat.beq m 110 then 0 else 0)) else
       (bif Nat.blt m 112 then (bif Nat.beq m 111 then 7169 else 0) else
        (bif Nat.beq m 112 then 8124 else 0))))) else
    (bif Nat.blt m 121 then (bif Nat.blt m 117 then (bif Nat.blt m 115 then (bif Nat.blt m 114 then (bif Nat.beq m 113 then 0 else 0) else
        (bif Nat.beq m 114 then 7120 else 0)) else
       (bif Nat.blt m 116 then (bif Nat.beq m 115 then 20043 else 0) else
        (bif Nat.beq m 116 then 20044 else 0))) else
      (bif Nat.blt m 119 then (bif Nat.blt m 118 then (bif Nat.beq m 117 then 7135 else 0) else
        (bif Nat.beq m 118 then 20045 else 0)) else
       (bif Nat.blt m 120 then (bif Nat.beq m 119 then 20046 else 0) else
        (bif Nat.beq m 120 then 0 else 0)))) else
     (bif Nat.blt m 125 then (bif Nat.blt m 123 then (bif Nat.blt m 122 then (bif Nat.beq m 121 then 20047 else 0) else
        (bif Nat.beq m 122 then 7159 else 0)) else
       (bif Nat.blt m 124 then (bif Nat.beq m 123 then 20048 else 0) else
        (bif Nat.beq m 124 then 0 else 0))) else
      (bif Nat.blt m 127 then (bif Nat.blt m 126 then (bif Nat.beq m 125 then 3168 else 0) else
        (bif Nat.beq m 126 then 0 else 0)) else
       (bif Nat.blt m 128 then (bif Nat.beq m 127 then 3175 else 0) else
        (bif Nat.blt m 129 then (bif Nat.beq m 128 then 4006 else 0) else
         (bif Nat.beq m 129 then 4022 else 0))))))))) else
 (bif Nat.blt m 195 then (bif Nat.blt m 162 then (bif Nat.blt m 146 then (bif Nat.blt m 138 then (bif Nat.blt m 134 then (bif Nat.blt m 132 then (bif Nat.blt m 131 then (bif Nat.beq m 130 then 4026 else 0) else
        (bif Nat.beq m 131 then 5165 else 0)) else
       (bif Nat.blt m 133 then (bif Nat.beq m 132 then 4182 else 0) else
        (bif Nat.beq m 133 then 5150 else 0))) else
      (bif Nat.blt m 136 then (bif Nat.blt m 135 then (bif Nat.beq m 134 then 5052 else 0) else
        (bif Nat.beq m 135 then 5169 else 0)) else
       (bif Nat.blt m 137 then (bif Nat.beq m 136 then 0 else 0) else
        (bif Nat.beq m 137 then 0 else 0)))) else
     (bif Nat.blt m 142 then (bif Nat.blt m 140 then (bif Nat.blt m 139 then (bif Nat.beq m 138 then 0 else 0) else
        (bif Nat.beq m 139 then 0 else 0)) else
       (bif Nat.blt m 141 then (bif Nat.beq m 140 then 0 else 0) else
        (bif Nat.beq m 141 then 0 else 0))) else
      (bif Nat.blt m 144 then (bif Nat.blt m 143 then (bif Nat.beq m 142 then 0 else 0) else
        (bif Nat.beq m 143 then 0 else 0)) else
       (bif Nat.blt m 145 then (bif Nat.beq m 144 then 0 else 0) else
        (bif Nat.beq m 145 then 0 else 0))))) else
    (bif Nat.blt m 154 then (bif Nat.blt m 150 then (bif Nat.blt m 148 then (bif Nat.blt m 147 then (bif Nat.beq m 146 then 0 else 0) else
        (bif Nat.beq m 147 then 8104 else 0)) else
       (bif Nat.blt m 149 then (bif Nat.beq m 148 then 0 else 0) else
        (bif Nat.beq m 149 then 6233 else 0))) else
      (bif Nat.blt m 152 then (bif Nat.blt m 151 then (bif Nat.beq m 150 then 6237 else 0) else
        (bif Nat.beq m 151 then 7111 else 0)) else
       (bif Nat.blt m 153 then (bif Nat.beq m 152 then 7087 else 0) else
        (bif Nat.beq m 153 then 7091 else 0)))) else
     (bif Nat.blt m 158 then (bif Nat.blt m 156 then (bif Nat.blt m 155 then (bif Nat.beq m 154 then 8047 else 0) else
        (bif Nat.beq m 155 then 8059 else 0)) else
       (bif Nat.blt m 157 then (bif Nat.beq m 156 then 8067 else 0) else
        (bif Nat.beq m 157 then 7105 else 0))) else
      (bif Nat.blt m 160 then (bif Nat.blt m 159 then (bif Nat.beq m 158 then 5088 else 0) else
        (bif Nat.beq m 159 then 20032 else 0)) else
       (bif Nat.blt m 161 then (bif Nat.beq m 160 then 5096 else 0) else
        (bif Nat.beq m 161 then 20033 else 0)))))) else
   (bif Nat.blt m 178 then (bif Nat.blt m 170 then (bif Nat.blt m 166 then (bif Nat.blt m 164 then (bif Nat.blt m 163 then (bif Nat.beq m 162 then 20034 else 0) else
        (bif Nat.beq m 163 then 4178 else 0)) else
       (bif Nat.blt m 165 then (bif Nat.beq m 164 then 7001 else 0) else
        (bif Nat.beq m 165 then 20036 else 0))) else
      (bif Nat.blt m 168 then (bif Nat.blt m 167 then (bif Nat.beq m 166 then 20038 else 0) else
        (bif Nat.beq m 167 then 7035 else 0)) else
       (bif Nat.blt m 169 then (bif Nat.beq m 168 then 20039 else 0) else
        (bif Nat.beq m 169 then 7046 else 0)))) else
     (bif Nat.blt m 174 then (bif Nat.blt m 172 then (bif Nat.blt m 171 then (bif Nat.beq m 170 then 20040 else 0) else
        (bif Nat.beq m 171 then 7030 else 0)) else
       (bif Nat.blt m 173 then (bif Nat.beq m 172 then 7070 else 0) else
        (bif Nat.beq m 173 then 20041 else 0))) else
      (bif Nat.blt m 176 then (bif Nat.blt m 175 then (bif Nat.beq m 174 then 7058 else 0) else
        (bif Nat.beq m 175 then 7232 else 0)) else
       (bif Nat.blt m 177 then (bif Nat.beq m 176 then 8020 else 0) else
        (bif Nat.beq m 177 then 7237 else 0))))) else
    (bif Nat.blt m 186 then (bif Nat.blt m 182 then (bif Nat.blt m 180 then (bif Nat.blt m 179 then (bif Nat.beq m 178 then 8028 else 0) else
        (bif Nat.beq m 179 then 7191 else 0)) else
       (bif Nat.blt m 181 then (bif Nat.beq m 180 then 5231 else 0) else
        (bif Nat.beq m 181 then 8091 else 0))) else
      (bif Nat.blt m 184 then (bif Nat.blt m 183 then (bif Nat.beq m 182 then 20035 else 0) else
        (bif Nat.beq m 183 then 20057 else 0)) else
       (bif Nat.blt m 185 then (bif Nat.beq m 184 then 8100 else 0) else
        (bif Nat.beq m 185 then 7228 else 0)))) else
     (bif Nat.blt m 190 then (bif Nat.blt m 188 then (bif Nat.blt m 187 then (bif Nat.beq m 186 then 7219 else 0) else
        (bif Nat.beq m 187 then 7181 else 0)) else
       (bif Nat.blt m 189 then (bif Nat.beq m 188 then 20049 else 0) else
        (bif Nat.beq m 189 then 6092 else 0))) else
      (bif Nat.blt m 192 then (bif Nat.blt m 191 then (bif Nat.beq m 190 then 7177 else 0) else
        (bif Nat.beq m 191 then 7116 else 0)) else
       (bif Nat.blt m 193 then (bif Nat.beq m 192 then 5176 else 0) else
        (bif Nat.blt m 194 then (bif Nat.beq m 193 then 20037 else 0) else
         (bif Nat.beq m 194 then 5197 else 0)))))))) else
  (bif Nat.blt m 228 then (bif Nat.blt m 211 then (bif Nat.blt m 203 then (bif Nat.blt m 199 then (bif Nat.blt m 197 then (bif Nat.blt m 196 then (bif Nat.beq m 195 then 8111 else 0) else
        (bif Nat.beq m 196 then 8119 else 0)) else
       (bif Nat.blt m 198 then (bif Nat.beq m 197 then 5127 else 0) else
        (bif Nat.beq m 198 then 5157 else 0))) else
      (bif Nat.blt m 201 then (bif Nat.blt m 200 then (bif Nat.beq m 199 then 5018 else 0) else
        (bif Nat.beq m 200 then 20031 else 0)) else
       (bif Nat.blt m 202 then (bif Nat.beq m 201 then 5115 else 0) else
        (bif Nat.beq m 202 then 5062 else 0)))) else
     (bif Nat.blt m 207 then (bif Nat.blt m 205 then (bif Nat.blt m 204 then (bif Nat.beq m 203 then 6105 else 0) else
        (bif Nat.beq m 204 then 6148 else 0)) else
       (bif Nat.blt m 206 then (bif Nat.beq m 205 then 0 else 0) else
        (bif Nat.beq m 206 then 0 else 0))) else
      (bif Nat.blt m 209 then (bif Nat.blt m 208 then (bif Nat.beq m 207 then 0 else 0) else
        (bif Nat.beq m 208 then 0 else 0)) else
       (bif Nat.blt m 210 then (bif Nat.beq m 209 then 0 else 0) else
        (bif Nat.beq m 210 then 0 else 0))))) else
    (bif Nat.blt m 219 then (bif Nat.blt m 215 then (bif Nat.blt m 213 then (bif Nat.blt m 212 then (bif Nat.beq m 211 then 0 else 0) else
        (bif Nat.beq m 212 then 0 else 0)) else
       (bif Nat.blt m 214 then (bif Nat.beq m 213 then 0 else 0) else
        (bif Nat.beq m 214 then 0 else 0))) else
      (bif Nat.blt m 217 then (bif Nat.blt m 216 then (bif Nat.beq m 215 then 0 else 0) else
        (bif Nat.beq m 216 then 0 else 0)) else
       (bif Nat.blt m 218 then (bif Nat.beq m 217 then 0 else 0) else
        (bif Nat.beq m 218 then 0 else 0)))) else
     (bif Nat.blt m 223 then (bif Nat.blt m 221 then (bif Nat.blt m 220 then (bif Nat.beq m 219 then 0 else 0) else
        (bif Nat.beq m 220 then 0 else 0)) else
       (bif Nat.blt m 222 then (bif Nat.beq m 221 then 0 else 0) else
        (bif Nat.beq m 222 then 0 else 0))) else
      (bif Nat.blt m 225 then (bif Nat.blt m 224 then (bif Nat.beq m 223 then 0 else 0) else
        (bif Nat.beq m 224 then 0 else 0)) else
       (bif Nat.blt m 226 then (bif Nat.beq m 225 then 0 else 0) else
        (bif Nat.blt m 227 then (bif Nat.beq m 226 then 0 else 0) else
         (bif Nat.beq m 227 then 0 else 0))))))) else
   (bif Nat.blt m 244 then (bif Nat.blt m 236 then (bif Nat.blt m 232 then (bif Nat.blt m 230 then (bif Nat.blt m 229 then (bif Nat.beq m 228 then 0 else 0) else
        (bif Nat.beq m 229 then 0 else 0)) else
       (bif Nat.blt m 231 then (bif Nat.beq m 230 then 0 else 0) else
        (bif Nat.beq m 231 then 0 else 0))) else
      (bif Nat.blt m 234 then (bif Nat.blt m 233 then (bif Nat.beq m 232 then 0 else 0) else
        (bif Nat.beq m 233 then 0 else 0)) else
       (bif Nat.blt m 235 then (bif Nat.beq m 234 then 0 else 0) else
        (bif Nat.beq m 235 then 0 else 0)))) else
     (bif Nat.blt m 240 then (bif Nat.blt m 238 then (bif Nat.blt m 237 then (bif Nat.beq m 236 then 0 else 0) else
        (bif Nat.beq m 237 then 0 else 0)) else
       (bif Nat.blt m 239 then (bif Nat.beq m 238 then 0 else 0) else
        (bif Nat.beq m 239 then 6001 else 0))) else
      (bif Nat.blt m 242 then (bif Nat.blt m 241 then (bif Nat.beq m 240 then 6005 else 0) else
        (bif Nat.beq m 241 then 6020 else 0)) else
       (bif Nat.blt m 243 then (bif Nat.beq m 242 then 6039 else 0) else
        (bif Nat.beq m 243 then 6043 else 0))))) else
    (bif Nat.blt m 252 then (bif Nat.blt m 248 then (bif Nat.blt m 246 then (bif Nat.blt m 245 then (bif Nat.beq m 244 then 0 else 0) else
        (bif Nat.beq m 245 then 0 else 0)) else
       (bif Nat.blt m 247 then (bif Nat.beq m 246 then 6162 else 0) else
        (bif Nat.beq m 247 then 0 else 0))) else
      (bif Nat.blt m 250 then (bif Nat.blt m 249 then (bif Nat.beq m 248 then 0 else 0) else
        (bif Nat.beq m 249 then 2184 else 0)) else
       (bif Nat.blt m 251 then (bif Nat.beq m 250 then 2188 else 0) else
        (bif Nat.beq m 251 then 2194 else 0)))) else
     (bif Nat.blt m 256 then (bif Nat.blt m 254 then (bif Nat.blt m 253 then (bif Nat.beq m 252 then 2198 else 0) else
        (bif Nat.beq m 253 then 0 else 0)) else
       (bif Nat.blt m 255 then (bif Nat.beq m 254 then 0 else 0) else
        (bif Nat.beq m 255 then 0 else 0))) else
      (bif Nat.blt m 258 then (bif Nat.blt m 257 then (bif Nat.beq m 256 then 0 else 0) else
        (bif Nat.beq m 257 then 0 else 0)) else
       (bif Nat.blt m 259 then (bif Nat.beq m 258 then 0 else 0) else
        (bif Nat.blt m 260 then (bif Nat.beq m 259 then 0 else 0) else
         (bif Nat.beq m 260 then 0 else 0))))))))))
noncomputable def zpN (o : Nat) : Nat :=
 (bif Nat.blt o 12 then (bif Nat.blt o 6 then (bif Nat.blt o 3 then (bif Nat.blt o 1 then (bif Nat.beq o 0 then 1013 else 0) else
    (bif Nat.blt o 2 then (bif Nat.beq o 1 then 1002 else 0) else
     (bif Nat.beq o 2 then 1008 else 0))) else
   (bif Nat.blt o 4 then (bif Nat.beq o 3 then 1006 else 0) else
    (bif Nat.blt o 5 then (bif Nat.beq o 4 then 1010 else 0) else
     (bif Nat.beq o 5 then 1012 else 0)))) else
  (bif Nat.blt o 9 then (bif Nat.blt o 7 then (bif Nat.beq o 6 then 1007 else 0) else
    (bif Nat.blt o 8 then (bif Nat.beq o 7 then 1011 else 0) else
     (bif Nat.beq o 8 then 1014 else 0))) else
   (bif Nat.blt o 10 then (bif Nat.beq o 9 then 1009 else 0) else
    (bif Nat.blt o 11 then (bif Nat.beq o 10 then 1015 else 0) else
     (bif Nat.beq o 11 then 1001 else 0))))) else
 (bif Nat.blt o 18 then (bif Nat.blt o 15 then (bif Nat.blt o 13 then (bif Nat.beq o 12 then 1021 else 0) else
    (bif Nat.blt o 14 then (bif Nat.beq o 13 then 1000 else 0) else
     (bif Nat.beq o 14 then 1003 else 0))) else
   (bif Nat.blt o 16 then (bif Nat.beq o 15 then 1031 else 0) else
    (bif Nat.blt o 17 then (bif Nat.beq o 16 then 1004 else 0) else
     (bif Nat.beq o 17 then 1032 else 0)))) else
  (bif Nat.blt o 21 then (bif Nat.blt o 19 then (bif Nat.beq o 18 then 1033 else 0) else
    (bif Nat.blt o 20 then (bif Nat.beq o 19 then 1020 else 0) else
     (bif Nat.beq o 20 then 1016 else 0))) else
   (bif Nat.blt o 22 then (bif Nat.beq o 21 then 1024 else 0) else
    (bif Nat.blt o 23 then (bif Nat.beq o 22 then 1022 else 0) else
     (bif Nat.beq o 23 then 1017 else 0))))))
noncomputable def zplF (o i : Nat) : Nat :=
 (bif Nat.blt o 7 then (bif Nat.blt o 3 then (bif Nat.blt o 1 then (bif Nat.beq o 0 then (bif Nat.blt i 26 then (bif Nat.blt i 18 then (bif Nat.blt i 15 then (bif Nat.beq i 9 then 2143 else 0) else
   (bif Nat.beq i 15 then 2144 else 0)) else
  (bif Nat.blt i 22 then (bif Nat.beq i 18 then 2140 else 0) else
   (bif Nat.beq i 22 then 2141 else 0))) else
 (bif Nat.blt i 64 then (bif Nat.blt i 48 then (bif Nat.beq i 26 then 2142 else 0) else
   (bif Nat.beq i 48 then 2041 else 0)) else
  (bif Nat.blt i 83 then (bif Nat.beq i 64 then 1220 else 0) else
   (bif Nat.blt i 117 then (bif Nat.beq i 83 then 1215 else 0) else
    (bif Nat.beq i 117 then 2046 else 0))))) else 0) else
   (bif Nat.blt o 2 then (bif Nat.beq o 1 then (bif Nat.beq i 19 then 1067 else 0) else 0) else
    (bif Nat.beq o 2 then (bif Nat.blt i 20 then (bif Nat.blt i 17 then (bif Nat.beq i 11 then 1192 else 0) else
  (bif Nat.beq i 17 then 1193 else 0)) else
 (bif Nat.blt i 27 then (bif Nat.beq i 20 then 1194 else 0) else
  (bif Nat.blt i 31 then (bif Nat.beq i 27 then 1189 else 0) else
   (bif Nat.beq i 31 then 1191 else 0)))) else 0))) else
  (bif Nat.blt o 5 then (bif Nat.blt o 4 then (bif Nat.beq o 3 then (bif Nat.blt i 49 then (bif Nat.blt i 28 then (bif Nat.blt i 20 then (bif Nat.beq i 9 then 1122 else 0) else
   (bif Nat.blt i 24 then (bif Nat.beq i 20 then 1121 else 0) else
    (bif Nat.beq i 24 then 1117 else 0))) else
  (bif Nat.blt i 39 then (bif Nat.beq i 28 then 1119 else 0) else
   (bif Nat.blt i 45 then (bif Nat.beq i 39 then 1087 else 0) else
    (bif Nat.beq i 45 then 1123 else 0)))) else
 (bif Nat.blt i 65 then (bif Nat.blt i 53 then (bif Nat.beq i 49 then 1124 else 0) else
   (bif Nat.blt i 56 then (bif Nat.beq i 53 then 1125 else 0) else
    (bif Nat.beq i 56 then 1126 else 0))) else
  (bif Nat.blt i 82 then (bif Nat.blt i 71 then (bif Nat.beq i 65 then 1161 else 0) else
    (bif Nat.beq i 71 then 1166 else 0)) else
   (bif Nat.blt i 111 then (bif Nat.beq i 82 then 1089 else 0) else
    (bif Nat.beq i 111 then 1219 else 0))))) else 0) else
    (bif Nat.beq o 4 then (bif Nat.blt i 33 then (bif Nat.blt i 21 then (bif Nat.blt i 15 then (bif Nat.beq i 9 then 1227 else 0) else
   (bif Nat.blt i 18 then (bif Nat.beq i 15 then 1228 else 0) else
    (bif Nat.beq i 18 then 1229 else 0))) else
  (bif Nat.blt i 27 then (bif Nat.blt i 24 then (bif Nat.beq i 21 then 1230 else 0) else
    (bif Nat.beq i 24 then 1231 else 0)) else
   (bif Nat.blt i 30 then (bif Nat.beq i 27 then 1233 else 0) else
    (bif Nat.beq i 30 then 1234 else 0)))) else
 (bif Nat.blt i 45 then (bif Nat.blt i 36 then (bif Nat.beq i 33 then 1235 else 0) else
   (bif Nat.blt i 41 then (bif Nat.beq i 36 then 1236 else 0) else
    (bif Nat.beq i 41 then 1237 else 0))) else
  (bif Nat.blt i 57 then (bif Nat.blt i 49 then (bif Nat.beq i 45 then 1238 else 0) else
    (bif Nat.beq i 49 then 1213 else 0)) else
   (bif Nat.blt i 90 then (bif Nat.beq i 57 then 1224 else 0) else
    (bif Nat.beq i 90 then 1226 else 0))))) else 0)) else
   (bif Nat.blt o 6 then (bif Nat.beq o 5 then (bif Nat.blt i 83 then (bif Nat.blt i 22 then (bif Nat.blt i 15 then (bif Nat.beq i 9 then 2106 else 0) else
   (bif Nat.blt i 18 then (bif Nat.beq i 15 then 2107 else 0) else
    (bif Nat.beq i 18 then 2108 else 0))) else
  (bif Nat.blt i 30 then (bif Nat.blt i 26 then (bif Nat.beq i 22 then 2103 else 0) else
    (bif Nat.beq i 26 then 2104 else 0)) else
   (bif Nat.blt i 34 then (bif Nat.beq i 30 then 2105 else 0) else
    (bif Nat.beq i 34 then 1214 else 0)))) else
 (bif Nat.blt i 116 then (bif Nat.blt i 90 then (bif Nat.beq i 83 then 1232 else 0) else
   (bif Nat.blt i 113 then (bif Nat.beq i 90 then 2044 else 0) else
    (bif Nat.beq i 113 then 2109 else 0))) else
  (bif Nat.blt i 123 then (bif Nat.blt i 120 then (bif Nat.beq i 116 then 2110 else 0) else
    (bif Nat.beq i 120 then 2111 else 0)) else
   (bif Nat.blt i 162 then (bif Nat.beq i 123 then 2112 else 0) else
    (bif Nat.beq i 162 then 2048 else 0))))) else 0) else
    (bif Nat.beq o 6 then (bif Nat.blt i 32 then (bif Nat.blt i 18 then (bif Nat.blt i 15 then (bif Nat.beq i 11 then 1093 else 0) else
   (bif Nat.beq i 15 then 1094 else 0)) else
  (bif Nat.blt i 28 then (bif Nat.beq i 18 then 1090 else 0) else
   (bif Nat.beq i 28 then 1091 else 0))) else
 (bif Nat.blt i 38 then (bif Nat.blt i 35 then (bif Nat.beq i 32 then 1086 else 0) else
   (bif Nat.beq i 35 then 1092 else 0)) else
  (bif Nat.blt i 44 then (bif Nat.beq i 38 then 1095 else 0) else
   (bif Nat.blt i 47 then (bif Nat.beq i 44 then 1088 else 0) else
    (bif Nat.beq i 47 then 1096 else 0))))) else 0)))) else
 (bif Nat.blt o 11 then (bif Nat.blt o 8 then (bif Nat.beq o 7 then (bif Nat.blt i 59 then (bif Nat.blt i 27 then (bif Nat.blt i 18 then (bif Nat.blt i 15 then (bif Nat.beq i 9 then 2049 else 0) else
    (bif Nat.beq i 15 then 2050 else 0)) else
   (bif Nat.blt i 21 then (bif Nat.beq i 18 then 2051 else 0) else
    (bif Nat.blt i 24 then (bif Nat.beq i 21 then 2052 else 0) else
     (bif Nat.beq i 24 then 2053 else 0)))) else
  (bif Nat.blt i 40 then (bif Nat.blt i 33 then (bif Nat.beq i 27 then 2054 else 0) else
    (bif Nat.blt i 37 then (bif Nat.beq i 33 then 2055 else 0) else
     (bif Nat.beq i 37 then 2057 else 0))) else
   (bif Nat.blt i 43 then (bif Nat.beq i 40 then 2058 else 0) else
    (bif Nat.blt i 46 then (bif Nat.beq i 43 then 2059 else 0) else
     (bif Nat.beq i 46 then 2056 else 0))))) else
 (bif Nat.blt i 93 then (bif Nat.blt i 72 then (bif Nat.blt i 63 then (bif Nat.beq i 59 then 2061 else 0) else
    (bif Nat.blt i 67 then (bif Nat.beq i 63 then 2062 else 0) else
     (bif Nat.beq i 67 then 1160 else 0))) else
   (bif Nat.blt i 87 then (bif Nat.beq i 72 then 1068 else 0) else
    (bif Nat.blt i 90 then (bif Nat.beq i 87 then 2042 else 0) else
     (bif Nat.beq i 90 then 1164 else 0)))) else
  (bif Nat.blt i 162 then (bif Nat.blt i 95 then (bif Nat.beq i 93 then 2045 else 0) else
    (bif Nat.blt i 105 then (bif Nat.beq i 95 then 1216 else 0) else
     (bif Nat.beq i 105 then 1221 else 0))) else
   (bif Nat.blt i 172 then (bif Nat.beq i 162 then 2060 else 0) else
    (bif Nat.blt i 175 then (bif Nat.beq i 172 then 3221 else 0) else
     (bif Nat.beq i 175 then 3223 else 0)))))) else 0) else
   (bif Nat.blt o 9 then (bif Nat.beq o 8 then (bif Nat.blt i 34 then (bif Nat.blt i 20 then (bif Nat.blt i 16 then (bif Nat.beq i 13 then 2166 else 0) else
   (bif Nat.beq i 16 then 2167 else 0)) else
  (bif Nat.blt i 24 then (bif Nat.beq i 20 then 2164 else 0) else
   (bif Nat.beq i 24 then 2165 else 0))) else
 (bif Nat.blt i 58 then (bif Nat.blt i 44 then (bif Nat.beq i 34 then 1165 else 0) else
   (bif Nat.beq i 44 then 1222 else 0)) else
  (bif Nat.blt i 111 then (bif Nat.beq i 58 then 1218 else 0) else
   (bif Nat.beq i 111 then 1069 else 0)))) else 0) else
    (bif Nat.beq o 9 then (bif Nat.blt i 24 then (bif Nat.blt i 17 then (bif Nat.beq i 11 then 1169 else 0) else
  (bif Nat.blt i 20 then (bif Nat.beq i 17 then 1170 else 0) else
   (bif Nat.beq i 20 then 1171 else 0))) else
 (bif Nat.blt i 31 then (bif Nat.blt i 27 then (bif Nat.beq i 24 then 1172 else 0) else
   (bif Nat.beq i 27 then 1168 else 0)) else
  (bif Nat.blt i 34 then (bif Nat.beq i 31 then 1159 else 0) else
   (bif Nat.beq i 34 then 1163 else 0)))) else 0))) else
  (bif Nat.blt o 20 then (bif Nat.blt o 19 then (bif Nat.beq o 11 then (bif Nat.blt i 109 then (bif Nat.blt i 53 then (bif Nat.blt i 30 then (bif Nat.blt i 13 then (bif Nat.beq i 9 then 4130 else 0) else
    (bif Nat.blt i 21 then (bif Nat.beq i 13 then 4132 else 0) else
     (bif Nat.beq i 21 then 4136 else 0))) else
   (bif Nat.blt i 39 then (bif Nat.beq i 30 then 4137 else 0) else
    (bif Nat.blt i 46 then (bif Nat.beq i 39 then 4138 else 0) else
     (bif Nat.beq i 46 then 4143 else 0)))) else
  (bif Nat.blt i 78 then (bif Nat.blt i 60 then (bif Nat.beq i 53 then 4144 else 0) else
    (bif Nat.blt i 69 then (bif Nat.beq i 60 then 4139 else 0) else
     (bif Nat.beq i 69 then 4140 else 0))) else
   (bif Nat.blt i 85 then (bif Nat.beq i 78 then 4141 else 0) else
    (bif Nat.blt i 97 then (bif Nat.beq i 85 then 4142 else 0) else
     (bif Nat.beq i 97 then 4131 else 0))))) else
 (bif Nat.blt i 186 then (bif Nat.blt i 136 then (bif Nat.blt i 130 then (bif Nat.beq i 109 then 4135 else 0) else
    (bif Nat.blt i 133 then (bif Nat.beq i 130 then 1217 else 0) else
     (bif Nat.beq i 133 then 4134 else 0))) else
   (bif Nat.blt i 139 then (bif Nat.beq i 136 then 1223 else 0) else
    (bif Nat.blt i 152 then (bif Nat.beq i 139 then 1225 else 0) else
     (bif Nat.beq i 152 then 1190 else 0)))) else
  (bif Nat.blt i 314 then (bif Nat.blt i 190 then (bif Nat.beq i 186 then 2043 else 0) else
    (bif Nat.blt i 294 then (bif Nat.beq i 190 then 2047 else 0) else
     (bif Nat.beq i 294 then 4133 else 0))) else
   (bif Nat.blt i 358 then (bif Nat.blt i 316 then (bif Nat.beq i 314 then 1162 else 0) else
     (bif Nat.beq i 316 then 1167 else 0)) else
    (bif Nat.blt i 359 then (bif Nat.beq i 358 then 1118 else 0) else
     (bif Nat.beq i 359 then 1120 else 0)))))) else 0) else
    (bif Nat.beq o 19 then (bif Nat.blt i 22 then (bif Nat.blt i 18 then (bif Nat.beq i 15 then 6071 else 0) else
  (bif Nat.beq i 18 then 6022 else 0)) else
 (bif Nat.blt i 79 then (bif Nat.beq i 22 then 6072 else 0) else
  (bif Nat.beq i 79 then 6074 else 0))) else 0)) else
   (bif Nat.blt o 21 then (bif Nat.beq o 20 then (bif Nat.blt i 38 then (bif Nat.blt i 15 then (bif Nat.beq i 9 then 6216 else 0) else
  (bif Nat.beq i 15 then 6217 else 0)) else
 (bif Nat.blt i 1048 then (bif Nat.beq i 38 then 2190 else 0) else
  (bif Nat.blt i 1053 then (bif Nat.beq i 1048 then 6073 else 0) else
   (bif Nat.beq i 1053 then 2206 else 0)))) else 0) else
    (bif Nat.beq o 21 then (bif Nat.blt i 87 then (bif Nat.beq i 83 then 6116 else 0) else
 (bif Nat.beq i 87 then 6118 else 0)) else 0)))))
noncomputable def zplM (o i : Nat) : Nat :=
 (bif Nat.blt o 11 then (bif Nat.blt o 5 then (bif Nat.blt o 2 then (bif Nat.blt o 1 then (bif Nat.beq o 0 then (bif Nat.blt i 86 then (bif Nat.blt i 52 then (bif Nat.blt i 36 then (bif Nat.blt i 30 then (bif Nat.beq i 3 then 2139 else 0) else
    (bif Nat.beq i 30 then 3204 else 0)) else
   (bif Nat.blt i 39 then (bif Nat.beq i 36 then 4028 else 0) else
    (bif Nat.blt i 42 then (bif Nat.beq i 39 then 4071 else 0) else
     (bif Nat.beq i 42 then 4112 else 0)))) else
  (bif Nat.blt i 72 then (bif Nat.blt i 58 then (bif Nat.beq i 52 then 4115 else 0) else
    (bif Nat.blt i 68 then (bif Nat.beq i 58 then 4093 else 0) else
     (bif Nat.beq i 68 then 4075 else 0))) else
   (bif Nat.blt i 76 then (bif Nat.beq i 72 then 4116 else 0) else
    (bif Nat.blt i 79 then (bif Nat.beq i 76 then 4079 else 0) else
     (bif Nat.beq i 79 then 4083 else 0))))) else
 (bif Nat.blt i 106 then (bif Nat.blt i 96 then (bif Nat.blt i 89 then (bif Nat.beq i 86 then 4087 else 0) else
    (bif Nat.blt i 92 then (bif Nat.beq i 89 then 4088 else 0) else
     (bif Nat.beq i 92 then 4089 else 0))) else
   (bif Nat.blt i 99 then (bif Nat.beq i 96 then 4098 else 0) else
    (bif Nat.blt i 103 then (bif Nat.beq i 99 then 4103 else 0) else
     (bif Nat.beq i 103 then 4120 else 0)))) else
  (bif Nat.blt i 120 then (bif Nat.blt i 110 then (bif Nat.beq i 106 then 4121 else 0) else
    (bif Nat.blt i 114 then (bif Nat.beq i 110 then 4125 else 0) else
     (bif Nat.beq i 114 then 4126 else 0))) else
   (bif Nat.blt i 123 then (bif Nat.beq i 120 then 4102 else 0) else
    (bif Nat.blt i 126 then (bif Nat.beq i 123 then 4107 else 0) else
     (bif Nat.beq i 126 then 4111 else 0)))))) else 0) else
    (bif Nat.beq o 1 then (bif Nat.blt i 7 then (bif Nat.beq i 1 then 1047 else 0) else
 (bif Nat.blt i 13 then (bif Nat.beq i 7 then 1048 else 0) else
  (bif Nat.beq i 13 then 1051 else 0))) else 0)) else
   (bif Nat.blt o 3 then (bif Nat.beq o 2 then (bif Nat.blt i 40 then (bif Nat.blt i 24 then (bif Nat.beq i 3 then 1149 else 0) else
  (bif Nat.blt i 34 then (bif Nat.beq i 24 then 1153 else 0) else
   (bif Nat.beq i 34 then 5047 else 0))) else
 (bif Nat.blt i 44 then (bif Nat.beq i 40 then 5050 else 0) else
  (bif Nat.blt i 47 then (bif Nat.beq i 44 then 5054 else 0) else
   (bif Nat.beq i 47 then 5059 else 0)))) else 0) else
    (bif Nat.blt o 4 then (bif Nat.beq o 3 then (bif Nat.blt i 108 then (bif Nat.blt i 77 then (bif Nat.blt i 35 then (bif Nat.blt i 17 then (bif Nat.beq i 3 then 1079 else 0) else
    (bif Nat.blt i 31 then (bif Nat.beq i 17 then 1082 else 0) else
     (bif Nat.beq i 31 then 2234 else 0))) else
   (bif Nat.blt i 62 then (bif Nat.blt i 42 then (bif Nat.beq i 35 then 3082 else 0) else
     (bif Nat.beq i 42 then 3078 else 0)) else
    (bif Nat.blt i 74 then (bif Nat.beq i 62 then 3073 else 0) else
     (bif Nat.beq i 74 then 3104 else 0)))) else
  (bif Nat.blt i 96 then (bif Nat.blt i 88 then (bif Nat.blt i 85 then (bif Nat.beq i 77 then 3190 else 0) else
     (bif Nat.beq i 85 then 3077 else 0)) else
    (bif Nat.blt i 92 then (bif Nat.beq i 88 then 3108 else 0) else
     (bif Nat.beq i 92 then 3116 else 0))) else
   (bif Nat.blt i 102 then (bif Nat.blt i 99 then (bif Nat.beq i 96 then 3119 else 0) else
     (bif Nat.beq i 99 then 3177 else 0)) else
    (bif Nat.blt i 105 then (bif Nat.beq i 102 then 3181 else 0) else
     (bif Nat.beq i 105 then 3185 else 0))))) else
 (bif Nat.blt i 134 then (bif Nat.blt i 121 then (bif Nat.blt i 114 then (bif Nat.beq i 108 then 3186 else 0) else
    (bif Nat.blt i 118 then (bif Nat.beq i 114 then 3123 else 0) else
     (bif Nat.beq i 118 then 3147 else 0))) else
   (bif Nat.blt i 128 then (bif Nat.blt i 125 then (bif Nat.beq i 121 then 3158 else 0) else
     (bif Nat.beq i 125 then 3162 else 0)) else
    (bif Nat.blt i 131 then (bif Nat.beq i 128 then 3166 else 0) else
     (bif Nat.beq i 131 then 3173 else 0)))) else
  (bif Nat.blt i 148 then (bif Nat.blt i 141 then (bif Nat.blt i 137 then (bif Nat.beq i 134 then 3151 else 0) else
     (bif Nat.beq i 137 then 3154 else 0)) else
    (bif Nat.blt i 145 then (bif Nat.beq i 141 then 3086 else 0) else
     (bif Nat.beq i 145 then 3096 else 0))) else
   (bif Nat.blt i 156 then (bif Nat.blt i 153 then (bif Nat.beq i 148 then 3099 else 0) else
     (bif Nat.beq i 153 then 3103 else 0)) else
    (bif Nat.blt i 159 then (bif Nat.beq i 156 then 3090 else 0) else
     (bif Nat.beq i 159 then 3093 else 0)))))) else 0) else
     (bif Nat.beq o 4 then (bif Nat.blt i 70 then (bif Nat.blt i 60 then (bif Nat.blt i 53 then (bif Nat.beq i 3 then 1211 else 0) else
   (bif Nat.beq i 53 then 3112 else 0)) else
  (bif Nat.blt i 64 then (bif Nat.beq i 60 then 3194 else 0) else
   (bif Nat.blt i 67 then (bif Nat.beq i 64 then 7017 else 0) else
    (bif Nat.beq i 67 then 3195 else 0)))) else
 (bif Nat.blt i 79 then (bif Nat.blt i 73 then (bif Nat.beq i 70 then 3196 else 0) else
   (bif Nat.blt i 76 then (bif Nat.beq i 73 then 3135 else 0) else
    (bif Nat.beq i 76 then 3131 else 0))) else
  (bif Nat.blt i 83 then (bif Nat.beq i 79 then 3127 else 0) else
   (bif Nat.blt i 86 then (bif Nat.beq i 83 then 3139 else 0) else
    (bif Nat.beq i 86 then 3143 else 0))))) else 0)))) else
  (bif Nat.blt o 8 then (bif Nat.blt o 6 then (bif Nat.beq o 5 then (bif Nat.blt i 97 then (bif Nat.blt i 66 then (bif Nat.blt i 50 then (bif Nat.blt i 40 then (bif Nat.beq i 3 then 2102 else 0) else
    (bif Nat.blt i 46 then (bif Nat.beq i 40 then 4032 else 0) else
     (bif Nat.beq i 46 then 4033 else 0))) else
   (bif Nat.blt i 57 then (bif Nat.blt i 54 then (bif Nat.beq i 50 then 4034 else 0) else
     (bif Nat.beq i 54 then 4059 else 0)) else
    (bif Nat.blt i 62 then (bif Nat.beq i 57 then 4063 else 0) else
     (bif Nat.beq i 62 then 4055 else 0)))) else
  (bif Nat.blt i 76 then (bif Nat.blt i 70 then (bif Nat.beq i 66 then 4038 else 0) else
    (bif Nat.blt i 73 then (bif Nat.beq i 70 then 4049 else 0) else
     (bif Nat.beq i 73 then 4050 else 0))) else
   (bif Nat.blt i 86 then (bif Nat.blt i 79 then (bif Nat.beq i 76 then 4070 else 0) else
     (bif Nat.beq i 79 then 4054 else 0)) else
    (bif Nat.blt i 94 then (bif Nat.beq i 86 then 7101 else 0) else
     (bif Nat.beq i 94 then 7102 else 0))))) else
 (bif Nat.blt i 136 then (bif Nat.blt i 107 then (bif Nat.blt i 100 then (bif Nat.beq i 97 then 7097 else 0) else
    (bif Nat.blt i 103 then (bif Nat.beq i 100 then 7206 else 0) else
     (bif Nat.beq i 103 then 7210 else 0))) else
   (bif Nat.blt i 126 then (bif Nat.blt i 110 then (bif Nat.beq i 107 then 7211 else 0) else
     (bif Nat.beq i 110 then 7216 else 0)) else
    (bif Nat.blt i 132 then (bif Nat.beq i 126 then 8008 else 0) else
     (bif Nat.beq i 132 then 8010 else 0)))) else
  (bif Nat.blt i 145 then (bif Nat.blt i 139 then (bif Nat.beq i 136 then 7202 else 0) else
    (bif Nat.blt i 142 then (bif Nat.beq i 139 then 7212 else 0) else
     (bif Nat.beq i 142 then 8014 else 0))) else
   (bif Nat.blt i 153 then (bif Nat.blt i 150 then (bif Nat.beq i 145 then 8004 else 0) else
     (bif Nat.beq i 150 then 8053 else 0)) else
    (bif Nat.blt i 159 then (bif Nat.beq i 153 then 7197 else 0) else
     (bif Nat.beq i 159 then 7198 else 0)))))) else 0) else
    (bif Nat.blt o 7 then (bif Nat.beq o 6 then (bif Nat.blt i 60 then (bif Nat.blt i 50 then (bif Nat.blt i 22 then (bif Nat.beq i 3 then 1085 else 0) else
   (bif Nat.blt i 41 then (bif Nat.beq i 22 then 2238 else 0) else
    (bif Nat.beq i 41 then 2239 else 0))) else
  (bif Nat.blt i 53 then (bif Nat.beq i 50 then 3065 else 0) else
   (bif Nat.blt i 57 then (bif Nat.beq i 53 then 3003 else 0) else
    (bif Nat.beq i 57 then 3007 else 0)))) else
 (bif Nat.blt i 73 then (bif Nat.blt i 64 then (bif Nat.beq i 60 then 3011 else 0) else
   (bif Nat.blt i 67 then (bif Nat.beq i 64 then 3014 else 0) else
    (bif Nat.beq i 67 then 3018 else 0))) else
  (bif Nat.blt i 76 then (bif Nat.beq i 73 then 3054 else 0) else
   (bif Nat.blt i 79 then (bif Nat.beq i 76 then 3057 else 0) else
    (bif Nat.beq i 79 then 3061 else 0))))) else 0) else
     (bif Nat.beq o 7 then (bif Nat.blt i 128 then (bif Nat.blt i 101 then (bif Nat.blt i 76 then (bif Nat.blt i 50 then (bif Nat.beq i 3 then 2035 else 0) else
    (bif Nat.blt i 54 then (bif Nat.beq i 50 then 2037 else 0) else
     (bif Nat.beq i 54 then 2040 else 0))) else
   (bif Nat.blt i 80 then (bif Nat.beq i 76 then 3208 else 0) else
    (bif Nat.blt i 83 then (bif Nat.beq i 80 then 3212 else 0) else
     (bif Nat.beq i 83 then 3234 else 0)))) else
  (bif Nat.blt i 115 then (bif Nat.blt i 108 then (bif Nat.beq i 101 then 3238 else 0) else
    (bif Nat.blt i 111 then (bif Nat.beq i 108 then 4016 else 0) else
     (bif Nat.beq i 111 then 4002 else 0))) else
   (bif Nat.blt i 121 then (bif Nat.blt i 118 then (bif Nat.beq i 115 then 4003 else 0) else
     (bif Nat.beq i 118 then 4004 else 0)) else
    (bif Nat.blt i 124 then (bif Nat.beq i 121 then 4008 else 0) else
     (bif Nat.beq i 124 then 4012 else 0))))) else
 (bif Nat.blt i 148 then (bif Nat.blt i 138 then (bif Nat.blt i 131 then (bif Nat.beq i 128 then 4020 else 0) else
    (bif Nat.blt i 134 then (bif Nat.beq i 131 then 4024 else 0) else
     (bif Nat.beq i 134 then 4067 else 0))) else
   (bif Nat.blt i 142 then (bif Nat.beq i 138 then 4042 else 0) else
    (bif Nat.blt i 146 then (bif Nat.beq i 142 then 4046 else 0) else
     (bif Nat.beq i 146 then 8126 else 0)))) else
  (bif Nat.blt i 165 then (bif Nat.blt i 151 then (bif Nat.beq i 148 then 8127 else 0) else
    (bif Nat.blt i 156 then (bif Nat.beq i 151 then 8128 else 0) else
     (bif Nat.beq i 156 then 7075 else 0))) else
   (bif Nat.blt i 180 then (bif Nat.blt i 168 then (bif Nat.beq i 165 then 3216 else 0) else
     (bif Nat.beq i 168 then 3217 else 0)) else
    (bif Nat.blt i 183 then (bif Nat.beq i 180 then 3226 else 0) else
     (bif Nat.beq i 183 then 3230 else 0)))))) else 0))) else
   (bif Nat.blt o 9 then (bif Nat.beq o 8 then (bif Nat.blt i 74 then (bif Nat.blt i 54 then (bif Nat.blt i 40 then (bif Nat.blt i 28 then (bif Nat.beq i 3 then 2161 else 0) else
    (bif Nat.beq i 28 then 7122 else 0)) else
   (bif Nat.blt i 50 then (bif Nat.beq i 40 then 7125 else 0) else
    (bif Nat.beq i 50 then 7141 else 0))) else
  (bif Nat.blt i 64 then (bif Nat.blt i 61 then (bif Nat.beq i 54 then 7142 else 0) else
    (bif Nat.beq i 61 then 7143 else 0)) else
   (bif Nat.blt i 68 then (bif Nat.beq i 64 then 7144 else 0) else
    (bif Nat.blt i 71 then (bif Nat.beq i 68 then 7161 else 0) else
     (bif Nat.beq i 71 then 7150 else 0))))) else
 (bif Nat.blt i 93 then (bif Nat.blt i 83 then (bif Nat.blt i 78 then (bif Nat.beq i 74 then 7162 else 0) else
    (bif Nat.beq i 78 then 7148 else 0)) else
   (bif Nat.blt i 86 then (bif Nat.beq i 83 then 7129 else 0) else
    (bif Nat.blt i 90 then (bif Nat.beq i 86 then 7149 else 0) else
     (bif Nat.beq i 90 then 7153 else 0)))) else
  (bif Nat.blt i 101 then (bif Nat.blt i 98 then (bif Nat.beq i 93 then 7166 else 0) else
    (bif Nat.beq i 98 then 7133 else 0)) else
   (bif Nat.blt i 105 then (bif Nat.beq i 101 then 7157 else 0) else
    (bif Nat.blt i 108 then (bif Nat.beq i 105 then 7167 else 0) else
     (bif Nat.beq i 108 then 7137 else 0)))))) else 0) else
    (bif Nat.blt o 10 then (bif Nat.beq o 9 then (bif Nat.blt i 37 then (bif Nat.beq i 3 then 1156 else 0) else
 (bif Nat.beq i 37 then 3170 else 0)) else 0) else
     (bif Nat.beq o 10 then (bif Nat.blt i 71 then (bif Nat.blt i 67 then (bif Nat.beq i 63 then 3021 else 0) else
  (bif Nat.beq i 67 then 3051 else 0)) else
 (bif Nat.blt i 77 then (bif Nat.beq i 71 then 2182 else 0) else
  (bif Nat.blt i 81 then (bif Nat.beq i 77 then 2192 else 0) else
   (bif Nat.beq i 81 then 2181 else 0)))) else 0))))) else
 (bif Nat.blt o 17 then (bif Nat.blt o 13 then (bif Nat.blt o 12 then (bif Nat.beq o 11 then (bif Nat.blt i 222 then (bif Nat.blt i 149 then (bif Nat.blt i 91 then (bif Nat.blt i 52 then (bif Nat.blt i 27 then (bif Nat.blt i 18 then (bif Nat.beq i 3 then 1039 else 0) else
      (bif Nat.beq i 18 then 1044 else 0)) else
     (bif Nat.blt i 36 then (bif Nat.beq i 27 then 1076 else 0) else
      (bif Nat.blt i 45 then (bif Nat.beq i 36 then 1146 else 0) else
       (bif Nat.beq i 45 then 1208 else 0)))) else
    (bif Nat.blt i 66 then (bif Nat.blt i 59 then (bif Nat.beq i 52 then 2029 else 0) else
      (bif Nat.beq i 59 then 2032 else 0)) else
     (bif Nat.blt i 75 then (bif Nat.beq i 66 then 2099 else 0) else
      (bif Nat.blt i 84 then (bif Nat.beq i 75 then 2136 else 0) else
       (bif Nat.beq i 84 then 2158 else 0))))) else
   (bif Nat.blt i 118 then (bif Nat.blt i 105 then (bif Nat.blt i 101 then (bif Nat.beq i 91 then 2178 else 0) else
      (bif Nat.beq i 101 then 2230 else 0)) else
     (bif Nat.blt i 112 then (bif Nat.beq i 105 then 3069 else 0) else
      (bif Nat.blt i 117 then (bif Nat.beq i 112 then 3200 else 0) else
       (bif Nat.beq i 117 then 5037 else 0)))) else
    (bif Nat.blt i 127 then (bif Nat.blt i 121 then (bif Nat.beq i 118 then 5090 else 0) else
      (bif Nat.blt i 124 then (bif Nat.beq i 121 then 5098 else 0) else
       (bif Nat.beq i 124 then 5102 else 0))) else
     (bif Nat.blt i 142 then (bif Nat.beq i 127 then 5106 else 0) else
      (bif Nat.blt i 146 then (bif Nat.beq i 142 then 4180 else 0) else
       (bif Nat.beq i 146 then 4184 else 0)))))) else
  (bif Nat.blt i 180 then (bif Nat.blt i 165 then (bif Nat.blt i 156 then (bif Nat.blt i 155 then (bif Nat.beq i 149 then 4188 else 0) else
      (bif Nat.beq i 155 then 4233 else 0)) else
     (bif Nat.blt i 159 then (bif Nat.beq i 156 then 5159 else 0) else
      (bif Nat.blt i 162 then (bif Nat.beq i 159 then 7003 else 0) else
       (bif Nat.beq i 162 then 7004 else 0)))) else
    (bif Nat.blt i 171 then (bif Nat.blt i 168 then (bif Nat.beq i 165 then 7008 else 0) else
      (bif Nat.beq i 168 then 7012 else 0)) else
     (bif Nat.blt i 174 then (bif Nat.beq i 171 then 7013 else 0) else
      (bif Nat.blt i 177 then (bif Nat.beq i 174 then 7018 else 0) else
       (bif Nat.beq i 177 then 5163 else 0))))) else
   (bif Nat.blt i 203 then (bif Nat.blt i 193 then (bif Nat.blt i 183 then (bif Nat.beq i 180 then 7019 else 0) else
      (bif Nat.beq i 183 then 7025 else 0)) else
     (bif Nat.blt i 196 then (bif Nat.beq i 193 then 7037 else 0) else
      (bif Nat.blt i 199 then (bif Nat.beq i 196 then 7041 else 0) else
       (bif Nat.beq i 199 then 7042 else 0)))) else
    (bif Nat.blt i 213 then (bif Nat.blt i 206 then (bif Nat.beq i 203 then 7043 else 0) else
      (bif Nat.blt i 209 then (bif Nat.beq i 206 then 7048 else 0) else
       (bif Nat.beq i 209 then 7052 else 0))) else
     (bif Nat.blt i 216 then (bif Nat.beq i 213 then 7032 else 0) else
      (bif Nat.blt i 219 then (bif Nat.beq i 216 then 7107 else 0) else
       (bif Nat.beq i 219 then 7060 else 0))))))) else
 (bif Nat.blt i 306 then (bif Nat.blt i 261 then (bif Nat.blt i 240 then (bif Nat.blt i 231 then (bif Nat.blt i 225 then (bif Nat.beq i 222 then 7064 else 0) else
      (bif Nat.beq i 225 then 5186 else 0)) else
     (bif Nat.blt i 234 then (bif Nat.beq i 231 then 7072 else 0) else
      (bif Nat.blt i 237 then (bif Nat.beq i 234 then 7234 else 0) else
       (bif Nat.beq i 237 then 8022 else 0)))) else
    (bif Nat.blt i 248 then (bif Nat.blt i 244 then (bif Nat.beq i 240 then 7239 else 0) else
      (bif Nat.beq i 244 then 8030 else 0)) else
     (bif Nat.blt i 254 then (bif Nat.beq i 248 then 7193 else 0) else
      (bif Nat.blt i 258 then (bif Nat.beq i 254 then 7093 else 0) else
       (bif Nat.beq i 258 then 8049 else 0))))) else
   (bif Nat.blt i 281 then (bif Nat.blt i 269 then (bif Nat.blt i 265 then (bif Nat.beq i 261 then 8061 else 0) else
      (bif Nat.beq i 265 then 8069 else 0)) else
     (bif Nat.blt i 272 then (bif Nat.beq i 269 then 5129 else 0) else
      (bif Nat.blt i 276 then (bif Nat.beq i 272 then 8093 else 0) else
       (bif Nat.beq i 276 then 7221 else 0)))) else
    (bif Nat.blt i 291 then (bif Nat.blt i 284 then (bif Nat.beq i 281 then 7118 else 0) else
      (bif Nat.blt i 287 then (bif Nat.beq i 284 then 7171 else 0) else
       (bif Nat.beq i 287 then 7172 else 0))) else
     (bif Nat.blt i 300 then (bif Nat.beq i 291 then 7183 else 0) else
      (bif Nat.blt i 303 then (bif Nat.beq i 300 then 7173 else 0) else
       (bif Nat.beq i 303 then 7174 else 0)))))) else
  (bif Nat.blt i 346 then (bif Nat.blt i 328 then (bif Nat.blt i 318 then (bif Nat.blt i 310 then (bif Nat.beq i 306 then 5178 else 0) else
      (bif Nat.beq i 310 then 5043 else 0)) else
     (bif Nat.blt i 322 then (bif Nat.beq i 318 then 8113 else 0) else
      (bif Nat.blt i 325 then (bif Nat.beq i 322 then 8121 else 0) else
       (bif Nat.beq i 325 then 8122 else 0)))) else
    (bif Nat.blt i 335 then (bif Nat.blt i 332 then (bif Nat.beq i 328 then 5148 else 0) else
      (bif Nat.beq i 332 then 5167 else 0)) else
     (bif Nat.blt i 338 then (bif Nat.beq i 335 then 5020 else 0) else
      (bif Nat.blt i 342 then (bif Nat.beq i 338 then 5024 else 0) else
       (bif Nat.beq i 342 then 5055 else 0))))) else
   (bif Nat.blt i 364 then (bif Nat.blt i 352 then (bif Nat.blt i 349 then (bif Nat.beq i 346 then 5117 else 0) else
      (bif Nat.beq i 349 then 5064 else 0)) else
     (bif Nat.blt i 355 then (bif Nat.beq i 352 then 5068 else 0) else
      (bif Nat.blt i 360 then (bif Nat.beq i 355 then 5182 else 0) else
       (bif Nat.beq i 360 then 7023 else 0)))) else
    (bif Nat.blt i 371 then (bif Nat.blt i 367 then (bif Nat.beq i 364 then 7024 else 0) else
      (bif Nat.blt i 369 then (bif Nat.beq i 367 then 7026 else 0) else
       (bif Nat.beq i 369 then 7027 else 0))) else
     (bif Nat.blt i 376 then (bif Nat.beq i 371 then 8097 else 0) else
      (bif Nat.blt i 382 then (bif Nat.beq i 376 then 7188 else 0) else
       (bif Nat.beq i 382 then 5142 else 0)))))))) else 0) else
    (bif Nat.beq o 12 then (bif Nat.blt i 50 then (bif Nat.blt i 23 then (bif Nat.blt i 7 then (bif Nat.beq i 1 then 6187 else 0) else
   (bif Nat.beq i 7 then 5208 else 0)) else
  (bif Nat.blt i 29 then (bif Nat.beq i 23 then 5229 else 0) else
   (bif Nat.beq i 29 then 5233 else 0))) else
 (bif Nat.blt i 137 then (bif Nat.blt i 53 then (bif Nat.beq i 50 then 6094 else 0) else
   (bif Nat.beq i 53 then 6107 else 0)) else
  (bif Nat.blt i 343 then (bif Nat.beq i 137 then 6152 else 0) else
   (bif Nat.beq i 343 then 6170 else 0)))) else 0)) else
   (bif Nat.blt o 15 then (bif Nat.beq o 13 then (bif Nat.blt i 193 then (bif Nat.blt i 103 then (bif Nat.blt i 50 then (bif Nat.blt i 30 then (bif Nat.blt i 18 then (bif Nat.blt i 14 then (bif Nat.beq i 8 then 5084 else 0) else
      (bif Nat.beq i 14 then 5085 else 0)) else
     (bif Nat.blt i 24 then (bif Nat.beq i 18 then 5086 else 0) else
      (bif Nat.beq i 24 then 5081 else 0))) else
    (bif Nat.blt i 41 then (bif Nat.blt i 38 then (bif Nat.beq i 30 then 5094 else 0) else
      (bif Nat.beq i 38 then 5113 else 0)) else
     (bif Nat.blt i 47 then (bif Nat.beq i 41 then 5125 else 0) else
      (bif Nat.beq i 47 then 5155 else 0)))) else
   (bif Nat.blt i 62 then (bif Nat.blt i 56 then (bif Nat.blt i 53 then (bif Nat.beq i 50 then 5174 else 0) else
      (bif Nat.beq i 53 then 5195 else 0)) else
     (bif Nat.blt i 59 then (bif Nat.beq i 56 then 8109 else 0) else
      (bif Nat.beq i 59 then 8117 else 0))) else
    (bif Nat.blt i 78 then (bif Nat.blt i 72 then (bif Nat.beq i 62 then 5072 else 0) else
      (bif Nat.beq i 72 then 6089 else 0)) else
     (bif Nat.blt i 81 then (bif Nat.beq i 78 then 6090 else 0) else
      (bif Nat.blt i 100 then (bif Nat.beq i 81 then 6103 else 0) else
       (bif Nat.beq i 100 then 5205 else 0)))))) else
  (bif Nat.blt i 159 then (bif Nat.blt i 142 then (bif Nat.blt i 135 then (bif Nat.blt i 129 then (bif Nat.beq i 103 then 6083 else 0) else
      (bif Nat.beq i 129 then 6146 else 0)) else
     (bif Nat.blt i 139 then (bif Nat.beq i 135 then 6231 else 0) else
      (bif Nat.beq i 139 then 6235 else 0))) else
    (bif Nat.blt i 148 then (bif Nat.blt i 145 then (bif Nat.beq i 142 then 4176 else 0) else
      (bif Nat.beq i 145 then 6239 else 0)) else
     (bif Nat.blt i 152 then (bif Nat.beq i 148 then 7028 else 0) else
      (bif Nat.blt i 156 then (bif Nat.beq i 152 then 7033 else 0) else
       (bif Nat.beq i 156 then 7044 else 0))))) else
   (bif Nat.blt i 176 then (bif Nat.blt i 165 then (bif Nat.blt i 162 then (bif Nat.beq i 159 then 7056 else 0) else
      (bif Nat.beq i 162 then 7068 else 0)) else
     (bif Nat.blt i 171 then (bif Nat.beq i 165 then 7076 else 0) else
      (bif Nat.beq i 171 then 7077 else 0))) else
    (bif Nat.blt i 182 then (bif Nat.blt i 179 then (bif Nat.beq i 176 then 7085 else 0) else
      (bif Nat.beq i 179 then 7089 else 0)) else
     (bif Nat.blt i 186 then (bif Nat.beq i 182 then 7103 else 0) else
      (bif Nat.blt i 190 then (bif Nat.beq i 186 then 7109 else 0) else
       (bif Nat.beq i 190 then 7114 else 0))))))) else
 (bif Nat.blt i 252 then (bif Nat.blt i 219 then (bif Nat.blt i 205 then (bif Nat.blt i 199 then (bif Nat.blt i 196 then (bif Nat.beq i 193 then 7175 else 0) else
      (bif Nat.beq i 196 then 7179 else 0)) else
     (bif Nat.blt i 202 then (bif Nat.beq i 199 then 7189 else 0) else
      (bif Nat.beq i 202 then 7217 else 0))) else
    (bif Nat.blt i 211 then (bif Nat.blt i 208 then (bif Nat.beq i 205 then 7226 else 0) else
      (bif Nat.beq i 208 then 7230 else 0)) else
     (bif Nat.blt i 215 then (bif Nat.beq i 211 then 7235 else 0) else
      (bif Nat.beq i 215 then 8015 else 0)))) else
   (bif Nat.blt i 234 then (bif Nat.blt i 225 then (bif Nat.blt i 222 then (bif Nat.beq i 219 then 8018 else 0) else
      (bif Nat.beq i 222 then 8026 else 0)) else
     (bif Nat.blt i 231 then (bif Nat.beq i 225 then 8035 else 0) else
      (bif Nat.beq i 231 then 8045 else 0))) else
    (bif Nat.blt i 241 then (bif Nat.blt i 238 then (bif Nat.beq i 234 then 8057 else 0) else
      (bif Nat.beq i 238 then 8065 else 0)) else
     (bif Nat.blt i 247 then (bif Nat.beq i 241 then 8075 else 0) else
      (bif Nat.blt i 248 then (bif Nat.beq i 247 then 8088 else 0) else
       (bif Nat.beq i 248 then 5121 else 0)))))) else
  (bif Nat.blt i 279 then (bif Nat.blt i 263 then (bif Nat.blt i 258 then (bif Nat.blt i 255 then (bif Nat.beq i 252 then 8089 else 0) else
      (bif Nat.beq i 255 then 8098 else 0)) else
     (bif Nat.blt i 260 then (bif Nat.beq i 258 then 5171 else 0) else
      (bif Nat.beq i 260 then 8102 else 0))) else
    (bif Nat.blt i 269 then (bif Nat.blt i 265 then (bif Nat.beq i 263 then 5192 else 0) else
      (bif Nat.beq i 265 then 8106 else 0)) else
     (bif Nat.blt i 271 then (bif Nat.beq i 269 then 8114 else 0) else
      (bif Nat.blt i 276 then (bif Nat.beq i 271 then 8129 else 0) else
       (bif Nat.beq i 276 then 5152 else 0))))) else
   (bif Nat.blt i 288 then (bif Nat.blt i 283 then (bif Nat.blt i 280 then (bif Nat.beq i 279 then 1036 else 0) else
      (bif Nat.beq i 280 then 5199 else 0)) else
     (bif Nat.blt i 285 then (bif Nat.beq i 283 then 5076 else 0) else
      (bif Nat.beq i 285 then 5060 else 0))) else
    (bif Nat.blt i 300 then (bif Nat.blt i 296 then (bif Nat.beq i 288 then 6227 else 0) else
      (bif Nat.beq i 296 then 8085 else 0)) else
     (bif Nat.blt i 304 then (bif Nat.beq i 300 then 7053 else 0) else
      (bif Nat.blt i 308 then (bif Nat.beq i 304 then 5110 else 0) else
       (bif Nat.beq i 308 then 5016 else 0)))))))) else 0) else
    (bif Nat.blt o 16 then (bif Nat.beq o 15 then (bif Nat.beq i 311 then 7080 else 0) else 0) else
     (bif Nat.beq o 16 then (bif Nat.blt i 150 then (bif Nat.blt i 54 then (bif Nat.blt i 50 then (bif Nat.beq i 47 then 6184 else 0) else
   (bif Nat.beq i 50 then 6192 else 0)) else
  (bif Nat.blt i 61 then (bif Nat.beq i 54 then 6190 else 0) else
   (bif Nat.blt i 65 then (bif Nat.beq i 61 then 6193 else 0) else
    (bif Nat.beq i 65 then 6194 else 0)))) else
 (bif Nat.blt i 310 then (bif Nat.blt i 304 then (bif Nat.beq i 150 then 1064 else 0) else
   (bif Nat.beq i 304 then 1061 else 0)) else
  (bif Nat.blt i 339 then (bif Nat.beq i 310 then 1054 else 0) else
   (bif Nat.blt i 343 then (bif Nat.beq i 339 then 6176 else 0) else
    (bif Nat.beq i 343 then 6179 else 0))))) else 0)))) else
  (bif Nat.blt o 20 then (bif Nat.blt o 18 then (bif Nat.beq o 17 then (bif Nat.blt i 74 then (bif Nat.beq i 59 then 8038 else 0) else
 (bif Nat.beq i 74 then 8041 else 0)) else 0) else
    (bif Nat.blt o 19 then (bif Nat.beq o 18 then (bif Nat.blt i 134 then (bif Nat.beq i 122 then 8078 else 0) else
 (bif Nat.beq i 134 then 8081 else 0)) else 0) else
     (bif Nat.beq o 19 then (bif Nat.blt i 191 then (bif Nat.blt i 83 then (bif Nat.blt i 32 then (bif Nat.blt i 26 then (bif Nat.beq i 3 then 5211 else 0) else
    (bif Nat.beq i 26 then 5216 else 0)) else
   (bif Nat.blt i 40 then (bif Nat.beq i 32 then 5212 else 0) else
    (bif Nat.blt i 43 then (bif Nat.beq i 40 then 5215 else 0) else
     (bif Nat.beq i 43 then 5223 else 0)))) else
  (bif Nat.blt i 108 then (bif Nat.blt i 100 then (bif Nat.beq i 83 then 6017 else 0) else
    (bif Nat.blt i 104 then (bif Nat.beq i 100 then 6000 else 0) else
     (bif Nat.beq i 104 then 6004 else 0))) else
   (bif Nat.blt i 114 then (bif Nat.beq i 108 then 6016 else 0) else
    (bif Nat.blt i 125 then (bif Nat.beq i 114 then 6008 else 0) else
     (bif Nat.beq i 125 then 6050 else 0))))) else
 (bif Nat.blt i 226 then (bif Nat.blt i 197 then (bif Nat.blt i 195 then (bif Nat.beq i 191 then 6097 else 0) else
    (bif Nat.beq i 195 then 6046 else 0)) else
   (bif Nat.blt i 204 then (bif Nat.beq i 197 then 6100 else 0) else
    (bif Nat.blt i 208 then (bif Nat.beq i 204 then 5236 else 0) else
     (bif Nat.beq i 208 then 6038 else 0)))) else
  (bif Nat.blt i 251 then (bif Nat.blt i 245 then (bif Nat.beq i 226 then 6023 else 0) else
    (bif Nat.blt i 248 then (bif Nat.beq i 245 then 6110 else 0) else
     (bif Nat.beq i 248 then 6113 else 0))) else
   (bif Nat.blt i 397 then (bif Nat.beq i 251 then 6120 else 0) else
    (bif Nat.blt i 399 then (bif Nat.beq i 397 then 6042 else 0) else
     (bif Nat.beq i 399 then 6065 else 0)))))) else 0))) else
   (bif Nat.blt o 22 then (bif Nat.beq o 20 then (bif Nat.blt i 495 then (bif Nat.blt i 212 then (bif Nat.blt i 54 then (bif Nat.blt i 47 then (bif Nat.beq i 1 then 6158 else 0) else
    (bif Nat.beq i 47 then 6213 else 0)) else
   (bif Nat.blt i 106 then (bif Nat.beq i 54 then 6173 else 0) else
    (bif Nat.beq i 106 then 6070 else 0))) else
  (bif Nat.blt i 489 then (bif Nat.blt i 335 then (bif Nat.beq i 212 then 6069 else 0) else
    (bif Nat.beq i 335 then 2186 else 0)) else
   (bif Nat.blt i 492 then (bif Nat.beq i 489 then 6155 else 0) else
    (bif Nat.beq i 492 then 2196 else 0)))) else
 (bif Nat.blt i 1047 then (bif Nat.blt i 549 then (bif Nat.blt i 498 then (bif Nat.beq i 495 then 2200 else 0) else
    (bif Nat.beq i 498 then 2211 else 0)) else
   (bif Nat.blt i 552 then (bif Nat.beq i 549 then 6164 else 0) else
    (bif Nat.beq i 552 then 6159 else 0))) else
  (bif Nat.blt i 1059 then (bif Nat.blt i 1051 then (bif Nat.beq i 1047 then 6172 else 0) else
    (bif Nat.beq i 1051 then 6206 else 0)) else
   (bif Nat.blt i 1062 then (bif Nat.beq i 1059 then 2208 else 0) else
    (bif Nat.blt i 1065 then (bif Nat.beq i 1062 then 6032 else 0) else
     (bif Nat.beq i 1065 then 6062 else 0)))))) else 0) else
    (bif Nat.blt o 23 then (bif Nat.beq o 22 then (bif Nat.blt i 201 then (bif Nat.beq i 194 then 6011 else 0) else
 (bif Nat.beq i 201 then 6013 else 0)) else 0) else
     (bif Nat.beq o 23 then (bif Nat.blt i 240 then (bif Nat.beq i 9 then 2203 else 0) else
 (bif Nat.beq i 240 then 6053 else 0)) else 0))))))
noncomputable def zplC (o i : Nat) : Nat :=
 (bif Nat.blt o 9 then (bif Nat.blt o 4 then (bif Nat.blt o 3 then (bif Nat.beq o 2 then (bif Nat.beq i 9 then 1150 else 0) else 0) else
   (bif Nat.beq o 3 then (bif Nat.blt i 151 then (bif Nat.beq i 15 then 1080 else 0) else
 (bif Nat.beq i 151 then 3102 else 0)) else 0)) else
  (bif Nat.blt o 7 then (bif Nat.beq o 4 then (bif Nat.beq i 39 then 1212 else 0) else 0) else
   (bif Nat.blt o 8 then (bif Nat.beq o 7 then (bif Nat.beq i 31 then 2036 else 0) else 0) else
    (bif Nat.beq o 8 then (bif Nat.beq i 11 then 2162 else 0) else 0)))) else
 (bif Nat.blt o 12 then (bif Nat.blt o 11 then (bif Nat.beq o 9 then (bif Nat.beq i 9 then 1157 else 0) else 0) else
   (bif Nat.beq o 11 then (bif Nat.blt i 64 then (bif Nat.blt i 43 then (bif Nat.blt i 25 then (bif Nat.beq i 16 then 1042 else 0) else
   (bif Nat.blt i 34 then (bif Nat.beq i 25 then 1074 else 0) else
    (bif Nat.beq i 34 then 1144 else 0))) else
  (bif Nat.blt i 50 then (bif Nat.beq i 43 then 1206 else 0) else
   (bif Nat.blt i 57 then (bif Nat.beq i 50 then 2028 else 0) else
    (bif Nat.beq i 57 then 2030 else 0)))) else
 (bif Nat.blt i 115 then (bif Nat.blt i 73 then (bif Nat.beq i 64 then 2097 else 0) else
   (bif Nat.blt i 82 then (bif Nat.beq i 73 then 2134 else 0) else
    (bif Nat.beq i 82 then 2156 else 0))) else
  (bif Nat.blt i 153 then (bif Nat.beq i 115 then 5028 else 0) else
   (bif Nat.blt i 380 then (bif Nat.beq i 153 then 4192 else 0) else
    (bif Nat.beq i 380 then 5133 else 0))))) else 0)) else
  (bif Nat.blt o 13 then (bif Nat.beq o 12 then (bif Nat.beq i 18 then 6150 else 0) else 0) else
   (bif Nat.blt o 16 then (bif Nat.beq o 13 then (bif Nat.blt i 36 then (bif Nat.blt i 34 then (bif Nat.beq i 19 then 1034 else 0) else
  (bif Nat.beq i 34 then 5079 else 0)) else
 (bif Nat.blt i 45 then (bif Nat.beq i 36 then 5080 else 0) else
  (bif Nat.blt i 73 then (bif Nat.beq i 45 then 5124 else 0) else
   (bif Nat.beq i 73 then 5202 else 0)))) else 0) else
    (bif Nat.beq o 16 then (bif Nat.blt i 45 then (bif Nat.beq i 43 then 6182 else 0) else
 (bif Nat.blt i 311 then (bif Nat.beq i 45 then 6183 else 0) else
  (bif Nat.beq i 311 then 1060 else 0))) else 0)))))
noncomputable def zplK (o i : Nat) : Nat :=
 (bif Nat.blt o 15 then (bif Nat.blt o 10 then (bif Nat.blt o 5 then (bif Nat.beq o 0 then (bif Nat.beq i 62 then 4097 else 0) else 0) else
   (bif Nat.blt o 7 then (bif Nat.beq o 5 then (bif Nat.blt i 166 then (bif Nat.blt i 149 then (bif Nat.beq i 131 then 8009 else 0) else
  (bif Nat.blt i 165 then (bif Nat.beq i 149 then 8003 else 0) else
   (bif Nat.beq i 165 then 8033 else 0))) else
 (bif Nat.blt i 169 then (bif Nat.blt i 167 then (bif Nat.beq i 166 then 8034 else 0) else
   (bif Nat.beq i 167 then 8072 else 0)) else
  (bif Nat.blt i 171 then (bif Nat.beq i 169 then 8073 else 0) else
   (bif Nat.beq i 171 then 8074 else 0)))) else 0) else
    (bif Nat.beq o 7 then (bif Nat.beq i 178 then 3225 else 0) else 0))) else
  (bif Nat.blt o 11 then (bif Nat.beq o 10 then (bif Nat.blt i 33 then (bif Nat.blt i 19 then (bif Nat.blt i 13 then (bif Nat.blt i 9 then (bif Nat.beq i 7 then 3024 else 0) else
    (bif Nat.blt i 11 then (bif Nat.beq i 9 then 3025 else 0) else
     (bif Nat.beq i 11 then 3026 else 0))) else
   (bif Nat.blt i 15 then (bif Nat.beq i 13 then 3027 else 0) else
    (bif Nat.blt i 17 then (bif Nat.beq i 15 then 3028 else 0) else
     (bif Nat.beq i 17 then 3029 else 0)))) else
  (bif Nat.blt i 25 then (bif Nat.blt i 21 then (bif Nat.beq i 19 then 3030 else 0) else
    (bif Nat.blt i 23 then (bif Nat.beq i 21 then 3031 else 0) else
     (bif Nat.beq i 23 then 3032 else 0))) else
   (bif Nat.blt i 29 then (bif Nat.blt i 27 then (bif Nat.beq i 25 then 3033 else 0) else
     (bif Nat.beq i 27 then 3034 else 0)) else
    (bif Nat.blt i 31 then (bif Nat.beq i 29 then 3035 else 0) else
     (bif Nat.beq i 31 then 3036 else 0))))) else
 (bif Nat.blt i 47 then (bif Nat.blt i 39 then (bif Nat.blt i 35 then (bif Nat.beq i 33 then 3037 else 0) else
    (bif Nat.blt i 37 then (bif Nat.beq i 35 then 3038 else 0) else
     (bif Nat.beq i 37 then 3039 else 0))) else
   (bif Nat.blt i 43 then (bif Nat.blt i 41 then (bif Nat.beq i 39 then 3040 else 0) else
     (bif Nat.beq i 41 then 3041 else 0)) else
    (bif Nat.blt i 45 then (bif Nat.beq i 43 then 3042 else 0) else
     (bif Nat.beq i 45 then 3043 else 0)))) else
  (bif Nat.blt i 53 then (bif Nat.blt i 49 then (bif Nat.beq i 47 then 3044 else 0) else
    (bif Nat.blt i 51 then (bif Nat.beq i 49 then 3045 else 0) else
     (bif Nat.beq i 51 then 3046 else 0))) else
   (bif Nat.blt i 57 then (bif Nat.blt i 55 then (bif Nat.beq i 53 then 3047 else 0) else
     (bif Nat.beq i 55 then 3048 else 0)) else
    (bif Nat.blt i 59 then (bif Nat.beq i 57 then 3049 else 0) else
     (bif Nat.beq i 59 then 3050 else 0)))))) else 0) else
   (bif Nat.blt o 13 then (bif Nat.beq o 11 then (bif Nat.blt i 279 then (bif Nat.blt i 268 then (bif Nat.beq i 89 then 2177 else 0) else
  (bif Nat.beq i 268 then 7108 else 0)) else
 (bif Nat.blt i 374 then (bif Nat.beq i 279 then 7225 else 0) else
  (bif Nat.beq i 374 then 7187 else 0))) else 0) else
    (bif Nat.beq o 13 then (bif Nat.blt i 111 then (bif Nat.blt i 90 then (bif Nat.blt i 70 then (bif Nat.blt i 66 then (bif Nat.beq i 7 then 5075 else 0) else
    (bif Nat.blt i 68 then (bif Nat.beq i 66 then 6086 else 0) else
     (bif Nat.beq i 68 then 6087 else 0))) else
   (bif Nat.blt i 86 then (bif Nat.blt i 84 then (bif Nat.beq i 70 then 6088 else 0) else
     (bif Nat.beq i 84 then 6128 else 0)) else
    (bif Nat.blt i 88 then (bif Nat.beq i 86 then 6129 else 0) else
     (bif Nat.beq i 88 then 6130 else 0)))) else
  (bif Nat.blt i 96 then (bif Nat.blt i 92 then (bif Nat.beq i 90 then 6131 else 0) else
    (bif Nat.blt i 94 then (bif Nat.beq i 92 then 6132 else 0) else
     (bif Nat.beq i 94 then 6133 else 0))) else
   (bif Nat.blt i 107 then (bif Nat.blt i 98 then (bif Nat.beq i 96 then 6134 else 0) else
     (bif Nat.beq i 98 then 5204 else 0)) else
    (bif Nat.blt i 109 then (bif Nat.beq i 107 then 6135 else 0) else
     (bif Nat.beq i 109 then 6136 else 0))))) else
 (bif Nat.blt i 125 then (bif Nat.blt i 117 then (bif Nat.blt i 113 then (bif Nat.beq i 111 then 6137 else 0) else
    (bif Nat.blt i 115 then (bif Nat.beq i 113 then 6138 else 0) else
     (bif Nat.beq i 115 then 6139 else 0))) else
   (bif Nat.blt i 121 then (bif Nat.blt i 119 then (bif Nat.beq i 117 then 6140 else 0) else
     (bif Nat.beq i 119 then 6141 else 0)) else
    (bif Nat.blt i 123 then (bif Nat.beq i 121 then 6142 else 0) else
     (bif Nat.beq i 123 then 6143 else 0)))) else
  (bif Nat.blt i 174 then (bif Nat.blt i 127 then (bif Nat.beq i 125 then 6144 else 0) else
    (bif Nat.blt i 133 then (bif Nat.beq i 127 then 6145 else 0) else
     (bif Nat.beq i 133 then 6230 else 0))) else
   (bif Nat.blt i 292 then (bif Nat.blt i 189 then (bif Nat.beq i 174 then 7084 else 0) else
     (bif Nat.beq i 189 then 7113 else 0)) else
    (bif Nat.blt i 294 then (bif Nat.beq i 292 then 8130 else 0) else
     (bif Nat.beq i 294 then 8131 else 0)))))) else 0)))) else
 (bif Nat.blt o 19 then (bif Nat.blt o 17 then (bif Nat.beq o 15 then (bif Nat.blt i 316 then (bif Nat.beq i 314 then 5189 else 0) else
 (bif Nat.blt i 318 then (bif Nat.beq i 316 then 5190 else 0) else
  (bif Nat.beq i 318 then 5191 else 0))) else 0) else
   (bif Nat.blt o 18 then (bif Nat.beq o 17 then (bif Nat.beq i 77 then 8044 else 0) else 0) else
    (bif Nat.beq o 18 then (bif Nat.beq i 137 then 8084 else 0) else 0))) else
  (bif Nat.blt o 21 then (bif Nat.beq o 19 then (bif Nat.blt i 39 then (bif Nat.beq i 38 then 5213 else 0) else
 (bif Nat.beq i 39 then 5214 else 0)) else 0) else
   (bif Nat.blt o 22 then (bif Nat.beq o 21 then (bif Nat.beq i 264 then 7083 else 0) else 0) else
    (bif Nat.beq o 22 then (bif Nat.beq i 200 then 6012 else 0) else 0)))))
noncomputable def zpT (c : Nat) : Nat :=
 (bif Nat.blt c 6 then (bif Nat.blt c 3 then (bif Nat.blt c 1 then (bif Nat.beq c 0 then 2135 else 0) else
   (bif Nat.blt c 2 then (bif Nat.beq c 1 then 1043 else 0) else
    (bif Nat.beq c 2 then 1145 else 0))) else
  (bif Nat.blt c 4 then (bif Nat.beq c 3 then 1075 else 0) else
   (bif Nat.blt c 5 then (bif Nat.beq c 4 then 1207 else 0) else
    (bif Nat.beq c 5 then 2098 else 0)))) else
 (bif Nat.blt c 9 then (bif Nat.blt c 7 then (bif Nat.beq c 6 then 1081 else 0) else
   (bif Nat.blt c 8 then (bif Nat.beq c 7 then 2031 else 0) else
    (bif Nat.beq c 8 then 2157 else 0))) else
  (bif Nat.blt c 11 then (bif Nat.blt c 10 then (bif Nat.beq c 9 then 1152 else 0) else
    (bif Nat.beq c 10 then 1035 else 0)) else
   (bif Nat.blt c 12 then (bif Nat.beq c 11 then 5203 else 0) else
    (bif Nat.beq c 12 then 6151 else 0)))))
