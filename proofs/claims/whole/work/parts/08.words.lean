/-! The words of the tables, by their places. -/
noncomputable def zTk (k : Nat) : List Cond := match k with
  | 1 => tables_1_1
  | 2 => tables_1_2
  | 3 => tables_1_3
  | 4 => tables_1_4
  | 5 => tables_1_5
  | 6 => tables_1_6
  | 7 => tables_1_7
  | 8 => tables_1_8
  | 9 => tables_1_9
  | 10 => tables_1_10
  | 20 => k2_sels lw_privs
  | _ => []
noncomputable def zin (w : Cond) (p : Nat) : Bool := decide ((zTk (p / 1000))[p % 1000]? = some w) && goodWord w
noncomputable def zcn (o : Nat) : String :=
 (bif Nat.blt o 9 then (bif Nat.blt o 4 then (bif Nat.blt o 2 then (bif Nat.blt o 1 then (bif Nat.beq o 0 then "BackwardProofs$Duties" else "") else
    (bif Nat.beq o 1 then "BackwardProofs$Formula" else "")) else
   (bif Nat.blt o 3 then (bif Nat.beq o 2 then "BackwardProofs$History" else "") else
    (bif Nat.beq o 3 then "BackwardProofs$Parser" else ""))) else
  (bif Nat.blt o 6 then (bif Nat.blt o 5 then (bif Nat.beq o 4 then "BackwardProofs$Program" else "") else
    (bif Nat.beq o 5 then "BackwardProofs$Runs" else "")) else
   (bif Nat.blt o 7 then (bif Nat.beq o 6 then "BackwardProofs$Scanner" else "") else
    (bif Nat.blt o 8 then (bif Nat.beq o 7 then "BackwardProofs$Sets" else "") else
     (bif Nat.beq o 8 then "BackwardProofs$Sheet" else ""))))) else
 (bif Nat.blt o 14 then (bif Nat.blt o 11 then (bif Nat.blt o 10 then (bif Nat.beq o 9 then "BackwardProofs$Version" else "") else
    (bif Nat.beq o 10 then "BackwardProofs$Words" else "")) else
   (bif Nat.blt o 12 then (bif Nat.beq o 11 then "BackwardProofs" else "") else
    (bif Nat.blt o 13 then (bif Nat.beq o 12 then "BackwardProofsModel" else "") else
     (bif Nat.beq o 13 then "BackwardProofsLaw" else "")))) else
  (bif Nat.blt o 16 then (bif Nat.blt o 15 then (bif Nat.beq o 14 then "java/lang/Math" else "") else
    (bif Nat.beq o 15 then "java/lang/Long" else "")) else
   (bif Nat.blt o 17 then (bif Nat.beq o 16 then "java/util/Arrays" else "") else
    (bif Nat.blt o 18 then (bif Nat.beq o 17 then "java/lang/Float" else "") else
     (bif Nat.beq o 18 then "java/lang/Double" else ""))))))
noncomputable def zvn (c : Nat) : String :=
 (bif Nat.blt c 6 then (bif Nat.blt c 3 then (bif Nat.blt c 1 then (bif Nat.beq c 0 then "BackwardProofs$Duties" else "") else
   (bif Nat.blt c 2 then (bif Nat.beq c 1 then "BackwardProofs$Formula" else "") else
    (bif Nat.beq c 2 then "BackwardProofs$History" else ""))) else
  (bif Nat.blt c 4 then (bif Nat.beq c 3 then "BackwardProofs$Parser" else "") else
   (bif Nat.blt c 5 then (bif Nat.beq c 4 then "BackwardProofs$Program" else "") else
    (bif Nat.beq c 5 then "BackwardProofs$Runs" else "")))) else
 (bif Nat.blt c 9 then (bif Nat.blt c 7 then (bif Nat.beq c 6 then "BackwardProofs$Scanner" else "") else
   (bif Nat.blt c 8 then (bif Nat.beq c 7 then "BackwardProofs$Sets" else "") else
    (bif Nat.beq c 8 then "BackwardProofs$Sheet" else ""))) else
  (bif Nat.blt c 10 then (bif Nat.beq c 9 then "BackwardProofs$Version" else "") else
   (bif Nat.blt c 11 then (bif Nat.beq c 10 then "BackwardProofs" else "") else
    (bif Nat.beq c 11 then "BackwardProofsModel" else "")))))
noncomputable def zT_0 : u_T := fun k =>
 (bif Nat.blt k 2 then (bif Nat.blt k 1 then (bif Nat.beq k 0 then ("BackwardProofs$Duties", "sets", "LBackwardProofs$Sets;", true) else ("", "", "", false)) else
  (bif Nat.beq k 1 then ("BackwardProofs$Duties", "runs", "LBackwardProofs$Runs;", true) else ("", "", "", false))) else
 (bif Nat.blt k 3 then (bif Nat.beq k 2 then ("BackwardProofs$Duties", "program", "LBackwardProofs$Program;", false) else ("", "", "", false)) else
  (bif Nat.blt k 4 then (bif Nat.beq k 3 then ("BackwardProofs$Duties", "needs", "[J", true) else ("", "", "", false)) else
   (bif Nat.beq k 4 then ("BackwardProofs$Duties", "fails", "[J", true) else ("", "", "", false)))))
noncomputable def zT_1 : u_T := fun k =>
 (bif Nat.beq k 0 then ("BackwardProofs$Formula", "nodes", "[B", true) else ("", "", "", false))
noncomputable def zT_2 : u_T := fun k =>
 (bif Nat.blt k 2 then (bif Nat.blt k 1 then (bif Nat.beq k 0 then ("BackwardProofs$History", "count", "I", false) else ("", "", "", false)) else
  (bif Nat.beq k 1 then ("BackwardProofs$History", "newest", "I", false) else ("", "", "", false))) else
 (bif Nat.blt k 3 then (bif Nat.beq k 2 then ("BackwardProofs$History", "past", "[LBackwardProofs$Version;", true) else ("", "", "", false)) else
  (bif Nat.blt k 4 then (bif Nat.beq k 3 then ("BackwardProofs$History", "slots", "[LBackwardProofs$Version;", true) else ("", "", "", false)) else
   (bif Nat.beq k 4 then ("BackwardProofs$History", "held", "[Z", true) else ("", "", "", false)))))
noncomputable def zT_3 : u_T := fun k =>
 (bif Nat.blt k 4 then (bif Nat.blt k 2 then (bif Nat.blt k 1 then (bif Nat.beq k 0 then ("BackwardProofs$Parser", "errorCode", "I", false) else ("", "", "", false)) else
   (bif Nat.beq k 1 then ("BackwardProofs$Parser", "errorPosition", "I", false) else ("", "", "", false))) else
  (bif Nat.blt k 3 then (bif Nat.beq k 2 then ("BackwardProofs$Parser", "scanner", "LBackwardProofs$Scanner;", true) else ("", "", "", false)) else
   (bif Nat.beq k 3 then ("BackwardProofs$Parser", "nodes", "[B", true) else ("", "", "", false)))) else
 (bif Nat.blt k 6 then (bif Nat.blt k 5 then (bif Nat.beq k 4 then ("BackwardProofs$Parser", "program", "LBackwardProofs$Program;", false) else ("", "", "", false)) else
   (bif Nat.beq k 5 then ("BackwardProofs$Parser", "version", "LBackwardProofs$Version;", false) else ("", "", "", false))) else
  (bif Nat.blt k 7 then (bif Nat.beq k 6 then ("BackwardProofs$Parser", "open", "I", false) else ("", "", "", false)) else
   (bif Nat.beq k 7 then ("BackwardProofs$Parser", "inSecond", "Z", false) else ("", "", "", false)))))
noncomputable def zT_4 : u_T := fun k =>
 (bif Nat.blt k 7 then (bif Nat.blt k 3 then (bif Nat.blt k 1 then (bif Nat.beq k 0 then ("BackwardProofs$Program", "count", "I", false) else ("", "", "", false)) else
   (bif Nat.blt k 2 then (bif Nat.beq k 1 then ("BackwardProofs$Program", "loops", "I", false) else ("", "", "", false)) else
    (bif Nat.beq k 2 then ("BackwardProofs$Program", "holes", "I", false) else ("", "", "", false)))) else
  (bif Nat.blt k 5 then (bif Nat.blt k 4 then (bif Nat.beq k 3 then ("BackwardProofs$Program", "kind", "[I", true) else ("", "", "", false)) else
    (bif Nat.beq k 4 then ("BackwardProofs$Program", "variable", "[I", true) else ("", "", "", false))) else
   (bif Nat.blt k 6 then (bif Nat.beq k 5 then ("BackwardProofs$Program", "parent", "[I", true) else ("", "", "", false)) else
    (bif Nat.beq k 6 then ("BackwardProofs$Program", "number", "[I", true) else ("", "", "", false))))) else
 (bif Nat.blt k 10 then (bif Nat.blt k 8 then (bif Nat.beq k 7 then ("BackwardProofs$Program", "next", "[I", true) else ("", "", "", false)) else
   (bif Nat.blt k 9 then (bif Nat.beq k 8 then ("BackwardProofs$Program", "first", "[I", true) else ("", "", "", false)) else
    (bif Nat.beq k 9 then ("BackwardProofs$Program", "second", "[I", true) else ("", "", "", false)))) else
  (bif Nat.blt k 12 then (bif Nat.blt k 11 then (bif Nat.beq k 10 then ("BackwardProofs$Program", "then", "[I", true) else ("", "", "", false)) else
    (bif Nat.beq k 11 then ("BackwardProofs$Program", "loopAt", "[I", true) else ("", "", "", false))) else
   (bif Nat.blt k 13 then (bif Nat.beq k 12 then ("BackwardProofs$Program", "part", "[LBackwardProofs$Formula;", true) else ("", "", "", false)) else
    (bif Nat.beq k 13 then ("BackwardProofs$Program", "none", "LBackwardProofs$Formula;", true) else ("", "", "", false))))))
noncomputable def zT_5 : u_T := fun k =>
 (bif Nat.blt k 5 then (bif Nat.blt k 2 then (bif Nat.blt k 1 then (bif Nat.beq k 0 then ("BackwardProofs$Runs", "sets", "LBackwardProofs$Sets;", true) else ("", "", "", false)) else
   (bif Nat.beq k 1 then ("BackwardProofs$Runs", "program", "LBackwardProofs$Program;", false) else ("", "", "", false))) else
  (bif Nat.blt k 3 then (bif Nat.beq k 2 then ("BackwardProofs$Runs", "version", "LBackwardProofs$Version;", false) else ("", "", "", false)) else
   (bif Nat.blt k 4 then (bif Nat.beq k 3 then ("BackwardProofs$Runs", "ends", "[I", true) else ("", "", "", false)) else
    (bif Nat.beq k 4 then ("BackwardProofs$Runs", "jumps", "[I", true) else ("", "", "", false))))) else
 (bif Nat.blt k 7 then (bif Nat.blt k 6 then (bif Nat.beq k 5 then ("BackwardProofs$Runs", "seen", "[J", true) else ("", "", "", false)) else
   (bif Nat.beq k 6 then ("BackwardProofs$Runs", "stepsDone", "I", false) else ("", "", "", false))) else
  (bif Nat.blt k 8 then (bif Nat.beq k 7 then ("BackwardProofs$Runs", "costSoFar", "F", false) else ("", "", "", false)) else
   (bif Nat.blt k 9 then (bif Nat.beq k 8 then ("BackwardProofs$Runs", "roundsDone", "I", false) else ("", "", "", false)) else
    (bif Nat.beq k 9 then ("BackwardProofs$Runs", "mostRoundsDone", "I", false) else ("", "", "", false))))))
noncomputable def zT_6 : u_T := fun k =>
 (bif Nat.blt k 4 then (bif Nat.blt k 2 then (bif Nat.blt k 1 then (bif Nat.beq k 0 then ("BackwardProofs$Scanner", "token", "I", false) else ("", "", "", false)) else
   (bif Nat.beq k 1 then ("BackwardProofs$Scanner", "start", "I", false) else ("", "", "", false))) else
  (bif Nat.blt k 3 then (bif Nat.beq k 2 then ("BackwardProofs$Scanner", "text", "[B", true) else ("", "", "", false)) else
   (bif Nat.beq k 3 then ("BackwardProofs$Scanner", "length", "I", false) else ("", "", "", false)))) else
 (bif Nat.blt k 6 then (bif Nat.blt k 5 then (bif Nat.beq k 4 then ("BackwardProofs$Scanner", "end", "I", false) else ("", "", "", false)) else
   (bif Nat.beq k 5 then ("BackwardProofs$Scanner", "tokens", "[I", true) else ("", "", "", false))) else
  (bif Nat.blt k 7 then (bif Nat.beq k 6 then ("BackwardProofs$Scanner", "starts", "[I", true) else ("", "", "", false)) else
   (bif Nat.blt k 8 then (bif Nat.beq k 7 then ("BackwardProofs$Scanner", "count", "I", false) else ("", "", "", false)) else
    (bif Nat.beq k 8 then ("BackwardProofs$Scanner", "taken", "I", false) else ("", "", "", false))))))
noncomputable def zT_7 : u_T := fun k =>
 (bif Nat.blt k 8 then (bif Nat.blt k 4 then (bif Nat.blt k 2 then (bif Nat.blt k 1 then (bif Nat.beq k 0 then ("BackwardProofs$Sets", "before", "J", false) else ("", "", "", false)) else
    (bif Nat.beq k 1 then ("BackwardProofs$Sets", "after", "J", false) else ("", "", "", false))) else
   (bif Nat.blt k 3 then (bif Nat.beq k 2 then ("BackwardProofs$Sets", "keep", "[J", true) else ("", "", "", false)) else
    (bif Nat.beq k 3 then ("BackwardProofs$Sets", "lessLow", "[J", true) else ("", "", "", false)))) else
  (bif Nat.blt k 6 then (bif Nat.blt k 5 then (bif Nat.beq k 4 then ("BackwardProofs$Sets", "lessHigh", "[J", true) else ("", "", "", false)) else
    (bif Nat.beq k 5 then ("BackwardProofs$Sets", "valueLow", "[J", true) else ("", "", "", false))) else
   (bif Nat.blt k 7 then (bif Nat.beq k 6 then ("BackwardProofs$Sets", "valueHigh", "[J", true) else ("", "", "", false)) else
    (bif Nat.beq k 7 then ("BackwardProofs$Sets", "target", "[I", true) else ("", "", "", false))))) else
 (bif Nat.blt k 12 then (bif Nat.blt k 10 then (bif Nat.blt k 9 then (bif Nat.beq k 8 then ("BackwardProofs$Sets", "formula", "[LBackwardProofs$Formula;", true) else ("", "", "", false)) else
    (bif Nat.beq k 9 then ("BackwardProofs$Sets", "none", "LBackwardProofs$Formula;", true) else ("", "", "", false))) else
   (bif Nat.blt k 11 then (bif Nat.beq k 10 then ("BackwardProofs$Sets", "formulaOfForm", "[LBackwardProofs$Formula;", true) else ("", "", "", false)) else
    (bif Nat.beq k 11 then ("BackwardProofs$Sets", "low", "[J", true) else ("", "", "", false)))) else
  (bif Nat.blt k 14 then (bif Nat.blt k 13 then (bif Nat.beq k 12 then ("BackwardProofs$Sets", "high", "[J", true) else ("", "", "", false)) else
    (bif Nat.beq k 13 then ("BackwardProofs$Sets", "depth", "I", false) else ("", "", "", false))) else
   (bif Nat.blt k 15 then (bif Nat.beq k 14 then ("BackwardProofs$Sets", "program", "LBackwardProofs$Program;", false) else ("", "", "", false)) else
    (bif Nat.beq k 15 then ("BackwardProofs$Sets", "version", "LBackwardProofs$Version;", false) else ("", "", "", false))))))
noncomputable def zT_8 : u_T := fun k =>
 (bif Nat.blt k 2 then (bif Nat.blt k 1 then (bif Nat.beq k 0 then ("BackwardProofs$Sheet", "sets", "LBackwardProofs$Sets;", true) else ("", "", "", false)) else
  (bif Nat.beq k 1 then ("BackwardProofs$Sheet", "program", "LBackwardProofs$Program;", false) else ("", "", "", false))) else
 (bif Nat.blt k 3 then (bif Nat.beq k 2 then ("BackwardProofs$Sheet", "rows", "[[B", true) else ("", "", "", false)) else
  (bif Nat.beq k 3 then ("BackwardProofs$Sheet", "sizes", "[I", true) else ("", "", "", false))))
noncomputable def zT_9 : u_T := fun k =>
 (bif Nat.blt k 3 then (bif Nat.blt k 1 then (bif Nat.beq k 0 then ("BackwardProofs$Version", "before", "LBackwardProofs$Formula;", false) else ("", "", "", false)) else
  (bif Nat.blt k 2 then (bif Nat.beq k 1 then ("BackwardProofs$Version", "after", "LBackwardProofs$Formula;", false) else ("", "", "", false)) else
   (bif Nat.beq k 2 then ("BackwardProofs$Version", "none", "LBackwardProofs$Formula;", true) else ("", "", "", false)))) else
 (bif Nat.blt k 5 then (bif Nat.blt k 4 then (bif Nat.beq k 3 then ("BackwardProofs$Version", "keep", "[LBackwardProofs$Formula;", true) else ("", "", "", false)) else
   (bif Nat.beq k 4 then ("BackwardProofs$Version", "less", "[LBackwardProofs$Formula;", true) else ("", "", "", false))) else
  (bif Nat.blt k 6 then (bif Nat.beq k 5 then ("BackwardProofs$Version", "filling", "[I", true) else ("", "", "", false)) else
   (bif Nat.beq k 6 then ("BackwardProofs$Version", "price", "[I", true) else ("", "", "", false)))))
noncomputable def zT_10 : u_T := fun k =>
 (bif Nat.blt k 7 then (bif Nat.blt k 3 then (bif Nat.blt k 1 then (bif Nat.beq k 0 then ("BackwardProofs", "input", "[B", true) else ("", "", "", false)) else
   (bif Nat.blt k 2 then (bif Nat.beq k 1 then ("BackwardProofs", "inputLength", "I", false) else ("", "", "", false)) else
    (bif Nat.beq k 2 then ("BackwardProofs", "output", "[B", true) else ("", "", "", false)))) else
  (bif Nat.blt k 5 then (bif Nat.blt k 4 then (bif Nat.beq k 3 then ("BackwardProofs", "outputLength", "I", false) else ("", "", "", false)) else
    (bif Nat.beq k 4 then ("BackwardProofs", "errorCode", "I", false) else ("", "", "", false))) else
   (bif Nat.blt k 6 then (bif Nat.beq k 5 then ("BackwardProofs", "errorPosition", "I", false) else ("", "", "", false)) else
    (bif Nat.beq k 6 then ("BackwardProofs", "none", "LBackwardProofs$Formula;", true) else ("", "", "", false))))) else
 (bif Nat.blt k 11 then (bif Nat.blt k 9 then (bif Nat.blt k 8 then (bif Nat.beq k 7 then ("BackwardProofs", "parser", "LBackwardProofs$Parser;", true) else ("", "", "", false)) else
    (bif Nat.beq k 8 then ("BackwardProofs", "history", "LBackwardProofs$History;", true) else ("", "", "", false))) else
   (bif Nat.blt k 10 then (bif Nat.beq k 9 then ("BackwardProofs", "sets", "LBackwardProofs$Sets;", true) else ("", "", "", false)) else
    (bif Nat.beq k 10 then ("BackwardProofs", "runs", "LBackwardProofs$Runs;", true) else ("", "", "", false)))) else
  (bif Nat.blt k 13 then (bif Nat.blt k 12 then (bif Nat.beq k 11 then ("BackwardProofs", "duties", "LBackwardProofs$Duties;", true) else ("", "", "", false)) else
    (bif Nat.beq k 12 then ("BackwardProofs", "sheet", "LBackwardProofs$Sheet;", true) else ("", "", "", false))) else
   (bif Nat.blt k 14 then (bif Nat.beq k 13 then ("BackwardProofs", "program", "LBackwardProofs$Program;", false) else ("", "", "", false)) else
    (bif Nat.beq k 14 then ("BackwardProofs", "version", "LBackwardProofs$Version;", false) else ("", "", "", false))))))
noncomputable def zT_11 : u_T := fun k =>
 (bif Nat.blt k 23 then (bif Nat.blt k 11 then (bif Nat.blt k 5 then (bif Nat.blt k 2 then (bif Nat.blt k 1 then (bif Nat.beq k 0 then ("BackwardProofsModel", "keys", "[I", true) else ("", "", "", false)) else
     (bif Nat.beq k 1 then ("BackwardProofsModel", "thrown", "I", false) else ("", "", "", false))) else
    (bif Nat.blt k 3 then (bif Nat.beq k 2 then ("BackwardProofsModel", "now", "[I", true) else ("", "", "", false)) else
     (bif Nat.blt k 4 then (bif Nat.beq k 3 then ("BackwardProofsModel", "aside", "[I", true) else ("", "", "", false)) else
      (bif Nat.beq k 4 then ("BackwardProofsModel", "old", "[I", true) else ("", "", "", false))))) else
   (bif Nat.blt k 8 then (bif Nat.blt k 6 then (bif Nat.beq k 5 then ("BackwardProofsModel", "oldMany", "I", false) else ("", "", "", false)) else
     (bif Nat.blt k 7 then (bif Nat.beq k 6 then ("BackwardProofsModel", "saved", "[I", true) else ("", "", "", false)) else
      (bif Nat.beq k 7 then ("BackwardProofsModel", "savedSet", "I", false) else ("", "", "", false)))) else
    (bif Nat.blt k 9 then (bif Nat.beq k 8 then ("BackwardProofsModel", "rows", "[I", true) else ("", "", "", false)) else
     (bif Nat.blt k 10 then (bif Nat.beq k 9 then ("BackwardProofsModel", "rowsAside", "[I", true) else ("", "", "", false)) else
      (bif Nat.beq k 10 then ("BackwardProofsModel", "statements", "I", false) else ("", "", "", false)))))) else
  (bif Nat.blt k 17 then (bif Nat.blt k 14 then (bif Nat.blt k 12 then (bif Nat.beq k 11 then ("BackwardProofsModel", "statementsAside", "I", false) else ("", "", "", false)) else
     (bif Nat.blt k 13 then (bif Nat.beq k 12 then ("BackwardProofsModel", "top", "I", false) else ("", "", "", false)) else
      (bif Nat.beq k 13 then ("BackwardProofsModel", "topAside", "I", false) else ("", "", "", false)))) else
    (bif Nat.blt k 15 then (bif Nat.beq k 14 then ("BackwardProofsModel", "input", "[B", true) else ("", "", "", false)) else
     (bif Nat.blt k 16 then (bif Nat.beq k 15 then ("BackwardProofsModel", "inputMany", "I", false) else ("", "", "", false)) else
      (bif Nat.beq k 16 then ("BackwardProofsModel", "output", "[B", true) else ("", "", "", false))))) else
   (bif Nat.blt k 20 then (bif Nat.blt k 18 then (bif Nat.beq k 17 then ("BackwardProofsModel", "outputMany", "I", false) else ("", "", "", false)) else
     (bif Nat.blt k 19 then (bif Nat.beq k 18 then ("BackwardProofsModel", "errorCode", "I", false) else ("", "", "", false)) else
      (bif Nat.beq k 19 then ("BackwardProofsModel", "errorPosition", "I", false) else ("", "", "", false)))) else
    (bif Nat.blt k 21 then (bif Nat.beq k 20 then ("BackwardProofsModel", "stack", "[I", true) else ("", "", "", false)) else
     (bif Nat.blt k 22 then (bif Nat.beq k 21 then ("BackwardProofsModel", "stackMany", "I", false) else ("", "", "", false)) else
      (bif Nat.beq k 22 then ("BackwardProofsModel", "needs", "[J", true) else ("", "", "", false))))))) else
 (bif Nat.blt k 35 then (bif Nat.blt k 29 then (bif Nat.blt k 26 then (bif Nat.blt k 24 then (bif Nat.beq k 23 then ("BackwardProofsModel", "written", "[I", true) else ("", "", "", false)) else
     (bif Nat.blt k 25 then (bif Nat.beq k 24 then ("BackwardProofsModel", "writtenMany", "[I", true) else ("", "", "", false)) else
      (bif Nat.beq k 25 then ("BackwardProofsModel", "draft", "[I", true) else ("", "", "", false)))) else
    (bif Nat.blt k 27 then (bif Nat.beq k 26 then ("BackwardProofsModel", "draftMany", "I", false) else ("", "", "", false)) else
     (bif Nat.blt k 28 then (bif Nat.beq k 27 then ("BackwardProofsModel", "at", "I", false) else ("", "", "", false)) else
      (bif Nat.beq k 28 then ("BackwardProofsModel", "state", "I", false) else ("", "", "", false))))) else
   (bif Nat.blt k 32 then (bif Nat.blt k 30 then (bif Nat.beq k 29 then ("BackwardProofsModel", "ends", "Z", false) else ("", "", "", false)) else
     (bif Nat.blt k 31 then (bif Nat.beq k 30 then ("BackwardProofsModel", "steps", "I", false) else ("", "", "", false)) else
      (bif Nat.beq k 31 then ("BackwardProofsModel", "cost", "F", false) else ("", "", "", false)))) else
    (bif Nat.blt k 33 then (bif Nat.beq k 32 then ("BackwardProofsModel", "looks", "[J", true) else ("", "", "", false)) else
     (bif Nat.blt k 34 then (bif Nat.beq k 33 then ("BackwardProofsModel", "turns", "[I", true) else ("", "", "", false)) else
      (bif Nat.beq k 34 then ("BackwardProofsModel", "most", "[I", true) else ("", "", "", false)))))) else
  (bif Nat.blt k 41 then (bif Nat.blt k 38 then (bif Nat.blt k 36 then (bif Nat.beq k 35 then ("BackwardProofsModel", "met", "[J", true) else ("", "", "", false)) else
     (bif Nat.blt k 37 then (bif Nat.beq k 36 then ("BackwardProofsModel", "textEnd", "I", false) else ("", "", "", false)) else
      (bif Nat.beq k 37 then ("BackwardProofsModel", "kind", "I", false) else ("", "", "", false)))) else
    (bif Nat.blt k 39 then (bif Nat.beq k 38 then ("BackwardProofsModel", "from", "I", false) else ("", "", "", false)) else
     (bif Nat.blt k 40 then (bif Nat.beq k 39 then ("BackwardProofsModel", "to", "I", false) else ("", "", "", false)) else
      (bif Nat.beq k 40 then ("BackwardProofsModel", "value", "I", false) else ("", "", "", false))))) else
   (bif Nat.blt k 44 then (bif Nat.blt k 42 then (bif Nat.beq k 41 then ("BackwardProofsModel", "fault", "I", false) else ("", "", "", false)) else
     (bif Nat.blt k 43 then (bif Nat.beq k 42 then ("BackwardProofsModel", "faultAt", "I", false) else ("", "", "", false)) else
      (bif Nat.beq k 43 then ("BackwardProofsModel", "due", "[I", true) else ("", "", "", false)))) else
    (bif Nat.blt k 45 then (bif Nat.beq k 44 then ("BackwardProofsModel", "row", "I", false) else ("", "", "", false)) else
     (bif Nat.blt k 46 then (bif Nat.beq k 45 then ("BackwardProofsModel", "inSecond", "Z", false) else ("", "", "", false)) else
      (bif Nat.beq k 46 then ("BackwardProofsModel", "last", "I", false) else ("", "", "", false))))))))
noncomputable def zT (c : Nat) : u_T :=
 (bif Nat.blt c 6 then (bif Nat.blt c 3 then (bif Nat.blt c 1 then (bif Nat.beq c 0 then zT_0 else (fun _ => ("", "", "", false))) else
   (bif Nat.blt c 2 then (bif Nat.beq c 1 then zT_1 else (fun _ => ("", "", "", false))) else
    (bif Nat.beq c 2 then zT_2 else (fun _ => ("", "", "", false))))) else
  (bif Nat.blt c 4 then (bif Nat.beq c 3 then zT_3 else (fun _ => ("", "", "", false))) else
   (bif Nat.blt c 5 then (bif Nat.beq c 4 then zT_4 else (fun _ => ("", "", "", false))) else
    (bif Nat.beq c 5 then zT_5 else (fun _ => ("", "", "", false)))))) else
 (bif Nat.blt c 9 then (bif Nat.blt c 7 then (bif Nat.beq c 6 then zT_6 else (fun _ => ("", "", "", false))) else
   (bif Nat.blt c 8 then (bif Nat.beq c 7 then zT_7 else (fun _ => ("", "", "", false))) else
    (bif Nat.beq c 8 then zT_8 else (fun _ => ("", "", "", false))))) else
  (bif Nat.blt c 10 then (bif Nat.beq c 9 then zT_9 else (fun _ => ("", "", "", false))) else
   (bif Nat.blt c 11 then (bif Nat.beq c 10 then zT_10 else (fun _ => ("", "", "", false))) else
    (bif Nat.beq c 11 then zT_11 else (fun _ => ("", "", "", false)))))))
noncomputable def zFT (c k : Nat) : FieldType :=
 (bif Nat.blt c 6 then (bif Nat.blt c 3 then (bif Nat.blt c 1 then (bif Nat.beq c 0 then (bif Nat.blt k 2 then (bif Nat.blt k 1 then (bif Nat.beq k 0 then (.object "BackwardProofs$Sets") else .int) else
  (bif Nat.beq k 1 then (.object "BackwardProofs$Runs") else .int)) else
 (bif Nat.blt k 3 then (bif Nat.beq k 2 then (.object "BackwardProofs$Program") else .int) else
  (bif Nat.blt k 4 then (bif Nat.beq k 3 then (.array .long) else .int) else
   (bif Nat.beq k 4 then (.array .long) else .int)))) else .int) else
   (bif Nat.blt c 2 then (bif Nat.beq c 1 then (bif Nat.beq k 0 then (.array .byte) else .int) else .int) else
    (bif Nat.beq c 2 then (bif Nat.blt k 2 then (bif Nat.blt k 1 then (bif Nat.beq k 0 then .int else .int) else
  (bif Nat.beq k 1 then .int else .int)) else
 (bif Nat.blt k 3 then (bif Nat.beq k 2 then (.array (.object "BackwardProofs$Version")) else .int) else
  (bif Nat.blt k 4 then (bif Nat.beq k 3 then (.array (.object "BackwardProofs$Version")) else .int) else
   (bif Nat.beq k 4 then (.array .boolean) else .int)))) else .int))) else
  (bif Nat.blt c 4 then (bif Nat.beq c 3 then (bif Nat.blt k 4 then (bif Nat.blt k 2 then (bif Nat.blt k 1 then (bif Nat.beq k 0 then .int else .int) else
   (bif Nat.beq k 1 then .int else .int)) else
  (bif Nat.blt k 3 then (bif Nat.beq k 2 then (.object "BackwardProofs$Scanner") else .int) else
   (bif Nat.beq k 3 then (.array .byte) else .int))) else
 (bif Nat.blt k 6 then (bif Nat.blt k 5 then (bif Nat.beq k 4 then (.object "BackwardProofs$Program") else .int) else
   (bif Nat.beq k 5 then (.object "BackwardProofs$Version") else .int)) else
  (bif Nat.blt k 7 then (bif Nat.beq k 6 then .int else .int) else
   (bif Nat.beq k 7 then .boolean else .int)))) else .int) else
   (bif Nat.blt c 5 then (bif Nat.beq c 4 then (bif Nat.blt k 7 then (bif Nat.blt k 3 then (bif Nat.blt k 1 then (bif Nat.beq k 0 then .int else .int) else
   (bif Nat.blt k 2 then (bif Nat.beq k 1 then .int else .int) else
    (bif Nat.beq k 2 then .int else .int))) else
  (bif Nat.blt k 5 then (bif Nat.blt k 4 then (bif Nat.beq k 3 then (.array .int) else .int) else
    (bif Nat.beq k 4 then (.array .int) else .int)) else
   (bif Nat.blt k 6 then (bif Nat.beq k 5 then (.array .int) else .int) else
    (bif Nat.beq k 6 then (.array .int) else .int)))) else
 (bif Nat.blt k 10 then (bif Nat.blt k 8 then (bif Nat.beq k 7 then (.array .int) else .int) else
   (bif Nat.blt k 9 then (bif Nat.beq k 8 then (.array .int) else .int) else
    (bif Nat.beq k 9 then (.array .int) else .int))) else
  (bif Nat.blt k 12 then (bif Nat.blt k 11 then (bif Nat.beq k 10 then (.array .int) else .int) else
    (bif Nat.beq k 11 then (.array .int) else .int)) else
   (bif Nat.blt k 13 then (bif Nat.beq k 12 then (.array (.object "BackwardProofs$Formula")) else .int) else
    (bif Nat.beq k 13 then (.object "BackwardProofs$Formula") else .int))))) else .int) else
    (bif Nat.beq c 5 then (bif Nat.blt k 5 then (bif Nat.blt k 2 then (bif Nat.blt k 1 then (bif Nat.beq k 0 then (.object "BackwardProofs$Sets") else .int) else
   (bif Nat.beq k 1 then (.object "BackwardProofs$Program") else .int)) else
  (bif Nat.blt k 3 then (bif Nat.beq k 2 then (.object "BackwardProofs$Version") else .int) else
   (bif Nat.blt k 4 then (bif Nat.beq k 3 then (.array .int) else .int) else
    (bif Nat.beq k 4 then (.array .int) else .int)))) else
 (bif Nat.blt k 7 then (bif Nat.blt k 6 then (bif Nat.beq k 5 then (.array .long) else .int) else
   (bif Nat.beq k 6 then .int else .int)) else
  (bif Nat.blt k 8 then (bif Nat.beq k 7 then .float else .int) else
   (bif Nat.blt k 9 then (bif Nat.beq k 8 then .int else .int) else
    (bif Nat.beq k 9 then .int else .int))))) else .int)))) else
 (bif Nat.blt c 9 then (bif Nat.blt c 7 then (bif Nat.beq c 6 then (bif Nat.blt k 4 then (bif Nat.blt k 2 then (bif Nat.blt k 1 then (bif Nat.beq k 0 then .int else .int) else
   (bif Nat.beq k 1 then .int else .int)) else
  (bif Nat.blt k 3 then (bif Nat.beq k 2 then (.array .byte) else .int) else
   (bif Nat.beq k 3 then .int else .int))) else
 (bif Nat.blt k 6 then (bif Nat.blt k 5 then (bif Nat.beq k 4 then .int else .int) else
   (bif Nat.beq k 5 then (.array .int) else .int)) else
  (bif Nat.blt k 7 then (bif Nat.beq k 6 then (.array .int) else .int) else
   (bif Nat.blt k 8 then (bif Nat.beq k 7 then .int else .int) else
    (bif Nat.beq k 8 then .int else .int))))) else .int) else
   (bif Nat.blt c 8 then (bif Nat.beq c 7 then (bif Nat.blt k 8 then (bif Nat.blt k 4 then (bif Nat.blt k 2 then (bif Nat.blt k 1 then (bif Nat.beq k 0 then .long else .int) else
    (bif Nat.beq k 1 then .long else .int)) else
   (bif Nat.blt k 3 then (bif Nat.beq k 2 then (.array .long) else .int) else
    (bif Nat.beq k 3 then (.array .long) else .int))) else
  (bif Nat.blt k 6 then (bif Nat.blt k 5 then (bif Nat.beq k 4 then (.array .long) else .int) else
    (bif Nat.beq k 5 then (.array .long) else .int)) else
   (bif Nat.blt k 7 then (bif Nat.beq k 6 then (.array .long) else .int) else
    (bif Nat.beq k 7 then (.array .int) else .int)))) else
 (bif Nat.blt k 12 then (bif Nat.blt k 10 then (bif Nat.blt k 9 then (bif Nat.beq k 8 then (.array (.object "BackwardProofs$Formula")) else .int) else
    (bif Nat.beq k 9 then (.object "BackwardProofs$Formula") else .int)) else
   (bif Nat.blt k 11 then (bif Nat.beq k 10 then (.array (.object "BackwardProofs$Formula")) else .int) else
    (bif Nat.beq k 11 then (.array .long) else .int))) else
  (bif Nat.blt k 14 then (bif Nat.blt k 13 then (bif Nat.beq k 12 then (.array .long) else .int) else
    (bif Nat.beq k 13 then .int else .int)) else
   (bif Nat.blt k 15 then (bif Nat.beq k 14 then (.object "BackwardProofs$Program") else .int) else
    (bif Nat.beq k 15 then (.object "BackwardProofs$Version") else .int))))) else .int) else
    (bif Nat.beq c 8 then (bif Nat.blt k 2 then (bif Nat.blt k 1 then (bif Nat.beq k 0 then (.object "BackwardProofs$Sets") else .int) else
  (bif Nat.beq k 1 then (.object "BackwardProofs$Program") else .int)) else
 (bif Nat.blt k 3 then (bif Nat.beq k 2 then (.array (.array .byte)) else .int) else
  (bif Nat.beq k 3 then (.array .int) else .int))) else .int))) else
  (bif Nat.blt c 10 then (bif Nat.beq c 9 then (bif Nat.blt k 3 then (bif Nat.blt k 1 then (bif Nat.beq k 0 then (.object "BackwardProofs$Formula") else .int) else
  (bif Nat.blt k 2 then (bif Nat.beq k 1 then (.object "BackwardProofs$Formula") else .int) else
   (bif Nat.beq k 2 then (.object "BackwardProofs$Formula") else .int))) else
 (bif Nat.blt k 5 then (bif Nat.blt k 4 then (bif Nat.beq k 3 then (.array (.object "BackwardProofs$Formula")) else .int) else
   (bif Nat.beq k 4 then (.array (.object "BackwardProofs$Formula")) else .int)) else
  (bif Nat.blt k 6 then (bif Nat.beq k 5 then (.array .int) else .int) else
   (bif Nat.beq k 6 then (.array .int) else .int)))) else .int) else
   (bif Nat.blt c 11 then (bif Nat.beq c 10 then (bif Nat.blt k 7 then (bif Nat.blt k 3 then (bif Nat.blt k 1 then (bif Nat.beq k 0 then (.array .byte) else .int) else
   (bif Nat.blt k 2 then (bif Nat.beq k 1 then .int else .int) else
    (bif Nat.beq k 2 then (.array .byte) else .int))) else
  (bif Nat.blt k 5 then (bif Nat.blt k 4 then (bif Nat.beq k 3 then .int else .int) else
    (bif Nat.beq k 4 then .int else .int)) else
   (bif Nat.blt k 6 then (bif Nat.beq k 5 then .int else .int) else
    (bif Nat.beq k 6 then (.object "BackwardProofs$Formula") else .int)))) else
 (bif Nat.blt k 11 then (bif Nat.blt k 9 then (bif Nat.blt k 8 then (bif Nat.beq k 7 then (.object "BackwardProofs$Parser") else .int) else
    (bif Nat.beq k 8 then (.object "BackwardProofs$History") else .int)) else
   (bif Nat.blt k 10 then (bif Nat.beq k 9 then (.object "BackwardProofs$Sets") else .int) else
    (bif Nat.beq k 10 then (.object "BackwardProofs$Runs") else .int))) else
  (bif Nat.blt k 13 then (bif Nat.blt k 12 then (bif Nat.beq k 11 then (.object "BackwardProofs$Duties") else .int) else
    (bif Nat.beq k 12 then (.object "BackwardProofs$Sheet") else .int)) else
   (bif Nat.blt k 14 then (bif Nat.beq k 13 then (.object "BackwardProofs$Program") else .int) else
    (bif Nat.beq k 14 then (.object "BackwardProofs$Version") else .int))))) else .int) else
    (bif Nat.beq c 11 then (bif Nat.blt k 23 then (bif Nat.blt k 11 then (bif Nat.blt k 5 then (bif Nat.blt k 2 then (bif Nat.blt k 1 then (bif Nat.beq k 0 then (.array .int) else .int) else
     (bif Nat.beq k 1 then .int else .int)) else
    (bif Nat.blt k 3 then (bif Nat.beq k 2 then (.array .int) else .int) else
     (bif Nat.blt k 4 then (bif Nat.beq k 3 then (.array .int) else .int) else
      (bif Nat.beq k 4 then (.array .int) else .int)))) else
   (bif Nat.blt k 8 then (bif Nat.blt k 6 then (bif Nat.beq k 5 then .int else .int) else
     (bif Nat.blt k 7 then (bif Nat.beq k 6 then (.array .int) else .int) else
      (bif Nat.beq k 7 then .int else .int))) else
    (bif Nat.blt k 9 then (bif Nat.beq k 8 then (.array .int) else .int) else
     (bif Nat.blt k 10 then (bif Nat.beq k 9 then (.array .int) else .int) else
      (bif Nat.beq k 10 then .int else .int))))) else
  (bif Nat.blt k 17 then (bif Nat.blt k 14 then (bif Nat.blt k 12 then (bif Nat.beq k 11 then .int else .int) else
     (bif Nat.blt k 13 then (bif Nat.beq k 12 then .int else .int) else
      (bif Nat.beq k 13 then .int else .int))) else
    (bif Nat.blt k 15 then (bif Nat.beq k 14 then (.array .byte) else .int) else
     (bif Nat.blt k 16 then (bif Nat.beq k 15 then .int else .int) else
      (bif Nat.beq k 16 then (.array .byte) else .int)))) else
   (bif Nat.blt k 20 then (bif Nat.blt k 18 then (bif Nat.beq k 17 then .int else .int) else
     (bif Nat.blt k 19 then (bif Nat.beq k 18 then .int else .int) else
      (bif Nat.beq k 19 then .int else .int))) else
    (bif Nat.blt k 21 then (bif Nat.beq k 20 then (.array .int) else .int) else
     (bif Nat.blt k 22 then (bif Nat.beq k 21 then .int else .int) else
      (bif Nat.beq k 22 then (.array .long) else .int)))))) else
 (bif Nat.blt k 35 then (bif Nat.blt k 29 then (bif Nat.blt k 26 then (bif Nat.blt k 24 then (bif Nat.beq k 23 then (.array .int) else .int) else
     (bif Nat.blt k 25 then (bif Nat.beq k 24 then (.array .int) else .int) else
      (bif Nat.beq k 25 then (.array .int) else .int))) else
    (bif Nat.blt k 27 then (bif Nat.beq k 26 then .int else .int) else
     (bif Nat.blt k 28 then (bif Nat.beq k 27 then .int else .int) else
      (bif Nat.beq k 28 then .int else .int)))) else
   (bif Nat.blt k 32 then (bif Nat.blt k 30 then (bif Nat.beq k 29 then .boolean else .int) else
     (bif Nat.blt k 31 then (bif Nat.beq k 30 then .int else .int) else
      (bif Nat.beq k 31 then .float else .int))) else
    (bif Nat.blt k 33 then (bif Nat.beq k 32 then (.array .long) else .int) else
     (bif Nat.blt k 34 then (bif Nat.beq k 33 then (.array .int) else .int) else
      (bif Nat.beq k 34 then (.array .int) else .int))))) else
  (bif Nat.blt k 41 then (bif Nat.blt k 38 then (bif Nat.blt k 36 then (bif Nat.beq k 35 then (.array .long) else .int) else
     (bif Nat.blt k 37 then (bif Nat.beq k 36 then .int else .int) else
      (bif Nat.beq k 37 then .int else .int))) else
    (bif Nat.blt k 39 then (bif Nat.beq k 38 then .int else .int) else
     (bif Nat.blt k 40 then (bif Nat.beq k 39 then .int else .int) else
      (bif Nat.beq k 40 then .int else .int)))) else
   (bif Nat.blt k 44 then (bif Nat.blt k 42 then (bif Nat.beq k 41 then .int else .int) else
     (bif Nat.blt k 43 then (bif Nat.beq k 42 then .int else .int) else
      (bif Nat.beq k 43 then (.array .int) else .int))) else
    (bif Nat.blt k 45 then (bif Nat.beq k 44 then .int else .int) else
     (bif Nat.blt k 46 then (bif Nat.beq k 45 then .boolean else .int) else
      (bif Nat.beq k 46 then .int else .int))))))) else .int)))))
noncomputable def zy (m : Nat) : MethodName :=
 (bif Nat.blt m 196 then (bif Nat.blt m 98 then (bif Nat.blt m 49 then (bif Nat.blt m 24 then (bif Nat.blt m 12 then (bif Nat.blt m 6 then (bif Nat.blt m 3 then (bif Nat.blt m 1 then (bif Nat.beq m 0 then ⟨"BackwardProofs$Duties", "<init>", "(LBackwardProofs$Sets;LBackwardProofs$Runs;)V"⟩ else ⟨"", "", ""⟩) else
        (bif Nat.blt m 2 then (bif Nat.beq m 1 then ⟨"BackwardProofs$Duties", "look", "(LBackwardProofs$Program;LBackwardProofs$Version;)V"⟩ else ⟨"", "", ""⟩) else
         (bif Nat.beq m 2 then ⟨"BackwardProofs$Duties", "lookAtNeeds", "()V"⟩ else ⟨"", "", ""⟩))) else
       (bif Nat.blt m 4 then (bif Nat.beq m 3 then ⟨"BackwardProofs$Duties", "putNeed", "(IJ)V"⟩ else ⟨"", "", ""⟩) else
        (bif Nat.blt m 5 then (bif Nat.beq m 4 then ⟨"BackwardProofs$Duties", "ahead", "(I)J"⟩ else ⟨"", "", ""⟩) else
         (bif Nat.beq m 5 then ⟨"BackwardProofs$Duties", "behind", "(I)J"⟩ else ⟨"", "", ""⟩)))) else
      (bif Nat.blt m 9 then (bif Nat.blt m 7 then (bif Nat.beq m 6 then ⟨"BackwardProofs$Duties", "endingIn", "(IJ)J"⟩ else ⟨"", "", ""⟩) else
        (bif Nat.blt m 8 then (bif Nat.beq m 7 then ⟨"BackwardProofs$Duties", "lookAtLoop", "(II)V"⟩ else ⟨"", "", ""⟩) else
         (bif Nat.beq m 8 then ⟨"BackwardProofs$Duties", "lessening", "(II)J"⟩ else ⟨"", "", ""⟩))) else
       (bif Nat.blt m 10 then (bif Nat.beq m 9 then ⟨"BackwardProofs$Duties", "failingStates", "(I)J"⟩ else ⟨"", "", ""⟩) else
        (bif Nat.blt m 11 then (bif Nat.beq m 10 then ⟨"BackwardProofs$Duties", "count", "()I"⟩ else ⟨"", "", ""⟩) else
         (bif Nat.beq m 11 then ⟨"BackwardProofs$Duties", "failed", "()I"⟩ else ⟨"", "", ""⟩))))) else
     (bif Nat.blt m 18 then (bif Nat.blt m 15 then (bif Nat.blt m 13 then (bif Nat.beq m 12 then ⟨"BackwardProofs$Duties", "safeStates", "(I)J"⟩ else ⟨"", "", ""⟩) else
        (bif Nat.blt m 14 then (bif Nat.beq m 13 then ⟨"BackwardProofs$Formula", "<init>", "([BI)V"⟩ else ⟨"", "", ""⟩) else
         (bif Nat.beq m 14 then ⟨"BackwardProofs$Formula", "size", "()I"⟩ else ⟨"", "", ""⟩))) else
       (bif Nat.blt m 16 then (bif Nat.beq m 15 then ⟨"BackwardProofs$History", "<init>", "(LBackwardProofs$Formula;)V"⟩ else ⟨"", "", ""⟩) else
        (bif Nat.blt m 17 then (bif Nat.beq m 16 then ⟨"BackwardProofs$History", "forget", "()V"⟩ else ⟨"", "", ""⟩) else
         (bif Nat.beq m 17 then ⟨"BackwardProofs$History", "remember", "(LBackwardProofs$Version;)V"⟩ else ⟨"", "", ""⟩)))) else
      (bif Nat.blt m 21 then (bif Nat.blt m 19 then (bif Nat.beq m 18 then ⟨"BackwardProofs$History", "holds", "(I)Z"⟩ else ⟨"", "", ""⟩) else
        (bif Nat.blt m 20 then (bif Nat.beq m 19 then ⟨"BackwardProofs$History", "bringBack", "(ILBackwardProofs$Version;)V"⟩ else ⟨"", "", ""⟩) else
         (bif Nat.beq m 20 then ⟨"BackwardProofs$History", "takeBack", "(LBackwardProofs$Version;)V"⟩ else ⟨"", "", ""⟩))) else
       (bif Nat.blt m 22 then (bif Nat.beq m 21 then ⟨"BackwardProofs$History", "keepIn", "(ILBackwardProofs$Version;)V"⟩ else ⟨"", "", ""⟩) else
        (bif Nat.blt m 23 then (bif Nat.beq m 22 then ⟨"BackwardProofs$History", "heldSlots", "()I"⟩ else ⟨"", "", ""⟩) else
         (bif Nat.beq m 23 then ⟨"BackwardProofs$Parser", "<init>", "([B)V"⟩ else ⟨"", "", ""⟩)))))) else
    (bif Nat.blt m 36 then (bif Nat.blt m 30 then (bif Nat.blt m 27 then (bif Nat.blt m 25 then (bif Nat.beq m 24 then ⟨"BackwardProofs$Parser", "begin", "(I)V"⟩ else ⟨"", "", ""⟩) else
        (bif Nat.blt m 26 then (bif Nat.beq m 25 then ⟨"BackwardProofs$Parser", "parseDescription", "(LBackwardProofs$Program;LBackwardProofs$Version;)V"⟩ else ⟨"", "", ""⟩) else
         (bif Nat.beq m 26 then ⟨"BackwardProofs$Parser", "take", "(I)V"⟩ else ⟨"", "", ""⟩))) else
       (bif Nat.blt m 28 then (bif Nat.beq m 27 then ⟨"BackwardProofs$Parser", "refuse", "(I)V"⟩ else ⟨"", "", ""⟩) else
        (bif Nat.blt m 29 then (bif Nat.beq m 28 then ⟨"BackwardProofs$Parser", "parseFormula", "(Z)LBackwardProofs$Formula;"⟩ else ⟨"", "", ""⟩) else
         (bif Nat.beq m 29 then ⟨"BackwardProofs$Parser", "checkNode", "(ZI)Z"⟩ else ⟨"", "", ""⟩)))) else
      (bif Nat.blt m 33 then (bif Nat.blt m 31 then (bif Nat.beq m 30 then ⟨"BackwardProofs$Parser", "parseRowWord", "()V"⟩ else ⟨"", "", ""⟩) else
        (bif Nat.blt m 32 then (bif Nat.beq m 31 then ⟨"BackwardProofs$Parser", "parseStatement", "(I)V"⟩ else ⟨"", "", ""⟩) else
         (bif Nat.beq m 32 then ⟨"BackwardProofs$Parser", "parseVariable", "(I)V"⟩ else ⟨"", "", ""⟩))) else
       (bif Nat.blt m 34 then (bif Nat.beq m 33 then ⟨"BackwardProofs$Parser", "closeStatement", "()V"⟩ else ⟨"", "", ""⟩) else
        (bif Nat.blt m 35 then (bif Nat.beq m 34 then ⟨"BackwardProofs$Parser", "parseAlone", "(Z)LBackwardProofs$Formula;"⟩ else ⟨"", "", ""⟩) else
         (bif Nat.beq m 35 then ⟨"BackwardProofs$Program", "<init>", "(LBackwardProofs$Formula;)V"⟩ else ⟨"", "", ""⟩))))) else
     (bif Nat.blt m 42 then (bif Nat.blt m 39 then (bif Nat.blt m 37 then (bif Nat.beq m 36 then ⟨"BackwardProofs$Program", "kindOf", "(I)I"⟩ else ⟨"", "", ""⟩) else
        (bif Nat.blt m 38 then (bif Nat.beq m 37 then ⟨"BackwardProofs$Program", "has", "(I)Z"⟩ else ⟨"", "", ""⟩) else
         (bif Nat.beq m 38 then ⟨"BackwardProofs$Program", "add", "(IIZ)I"⟩ else ⟨"", "", ""⟩))) else
       (bif Nat.blt m 40 then (bif Nat.beq m 39 then ⟨"BackwardProofs$Program", "start", "()I"⟩ else ⟨"", "", ""⟩) else
        (bif Nat.blt m 41 then (bif Nat.beq m 40 then ⟨"BackwardProofs$Program", "secondOf", "(I)I"⟩ else ⟨"", "", ""⟩) else
         (bif Nat.beq m 41 then ⟨"BackwardProofs$Program", "firstOf", "(I)I"⟩ else ⟨"", "", ""⟩)))) else
      (bif Nat.blt m 45 then (bif Nat.blt m 43 then (bif Nat.beq m 42 then ⟨"BackwardProofs$Program", "lastOfRow", "(I)I"⟩ else ⟨"", "", ""⟩) else
        (bif Nat.blt m 44 then (bif Nat.beq m 43 then ⟨"BackwardProofs$Program", "takeNumber", "(II)I"⟩ else ⟨"", "", ""⟩) else
         (bif Nat.beq m 44 then ⟨"BackwardProofs$Program", "putVariable", "(II)V"⟩ else ⟨"", "", ""⟩))) else
       (bif Nat.blt m 47 then (bif Nat.blt m 46 then (bif Nat.beq m 45 then ⟨"BackwardProofs$Program", "putPart", "(ILBackwardProofs$Formula;)V"⟩ else ⟨"", "", ""⟩) else
         (bif Nat.beq m 46 then ⟨"BackwardProofs$Program", "numberOf", "(I)I"⟩ else ⟨"", "", ""⟩)) else
        (bif Nat.blt m 48 then (bif Nat.beq m 47 then ⟨"BackwardProofs$Program", "parentOf", "(I)I"⟩ else ⟨"", "", ""⟩) else
         (bif Nat.beq m 48 then ⟨"BackwardProofs$Program", "nextOf", "(I)I"⟩ else ⟨"", "", ""⟩))))))) else
   (bif Nat.blt m 73 then (bif Nat.blt m 61 then (bif Nat.blt m 55 then (bif Nat.blt m 52 then (bif Nat.blt m 50 then (bif Nat.beq m 49 then ⟨"BackwardProofs$Program", "connect", "()V"⟩ else ⟨"", "", ""⟩) else
        (bif Nat.blt m 51 then (bif Nat.beq m 50 then ⟨"BackwardProofs$Program", "thenOf", "(I)I"⟩ else ⟨"", "", ""⟩) else
         (bif Nat.beq m 51 then ⟨"BackwardProofs$Program", "variableOf", "(I)I"⟩ else ⟨"", "", ""⟩))) else
       (bif Nat.blt m 53 then (bif Nat.beq m 52 then ⟨"BackwardProofs$Program", "partOf", "(I)LBackwardProofs$Formula;"⟩ else ⟨"", "", ""⟩) else
        (bif Nat.blt m 54 then (bif Nat.beq m 53 then ⟨"BackwardProofs$Program", "loopAt", "(I)I"⟩ else ⟨"", "", ""⟩) else
         (bif Nat.beq m 54 then ⟨"BackwardProofs$Program", "entry", "(IZ)I"⟩ else ⟨"", "", ""⟩)))) else
      (bif Nat.blt m 58 then (bif Nat.blt m 56 then (bif Nat.beq m 55 then ⟨"BackwardProofs$Program", "depthOf", "(I)I"⟩ else ⟨"", "", ""⟩) else
        (bif Nat.blt m 57 then (bif Nat.beq m 56 then ⟨"BackwardProofs$Program", "inRow", "(I)I"⟩ else ⟨"", "", ""⟩) else
         (bif Nat.beq m 57 then ⟨"BackwardProofs$Runs", "<init>", "(LBackwardProofs$Sets;)V"⟩ else ⟨"", "", ""⟩))) else
       (bif Nat.blt m 59 then (bif Nat.beq m 58 then ⟨"BackwardProofs$Runs", "look", "(LBackwardProofs$Program;LBackwardProofs$Version;)V"⟩ else ⟨"", "", ""⟩) else
        (bif Nat.blt m 60 then (bif Nat.beq m 59 then ⟨"BackwardProofs$Runs", "lookAtLoop", "(I)V"⟩ else ⟨"", "", ""⟩) else
         (bif Nat.beq m 60 then ⟨"BackwardProofs$Runs", "endOfRow", "(II)I"⟩ else ⟨"", "", ""⟩))))) else
     (bif Nat.blt m 67 then (bif Nat.blt m 64 then (bif Nat.blt m 62 then (bif Nat.beq m 61 then ⟨"BackwardProofs$Runs", "putEnd", "(III)V"⟩ else ⟨"", "", ""⟩) else
        (bif Nat.blt m 63 then (bif Nat.beq m 62 then ⟨"BackwardProofs$Runs", "lookAtOther", "(I)V"⟩ else ⟨"", "", ""⟩) else
         (bif Nat.beq m 63 then ⟨"BackwardProofs$Runs", "endOf", "(II)I"⟩ else ⟨"", "", ""⟩))) else
       (bif Nat.blt m 65 then (bif Nat.beq m 64 then ⟨"BackwardProofs$Runs", "wrongStates", "()J"⟩ else ⟨"", "", ""⟩) else
        (bif Nat.blt m 66 then (bif Nat.beq m 65 then ⟨"BackwardProofs$Runs", "endFrom", "(I)I"⟩ else ⟨"", "", ""⟩) else
         (bif Nat.beq m 66 then ⟨"BackwardProofs$Runs", "dearestState", "()I"⟩ else ⟨"", "", ""⟩)))) else
      (bif Nat.blt m 70 then (bif Nat.blt m 68 then (bif Nat.beq m 67 then ⟨"BackwardProofs$Runs", "endsFromBefore", "(I)Z"⟩ else ⟨"", "", ""⟩) else
        (bif Nat.blt m 69 then (bif Nat.beq m 68 then ⟨"BackwardProofs$Runs", "follow", "(II)V"⟩ else ⟨"", "", ""⟩) else
         (bif Nat.beq m 69 then ⟨"BackwardProofs$Runs", "countRound", "(Z)V"⟩ else ⟨"", "", ""⟩))) else
       (bif Nat.blt m 71 then (bif Nat.beq m 70 then ⟨"BackwardProofs$Runs", "statementBehind", "(II)I"⟩ else ⟨"", "", ""⟩) else
        (bif Nat.blt m 72 then (bif Nat.beq m 71 then ⟨"BackwardProofs$Runs", "looksAtCondition", "(I)Z"⟩ else ⟨"", "", ""⟩) else
         (bif Nat.beq m 72 then ⟨"BackwardProofs$Runs", "stateBehind", "(II)I"⟩ else ⟨"", "", ""⟩)))))) else
    (bif Nat.blt m 85 then (bif Nat.blt m 79 then (bif Nat.blt m 76 then (bif Nat.blt m 74 then (bif Nat.beq m 73 then ⟨"BackwardProofs$Runs", "mean", "()D"⟩ else ⟨"", "", ""⟩) else
        (bif Nat.blt m 75 then (bif Nat.beq m 74 then ⟨"BackwardProofs$Runs", "bitsOf", "(D)J"⟩ else ⟨"", "", ""⟩) else
         (bif Nat.beq m 75 then ⟨"BackwardProofs$Runs", "stepsFrom", "(I)I"⟩ else ⟨"", "", ""⟩))) else
       (bif Nat.blt m 77 then (bif Nat.beq m 76 then ⟨"BackwardProofs$Runs", "costFrom", "(I)F"⟩ else ⟨"", "", ""⟩) else
        (bif Nat.blt m 78 then (bif Nat.beq m 77 then ⟨"BackwardProofs$Runs", "bitsOf", "(F)I"⟩ else ⟨"", "", ""⟩) else
         (bif Nat.beq m 78 then ⟨"BackwardProofs$Runs", "metAt", "(I)J"⟩ else ⟨"", "", ""⟩)))) else
      (bif Nat.blt m 82 then (bif Nat.blt m 80 then (bif Nat.beq m 79 then ⟨"BackwardProofs$Runs", "takeUnseen", "(II)Z"⟩ else ⟨"", "", ""⟩) else
        (bif Nat.blt m 81 then (bif Nat.beq m 80 then ⟨"BackwardProofs$Runs", "mostRounds", "(I)I"⟩ else ⟨"", "", ""⟩) else
         (bif Nat.beq m 81 then ⟨"BackwardProofs$Scanner", "<init>", "([B)V"⟩ else ⟨"", "", ""⟩))) else
       (bif Nat.blt m 83 then (bif Nat.beq m 82 then ⟨"BackwardProofs$Scanner", "begin", "(I)V"⟩ else ⟨"", "", ""⟩) else
        (bif Nat.blt m 84 then (bif Nat.beq m 83 then ⟨"BackwardProofs$Scanner", "scan", "()V"⟩ else ⟨"", "", ""⟩) else
         (bif Nat.beq m 84 then ⟨"BackwardProofs$Scanner", "behindBlanks", "(I)I"⟩ else ⟨"", "", ""⟩))))) else
     (bif Nat.blt m 91 then (bif Nat.blt m 88 then (bif Nat.blt m 86 then (bif Nat.beq m 85 then ⟨"BackwardProofs$Scanner", "byteAt", "(I)I"⟩ else ⟨"", "", ""⟩) else
        (bif Nat.blt m 87 then (bif Nat.beq m 86 then ⟨"BackwardProofs$Scanner", "isLetter", "(I)Z"⟩ else ⟨"", "", ""⟩) else
         (bif Nat.beq m 87 then ⟨"BackwardProofs$Scanner", "behindLetters", "(I)I"⟩ else ⟨"", "", ""⟩))) else
       (bif Nat.blt m 89 then (bif Nat.beq m 88 then ⟨"BackwardProofs$Scanner", "isDigit", "(I)Z"⟩ else ⟨"", "", ""⟩) else
        (bif Nat.blt m 90 then (bif Nat.beq m 89 then ⟨"BackwardProofs$Scanner", "behindDigits", "(I)I"⟩ else ⟨"", "", ""⟩) else
         (bif Nat.beq m 90 then ⟨"BackwardProofs$Scanner", "numberToken", "()I"⟩ else ⟨"", "", ""⟩)))) else
      (bif Nat.blt m 94 then (bif Nat.blt m 92 then (bif Nat.beq m 91 then ⟨"BackwardProofs$Scanner", "advance", "()V"⟩ else ⟨"", "", ""⟩) else
        (bif Nat.blt m 93 then (bif Nat.beq m 92 then ⟨"BackwardProofs$Sets", "<init>", "(LBackwardProofs$Formula;)V"⟩ else ⟨"", "", ""⟩) else
         (bif Nat.beq m 93 then ⟨"BackwardProofs$Sets", "nodesOfForm", "(I[B)I"⟩ else ⟨"", "", ""⟩))) else
       (bif Nat.blt m 96 then (bif Nat.blt m 95 then (bif Nat.beq m 94 then ⟨"BackwardProofs$Sets", "look", "(LBackwardProofs$Program;LBackwardProofs$Version;)V"⟩ else ⟨"", "", ""⟩) else
         (bif Nat.beq m 95 then ⟨"BackwardProofs$Sets", "evaluate", "([BI)V"⟩ else ⟨"", "", ""⟩)) else
        (bif Nat.blt m 97 then (bif Nat.beq m 96 then ⟨"BackwardProofs$Sets", "push", "(JJ)V"⟩ else ⟨"", "", ""⟩) else
         (bif Nat.beq m 97 then ⟨"BackwardProofs$Sets", "negate", "()V"⟩ else ⟨"", "", ""⟩)))))))) else
  (bif Nat.blt m 147 then (bif Nat.blt m 122 then (bif Nat.blt m 110 then (bif Nat.blt m 104 then (bif Nat.blt m 101 then (bif Nat.blt m 99 then (bif Nat.beq m 98 then ⟨"BackwardProofs$Sets", "join", "(I)V"⟩ else ⟨"", "", ""⟩) else
        (bif Nat.blt m 100 then (bif Nat.beq m 99 then ⟨"BackwardProofs$Sets", "holding", "()J"⟩ else ⟨"", "", ""⟩) else
         (bif Nat.beq m 100 then ⟨"BackwardProofs$Sets", "lookAtStatement", "(I)V"⟩ else ⟨"", "", ""⟩))) else
       (bif Nat.blt m 102 then (bif Nat.beq m 101 then ⟨"BackwardProofs$Sets", "lookAtLoop", "(I)V"⟩ else ⟨"", "", ""⟩) else
        (bif Nat.blt m 103 then (bif Nat.beq m 102 then ⟨"BackwardProofs$Sets", "holdsIn", "(II)Z"⟩ else ⟨"", "", ""⟩) else
         (bif Nat.beq m 103 then ⟨"BackwardProofs$Sets", "conditionOf", "(I)J"⟩ else ⟨"", "", ""⟩)))) else
      (bif Nat.blt m 107 then (bif Nat.blt m 105 then (bif Nat.beq m 104 then ⟨"BackwardProofs$Sets", "has", "(JI)Z"⟩ else ⟨"", "", ""⟩) else
        (bif Nat.blt m 106 then (bif Nat.beq m 105 then ⟨"BackwardProofs$Sets", "moved", "(II)I"⟩ else ⟨"", "", ""⟩) else
         (bif Nat.beq m 106 then ⟨"BackwardProofs$Sets", "number", "(JJI)I"⟩ else ⟨"", "", ""⟩))) else
       (bif Nat.blt m 108 then (bif Nat.beq m 107 then ⟨"BackwardProofs$Sets", "keepOf", "(I)J"⟩ else ⟨"", "", ""⟩) else
        (bif Nat.blt m 109 then (bif Nat.beq m 108 then ⟨"BackwardProofs$Sets", "lessOf", "(II)I"⟩ else ⟨"", "", ""⟩) else
         (bif Nat.beq m 109 then ⟨"BackwardProofs$Sets", "targetOf", "(I)I"⟩ else ⟨"", "", ""⟩))))) else
     (bif Nat.blt m 116 then (bif Nat.blt m 113 then (bif Nat.blt m 111 then (bif Nat.beq m 110 then ⟨"BackwardProofs$Sets", "least", "(J)I"⟩ else ⟨"", "", ""⟩) else
        (bif Nat.blt m 112 then (bif Nat.beq m 111 then ⟨"BackwardProofs$Sets", "formulaOf", "(I)LBackwardProofs$Formula;"⟩ else ⟨"", "", ""⟩) else
         (bif Nat.beq m 112 then ⟨"BackwardProofs$Sets", "greatestLess", "(I)I"⟩ else ⟨"", "", ""⟩))) else
       (bif Nat.blt m 114 then (bif Nat.beq m 113 then ⟨"BackwardProofs$Sheet", "<init>", "(LBackwardProofs$Sets;)V"⟩ else ⟨"", "", ""⟩) else
        (bif Nat.blt m 115 then (bif Nat.beq m 114 then ⟨"BackwardProofs$Sheet", "write", "(LBackwardProofs$Program;LBackwardProofs$Version;)V"⟩ else ⟨"", "", ""⟩) else
         (bif Nat.beq m 115 then ⟨"BackwardProofs$Sheet", "appendFormula", "(ILBackwardProofs$Formula;)V"⟩ else ⟨"", "", ""⟩)))) else
      (bif Nat.blt m 119 then (bif Nat.blt m 117 then (bif Nat.beq m 116 then ⟨"BackwardProofs$Sheet", "appendNode", "(II)V"⟩ else ⟨"", "", ""⟩) else
        (bif Nat.blt m 118 then (bif Nat.beq m 117 then ⟨"BackwardProofs$Sheet", "sizeOf", "(I)I"⟩ else ⟨"", "", ""⟩) else
         (bif Nat.beq m 118 then ⟨"BackwardProofs$Sheet", "giveUp", "(I)V"⟩ else ⟨"", "", ""⟩))) else
       (bif Nat.blt m 120 then (bif Nat.beq m 119 then ⟨"BackwardProofs$Sheet", "writeBranch", "(I)V"⟩ else ⟨"", "", ""⟩) else
        (bif Nat.blt m 121 then (bif Nat.beq m 120 then ⟨"BackwardProofs$Sheet", "rowAt", "(I)I"⟩ else ⟨"", "", ""⟩) else
         (bif Nat.beq m 121 then ⟨"BackwardProofs$Sheet", "appendRow", "(II)V"⟩ else ⟨"", "", ""⟩)))))) else
    (bif Nat.blt m 134 then (bif Nat.blt m 128 then (bif Nat.blt m 125 then (bif Nat.blt m 123 then (bif Nat.beq m 122 then ⟨"BackwardProofs$Sheet", "rowOf", "(I)[B"⟩ else ⟨"", "", ""⟩) else
        (bif Nat.blt m 124 then (bif Nat.beq m 123 then ⟨"BackwardProofs$Sheet", "writeSwapped", "(II)V"⟩ else ⟨"", "", ""⟩) else
         (bif Nat.beq m 124 then ⟨"BackwardProofs$Version", "<init>", "(LBackwardProofs$Formula;)V"⟩ else ⟨"", "", ""⟩))) else
       (bif Nat.blt m 126 then (bif Nat.beq m 125 then ⟨"BackwardProofs$Version", "putKeep", "(ILBackwardProofs$Formula;)V"⟩ else ⟨"", "", ""⟩) else
        (bif Nat.blt m 127 then (bif Nat.beq m 126 then ⟨"BackwardProofs$Version", "fits", "(I)Z"⟩ else ⟨"", "", ""⟩) else
         (bif Nat.beq m 127 then ⟨"BackwardProofs$Version", "putLess", "(ILBackwardProofs$Formula;)V"⟩ else ⟨"", "", ""⟩)))) else
      (bif Nat.blt m 131 then (bif Nat.blt m 129 then (bif Nat.beq m 128 then ⟨"BackwardProofs$Version", "fillingOf", "(I)I"⟩ else ⟨"", "", ""⟩) else
        (bif Nat.blt m 130 then (bif Nat.beq m 129 then ⟨"BackwardProofs$Version", "keepOf", "(I)LBackwardProofs$Formula;"⟩ else ⟨"", "", ""⟩) else
         (bif Nat.beq m 130 then ⟨"BackwardProofs$Version", "lessOf", "(I)LBackwardProofs$Formula;"⟩ else ⟨"", "", ""⟩))) else
       (bif Nat.blt m 132 then (bif Nat.beq m 131 then ⟨"BackwardProofs$Version", "priceOf", "(I)I"⟩ else ⟨"", "", ""⟩) else
        (bif Nat.blt m 133 then (bif Nat.beq m 132 then ⟨"BackwardProofs$Version", "filledHoles", "(I)I"⟩ else ⟨"", "", ""⟩) else
         (bif Nat.beq m 133 then ⟨"BackwardProofs$Version", "putFilling", "(II)V"⟩ else ⟨"", "", ""⟩))))) else
     (bif Nat.blt m 140 then (bif Nat.blt m 137 then (bif Nat.blt m 135 then (bif Nat.beq m 134 then ⟨"BackwardProofs$Version", "copy", "(LBackwardProofs$Version;)V"⟩ else ⟨"", "", ""⟩) else
        (bif Nat.blt m 136 then (bif Nat.beq m 135 then ⟨"BackwardProofs$Version", "putPrice", "(II)V"⟩ else ⟨"", "", ""⟩) else
         (bif Nat.beq m 136 then ⟨"BackwardProofs$Words", "spell", "(Ljava/lang/String;[BI)I"⟩ else ⟨"", "", ""⟩))) else
       (bif Nat.blt m 138 then (bif Nat.beq m 137 then ⟨"BackwardProofs$Words", "find", "([BII)I"⟩ else ⟨"", "", ""⟩) else
        (bif Nat.blt m 139 then (bif Nat.beq m 138 then ⟨"BackwardProofs$Words", "text", "(I)Ljava/lang/String;"⟩ else ⟨"", "", ""⟩) else
         (bif Nat.beq m 139 then ⟨"BackwardProofs$Words", "stands", "(Ljava/lang/String;[BII)Z"⟩ else ⟨"", "", ""⟩)))) else
      (bif Nat.blt m 143 then (bif Nat.blt m 141 then (bif Nat.beq m 140 then ⟨"BackwardProofs$Words", "isOfExpressions", "(I)Z"⟩ else ⟨"", "", ""⟩) else
        (bif Nat.blt m 142 then (bif Nat.beq m 141 then ⟨"BackwardProofs$Words", "isOfConditions", "(I)Z"⟩ else ⟨"", "", ""⟩) else
         (bif Nat.beq m 142 then ⟨"BackwardProofs$Words", "expressionsBehind", "(I)I"⟩ else ⟨"", "", ""⟩))) else
       (bif Nat.blt m 145 then (bif Nat.blt m 144 then (bif Nat.beq m 143 then ⟨"BackwardProofs$Words", "conditionsBehind", "(I)I"⟩ else ⟨"", "", ""⟩) else
         (bif Nat.beq m 144 then ⟨"BackwardProofs$Words", "isStatement", "(I)Z"⟩ else ⟨"", "", ""⟩)) else
        (bif Nat.blt m 146 then (bif Nat.beq m 145 then ⟨"BackwardProofs$Words", "isVariable", "(I)Z"⟩ else ⟨"", "", ""⟩) else
         (bif Nat.beq m 146 then ⟨"BackwardProofs", "<init>", "()V"⟩ else ⟨"", "", ""⟩))))))) else
   (bif Nat.blt m 171 then (bif Nat.blt m 159 then (bif Nat.blt m 153 then (bif Nat.blt m 150 then (bif Nat.blt m 148 then (bif Nat.beq m 147 then ⟨"BackwardProofs", "errorCode", "()I"⟩ else ⟨"", "", ""⟩) else
        (bif Nat.blt m 149 then (bif Nat.beq m 148 then ⟨"BackwardProofs", "errorPosition", "()I"⟩ else ⟨"", "", ""⟩) else
         (bif Nat.beq m 149 then ⟨"BackwardProofs", "before", "()J"⟩ else ⟨"", "", ""⟩))) else
       (bif Nat.blt m 151 then (bif Nat.beq m 150 then ⟨"BackwardProofs", "after", "()J"⟩ else ⟨"", "", ""⟩) else
        (bif Nat.blt m 152 then (bif Nat.beq m 151 then ⟨"BackwardProofs", "needAhead", "()J"⟩ else ⟨"", "", ""⟩) else
         (bif Nat.beq m 152 then ⟨"BackwardProofs", "trouble", "()I"⟩ else ⟨"", "", ""⟩)))) else
      (bif Nat.blt m 156 then (bif Nat.blt m 154 then (bif Nat.beq m 153 then ⟨"BackwardProofs", "wrong", "()J"⟩ else ⟨"", "", ""⟩) else
        (bif Nat.blt m 155 then (bif Nat.beq m 154 then ⟨"BackwardProofs", "dearest", "()I"⟩ else ⟨"", "", ""⟩) else
         (bif Nat.beq m 155 then ⟨"BackwardProofs", "meanCost", "()D"⟩ else ⟨"", "", ""⟩))) else
       (bif Nat.blt m 157 then (bif Nat.beq m 156 then ⟨"BackwardProofs", "meanBits", "()J"⟩ else ⟨"", "", ""⟩) else
        (bif Nat.blt m 158 then (bif Nat.beq m 157 then ⟨"BackwardProofs", "share", "()F"⟩ else ⟨"", "", ""⟩) else
         (bif Nat.beq m 158 then ⟨"BackwardProofs", "feed", "(IIIII)I"⟩ else ⟨"", "", ""⟩))))) else
     (bif Nat.blt m 165 then (bif Nat.blt m 162 then (bif Nat.blt m 160 then (bif Nat.beq m 159 then ⟨"BackwardProofs", "appendInput", "(I)V"⟩ else ⟨"", "", ""⟩) else
        (bif Nat.blt m 161 then (bif Nat.beq m 160 then ⟨"BackwardProofs", "load", "(I)I"⟩ else ⟨"", "", ""⟩) else
         (bif Nat.beq m 161 then ⟨"BackwardProofs", "requireLength", "(I)V"⟩ else ⟨"", "", ""⟩))) else
       (bif Nat.blt m 163 then (bif Nat.beq m 162 then ⟨"BackwardProofs", "closeInput", "()V"⟩ else ⟨"", "", ""⟩) else
        (bif Nat.blt m 164 then (bif Nat.beq m 163 then ⟨"BackwardProofs", "value", "(I)I"⟩ else ⟨"", "", ""⟩) else
         (bif Nat.beq m 164 then ⟨"BackwardProofs", "statement", "(II)I"⟩ else ⟨"", "", ""⟩)))) else
      (bif Nat.blt m 168 then (bif Nat.blt m 166 then (bif Nat.beq m 165 then ⟨"BackwardProofs", "requireStatement", "(I)V"⟩ else ⟨"", "", ""⟩) else
        (bif Nat.blt m 167 then (bif Nat.beq m 166 then ⟨"BackwardProofs", "nodesOf", "(I)I"⟩ else ⟨"", "", ""⟩) else
         (bif Nat.beq m 167 then ⟨"BackwardProofs", "loopSet", "(II)J"⟩ else ⟨"", "", ""⟩))) else
       (bif Nat.blt m 169 then (bif Nat.beq m 168 then ⟨"BackwardProofs", "requireLoop", "(I)V"⟩ else ⟨"", "", ""⟩) else
        (bif Nat.blt m 170 then (bif Nat.beq m 169 then ⟨"BackwardProofs", "less", "(II)I"⟩ else ⟨"", "", ""⟩) else
         (bif Nat.beq m 170 then ⟨"BackwardProofs", "requireState", "(I)V"⟩ else ⟨"", "", ""⟩)))))) else
    (bif Nat.blt m 183 then (bif Nat.blt m 177 then (bif Nat.blt m 174 then (bif Nat.blt m 172 then (bif Nat.beq m 171 then ⟨"BackwardProofs", "need", "(I)J"⟩ else ⟨"", "", ""⟩) else
        (bif Nat.blt m 173 then (bif Nat.beq m 172 then ⟨"BackwardProofs", "duty", "(II)I"⟩ else ⟨"", "", ""⟩) else
         (bif Nat.beq m 173 then ⟨"BackwardProofs", "requireDuty", "(I)V"⟩ else ⟨"", "", ""⟩))) else
       (bif Nat.blt m 175 then (bif Nat.beq m 174 then ⟨"BackwardProofs", "failing", "(I)J"⟩ else ⟨"", "", ""⟩) else
        (bif Nat.blt m 176 then (bif Nat.beq m 175 then ⟨"BackwardProofs", "run", "(I)I"⟩ else ⟨"", "", ""⟩) else
         (bif Nat.beq m 176 then ⟨"BackwardProofs", "steps", "(I)I"⟩ else ⟨"", "", ""⟩)))) else
      (bif Nat.blt m 180 then (bif Nat.blt m 178 then (bif Nat.beq m 177 then ⟨"BackwardProofs", "cost", "(I)F"⟩ else ⟨"", "", ""⟩) else
        (bif Nat.blt m 179 then (bif Nat.beq m 178 then ⟨"BackwardProofs", "costBits", "(I)I"⟩ else ⟨"", "", ""⟩) else
         (bif Nat.beq m 179 then ⟨"BackwardProofs", "met", "(I)J"⟩ else ⟨"", "", ""⟩))) else
       (bif Nat.blt m 181 then (bif Nat.beq m 180 then ⟨"BackwardProofs", "rounds", "(I)I"⟩ else ⟨"", "", ""⟩) else
        (bif Nat.blt m 182 then (bif Nat.beq m 181 then ⟨"BackwardProofs", "proves", "(I)I"⟩ else ⟨"", "", ""⟩) else
         (bif Nat.beq m 182 then ⟨"BackwardProofs", "requireHole", "(I)V"⟩ else ⟨"", "", ""⟩))))) else
     (bif Nat.blt m 189 then (bif Nat.blt m 186 then (bif Nat.blt m 184 then (bif Nat.beq m 183 then ⟨"BackwardProofs", "leastFilling", "(IZ)I"⟩ else ⟨"", "", ""⟩) else
        (bif Nat.blt m 185 then (bif Nat.beq m 184 then ⟨"BackwardProofs", "rights", "(I)I"⟩ else ⟨"", "", ""⟩) else
         (bif Nat.beq m 185 then ⟨"BackwardProofs", "safe", "(I)J"⟩ else ⟨"", "", ""⟩))) else
       (bif Nat.blt m 187 then (bif Nat.beq m 186 then ⟨"BackwardProofs", ("uns" ++ "afe"), "(I)J"⟩ else ⟨"", "", ""⟩) else
        (bif Nat.blt m 188 then (bif Nat.beq m 187 then ⟨"BackwardProofs", "writeNeed", "(I)I"⟩ else ⟨"", "", ""⟩) else
         (bif Nat.beq m 188 then ⟨"BackwardProofs", "writeWords", "([BI)V"⟩ else ⟨"", "", ""⟩)))) else
      (bif Nat.blt m 192 then (bif Nat.blt m 190 then (bif Nat.beq m 189 then ⟨"BackwardProofs", "outputByte", "(I)I"⟩ else ⟨"", "", ""⟩) else
        (bif Nat.blt m 191 then (bif Nat.beq m 190 then ⟨"BackwardProofs", "needNodes", "(I)I"⟩ else ⟨"", "", ""⟩) else
         (bif Nat.beq m 191 then ⟨"BackwardProofs", "gap", "(I)I"⟩ else ⟨"", "", ""⟩))) else
       (bif Nat.blt m 194 then (bif Nat.blt m 193 then (bif Nat.beq m 192 then ⟨"BackwardProofs", "setBefore", "(I)I"⟩ else ⟨"", "", ""⟩) else
         (bif Nat.beq m 193 then ⟨"BackwardProofs", "parseAlone", "(IZ)LBackwardProofs$Formula;"⟩ else ⟨"", "", ""⟩)) else
        (bif Nat.blt m 195 then (bif Nat.beq m 194 then ⟨"BackwardProofs", "setAfter", "(I)I"⟩ else ⟨"", "", ""⟩) else
         (bif Nat.beq m 195 then ⟨"BackwardProofs", "setKeep", "(II)I"⟩ else ⟨"", "", ""⟩))))))))) else
 (bif Nat.blt m 294 then (bif Nat.blt m 245 then (bif Nat.blt m 220 then (bif Nat.blt m 208 then (bif Nat.blt m 202 then (bif Nat.blt m 199 then (bif Nat.blt m 197 then (bif Nat.beq m 196 then ⟨"BackwardProofs", "setLess", "(II)I"⟩ else ⟨"", "", ""⟩) else
        (bif Nat.blt m 198 then (bif Nat.beq m 197 then ⟨"BackwardProofs", "fill", "(II)I"⟩ else ⟨"", "", ""⟩) else
         (bif Nat.beq m 198 then ⟨"BackwardProofs", "setPrice", "(II)I"⟩ else ⟨"", "", ""⟩))) else
       (bif Nat.blt m 200 then (bif Nat.beq m 199 then ⟨"BackwardProofs", "restore", "(I)I"⟩ else ⟨"", "", ""⟩) else
        (bif Nat.blt m 201 then (bif Nat.beq m 200 then ⟨"BackwardProofs", "requireSlot", "(I)V"⟩ else ⟨"", "", ""⟩) else
         (bif Nat.beq m 201 then ⟨"BackwardProofs", "undo", "()I"⟩ else ⟨"", "", ""⟩)))) else
      (bif Nat.blt m 205 then (bif Nat.blt m 203 then (bif Nat.beq m 202 then ⟨"BackwardProofs", "save", "(I)I"⟩ else ⟨"", "", ""⟩) else
        (bif Nat.blt m 204 then (bif Nat.beq m 203 then ⟨"BackwardProofsModel", "<init>", "()V"⟩ else ⟨"", "", ""⟩) else
         (bif Nat.beq m 204 then ⟨"BackwardProofsModel", "form", "(IIII)V"⟩ else ⟨"", "", ""⟩))) else
       (bif Nat.blt m 206 then (bif Nat.beq m 205 then ⟨"BackwardProofsModel", "comes", "(I)I"⟩ else ⟨"", "", ""⟩) else
        (bif Nat.blt m 207 then (bif Nat.beq m 206 then ⟨"BackwardProofsModel", "manyOf", "(I)I"⟩ else ⟨"", "", ""⟩) else
         (bif Nat.beq m 207 then ⟨"BackwardProofsModel", "s", "(II)I"⟩ else ⟨"", "", ""⟩))))) else
     (bif Nat.blt m 214 then (bif Nat.blt m 211 then (bif Nat.blt m 209 then (bif Nat.beq m 208 then ⟨"BackwardProofsModel", "thrown", "()I"⟩ else ⟨"", "", ""⟩) else
        (bif Nat.blt m 210 then (bif Nat.beq m 209 then ⟨"BackwardProofsModel", "feed", "(IIIII)I"⟩ else ⟨"", "", ""⟩) else
         (bif Nat.beq m 210 then ⟨"BackwardProofsModel", "refuse", "(I)I"⟩ else ⟨"", "", ""⟩))) else
       (bif Nat.blt m 212 then (bif Nat.beq m 211 then ⟨"BackwardProofsModel", "feeds", "(I)V"⟩ else ⟨"", "", ""⟩) else
        (bif Nat.blt m 213 then (bif Nat.beq m 212 then ⟨"BackwardProofsModel", "told", "(I)I"⟩ else ⟨"", "", ""⟩) else
         (bif Nat.beq m 213 then ⟨"BackwardProofsModel", "load", "(I)I"⟩ else ⟨"", "", ""⟩)))) else
      (bif Nat.blt m 217 then (bif Nat.blt m 215 then (bif Nat.beq m 214 then ⟨"BackwardProofsModel", "in", "(III)Z"⟩ else ⟨"", "", ""⟩) else
        (bif Nat.blt m 216 then (bif Nat.beq m 215 then ⟨"BackwardProofsModel", "putsAside", "()V"⟩ else ⟨"", "", ""⟩) else
         (bif Nat.beq m 216 then ⟨"BackwardProofsModel", "readsText", "(I)V"⟩ else ⟨"", "", ""⟩))) else
       (bif Nat.blt m 218 then (bif Nat.beq m 217 then ⟨"BackwardProofsModel", "begins", "(I)V"⟩ else ⟨"", "", ""⟩) else
        (bif Nat.blt m 219 then (bif Nat.beq m 218 then ⟨"BackwardProofsModel", "advances", "()V"⟩ else ⟨"", "", ""⟩) else
         (bif Nat.beq m 219 then ⟨"BackwardProofsModel", "isLetter", "(I)Z"⟩ else ⟨"", "", ""⟩)))))) else
    (bif Nat.blt m 232 then (bif Nat.blt m 226 then (bif Nat.blt m 223 then (bif Nat.blt m 221 then (bif Nat.beq m 220 then ⟨"BackwardProofsModel", "isDigit", "(I)Z"⟩ else ⟨"", "", ""⟩) else
        (bif Nat.blt m 222 then (bif Nat.beq m 221 then ⟨"BackwardProofsModel", "takesKey", "(I)V"⟩ else ⟨"", "", ""⟩) else
         (bif Nat.beq m 222 then ⟨"BackwardProofsModel", "isKey", "(I)Z"⟩ else ⟨"", "", ""⟩))) else
       (bif Nat.blt m 224 then (bif Nat.beq m 223 then ⟨"BackwardProofsModel", "errs", "(I)V"⟩ else ⟨"", "", ""⟩) else
        (bif Nat.blt m 225 then (bif Nat.beq m 224 then ⟨"BackwardProofsModel", "readsForm", "(II)V"⟩ else ⟨"", "", ""⟩) else
         (bif Nat.beq m 225 then ⟨"BackwardProofsModel", "nodeHere", "()I"⟩ else ⟨"", "", ""⟩)))) else
      (bif Nat.blt m 229 then (bif Nat.blt m 227 then (bif Nat.beq m 226 then ⟨"BackwardProofsModel", "isCondition", "(I)Z"⟩ else ⟨"", "", ""⟩) else
        (bif Nat.blt m 228 then (bif Nat.beq m 227 then ⟨"BackwardProofsModel", "arity", "(I)I"⟩ else ⟨"", "", ""⟩) else
         (bif Nat.beq m 228 then ⟨"BackwardProofsModel", "beginsStatement", "()Z"⟩ else ⟨"", "", ""⟩))) else
       (bif Nat.blt m 230 then (bif Nat.beq m 229 then ⟨"BackwardProofsModel", "readsStatement", "()V"⟩ else ⟨"", "", ""⟩) else
        (bif Nat.blt m 231 then (bif Nat.beq m 230 then ⟨"BackwardProofsModel", "readsSet", "()V"⟩ else ⟨"", "", ""⟩) else
         (bif Nat.beq m 231 then ⟨"BackwardProofsModel", "variableHere", "()I"⟩ else ⟨"", "", ""⟩))))) else
     (bif Nat.blt m 238 then (bif Nat.blt m 235 then (bif Nat.blt m 233 then (bif Nat.beq m 232 then ⟨"BackwardProofsModel", "readsIf", "()V"⟩ else ⟨"", "", ""⟩) else
        (bif Nat.blt m 234 then (bif Nat.beq m 233 then ⟨"BackwardProofsModel", "opens", "(I)V"⟩ else ⟨"", "", ""⟩) else
         (bif Nat.beq m 234 then ⟨"BackwardProofsModel", "readsWhile", "()V"⟩ else ⟨"", "", ""⟩))) else
       (bif Nat.blt m 236 then (bif Nat.beq m 235 then ⟨"BackwardProofsModel", "closes", "()Z"⟩ else ⟨"", "", ""⟩) else
        (bif Nat.blt m 237 then (bif Nat.beq m 236 then ⟨"BackwardProofsModel", "isInSecond", "(I)Z"⟩ else ⟨"", "", ""⟩) else
         (bif Nat.beq m 237 then ⟨"BackwardProofsModel", "reports", "()V"⟩ else ⟨"", "", ""⟩)))) else
      (bif Nat.blt m 241 then (bif Nat.blt m 239 then (bif Nat.beq m 238 then ⟨"BackwardProofsModel", "putsBack", "()V"⟩ else ⟨"", "", ""⟩) else
        (bif Nat.blt m 240 then (bif Nat.beq m 239 then ⟨"BackwardProofsModel", "errorCode", "()I"⟩ else ⟨"", "", ""⟩) else
         (bif Nat.beq m 240 then ⟨"BackwardProofsModel", "errorPosition", "()I"⟩ else ⟨"", "", ""⟩))) else
       (bif Nat.blt m 243 then (bif Nat.blt m 242 then (bif Nat.beq m 241 then ⟨"BackwardProofsModel", "value", "(I)I"⟩ else ⟨"", "", ""⟩) else
         (bif Nat.beq m 242 then ⟨"BackwardProofsModel", "filledHoles", "()I"⟩ else ⟨"", "", ""⟩)) else
        (bif Nat.blt m 244 then (bif Nat.beq m 243 then ⟨"BackwardProofsModel", "filling", "(I)I"⟩ else ⟨"", "", ""⟩) else
         (bif Nat.beq m 244 then ⟨"BackwardProofsModel", "dutyMany", "()I"⟩ else ⟨"", "", ""⟩))))))) else
   (bif Nat.blt m 269 then (bif Nat.blt m 257 then (bif Nat.blt m 251 then (bif Nat.blt m 248 then (bif Nat.blt m 246 then (bif Nat.beq m 245 then ⟨"BackwardProofsModel", "failsNow", "()I"⟩ else ⟨"", "", ""⟩) else
        (bif Nat.blt m 247 then (bif Nat.beq m 246 then ⟨"BackwardProofsModel", "laysNeeds", "()V"⟩ else ⟨"", "", ""⟩) else
         (bif Nat.beq m 247 then ⟨"BackwardProofsModel", "needOf", "(I)J"⟩ else ⟨"", "", ""⟩))) else
       (bif Nat.blt m 249 then (bif Nat.beq m 248 then ⟨"BackwardProofsModel", "setOf", "(I)J"⟩ else ⟨"", "", ""⟩) else
        (bif Nat.blt m 250 then (bif Nat.beq m 249 then ⟨"BackwardProofsModel", "valueOf", "(II)I"⟩ else ⟨"", "", ""⟩) else
         (bif Nat.beq m 250 then ⟨"BackwardProofsModel", "reckons", "(II)V"⟩ else ⟨"", "", ""⟩)))) else
      (bif Nat.blt m 254 then (bif Nat.blt m 252 then (bif Nat.beq m 251 then ⟨"BackwardProofsModel", "simple", "(II)I"⟩ else ⟨"", "", ""⟩) else
        (bif Nat.blt m 253 then (bif Nat.beq m 252 then ⟨"BackwardProofsModel", "valueIn", "(II)I"⟩ else ⟨"", "", ""⟩) else
         (bif Nat.beq m 253 then ⟨"BackwardProofsModel", "joined", "(III)I"⟩ else ⟨"", "", ""⟩))) else
       (bif Nat.blt m 255 then (bif Nat.beq m 254 then ⟨"BackwardProofsModel", "needBehind", "(I)J"⟩ else ⟨"", "", ""⟩) else
        (bif Nat.blt m 256 then (bif Nat.beq m 255 then ⟨"BackwardProofsModel", "rowNeed", "(IJ)J"⟩ else ⟨"", "", ""⟩) else
         (bif Nat.beq m 256 then ⟨"BackwardProofsModel", "behindIt", "(II)I"⟩ else ⟨"", "", ""⟩))))) else
     (bif Nat.blt m 263 then (bif Nat.blt m 260 then (bif Nat.blt m 258 then (bif Nat.beq m 257 then ⟨"BackwardProofsModel", "changed", "(III)I"⟩ else ⟨"", "", ""⟩) else
        (bif Nat.blt m 259 then (bif Nat.beq m 258 then ⟨"BackwardProofsModel", "fillVariable", "(I)I"⟩ else ⟨"", "", ""⟩) else
         (bif Nat.beq m 259 then ⟨"BackwardProofsModel", "filled", "(II)I"⟩ else ⟨"", "", ""⟩))) else
       (bif Nat.blt m 261 then (bif Nat.beq m 260 then ⟨"BackwardProofsModel", "holds", "(JI)Z"⟩ else ⟨"", "", ""⟩) else
        (bif Nat.blt m 262 then (bif Nat.beq m 261 then ⟨"BackwardProofsModel", "failingNow", "(I)J"⟩ else ⟨"", "", ""⟩) else
         (bif Nat.beq m 262 then ⟨"BackwardProofsModel", "needAheadNow", "()J"⟩ else ⟨"", "", ""⟩)))) else
      (bif Nat.blt m 266 then (bif Nat.blt m 264 then (bif Nat.beq m 263 then ⟨"BackwardProofsModel", "loopAt", "(I)I"⟩ else ⟨"", "", ""⟩) else
        (bif Nat.blt m 265 then (bif Nat.beq m 264 then ⟨"BackwardProofsModel", "numbered", "(II)I"⟩ else ⟨"", "", ""⟩) else
         (bif Nat.beq m 265 then ⟨"BackwardProofsModel", "unlessened", "(IJ)J"⟩ else ⟨"", "", ""⟩))) else
       (bif Nat.blt m 267 then (bif Nat.beq m 266 then ⟨"BackwardProofsModel", "lessens", "(II)Z"⟩ else ⟨"", "", ""⟩) else
        (bif Nat.blt m 268 then (bif Nat.beq m 267 then ⟨"BackwardProofsModel", "runsRow", "(II)Z"⟩ else ⟨"", "", ""⟩) else
         (bif Nat.beq m 268 then ⟨"BackwardProofsModel", "beginsRun", "(II)V"⟩ else ⟨"", "", ""⟩)))))) else
    (bif Nat.blt m 281 then (bif Nat.blt m 275 then (bif Nat.blt m 272 then (bif Nat.blt m 270 then (bif Nat.beq m 269 then ⟨"BackwardProofsModel", "goesThrough", "(II)V"⟩ else ⟨"", "", ""⟩) else
        (bif Nat.blt m 271 then (bif Nat.beq m 270 then ⟨"BackwardProofsModel", "stepsOn", "(II)Z"⟩ else ⟨"", "", ""⟩) else
         (bif Nat.beq m 271 then ⟨"BackwardProofsModel", "looksAt", "(III)Z"⟩ else ⟨"", "", ""⟩))) else
       (bif Nat.blt m 273 then (bif Nat.beq m 272 then ⟨"BackwardProofsModel", "counts", "()V"⟩ else ⟨"", "", ""⟩) else
        (bif Nat.blt m 274 then (bif Nat.beq m 273 then ⟨"BackwardProofsModel", "entersRow", "(II)V"⟩ else ⟨"", "", ""⟩) else
         (bif Nat.beq m 274 then ⟨"BackwardProofsModel", "goesBehind", "(II)V"⟩ else ⟨"", "", ""⟩)))) else
      (bif Nat.blt m 278 then (bif Nat.blt m 276 then (bif Nat.beq m 275 then ⟨"BackwardProofsModel", "isProven", "()Z"⟩ else ⟨"", "", ""⟩) else
        (bif Nat.blt m 277 then (bif Nat.beq m 276 then ⟨"BackwardProofsModel", "statement", "(II)I"⟩ else ⟨"", "", ""⟩) else
         (bif Nat.beq m 277 then ⟨"BackwardProofsModel", "isStatement", "(I)Z"⟩ else ⟨"", "", ""⟩))) else
       (bif Nat.blt m 279 then (bif Nat.beq m 278 then ⟨"BackwardProofsModel", "variableOf", "(I)I"⟩ else ⟨"", "", ""⟩) else
        (bif Nat.blt m 280 then (bif Nat.beq m 279 then ⟨"BackwardProofsModel", "nodesOf", "(I)I"⟩ else ⟨"", "", ""⟩) else
         (bif Nat.beq m 280 then ⟨"BackwardProofsModel", "before", "()J"⟩ else ⟨"", "", ""⟩))))) else
     (bif Nat.blt m 287 then (bif Nat.blt m 284 then (bif Nat.blt m 282 then (bif Nat.beq m 281 then ⟨"BackwardProofsModel", "toldSet", "(J)J"⟩ else ⟨"", "", ""⟩) else
        (bif Nat.blt m 283 then (bif Nat.beq m 282 then ⟨"BackwardProofsModel", "after", "()J"⟩ else ⟨"", "", ""⟩) else
         (bif Nat.beq m 283 then ⟨"BackwardProofsModel", "loopSet", "(II)J"⟩ else ⟨"", "", ""⟩))) else
       (bif Nat.blt m 285 then (bif Nat.beq m 284 then ⟨"BackwardProofsModel", "noSet", "()J"⟩ else ⟨"", "", ""⟩) else
        (bif Nat.blt m 286 then (bif Nat.beq m 285 then ⟨"BackwardProofsModel", "less", "(II)I"⟩ else ⟨"", "", ""⟩) else
         (bif Nat.beq m 286 then ⟨"BackwardProofsModel", "isState", "(I)Z"⟩ else ⟨"", "", ""⟩)))) else
      (bif Nat.blt m 290 then (bif Nat.blt m 288 then (bif Nat.beq m 287 then ⟨"BackwardProofsModel", "need", "(I)J"⟩ else ⟨"", "", ""⟩) else
        (bif Nat.blt m 289 then (bif Nat.beq m 288 then ⟨"BackwardProofsModel", "needAhead", "()J"⟩ else ⟨"", "", ""⟩) else
         (bif Nat.beq m 289 then ⟨"BackwardProofsModel", "duty", "(II)I"⟩ else ⟨"", "", ""⟩))) else
       (bif Nat.blt m 292 then (bif Nat.blt m 291 then (bif Nat.beq m 290 then ⟨"BackwardProofsModel", "isDuty", "(I)Z"⟩ else ⟨"", "", ""⟩) else
         (bif Nat.beq m 291 then ⟨"BackwardProofsModel", "ones", "(J)I"⟩ else ⟨"", "", ""⟩)) else
        (bif Nat.blt m 293 then (bif Nat.beq m 292 then ⟨"BackwardProofsModel", "leastOf", "(J)I"⟩ else ⟨"", "", ""⟩) else
         (bif Nat.beq m 293 then ⟨"BackwardProofsModel", "failing", "(I)J"⟩ else ⟨"", "", ""⟩)))))))) else
  (bif Nat.blt m 343 then (bif Nat.blt m 318 then (bif Nat.blt m 306 then (bif Nat.blt m 300 then (bif Nat.blt m 297 then (bif Nat.blt m 295 then (bif Nat.beq m 294 then ⟨"BackwardProofsModel", "trouble", "()I"⟩ else ⟨"", "", ""⟩) else
        (bif Nat.blt m 296 then (bif Nat.beq m 295 then ⟨"BackwardProofsModel", "run", "(I)I"⟩ else ⟨"", "", ""⟩) else
         (bif Nat.beq m 296 then ⟨"BackwardProofsModel", "runsFrom", "(I)Z"⟩ else ⟨"", "", ""⟩))) else
       (bif Nat.blt m 298 then (bif Nat.beq m 297 then ⟨"BackwardProofsModel", "steps", "(I)I"⟩ else ⟨"", "", ""⟩) else
        (bif Nat.blt m 299 then (bif Nat.beq m 298 then ⟨"BackwardProofsModel", "cost", "(I)F"⟩ else ⟨"", "", ""⟩) else
         (bif Nat.beq m 299 then ⟨"BackwardProofsModel", "costBits", "(I)I"⟩ else ⟨"", "", ""⟩)))) else
      (bif Nat.blt m 303 then (bif Nat.blt m 301 then (bif Nat.beq m 300 then ⟨"BackwardProofsModel", "met", "(I)J"⟩ else ⟨"", "", ""⟩) else
        (bif Nat.blt m 302 then (bif Nat.beq m 301 then ⟨"BackwardProofsModel", "forgetsMet", "()V"⟩ else ⟨"", "", ""⟩) else
         (bif Nat.beq m 302 then ⟨"BackwardProofsModel", "isBefore", "(I)Z"⟩ else ⟨"", "", ""⟩))) else
       (bif Nat.blt m 304 then (bif Nat.beq m 303 then ⟨"BackwardProofsModel", "rounds", "(I)I"⟩ else ⟨"", "", ""⟩) else
        (bif Nat.blt m 305 then (bif Nat.beq m 304 then ⟨"BackwardProofsModel", "wrong", "()J"⟩ else ⟨"", "", ""⟩) else
         (bif Nat.beq m 305 then ⟨"BackwardProofsModel", "wrongNow", "()J"⟩ else ⟨"", "", ""⟩))))) else
     (bif Nat.blt m 312 then (bif Nat.blt m 309 then (bif Nat.blt m 307 then (bif Nat.beq m 306 then ⟨"BackwardProofsModel", "isWrong", "(I)Z"⟩ else ⟨"", "", ""⟩) else
        (bif Nat.blt m 308 then (bif Nat.beq m 307 then ⟨"BackwardProofsModel", "dearest", "()I"⟩ else ⟨"", "", ""⟩) else
         (bif Nat.beq m 308 then ⟨"BackwardProofsModel", "meanCost", "()D"⟩ else ⟨"", "", ""⟩))) else
       (bif Nat.blt m 310 then (bif Nat.beq m 309 then ⟨"BackwardProofsModel", "meanNow", "()D"⟩ else ⟨"", "", ""⟩) else
        (bif Nat.blt m 311 then (bif Nat.beq m 310 then ⟨"BackwardProofsModel", "meanBits", "()J"⟩ else ⟨"", "", ""⟩) else
         (bif Nat.beq m 311 then ⟨"BackwardProofsModel", "share", "()F"⟩ else ⟨"", "", ""⟩)))) else
      (bif Nat.blt m 315 then (bif Nat.blt m 313 then (bif Nat.beq m 312 then ⟨"BackwardProofsModel", "proves", "(I)I"⟩ else ⟨"", "", ""⟩) else
        (bif Nat.blt m 314 then (bif Nat.beq m 313 then ⟨"BackwardProofsModel", "holeAt", "(I)I"⟩ else ⟨"", "", ""⟩) else
         (bif Nat.beq m 314 then ⟨"BackwardProofsModel", "rights", "(I)I"⟩ else ⟨"", "", ""⟩))) else
       (bif Nat.blt m 316 then (bif Nat.beq m 315 then ⟨"BackwardProofsModel", "safe", "(I)J"⟩ else ⟨"", "", ""⟩) else
        (bif Nat.blt m 317 then (bif Nat.beq m 316 then ⟨"BackwardProofsModel", "safeNow", "(I)J"⟩ else ⟨"", "", ""⟩) else
         (bif Nat.beq m 317 then ⟨"BackwardProofsModel", "runsLoop", "(II)Z"⟩ else ⟨"", "", ""⟩)))))) else
    (bif Nat.blt m 330 then (bif Nat.blt m 324 then (bif Nat.blt m 321 then (bif Nat.blt m 319 then (bif Nat.beq m 318 then ⟨"BackwardProofsModel", ("uns" ++ "afe"), "(I)J"⟩ else ⟨"", "", ""⟩) else
        (bif Nat.blt m 320 then (bif Nat.beq m 319 then ⟨"BackwardProofsModel", "writeNeed", "(I)I"⟩ else ⟨"", "", ""⟩) else
         (bif Nat.beq m 320 then ⟨"BackwardProofsModel", "writesNeeds", "()V"⟩ else ⟨"", "", ""⟩))) else
       (bif Nat.blt m 322 then (bif Nat.beq m 321 then ⟨"BackwardProofsModel", "draftsNeed", "(I)V"⟩ else ⟨"", "", ""⟩) else
        (bif Nat.blt m 323 then (bif Nat.beq m 322 then ⟨"BackwardProofsModel", "draftsForm", "(I)V"⟩ else ⟨"", "", ""⟩) else
         (bif Nat.beq m 323 then ⟨"BackwardProofsModel", "drafts", "(I)V"⟩ else ⟨"", "", ""⟩)))) else
      (bif Nat.blt m 327 then (bif Nat.blt m 325 then (bif Nat.beq m 324 then ⟨"BackwardProofsModel", "draftsRow", "(II)V"⟩ else ⟨"", "", ""⟩) else
        (bif Nat.blt m 326 then (bif Nat.beq m 325 then ⟨"BackwardProofsModel", "draftsBehind", "(II)V"⟩ else ⟨"", "", ""⟩) else
         (bif Nat.beq m 326 then ⟨"BackwardProofsModel", "draftsFormBy", "(II)V"⟩ else ⟨"", "", ""⟩))) else
       (bif Nat.blt m 328 then (bif Nat.beq m 327 then ⟨"BackwardProofsModel", "draftsNode", "(II)V"⟩ else ⟨"", "", ""⟩) else
        (bif Nat.blt m 329 then (bif Nat.beq m 328 then ⟨"BackwardProofsModel", "swappedBy", "(I)I"⟩ else ⟨"", "", ""⟩) else
         (bif Nat.beq m 329 then ⟨"BackwardProofsModel", "draftsSwap", "(I)V"⟩ else ⟨"", "", ""⟩))))) else
     (bif Nat.blt m 336 then (bif Nat.blt m 333 then (bif Nat.blt m 331 then (bif Nat.beq m 330 then ⟨"BackwardProofsModel", "draftsWrittenBy", "(II)V"⟩ else ⟨"", "", ""⟩) else
        (bif Nat.blt m 332 then (bif Nat.beq m 331 then ⟨"BackwardProofsModel", "draftsWritten", "(I)V"⟩ else ⟨"", "", ""⟩) else
         (bif Nat.beq m 332 then ⟨"BackwardProofsModel", "writes", "(I)V"⟩ else ⟨"", "", ""⟩))) else
       (bif Nat.blt m 334 then (bif Nat.beq m 333 then ⟨"BackwardProofsModel", "writesNode", "(I)V"⟩ else ⟨"", "", ""⟩) else
        (bif Nat.blt m 335 then (bif Nat.beq m 334 then ⟨"BackwardProofsModel", "outputByte", "(I)I"⟩ else ⟨"", "", ""⟩) else
         (bif Nat.beq m 335 then ⟨"BackwardProofsModel", "needNodes", "(I)I"⟩ else ⟨"", "", ""⟩)))) else
      (bif Nat.blt m 339 then (bif Nat.blt m 337 then (bif Nat.beq m 336 then ⟨"BackwardProofsModel", "gap", "(I)I"⟩ else ⟨"", "", ""⟩) else
        (bif Nat.blt m 338 then (bif Nat.beq m 337 then ⟨"BackwardProofsModel", "writtenValue", "(II)I"⟩ else ⟨"", "", ""⟩) else
         (bif Nat.beq m 338 then ⟨"BackwardProofsModel", "setBefore", "(I)I"⟩ else ⟨"", "", ""⟩))) else
       (bif Nat.blt m 341 then (bif Nat.blt m 340 then (bif Nat.beq m 339 then ⟨"BackwardProofsModel", "isLength", "(I)Z"⟩ else ⟨"", "", ""⟩) else
         (bif Nat.beq m 340 then ⟨"BackwardProofsModel", "setsForm", "(III)Z"⟩ else ⟨"", "", ""⟩)) else
        (bif Nat.blt m 342 then (bif Nat.beq m 341 then ⟨"BackwardProofsModel", "remembers", "()V"⟩ else ⟨"", "", ""⟩) else
         (bif Nat.beq m 342 then ⟨"BackwardProofsModel", "setAfter", "(I)I"⟩ else ⟨"", "", ""⟩))))))) else
   (bif Nat.blt m 368 then (bif Nat.blt m 355 then (bif Nat.blt m 349 then (bif Nat.blt m 346 then (bif Nat.blt m 344 then (bif Nat.beq m 343 then ⟨"BackwardProofsModel", "setKeep", "(II)I"⟩ else ⟨"", "", ""⟩) else
        (bif Nat.blt m 345 then (bif Nat.beq m 344 then ⟨"BackwardProofsModel", "setLess", "(II)I"⟩ else ⟨"", "", ""⟩) else
         (bif Nat.beq m 345 then ⟨"BackwardProofsModel", "fill", "(II)I"⟩ else ⟨"", "", ""⟩))) else
       (bif Nat.blt m 347 then (bif Nat.beq m 346 then ⟨"BackwardProofsModel", "setPrice", "(II)I"⟩ else ⟨"", "", ""⟩) else
        (bif Nat.blt m 348 then (bif Nat.beq m 347 then ⟨"BackwardProofsModel", "restore", "(I)I"⟩ else ⟨"", "", ""⟩) else
         (bif Nat.beq m 348 then ⟨"BackwardProofsModel", "undo", "()I"⟩ else ⟨"", "", ""⟩)))) else
      (bif Nat.blt m 352 then (bif Nat.blt m 350 then (bif Nat.beq m 349 then ⟨"BackwardProofsModel", "save", "(I)I"⟩ else ⟨"", "", ""⟩) else
        (bif Nat.blt m 351 then (bif Nat.beq m 350 then ⟨"BackwardProofsLaw", "feed", "(LBackwardProofs;IIIII[J)I"⟩ else ⟨"", "", ""⟩) else
         (bif Nat.beq m 351 then ⟨"BackwardProofsLaw", "load", "(LBackwardProofs;I[J)I"⟩ else ⟨"", "", ""⟩))) else
       (bif Nat.blt m 353 then (bif Nat.beq m 352 then ⟨"BackwardProofsLaw", "value", "(LBackwardProofs;I[J)I"⟩ else ⟨"", "", ""⟩) else
        (bif Nat.blt m 354 then (bif Nat.beq m 353 then ⟨"BackwardProofsLaw", "statement", "(LBackwardProofs;II[J)I"⟩ else ⟨"", "", ""⟩) else
         (bif Nat.beq m 354 then ⟨"BackwardProofsLaw", "loopSet", "(LBackwardProofs;II[J)I"⟩ else ⟨"", "", ""⟩))))) else
     (bif Nat.blt m 361 then (bif Nat.blt m 358 then (bif Nat.blt m 356 then (bif Nat.beq m 355 then ⟨"BackwardProofsLaw", "less", "(LBackwardProofs;II[J)I"⟩ else ⟨"", "", ""⟩) else
        (bif Nat.blt m 357 then (bif Nat.beq m 356 then ⟨"BackwardProofsLaw", "need", "(LBackwardProofs;I[J)I"⟩ else ⟨"", "", ""⟩) else
         (bif Nat.beq m 357 then ⟨"BackwardProofsLaw", "duty", "(LBackwardProofs;II[J)I"⟩ else ⟨"", "", ""⟩))) else
       (bif Nat.blt m 359 then (bif Nat.beq m 358 then ⟨"BackwardProofsLaw", "failing", "(LBackwardProofs;I[J)I"⟩ else ⟨"", "", ""⟩) else
        (bif Nat.blt m 360 then (bif Nat.beq m 359 then ⟨"BackwardProofsLaw", "run", "(LBackwardProofs;I[J)I"⟩ else ⟨"", "", ""⟩) else
         (bif Nat.beq m 360 then ⟨"BackwardProofsLaw", "steps", "(LBackwardProofs;I[J)I"⟩ else ⟨"", "", ""⟩)))) else
      (bif Nat.blt m 364 then (bif Nat.blt m 362 then (bif Nat.beq m 361 then ⟨"BackwardProofsLaw", "cost", "(LBackwardProofs;I[D)I"⟩ else ⟨"", "", ""⟩) else
        (bif Nat.blt m 363 then (bif Nat.beq m 362 then ⟨"BackwardProofsLaw", "costBits", "(LBackwardProofs;I[J)I"⟩ else ⟨"", "", ""⟩) else
         (bif Nat.beq m 363 then ⟨"BackwardProofsLaw", "met", "(LBackwardProofs;I[J)I"⟩ else ⟨"", "", ""⟩))) else
       (bif Nat.blt m 366 then (bif Nat.blt m 365 then (bif Nat.beq m 364 then ⟨"BackwardProofsLaw", "rounds", "(LBackwardProofs;I[J)I"⟩ else ⟨"", "", ""⟩) else
         (bif Nat.beq m 365 then ⟨"BackwardProofsLaw", "proves", "(LBackwardProofs;I[J)I"⟩ else ⟨"", "", ""⟩)) else
        (bif Nat.blt m 367 then (bif Nat.beq m 366 then ⟨"BackwardProofsLaw", "rights", "(LBackwardProofs;I[J)I"⟩ else ⟨"", "", ""⟩) else
         (bif Nat.beq m 367 then ⟨"BackwardProofsLaw", "safe", "(LBackwardProofs;I[J)I"⟩ else ⟨"", "", ""⟩)))))) else
    (bif Nat.blt m 380 then (bif Nat.blt m 374 then (bif Nat.blt m 371 then (bif Nat.blt m 369 then (bif Nat.beq m 368 then ⟨"BackwardProofsLaw", ("uns" ++ "afe"), "(LBackwardProofs;I[J)I"⟩ else ⟨"", "", ""⟩) else
        (bif Nat.blt m 370 then (bif Nat.beq m 369 then ⟨"BackwardProofsLaw", "writeNeed", "(LBackwardProofs;I[J)I"⟩ else ⟨"", "", ""⟩) else
         (bif Nat.beq m 370 then ⟨"BackwardProofsLaw", "outputByte", "(LBackwardProofs;I[J)I"⟩ else ⟨"", "", ""⟩))) else
       (bif Nat.blt m 372 then (bif Nat.beq m 371 then ⟨"BackwardProofsLaw", "needNodes", "(LBackwardProofs;I[J)I"⟩ else ⟨"", "", ""⟩) else
        (bif Nat.blt m 373 then (bif Nat.beq m 372 then ⟨"BackwardProofsLaw", "gap", "(LBackwardProofs;I[J)I"⟩ else ⟨"", "", ""⟩) else
         (bif Nat.beq m 373 then ⟨"BackwardProofsLaw", "setBefore", "(LBackwardProofs;I[J)I"⟩ else ⟨"", "", ""⟩)))) else
      (bif Nat.blt m 377 then (bif Nat.blt m 375 then (bif Nat.beq m 374 then ⟨"BackwardProofsLaw", "setAfter", "(LBackwardProofs;I[J)I"⟩ else ⟨"", "", ""⟩) else
        (bif Nat.blt m 376 then (bif Nat.beq m 375 then ⟨"BackwardProofsLaw", "setKeep", "(LBackwardProofs;II[J)I"⟩ else ⟨"", "", ""⟩) else
         (bif Nat.beq m 376 then ⟨"BackwardProofsLaw", "setLess", "(LBackwardProofs;II[J)I"⟩ else ⟨"", "", ""⟩))) else
       (bif Nat.blt m 378 then (bif Nat.beq m 377 then ⟨"BackwardProofsLaw", "fill", "(LBackwardProofs;II[J)I"⟩ else ⟨"", "", ""⟩) else
        (bif Nat.blt m 379 then (bif Nat.beq m 378 then ⟨"BackwardProofsLaw", "setPrice", "(LBackwardProofs;II[J)I"⟩ else ⟨"", "", ""⟩) else
         (bif Nat.beq m 379 then ⟨"BackwardProofsLaw", "restore", "(LBackwardProofs;I[J)I"⟩ else ⟨"", "", ""⟩))))) else
     (bif Nat.blt m 386 then (bif Nat.blt m 383 then (bif Nat.blt m 381 then (bif Nat.beq m 380 then ⟨"BackwardProofsLaw", "undo", "(LBackwardProofs;[J)I"⟩ else ⟨"", "", ""⟩) else
        (bif Nat.blt m 382 then (bif Nat.beq m 381 then ⟨"BackwardProofsLaw", "save", "(LBackwardProofs;I[J)I"⟩ else ⟨"", "", ""⟩) else
         (bif Nat.beq m 382 then ⟨"java/lang/Math", "max", "(II)I"⟩ else ⟨"", "", ""⟩))) else
       (bif Nat.blt m 384 then (bif Nat.beq m 383 then ⟨"java/lang/Math", "min", "(II)I"⟩ else ⟨"", "", ""⟩) else
        (bif Nat.blt m 385 then (bif Nat.beq m 384 then ⟨"java/lang/Math", "floorMod", "(II)I"⟩ else ⟨"", "", ""⟩) else
         (bif Nat.beq m 385 then ⟨"java/lang/Long", "bitCount", "(J)I"⟩ else ⟨"", "", ""⟩)))) else
      (bif Nat.blt m 389 then (bif Nat.blt m 387 then (bif Nat.beq m 386 then ⟨"java/util/Arrays", "fill", "([JJ)V"⟩ else ⟨"", "", ""⟩) else
        (bif Nat.blt m 388 then (bif Nat.beq m 387 then ⟨"java/util/Arrays", "fill", "([II)V"⟩ else ⟨"", "", ""⟩) else
         (bif Nat.beq m 388 then ⟨"java/lang/Float", "floatToIntBits", "(F)I"⟩ else ⟨"", "", ""⟩))) else
       (bif Nat.blt m 391 then (bif Nat.blt m 390 then (bif Nat.beq m 389 then ⟨"java/lang/Float", "isNaN", "(F)Z"⟩ else ⟨"", "", ""⟩) else
         (bif Nat.beq m 390 then ⟨"java/lang/Double", "doubleToLongBits", "(D)J"⟩ else ⟨"", "", ""⟩)) else
        (bif Nat.blt m 392 then (bif Nat.beq m 391 then ⟨"java/lang/Double", "isNaN", "(D)Z"⟩ else ⟨"", "", ""⟩) else
         (bif Nat.beq m 392 then ⟨"BackwardProofsLaw", "law", "([I)Z"⟩ else ⟨"", "", ""⟩))))))))))
noncomputable def zbytes (m : Nat) : ByteArray :=
 (bif Nat.blt m 196 then (bif Nat.blt m 98 then (bif Nat.blt m 49 then (bif Nat.blt m 24 then (bif Nat.blt m 12 then (bif Nat.blt m 6 then (bif Nat.blt m 3 then (bif Nat.blt m 1 then (bif Nat.beq m 0 then prog_2_method_1_code else ⟨#[]⟩) else
        (bif Nat.blt m 2 then (bif Nat.beq m 1 then prog_2_method_2_code else ⟨#[]⟩) else
         (bif Nat.beq m 2 then prog_2_method_3_code else ⟨#[]⟩))) else
       (bif Nat.blt m 4 then (bif Nat.beq m 3 then prog_2_method_6_code else ⟨#[]⟩) else
        (bif Nat.blt m 5 then (bif Nat.beq m 4 then prog_2_method_7_code else ⟨#[]⟩) else
         (bif Nat.beq m 5 then prog_2_method_8_code else ⟨#[]⟩)))) else
      (bif Nat.blt m 9 then (bif Nat.blt m 7 then (bif Nat.beq m 6 then prog_2_method_9_code else ⟨#[]⟩) else
        (bif Nat.blt m 8 then (bif Nat.beq m 7 then prog_2_method_4_code else ⟨#[]⟩) else
         (bif Nat.beq m 8 then prog_2_method_5_code else ⟨#[]⟩))) else
       (bif Nat.blt m 10 then (bif Nat.beq m 9 then prog_2_method_12_code else ⟨#[]⟩) else
        (bif Nat.blt m 11 then (bif Nat.beq m 10 then prog_2_method_11_code else ⟨#[]⟩) else
         (bif Nat.beq m 11 then prog_2_method_13_code else ⟨#[]⟩))))) else
     (bif Nat.blt m 18 then (bif Nat.blt m 15 then (bif Nat.blt m 13 then (bif Nat.beq m 12 then prog_2_method_10_code else ⟨#[]⟩) else
        (bif Nat.blt m 14 then (bif Nat.beq m 13 then prog_3_method_1_code else ⟨#[]⟩) else
         (bif Nat.beq m 14 then prog_3_method_2_code else ⟨#[]⟩))) else
       (bif Nat.blt m 16 then (bif Nat.beq m 15 then prog_4_method_1_code else ⟨#[]⟩) else
        (bif Nat.blt m 17 then (bif Nat.beq m 16 then prog_4_method_2_code else ⟨#[]⟩) else
         (bif Nat.beq m 17 then prog_4_method_3_code else ⟨#[]⟩)))) else
      (bif Nat.blt m 21 then (bif Nat.blt m 19 then (bif Nat.beq m 18 then prog_4_method_5_code else ⟨#[]⟩) else
        (bif Nat.blt m 20 then (bif Nat.beq m 19 then prog_4_method_7_code else ⟨#[]⟩) else
         (bif Nat.beq m 20 then prog_4_method_4_code else ⟨#[]⟩))) else
       (bif Nat.blt m 22 then (bif Nat.beq m 21 then prog_4_method_6_code else ⟨#[]⟩) else
        (bif Nat.blt m 23 then (bif Nat.beq m 22 then prog_4_method_8_code else ⟨#[]⟩) else
         (bif Nat.beq m 23 then prog_5_method_1_code else ⟨#[]⟩)))))) else
    (bif Nat.blt m 36 then (bif Nat.blt m 30 then (bif Nat.blt m 27 then (bif Nat.blt m 25 then (bif Nat.beq m 24 then prog_5_method_2_code else ⟨#[]⟩) else
        (bif Nat.blt m 26 then (bif Nat.beq m 25 then prog_5_method_4_code else ⟨#[]⟩) else
         (bif Nat.beq m 26 then prog_5_method_6_code else ⟨#[]⟩))) else
       (bif Nat.blt m 28 then (bif Nat.beq m 27 then prog_5_method_5_code else ⟨#[]⟩) else
        (bif Nat.blt m 29 then (bif Nat.beq m 28 then prog_5_method_11_code else ⟨#[]⟩) else
         (bif Nat.beq m 29 then prog_5_method_12_code else ⟨#[]⟩)))) else
      (bif Nat.blt m 33 then (bif Nat.blt m 31 then (bif Nat.beq m 30 then prog_5_method_7_code else ⟨#[]⟩) else
        (bif Nat.blt m 32 then (bif Nat.beq m 31 then prog_5_method_9_code else ⟨#[]⟩) else
         (bif Nat.beq m 32 then prog_5_method_10_code else ⟨#[]⟩))) else
       (bif Nat.blt m 34 then (bif Nat.beq m 33 then prog_5_method_8_code else ⟨#[]⟩) else
        (bif Nat.blt m 35 then (bif Nat.beq m 34 then prog_5_method_3_code else ⟨#[]⟩) else
         (bif Nat.beq m 35 then prog_6_method_1_code else ⟨#[]⟩))))) else
     (bif Nat.blt m 42 then (bif Nat.blt m 39 then (bif Nat.blt m 37 then (bif Nat.beq m 36 then prog_6_method_4_code else ⟨#[]⟩) else
        (bif Nat.blt m 38 then (bif Nat.beq m 37 then prog_6_method_2_code else ⟨#[]⟩) else
         (bif Nat.beq m 38 then prog_6_method_17_code else ⟨#[]⟩))) else
       (bif Nat.blt m 40 then (bif Nat.beq m 39 then prog_6_method_3_code else ⟨#[]⟩) else
        (bif Nat.blt m 41 then (bif Nat.beq m 40 then prog_6_method_10_code else ⟨#[]⟩) else
         (bif Nat.beq m 41 then prog_6_method_9_code else ⟨#[]⟩)))) else
      (bif Nat.blt m 45 then (bif Nat.blt m 43 then (bif Nat.beq m 42 then prog_6_method_18_code else ⟨#[]⟩) else
        (bif Nat.blt m 44 then (bif Nat.beq m 43 then prog_6_method_19_code else ⟨#[]⟩) else
         (bif Nat.beq m 44 then prog_6_method_20_code else ⟨#[]⟩))) else
       (bif Nat.blt m 47 then (bif Nat.blt m 46 then (bif Nat.beq m 45 then prog_6_method_21_code else ⟨#[]⟩) else
         (bif Nat.beq m 46 then prog_6_method_7_code else ⟨#[]⟩)) else
        (bif Nat.blt m 48 then (bif Nat.beq m 47 then prog_6_method_6_code else ⟨#[]⟩) else
         (bif Nat.beq m 48 then prog_6_method_8_code else ⟨#[]⟩))))))) else
   (bif Nat.blt m 73 then (bif Nat.blt m 61 then (bif Nat.blt m 55 then (bif Nat.blt m 52 then (bif Nat.blt m 50 then (bif Nat.beq m 49 then prog_6_method_22_code else ⟨#[]⟩) else
        (bif Nat.blt m 51 then (bif Nat.beq m 50 then prog_6_method_11_code else ⟨#[]⟩) else
         (bif Nat.beq m 51 then prog_6_method_5_code else ⟨#[]⟩))) else
       (bif Nat.blt m 53 then (bif Nat.beq m 52 then prog_6_method_12_code else ⟨#[]⟩) else
        (bif Nat.blt m 54 then (bif Nat.beq m 53 then prog_6_method_13_code else ⟨#[]⟩) else
         (bif Nat.beq m 54 then prog_6_method_16_code else ⟨#[]⟩)))) else
      (bif Nat.blt m 58 then (bif Nat.blt m 56 then (bif Nat.beq m 55 then prog_6_method_14_code else ⟨#[]⟩) else
        (bif Nat.blt m 57 then (bif Nat.beq m 56 then prog_6_method_15_code else ⟨#[]⟩) else
         (bif Nat.beq m 57 then prog_7_method_1_code else ⟨#[]⟩))) else
       (bif Nat.blt m 59 then (bif Nat.beq m 58 then prog_7_method_2_code else ⟨#[]⟩) else
        (bif Nat.blt m 60 then (bif Nat.beq m 59 then prog_7_method_4_code else ⟨#[]⟩) else
         (bif Nat.beq m 60 then prog_7_method_7_code else ⟨#[]⟩))))) else
     (bif Nat.blt m 67 then (bif Nat.blt m 64 then (bif Nat.blt m 62 then (bif Nat.beq m 61 then prog_7_method_5_code else ⟨#[]⟩) else
        (bif Nat.blt m 63 then (bif Nat.beq m 62 then prog_7_method_3_code else ⟨#[]⟩) else
         (bif Nat.beq m 63 then prog_7_method_6_code else ⟨#[]⟩))) else
       (bif Nat.blt m 65 then (bif Nat.beq m 64 then prog_7_method_20_code else ⟨#[]⟩) else
        (bif Nat.blt m 66 then (bif Nat.beq m 65 then prog_7_method_8_code else ⟨#[]⟩) else
         (bif Nat.beq m 66 then prog_7_method_21_code else ⟨#[]⟩)))) else
      (bif Nat.blt m 70 then (bif Nat.blt m 68 then (bif Nat.beq m 67 then prog_7_method_9_code else ⟨#[]⟩) else
        (bif Nat.blt m 69 then (bif Nat.beq m 68 then prog_7_method_13_code else ⟨#[]⟩) else
         (bif Nat.beq m 69 then prog_7_method_14_code else ⟨#[]⟩))) else
       (bif Nat.blt m 71 then (bif Nat.beq m 70 then prog_7_method_11_code else ⟨#[]⟩) else
        (bif Nat.blt m 72 then (bif Nat.beq m 71 then prog_7_method_10_code else ⟨#[]⟩) else
         (bif Nat.beq m 72 then prog_7_method_12_code else ⟨#[]⟩)))))) else
    (bif Nat.blt m 85 then (bif Nat.blt m 79 then (bif Nat.blt m 76 then (bif Nat.blt m 74 then (bif Nat.beq m 73 then prog_7_method_22_code else ⟨#[]⟩) else
        (bif Nat.blt m 75 then (bif Nat.beq m 74 then prog_7_method_24_code else ⟨#[]⟩) else
         (bif Nat.beq m 75 then prog_7_method_15_code else ⟨#[]⟩))) else
       (bif Nat.blt m 77 then (bif Nat.beq m 76 then prog_7_method_16_code else ⟨#[]⟩) else
        (bif Nat.blt m 78 then (bif Nat.beq m 77 then prog_7_method_23_code else ⟨#[]⟩) else
         (bif Nat.beq m 78 then prog_7_method_18_code else ⟨#[]⟩)))) else
      (bif Nat.blt m 82 then (bif Nat.blt m 80 then (bif Nat.beq m 79 then prog_7_method_19_code else ⟨#[]⟩) else
        (bif Nat.blt m 81 then (bif Nat.beq m 80 then prog_7_method_17_code else ⟨#[]⟩) else
         (bif Nat.beq m 81 then prog_8_method_1_code else ⟨#[]⟩))) else
       (bif Nat.blt m 83 then (bif Nat.beq m 82 then prog_8_method_2_code else ⟨#[]⟩) else
        (bif Nat.blt m 84 then (bif Nat.beq m 83 then prog_8_method_4_code else ⟨#[]⟩) else
         (bif Nat.beq m 84 then prog_8_method_6_code else ⟨#[]⟩))))) else
     (bif Nat.blt m 91 then (bif Nat.blt m 88 then (bif Nat.blt m 86 then (bif Nat.beq m 85 then prog_8_method_11_code else ⟨#[]⟩) else
        (bif Nat.blt m 87 then (bif Nat.beq m 86 then prog_8_method_9_code else ⟨#[]⟩) else
         (bif Nat.beq m 87 then prog_8_method_7_code else ⟨#[]⟩))) else
       (bif Nat.blt m 89 then (bif Nat.beq m 88 then prog_8_method_10_code else ⟨#[]⟩) else
        (bif Nat.blt m 90 then (bif Nat.beq m 89 then prog_8_method_8_code else ⟨#[]⟩) else
         (bif Nat.beq m 90 then prog_8_method_5_code else ⟨#[]⟩)))) else
      (bif Nat.blt m 94 then (bif Nat.blt m 92 then (bif Nat.beq m 91 then prog_8_method_3_code else ⟨#[]⟩) else
        (bif Nat.blt m 93 then (bif Nat.beq m 92 then prog_9_method_1_code else ⟨#[]⟩) else
         (bif Nat.beq m 93 then prog_9_method_2_code else ⟨#[]⟩))) else
       (bif Nat.blt m 96 then (bif Nat.blt m 95 then (bif Nat.beq m 94 then prog_9_method_3_code else ⟨#[]⟩) else
         (bif Nat.beq m 95 then prog_9_method_18_code else ⟨#[]⟩)) else
        (bif Nat.blt m 97 then (bif Nat.beq m 96 then prog_9_method_19_code else ⟨#[]⟩) else
         (bif Nat.beq m 97 then prog_9_method_20_code else ⟨#[]⟩)))))))) else
  (bif Nat.blt m 147 then (bif Nat.blt m 122 then (bif Nat.blt m 110 then (bif Nat.blt m 104 then (bif Nat.blt m 101 then (bif Nat.blt m 99 then (bif Nat.beq m 98 then prog_9_method_21_code else ⟨#[]⟩) else
        (bif Nat.blt m 100 then (bif Nat.beq m 99 then prog_9_method_17_code else ⟨#[]⟩) else
         (bif Nat.beq m 100 then prog_9_method_4_code else ⟨#[]⟩))) else
       (bif Nat.blt m 102 then (bif Nat.beq m 101 then prog_9_method_5_code else ⟨#[]⟩) else
        (bif Nat.blt m 103 then (bif Nat.beq m 102 then prog_9_method_10_code else ⟨#[]⟩) else
         (bif Nat.beq m 103 then prog_9_method_9_code else ⟨#[]⟩)))) else
      (bif Nat.blt m 107 then (bif Nat.blt m 105 then (bif Nat.beq m 104 then prog_9_method_14_code else ⟨#[]⟩) else
        (bif Nat.blt m 106 then (bif Nat.beq m 105 then prog_9_method_8_code else ⟨#[]⟩) else
         (bif Nat.beq m 106 then prog_9_method_16_code else ⟨#[]⟩))) else
       (bif Nat.blt m 108 then (bif Nat.beq m 107 then prog_9_method_11_code else ⟨#[]⟩) else
        (bif Nat.blt m 109 then (bif Nat.beq m 108 then prog_9_method_12_code else ⟨#[]⟩) else
         (bif Nat.beq m 109 then prog_9_method_7_code else ⟨#[]⟩))))) else
     (bif Nat.blt m 116 then (bif Nat.blt m 113 then (bif Nat.blt m 111 then (bif Nat.beq m 110 then prog_9_method_15_code else ⟨#[]⟩) else
        (bif Nat.blt m 112 then (bif Nat.beq m 111 then prog_9_method_6_code else ⟨#[]⟩) else
         (bif Nat.beq m 112 then prog_9_method_13_code else ⟨#[]⟩))) else
       (bif Nat.blt m 114 then (bif Nat.beq m 113 then prog_10_method_1_code else ⟨#[]⟩) else
        (bif Nat.blt m 115 then (bif Nat.beq m 114 then prog_10_method_4_code else ⟨#[]⟩) else
         (bif Nat.beq m 115 then prog_10_method_9_code else ⟨#[]⟩)))) else
      (bif Nat.blt m 119 then (bif Nat.blt m 117 then (bif Nat.beq m 116 then prog_10_method_10_code else ⟨#[]⟩) else
        (bif Nat.blt m 118 then (bif Nat.beq m 117 then prog_10_method_2_code else ⟨#[]⟩) else
         (bif Nat.beq m 118 then prog_10_method_11_code else ⟨#[]⟩))) else
       (bif Nat.blt m 120 then (bif Nat.beq m 119 then prog_10_method_6_code else ⟨#[]⟩) else
        (bif Nat.blt m 121 then (bif Nat.beq m 120 then prog_10_method_5_code else ⟨#[]⟩) else
         (bif Nat.beq m 121 then prog_10_method_8_code else ⟨#[]⟩)))))) else
    (bif Nat.blt m 134 then (bif Nat.blt m 128 then (bif Nat.blt m 125 then (bif Nat.blt m 123 then (bif Nat.beq m 122 then prog_10_method_3_code else ⟨#[]⟩) else
        (bif Nat.blt m 124 then (bif Nat.beq m 123 then prog_10_method_7_code else ⟨#[]⟩) else
         (bif Nat.beq m 124 then prog_11_method_1_code else ⟨#[]⟩))) else
       (bif Nat.blt m 126 then (bif Nat.beq m 125 then prog_11_method_8_code else ⟨#[]⟩) else
        (bif Nat.blt m 127 then (bif Nat.beq m 126 then prog_11_method_3_code else ⟨#[]⟩) else
         (bif Nat.beq m 127 then prog_11_method_9_code else ⟨#[]⟩)))) else
      (bif Nat.blt m 131 then (bif Nat.blt m 129 then (bif Nat.beq m 128 then prog_11_method_6_code else ⟨#[]⟩) else
        (bif Nat.blt m 130 then (bif Nat.beq m 129 then prog_11_method_4_code else ⟨#[]⟩) else
         (bif Nat.beq m 130 then prog_11_method_5_code else ⟨#[]⟩))) else
       (bif Nat.blt m 132 then (bif Nat.beq m 131 then prog_11_method_7_code else ⟨#[]⟩) else
        (bif Nat.blt m 133 then (bif Nat.beq m 132 then prog_11_method_12_code else ⟨#[]⟩) else
         (bif Nat.beq m 133 then prog_11_method_10_code else ⟨#[]⟩))))) else
     (bif Nat.blt m 140 then (bif Nat.blt m 137 then (bif Nat.blt m 135 then (bif Nat.beq m 134 then prog_11_method_2_code else ⟨#[]⟩) else
        (bif Nat.blt m 136 then (bif Nat.beq m 135 then prog_11_method_11_code else ⟨#[]⟩) else
         (bif Nat.beq m 136 then prog_12_method_5_code else ⟨#[]⟩))) else
       (bif Nat.blt m 138 then (bif Nat.beq m 137 then prog_12_method_3_code else ⟨#[]⟩) else
        (bif Nat.blt m 139 then (bif Nat.beq m 138 then prog_12_method_2_code else ⟨#[]⟩) else
         (bif Nat.beq m 139 then prog_12_method_4_code else ⟨#[]⟩)))) else
      (bif Nat.blt m 143 then (bif Nat.blt m 141 then (bif Nat.beq m 140 then prog_12_method_7_code else ⟨#[]⟩) else
        (bif Nat.blt m 142 then (bif Nat.beq m 141 then prog_12_method_8_code else ⟨#[]⟩) else
         (bif Nat.beq m 142 then prog_12_method_10_code else ⟨#[]⟩))) else
       (bif Nat.blt m 145 then (bif Nat.blt m 144 then (bif Nat.beq m 143 then prog_12_method_11_code else ⟨#[]⟩) else
         (bif Nat.beq m 144 then prog_12_method_9_code else ⟨#[]⟩)) else
        (bif Nat.blt m 146 then (bif Nat.beq m 145 then prog_12_method_6_code else ⟨#[]⟩) else
         (bif Nat.beq m 146 then prog_1_method_1_code else ⟨#[]⟩))))))) else
   (bif Nat.blt m 171 then (bif Nat.blt m 159 then (bif Nat.blt m 153 then (bif Nat.blt m 150 then (bif Nat.blt m 148 then (bif Nat.beq m 147 then prog_1_method_4_code else ⟨#[]⟩) else
        (bif Nat.blt m 149 then (bif Nat.beq m 148 then prog_1_method_5_code else ⟨#[]⟩) else
         (bif Nat.beq m 149 then prog_1_method_8_code else ⟨#[]⟩))) else
       (bif Nat.blt m 151 then (bif Nat.beq m 150 then prog_1_method_9_code else ⟨#[]⟩) else
        (bif Nat.blt m 152 then (bif Nat.beq m 151 then prog_1_method_13_code else ⟨#[]⟩) else
         (bif Nat.beq m 152 then prog_1_method_16_code else ⟨#[]⟩)))) else
      (bif Nat.blt m 156 then (bif Nat.blt m 154 then (bif Nat.beq m 153 then prog_1_method_23_code else ⟨#[]⟩) else
        (bif Nat.blt m 155 then (bif Nat.beq m 154 then prog_1_method_24_code else ⟨#[]⟩) else
         (bif Nat.beq m 155 then prog_1_method_25_code else ⟨#[]⟩))) else
       (bif Nat.blt m 157 then (bif Nat.beq m 156 then prog_1_method_26_code else ⟨#[]⟩) else
        (bif Nat.blt m 158 then (bif Nat.beq m 157 then prog_1_method_27_code else ⟨#[]⟩) else
         (bif Nat.beq m 158 then prog_1_method_2_code else ⟨#[]⟩))))) else
     (bif Nat.blt m 165 then (bif Nat.blt m 162 then (bif Nat.blt m 160 then (bif Nat.beq m 159 then prog_1_method_45_code else ⟨#[]⟩) else
        (bif Nat.blt m 161 then (bif Nat.beq m 160 then prog_1_method_3_code else ⟨#[]⟩) else
         (bif Nat.beq m 161 then prog_1_method_51_code else ⟨#[]⟩))) else
       (bif Nat.blt m 163 then (bif Nat.beq m 162 then prog_1_method_47_code else ⟨#[]⟩) else
        (bif Nat.blt m 164 then (bif Nat.beq m 163 then prog_1_method_6_code else ⟨#[]⟩) else
         (bif Nat.beq m 164 then prog_1_method_7_code else ⟨#[]⟩)))) else
      (bif Nat.blt m 168 then (bif Nat.blt m 166 then (bif Nat.beq m 165 then prog_1_method_54_code else ⟨#[]⟩) else
        (bif Nat.blt m 167 then (bif Nat.beq m 166 then prog_1_method_48_code else ⟨#[]⟩) else
         (bif Nat.beq m 167 then prog_1_method_10_code else ⟨#[]⟩))) else
       (bif Nat.blt m 169 then (bif Nat.beq m 168 then prog_1_method_55_code else ⟨#[]⟩) else
        (bif Nat.blt m 170 then (bif Nat.beq m 169 then prog_1_method_11_code else ⟨#[]⟩) else
         (bif Nat.beq m 170 then prog_1_method_52_code else ⟨#[]⟩)))))) else
    (bif Nat.blt m 183 then (bif Nat.blt m 177 then (bif Nat.blt m 174 then (bif Nat.blt m 172 then (bif Nat.beq m 171 then prog_1_method_12_code else ⟨#[]⟩) else
        (bif Nat.blt m 173 then (bif Nat.beq m 172 then prog_1_method_14_code else ⟨#[]⟩) else
         (bif Nat.beq m 173 then prog_1_method_57_code else ⟨#[]⟩))) else
       (bif Nat.blt m 175 then (bif Nat.beq m 174 then prog_1_method_15_code else ⟨#[]⟩) else
        (bif Nat.blt m 176 then (bif Nat.beq m 175 then prog_1_method_17_code else ⟨#[]⟩) else
         (bif Nat.beq m 176 then prog_1_method_18_code else ⟨#[]⟩)))) else
      (bif Nat.blt m 180 then (bif Nat.blt m 178 then (bif Nat.beq m 177 then prog_1_method_19_code else ⟨#[]⟩) else
        (bif Nat.blt m 179 then (bif Nat.beq m 178 then prog_1_method_20_code else ⟨#[]⟩) else
         (bif Nat.beq m 179 then prog_1_method_21_code else ⟨#[]⟩))) else
       (bif Nat.blt m 181 then (bif Nat.beq m 180 then prog_1_method_22_code else ⟨#[]⟩) else
        (bif Nat.blt m 182 then (bif Nat.beq m 181 then prog_1_method_28_code else ⟨#[]⟩) else
         (bif Nat.beq m 182 then prog_1_method_56_code else ⟨#[]⟩))))) else
     (bif Nat.blt m 189 then (bif Nat.blt m 186 then (bif Nat.blt m 184 then (bif Nat.beq m 183 then prog_1_method_49_code else ⟨#[]⟩) else
        (bif Nat.blt m 185 then (bif Nat.beq m 184 then prog_1_method_29_code else ⟨#[]⟩) else
         (bif Nat.beq m 185 then prog_1_method_30_code else ⟨#[]⟩))) else
       (bif Nat.blt m 187 then (bif Nat.beq m 186 then prog_1_method_31_code else ⟨#[]⟩) else
        (bif Nat.blt m 188 then (bif Nat.beq m 187 then prog_1_method_32_code else ⟨#[]⟩) else
         (bif Nat.beq m 188 then prog_1_method_50_code else ⟨#[]⟩)))) else
      (bif Nat.blt m 192 then (bif Nat.blt m 190 then (bif Nat.beq m 189 then prog_1_method_33_code else ⟨#[]⟩) else
        (bif Nat.blt m 191 then (bif Nat.beq m 190 then prog_1_method_34_code else ⟨#[]⟩) else
         (bif Nat.beq m 191 then prog_1_method_35_code else ⟨#[]⟩))) else
       (bif Nat.blt m 194 then (bif Nat.blt m 193 then (bif Nat.beq m 192 then prog_1_method_36_code else ⟨#[]⟩) else
         (bif Nat.beq m 193 then prog_1_method_46_code else ⟨#[]⟩)) else
        (bif Nat.blt m 195 then (bif Nat.beq m 194 then prog_1_method_37_code else ⟨#[]⟩) else
         (bif Nat.beq m 195 then prog_1_method_38_code else ⟨#[]⟩))))))))) else
 (bif Nat.blt m 294 then (bif Nat.blt m 245 then (bif Nat.blt m 220 then (bif Nat.blt m 208 then (bif Nat.blt m 202 then (bif Nat.blt m 199 then (bif Nat.blt m 197 then (bif Nat.beq m 196 then prog_1_method_39_code else ⟨#[]⟩) else
        (bif Nat.blt m 198 then (bif Nat.beq m 197 then prog_1_method_40_code else ⟨#[]⟩) else
         (bif Nat.beq m 198 then prog_1_method_41_code else ⟨#[]⟩))) else
       (bif Nat.blt m 200 then (bif Nat.beq m 199 then prog_1_method_42_code else ⟨#[]⟩) else
        (bif Nat.blt m 201 then (bif Nat.beq m 200 then prog_1_method_53_code else ⟨#[]⟩) else
         (bif Nat.beq m 201 then prog_1_method_43_code else ⟨#[]⟩)))) else
      (bif Nat.blt m 205 then (bif Nat.blt m 203 then (bif Nat.beq m 202 then prog_1_method_44_code else ⟨#[]⟩) else
        (bif Nat.blt m 204 then (bif Nat.beq m 203 then prog_14_method_1_code else ⟨#[]⟩) else
         (bif Nat.beq m 204 then prog_14_method_2_code else ⟨#[]⟩))) else
       (bif Nat.blt m 206 then (bif Nat.beq m 205 then prog_14_method_18_code else ⟨#[]⟩) else
        (bif Nat.blt m 207 then (bif Nat.beq m 206 then prog_14_method_14_code else ⟨#[]⟩) else
         (bif Nat.beq m 207 then prog_14_method_12_code else ⟨#[]⟩))))) else
     (bif Nat.blt m 214 then (bif Nat.blt m 211 then (bif Nat.blt m 209 then (bif Nat.beq m 208 then prog_14_method_3_code else ⟨#[]⟩) else
        (bif Nat.blt m 210 then (bif Nat.beq m 209 then prog_14_method_94_code else ⟨#[]⟩) else
         (bif Nat.beq m 210 then prog_14_method_4_code else ⟨#[]⟩))) else
       (bif Nat.blt m 212 then (bif Nat.beq m 211 then prog_14_method_93_code else ⟨#[]⟩) else
        (bif Nat.blt m 213 then (bif Nat.beq m 212 then prog_14_method_5_code else ⟨#[]⟩) else
         (bif Nat.beq m 213 then prog_14_method_95_code else ⟨#[]⟩)))) else
      (bif Nat.blt m 217 then (bif Nat.blt m 215 then (bif Nat.beq m 214 then prog_14_method_8_code else ⟨#[]⟩) else
        (bif Nat.blt m 216 then (bif Nat.beq m 215 then prog_14_method_70_code else ⟨#[]⟩) else
         (bif Nat.beq m 216 then prog_14_method_91_code else ⟨#[]⟩))) else
       (bif Nat.blt m 218 then (bif Nat.beq m 217 then prog_14_method_90_code else ⟨#[]⟩) else
        (bif Nat.blt m 219 then (bif Nat.beq m 218 then prog_14_method_74_code else ⟨#[]⟩) else
         (bif Nat.beq m 219 then prog_14_method_72_code else ⟨#[]⟩)))))) else
    (bif Nat.blt m 232 then (bif Nat.blt m 226 then (bif Nat.blt m 223 then (bif Nat.blt m 221 then (bif Nat.beq m 220 then prog_14_method_73_code else ⟨#[]⟩) else
        (bif Nat.blt m 222 then (bif Nat.beq m 221 then prog_14_method_77_code else ⟨#[]⟩) else
         (bif Nat.beq m 222 then prog_14_method_76_code else ⟨#[]⟩))) else
       (bif Nat.blt m 224 then (bif Nat.beq m 223 then prog_14_method_75_code else ⟨#[]⟩) else
        (bif Nat.blt m 225 then (bif Nat.beq m 224 then prog_14_method_80_code else ⟨#[]⟩) else
         (bif Nat.beq m 225 then prog_14_method_78_code else ⟨#[]⟩)))) else
      (bif Nat.blt m 229 then (bif Nat.blt m 227 then (bif Nat.beq m 226 then prog_14_method_79_code else ⟨#[]⟩) else
        (bif Nat.blt m 228 then (bif Nat.beq m 227 then prog_14_method_20_code else ⟨#[]⟩) else
         (bif Nat.beq m 228 then prog_14_method_86_code else ⟨#[]⟩))) else
       (bif Nat.blt m 230 then (bif Nat.beq m 229 then prog_14_method_87_code else ⟨#[]⟩) else
        (bif Nat.blt m 231 then (bif Nat.beq m 230 then prog_14_method_82_code else ⟨#[]⟩) else
         (bif Nat.beq m 231 then prog_14_method_81_code else ⟨#[]⟩))))) else
     (bif Nat.blt m 238 then (bif Nat.blt m 235 then (bif Nat.blt m 233 then (bif Nat.beq m 232 then prog_14_method_84_code else ⟨#[]⟩) else
        (bif Nat.blt m 234 then (bif Nat.beq m 233 then prog_14_method_83_code else ⟨#[]⟩) else
         (bif Nat.beq m 234 then prog_14_method_85_code else ⟨#[]⟩))) else
       (bif Nat.blt m 236 then (bif Nat.beq m 235 then prog_14_method_88_code else ⟨#[]⟩) else
        (bif Nat.blt m 237 then (bif Nat.beq m 236 then prog_14_method_89_code else ⟨#[]⟩) else
         (bif Nat.beq m 237 then prog_14_method_92_code else ⟨#[]⟩)))) else
      (bif Nat.blt m 241 then (bif Nat.blt m 239 then (bif Nat.beq m 238 then prog_14_method_71_code else ⟨#[]⟩) else
        (bif Nat.blt m 240 then (bif Nat.beq m 239 then prog_14_method_96_code else ⟨#[]⟩) else
         (bif Nat.beq m 240 then prog_14_method_97_code else ⟨#[]⟩))) else
       (bif Nat.blt m 243 then (bif Nat.blt m 242 then (bif Nat.beq m 241 then prog_14_method_99_code else ⟨#[]⟩) else
         (bif Nat.beq m 242 then prog_14_method_98_code else ⟨#[]⟩)) else
        (bif Nat.blt m 244 then (bif Nat.beq m 243 then prog_14_method_19_code else ⟨#[]⟩) else
         (bif Nat.beq m 244 then prog_14_method_50_code else ⟨#[]⟩))))))) else
   (bif Nat.blt m 269 then (bif Nat.blt m 257 then (bif Nat.blt m 251 then (bif Nat.blt m 248 then (bif Nat.blt m 246 then (bif Nat.beq m 245 then prog_14_method_54_code else ⟨#[]⟩) else
        (bif Nat.blt m 247 then (bif Nat.beq m 246 then prog_14_method_34_code else ⟨#[]⟩) else
         (bif Nat.beq m 247 then prog_14_method_33_code else ⟨#[]⟩))) else
       (bif Nat.blt m 249 then (bif Nat.beq m 248 then prog_14_method_27_code else ⟨#[]⟩) else
        (bif Nat.blt m 250 then (bif Nat.beq m 249 then prog_14_method_26_code else ⟨#[]⟩) else
         (bif Nat.beq m 250 then prog_14_method_25_code else ⟨#[]⟩)))) else
      (bif Nat.blt m 254 then (bif Nat.blt m 252 then (bif Nat.beq m 251 then prog_14_method_23_code else ⟨#[]⟩) else
        (bif Nat.blt m 253 then (bif Nat.beq m 252 then prog_14_method_21_code else ⟨#[]⟩) else
         (bif Nat.beq m 253 then prog_14_method_24_code else ⟨#[]⟩))) else
       (bif Nat.blt m 255 then (bif Nat.beq m 254 then prog_14_method_31_code else ⟨#[]⟩) else
        (bif Nat.blt m 256 then (bif Nat.beq m 255 then prog_14_method_32_code else ⟨#[]⟩) else
         (bif Nat.beq m 256 then prog_14_method_30_code else ⟨#[]⟩))))) else
     (bif Nat.blt m 263 then (bif Nat.blt m 260 then (bif Nat.blt m 258 then (bif Nat.beq m 257 then prog_14_method_22_code else ⟨#[]⟩) else
        (bif Nat.blt m 259 then (bif Nat.beq m 258 then prog_14_method_28_code else ⟨#[]⟩) else
         (bif Nat.beq m 259 then prog_14_method_29_code else ⟨#[]⟩))) else
       (bif Nat.blt m 261 then (bif Nat.beq m 260 then prog_14_method_9_code else ⟨#[]⟩) else
        (bif Nat.blt m 262 then (bif Nat.beq m 261 then prog_14_method_53_code else ⟨#[]⟩) else
         (bif Nat.beq m 262 then prog_14_method_35_code else ⟨#[]⟩)))) else
      (bif Nat.blt m 266 then (bif Nat.blt m 264 then (bif Nat.beq m 263 then prog_14_method_16_code else ⟨#[]⟩) else
        (bif Nat.blt m 265 then (bif Nat.beq m 264 then prog_14_method_15_code else ⟨#[]⟩) else
         (bif Nat.beq m 265 then prog_14_method_52_code else ⟨#[]⟩))) else
       (bif Nat.blt m 267 then (bif Nat.beq m 266 then prog_14_method_51_code else ⟨#[]⟩) else
        (bif Nat.blt m 268 then (bif Nat.beq m 267 then prog_14_method_45_code else ⟨#[]⟩) else
         (bif Nat.beq m 268 then prog_14_method_36_code else ⟨#[]⟩)))))) else
    (bif Nat.blt m 281 then (bif Nat.blt m 275 then (bif Nat.blt m 272 then (bif Nat.blt m 270 then (bif Nat.beq m 269 then prog_14_method_42_code else ⟨#[]⟩) else
        (bif Nat.blt m 271 then (bif Nat.beq m 270 then prog_14_method_41_code else ⟨#[]⟩) else
         (bif Nat.beq m 271 then prog_14_method_40_code else ⟨#[]⟩))) else
       (bif Nat.blt m 273 then (bif Nat.beq m 272 then prog_14_method_38_code else ⟨#[]⟩) else
        (bif Nat.blt m 274 then (bif Nat.beq m 273 then prog_14_method_39_code else ⟨#[]⟩) else
         (bif Nat.beq m 274 then prog_14_method_37_code else ⟨#[]⟩)))) else
      (bif Nat.blt m 278 then (bif Nat.blt m 276 then (bif Nat.beq m 275 then prog_14_method_55_code else ⟨#[]⟩) else
        (bif Nat.blt m 277 then (bif Nat.beq m 276 then prog_14_method_102_code else ⟨#[]⟩) else
         (bif Nat.beq m 277 then prog_14_method_13_code else ⟨#[]⟩))) else
       (bif Nat.blt m 279 then (bif Nat.beq m 278 then prog_14_method_101_code else ⟨#[]⟩) else
        (bif Nat.blt m 280 then (bif Nat.beq m 279 then prog_14_method_100_code else ⟨#[]⟩) else
         (bif Nat.beq m 280 then prog_14_method_103_code else ⟨#[]⟩))))) else
     (bif Nat.blt m 287 then (bif Nat.blt m 284 then (bif Nat.blt m 282 then (bif Nat.beq m 281 then prog_14_method_7_code else ⟨#[]⟩) else
        (bif Nat.blt m 283 then (bif Nat.beq m 282 then prog_14_method_104_code else ⟨#[]⟩) else
         (bif Nat.beq m 283 then prog_14_method_105_code else ⟨#[]⟩))) else
       (bif Nat.blt m 285 then (bif Nat.beq m 284 then prog_14_method_6_code else ⟨#[]⟩) else
        (bif Nat.blt m 286 then (bif Nat.beq m 285 then prog_14_method_107_code else ⟨#[]⟩) else
         (bif Nat.beq m 286 then prog_14_method_106_code else ⟨#[]⟩)))) else
      (bif Nat.blt m 290 then (bif Nat.blt m 288 then (bif Nat.beq m 287 then prog_14_method_108_code else ⟨#[]⟩) else
        (bif Nat.blt m 289 then (bif Nat.beq m 288 then prog_14_method_109_code else ⟨#[]⟩) else
         (bif Nat.beq m 289 then prog_14_method_111_code else ⟨#[]⟩))) else
       (bif Nat.blt m 292 then (bif Nat.blt m 291 then (bif Nat.beq m 290 then prog_14_method_110_code else ⟨#[]⟩) else
         (bif Nat.beq m 291 then prog_14_method_10_code else ⟨#[]⟩)) else
        (bif Nat.blt m 293 then (bif Nat.beq m 292 then prog_14_method_11_code else ⟨#[]⟩) else
         (bif Nat.beq m 293 then prog_14_method_112_code else ⟨#[]⟩)))))))) else
  (bif Nat.blt m 343 then (bif Nat.blt m 318 then (bif Nat.blt m 306 then (bif Nat.blt m 300 then (bif Nat.blt m 297 then (bif Nat.blt m 295 then (bif Nat.beq m 294 then prog_14_method_113_code else ⟨#[]⟩) else
        (bif Nat.blt m 296 then (bif Nat.beq m 295 then prog_14_method_114_code else ⟨#[]⟩) else
         (bif Nat.beq m 296 then prog_14_method_43_code else ⟨#[]⟩))) else
       (bif Nat.blt m 298 then (bif Nat.beq m 297 then prog_14_method_115_code else ⟨#[]⟩) else
        (bif Nat.blt m 299 then (bif Nat.beq m 298 then prog_14_method_116_code else ⟨#[]⟩) else
         (bif Nat.beq m 299 then prog_14_method_117_code else ⟨#[]⟩)))) else
      (bif Nat.blt m 303 then (bif Nat.blt m 301 then (bif Nat.beq m 300 then prog_14_method_118_code else ⟨#[]⟩) else
        (bif Nat.blt m 302 then (bif Nat.beq m 301 then prog_14_method_46_code else ⟨#[]⟩) else
         (bif Nat.beq m 302 then prog_14_method_47_code else ⟨#[]⟩))) else
       (bif Nat.blt m 304 then (bif Nat.beq m 303 then prog_14_method_119_code else ⟨#[]⟩) else
        (bif Nat.blt m 305 then (bif Nat.beq m 304 then prog_14_method_120_code else ⟨#[]⟩) else
         (bif Nat.beq m 305 then prog_14_method_49_code else ⟨#[]⟩))))) else
     (bif Nat.blt m 312 then (bif Nat.blt m 309 then (bif Nat.blt m 307 then (bif Nat.beq m 306 then prog_14_method_48_code else ⟨#[]⟩) else
        (bif Nat.blt m 308 then (bif Nat.beq m 307 then prog_14_method_121_code else ⟨#[]⟩) else
         (bif Nat.beq m 308 then prog_14_method_123_code else ⟨#[]⟩))) else
       (bif Nat.blt m 310 then (bif Nat.beq m 309 then prog_14_method_122_code else ⟨#[]⟩) else
        (bif Nat.blt m 311 then (bif Nat.beq m 310 then prog_14_method_124_code else ⟨#[]⟩) else
         (bif Nat.beq m 311 then prog_14_method_125_code else ⟨#[]⟩)))) else
      (bif Nat.blt m 315 then (bif Nat.blt m 313 then (bif Nat.beq m 312 then prog_14_method_126_code else ⟨#[]⟩) else
        (bif Nat.blt m 314 then (bif Nat.beq m 313 then prog_14_method_17_code else ⟨#[]⟩) else
         (bif Nat.beq m 314 then prog_14_method_127_code else ⟨#[]⟩))) else
       (bif Nat.blt m 316 then (bif Nat.beq m 315 then prog_14_method_129_code else ⟨#[]⟩) else
        (bif Nat.blt m 317 then (bif Nat.beq m 316 then prog_14_method_128_code else ⟨#[]⟩) else
         (bif Nat.beq m 317 then prog_14_method_44_code else ⟨#[]⟩)))))) else
    (bif Nat.blt m 330 then (bif Nat.blt m 324 then (bif Nat.blt m 321 then (bif Nat.blt m 319 then (bif Nat.beq m 318 then prog_14_method_130_code else ⟨#[]⟩) else
        (bif Nat.blt m 320 then (bif Nat.beq m 319 then prog_14_method_133_code else ⟨#[]⟩) else
         (bif Nat.beq m 320 then prog_14_method_67_code else ⟨#[]⟩))) else
       (bif Nat.blt m 322 then (bif Nat.beq m 321 then prog_14_method_66_code else ⟨#[]⟩) else
        (bif Nat.blt m 323 then (bif Nat.beq m 322 then prog_14_method_57_code else ⟨#[]⟩) else
         (bif Nat.beq m 323 then prog_14_method_56_code else ⟨#[]⟩)))) else
      (bif Nat.blt m 327 then (bif Nat.blt m 325 then (bif Nat.beq m 324 then prog_14_method_65_code else ⟨#[]⟩) else
        (bif Nat.blt m 326 then (bif Nat.beq m 325 then prog_14_method_64_code else ⟨#[]⟩) else
         (bif Nat.beq m 326 then prog_14_method_62_code else ⟨#[]⟩))) else
       (bif Nat.blt m 328 then (bif Nat.beq m 327 then prog_14_method_61_code else ⟨#[]⟩) else
        (bif Nat.blt m 329 then (bif Nat.beq m 328 then prog_14_method_60_code else ⟨#[]⟩) else
         (bif Nat.beq m 329 then prog_14_method_59_code else ⟨#[]⟩))))) else
     (bif Nat.blt m 336 then (bif Nat.blt m 333 then (bif Nat.blt m 331 then (bif Nat.beq m 330 then prog_14_method_63_code else ⟨#[]⟩) else
        (bif Nat.blt m 332 then (bif Nat.beq m 331 then prog_14_method_58_code else ⟨#[]⟩) else
         (bif Nat.beq m 332 then prog_14_method_131_code else ⟨#[]⟩))) else
       (bif Nat.blt m 334 then (bif Nat.beq m 333 then prog_14_method_132_code else ⟨#[]⟩) else
        (bif Nat.blt m 335 then (bif Nat.beq m 334 then prog_14_method_134_code else ⟨#[]⟩) else
         (bif Nat.beq m 335 then prog_14_method_135_code else ⟨#[]⟩)))) else
      (bif Nat.blt m 339 then (bif Nat.blt m 337 then (bif Nat.beq m 336 then prog_14_method_136_code else ⟨#[]⟩) else
        (bif Nat.blt m 338 then (bif Nat.beq m 337 then prog_14_method_68_code else ⟨#[]⟩) else
         (bif Nat.beq m 338 then prog_14_method_139_code else ⟨#[]⟩))) else
       (bif Nat.blt m 341 then (bif Nat.blt m 340 then (bif Nat.beq m 339 then prog_14_method_138_code else ⟨#[]⟩) else
         (bif Nat.beq m 340 then prog_14_method_137_code else ⟨#[]⟩)) else
        (bif Nat.blt m 342 then (bif Nat.beq m 341 then prog_14_method_69_code else ⟨#[]⟩) else
         (bif Nat.beq m 342 then prog_14_method_140_code else ⟨#[]⟩))))))) else
   (bif Nat.blt m 368 then (bif Nat.blt m 355 then (bif Nat.blt m 349 then (bif Nat.blt m 346 then (bif Nat.blt m 344 then (bif Nat.beq m 343 then prog_14_method_141_code else ⟨#[]⟩) else
        (bif Nat.blt m 345 then (bif Nat.beq m 344 then prog_14_method_142_code else ⟨#[]⟩) else
         (bif Nat.beq m 345 then prog_14_method_143_code else ⟨#[]⟩))) else
       (bif Nat.blt m 347 then (bif Nat.beq m 346 then prog_14_method_144_code else ⟨#[]⟩) else
        (bif Nat.blt m 348 then (bif Nat.beq m 347 then prog_14_method_145_code else ⟨#[]⟩) else
         (bif Nat.beq m 348 then prog_14_method_146_code else ⟨#[]⟩)))) else
      (bif Nat.blt m 352 then (bif Nat.blt m 350 then (bif Nat.beq m 349 then prog_14_method_147_code else ⟨#[]⟩) else
        (bif Nat.blt m 351 then (bif Nat.beq m 350 then method_3_code else ⟨#[]⟩) else
         (bif Nat.beq m 351 then method_4_code else ⟨#[]⟩))) else
       (bif Nat.blt m 353 then (bif Nat.beq m 352 then method_5_code else ⟨#[]⟩) else
        (bif Nat.blt m 354 then (bif Nat.beq m 353 then method_6_code else ⟨#[]⟩) else
         (bif Nat.beq m 354 then method_7_code else ⟨#[]⟩))))) else
     (bif Nat.blt m 361 then (bif Nat.blt m 358 then (bif Nat.blt m 356 then (bif Nat.beq m 355 then method_8_code else ⟨#[]⟩) else
        (bif Nat.blt m 357 then (bif Nat.beq m 356 then method_9_code else ⟨#[]⟩) else
         (bif Nat.beq m 357 then method_10_code else ⟨#[]⟩))) else
       (bif Nat.blt m 359 then (bif Nat.beq m 358 then method_11_code else ⟨#[]⟩) else
        (bif Nat.blt m 360 then (bif Nat.beq m 359 then method_12_code else ⟨#[]⟩) else
         (bif Nat.beq m 360 then method_13_code else ⟨#[]⟩)))) else
      (bif Nat.blt m 364 then (bif Nat.blt m 362 then (bif Nat.beq m 361 then method_14_code else ⟨#[]⟩) else
        (bif Nat.blt m 363 then (bif Nat.beq m 362 then method_15_code else ⟨#[]⟩) else
         (bif Nat.beq m 363 then method_16_code else ⟨#[]⟩))) else
       (bif Nat.blt m 366 then (bif Nat.blt m 365 then (bif Nat.beq m 364 then method_17_code else ⟨#[]⟩) else
         (bif Nat.beq m 365 then method_18_code else ⟨#[]⟩)) else
        (bif Nat.blt m 367 then (bif Nat.beq m 366 then method_19_code else ⟨#[]⟩) else
         (bif Nat.beq m 367 then method_20_code else ⟨#[]⟩)))))) else
    (bif Nat.blt m 380 then (bif Nat.blt m 374 then (bif Nat.blt m 371 then (bif Nat.blt m 369 then (bif Nat.beq m 368 then method_21_code else ⟨#[]⟩) else
        (bif Nat.blt m 370 then (bif Nat.beq m 369 then method_22_code else ⟨#[]⟩) else
         (bif Nat.beq m 370 then method_23_code else ⟨#[]⟩))) else
       (bif Nat.blt m 372 then (bif Nat.beq m 371 then method_24_code else ⟨#[]⟩) else
        (bif Nat.blt m 373 then (bif Nat.beq m 372 then method_25_code else ⟨#[]⟩) else
         (bif Nat.beq m 373 then method_26_code else ⟨#[]⟩)))) else
      (bif Nat.blt m 377 then (bif Nat.blt m 375 then (bif Nat.beq m 374 then method_27_code else ⟨#[]⟩) else
        (bif Nat.blt m 376 then (bif Nat.beq m 375 then method_28_code else ⟨#[]⟩) else
         (bif Nat.beq m 376 then method_29_code else ⟨#[]⟩))) else
       (bif Nat.blt m 378 then (bif Nat.beq m 377 then method_30_code else ⟨#[]⟩) else
        (bif Nat.blt m 379 then (bif Nat.beq m 378 then method_31_code else ⟨#[]⟩) else
         (bif Nat.beq m 379 then method_32_code else ⟨#[]⟩))))) else
     (bif Nat.blt m 386 then (bif Nat.blt m 383 then (bif Nat.blt m 381 then (bif Nat.beq m 380 then method_33_code else ⟨#[]⟩) else
        (bif Nat.blt m 382 then (bif Nat.beq m 381 then method_34_code else ⟨#[]⟩) else
         (bif Nat.beq m 382 then prog_26_method_65_code else ⟨#[]⟩))) else
       (bif Nat.blt m 384 then (bif Nat.beq m 383 then prog_26_method_69_code else ⟨#[]⟩) else
        (bif Nat.blt m 385 then (bif Nat.beq m 384 then prog_26_method_50_code else ⟨#[]⟩) else
         (bif Nat.beq m 385 then prog_25_method_50_code else ⟨#[]⟩)))) else
      (bif Nat.blt m 389 then (bif Nat.blt m 387 then (bif Nat.beq m 386 then prog_36_method_101_code else ⟨#[]⟩) else
        (bif Nat.blt m 388 then (bif Nat.beq m 387 then prog_36_method_103_code else ⟨#[]⟩) else
         (bif Nat.beq m 388 then prog_21_method_24_code else ⟨#[]⟩))) else
       (bif Nat.blt m 391 then (bif Nat.blt m 390 then (bif Nat.beq m 389 then prog_21_method_6_code else ⟨#[]⟩) else
         (bif Nat.beq m 390 then prog_19_method_23_code else ⟨#[]⟩)) else
        (bif Nat.blt m 392 then (bif Nat.beq m 391 then prog_19_method_6_code else ⟨#[]⟩) else
         (bif Nat.beq m 392 then code else ⟨#[]⟩))))))))))
noncomputable def zlen (m : Nat) : Nat :=
 (bif Nat.blt m 196 then (bif Nat.blt m 98 then (bif Nat.blt m 49 then (bif Nat.blt m 24 then (bif Nat.blt m 12 then (bif Nat.blt m 6 then (bif Nat.blt m 3 then (bif Nat.blt m 1 then (bif Nat.beq m 0 then 31 else 0) else
        (bif Nat.blt m 2 then (bif Nat.beq m 1 then 103 else 0) else
         (bif Nat.beq m 2 then 151 else 0))) else
       (bif Nat.blt m 4 then (bif Nat.beq m 3 then 18 else 0) else
        (bif Nat.blt m 5 then (bif Nat.beq m 4 then 27 else 0) else
         (bif Nat.beq m 5 then 13 else 0)))) else
      (bif Nat.blt m 9 then (bif Nat.blt m 7 then (bif Nat.beq m 6 then 58 else 0) else
        (bif Nat.blt m 8 then (bif Nat.beq m 7 then 130 else 0) else
         (bif Nat.beq m 8 then 68 else 0))) else
       (bif Nat.blt m 10 then (bif Nat.beq m 9 then 21 else 0) else
        (bif Nat.blt m 11 then (bif Nat.beq m 10 then 12 else 0) else
         (bif Nat.beq m 11 then 32 else 0))))) else
     (bif Nat.blt m 18 then (bif Nat.blt m 15 then (bif Nat.blt m 13 then (bif Nat.beq m 12 then 20 else 0) else
        (bif Nat.blt m 14 then (bif Nat.beq m 13 then 18 else 0) else
         (bif Nat.beq m 14 then 6 else 0))) else
       (bif Nat.blt m 16 then (bif Nat.beq m 15 then 84 else 0) else
        (bif Nat.blt m 17 then (bif Nat.beq m 16 then 26 else 0) else
         (bif Nat.beq m 17 then 44 else 0)))) else
      (bif Nat.blt m 21 then (bif Nat.blt m 19 then (bif Nat.beq m 18 then 24 else 0) else
        (bif Nat.blt m 20 then (bif Nat.beq m 19 then 19 else 0) else
         (bif Nat.beq m 20 then 44 else 0))) else
       (bif Nat.blt m 22 then (bif Nat.beq m 21 then 27 else 0) else
        (bif Nat.blt m 23 then (bif Nat.beq m 22 then 29 else 0) else
         (bif Nat.beq m 23 then 25 else 0)))))) else
    (bif Nat.blt m 36 then (bif Nat.blt m 30 then (bif Nat.blt m 27 then (bif Nat.blt m 25 then (bif Nat.beq m 24 then 19 else 0) else
        (bif Nat.blt m 26 then (bif Nat.beq m 25 then 109 else 0) else
         (bif Nat.beq m 26 then 35 else 0))) else
       (bif Nat.blt m 28 then (bif Nat.beq m 27 then 24 else 0) else
        (bif Nat.blt m 29 then (bif Nat.beq m 28 then 162 else 0) else
         (bif Nat.beq m 29 then 79 else 0)))) else
      (bif Nat.blt m 33 then (bif Nat.blt m 31 then (bif Nat.beq m 30 then 124 else 0) else
        (bif Nat.blt m 32 then (bif Nat.beq m 31 then 152 else 0) else
         (bif Nat.beq m 32 then 46 else 0))) else
       (bif Nat.blt m 34 then (bif Nat.beq m 33 then 80 else 0) else
        (bif Nat.blt m 35 then (bif Nat.beq m 34 then 25 else 0) else
         (bif Nat.beq m 35 then 112 else 0))))) else
     (bif Nat.blt m 42 then (bif Nat.blt m 39 then (bif Nat.blt m 37 then (bif Nat.beq m 36 then 19 else 0) else
        (bif Nat.blt m 38 then (bif Nat.beq m 37 then 24 else 0) else
         (bif Nat.beq m 38 then 202 else 0))) else
       (bif Nat.blt m 40 then (bif Nat.beq m 39 then 13 else 0) else
        (bif Nat.blt m 41 then (bif Nat.beq m 40 then 19 else 0) else
         (bif Nat.beq m 41 then 19 else 0)))) else
      (bif Nat.blt m 45 then (bif Nat.blt m 43 then (bif Nat.beq m 42 then 41 else 0) else
        (bif Nat.blt m 44 then (bif Nat.beq m 43 then 72 else 0) else
         (bif Nat.beq m 44 then 16 else 0))) else
       (bif Nat.blt m 47 then (bif Nat.blt m 46 then (bif Nat.beq m 45 then 16 else 0) else
         (bif Nat.beq m 46 then 19 else 0)) else
        (bif Nat.blt m 48 then (bif Nat.beq m 47 then 19 else 0) else
         (bif Nat.beq m 48 then 19 else 0))))))) else
   (bif Nat.blt m 73 then (bif Nat.blt m 61 then (bif Nat.blt m 55 then (bif Nat.blt m 52 then (bif Nat.blt m 50 then (bif Nat.beq m 49 then 84 else 0) else
        (bif Nat.blt m 51 then (bif Nat.beq m 50 then 19 else 0) else
         (bif Nat.beq m 51 then 19 else 0))) else
       (bif Nat.blt m 53 then (bif Nat.beq m 52 then 22 else 0) else
        (bif Nat.blt m 54 then (bif Nat.beq m 53 then 29 else 0) else
         (bif Nat.beq m 54 then 71 else 0)))) else
      (bif Nat.blt m 58 then (bif Nat.blt m 56 then (bif Nat.beq m 55 then 40 else 0) else
        (bif Nat.blt m 57 then (bif Nat.beq m 56 then 36 else 0) else
         (bif Nat.beq m 57 then 35 else 0))) else
       (bif Nat.blt m 59 then (bif Nat.beq m 58 then 61 else 0) else
        (bif Nat.blt m 60 then (bif Nat.beq m 59 then 167 else 0) else
         (bif Nat.beq m 60 then 70 else 0))))) else
     (bif Nat.blt m 67 then (bif Nat.blt m 64 then (bif Nat.blt m 62 then (bif Nat.beq m 61 then 32 else 0) else
        (bif Nat.blt m 63 then (bif Nat.beq m 62 then 108 else 0) else
         (bif Nat.beq m 63 then 35 else 0))) else
       (bif Nat.blt m 65 then (bif Nat.beq m 64 then 60 else 0) else
        (bif Nat.blt m 66 then (bif Nat.beq m 65 then 13 else 0) else
         (bif Nat.beq m 66 then 51 else 0)))) else
      (bif Nat.blt m 70 then (bif Nat.blt m 68 then (bif Nat.beq m 67 then 29 else 0) else
        (bif Nat.blt m 69 then (bif Nat.beq m 68 then 128 else 0) else
         (bif Nat.beq m 69 then 34 else 0))) else
       (bif Nat.blt m 71 then (bif Nat.beq m 70 then 37 else 0) else
        (bif Nat.blt m 72 then (bif Nat.beq m 71 then 25 else 0) else
         (bif Nat.beq m 72 then 19 else 0)))))) else
    (bif Nat.blt m 85 then (bif Nat.blt m 79 then (bif Nat.blt m 76 then (bif Nat.blt m 74 then (bif Nat.beq m 73 then 60 else 0) else
        (bif Nat.blt m 75 then (bif Nat.beq m 74 then 106 else 0) else
         (bif Nat.beq m 75 then 22 else 0))) else
       (bif Nat.blt m 77 then (bif Nat.beq m 76 then 23 else 0) else
        (bif Nat.blt m 78 then (bif Nat.beq m 77 then 108 else 0) else
         (bif Nat.beq m 78 then 120 else 0)))) else
      (bif Nat.blt m 82 then (bif Nat.blt m 80 then (bif Nat.beq m 79 then 39 else 0) else
        (bif Nat.blt m 81 then (bif Nat.beq m 80 then 41 else 0) else
         (bif Nat.beq m 81 then 28 else 0))) else
       (bif Nat.blt m 83 then (bif Nat.beq m 82 then 105 else 0) else
        (bif Nat.blt m 84 then (bif Nat.beq m 83 then 150 else 0) else
         (bif Nat.beq m 84 then 42 else 0))))) else
     (bif Nat.blt m 91 then (bif Nat.blt m 88 then (bif Nat.blt m 86 then (bif Nat.beq m 85 then 32 else 0) else
        (bif Nat.blt m 87 then (bif Nat.beq m 86 then 18 else 0) else
         (bif Nat.beq m 87 then 33 else 0))) else
       (bif Nat.blt m 89 then (bif Nat.beq m 88 then 18 else 0) else
        (bif Nat.blt m 90 then (bif Nat.beq m 89 then 33 else 0) else
         (bif Nat.beq m 90 then 63 else 0)))) else
      (bif Nat.blt m 94 then (bif Nat.blt m 92 then (bif Nat.beq m 91 then 65 else 0) else
        (bif Nat.blt m 93 then (bif Nat.beq m 92 then 152 else 0) else
         (bif Nat.beq m 93 then 73 else 0))) else
       (bif Nat.blt m 96 then (bif Nat.blt m 95 then (bif Nat.beq m 94 then 123 else 0) else
         (bif Nat.beq m 95 then 157 else 0)) else
        (bif Nat.blt m 97 then (bif Nat.beq m 96 then 62 else 0) else
         (bif Nat.beq m 97 then 47 else 0)))))))) else
  (bif Nat.blt m 147 then (bif Nat.blt m 122 then (bif Nat.blt m 110 then (bif Nat.blt m 104 then (bif Nat.blt m 101 then (bif Nat.blt m 99 then (bif Nat.beq m 98 then 299 else 0) else
        (bif Nat.blt m 100 then (bif Nat.beq m 99 then 7 else 0) else
         (bif Nat.beq m 100 then 155 else 0))) else
       (bif Nat.blt m 102 then (bif Nat.beq m 101 then 88 else 0) else
        (bif Nat.blt m 103 then (bif Nat.beq m 102 then 10 else 0) else
         (bif Nat.beq m 103 then 21 else 0)))) else
      (bif Nat.blt m 107 then (bif Nat.blt m 105 then (bif Nat.beq m 104 then 16 else 0) else
        (bif Nat.blt m 106 then (bif Nat.beq m 105 then 58 else 0) else
         (bif Nat.beq m 106 then 18 else 0))) else
       (bif Nat.blt m 108 then (bif Nat.beq m 107 then 21 else 0) else
        (bif Nat.blt m 109 then (bif Nat.beq m 108 then 31 else 0) else
         (bif Nat.beq m 109 then 21 else 0))))) else
     (bif Nat.blt m 116 then (bif Nat.blt m 113 then (bif Nat.blt m 111 then (bif Nat.beq m 110 then 20 else 0) else
        (bif Nat.blt m 112 then (bif Nat.beq m 111 then 24 else 0) else
         (bif Nat.beq m 112 then 41 else 0))) else
       (bif Nat.blt m 114 then (bif Nat.beq m 113 then 31 else 0) else
        (bif Nat.blt m 115 then (bif Nat.beq m 114 then 128 else 0) else
         (bif Nat.beq m 115 then 29 else 0)))) else
      (bif Nat.blt m 119 then (bif Nat.blt m 117 then (bif Nat.beq m 116 then 55 else 0) else
        (bif Nat.blt m 118 then (bif Nat.beq m 117 then 21 else 0) else
         (bif Nat.beq m 118 then 18 else 0))) else
       (bif Nat.blt m 120 then (bif Nat.beq m 119 then 84 else 0) else
        (bif Nat.blt m 121 then (bif Nat.beq m 120 then 12 else 0) else
         (bif Nat.beq m 121 then 57 else 0)))))) else
    (bif Nat.blt m 134 then (bif Nat.blt m 128 then (bif Nat.blt m 125 then (bif Nat.blt m 123 then (bif Nat.beq m 122 then 22 else 0) else
        (bif Nat.blt m 124 then (bif Nat.beq m 123 then 102 else 0) else
         (bif Nat.beq m 124 then 97 else 0))) else
       (bif Nat.blt m 126 then (bif Nat.beq m 125 then 15 else 0) else
        (bif Nat.blt m 127 then (bif Nat.beq m 126 then 16 else 0) else
         (bif Nat.beq m 127 then 15 else 0)))) else
      (bif Nat.blt m 131 then (bif Nat.blt m 129 then (bif Nat.beq m 128 then 18 else 0) else
        (bif Nat.blt m 130 then (bif Nat.beq m 129 then 21 else 0) else
         (bif Nat.beq m 130 then 21 else 0))) else
       (bif Nat.blt m 132 then (bif Nat.beq m 131 then 18 else 0) else
        (bif Nat.blt m 133 then (bif Nat.beq m 132 then 36 else 0) else
         (bif Nat.beq m 133 then 15 else 0))))) else
     (bif Nat.blt m 140 then (bif Nat.blt m 137 then (bif Nat.blt m 135 then (bif Nat.beq m 134 then 79 else 0) else
        (bif Nat.blt m 136 then (bif Nat.beq m 135 then 15 else 0) else
         (bif Nat.beq m 136 then 45 else 0))) else
       (bif Nat.blt m 138 then (bif Nat.beq m 137 then 32 else 0) else
        (bif Nat.blt m 139 then (bif Nat.beq m 138 then 201 else 0) else
         (bif Nat.beq m 139 then 59 else 0)))) else
      (bif Nat.blt m 143 then (bif Nat.blt m 141 then (bif Nat.beq m 140 then 16 else 0) else
        (bif Nat.blt m 142 then (bif Nat.beq m 141 then 18 else 0) else
         (bif Nat.beq m 142 then 30 else 0))) else
       (bif Nat.blt m 145 then (bif Nat.blt m 144 then (bif Nat.beq m 143 then 28 else 0) else
         (bif Nat.beq m 144 then 18 else 0)) else
        (bif Nat.blt m 146 then (bif Nat.beq m 145 then 17 else 0) else
         (bif Nat.beq m 146 then 228 else 0))))))) else
   (bif Nat.blt m 171 then (bif Nat.blt m 159 then (bif Nat.blt m 153 then (bif Nat.blt m 150 then (bif Nat.blt m 148 then (bif Nat.beq m 147 then 5 else 0) else
        (bif Nat.blt m 149 then (bif Nat.beq m 148 then 5 else 0) else
         (bif Nat.beq m 149 then 8 else 0))) else
       (bif Nat.blt m 151 then (bif Nat.beq m 150 then 8 else 0) else
        (bif Nat.blt m 152 then (bif Nat.beq m 151 then 15 else 0) else
         (bif Nat.beq m 152 then 31 else 0)))) else
      (bif Nat.blt m 156 then (bif Nat.blt m 154 then (bif Nat.beq m 153 then 8 else 0) else
        (bif Nat.blt m 155 then (bif Nat.beq m 154 then 8 else 0) else
         (bif Nat.beq m 155 then 8 else 0))) else
       (bif Nat.blt m 157 then (bif Nat.beq m 156 then 11 else 0) else
        (bif Nat.blt m 158 then (bif Nat.beq m 157 then 23 else 0) else
         (bif Nat.beq m 158 then 53 else 0))))) else
     (bif Nat.blt m 165 then (bif Nat.blt m 162 then (bif Nat.blt m 160 then (bif Nat.beq m 159 then 54 else 0) else
        (bif Nat.blt m 161 then (bif Nat.beq m 160 then 90 else 0) else
         (bif Nat.beq m 161 then 21 else 0))) else
       (bif Nat.blt m 163 then (bif Nat.beq m 162 then 43 else 0) else
        (bif Nat.blt m 164 then (bif Nat.beq m 163 then 135 else 0) else
         (bif Nat.beq m 164 then 143 else 0)))) else
      (bif Nat.blt m 168 then (bif Nat.blt m 166 then (bif Nat.beq m 165 then 24 else 0) else
        (bif Nat.blt m 167 then (bif Nat.beq m 166 then 61 else 0) else
         (bif Nat.beq m 167 then 47 else 0))) else
       (bif Nat.blt m 169 then (bif Nat.beq m 168 then 24 else 0) else
        (bif Nat.blt m 170 then (bif Nat.beq m 169 then 20 else 0) else
         (bif Nat.beq m 170 then 19 else 0)))))) else
    (bif Nat.blt m 183 then (bif Nat.blt m 177 then (bif Nat.blt m 174 then (bif Nat.blt m 172 then (bif Nat.beq m 171 then 14 else 0) else
        (bif Nat.blt m 173 then (bif Nat.beq m 172 then 105 else 0) else
         (bif Nat.beq m 173 then 24 else 0))) else
       (bif Nat.blt m 175 then (bif Nat.beq m 174 then 14 else 0) else
        (bif Nat.blt m 176 then (bif Nat.beq m 175 then 21 else 0) else
         (bif Nat.beq m 176 then 14 else 0)))) else
      (bif Nat.blt m 180 then (bif Nat.blt m 178 then (bif Nat.beq m 177 then 14 else 0) else
        (bif Nat.blt m 179 then (bif Nat.beq m 178 then 17 else 0) else
         (bif Nat.beq m 179 then 14 else 0))) else
       (bif Nat.blt m 181 then (bif Nat.beq m 180 then 21 else 0) else
        (bif Nat.blt m 182 then (bif Nat.beq m 181 then 12 else 0) else
         (bif Nat.beq m 182 then 24 else 0))))) else
     (bif Nat.blt m 189 then (bif Nat.blt m 186 then (bif Nat.blt m 184 then (bif Nat.beq m 183 then 119 else 0) else
        (bif Nat.blt m 185 then (bif Nat.beq m 184 then 12 else 0) else
         (bif Nat.beq m 185 then 14 else 0))) else
       (bif Nat.blt m 187 then (bif Nat.beq m 186 then 27 else 0) else
        (bif Nat.blt m 188 then (bif Nat.beq m 187 then 54 else 0) else
         (bif Nat.beq m 188 then 68 else 0)))) else
      (bif Nat.blt m 192 then (bif Nat.blt m 190 then (bif Nat.beq m 189 then 34 else 0) else
        (bif Nat.blt m 191 then (bif Nat.beq m 190 then 29 else 0) else
         (bif Nat.beq m 191 then 72 else 0))) else
       (bif Nat.blt m 194 then (bif Nat.blt m 193 then (bif Nat.beq m 192 then 57 else 0) else
         (bif Nat.beq m 193 then 23 else 0)) else
        (bif Nat.blt m 195 then (bif Nat.beq m 194 then 57 else 0) else
         (bif Nat.beq m 195 then 64 else 0))))))))) else
 (bif Nat.blt m 294 then (bif Nat.blt m 245 then (bif Nat.blt m 220 then (bif Nat.blt m 208 then (bif Nat.blt m 202 then (bif Nat.blt m 199 then (bif Nat.blt m 197 then (bif Nat.beq m 196 then 61 else 0) else
        (bif Nat.blt m 198 then (bif Nat.beq m 197 then 67 else 0) else
         (bif Nat.beq m 198 then 54 else 0))) else
       (bif Nat.blt m 200 then (bif Nat.beq m 199 then 70 else 0) else
        (bif Nat.blt m 201 then (bif Nat.beq m 200 then 18 else 0) else
         (bif Nat.beq m 201 then 52 else 0)))) else
      (bif Nat.blt m 205 then (bif Nat.blt m 203 then (bif Nat.beq m 202 then 25 else 0) else
        (bif Nat.blt m 204 then (bif Nat.beq m 203 then 1006 else 0) else
         (bif Nat.beq m 204 then 48 else 0))) else
       (bif Nat.blt m 206 then (bif Nat.beq m 205 then 295 else 0) else
        (bif Nat.blt m 207 then (bif Nat.beq m 206 then 38 else 0) else
         (bif Nat.beq m 207 then 12 else 0))))) else
     (bif Nat.blt m 214 then (bif Nat.blt m 211 then (bif Nat.blt m 209 then (bif Nat.beq m 208 then 5 else 0) else
        (bif Nat.blt m 210 then (bif Nat.beq m 209 then 52 else 0) else
         (bif Nat.beq m 210 then 7 else 0))) else
       (bif Nat.blt m 212 then (bif Nat.beq m 211 then 70 else 0) else
        (bif Nat.blt m 213 then (bif Nat.beq m 212 then 7 else 0) else
         (bif Nat.beq m 213 then 67 else 0)))) else
      (bif Nat.blt m 217 then (bif Nat.blt m 215 then (bif Nat.beq m 214 then 16 else 0) else
        (bif Nat.blt m 216 then (bif Nat.beq m 215 then 71 else 0) else
         (bif Nat.beq m 216 then 148 else 0))) else
       (bif Nat.blt m 218 then (bif Nat.beq m 217 then 25 else 0) else
        (bif Nat.blt m 219 then (bif Nat.beq m 218 then 341 else 0) else
         (bif Nat.beq m 219 then 18 else 0)))))) else
    (bif Nat.blt m 232 then (bif Nat.blt m 226 then (bif Nat.blt m 223 then (bif Nat.blt m 221 then (bif Nat.beq m 220 then 18 else 0) else
        (bif Nat.blt m 222 then (bif Nat.beq m 221 then 32 else 0) else
         (bif Nat.beq m 222 then 83 else 0))) else
       (bif Nat.blt m 224 then (bif Nat.beq m 223 then 21 else 0) else
        (bif Nat.blt m 225 then (bif Nat.beq m 224 then 217 else 0) else
         (bif Nat.beq m 225 then 41 else 0)))) else
      (bif Nat.blt m 229 then (bif Nat.blt m 227 then (bif Nat.beq m 226 then 20 else 0) else
        (bif Nat.blt m 228 then (bif Nat.beq m 227 then 34 else 0) else
         (bif Nat.beq m 228 then 42 else 0))) else
       (bif Nat.blt m 230 then (bif Nat.beq m 229 then 76 else 0) else
        (bif Nat.blt m 231 then (bif Nat.beq m 230 then 51 else 0) else
         (bif Nat.beq m 231 then 25 else 0))))) else
     (bif Nat.blt m 238 then (bif Nat.blt m 235 then (bif Nat.blt m 233 then (bif Nat.beq m 232 then 24 else 0) else
        (bif Nat.blt m 234 then (bif Nat.beq m 233 then 16 else 0) else
         (bif Nat.beq m 234 then 68 else 0))) else
       (bif Nat.blt m 236 then (bif Nat.beq m 235 then 135 else 0) else
        (bif Nat.blt m 237 then (bif Nat.beq m 236 then 44 else 0) else
         (bif Nat.beq m 237 then 33 else 0)))) else
      (bif Nat.blt m 241 then (bif Nat.blt m 239 then (bif Nat.beq m 238 then 71 else 0) else
        (bif Nat.blt m 240 then (bif Nat.beq m 239 then 9 else 0) else
         (bif Nat.beq m 240 then 9 else 0))) else
       (bif Nat.blt m 243 then (bif Nat.blt m 242 then (bif Nat.beq m 241 then 142 else 0) else
         (bif Nat.beq m 242 then 47 else 0)) else
        (bif Nat.blt m 244 then (bif Nat.beq m 243 then 11 else 0) else
         (bif Nat.beq m 244 then 10 else 0))))))) else
   (bif Nat.blt m 269 then (bif Nat.blt m 257 then (bif Nat.blt m 251 then (bif Nat.blt m 248 then (bif Nat.blt m 246 then (bif Nat.beq m 245 then 42 else 0) else
        (bif Nat.blt m 247 then (bif Nat.beq m 246 then 29 else 0) else
         (bif Nat.beq m 247 then 128 else 0))) else
       (bif Nat.blt m 249 then (bif Nat.beq m 248 then 34 else 0) else
        (bif Nat.blt m 250 then (bif Nat.beq m 249 then 48 else 0) else
         (bif Nat.beq m 250 then 115 else 0)))) else
      (bif Nat.blt m 254 then (bif Nat.blt m 252 then (bif Nat.beq m 251 then 35 else 0) else
        (bif Nat.blt m 253 then (bif Nat.beq m 252 then 8 else 0) else
         (bif Nat.beq m 253 then 100 else 0))) else
       (bif Nat.blt m 255 then (bif Nat.beq m 254 then 66 else 0) else
        (bif Nat.blt m 256 then (bif Nat.beq m 255 then 16 else 0) else
         (bif Nat.beq m 256 then 57 else 0))))) else
     (bif Nat.blt m 263 then (bif Nat.blt m 260 then (bif Nat.blt m 258 then (bif Nat.beq m 257 then 18 else 0) else
        (bif Nat.blt m 259 then (bif Nat.beq m 258 then 9 else 0) else
         (bif Nat.beq m 259 then 66 else 0))) else
       (bif Nat.blt m 261 then (bif Nat.beq m 260 then 16 else 0) else
        (bif Nat.blt m 262 then (bif Nat.beq m 261 then 130 else 0) else
         (bif Nat.beq m 262 then 14 else 0)))) else
      (bif Nat.blt m 266 then (bif Nat.blt m 264 then (bif Nat.beq m 263 then 15 else 0) else
        (bif Nat.blt m 265 then (bif Nat.beq m 264 then 41 else 0) else
         (bif Nat.beq m 265 then 54 else 0))) else
       (bif Nat.blt m 267 then (bif Nat.beq m 266 then 41 else 0) else
        (bif Nat.blt m 268 then (bif Nat.beq m 267 then 41 else 0) else
         (bif Nat.beq m 268 then 61 else 0)))))) else
    (bif Nat.blt m 281 then (bif Nat.blt m 275 then (bif Nat.blt m 272 then (bif Nat.blt m 270 then (bif Nat.beq m 269 then 51 else 0) else
        (bif Nat.blt m 271 then (bif Nat.beq m 270 then 112 else 0) else
         (bif Nat.beq m 271 then 100 else 0))) else
       (bif Nat.blt m 273 then (bif Nat.beq m 272 then 37 else 0) else
        (bif Nat.blt m 274 then (bif Nat.beq m 273 then 84 else 0) else
         (bif Nat.beq m 274 then 108 else 0)))) else
      (bif Nat.blt m 278 then (bif Nat.blt m 276 then (bif Nat.beq m 275 then 34 else 0) else
        (bif Nat.blt m 277 then (bif Nat.beq m 276 then 148 else 0) else
         (bif Nat.beq m 277 then 12 else 0))) else
       (bif Nat.blt m 279 then (bif Nat.beq m 278 then 32 else 0) else
        (bif Nat.blt m 280 then (bif Nat.beq m 279 then 63 else 0) else
         (bif Nat.beq m 280 then 10 else 0))))) else
     (bif Nat.blt m 287 then (bif Nat.blt m 284 then (bif Nat.blt m 282 then (bif Nat.beq m 281 then 7 else 0) else
        (bif Nat.blt m 283 then (bif Nat.beq m 282 then 10 else 0) else
         (bif Nat.beq m 283 then 55 else 0))) else
       (bif Nat.blt m 285 then (bif Nat.beq m 284 then 7 else 0) else
        (bif Nat.blt m 286 then (bif Nat.beq m 285 then 44 else 0) else
         (bif Nat.beq m 286 then 8 else 0)))) else
      (bif Nat.blt m 290 then (bif Nat.blt m 288 then (bif Nat.beq m 287 then 28 else 0) else
        (bif Nat.blt m 289 then (bif Nat.beq m 288 then 13 else 0) else
         (bif Nat.beq m 289 then 111 else 0))) else
       (bif Nat.blt m 292 then (bif Nat.blt m 291 then (bif Nat.beq m 290 then 12 else 0) else
         (bif Nat.beq m 291 then 34 else 0)) else
        (bif Nat.blt m 293 then (bif Nat.beq m 292 then 34 else 0) else
         (bif Nat.beq m 293 then 27 else 0)))))))) else
  (bif Nat.blt m 343 then (bif Nat.blt m 318 then (bif Nat.blt m 306 then (bif Nat.blt m 300 then (bif Nat.blt m 297 then (bif Nat.blt m 295 then (bif Nat.beq m 294 then 42 else 0) else
        (bif Nat.blt m 296 then (bif Nat.beq m 295 then 34 else 0) else
         (bif Nat.beq m 296 then 37 else 0))) else
       (bif Nat.blt m 298 then (bif Nat.beq m 297 then 34 else 0) else
        (bif Nat.blt m 299 then (bif Nat.beq m 298 then 38 else 0) else
         (bif Nat.beq m 299 then 39 else 0)))) else
      (bif Nat.blt m 303 then (bif Nat.blt m 301 then (bif Nat.beq m 300 then 64 else 0) else
        (bif Nat.blt m 302 then (bif Nat.beq m 301 then 22 else 0) else
         (bif Nat.beq m 302 then 16 else 0))) else
       (bif Nat.blt m 304 then (bif Nat.beq m 303 then 80 else 0) else
        (bif Nat.blt m 305 then (bif Nat.beq m 304 then 9 else 0) else
         (bif Nat.beq m 305 then 36 else 0))))) else
     (bif Nat.blt m 312 then (bif Nat.blt m 309 then (bif Nat.blt m 307 then (bif Nat.beq m 306 then 35 else 0) else
        (bif Nat.blt m 308 then (bif Nat.beq m 307 then 61 else 0) else
         (bif Nat.beq m 308 then 10 else 0))) else
       (bif Nat.blt m 310 then (bif Nat.beq m 309 then 62 else 0) else
        (bif Nat.blt m 311 then (bif Nat.beq m 310 then 12 else 0) else
         (bif Nat.beq m 311 then 22 else 0)))) else
      (bif Nat.blt m 315 then (bif Nat.blt m 313 then (bif Nat.beq m 312 then 93 else 0) else
        (bif Nat.blt m 314 then (bif Nat.beq m 313 then 15 else 0) else
         (bif Nat.beq m 314 then 95 else 0))) else
       (bif Nat.blt m 316 then (bif Nat.beq m 315 then 26 else 0) else
        (bif Nat.blt m 317 then (bif Nat.beq m 316 then 66 else 0) else
         (bif Nat.beq m 317 then 17 else 0)))))) else
    (bif Nat.blt m 330 then (bif Nat.blt m 324 then (bif Nat.blt m 321 then (bif Nat.blt m 319 then (bif Nat.beq m 318 then 39 else 0) else
        (bif Nat.blt m 320 then (bif Nat.beq m 319 then 92 else 0) else
         (bif Nat.beq m 320 then 67 else 0))) else
       (bif Nat.blt m 322 then (bif Nat.beq m 321 then 139 else 0) else
        (bif Nat.blt m 323 then (bif Nat.beq m 322 then 37 else 0) else
         (bif Nat.beq m 323 then 44 else 0)))) else
      (bif Nat.blt m 327 then (bif Nat.blt m 325 then (bif Nat.beq m 324 then 20 else 0) else
        (bif Nat.blt m 326 then (bif Nat.beq m 325 then 73 else 0) else
         (bif Nat.beq m 326 then 38 else 0))) else
       (bif Nat.blt m 328 then (bif Nat.beq m 327 then 28 else 0) else
        (bif Nat.blt m 329 then (bif Nat.beq m 328 then 26 else 0) else
         (bif Nat.beq m 329 then 109 else 0))))) else
     (bif Nat.blt m 336 then (bif Nat.blt m 333 then (bif Nat.blt m 331 then (bif Nat.beq m 330 then 51 else 0) else
        (bif Nat.blt m 332 then (bif Nat.beq m 331 then 50 else 0) else
         (bif Nat.beq m 332 then 22 else 0))) else
       (bif Nat.blt m 334 then (bif Nat.beq m 333 then 59 else 0) else
        (bif Nat.blt m 335 then (bif Nat.beq m 334 then 31 else 0) else
         (bif Nat.beq m 335 then 29 else 0)))) else
      (bif Nat.blt m 339 then (bif Nat.blt m 337 then (bif Nat.beq m 336 then 90 else 0) else
        (bif Nat.blt m 338 then (bif Nat.beq m 337 then 48 else 0) else
         (bif Nat.beq m 338 then 43 else 0))) else
       (bif Nat.blt m 341 then (bif Nat.blt m 340 then (bif Nat.beq m 339 then 10 else 0) else
         (bif Nat.beq m 340 then 127 else 0)) else
        (bif Nat.blt m 342 then (bif Nat.beq m 341 then 99 else 0) else
         (bif Nat.beq m 342 then 43 else 0))))))) else
   (bif Nat.blt m 368 then (bif Nat.blt m 355 then (bif Nat.blt m 349 then (bif Nat.blt m 346 then (bif Nat.blt m 344 then (bif Nat.beq m 343 then 66 else 0) else
        (bif Nat.blt m 345 then (bif Nat.beq m 344 then 122 else 0) else
         (bif Nat.beq m 345 then 57 else 0))) else
       (bif Nat.blt m 347 then (bif Nat.beq m 346 then 62 else 0) else
        (bif Nat.blt m 348 then (bif Nat.beq m 347 then 78 else 0) else
         (bif Nat.beq m 348 then 68 else 0)))) else
      (bif Nat.blt m 352 then (bif Nat.blt m 350 then (bif Nat.beq m 349 then 78 else 0) else
        (bif Nat.blt m 351 then (bif Nat.beq m 350 then 25 else 0) else
         (bif Nat.beq m 351 then 20 else 0))) else
       (bif Nat.blt m 353 then (bif Nat.beq m 352 then 17 else 0) else
        (bif Nat.blt m 354 then (bif Nat.beq m 353 then 23 else 0) else
         (bif Nat.beq m 354 then 22 else 0))))) else
     (bif Nat.blt m 361 then (bif Nat.blt m 358 then (bif Nat.blt m 356 then (bif Nat.beq m 355 then 23 else 0) else
        (bif Nat.blt m 357 then (bif Nat.beq m 356 then 16 else 0) else
         (bif Nat.beq m 357 then 23 else 0))) else
       (bif Nat.blt m 359 then (bif Nat.beq m 358 then 16 else 0) else
        (bif Nat.blt m 360 then (bif Nat.beq m 359 then 17 else 0) else
         (bif Nat.beq m 360 then 17 else 0)))) else
      (bif Nat.blt m 364 then (bif Nat.blt m 362 then (bif Nat.beq m 361 then 17 else 0) else
        (bif Nat.blt m 363 then (bif Nat.beq m 362 then 17 else 0) else
         (bif Nat.beq m 363 then 16 else 0))) else
       (bif Nat.blt m 366 then (bif Nat.blt m 365 then (bif Nat.beq m 364 then 17 else 0) else
         (bif Nat.beq m 365 then 17 else 0)) else
        (bif Nat.blt m 367 then (bif Nat.beq m 366 then 17 else 0) else
         (bif Nat.beq m 367 then 16 else 0)))))) else
    (bif Nat.blt m 380 then (bif Nat.blt m 374 then (bif Nat.blt m 371 then (bif Nat.blt m 369 then (bif Nat.beq m 368 then 16 else 0) else
        (bif Nat.blt m 370 then (bif Nat.beq m 369 then 17 else 0) else
         (bif Nat.beq m 370 then 17 else 0))) else
       (bif Nat.blt m 372 then (bif Nat.beq m 371 then 17 else 0) else
        (bif Nat.blt m 373 then (bif Nat.beq m 372 then 17 else 0) else
         (bif Nat.beq m 373 then 20 else 0)))) else
      (bif Nat.blt m 377 then (bif Nat.blt m 375 then (bif Nat.beq m 374 then 20 else 0) else
        (bif Nat.blt m 376 then (bif Nat.beq m 375 then 27 else 0) else
         (bif Nat.beq m 376 then 27 else 0))) else
       (bif Nat.blt m 378 then (bif Nat.beq m 377 then 23 else 0) else
        (bif Nat.blt m 379 then (bif Nat.beq m 378 then 23 else 0) else
         (bif Nat.beq m 379 then 20 else 0))))) else
     (bif Nat.blt m 386 then (bif Nat.blt m 383 then (bif Nat.blt m 381 then (bif Nat.beq m 380 then 16 else 0) else
        (bif Nat.blt m 382 then (bif Nat.beq m 381 then 17 else 0) else
         (bif Nat.beq m 382 then 11 else 0))) else
       (bif Nat.blt m 384 then (bif Nat.beq m 383 then 11 else 0) else
        (bif Nat.blt m 385 then (bif Nat.beq m 384 then 20 else 0) else
         (bif Nat.beq m 385 then 61 else 0)))) else
      (bif Nat.blt m 389 then (bif Nat.blt m 387 then (bif Nat.beq m 386 then 23 else 0) else
        (bif Nat.blt m 388 then (bif Nat.beq m 387 then 21 else 0) else
         (bif Nat.beq m 388 then 15 else 0))) else
       (bif Nat.blt m 391 then (bif Nat.blt m 390 then (bif Nat.beq m 389 then 12 else 0) else
         (bif Nat.beq m 390 then 16 else 0)) else
        (bif Nat.blt m 392 then (bif Nat.beq m 391 then 12 else 0) else
         (bif Nat.beq m 392 then 2386 else 0))))))))))
noncomputable def zret (m : Nat) : Option FieldType :=
 (bif Nat.blt m 196 then (bif Nat.blt m 98 then (bif Nat.blt m 49 then (bif Nat.blt m 24 then (bif Nat.blt m 12 then (bif Nat.blt m 6 then (bif Nat.blt m 3 then (bif Nat.blt m 1 then (bif Nat.beq m 0 then none else none) else
        (bif Nat.blt m 2 then (bif Nat.beq m 1 then none else none) else
         (bif Nat.beq m 2 then none else none))) else
       (bif Nat.blt m 4 then (bif Nat.beq m 3 then none else none) else
        (bif Nat.blt m 5 then (bif Nat.beq m 4 then some .long else none) else
         (bif Nat.beq m 5 then some .long else none)))) else
      (bif Nat.blt m 9 then (bif Nat.blt m 7 then (bif Nat.beq m 6 then some .long else none) else
        (bif Nat.blt m 8 then (bif Nat.beq m 7 then none else none) else
         (bif Nat.beq m 8 then some .long else none))) else
       (bif Nat.blt m 10 then (bif Nat.beq m 9 then some .long else none) else
        (bif Nat.blt m 11 then (bif Nat.beq m 10 then some .int else none) else
         (bif Nat.beq m 11 then some .int else none))))) else
     (bif Nat.blt m 18 then (bif Nat.blt m 15 then (bif Nat.blt m 13 then (bif Nat.beq m 12 then some .long else none) else
        (bif Nat.blt m 14 then (bif Nat.beq m 13 then none else none) else
         (bif Nat.beq m 14 then some .int else none))) else
       (bif Nat.blt m 16 then (bif Nat.beq m 15 then none else none) else
        (bif Nat.blt m 17 then (bif Nat.beq m 16 then none else none) else
         (bif Nat.beq m 17 then none else none)))) else
      (bif Nat.blt m 21 then (bif Nat.blt m 19 then (bif Nat.beq m 18 then some .boolean else none) else
        (bif Nat.blt m 20 then (bif Nat.beq m 19 then none else none) else
         (bif Nat.beq m 20 then none else none))) else
       (bif Nat.blt m 22 then (bif Nat.beq m 21 then none else none) else
        (bif Nat.blt m 23 then (bif Nat.beq m 22 then some .int else none) else
         (bif Nat.beq m 23 then none else none)))))) else
    (bif Nat.blt m 36 then (bif Nat.blt m 30 then (bif Nat.blt m 27 then (bif Nat.blt m 25 then (bif Nat.beq m 24 then none else none) else
        (bif Nat.blt m 26 then (bif Nat.beq m 25 then none else none) else
         (bif Nat.beq m 26 then none else none))) else
       (bif Nat.blt m 28 then (bif Nat.beq m 27 then none else none) else
        (bif Nat.blt m 29 then (bif Nat.beq m 28 then some (.object "BackwardProofs$Formula") else none) else
         (bif Nat.beq m 29 then some .boolean else none)))) else
      (bif Nat.blt m 33 then (bif Nat.blt m 31 then (bif Nat.beq m 30 then none else none) else
        (bif Nat.blt m 32 then (bif Nat.beq m 31 then none else none) else
         (bif Nat.beq m 32 then none else none))) else
       (bif Nat.blt m 34 then (bif Nat.beq m 33 then none else none) else
        (bif Nat.blt m 35 then (bif Nat.beq m 34 then some (.object "BackwardProofs$Formula") else none) else
         (bif Nat.beq m 35 then none else none))))) else
     (bif Nat.blt m 42 then (bif Nat.blt m 39 then (bif Nat.blt m 37 then (bif Nat.beq m 36 then some .int else none) else
        (bif Nat.blt m 38 then (bif Nat.beq m 37 then some .boolean else none) else
         (bif Nat.beq m 38 then some .int else none))) else
       (bif Nat.blt m 40 then (bif Nat.beq m 39 then some .int else none) else
        (bif Nat.blt m 41 then (bif Nat.beq m 40 then some .int else none) else
         (bif Nat.beq m 41 then some .int else none)))) else
      (bif Nat.blt m 45 then (bif Nat.blt m 43 then (bif Nat.beq m 42 then some .int else none) else
        (bif Nat.blt m 44 then (bif Nat.beq m 43 then some .int else none) else
         (bif Nat.beq m 44 then none else none))) else
       (bif Nat.blt m 47 then (bif Nat.blt m 46 then (bif Nat.beq m 45 then none else none) else
         (bif Nat.beq m 46 then some .int else none)) else
        (bif Nat.blt m 48 then (bif Nat.beq m 47 then some .int else none) else
         (bif Nat.beq m 48 then some .int else none))))))) else
   (bif Nat.blt m 73 then (bif Nat.blt m 61 then (bif Nat.blt m 55 then (bif Nat.blt m 52 then (bif Nat.blt m 50 then (bif Nat.beq m 49 then none else none) else
        (bif Nat.blt m 51 then (bif Nat.beq m 50 then some .int else none) else
         (bif Nat.beq m 51 then some .int else none))) else
       (bif Nat.blt m 53 then (bif Nat.beq m 52 then some (.object "BackwardProofs$Formula") else none) else
        (bif Nat.blt m 54 then (bif Nat.beq m 53 then some .int else none) else
         (bif Nat.beq m 54 then some .int else none)))) else
      (bif Nat.blt m 58 then (bif Nat.blt m 56 then (bif Nat.beq m 55 then some .int else none) else
        (bif Nat.blt m 57 then (bif Nat.beq m 56 then some .int else none) else
         (bif Nat.beq m 57 then none else none))) else
       (bif Nat.blt m 59 then (bif Nat.beq m 58 then none else none) else
        (bif Nat.blt m 60 then (bif Nat.beq m 59 then none else none) else
         (bif Nat.beq m 60 then some .int else none))))) else
     (bif Nat.blt m 67 then (bif Nat.blt m 64 then (bif Nat.blt m 62 then (bif Nat.beq m 61 then none else none) else
        (bif Nat.blt m 63 then (bif Nat.beq m 62 then none else none) else
         (bif Nat.beq m 63 then some .int else none))) else
       (bif Nat.blt m 65 then (bif Nat.beq m 64 then some .long else none) else
        (bif Nat.blt m 66 then (bif Nat.beq m 65 then some .int else none) else
         (bif Nat.beq m 66 then some .int else none)))) else
      (bif Nat.blt m 70 then (bif Nat.blt m 68 then (bif Nat.beq m 67 then some .boolean else none) else
        (bif Nat.blt m 69 then (bif Nat.beq m 68 then none else none) else
         (bif Nat.beq m 69 then none else none))) else
       (bif Nat.blt m 71 then (bif Nat.beq m 70 then some .int else none) else
        (bif Nat.blt m 72 then (bif Nat.beq m 71 then some .boolean else none) else
         (bif Nat.beq m 72 then some .int else none)))))) else
    (bif Nat.blt m 85 then (bif Nat.blt m 79 then (bif Nat.blt m 76 then (bif Nat.blt m 74 then (bif Nat.beq m 73 then some .double else none) else
        (bif Nat.blt m 75 then (bif Nat.beq m 74 then some .long else none) else
         (bif Nat.beq m 75 then some .int else none))) else
       (bif Nat.blt m 77 then (bif Nat.beq m 76 then some .float else none) else
        (bif Nat.blt m 78 then (bif Nat.beq m 77 then some .int else none) else
         (bif Nat.beq m 78 then some .long else none)))) else
      (bif Nat.blt m 82 then (bif Nat.blt m 80 then (bif Nat.beq m 79 then some .boolean else none) else
        (bif Nat.blt m 81 then (bif Nat.beq m 80 then some .int else none) else
         (bif Nat.beq m 81 then none else none))) else
       (bif Nat.blt m 83 then (bif Nat.beq m 82 then none else none) else
        (bif Nat.blt m 84 then (bif Nat.beq m 83 then none else none) else
         (bif Nat.beq m 84 then some .int else none))))) else
     (bif Nat.blt m 91 then (bif Nat.blt m 88 then (bif Nat.blt m 86 then (bif Nat.beq m 85 then some .int else none) else
        (bif Nat.blt m 87 then (bif Nat.beq m 86 then some .boolean else none) else
         (bif Nat.beq m 87 then some .int else none))) else
       (bif Nat.blt m 89 then (bif Nat.beq m 88 then some .boolean else none) else
        (bif Nat.blt m 90 then (bif Nat.beq m 89 then some .int else none) else
         (bif Nat.beq m 90 then some .int else none)))) else
      (bif Nat.blt m 94 then (bif Nat.blt m 92 then (bif Nat.beq m 91 then none else none) else
        (bif Nat.blt m 93 then (bif Nat.beq m 92 then none else none) else
         (bif Nat.beq m 93 then some .int else none))) else
       (bif Nat.blt m 96 then (bif Nat.blt m 95 then (bif Nat.beq m 94 then none else none) else
         (bif Nat.beq m 95 then none else none)) else
        (bif Nat.blt m 97 then (bif Nat.beq m 96 then none else none) else
         (bif Nat.beq m 97 then none else none)))))))) else
  (bif Nat.blt m 147 then (bif Nat.blt m 122 then (bif Nat.blt m 110 then (bif Nat.blt m 104 then (bif Nat.blt m 101 then (bif Nat.blt m 99 then (bif Nat.beq m 98 then none else none) else
        (bif Nat.blt m 100 then (bif Nat.beq m 99 then some .long else none) else
         (bif Nat.beq m 100 then none else none))) else
       (bif Nat.blt m 102 then (bif Nat.beq m 101 then none else none) else
        (bif Nat.blt m 103 then (bif Nat.beq m 102 then some .boolean else none) else
         (bif Nat.beq m 103 then some .long else none)))) else
      (bif Nat.blt m 107 then (bif Nat.blt m 105 then (bif Nat.beq m 104 then some .boolean else none) else
        (bif Nat.blt m 106 then (bif Nat.beq m 105 then some .int else none) else
         (bif Nat.beq m 106 then some .int else none))) else
       (bif Nat.blt m 108 then (bif Nat.beq m 107 then some .long else none) else
        (bif Nat.blt m 109 then (bif Nat.beq m 108 then some .int else none) else
         (bif Nat.beq m 109 then some .int else none))))) else
     (bif Nat.blt m 116 then (bif Nat.blt m 113 then (bif Nat.blt m 111 then (bif Nat.beq m 110 then some .int else none) else
        (bif Nat.blt m 112 then (bif Nat.beq m 111 then some (.object "BackwardProofs$Formula") else none) else
         (bif Nat.beq m 112 then some .int else none))) else
       (bif Nat.blt m 114 then (bif Nat.beq m 113 then none else none) else
        (bif Nat.blt m 115 then (bif Nat.beq m 114 then none else none) else
         (bif Nat.beq m 115 then none else none)))) else
      (bif Nat.blt m 119 then (bif Nat.blt m 117 then (bif Nat.beq m 116 then none else none) else
        (bif Nat.blt m 118 then (bif Nat.beq m 117 then some .int else none) else
         (bif Nat.beq m 118 then none else none))) else
       (bif Nat.blt m 120 then (bif Nat.beq m 119 then none else none) else
        (bif Nat.blt m 121 then (bif Nat.beq m 120 then some .int else none) else
         (bif Nat.beq m 121 then none else none)))))) else
    (bif Nat.blt m 134 then (bif Nat.blt m 128 then (bif Nat.blt m 125 then (bif Nat.blt m 123 then (bif Nat.beq m 122 then some (.array .byte) else none) else
        (bif Nat.blt m 124 then (bif Nat.beq m 123 then none else none) else
         (bif Nat.beq m 124 then none else none))) else
       (bif Nat.blt m 126 then (bif Nat.beq m 125 then none else none) else
        (bif Nat.blt m 127 then (bif Nat.beq m 126 then some .boolean else none) else
         (bif Nat.beq m 127 then none else none)))) else
      (bif Nat.blt m 131 then (bif Nat.blt m 129 then (bif Nat.beq m 128 then some .int else none) else
        (bif Nat.blt m 130 then (bif Nat.beq m 129 then some (.object "BackwardProofs$Formula") else none) else
         (bif Nat.beq m 130 then some (.object "BackwardProofs$Formula") else none))) else
       (bif Nat.blt m 132 then (bif Nat.beq m 131 then some .int else none) else
        (bif Nat.blt m 133 then (bif Nat.beq m 132 then some .int else none) else
         (bif Nat.beq m 133 then none else none))))) else
     (bif Nat.blt m 140 then (bif Nat.blt m 137 then (bif Nat.blt m 135 then (bif Nat.beq m 134 then none else none) else
        (bif Nat.blt m 136 then (bif Nat.beq m 135 then none else none) else
         (bif Nat.beq m 136 then some .int else none))) else
       (bif Nat.blt m 138 then (bif Nat.beq m 137 then some .int else none) else
        (bif Nat.blt m 139 then (bif Nat.beq m 138 then some (.object "java/lang/String") else none) else
         (bif Nat.beq m 139 then some .boolean else none)))) else
      (bif Nat.blt m 143 then (bif Nat.blt m 141 then (bif Nat.beq m 140 then some .boolean else none) else
        (bif Nat.blt m 142 then (bif Nat.beq m 141 then some .boolean else none) else
         (bif Nat.beq m 142 then some .int else none))) else
       (bif Nat.blt m 145 then (bif Nat.blt m 144 then (bif Nat.beq m 143 then some .int else none) else
         (bif Nat.beq m 144 then some .boolean else none)) else
        (bif Nat.blt m 146 then (bif Nat.beq m 145 then some .boolean else none) else
         (bif Nat.beq m 146 then none else none))))))) else
   (bif Nat.blt m 171 then (bif Nat.blt m 159 then (bif Nat.blt m 153 then (bif Nat.blt m 150 then (bif Nat.blt m 148 then (bif Nat.beq m 147 then some .int else none) else
        (bif Nat.blt m 149 then (bif Nat.beq m 148 then some .int else none) else
         (bif Nat.beq m 149 then some .long else none))) else
       (bif Nat.blt m 151 then (bif Nat.beq m 150 then some .long else none) else
        (bif Nat.blt m 152 then (bif Nat.beq m 151 then some .long else none) else
         (bif Nat.beq m 152 then some .int else none)))) else
      (bif Nat.blt m 156 then (bif Nat.blt m 154 then (bif Nat.beq m 153 then some .long else none) else
        (bif Nat.blt m 155 then (bif Nat.beq m 154 then some .int else none) else
         (bif Nat.beq m 155 then some .double else none))) else
       (bif Nat.blt m 157 then (bif Nat.beq m 156 then some .long else none) else
        (bif Nat.blt m 158 then (bif Nat.beq m 157 then some .float else none) else
         (bif Nat.beq m 158 then some .int else none))))) else
     (bif Nat.blt m 165 then (bif Nat.blt m 162 then (bif Nat.blt m 160 then (bif Nat.beq m 159 then none else none) else
        (bif Nat.blt m 161 then (bif Nat.beq m 160 then some .int else none) else
         (bif Nat.beq m 161 then none else none))) else
       (bif Nat.blt m 163 then (bif Nat.beq m 162 then none else none) else
        (bif Nat.blt m 164 then (bif Nat.beq m 163 then some .int else none) else
         (bif Nat.beq m 164 then some .int else none)))) else
      (bif Nat.blt m 168 then (bif Nat.blt m 166 then (bif Nat.beq m 165 then none else none) else
        (bif Nat.blt m 167 then (bif Nat.beq m 166 then some .int else none) else
         (bif Nat.beq m 167 then some .long else none))) else
       (bif Nat.blt m 169 then (bif Nat.beq m 168 then none else none) else
        (bif Nat.blt m 170 then (bif Nat.beq m 169 then some .int else none) else
         (bif Nat.beq m 170 then none else none)))))) else
    (bif Nat.blt m 183 then (bif Nat.blt m 177 then (bif Nat.blt m 174 then (bif Nat.blt m 172 then (bif Nat.beq m 171 then some .long else none) else
        (bif Nat.blt m 173 then (bif Nat.beq m 172 then some .int else none) else
         (bif Nat.beq m 173 then none else none))) else
       (bif Nat.blt m 175 then (bif Nat.beq m 174 then some .long else none) else
        (bif Nat.blt m 176 then (bif Nat.beq m 175 then some .int else none) else
         (bif Nat.beq m 176 then some .int else none)))) else
      (bif Nat.blt m 180 then (bif Nat.blt m 178 then (bif Nat.beq m 177 then some .float else none) else
        (bif Nat.blt m 179 then (bif Nat.beq m 178 then some .int else none) else
         (bif Nat.beq m 179 then some .long else none))) else
       (bif Nat.blt m 181 then (bif Nat.beq m 180 then some .int else none) else
        (bif Nat.blt m 182 then (bif Nat.beq m 181 then some .int else none) else
         (bif Nat.beq m 182 then none else none))))) else
     (bif Nat.blt m 189 then (bif Nat.blt m 186 then (bif Nat.blt m 184 then (bif Nat.beq m 183 then some .int else none) else
        (bif Nat.blt m 185 then (bif Nat.beq m 184 then some .int else none) else
         (bif Nat.beq m 185 then some .long else none))) else
       (bif Nat.blt m 187 then (bif Nat.beq m 186 then some .long else none) else
        (bif Nat.blt m 188 then (bif Nat.beq m 187 then some .int else none) else
         (bif Nat.beq m 188 then none else none)))) else
      (bif Nat.blt m 192 then (bif Nat.blt m 190 then (bif Nat.beq m 189 then some .int else none) else
        (bif Nat.blt m 191 then (bif Nat.beq m 190 then some .int else none) else
         (bif Nat.beq m 191 then some .int else none))) else
       (bif Nat.blt m 194 then (bif Nat.blt m 193 then (bif Nat.beq m 192 then some .int else none) else
         (bif Nat.beq m 193 then some (.object "BackwardProofs$Formula") else none)) else
        (bif Nat.blt m 195 then (bif Nat.beq m 194 then some .int else none) else
         (bif Nat.beq m 195 then some .int else none))))))))) else
 (bif Nat.blt m 294 then (bif Nat.blt m 245 then (bif Nat.blt m 220 then (bif Nat.blt m 208 then (bif Nat.blt m 202 then (bif Nat.blt m 199 then (bif Nat.blt m 197 then (bif Nat.beq m 196 then some .int else none) else
        (bif Nat.blt m 198 then (bif Nat.beq m 197 then some .int else none) else
         (bif Nat.beq m 198 then some .int else none))) else
       (bif Nat.blt m 200 then (bif Nat.beq m 199 then some .int else none) else
        (bif Nat.blt m 201 then (bif Nat.beq m 200 then none else none) else
         (bif Nat.beq m 201 then some .int else none)))) else
      (bif Nat.blt m 205 then (bif Nat.blt m 203 then (bif Nat.beq m 202 then some .int else none) else
        (bif Nat.blt m 204 then (bif Nat.beq m 203 then none else none) else
         (bif Nat.beq m 204 then none else none))) else
       (bif Nat.blt m 206 then (bif Nat.beq m 205 then some .int else none) else
        (bif Nat.blt m 207 then (bif Nat.beq m 206 then some .int else none) else
         (bif Nat.beq m 207 then some .int else none))))) else
     (bif Nat.blt m 214 then (bif Nat.blt m 211 then (bif Nat.blt m 209 then (bif Nat.beq m 208 then some .int else none) else
        (bif Nat.blt m 210 then (bif Nat.beq m 209 then some .int else none) else
         (bif Nat.beq m 210 then some .int else none))) else
       (bif Nat.blt m 212 then (bif Nat.beq m 211 then none else none) else
        (bif Nat.blt m 213 then (bif Nat.beq m 212 then some .int else none) else
         (bif Nat.beq m 213 then some .int else none)))) else
      (bif Nat.blt m 217 then (bif Nat.blt m 215 then (bif Nat.beq m 214 then some .boolean else none) else
        (bif Nat.blt m 216 then (bif Nat.beq m 215 then none else none) else
         (bif Nat.beq m 216 then none else none))) else
       (bif Nat.blt m 218 then (bif Nat.beq m 217 then none else none) else
        (bif Nat.blt m 219 then (bif Nat.beq m 218 then none else none) else
         (bif Nat.beq m 219 then some .boolean else none)))))) else
    (bif Nat.blt m 232 then (bif Nat.blt m 226 then (bif Nat.blt m 223 then (bif Nat.blt m 221 then (bif Nat.beq m 220 then some .boolean else none) else
        (bif Nat.blt m 222 then (bif Nat.beq m 221 then none else none) else
         (bif Nat.beq m 222 then some .boolean else none))) else
       (bif Nat.blt m 224 then (bif Nat.beq m 223 then none else none) else
        (bif Nat.blt m 225 then (bif Nat.beq m 224 then none else none) else
         (bif Nat.beq m 225 then some .int else none)))) else
      (bif Nat.blt m 229 then (bif Nat.blt m 227 then (bif Nat.beq m 226 then some .boolean else none) else
        (bif Nat.blt m 228 then (bif Nat.beq m 227 then some .int else none) else
         (bif Nat.beq m 228 then some .boolean else none))) else
       (bif Nat.blt m 230 then (bif Nat.beq m 229 then none else none) else
        (bif Nat.blt m 231 then (bif Nat.beq m 230 then none else none) else
         (bif Nat.beq m 231 then some .int else none))))) else
     (bif Nat.blt m 238 then (bif Nat.blt m 235 then (bif Nat.blt m 233 then (bif Nat.beq m 232 then none else none) else
        (bif Nat.blt m 234 then (bif Nat.beq m 233 then none else none) else
         (bif Nat.beq m 234 then none else none))) else
       (bif Nat.blt m 236 then (bif Nat.beq m 235 then some .boolean else none) else
        (bif Nat.blt m 237 then (bif Nat.beq m 236 then some .boolean else none) else
         (bif Nat.beq m 237 then none else none)))) else
      (bif Nat.blt m 241 then (bif Nat.blt m 239 then (bif Nat.beq m 238 then none else none) else
        (bif Nat.blt m 240 then (bif Nat.beq m 239 then some .int else none) else
         (bif Nat.beq m 240 then some .int else none))) else
       (bif Nat.blt m 243 then (bif Nat.blt m 242 then (bif Nat.beq m 241 then some .int else none) else
         (bif Nat.beq m 242 then some .int else none)) else
        (bif Nat.blt m 244 then (bif Nat.beq m 243 then some .int else none) else
         (bif Nat.beq m 244 then some .int else none))))))) else
   (bif Nat.blt m 269 then (bif Nat.blt m 257 then (bif Nat.blt m 251 then (bif Nat.blt m 248 then (bif Nat.blt m 246 then (bif Nat.beq m 245 then some .int else none) else
        (bif Nat.blt m 247 then (bif Nat.beq m 246 then none else none) else
         (bif Nat.beq m 247 then some .long else none))) else
       (bif Nat.blt m 249 then (bif Nat.beq m 248 then some .long else none) else
        (bif Nat.blt m 250 then (bif Nat.beq m 249 then some .int else none) else
         (bif Nat.beq m 250 then none else none)))) else
      (bif Nat.blt m 254 then (bif Nat.blt m 252 then (bif Nat.beq m 251 then some .int else none) else
        (bif Nat.blt m 253 then (bif Nat.beq m 252 then some .int else none) else
         (bif Nat.beq m 253 then some .int else none))) else
       (bif Nat.blt m 255 then (bif Nat.beq m 254 then some .long else none) else
        (bif Nat.blt m 256 then (bif Nat.beq m 255 then some .long else none) else
         (bif Nat.beq m 256 then some .int else none))))) else
     (bif Nat.blt m 263 then (bif Nat.blt m 260 then (bif Nat.blt m 258 then (bif Nat.beq m 257 then some .int else none) else
        (bif Nat.blt m 259 then (bif Nat.beq m 258 then some .int else none) else
         (bif Nat.beq m 259 then some .int else none))) else
       (bif Nat.blt m 261 then (bif Nat.beq m 260 then some .boolean else none) else
        (bif Nat.blt m 262 then (bif Nat.beq m 261 then some .long else none) else
         (bif Nat.beq m 262 then some .long else none)))) else
      (bif Nat.blt m 266 then (bif Nat.blt m 264 then (bif Nat.beq m 263 then some .int else none) else
        (bif Nat.blt m 265 then (bif Nat.beq m 264 then some .int else none) else
         (bif Nat.beq m 265 then some .long else none))) else
       (bif Nat.blt m 267 then (bif Nat.beq m 266 then some .boolean else none) else
        (bif Nat.blt m 268 then (bif Nat.beq m 267 then some .boolean else none) else
         (bif Nat.beq m 268 then none else none)))))) else
    (bif Nat.blt m 281 then (bif Nat.blt m 275 then (bif Nat.blt m 272 then (bif Nat.blt m 270 then (bif Nat.beq m 269 then none else none) else
        (bif Nat.blt m 271 then (bif Nat.beq m 270 then some .boolean else none) else
         (bif Nat.beq m 271 then some .boolean else none))) else
       (bif Nat.blt m 273 then (bif Nat.beq m 272 then none else none) else
        (bif Nat.blt m 274 then (bif Nat.beq m 273 then none else none) else
         (bif Nat.beq m 274 then none else none)))) else
      (bif Nat.blt m 278 then (bif Nat.blt m 276 then (bif Nat.beq m 275 then some .boolean else none) else
        (bif Nat.blt m 277 then (bif Nat.beq m 276 then some .int else none) else
         (bif Nat.beq m 277 then some .boolean else none))) else
       (bif Nat.blt m 279 then (bif Nat.beq m 278 then some .int else none) else
        (bif Nat.blt m 280 then (bif Nat.beq m 279 then some .int else none) else
         (bif Nat.beq m 280 then some .long else none))))) else
     (bif Nat.blt m 287 then (bif Nat.blt m 284 then (bif Nat.blt m 282 then (bif Nat.beq m 281 then some .long else none) else
        (bif Nat.blt m 283 then (bif Nat.beq m 282 then some .long else none) else
         (bif Nat.beq m 283 then some .long else none))) else
       (bif Nat.blt m 285 then (bif Nat.beq m 284 then some .long else none) else
        (bif Nat.blt m 286 then (bif Nat.beq m 285 then some .int else none) else
         (bif Nat.beq m 286 then some .boolean else none)))) else
      (bif Nat.blt m 290 then (bif Nat.blt m 288 then (bif Nat.beq m 287 then some .long else none) else
        (bif Nat.blt m 289 then (bif Nat.beq m 288 then some .long else none) else
         (bif Nat.beq m 289 then some .int else none))) else
       (bif Nat.blt m 292 then (bif Nat.blt m 291 then (bif Nat.beq m 290 then some .boolean else none) else
         (bif Nat.beq m 291 then some .int else none)) else
        (bif Nat.blt m 293 then (bif Nat.beq m 292 then some .int else none) else
         (bif Nat.beq m 293 then some .long else none)))))))) else
  (bif Nat.blt m 343 then (bif Nat.blt m 318 then (bif Nat.blt m 306 then (bif Nat.blt m 300 then (bif Nat.blt m 297 then (bif Nat.blt m 295 then (bif Nat.beq m 294 then some .int else none) else
        (bif Nat.blt m 296 then (bif Nat.beq m 295 then some .int else none) else
         (bif Nat.beq m 296 then some .boolean else none))) else
       (bif Nat.blt m 298 then (bif Nat.beq m 297 then some .int else none) else
        (bif Nat.blt m 299 then (bif Nat.beq m 298 then some .float else none) else
         (bif Nat.beq m 299 then some .int else none)))) else
      (bif Nat.blt m 303 then (bif Nat.blt m 301 then (bif Nat.beq m 300 then some .long else none) else
        (bif Nat.blt m 302 then (bif Nat.beq m 301 then none else none) else
         (bif Nat.beq m 302 then some .boolean else none))) else
       (bif Nat.blt m 304 then (bif Nat.beq m 303 then some .int else none) else
        (bif Nat.blt m 305 then (bif Nat.beq m 304 then some .long else none) else
         (bif Nat.beq m 305 then some .long else none))))) else
     (bif Nat.blt m 312 then (bif Nat.blt m 309 then (bif Nat.blt m 307 then (bif Nat.beq m 306 then some .boolean else none) else
        (bif Nat.blt m 308 then (bif Nat.beq m 307 then some .int else none) else
         (bif Nat.beq m 308 then some .double else none))) else
       (bif Nat.blt m 310 then (bif Nat.beq m 309 then some .double else none) else
        (bif Nat.blt m 311 then (bif Nat.beq m 310 then some .long else none) else
         (bif Nat.beq m 311 then some .float else none)))) else
      (bif Nat.blt m 315 then (bif Nat.blt m 313 then (bif Nat.beq m 312 then some .int else none) else
        (bif Nat.blt m 314 then (bif Nat.beq m 313 then some .int else none) else
         (bif Nat.beq m 314 then some .int else none))) else
       (bif Nat.blt m 316 then (bif Nat.beq m 315 then some .long else none) else
        (bif Nat.blt m 317 then (bif Nat.beq m 316 then some .long else none) else
         (bif Nat.beq m 317 then some .boolean else none)))))) else
    (bif Nat.blt m 330 then (bif Nat.blt m 324 then (bif Nat.blt m 321 then (bif Nat.blt m 319 then (bif Nat.beq m 318 then some .long else none) else
        (bif Nat.blt m 320 then (bif Nat.beq m 319 then some .int else none) else
         (bif Nat.beq m 320 then none else none))) else
       (bif Nat.blt m 322 then (bif Nat.beq m 321 then none else none) else
        (bif Nat.blt m 323 then (bif Nat.beq m 322 then none else none) else
         (bif Nat.beq m 323 then none else none)))) else
      (bif Nat.blt m 327 then (bif Nat.blt m 325 then (bif Nat.beq m 324 then none else none) else
        (bif Nat.blt m 326 then (bif Nat.beq m 325 then none else none) else
         (bif Nat.beq m 326 then none else none))) else
       (bif Nat.blt m 328 then (bif Nat.beq m 327 then none else none) else
        (bif Nat.blt m 329 then (bif Nat.beq m 328 then some .int else none) else
         (bif Nat.beq m 329 then none else none))))) else
     (bif Nat.blt m 336 then (bif Nat.blt m 333 then (bif Nat.blt m 331 then (bif Nat.beq m 330 then none else none) else
        (bif Nat.blt m 332 then (bif Nat.beq m 331 then none else none) else
         (bif Nat.beq m 332 then none else none))) else
       (bif Nat.blt m 334 then (bif Nat.beq m 333 then none else none) else
        (bif Nat.blt m 335 then (bif Nat.beq m 334 then some .int else none) else
         (bif Nat.beq m 335 then some .int else none)))) else
      (bif Nat.blt m 339 then (bif Nat.blt m 337 then (bif Nat.beq m 336 then some .int else none) else
        (bif Nat.blt m 338 then (bif Nat.beq m 337 then some .int else none) else
         (bif Nat.beq m 338 then some .int else none))) else
       (bif Nat.blt m 341 then (bif Nat.blt m 340 then (bif Nat.beq m 339 then some .boolean else none) else
         (bif Nat.beq m 340 then some .boolean else none)) else
        (bif Nat.blt m 342 then (bif Nat.beq m 341 then none else none) else
         (bif Nat.beq m 342 then some .int else none))))))) else
   (bif Nat.blt m 368 then (bif Nat.blt m 355 then (bif Nat.blt m 349 then (bif Nat.blt m 346 then (bif Nat.blt m 344 then (bif Nat.beq m 343 then some .int else none) else
        (bif Nat.blt m 345 then (bif Nat.beq m 344 then some .int else none) else
         (bif Nat.beq m 345 then some .int else none))) else
       (bif Nat.blt m 347 then (bif Nat.beq m 346 then some .int else none) else
        (bif Nat.blt m 348 then (bif Nat.beq m 347 then some .int else none) else
         (bif Nat.beq m 348 then some .int else none)))) else
      (bif Nat.blt m 352 then (bif Nat.blt m 350 then (bif Nat.beq m 349 then some .int else none) else
        (bif Nat.blt m 351 then (bif Nat.beq m 350 then some .int else none) else
         (bif Nat.beq m 351 then some .int else none))) else
       (bif Nat.blt m 353 then (bif Nat.beq m 352 then some .int else none) else
        (bif Nat.blt m 354 then (bif Nat.beq m 353 then some .int else none) else
         (bif Nat.beq m 354 then some .int else none))))) else
     (bif Nat.blt m 361 then (bif Nat.blt m 358 then (bif Nat.blt m 356 then (bif Nat.beq m 355 then some .int else none) else
        (bif Nat.blt m 357 then (bif Nat.beq m 356 then some .int else none) else
         (bif Nat.beq m 357 then some .int else none))) else
       (bif Nat.blt m 359 then (bif Nat.beq m 358 then some .int else none) else
        (bif Nat.blt m 360 then (bif Nat.beq m 359 then some .int else none) else
         (bif Nat.beq m 360 then some .int else none)))) else
      (bif Nat.blt m 364 then (bif Nat.blt m 362 then (bif Nat.beq m 361 then some .int else none) else
        (bif Nat.blt m 363 then (bif Nat.beq m 362 then some .int else none) else
         (bif Nat.beq m 363 then some .int else none))) else
       (bif Nat.blt m 366 then (bif Nat.blt m 365 then (bif Nat.beq m 364 then some .int else none) else
         (bif Nat.beq m 365 then some .int else none)) else
        (bif Nat.blt m 367 then (bif Nat.beq m 366 then some .int else none) else
         (bif Nat.beq m 367 then some .int else none)))))) else
    (bif Nat.blt m 380 then (bif Nat.blt m 374 then (bif Nat.blt m 371 then (bif Nat.blt m 369 then (bif Nat.beq m 368 then some .int else none) else
        (bif Nat.blt m 370 then (bif Nat.beq m 369 then some .int else none) else
         (bif Nat.beq m 370 then some .int else none))) else
       (bif Nat.blt m 372 then (bif Nat.beq m 371 then some .int else none) else
        (bif Nat.blt m 373 then (bif Nat.beq m 372 then some .int else none) else
         (bif Nat.beq m 373 then some .int else none)))) else
      (bif Nat.blt m 377 then (bif Nat.blt m 375 then (bif Nat.beq m 374 then some .int else none) else
        (bif Nat.blt m 376 then (bif Nat.beq m 375 then some .int else none) else
         (bif Nat.beq m 376 then some .int else none))) else
       (bif Nat.blt m 378 then (bif Nat.beq m 377 then some .int else none) else
        (bif Nat.blt m 379 then (bif Nat.beq m 378 then some .int else none) else
         (bif Nat.beq m 379 then some .int else none))))) else
     (bif Nat.blt m 386 then (bif Nat.blt m 383 then (bif Nat.blt m 381 then (bif Nat.beq m 380 then some .int else none) else
        (bif Nat.blt m 382 then (bif Nat.beq m 381 then some .int else none) else
         (bif Nat.beq m 382 then some .int else none))) else
       (bif Nat.blt m 384 then (bif Nat.beq m 383 then some .int else none) else
        (bif Nat.blt m 385 then (bif Nat.beq m 384 then some .int else none) else
         (bif Nat.beq m 385 then some .int else none)))) else
      (bif Nat.blt m 389 then (bif Nat.blt m 387 then (bif Nat.beq m 386 then none else none) else
        (bif Nat.blt m 388 then (bif Nat.beq m 387 then none else none) else
         (bif Nat.beq m 388 then some .int else none))) else
       (bif Nat.blt m 391 then (bif Nat.blt m 390 then (bif Nat.beq m 389 then some .boolean else none) else
         (bif Nat.beq m 390 then some .long else none)) else
        (bif Nat.blt m 392 then (bif Nat.beq m 391 then some .boolean else none) else
         (bif Nat.beq m 392 then some .boolean else none))))))))))
noncomputable def zhh (m : Nat) : List (Nat × Nat × Nat × Nat) :=
 (bif Nat.blt m 366 then (bif Nat.blt m 358 then (bif Nat.blt m 354 then (bif Nat.blt m 352 then (bif Nat.blt m 351 then (bif Nat.beq m 350 then [(0, 16, 19, 13)] else []) else
     (bif Nat.beq m 351 then [(0, 9, 12, 19), (0, 9, 15, 13)] else [])) else
    (bif Nat.blt m 353 then (bif Nat.beq m 352 then [(0, 9, 12, 19)] else []) else
     (bif Nat.beq m 353 then [(0, 10, 13, 28), (0, 10, 17, 19)] else []))) else
   (bif Nat.blt m 356 then (bif Nat.blt m 355 then (bif Nat.beq m 354 then [(0, 9, 12, 28), (0, 9, 16, 19)] else []) else
     (bif Nat.beq m 355 then [(0, 10, 13, 28), (0, 10, 17, 19)] else [])) else
    (bif Nat.blt m 357 then (bif Nat.beq m 356 then [(0, 8, 11, 28)] else []) else
     (bif Nat.beq m 357 then [(0, 10, 13, 28), (0, 10, 17, 19)] else [])))) else
  (bif Nat.blt m 362 then (bif Nat.blt m 360 then (bif Nat.blt m 359 then (bif Nat.beq m 358 then [(0, 8, 11, 28)] else []) else
     (bif Nat.beq m 359 then [(0, 9, 12, 19)] else [])) else
    (bif Nat.blt m 361 then (bif Nat.beq m 360 then [(0, 9, 12, 19)] else []) else
     (bif Nat.beq m 361 then [(0, 9, 12, 19)] else []))) else
   (bif Nat.blt m 364 then (bif Nat.blt m 363 then (bif Nat.beq m 362 then [(0, 9, 12, 19)] else []) else
     (bif Nat.beq m 363 then [(0, 8, 11, 28)] else [])) else
    (bif Nat.blt m 365 then (bif Nat.beq m 364 then [(0, 9, 12, 28)] else []) else
     (bif Nat.beq m 365 then [(0, 9, 12, 28)] else []))))) else
 (bif Nat.blt m 374 then (bif Nat.blt m 370 then (bif Nat.blt m 368 then (bif Nat.blt m 367 then (bif Nat.beq m 366 then [(0, 9, 12, 28)] else []) else
     (bif Nat.beq m 367 then [(0, 8, 11, 28)] else [])) else
    (bif Nat.blt m 369 then (bif Nat.beq m 368 then [(0, 8, 11, 28)] else []) else
     (bif Nat.beq m 369 then [(0, 9, 12, 28)] else []))) else
   (bif Nat.blt m 372 then (bif Nat.blt m 371 then (bif Nat.beq m 370 then [(0, 9, 12, 84)] else []) else
     (bif Nat.beq m 371 then [(0, 9, 12, 28)] else [])) else
    (bif Nat.blt m 373 then (bif Nat.beq m 372 then [(0, 9, 12, 28)] else []) else
     (bif Nat.beq m 373 then [(0, 9, 12, 19), (0, 9, 15, 13)] else [])))) else
  (bif Nat.blt m 378 then (bif Nat.blt m 376 then (bif Nat.blt m 375 then (bif Nat.beq m 374 then [(0, 9, 12, 19), (0, 9, 15, 13)] else []) else
     (bif Nat.beq m 375 then [(0, 10, 13, 28), (0, 10, 17, 19), (0, 10, 21, 13)] else [])) else
    (bif Nat.blt m 377 then (bif Nat.beq m 376 then [(0, 10, 13, 28), (0, 10, 17, 19), (0, 10, 21, 13)] else []) else
     (bif Nat.beq m 377 then [(0, 10, 13, 28), (0, 10, 17, 19)] else []))) else
   (bif Nat.blt m 380 then (bif Nat.blt m 379 then (bif Nat.beq m 378 then [(0, 10, 13, 28), (0, 10, 17, 19)] else []) else
     (bif Nat.beq m 379 then [(0, 9, 12, 19), (0, 9, 15, 13)] else [])) else
    (bif Nat.blt m 381 then (bif Nat.beq m 380 then [(0, 8, 11, 13)] else []) else
     (bif Nat.beq m 381 then [(0, 9, 12, 19)] else []))))))
noncomputable def zpC (m : Nat) : Nat :=
 (bif Nat.blt m 196 then (bif Nat.blt m 98 then (bif Nat.blt m 49 then (bif Nat.blt m 24 then (bif Nat.blt m 12 then (bif Nat.blt m 6 then (bif Nat.blt m 3 then (bif Nat.blt m 1 then (bif Nat.beq m 0 then 2136 else 0) else
        (bif Nat.blt m 2 then (bif Nat.beq m 1 then 3201 else 0) else
         (bif Nat.beq m 2 then 4072 else 0))) else
       (bif Nat.blt m 4 then (bif Nat.beq m 3 then 4084 else 0) else
        (bif Nat.blt m 5 then (bif Nat.beq m 4 then 4094 else 0) else
         (bif Nat.beq m 5 then 4099 else 0)))) else
      (bif Nat.blt m 9 then (bif Nat.blt m 7 then (bif Nat.beq m 6 then 4104 else 0) else
        (bif Nat.blt m 8 then (bif Nat.beq m 7 then 4117 else 0) else
         (bif Nat.beq m 8 then 4122 else 0))) else
       (bif Nat.blt m 10 then (bif Nat.beq m 9 then 4203 else 0) else
        (bif Nat.blt m 11 then (bif Nat.beq m 10 then 5174 else 0) else
         (bif Nat.beq m 11 then 5178 else 0))))) else
     (bif Nat.blt m 18 then (bif Nat.blt m 15 then (bif Nat.blt m 13 then (bif Nat.beq m 12 then 6153 else 0) else
        (bif Nat.blt m 14 then (bif Nat.beq m 13 then 1044 else 0) else
         (bif Nat.beq m 14 then 3209 else 0))) else
       (bif Nat.blt m 16 then (bif Nat.beq m 15 then 1146 else 0) else
        (bif Nat.blt m 17 then (bif Nat.beq m 16 then 5159 else 0) else
         (bif Nat.beq m 17 then 7047 else 0)))) else
      (bif Nat.blt m 21 then (bif Nat.blt m 19 then (bif Nat.beq m 18 then 7118 else 0) else
        (bif Nat.blt m 20 then (bif Nat.beq m 19 then 7122 else 0) else
         (bif Nat.beq m 20 then 7134 else 0))) else
       (bif Nat.blt m 22 then (bif Nat.beq m 21 then 7145 else 0) else
        (bif Nat.blt m 23 then (bif Nat.beq m 22 then 7149 else 0) else
         (bif Nat.beq m 23 then 1076 else 0)))))) else
    (bif Nat.blt m 36 then (bif Nat.blt m 30 then (bif Nat.blt m 27 then (bif Nat.blt m 25 then (bif Nat.beq m 24 then 2231 else 0) else
        (bif Nat.blt m 26 then (bif Nat.beq m 25 then 3070 else 0) else
         (bif Nat.beq m 26 then 3074 else 0))) else
       (bif Nat.blt m 28 then (bif Nat.beq m 27 then 3079 else 0) else
        (bif Nat.blt m 29 then (bif Nat.beq m 28 then 3083 else 0) else
         (bif Nat.beq m 29 then 3087 else 0)))) else
      (bif Nat.blt m 33 then (bif Nat.blt m 31 then (bif Nat.beq m 30 then 3105 else 0) else
        (bif Nat.blt m 32 then (bif Nat.beq m 31 then 3120 else 0) else
         (bif Nat.beq m 32 then 3148 else 0))) else
       (bif Nat.blt m 34 then (bif Nat.beq m 33 then 3178 else 0) else
        (bif Nat.blt m 35 then (bif Nat.beq m 34 then 7043 else 0) else
         (bif Nat.beq m 35 then 1208 else 0))))) else
     (bif Nat.blt m 42 then (bif Nat.blt m 39 then (bif Nat.blt m 37 then (bif Nat.beq m 36 then 3109 else 0) else
        (bif Nat.blt m 38 then (bif Nat.beq m 37 then 3113 else 0) else
         (bif Nat.beq m 38 then 3124 else 0))) else
       (bif Nat.blt m 40 then (bif Nat.beq m 39 then 3128 else 0) else
        (bif Nat.blt m 41 then (bif Nat.beq m 40 then 3132 else 0) else
         (bif Nat.beq m 41 then 3136 else 0)))) else
      (bif Nat.blt m 45 then (bif Nat.blt m 43 then (bif Nat.beq m 42 then 3140 else 0) else
        (bif Nat.blt m 44 then (bif Nat.beq m 43 then 3144 else 0) else
         (bif Nat.beq m 44 then 3155 else 0))) else
       (bif Nat.blt m 47 then (bif Nat.blt m 46 then (bif Nat.beq m 45 then 3159 else 0) else
         (bif Nat.beq m 46 then 3163 else 0)) else
        (bif Nat.blt m 48 then (bif Nat.beq m 47 then 3182 else 0) else
         (bif Nat.beq m 48 then 3187 else 0))))))) else
   (bif Nat.blt m 73 then (bif Nat.blt m 61 then (bif Nat.blt m 55 then (bif Nat.blt m 52 then (bif Nat.blt m 50 then (bif Nat.beq m 49 then 3191 else 0) else
        (bif Nat.blt m 51 then (bif Nat.beq m 50 then 3197 else 0) else
         (bif Nat.beq m 51 then 4009 else 0))) else
       (bif Nat.blt m 53 then (bif Nat.beq m 52 then 4013 else 0) else
        (bif Nat.blt m 54 then (bif Nat.beq m 53 then 4076 else 0) else
         (bif Nat.beq m 54 then 4090 else 0)))) else
      (bif Nat.blt m 58 then (bif Nat.blt m 56 then (bif Nat.beq m 55 then 5214 else 0) else
        (bif Nat.blt m 57 then (bif Nat.beq m 56 then 5219 else 0) else
         (bif Nat.beq m 57 then 2099 else 0))) else
       (bif Nat.blt m 59 then (bif Nat.beq m 58 then 4029 else 0) else
        (bif Nat.blt m 60 then (bif Nat.beq m 59 then 4035 else 0) else
         (bif Nat.beq m 60 then 4051 else 0))))) else
     (bif Nat.blt m 67 then (bif Nat.blt m 64 then (bif Nat.blt m 62 then (bif Nat.beq m 61 then 4056 else 0) else
        (bif Nat.blt m 63 then (bif Nat.beq m 62 then 4060 else 0) else
         (bif Nat.beq m 63 then 4108 else 0))) else
       (bif Nat.blt m 65 then (bif Nat.beq m 64 then 4211 else 0) else
        (bif Nat.blt m 66 then (bif Nat.beq m 65 then 4215 else 0) else
         (bif Nat.beq m 66 then 4225 else 0)))) else
      (bif Nat.blt m 70 then (bif Nat.blt m 68 then (bif Nat.beq m 67 then 4230 else 0) else
        (bif Nat.blt m 69 then (bif Nat.beq m 68 then 4234 else 0) else
         (bif Nat.beq m 69 then 5003 else 0))) else
       (bif Nat.blt m 71 then (bif Nat.beq m 70 then 5008 else 0) else
        (bif Nat.blt m 72 then (bif Nat.beq m 71 then 5012 else 0) else
         (bif Nat.beq m 72 then 5018 else 0)))))) else
    (bif Nat.blt m 85 then (bif Nat.blt m 79 then (bif Nat.blt m 76 then (bif Nat.blt m 74 then (bif Nat.beq m 73 then 5027 else 0) else
        (bif Nat.blt m 75 then (bif Nat.beq m 74 then 5034 else 0) else
         (bif Nat.beq m 75 then 6065 else 0))) else
       (bif Nat.blt m 77 then (bif Nat.beq m 76 then 6076 else 0) else
        (bif Nat.blt m 78 then (bif Nat.beq m 77 then 6086 else 0) else
         (bif Nat.beq m 78 then 6099 else 0)))) else
      (bif Nat.blt m 82 then (bif Nat.blt m 80 then (bif Nat.beq m 79 then 6104 else 0) else
        (bif Nat.blt m 81 then (bif Nat.beq m 80 then 6115 else 0) else
         (bif Nat.beq m 81 then 1082 else 0))) else
       (bif Nat.blt m 83 then (bif Nat.beq m 82 then 2235 else 0) else
        (bif Nat.blt m 84 then (bif Nat.beq m 83 then 3000 else 0) else
         (bif Nat.beq m 84 then 3004 else 0))))) else
     (bif Nat.blt m 91 then (bif Nat.blt m 88 then (bif Nat.blt m 86 then (bif Nat.beq m 85 then 3008 else 0) else
        (bif Nat.blt m 87 then (bif Nat.beq m 86 then 3011 else 0) else
         (bif Nat.beq m 87 then 3015 else 0))) else
       (bif Nat.blt m 89 then (bif Nat.beq m 88 then 3054 else 0) else
        (bif Nat.blt m 90 then (bif Nat.beq m 89 then 3058 else 0) else
         (bif Nat.beq m 90 then 3062 else 0)))) else
      (bif Nat.blt m 94 then (bif Nat.blt m 92 then (bif Nat.beq m 91 then 3066 else 0) else
        (bif Nat.blt m 93 then (bif Nat.beq m 92 then 2032 else 0) else
         (bif Nat.beq m 93 then 2037 else 0))) else
       (bif Nat.blt m 96 then (bif Nat.blt m 95 then (bif Nat.beq m 94 then 3205 else 0) else
         (bif Nat.beq m 95 then 3213 else 0)) else
        (bif Nat.blt m 97 then (bif Nat.beq m 96 then 3218 else 0) else
         (bif Nat.beq m 97 then 3227 else 0)))))))) else
  (bif Nat.blt m 147 then (bif Nat.blt m 122 then (bif Nat.blt m 110 then (bif Nat.blt m 104 then (bif Nat.blt m 101 then (bif Nat.blt m 99 then (bif Nat.beq m 98 then 3231 else 0) else
        (bif Nat.blt m 100 then (bif Nat.beq m 99 then 3235 else 0) else
         (bif Nat.beq m 100 then 3239 else 0))) else
       (bif Nat.blt m 102 then (bif Nat.beq m 101 then 4017 else 0) else
        (bif Nat.blt m 103 then (bif Nat.beq m 102 then 4039 else 0) else
         (bif Nat.beq m 103 then 4043 else 0)))) else
      (bif Nat.blt m 107 then (bif Nat.blt m 105 then (bif Nat.beq m 104 then 4046 else 0) else
        (bif Nat.blt m 106 then (bif Nat.beq m 105 then 4064 else 0) else
         (bif Nat.beq m 106 then 4067 else 0))) else
       (bif Nat.blt m 108 then (bif Nat.beq m 107 then 4080 else 0) else
        (bif Nat.blt m 109 then (bif Nat.beq m 108 then 4127 else 0) else
         (bif Nat.beq m 109 then 5210 else 0))))) else
     (bif Nat.blt m 116 then (bif Nat.blt m 113 then (bif Nat.blt m 111 then (bif Nat.beq m 110 then 6038 else 0) else
        (bif Nat.blt m 112 then (bif Nat.beq m 111 then 6221 else 0) else
         (bif Nat.beq m 112 then 7082 else 0))) else
       (bif Nat.blt m 114 then (bif Nat.beq m 113 then 2158 else 0) else
        (bif Nat.blt m 115 then (bif Nat.beq m 114 then 6172 else 0) else
         (bif Nat.beq m 115 then 6179 else 0)))) else
      (bif Nat.blt m 119 then (bif Nat.blt m 117 then (bif Nat.beq m 116 then 6183 else 0) else
        (bif Nat.blt m 118 then (bif Nat.beq m 117 then 6187 else 0) else
         (bif Nat.beq m 118 then 6191 else 0))) else
       (bif Nat.blt m 120 then (bif Nat.beq m 119 then 6198 else 0) else
        (bif Nat.blt m 121 then (bif Nat.beq m 120 then 6203 else 0) else
         (bif Nat.beq m 121 then 6207 else 0)))))) else
    (bif Nat.blt m 134 then (bif Nat.blt m 128 then (bif Nat.blt m 125 then (bif Nat.blt m 123 then (bif Nat.beq m 122 then 6211 else 0) else
        (bif Nat.blt m 124 then (bif Nat.beq m 123 then 6216 else 0) else
         (bif Nat.beq m 124 then 1153 else 0))) else
       (bif Nat.blt m 126 then (bif Nat.beq m 125 then 3167 else 0) else
        (bif Nat.blt m 127 then (bif Nat.beq m 126 then 3170 else 0) else
         (bif Nat.beq m 127 then 3174 else 0)))) else
      (bif Nat.blt m 131 then (bif Nat.blt m 129 then (bif Nat.beq m 128 then 4005 else 0) else
        (bif Nat.blt m 130 then (bif Nat.beq m 129 then 4021 else 0) else
         (bif Nat.beq m 130 then 4025 else 0))) else
       (bif Nat.blt m 132 then (bif Nat.beq m 131 then 4238 else 0) else
        (bif Nat.blt m 133 then (bif Nat.beq m 132 then 5170 else 0) else
         (bif Nat.beq m 133 then 6135 else 0))))) else
     (bif Nat.blt m 140 then (bif Nat.blt m 137 then (bif Nat.blt m 135 then (bif Nat.beq m 134 then 7054 else 0) else
        (bif Nat.blt m 136 then (bif Nat.beq m 135 then 7103 else 0) else
         (bif Nat.beq m 136 then 2178 else 0))) else
       (bif Nat.blt m 138 then (bif Nat.beq m 137 then 3018 else 0) else
        (bif Nat.blt m 139 then (bif Nat.beq m 138 then 3021 else 0) else
         (bif Nat.beq m 139 then 3051 else 0)))) else
      (bif Nat.blt m 143 then (bif Nat.blt m 141 then (bif Nat.beq m 140 then 3090 else 0) else
        (bif Nat.blt m 142 then (bif Nat.beq m 141 then 3093 else 0) else
         (bif Nat.beq m 142 then 3096 else 0))) else
       (bif Nat.blt m 145 then (bif Nat.blt m 144 then (bif Nat.beq m 143 then 3099 else 0) else
         (bif Nat.beq m 144 then 3116 else 0)) else
        (bif Nat.blt m 146 then (bif Nat.beq m 145 then 3151 else 0) else
         (bif Nat.beq m 146 then 1036 else 0))))))) else
   (bif Nat.blt m 171 then (bif Nat.blt m 159 then (bif Nat.blt m 153 then (bif Nat.blt m 150 then (bif Nat.blt m 148 then (bif Nat.beq m 147 then 4177 else 0) else
        (bif Nat.blt m 149 then (bif Nat.beq m 148 then 4181 else 0) else
         (bif Nat.beq m 149 then 4185 else 0))) else
       (bif Nat.blt m 151 then (bif Nat.beq m 150 then 4189 else 0) else
        (bif Nat.blt m 152 then (bif Nat.beq m 151 then 4193 else 0) else
         (bif Nat.beq m 152 then 4199 else 0)))) else
      (bif Nat.blt m 156 then (bif Nat.blt m 154 then (bif Nat.beq m 153 then 4207 else 0) else
        (bif Nat.blt m 155 then (bif Nat.beq m 154 then 4221 else 0) else
         (bif Nat.beq m 155 then 5023 else 0))) else
       (bif Nat.blt m 157 then (bif Nat.beq m 156 then 5031 else 0) else
        (bif Nat.blt m 158 then (bif Nat.beq m 157 then 5041 else 0) else
         (bif Nat.beq m 158 then 5056 else 0))))) else
     (bif Nat.blt m 165 then (bif Nat.blt m 162 then (bif Nat.blt m 160 then (bif Nat.beq m 159 then 5124 else 0) else
        (bif Nat.blt m 161 then (bif Nat.beq m 160 then 5132 else 0) else
         (bif Nat.beq m 161 then 5136 else 0))) else
       (bif Nat.blt m 163 then (bif Nat.beq m 162 then 5155 else 0) else
        (bif Nat.blt m 164 then (bif Nat.beq m 163 then 5166 else 0) else
         (bif Nat.beq m 164 then 5186 else 0)))) else
      (bif Nat.blt m 168 then (bif Nat.blt m 166 then (bif Nat.beq m 165 then 5190 else 0) else
        (bif Nat.blt m 167 then (bif Nat.beq m 166 then 5226 else 0) else
         (bif Nat.beq m 167 then 5238 else 0))) else
       (bif Nat.blt m 169 then (bif Nat.beq m 168 then 6002 else 0) else
        (bif Nat.blt m 170 then (bif Nat.beq m 169 then 6012 else 0) else
         (bif Nat.beq m 170 then 6016 else 0)))))) else
    (bif Nat.blt m 183 then (bif Nat.blt m 177 then (bif Nat.blt m 174 then (bif Nat.blt m 172 then (bif Nat.beq m 171 then 6024 else 0) else
        (bif Nat.blt m 173 then (bif Nat.beq m 172 then 6031 else 0) else
         (bif Nat.beq m 173 then 6035 else 0))) else
       (bif Nat.blt m 175 then (bif Nat.beq m 174 then 6046 else 0) else
        (bif Nat.blt m 176 then (bif Nat.beq m 175 then 6053 else 0) else
         (bif Nat.beq m 176 then 6061 else 0)))) else
      (bif Nat.blt m 180 then (bif Nat.blt m 178 then (bif Nat.beq m 177 then 6072 else 0) else
        (bif Nat.blt m 179 then (bif Nat.beq m 178 then 6083 else 0) else
         (bif Nat.beq m 179 then 6095 else 0))) else
       (bif Nat.blt m 181 then (bif Nat.beq m 180 then 6111 else 0) else
        (bif Nat.blt m 182 then (bif Nat.beq m 181 then 6122 else 0) else
         (bif Nat.beq m 182 then 6126 else 0))))) else
     (bif Nat.blt m 189 then (bif Nat.blt m 186 then (bif Nat.blt m 184 then (bif Nat.beq m 183 then 6130 else 0) else
        (bif Nat.blt m 185 then (bif Nat.beq m 184 then 6142 else 0) else
         (bif Nat.beq m 185 then 6149 else 0))) else
       (bif Nat.blt m 187 then (bif Nat.beq m 186 then 6160 else 0) else
        (bif Nat.blt m 188 then (bif Nat.beq m 187 then 6168 else 0) else
         (bif Nat.beq m 188 then 6227 else 0)))) else
      (bif Nat.blt m 192 then (bif Nat.blt m 190 then (bif Nat.beq m 189 then 6237 else 0) else
        (bif Nat.blt m 191 then (bif Nat.beq m 190 then 7019 else 0) else
         (bif Nat.beq m 191 then 7026 else 0))) else
       (bif Nat.blt m 194 then (bif Nat.blt m 193 then (bif Nat.beq m 192 then 7035 else 0) else
         (bif Nat.beq m 193 then 7039 else 0)) else
        (bif Nat.blt m 195 then (bif Nat.beq m 194 then 7062 else 0) else
         (bif Nat.beq m 195 then 7069 else 0))))))))) else
 (bif Nat.blt m 294 then (bif Nat.blt m 245 then (bif Nat.blt m 220 then (bif Nat.blt m 208 then (bif Nat.blt m 202 then (bif Nat.blt m 199 then (bif Nat.blt m 197 then (bif Nat.beq m 196 then 7077 else 0) else
        (bif Nat.blt m 198 then (bif Nat.beq m 197 then 7092 else 0) else
         (bif Nat.beq m 198 then 7099 else 0))) else
       (bif Nat.blt m 200 then (bif Nat.beq m 199 then 7110 else 0) else
        (bif Nat.blt m 201 then (bif Nat.beq m 200 then 7114 else 0) else
         (bif Nat.beq m 201 then 7130 else 0)))) else
      (bif Nat.blt m 205 then (bif Nat.blt m 203 then (bif Nat.beq m 202 then 7141 else 0) else
        (bif Nat.blt m 204 then (bif Nat.beq m 203 then 7154 else 0) else
         (bif Nat.beq m 204 then 7159 else 0))) else
       (bif Nat.blt m 206 then (bif Nat.beq m 205 then 7163 else 0) else
        (bif Nat.blt m 207 then (bif Nat.beq m 206 then 7167 else 0) else
         (bif Nat.beq m 207 then 7171 else 0))))) else
     (bif Nat.blt m 214 then (bif Nat.blt m 211 then (bif Nat.blt m 209 then (bif Nat.beq m 208 then 8077 else 0) else
        (bif Nat.blt m 210 then (bif Nat.beq m 209 then 8081 else 0) else
         (bif Nat.beq m 210 then 8085 else 0))) else
       (bif Nat.blt m 212 then (bif Nat.beq m 211 then 8089 else 0) else
        (bif Nat.blt m 213 then (bif Nat.beq m 212 then 8093 else 0) else
         (bif Nat.beq m 213 then 8097 else 0)))) else
      (bif Nat.blt m 217 then (bif Nat.blt m 215 then (bif Nat.beq m 214 then 8100 else 0) else
        (bif Nat.blt m 216 then (bif Nat.beq m 215 then 8104 else 0) else
         (bif Nat.beq m 216 then 8108 else 0))) else
       (bif Nat.blt m 218 then (bif Nat.beq m 217 then 8112 else 0) else
        (bif Nat.blt m 219 then (bif Nat.beq m 218 then 8116 else 0) else
         (bif Nat.beq m 219 then 8119 else 0)))))) else
    (bif Nat.blt m 232 then (bif Nat.blt m 226 then (bif Nat.blt m 223 then (bif Nat.blt m 221 then (bif Nat.beq m 220 then 8122 else 0) else
        (bif Nat.blt m 222 then (bif Nat.beq m 221 then 8126 else 0) else
         (bif Nat.beq m 222 then 8130 else 0))) else
       (bif Nat.blt m 224 then (bif Nat.beq m 223 then 8134 else 0) else
        (bif Nat.blt m 225 then (bif Nat.beq m 224 then 8138 else 0) else
         (bif Nat.beq m 225 then 8142 else 0)))) else
      (bif Nat.blt m 229 then (bif Nat.blt m 227 then (bif Nat.beq m 226 then 8146 else 0) else
        (bif Nat.blt m 228 then (bif Nat.beq m 227 then 8149 else 0) else
         (bif Nat.beq m 228 then 8153 else 0))) else
       (bif Nat.blt m 230 then (bif Nat.beq m 229 then 8157 else 0) else
        (bif Nat.blt m 231 then (bif Nat.beq m 230 then 8161 else 0) else
         (bif Nat.beq m 231 then 8165 else 0))))) else
     (bif Nat.blt m 238 then (bif Nat.blt m 235 then (bif Nat.blt m 233 then (bif Nat.beq m 232 then 8169 else 0) else
        (bif Nat.blt m 234 then (bif Nat.beq m 233 then 8173 else 0) else
         (bif Nat.beq m 234 then 8177 else 0))) else
       (bif Nat.blt m 236 then (bif Nat.beq m 235 then 8181 else 0) else
        (bif Nat.blt m 237 then (bif Nat.beq m 236 then 8185 else 0) else
         (bif Nat.beq m 237 then 8189 else 0)))) else
      (bif Nat.blt m 241 then (bif Nat.blt m 239 then (bif Nat.beq m 238 then 8193 else 0) else
        (bif Nat.blt m 240 then (bif Nat.beq m 239 then 8197 else 0) else
         (bif Nat.beq m 240 then 8201 else 0))) else
       (bif Nat.blt m 243 then (bif Nat.blt m 242 then (bif Nat.beq m 241 then 8205 else 0) else
         (bif Nat.beq m 242 then 8209 else 0)) else
        (bif Nat.blt m 244 then (bif Nat.beq m 243 then 8213 else 0) else
         (bif Nat.beq m 244 then 8217 else 0))))))) else
   (bif Nat.blt m 269 then (bif Nat.blt m 257 then (bif Nat.blt m 251 then (bif Nat.blt m 248 then (bif Nat.blt m 246 then (bif Nat.beq m 245 then 8221 else 0) else
        (bif Nat.blt m 247 then (bif Nat.beq m 246 then 8225 else 0) else
         (bif Nat.beq m 247 then 8229 else 0))) else
       (bif Nat.blt m 249 then (bif Nat.beq m 248 then 8233 else 0) else
        (bif Nat.blt m 250 then (bif Nat.beq m 249 then 8237 else 0) else
         (bif Nat.beq m 250 then 9001 else 0)))) else
      (bif Nat.blt m 254 then (bif Nat.blt m 252 then (bif Nat.beq m 251 then 9004 else 0) else
        (bif Nat.blt m 253 then (bif Nat.beq m 252 then 9007 else 0) else
         (bif Nat.beq m 253 then 9010 else 0))) else
       (bif Nat.blt m 255 then (bif Nat.beq m 254 then 9014 else 0) else
        (bif Nat.blt m 256 then (bif Nat.beq m 255 then 9018 else 0) else
         (bif Nat.beq m 256 then 9023 else 0))))) else
     (bif Nat.blt m 263 then (bif Nat.blt m 260 then (bif Nat.blt m 258 then (bif Nat.beq m 257 then 9026 else 0) else
        (bif Nat.blt m 259 then (bif Nat.beq m 258 then 9030 else 0) else
         (bif Nat.beq m 259 then 9034 else 0))) else
       (bif Nat.blt m 261 then (bif Nat.beq m 260 then 9037 else 0) else
        (bif Nat.blt m 262 then (bif Nat.beq m 261 then 9041 else 0) else
         (bif Nat.beq m 262 then 9045 else 0)))) else
      (bif Nat.blt m 266 then (bif Nat.blt m 264 then (bif Nat.beq m 263 then 9049 else 0) else
        (bif Nat.blt m 265 then (bif Nat.beq m 264 then 9053 else 0) else
         (bif Nat.beq m 265 then 9057 else 0))) else
       (bif Nat.blt m 267 then (bif Nat.beq m 266 then 9061 else 0) else
        (bif Nat.blt m 268 then (bif Nat.beq m 267 then 9065 else 0) else
         (bif Nat.beq m 268 then 9069 else 0)))))) else
    (bif Nat.blt m 281 then (bif Nat.blt m 275 then (bif Nat.blt m 272 then (bif Nat.blt m 270 then (bif Nat.beq m 269 then 9073 else 0) else
        (bif Nat.blt m 271 then (bif Nat.beq m 270 then 9077 else 0) else
         (bif Nat.beq m 271 then 9081 else 0))) else
       (bif Nat.blt m 273 then (bif Nat.beq m 272 then 9085 else 0) else
        (bif Nat.blt m 274 then (bif Nat.beq m 273 then 9090 else 0) else
         (bif Nat.beq m 274 then 9094 else 0)))) else
      (bif Nat.blt m 278 then (bif Nat.blt m 276 then (bif Nat.beq m 275 then 9098 else 0) else
        (bif Nat.blt m 277 then (bif Nat.beq m 276 then 9102 else 0) else
         (bif Nat.beq m 277 then 9106 else 0))) else
       (bif Nat.blt m 279 then (bif Nat.beq m 278 then 9110 else 0) else
        (bif Nat.blt m 280 then (bif Nat.beq m 279 then 9114 else 0) else
         (bif Nat.beq m 280 then 9118 else 0))))) else
     (bif Nat.blt m 287 then (bif Nat.blt m 284 then (bif Nat.blt m 282 then (bif Nat.beq m 281 then 9122 else 0) else
        (bif Nat.blt m 283 then (bif Nat.beq m 282 then 9126 else 0) else
         (bif Nat.beq m 283 then 9130 else 0))) else
       (bif Nat.blt m 285 then (bif Nat.beq m 284 then 9134 else 0) else
        (bif Nat.blt m 286 then (bif Nat.beq m 285 then 9138 else 0) else
         (bif Nat.beq m 286 then 9141 else 0)))) else
      (bif Nat.blt m 290 then (bif Nat.blt m 288 then (bif Nat.beq m 287 then 9145 else 0) else
        (bif Nat.blt m 289 then (bif Nat.beq m 288 then 9149 else 0) else
         (bif Nat.beq m 289 then 9153 else 0))) else
       (bif Nat.blt m 292 then (bif Nat.blt m 291 then (bif Nat.beq m 290 then 9157 else 0) else
         (bif Nat.beq m 291 then 9160 else 0)) else
        (bif Nat.blt m 293 then (bif Nat.beq m 292 then 9163 else 0) else
         (bif Nat.beq m 293 then 9167 else 0)))))))) else
  (bif Nat.blt m 343 then (bif Nat.blt m 318 then (bif Nat.blt m 306 then (bif Nat.blt m 300 then (bif Nat.blt m 297 then (bif Nat.blt m 295 then (bif Nat.beq m 294 then 9171 else 0) else
        (bif Nat.blt m 296 then (bif Nat.beq m 295 then 9175 else 0) else
         (bif Nat.beq m 296 then 9179 else 0))) else
       (bif Nat.blt m 298 then (bif Nat.beq m 297 then 9183 else 0) else
        (bif Nat.blt m 299 then (bif Nat.beq m 298 then 9187 else 0) else
         (bif Nat.beq m 299 then 9192 else 0)))) else
      (bif Nat.blt m 303 then (bif Nat.blt m 301 then (bif Nat.beq m 300 then 9206 else 0) else
        (bif Nat.blt m 302 then (bif Nat.beq m 301 then 9210 else 0) else
         (bif Nat.beq m 302 then 9214 else 0))) else
       (bif Nat.blt m 304 then (bif Nat.beq m 303 then 9218 else 0) else
        (bif Nat.blt m 305 then (bif Nat.beq m 304 then 9222 else 0) else
         (bif Nat.beq m 305 then 9226 else 0))))) else
     (bif Nat.blt m 312 then (bif Nat.blt m 309 then (bif Nat.blt m 307 then (bif Nat.beq m 306 then 9230 else 0) else
        (bif Nat.blt m 308 then (bif Nat.beq m 307 then 9234 else 0) else
         (bif Nat.beq m 308 then 9238 else 0))) else
       (bif Nat.blt m 310 then (bif Nat.beq m 309 then 10002 else 0) else
        (bif Nat.blt m 311 then (bif Nat.beq m 310 then 10006 else 0) else
         (bif Nat.beq m 311 then 10020 else 0)))) else
      (bif Nat.blt m 315 then (bif Nat.blt m 313 then (bif Nat.beq m 312 then 10025 else 0) else
        (bif Nat.blt m 314 then (bif Nat.beq m 313 then 10029 else 0) else
         (bif Nat.beq m 314 then 10033 else 0))) else
       (bif Nat.blt m 316 then (bif Nat.beq m 315 then 10037 else 0) else
        (bif Nat.blt m 317 then (bif Nat.beq m 316 then 10041 else 0) else
         (bif Nat.beq m 317 then 10045 else 0)))))) else
    (bif Nat.blt m 330 then (bif Nat.blt m 324 then (bif Nat.blt m 321 then (bif Nat.blt m 319 then (bif Nat.beq m 318 then 10049 else 0) else
        (bif Nat.blt m 320 then (bif Nat.beq m 319 then 10053 else 0) else
         (bif Nat.beq m 320 then 10057 else 0))) else
       (bif Nat.blt m 322 then (bif Nat.beq m 321 then 10061 else 0) else
        (bif Nat.blt m 323 then (bif Nat.beq m 322 then 10065 else 0) else
         (bif Nat.beq m 323 then 10069 else 0)))) else
      (bif Nat.blt m 327 then (bif Nat.blt m 325 then (bif Nat.beq m 324 then 10073 else 0) else
        (bif Nat.blt m 326 then (bif Nat.beq m 325 then 10077 else 0) else
         (bif Nat.beq m 326 then 10081 else 0))) else
       (bif Nat.blt m 328 then (bif Nat.beq m 327 then 10085 else 0) else
        (bif Nat.blt m 329 then (bif Nat.beq m 328 then 10089 else 0) else
         (bif Nat.beq m 329 then 10093 else 0))))) else
     (bif Nat.blt m 336 then (bif Nat.blt m 333 then (bif Nat.blt m 331 then (bif Nat.beq m 330 then 10097 else 0) else
        (bif Nat.blt m 332 then (bif Nat.beq m 331 then 10101 else 0) else
         (bif Nat.beq m 332 then 10105 else 0))) else
       (bif Nat.blt m 334 then (bif Nat.beq m 333 then 10109 else 0) else
        (bif Nat.blt m 335 then (bif Nat.beq m 334 then 10113 else 0) else
         (bif Nat.beq m 335 then 10117 else 0)))) else
      (bif Nat.blt m 339 then (bif Nat.blt m 337 then (bif Nat.beq m 336 then 10121 else 0) else
        (bif Nat.blt m 338 then (bif Nat.beq m 337 then 10125 else 0) else
         (bif Nat.beq m 338 then 10129 else 0))) else
       (bif Nat.blt m 341 then (bif Nat.blt m 340 then (bif Nat.beq m 339 then 10133 else 0) else
         (bif Nat.beq m 340 then 10137 else 0)) else
        (bif Nat.blt m 342 then (bif Nat.beq m 341 then 10141 else 0) else
         (bif Nat.beq m 342 then 10145 else 0))))))) else
   (bif Nat.blt m 367 then (bif Nat.blt m 355 then (bif Nat.blt m 349 then (bif Nat.blt m 346 then (bif Nat.blt m 344 then (bif Nat.beq m 343 then 10149 else 0) else
        (bif Nat.blt m 345 then (bif Nat.beq m 344 then 10153 else 0) else
         (bif Nat.beq m 345 then 10157 else 0))) else
       (bif Nat.blt m 347 then (bif Nat.beq m 346 then 10161 else 0) else
        (bif Nat.blt m 348 then (bif Nat.beq m 347 then 10165 else 0) else
         (bif Nat.beq m 348 then 10169 else 0)))) else
      (bif Nat.blt m 352 then (bif Nat.blt m 350 then (bif Nat.beq m 349 then 10173 else 0) else
        (bif Nat.blt m 351 then (bif Nat.beq m 350 then 5051 else 0) else
         (bif Nat.beq m 351 then 5127 else 0))) else
       (bif Nat.blt m 353 then (bif Nat.beq m 352 then 5162 else 0) else
        (bif Nat.blt m 354 then (bif Nat.beq m 353 then 5181 else 0) else
         (bif Nat.beq m 354 then 5234 else 0))))) else
     (bif Nat.blt m 361 then (bif Nat.blt m 358 then (bif Nat.blt m 356 then (bif Nat.beq m 355 then 6008 else 0) else
        (bif Nat.blt m 357 then (bif Nat.beq m 356 then 6020 else 0) else
         (bif Nat.beq m 357 then 6027 else 0))) else
       (bif Nat.blt m 359 then (bif Nat.beq m 358 then 6042 else 0) else
        (bif Nat.blt m 360 then (bif Nat.beq m 359 then 6049 else 0) else
         (bif Nat.beq m 360 then 6057 else 0)))) else
      (bif Nat.blt m 364 then (bif Nat.blt m 362 then (bif Nat.beq m 361 then 6068 else 0) else
        (bif Nat.blt m 363 then (bif Nat.beq m 362 then 6079 else 0) else
         (bif Nat.beq m 363 then 6091 else 0))) else
       (bif Nat.blt m 365 then (bif Nat.beq m 364 then 6107 else 0) else
        (bif Nat.blt m 366 then (bif Nat.beq m 365 then 6118 else 0) else
         (bif Nat.beq m 366 then 6138 else 0)))))) else
    (bif Nat.blt m 379 then (bif Nat.blt m 373 then (bif Nat.blt m 370 then (bif Nat.blt m 368 then (bif Nat.beq m 367 then 6145 else 0) else
        (bif Nat.blt m 369 then (bif Nat.beq m 368 then 6156 else 0) else
         (bif Nat.beq m 369 then 6164 else 0))) else
       (bif Nat.blt m 371 then (bif Nat.beq m 370 then 6232 else 0) else
        (bif Nat.blt m 372 then (bif Nat.beq m 371 then 7015 else 0) else
         (bif Nat.beq m 372 then 7022 else 0)))) else
      (bif Nat.blt m 376 then (bif Nat.blt m 374 then (bif Nat.beq m 373 then 7031 else 0) else
        (bif Nat.blt m 375 then (bif Nat.beq m 374 then 7058 else 0) else
         (bif Nat.beq m 375 then 7065 else 0))) else
       (bif Nat.blt m 377 then (bif Nat.beq m 376 then 7073 else 0) else
        (bif Nat.blt m 378 then (bif Nat.beq m 377 then 7088 else 0) else
         (bif Nat.beq m 378 then 7095 else 0))))) else
     (bif Nat.blt m 385 then (bif Nat.blt m 382 then (bif Nat.blt m 380 then (bif Nat.beq m 379 then 7106 else 0) else
        (bif Nat.blt m 381 then (bif Nat.beq m 380 then 7126 else 0) else
         (bif Nat.beq m 381 then 7137 else 0))) else
       (bif Nat.blt m 383 then (bif Nat.beq m 382 then 1048 else 0) else
        (bif Nat.blt m 384 then (bif Nat.beq m 383 then 1061 else 0) else
         (bif Nat.beq m 384 then 7050 else 0)))) else
      (bif Nat.blt m 388 then (bif Nat.blt m 386 then (bif Nat.beq m 385 then 5044 else 0) else
        (bif Nat.blt m 387 then (bif Nat.beq m 386 then 4112 else 0) else
         (bif Nat.beq m 387 then 6175 else 0))) else
       (bif Nat.blt m 390 then (bif Nat.blt m 389 then (bif Nat.beq m 388 then 9195 else 0) else
         (bif Nat.beq m 389 then 9198 else 0)) else
        (bif Nat.blt m 391 then (bif Nat.beq m 390 then 10009 else 0) else
         (bif Nat.beq m 391 then 10012 else 0))))))))))
noncomputable def zpI (m : Nat) : Nat :=
 (bif Nat.blt m 196 then (bif Nat.blt m 98 then (bif Nat.blt m 49 then (bif Nat.blt m 24 then (bif Nat.blt m 12 then (bif Nat.blt m 6 then (bif Nat.blt m 3 then (bif Nat.blt m 1 then (bif Nat.beq m 0 then 2135 else 0) else
        (bif Nat.blt m 2 then (bif Nat.beq m 1 then 3199 else 0) else
         (bif Nat.beq m 2 then 4071 else 0))) else
       (bif Nat.blt m 4 then (bif Nat.beq m 3 then 4083 else 0) else
        (bif Nat.blt m 5 then (bif Nat.beq m 4 then 4092 else 0) else
         (bif Nat.beq m 5 then 4098 else 0)))) else
      (bif Nat.blt m 9 then (bif Nat.blt m 7 then (bif Nat.beq m 6 then 4103 else 0) else
        (bif Nat.blt m 8 then (bif Nat.beq m 7 then 4116 else 0) else
         (bif Nat.beq m 8 then 4121 else 0))) else
       (bif Nat.blt m 10 then (bif Nat.beq m 9 then 4201 else 0) else
        (bif Nat.blt m 11 then (bif Nat.beq m 10 then 5172 else 0) else
         (bif Nat.beq m 11 then 5176 else 0))))) else
     (bif Nat.blt m 18 then (bif Nat.blt m 15 then (bif Nat.blt m 13 then (bif Nat.beq m 12 then 6151 else 0) else
        (bif Nat.blt m 14 then (bif Nat.beq m 13 then 1043 else 0) else
         (bif Nat.beq m 14 then 3207 else 0))) else
       (bif Nat.blt m 16 then (bif Nat.beq m 15 then 1145 else 0) else
        (bif Nat.blt m 17 then (bif Nat.beq m 16 then 5157 else 0) else
         (bif Nat.beq m 17 then 7045 else 0)))) else
      (bif Nat.blt m 21 then (bif Nat.blt m 19 then (bif Nat.beq m 18 then 7116 else 0) else
        (bif Nat.blt m 20 then (bif Nat.beq m 19 then 7120 else 0) else
         (bif Nat.beq m 20 then 7132 else 0))) else
       (bif Nat.blt m 22 then (bif Nat.beq m 21 then 7143 else 0) else
        (bif Nat.blt m 23 then (bif Nat.beq m 22 then 7147 else 0) else
         (bif Nat.beq m 23 then 1075 else 0)))))) else
    (bif Nat.blt m 36 then (bif Nat.blt m 30 then (bif Nat.blt m 27 then (bif Nat.blt m 25 then (bif Nat.beq m 24 then 2229 else 0) else
        (bif Nat.blt m 26 then (bif Nat.beq m 25 then 3068 else 0) else
         (bif Nat.beq m 26 then 3073 else 0))) else
       (bif Nat.blt m 28 then (bif Nat.beq m 27 then 3078 else 0) else
        (bif Nat.blt m 29 then (bif Nat.beq m 28 then 3082 else 0) else
         (bif Nat.beq m 29 then 3086 else 0)))) else
      (bif Nat.blt m 33 then (bif Nat.blt m 31 then (bif Nat.beq m 30 then 3104 else 0) else
        (bif Nat.blt m 32 then (bif Nat.beq m 31 then 3119 else 0) else
         (bif Nat.beq m 32 then 3147 else 0))) else
       (bif Nat.blt m 34 then (bif Nat.beq m 33 then 3177 else 0) else
        (bif Nat.blt m 35 then (bif Nat.beq m 34 then 7041 else 0) else
         (bif Nat.beq m 35 then 1207 else 0))))) else
     (bif Nat.blt m 42 then (bif Nat.blt m 39 then (bif Nat.blt m 37 then (bif Nat.beq m 36 then 3107 else 0) else
        (bif Nat.blt m 38 then (bif Nat.beq m 37 then 3111 else 0) else
         (bif Nat.beq m 38 then 3122 else 0))) else
       (bif Nat.blt m 40 then (bif Nat.beq m 39 then 3126 else 0) else
        (bif Nat.blt m 41 then (bif Nat.beq m 40 then 3130 else 0) else
         (bif Nat.beq m 41 then 3134 else 0)))) else
      (bif Nat.blt m 45 then (bif Nat.blt m 43 then (bif Nat.beq m 42 then 3139 else 0) else
        (bif Nat.blt m 44 then (bif Nat.beq m 43 then 3143 else 0) else
         (bif Nat.beq m 44 then 3153 else 0))) else
       (bif Nat.blt m 47 then (bif Nat.blt m 46 then (bif Nat.beq m 45 then 3157 else 0) else
         (bif Nat.beq m 46 then 3161 else 0)) else
        (bif Nat.blt m 48 then (bif Nat.beq m 47 then 3180 else 0) else
         (bif Nat.beq m 48 then 3185 else 0))))))) else
   (bif Nat.blt m 73 then (bif Nat.blt m 61 then (bif Nat.blt m 55 then (bif Nat.blt m 52 then (bif Nat.blt m 50 then (bif Nat.beq m 49 then 3189 else 0) else
        (bif Nat.blt m 51 then (bif Nat.beq m 50 then 3195 else 0) else
         (bif Nat.beq m 51 then 4007 else 0))) else
       (bif Nat.blt m 53 then (bif Nat.beq m 52 then 4011 else 0) else
        (bif Nat.blt m 54 then (bif Nat.beq m 53 then 4074 else 0) else
         (bif Nat.beq m 54 then 4088 else 0)))) else
      (bif Nat.blt m 58 then (bif Nat.blt m 56 then (bif Nat.beq m 55 then 5212 else 0) else
        (bif Nat.blt m 57 then (bif Nat.beq m 56 then 5217 else 0) else
         (bif Nat.beq m 57 then 2098 else 0))) else
       (bif Nat.blt m 59 then (bif Nat.beq m 58 then 4027 else 0) else
        (bif Nat.blt m 60 then (bif Nat.beq m 59 then 4034 else 0) else
         (bif Nat.beq m 60 then 4049 else 0))))) else
     (bif Nat.blt m 67 then (bif Nat.blt m 64 then (bif Nat.blt m 62 then (bif Nat.beq m 61 then 4055 else 0) else
        (bif Nat.blt m 63 then (bif Nat.beq m 62 then 4059 else 0) else
         (bif Nat.beq m 63 then 4106 else 0))) else
       (bif Nat.blt m 65 then (bif Nat.beq m 64 then 4209 else 0) else
        (bif Nat.blt m 66 then (bif Nat.beq m 65 then 4214 else 0) else
         (bif Nat.beq m 66 then 4223 else 0)))) else
      (bif Nat.blt m 70 then (bif Nat.blt m 68 then (bif Nat.beq m 67 then 4229 else 0) else
        (bif Nat.blt m 69 then (bif Nat.beq m 68 then 4233 else 0) else
         (bif Nat.beq m 69 then 5002 else 0))) else
       (bif Nat.blt m 71 then (bif Nat.beq m 70 then 5007 else 0) else
        (bif Nat.blt m 72 then (bif Nat.beq m 71 then 5011 else 0) else
         (bif Nat.beq m 72 then 5017 else 0)))))) else
    (bif Nat.blt m 85 then (bif Nat.blt m 79 then (bif Nat.blt m 76 then (bif Nat.blt m 74 then (bif Nat.beq m 73 then 5025 else 0) else
        (bif Nat.blt m 75 then (bif Nat.beq m 74 then 5033 else 0) else
         (bif Nat.beq m 75 then 6063 else 0))) else
       (bif Nat.blt m 77 then (bif Nat.beq m 76 then 6074 else 0) else
        (bif Nat.blt m 78 then (bif Nat.beq m 77 then 6085 else 0) else
         (bif Nat.beq m 78 then 6097 else 0)))) else
      (bif Nat.blt m 82 then (bif Nat.blt m 80 then (bif Nat.beq m 79 then 6103 else 0) else
        (bif Nat.blt m 81 then (bif Nat.beq m 80 then 6113 else 0) else
         (bif Nat.beq m 81 then 1081 else 0))) else
       (bif Nat.blt m 83 then (bif Nat.beq m 82 then 2233 else 0) else
        (bif Nat.blt m 84 then (bif Nat.beq m 83 then 2239 else 0) else
         (bif Nat.beq m 84 then 3003 else 0))))) else
     (bif Nat.blt m 91 then (bif Nat.blt m 88 then (bif Nat.blt m 86 then (bif Nat.beq m 85 then 3007 else 0) else
        (bif Nat.blt m 87 then (bif Nat.beq m 86 then 3010 else 0) else
         (bif Nat.beq m 87 then 3014 else 0))) else
       (bif Nat.blt m 89 then (bif Nat.beq m 88 then 3053 else 0) else
        (bif Nat.blt m 90 then (bif Nat.beq m 89 then 3057 else 0) else
         (bif Nat.beq m 90 then 3061 else 0)))) else
      (bif Nat.blt m 94 then (bif Nat.blt m 92 then (bif Nat.beq m 91 then 3064 else 0) else
        (bif Nat.blt m 93 then (bif Nat.beq m 92 then 2031 else 0) else
         (bif Nat.beq m 93 then 2036 else 0))) else
       (bif Nat.blt m 96 then (bif Nat.blt m 95 then (bif Nat.beq m 94 then 3203 else 0) else
         (bif Nat.beq m 95 then 3211 else 0)) else
        (bif Nat.blt m 97 then (bif Nat.beq m 96 then 3217 else 0) else
         (bif Nat.beq m 97 then 3226 else 0)))))))) else
  (bif Nat.blt m 147 then (bif Nat.blt m 122 then (bif Nat.blt m 110 then (bif Nat.blt m 104 then (bif Nat.blt m 101 then (bif Nat.blt m 99 then (bif Nat.beq m 98 then 3230 else 0) else
        (bif Nat.blt m 100 then (bif Nat.beq m 99 then 3233 else 0) else
         (bif Nat.beq m 100 then 3238 else 0))) else
       (bif Nat.blt m 102 then (bif Nat.beq m 101 then 4016 else 0) else
        (bif Nat.blt m 103 then (bif Nat.beq m 102 then 4037 else 0) else
         (bif Nat.beq m 103 then 4041 else 0)))) else
      (bif Nat.blt m 107 then (bif Nat.blt m 105 then (bif Nat.beq m 104 then 4045 else 0) else
        (bif Nat.blt m 106 then (bif Nat.beq m 105 then 4062 else 0) else
         (bif Nat.beq m 106 then 4066 else 0))) else
       (bif Nat.blt m 108 then (bif Nat.beq m 107 then 4078 else 0) else
        (bif Nat.blt m 109 then (bif Nat.beq m 108 then 4125 else 0) else
         (bif Nat.beq m 109 then 5208 else 0))))) else
     (bif Nat.blt m 116 then (bif Nat.blt m 113 then (bif Nat.blt m 111 then (bif Nat.beq m 110 then 6037 else 0) else
        (bif Nat.blt m 112 then (bif Nat.beq m 111 then 6219 else 0) else
         (bif Nat.beq m 112 then 7080 else 0))) else
       (bif Nat.blt m 114 then (bif Nat.beq m 113 then 2157 else 0) else
        (bif Nat.blt m 115 then (bif Nat.beq m 114 then 6170 else 0) else
         (bif Nat.beq m 115 then 6178 else 0)))) else
      (bif Nat.blt m 119 then (bif Nat.blt m 117 then (bif Nat.beq m 116 then 6182 else 0) else
        (bif Nat.blt m 118 then (bif Nat.beq m 117 then 6185 else 0) else
         (bif Nat.beq m 118 then 6190 else 0))) else
       (bif Nat.blt m 120 then (bif Nat.beq m 119 then 6197 else 0) else
        (bif Nat.blt m 121 then (bif Nat.beq m 120 then 6202 else 0) else
         (bif Nat.beq m 121 then 6206 else 0)))))) else
    (bif Nat.blt m 134 then (bif Nat.blt m 128 then (bif Nat.blt m 125 then (bif Nat.blt m 123 then (bif Nat.beq m 122 then 6209 else 0) else
        (bif Nat.blt m 124 then (bif Nat.beq m 123 then 6215 else 0) else
         (bif Nat.beq m 124 then 1152 else 0))) else
       (bif Nat.blt m 126 then (bif Nat.beq m 125 then 3165 else 0) else
        (bif Nat.blt m 127 then (bif Nat.beq m 126 then 3169 else 0) else
         (bif Nat.beq m 127 then 3172 else 0)))) else
      (bif Nat.blt m 131 then (bif Nat.blt m 129 then (bif Nat.beq m 128 then 4003 else 0) else
        (bif Nat.blt m 130 then (bif Nat.beq m 129 then 4019 else 0) else
         (bif Nat.beq m 130 then 4023 else 0))) else
       (bif Nat.blt m 132 then (bif Nat.beq m 131 then 4236 else 0) else
        (bif Nat.blt m 133 then (bif Nat.beq m 132 then 5168 else 0) else
         (bif Nat.beq m 133 then 6133 else 0))))) else
     (bif Nat.blt m 140 then (bif Nat.blt m 137 then (bif Nat.blt m 135 then (bif Nat.beq m 134 then 7052 else 0) else
        (bif Nat.blt m 136 then (bif Nat.beq m 135 then 7101 else 0) else
         (bif Nat.beq m 136 then 2177 else 0))) else
       (bif Nat.blt m 138 then (bif Nat.beq m 137 then 3017 else 0) else
        (bif Nat.blt m 139 then (bif Nat.beq m 138 then 3020 else 0) else
         (bif Nat.beq m 139 then 3050 else 0)))) else
      (bif Nat.blt m 143 then (bif Nat.blt m 141 then (bif Nat.beq m 140 then 3089 else 0) else
        (bif Nat.blt m 142 then (bif Nat.beq m 141 then 3092 else 0) else
         (bif Nat.beq m 142 then 3095 else 0))) else
       (bif Nat.blt m 145 then (bif Nat.blt m 144 then (bif Nat.beq m 143 then 3098 else 0) else
         (bif Nat.beq m 144 then 3115 else 0)) else
        (bif Nat.blt m 146 then (bif Nat.beq m 145 then 3150 else 0) else
         (bif Nat.beq m 146 then 1035 else 0))))))) else
   (bif Nat.blt m 171 then (bif Nat.blt m 159 then (bif Nat.blt m 153 then (bif Nat.blt m 150 then (bif Nat.blt m 148 then (bif Nat.beq m 147 then 4175 else 0) else
        (bif Nat.blt m 149 then (bif Nat.beq m 148 then 4179 else 0) else
         (bif Nat.beq m 149 then 4183 else 0))) else
       (bif Nat.blt m 151 then (bif Nat.beq m 150 then 4187 else 0) else
        (bif Nat.blt m 152 then (bif Nat.beq m 151 then 4191 else 0) else
         (bif Nat.beq m 152 then 4197 else 0)))) else
      (bif Nat.blt m 156 then (bif Nat.blt m 154 then (bif Nat.beq m 153 then 4205 else 0) else
        (bif Nat.blt m 155 then (bif Nat.beq m 154 then 4219 else 0) else
         (bif Nat.beq m 155 then 5021 else 0))) else
       (bif Nat.blt m 157 then (bif Nat.beq m 156 then 5029 else 0) else
        (bif Nat.blt m 158 then (bif Nat.beq m 157 then 5039 else 0) else
         (bif Nat.beq m 158 then 5054 else 0))))) else
     (bif Nat.blt m 165 then (bif Nat.blt m 162 then (bif Nat.blt m 160 then (bif Nat.beq m 159 then 5123 else 0) else
        (bif Nat.blt m 161 then (bif Nat.beq m 160 then 5130 else 0) else
         (bif Nat.beq m 161 then 5135 else 0))) else
       (bif Nat.blt m 163 then (bif Nat.beq m 162 then 5154 else 0) else
        (bif Nat.blt m 164 then (bif Nat.beq m 163 then 5164 else 0) else
         (bif Nat.beq m 164 then 5184 else 0)))) else
      (bif Nat.blt m 168 then (bif Nat.blt m 166 then (bif Nat.beq m 165 then 5189 else 0) else
        (bif Nat.blt m 167 then (bif Nat.beq m 166 then 5225 else 0) else
         (bif Nat.beq m 167 then 5236 else 0))) else
       (bif Nat.blt m 169 then (bif Nat.beq m 168 then 6001 else 0) else
        (bif Nat.blt m 170 then (bif Nat.beq m 169 then 6010 else 0) else
         (bif Nat.beq m 170 then 6015 else 0)))))) else
    (bif Nat.blt m 183 then (bif Nat.blt m 177 then (bif Nat.blt m 174 then (bif Nat.blt m 172 then (bif Nat.beq m 171 then 6022 else 0) else
        (bif Nat.blt m 173 then (bif Nat.beq m 172 then 6029 else 0) else
         (bif Nat.beq m 173 then 6034 else 0))) else
       (bif Nat.blt m 175 then (bif Nat.beq m 174 then 6044 else 0) else
        (bif Nat.blt m 176 then (bif Nat.beq m 175 then 6051 else 0) else
         (bif Nat.beq m 176 then 6059 else 0)))) else
      (bif Nat.blt m 180 then (bif Nat.blt m 178 then (bif Nat.beq m 177 then 6070 else 0) else
        (bif Nat.blt m 179 then (bif Nat.beq m 178 then 6081 else 0) else
         (bif Nat.beq m 179 then 6093 else 0))) else
       (bif Nat.blt m 181 then (bif Nat.beq m 180 then 6109 else 0) else
        (bif Nat.blt m 182 then (bif Nat.beq m 181 then 6120 else 0) else
         (bif Nat.beq m 182 then 6125 else 0))))) else
     (bif Nat.blt m 189 then (bif Nat.blt m 186 then (bif Nat.blt m 184 then (bif Nat.beq m 183 then 6129 else 0) else
        (bif Nat.blt m 185 then (bif Nat.beq m 184 then 6140 else 0) else
         (bif Nat.beq m 185 then 6147 else 0))) else
       (bif Nat.blt m 187 then (bif Nat.beq m 186 then 6158 else 0) else
        (bif Nat.blt m 188 then (bif Nat.beq m 187 then 6166 else 0) else
         (bif Nat.beq m 188 then 6226 else 0)))) else
      (bif Nat.blt m 192 then (bif Nat.blt m 190 then (bif Nat.beq m 189 then 6235 else 0) else
        (bif Nat.blt m 191 then (bif Nat.beq m 190 then 7017 else 0) else
         (bif Nat.beq m 191 then 7024 else 0))) else
       (bif Nat.blt m 194 then (bif Nat.blt m 193 then (bif Nat.beq m 192 then 7033 else 0) else
         (bif Nat.beq m 193 then 7038 else 0)) else
        (bif Nat.blt m 195 then (bif Nat.beq m 194 then 7060 else 0) else
         (bif Nat.beq m 195 then 7067 else 0))))))))) else
 (bif Nat.blt m 294 then (bif Nat.blt m 245 then (bif Nat.blt m 220 then (bif Nat.blt m 208 then (bif Nat.blt m 202 then (bif Nat.blt m 199 then (bif Nat.blt m 197 then (bif Nat.beq m 196 then 7075 else 0) else
        (bif Nat.blt m 198 then (bif Nat.beq m 197 then 7090 else 0) else
         (bif Nat.beq m 198 then 7097 else 0))) else
       (bif Nat.blt m 200 then (bif Nat.beq m 199 then 7108 else 0) else
        (bif Nat.blt m 201 then (bif Nat.beq m 200 then 7113 else 0) else
         (bif Nat.beq m 201 then 7128 else 0)))) else
      (bif Nat.blt m 205 then (bif Nat.blt m 203 then (bif Nat.beq m 202 then 7139 else 0) else
        (bif Nat.blt m 204 then (bif Nat.beq m 203 then 7153 else 0) else
         (bif Nat.beq m 204 then 7158 else 0))) else
       (bif Nat.blt m 206 then (bif Nat.beq m 205 then 7162 else 0) else
        (bif Nat.blt m 207 then (bif Nat.beq m 206 then 7166 else 0) else
         (bif Nat.beq m 207 then 7170 else 0))))) else
     (bif Nat.blt m 214 then (bif Nat.blt m 211 then (bif Nat.blt m 209 then (bif Nat.beq m 208 then 8075 else 0) else
        (bif Nat.blt m 210 then (bif Nat.beq m 209 then 8079 else 0) else
         (bif Nat.beq m 210 then 8084 else 0))) else
       (bif Nat.blt m 212 then (bif Nat.beq m 211 then 8088 else 0) else
        (bif Nat.blt m 213 then (bif Nat.beq m 212 then 8092 else 0) else
         (bif Nat.beq m 213 then 8095 else 0)))) else
      (bif Nat.blt m 217 then (bif Nat.blt m 215 then (bif Nat.beq m 214 then 8099 else 0) else
        (bif Nat.blt m 216 then (bif Nat.beq m 215 then 8103 else 0) else
         (bif Nat.beq m 216 then 8107 else 0))) else
       (bif Nat.blt m 218 then (bif Nat.beq m 217 then 8111 else 0) else
        (bif Nat.blt m 219 then (bif Nat.beq m 218 then 8115 else 0) else
         (bif Nat.beq m 219 then 8118 else 0)))))) else
    (bif Nat.blt m 232 then (bif Nat.blt m 226 then (bif Nat.blt m 223 then (bif Nat.blt m 221 then (bif Nat.beq m 220 then 8121 else 0) else
        (bif Nat.blt m 222 then (bif Nat.beq m 221 then 8125 else 0) else
         (bif Nat.beq m 222 then 8129 else 0))) else
       (bif Nat.blt m 224 then (bif Nat.beq m 223 then 8133 else 0) else
        (bif Nat.blt m 225 then (bif Nat.beq m 224 then 8137 else 0) else
         (bif Nat.beq m 225 then 8141 else 0)))) else
      (bif Nat.blt m 229 then (bif Nat.blt m 227 then (bif Nat.beq m 226 then 8145 else 0) else
        (bif Nat.blt m 228 then (bif Nat.beq m 227 then 8148 else 0) else
         (bif Nat.beq m 228 then 8152 else 0))) else
       (bif Nat.blt m 230 then (bif Nat.beq m 229 then 8156 else 0) else
        (bif Nat.blt m 231 then (bif Nat.beq m 230 then 8160 else 0) else
         (bif Nat.beq m 231 then 8164 else 0))))) else
     (bif Nat.blt m 238 then (bif Nat.blt m 235 then (bif Nat.blt m 233 then (bif Nat.beq m 232 then 8168 else 0) else
        (bif Nat.blt m 234 then (bif Nat.beq m 233 then 8172 else 0) else
         (bif Nat.beq m 234 then 8176 else 0))) else
       (bif Nat.blt m 236 then (bif Nat.beq m 235 then 8180 else 0) else
        (bif Nat.blt m 237 then (bif Nat.beq m 236 then 8184 else 0) else
         (bif Nat.beq m 237 then 8188 else 0)))) else
      (bif Nat.blt m 241 then (bif Nat.blt m 239 then (bif Nat.beq m 238 then 8192 else 0) else
        (bif Nat.blt m 240 then (bif Nat.beq m 239 then 8195 else 0) else
         (bif Nat.beq m 240 then 8199 else 0))) else
       (bif Nat.blt m 243 then (bif Nat.blt m 242 then (bif Nat.beq m 241 then 8203 else 0) else
         (bif Nat.beq m 242 then 8208 else 0)) else
        (bif Nat.blt m 244 then (bif Nat.beq m 243 then 8212 else 0) else
         (bif Nat.beq m 244 then 8216 else 0))))))) else
   (bif Nat.blt m 269 then (bif Nat.blt m 257 then (bif Nat.blt m 251 then (bif Nat.blt m 248 then (bif Nat.blt m 246 then (bif Nat.beq m 245 then 8220 else 0) else
        (bif Nat.blt m 247 then (bif Nat.beq m 246 then 8224 else 0) else
         (bif Nat.beq m 247 then 8228 else 0))) else
       (bif Nat.blt m 249 then (bif Nat.beq m 248 then 8232 else 0) else
        (bif Nat.blt m 250 then (bif Nat.beq m 249 then 8236 else 0) else
         (bif Nat.beq m 250 then 9000 else 0)))) else
      (bif Nat.blt m 254 then (bif Nat.blt m 252 then (bif Nat.beq m 251 then 9003 else 0) else
        (bif Nat.blt m 253 then (bif Nat.beq m 252 then 9006 else 0) else
         (bif Nat.beq m 253 then 9009 else 0))) else
       (bif Nat.blt m 255 then (bif Nat.beq m 254 then 9013 else 0) else
        (bif Nat.blt m 256 then (bif Nat.beq m 255 then 9017 else 0) else
         (bif Nat.beq m 256 then 9022 else 0))))) else
     (bif Nat.blt m 263 then (bif Nat.blt m 260 then (bif Nat.blt m 258 then (bif Nat.beq m 257 then 9025 else 0) else
        (bif Nat.blt m 259 then (bif Nat.beq m 258 then 9029 else 0) else
         (bif Nat.beq m 259 then 9033 else 0))) else
       (bif Nat.blt m 261 then (bif Nat.beq m 260 then 9036 else 0) else
        (bif Nat.blt m 262 then (bif Nat.beq m 261 then 9040 else 0) else
         (bif Nat.beq m 262 then 9044 else 0)))) else
      (bif Nat.blt m 266 then (bif Nat.blt m 264 then (bif Nat.beq m 263 then 9048 else 0) else
        (bif Nat.blt m 265 then (bif Nat.beq m 264 then 9052 else 0) else
         (bif Nat.beq m 265 then 9056 else 0))) else
       (bif Nat.blt m 267 then (bif Nat.beq m 266 then 9060 else 0) else
        (bif Nat.blt m 268 then (bif Nat.beq m 267 then 9064 else 0) else
         (bif Nat.beq m 268 then 9068 else 0)))))) else
    (bif Nat.blt m 281 then (bif Nat.blt m 275 then (bif Nat.blt m 272 then (bif Nat.blt m 270 then (bif Nat.beq m 269 then 9072 else 0) else
        (bif Nat.blt m 271 then (bif Nat.beq m 270 then 9076 else 0) else
         (bif Nat.beq m 271 then 9080 else 0))) else
       (bif Nat.blt m 273 then (bif Nat.beq m 272 then 9084 else 0) else
        (bif Nat.blt m 274 then (bif Nat.beq m 273 then 9089 else 0) else
         (bif Nat.beq m 274 then 9093 else 0)))) else
      (bif Nat.blt m 278 then (bif Nat.blt m 276 then (bif Nat.beq m 275 then 9097 else 0) else
        (bif Nat.blt m 277 then (bif Nat.beq m 276 then 9100 else 0) else
         (bif Nat.beq m 277 then 9105 else 0))) else
       (bif Nat.blt m 279 then (bif Nat.beq m 278 then 9109 else 0) else
        (bif Nat.blt m 280 then (bif Nat.beq m 279 then 9113 else 0) else
         (bif Nat.beq m 280 then 9116 else 0))))) else
     (bif Nat.blt m 287 then (bif Nat.blt m 284 then (bif Nat.blt m 282 then (bif Nat.beq m 281 then 9121 else 0) else
        (bif Nat.blt m 283 then (bif Nat.beq m 282 then 9124 else 0) else
         (bif Nat.beq m 283 then 9128 else 0))) else
       (bif Nat.blt m 285 then (bif Nat.beq m 284 then 9133 else 0) else
        (bif Nat.blt m 286 then (bif Nat.beq m 285 then 9136 else 0) else
         (bif Nat.beq m 286 then 9140 else 0)))) else
      (bif Nat.blt m 290 then (bif Nat.blt m 288 then (bif Nat.beq m 287 then 9143 else 0) else
        (bif Nat.blt m 289 then (bif Nat.beq m 288 then 9147 else 0) else
         (bif Nat.beq m 289 then 9151 else 0))) else
       (bif Nat.blt m 292 then (bif Nat.blt m 291 then (bif Nat.beq m 290 then 9156 else 0) else
         (bif Nat.beq m 291 then 9159 else 0)) else
        (bif Nat.blt m 293 then (bif Nat.beq m 292 then 9162 else 0) else
         (bif Nat.beq m 293 then 9165 else 0)))))))) else
  (bif Nat.blt m 343 then (bif Nat.blt m 318 then (bif Nat.blt m 306 then (bif Nat.blt m 300 then (bif Nat.blt m 297 then (bif Nat.blt m 295 then (bif Nat.beq m 294 then 9169 else 0) else
        (bif Nat.blt m 296 then (bif Nat.beq m 295 then 9173 else 0) else
         (bif Nat.beq m 296 then 9178 else 0))) else
       (bif Nat.blt m 298 then (bif Nat.beq m 297 then 9181 else 0) else
        (bif Nat.blt m 299 then (bif Nat.beq m 298 then 9185 else 0) else
         (bif Nat.beq m 299 then 9190 else 0)))) else
      (bif Nat.blt m 303 then (bif Nat.blt m 301 then (bif Nat.beq m 300 then 9204 else 0) else
        (bif Nat.blt m 302 then (bif Nat.beq m 301 then 9209 else 0) else
         (bif Nat.beq m 302 then 9213 else 0))) else
       (bif Nat.blt m 304 then (bif Nat.beq m 303 then 9216 else 0) else
        (bif Nat.blt m 305 then (bif Nat.beq m 304 then 9220 else 0) else
         (bif Nat.beq m 305 then 9225 else 0))))) else
     (bif Nat.blt m 312 then (bif Nat.blt m 309 then (bif Nat.blt m 307 then (bif Nat.beq m 306 then 9229 else 0) else
        (bif Nat.blt m 308 then (bif Nat.beq m 307 then 9232 else 0) else
         (bif Nat.beq m 308 then 9236 else 0))) else
       (bif Nat.blt m 310 then (bif Nat.beq m 309 then 10001 else 0) else
        (bif Nat.blt m 311 then (bif Nat.beq m 310 then 10004 else 0) else
         (bif Nat.beq m 311 then 10018 else 0)))) else
      (bif Nat.blt m 315 then (bif Nat.blt m 313 then (bif Nat.beq m 312 then 10023 else 0) else
        (bif Nat.blt m 314 then (bif Nat.beq m 313 then 10028 else 0) else
         (bif Nat.beq m 314 then 10031 else 0))) else
       (bif Nat.blt m 316 then (bif Nat.beq m 315 then 10035 else 0) else
        (bif Nat.blt m 317 then (bif Nat.beq m 316 then 10040 else 0) else
         (bif Nat.beq m 317 then 10044 else 0)))))) else
    (bif Nat.blt m 330 then (bif Nat.blt m 324 then (bif Nat.blt m 321 then (bif Nat.blt m 319 then (bif Nat.beq m 318 then 10047 else 0) else
        (bif Nat.blt m 320 then (bif Nat.beq m 319 then 10051 else 0) else
         (bif Nat.beq m 320 then 10056 else 0))) else
       (bif Nat.blt m 322 then (bif Nat.beq m 321 then 10060 else 0) else
        (bif Nat.blt m 323 then (bif Nat.beq m 322 then 10064 else 0) else
         (bif Nat.beq m 323 then 10068 else 0)))) else
      (bif Nat.blt m 327 then (bif Nat.blt m 325 then (bif Nat.beq m 324 then 10072 else 0) else
        (bif Nat.blt m 326 then (bif Nat.beq m 325 then 10076 else 0) else
         (bif Nat.beq m 326 then 10080 else 0))) else
       (bif Nat.blt m 328 then (bif Nat.beq m 327 then 10084 else 0) else
        (bif Nat.blt m 329 then (bif Nat.beq m 328 then 10088 else 0) else
         (bif Nat.beq m 329 then 10092 else 0))))) else
     (bif Nat.blt m 336 then (bif Nat.blt m 333 then (bif Nat.blt m 331 then (bif Nat.beq m 330 then 10096 else 0) else
        (bif Nat.blt m 332 then (bif Nat.beq m 331 then 10100 else 0) else
         (bif Nat.beq m 332 then 10104 else 0))) else
       (bif Nat.blt m 334 then (bif Nat.beq m 333 then 10108 else 0) else
        (bif Nat.blt m 335 then (bif Nat.beq m 334 then 10111 else 0) else
         (bif Nat.beq m 335 then 10115 else 0)))) else
      (bif Nat.blt m 339 then (bif Nat.blt m 337 then (bif Nat.beq m 336 then 10119 else 0) else
        (bif Nat.blt m 338 then (bif Nat.beq m 337 then 10124 else 0) else
         (bif Nat.beq m 338 then 10127 else 0))) else
       (bif Nat.blt m 341 then (bif Nat.blt m 340 then (bif Nat.beq m 339 then 10132 else 0) else
         (bif Nat.beq m 340 then 10136 else 0)) else
        (bif Nat.blt m 342 then (bif Nat.beq m 341 then 10140 else 0) else
         (bif Nat.beq m 342 then 10143 else 0))))))) else
   (bif Nat.blt m 367 then (bif Nat.blt m 355 then (bif Nat.blt m 349 then (bif Nat.blt m 346 then (bif Nat.blt m 344 then (bif Nat.beq m 343 then 10147 else 0) else
        (bif Nat.blt m 345 then (bif Nat.beq m 344 then 10151 else 0) else
         (bif Nat.beq m 345 then 10155 else 0))) else
       (bif Nat.blt m 347 then (bif Nat.beq m 346 then 10159 else 0) else
        (bif Nat.blt m 348 then (bif Nat.beq m 347 then 10163 else 0) else
         (bif Nat.beq m 348 then 10167 else 0)))) else
      (bif Nat.blt m 352 then (bif Nat.blt m 350 then (bif Nat.beq m 349 then 10171 else 0) else
        (bif Nat.blt m 351 then (bif Nat.beq m 350 then 5050 else 0) else
         (bif Nat.beq m 351 then 5126 else 0))) else
       (bif Nat.blt m 353 then (bif Nat.beq m 352 then 5161 else 0) else
        (bif Nat.blt m 354 then (bif Nat.beq m 353 then 5180 else 0) else
         (bif Nat.beq m 354 then 5233 else 0))))) else
     (bif Nat.blt m 361 then (bif Nat.blt m 358 then (bif Nat.blt m 356 then (bif Nat.beq m 355 then 6007 else 0) else
        (bif Nat.blt m 357 then (bif Nat.beq m 356 then 6019 else 0) else
         (bif Nat.beq m 357 then 6026 else 0))) else
       (bif Nat.blt m 359 then (bif Nat.beq m 358 then 6041 else 0) else
        (bif Nat.blt m 360 then (bif Nat.beq m 359 then 6048 else 0) else
         (bif Nat.beq m 360 then 6056 else 0)))) else
      (bif Nat.blt m 364 then (bif Nat.blt m 362 then (bif Nat.beq m 361 then 6067 else 0) else
        (bif Nat.blt m 363 then (bif Nat.beq m 362 then 6078 else 0) else
         (bif Nat.beq m 363 then 6090 else 0))) else
       (bif Nat.blt m 365 then (bif Nat.beq m 364 then 6106 else 0) else
        (bif Nat.blt m 366 then (bif Nat.beq m 365 then 6117 else 0) else
         (bif Nat.beq m 366 then 6137 else 0)))))) else
    (bif Nat.blt m 379 then (bif Nat.blt m 373 then (bif Nat.blt m 370 then (bif Nat.blt m 368 then (bif Nat.beq m 367 then 6144 else 0) else
        (bif Nat.blt m 369 then (bif Nat.beq m 368 then 6155 else 0) else
         (bif Nat.beq m 369 then 6163 else 0))) else
       (bif Nat.blt m 371 then (bif Nat.beq m 370 then 6231 else 0) else
        (bif Nat.blt m 372 then (bif Nat.beq m 371 then 7014 else 0) else
         (bif Nat.beq m 372 then 7021 else 0)))) else
      (bif Nat.blt m 376 then (bif Nat.blt m 374 then (bif Nat.beq m 373 then 7030 else 0) else
        (bif Nat.blt m 375 then (bif Nat.beq m 374 then 7057 else 0) else
         (bif Nat.beq m 375 then 7064 else 0))) else
       (bif Nat.blt m 377 then (bif Nat.beq m 376 then 7072 else 0) else
        (bif Nat.blt m 378 then (bif Nat.beq m 377 then 7087 else 0) else
         (bif Nat.beq m 378 then 7094 else 0))))) else
     (bif Nat.blt m 385 then (bif Nat.blt m 382 then (bif Nat.blt m 380 then (bif Nat.beq m 379 then 7105 else 0) else
        (bif Nat.blt m 381 then (bif Nat.beq m 380 then 7125 else 0) else
         (bif Nat.beq m 381 then 7136 else 0))) else
       (bif Nat.blt m 383 then (bif Nat.beq m 382 then 1047 else 0) else
        (bif Nat.blt m 384 then (bif Nat.beq m 383 then 1060 else 0) else
         (bif Nat.beq m 384 then 7049 else 0)))) else
      (bif Nat.blt m 388 then (bif Nat.blt m 386 then (bif Nat.beq m 385 then 5043 else 0) else
        (bif Nat.blt m 387 then (bif Nat.beq m 386 then 4111 else 0) else
         (bif Nat.beq m 387 then 6174 else 0))) else
       (bif Nat.blt m 390 then (bif Nat.blt m 389 then (bif Nat.beq m 388 then 9194 else 0) else
         (bif Nat.beq m 389 then 9197 else 0)) else
        (bif Nat.blt m 391 then (bif Nat.beq m 390 then 10008 else 0) else
         (bif Nat.beq m 391 then 10011 else 0))))))))))
noncomputable def zpS (m : Nat) : Nat :=
 (bif Nat.blt m 196 then (bif Nat.blt m 98 then (bif Nat.blt m 49 then (bif Nat.blt m 24 then (bif Nat.blt m 12 then (bif Nat.blt m 6 then (bif Nat.blt m 3 then (bif Nat.blt m 1 then (bif Nat.beq m 0 then 0 else 0) else
        (bif Nat.blt m 2 then (bif Nat.beq m 1 then 3200 else 0) else
         (bif Nat.beq m 2 then 20024 else 0))) else
       (bif Nat.blt m 4 then (bif Nat.beq m 3 then 20025 else 0) else
        (bif Nat.blt m 5 then (bif Nat.beq m 4 then 4093 else 0) else
         (bif Nat.beq m 5 then 20026 else 0)))) else
      (bif Nat.blt m 9 then (bif Nat.blt m 7 then (bif Nat.beq m 6 then 20027 else 0) else
        (bif Nat.blt m 8 then (bif Nat.beq m 7 then 20028 else 0) else
         (bif Nat.beq m 8 then 20029 else 0))) else
       (bif Nat.blt m 10 then (bif Nat.beq m 9 then 4202 else 0) else
        (bif Nat.blt m 11 then (bif Nat.beq m 10 then 5173 else 0) else
         (bif Nat.beq m 11 then 5177 else 0))))) else
     (bif Nat.blt m 18 then (bif Nat.blt m 15 then (bif Nat.blt m 13 then (bif Nat.beq m 12 then 6152 else 0) else
        (bif Nat.blt m 14 then (bif Nat.beq m 13 then 0 else 0) else
         (bif Nat.beq m 14 then 3208 else 0))) else
       (bif Nat.blt m 16 then (bif Nat.beq m 15 then 0 else 0) else
        (bif Nat.blt m 17 then (bif Nat.beq m 16 then 5158 else 0) else
         (bif Nat.beq m 17 then 7046 else 0)))) else
      (bif Nat.blt m 21 then (bif Nat.blt m 19 then (bif Nat.beq m 18 then 7117 else 0) else
        (bif Nat.blt m 20 then (bif Nat.beq m 19 then 7121 else 0) else
         (bif Nat.beq m 20 then 7133 else 0))) else
       (bif Nat.blt m 22 then (bif Nat.beq m 21 then 7144 else 0) else
        (bif Nat.blt m 23 then (bif Nat.beq m 22 then 7148 else 0) else
         (bif Nat.beq m 23 then 0 else 0)))))) else
    (bif Nat.blt m 36 then (bif Nat.blt m 30 then (bif Nat.blt m 27 then (bif Nat.blt m 25 then (bif Nat.beq m 24 then 2230 else 0) else
        (bif Nat.blt m 26 then (bif Nat.beq m 25 then 3069 else 0) else
         (bif Nat.beq m 26 then 20006 else 0))) else
       (bif Nat.blt m 28 then (bif Nat.beq m 27 then 20007 else 0) else
        (bif Nat.blt m 29 then (bif Nat.beq m 28 then 20008 else 0) else
         (bif Nat.beq m 29 then 20009 else 0)))) else
      (bif Nat.blt m 33 then (bif Nat.blt m 31 then (bif Nat.beq m 30 then 20010 else 0) else
        (bif Nat.blt m 32 then (bif Nat.beq m 31 then 20011 else 0) else
         (bif Nat.beq m 32 then 20014 else 0))) else
       (bif Nat.blt m 34 then (bif Nat.beq m 33 then 20015 else 0) else
        (bif Nat.blt m 35 then (bif Nat.beq m 34 then 7042 else 0) else
         (bif Nat.beq m 35 then 0 else 0))))) else
     (bif Nat.blt m 42 then (bif Nat.blt m 39 then (bif Nat.blt m 37 then (bif Nat.beq m 36 then 3108 else 0) else
        (bif Nat.blt m 38 then (bif Nat.beq m 37 then 3112 else 0) else
         (bif Nat.beq m 38 then 3123 else 0))) else
       (bif Nat.blt m 40 then (bif Nat.beq m 39 then 3127 else 0) else
        (bif Nat.blt m 41 then (bif Nat.beq m 40 then 3131 else 0) else
         (bif Nat.beq m 41 then 3135 else 0)))) else
      (bif Nat.blt m 45 then (bif Nat.blt m 43 then (bif Nat.beq m 42 then 20012 else 0) else
        (bif Nat.blt m 44 then (bif Nat.beq m 43 then 20013 else 0) else
         (bif Nat.beq m 44 then 3154 else 0))) else
       (bif Nat.blt m 47 then (bif Nat.blt m 46 then (bif Nat.beq m 45 then 3158 else 0) else
         (bif Nat.beq m 46 then 3162 else 0)) else
        (bif Nat.blt m 48 then (bif Nat.beq m 47 then 3181 else 0) else
         (bif Nat.beq m 48 then 3186 else 0))))))) else
   (bif Nat.blt m 73 then (bif Nat.blt m 61 then (bif Nat.blt m 55 then (bif Nat.blt m 52 then (bif Nat.blt m 50 then (bif Nat.beq m 49 then 3190 else 0) else
        (bif Nat.blt m 51 then (bif Nat.beq m 50 then 3196 else 0) else
         (bif Nat.beq m 51 then 4008 else 0))) else
       (bif Nat.blt m 53 then (bif Nat.beq m 52 then 4012 else 0) else
        (bif Nat.blt m 54 then (bif Nat.beq m 53 then 4075 else 0) else
         (bif Nat.beq m 54 then 4089 else 0)))) else
      (bif Nat.blt m 58 then (bif Nat.blt m 56 then (bif Nat.beq m 55 then 5213 else 0) else
        (bif Nat.blt m 57 then (bif Nat.beq m 56 then 5218 else 0) else
         (bif Nat.beq m 57 then 0 else 0))) else
       (bif Nat.blt m 59 then (bif Nat.beq m 58 then 4028 else 0) else
        (bif Nat.blt m 60 then (bif Nat.beq m 59 then 20021 else 0) else
         (bif Nat.beq m 60 then 4050 else 0))))) else
     (bif Nat.blt m 67 then (bif Nat.blt m 64 then (bif Nat.blt m 62 then (bif Nat.beq m 61 then 20022 else 0) else
        (bif Nat.blt m 63 then (bif Nat.beq m 62 then 20023 else 0) else
         (bif Nat.beq m 63 then 4107 else 0))) else
       (bif Nat.blt m 65 then (bif Nat.beq m 64 then 4210 else 0) else
        (bif Nat.blt m 66 then (bif Nat.beq m 65 then 20030 else 0) else
         (bif Nat.beq m 66 then 4224 else 0)))) else
      (bif Nat.blt m 70 then (bif Nat.blt m 68 then (bif Nat.beq m 67 then 20031 else 0) else
        (bif Nat.blt m 69 then (bif Nat.beq m 68 then 20032 else 0) else
         (bif Nat.beq m 69 then 20033 else 0))) else
       (bif Nat.blt m 71 then (bif Nat.beq m 70 then 20034 else 0) else
        (bif Nat.blt m 72 then (bif Nat.beq m 71 then 20035 else 0) else
         (bif Nat.beq m 72 then 20036 else 0)))))) else
    (bif Nat.blt m 85 then (bif Nat.blt m 79 then (bif Nat.blt m 76 then (bif Nat.blt m 74 then (bif Nat.beq m 73 then 5026 else 0) else
        (bif Nat.blt m 75 then (bif Nat.beq m 74 then 0 else 0) else
         (bif Nat.beq m 75 then 6064 else 0))) else
       (bif Nat.blt m 77 then (bif Nat.beq m 76 then 6075 else 0) else
        (bif Nat.blt m 78 then (bif Nat.beq m 77 then 0 else 0) else
         (bif Nat.beq m 78 then 6098 else 0)))) else
      (bif Nat.blt m 82 then (bif Nat.blt m 80 then (bif Nat.beq m 79 then 20046 else 0) else
        (bif Nat.blt m 81 then (bif Nat.beq m 80 then 6114 else 0) else
         (bif Nat.beq m 81 then 0 else 0))) else
       (bif Nat.blt m 83 then (bif Nat.beq m 82 then 2234 else 0) else
        (bif Nat.blt m 84 then (bif Nat.beq m 83 then 20000 else 0) else
         (bif Nat.beq m 84 then 20001 else 0))))) else
     (bif Nat.blt m 91 then (bif Nat.blt m 88 then (bif Nat.blt m 86 then (bif Nat.beq m 85 then 20002 else 0) else
        (bif Nat.blt m 87 then (bif Nat.beq m 86 then 0 else 0) else
         (bif Nat.beq m 87 then 20003 else 0))) else
       (bif Nat.blt m 89 then (bif Nat.beq m 88 then 0 else 0) else
        (bif Nat.blt m 90 then (bif Nat.beq m 89 then 20004 else 0) else
         (bif Nat.beq m 90 then 20005 else 0)))) else
      (bif Nat.blt m 94 then (bif Nat.blt m 92 then (bif Nat.beq m 91 then 3065 else 0) else
        (bif Nat.blt m 93 then (bif Nat.beq m 92 then 0 else 0) else
         (bif Nat.beq m 93 then 0 else 0))) else
       (bif Nat.blt m 96 then (bif Nat.blt m 95 then (bif Nat.beq m 94 then 3204 else 0) else
         (bif Nat.beq m 95 then 3212 else 0)) else
        (bif Nat.blt m 97 then (bif Nat.beq m 96 then 20016 else 0) else
         (bif Nat.beq m 97 then 20017 else 0)))))))) else
  (bif Nat.blt m 147 then (bif Nat.blt m 122 then (bif Nat.blt m 110 then (bif Nat.blt m 104 then (bif Nat.blt m 101 then (bif Nat.blt m 99 then (bif Nat.beq m 98 then 20018 else 0) else
        (bif Nat.blt m 100 then (bif Nat.beq m 99 then 3234 else 0) else
         (bif Nat.beq m 100 then 20019 else 0))) else
       (bif Nat.blt m 102 then (bif Nat.beq m 101 then 20020 else 0) else
        (bif Nat.blt m 103 then (bif Nat.beq m 102 then 4038 else 0) else
         (bif Nat.beq m 103 then 4042 else 0)))) else
      (bif Nat.blt m 107 then (bif Nat.blt m 105 then (bif Nat.beq m 104 then 0 else 0) else
        (bif Nat.blt m 106 then (bif Nat.beq m 105 then 4063 else 0) else
         (bif Nat.beq m 106 then 0 else 0))) else
       (bif Nat.blt m 108 then (bif Nat.beq m 107 then 4079 else 0) else
        (bif Nat.blt m 109 then (bif Nat.beq m 108 then 4126 else 0) else
         (bif Nat.beq m 109 then 5209 else 0))))) else
     (bif Nat.blt m 116 then (bif Nat.blt m 113 then (bif Nat.blt m 111 then (bif Nat.beq m 110 then 0 else 0) else
        (bif Nat.blt m 112 then (bif Nat.beq m 111 then 6220 else 0) else
         (bif Nat.beq m 112 then 7081 else 0))) else
       (bif Nat.blt m 114 then (bif Nat.beq m 113 then 0 else 0) else
        (bif Nat.blt m 115 then (bif Nat.beq m 114 then 6171 else 0) else
         (bif Nat.beq m 115 then 20049 else 0)))) else
      (bif Nat.blt m 119 then (bif Nat.blt m 117 then (bif Nat.beq m 116 then 20050 else 0) else
        (bif Nat.blt m 118 then (bif Nat.beq m 117 then 6186 else 0) else
         (bif Nat.beq m 118 then 20051 else 0))) else
       (bif Nat.blt m 120 then (bif Nat.beq m 119 then 20052 else 0) else
        (bif Nat.blt m 121 then (bif Nat.beq m 120 then 0 else 0) else
         (bif Nat.beq m 121 then 20053 else 0)))))) else
    (bif Nat.blt m 134 then (bif Nat.blt m 128 then (bif Nat.blt m 125 then (bif Nat.blt m 123 then (bif Nat.beq m 122 then 6210 else 0) else
        (bif Nat.blt m 124 then (bif Nat.beq m 123 then 20054 else 0) else
         (bif Nat.beq m 124 then 0 else 0))) else
       (bif Nat.blt m 126 then (bif Nat.beq m 125 then 3166 else 0) else
        (bif Nat.blt m 127 then (bif Nat.beq m 126 then 0 else 0) else
         (bif Nat.beq m 127 then 3173 else 0)))) else
      (bif Nat.blt m 131 then (bif Nat.blt m 129 then (bif Nat.beq m 128 then 4004 else 0) else
        (bif Nat.blt m 130 then (bif Nat.beq m 129 then 4020 else 0) else
         (bif Nat.beq m 130 then 4024 else 0))) else
       (bif Nat.blt m 132 then (bif Nat.beq m 131 then 4237 else 0) else
        (bif Nat.blt m 133 then (bif Nat.beq m 132 then 5169 else 0) else
         (bif Nat.beq m 133 then 6134 else 0))))) else
     (bif Nat.blt m 140 then (bif Nat.blt m 137 then (bif Nat.blt m 135 then (bif Nat.beq m 134 then 7053 else 0) else
        (bif Nat.blt m 136 then (bif Nat.beq m 135 then 7102 else 0) else
         (bif Nat.beq m 136 then 0 else 0))) else
       (bif Nat.blt m 138 then (bif Nat.beq m 137 then 0 else 0) else
        (bif Nat.blt m 139 then (bif Nat.beq m 138 then 0 else 0) else
         (bif Nat.beq m 139 then 0 else 0)))) else
      (bif Nat.blt m 143 then (bif Nat.blt m 141 then (bif Nat.beq m 140 then 0 else 0) else
        (bif Nat.blt m 142 then (bif Nat.beq m 141 then 0 else 0) else
         (bif Nat.beq m 142 then 0 else 0))) else
       (bif Nat.blt m 145 then (bif Nat.blt m 144 then (bif Nat.beq m 143 then 0 else 0) else
         (bif Nat.beq m 144 then 0 else 0)) else
        (bif Nat.blt m 146 then (bif Nat.beq m 145 then 0 else 0) else
         (bif Nat.beq m 146 then 0 else 0))))))) else
   (bif Nat.blt m 171 then (bif Nat.blt m 159 then (bif Nat.blt m 153 then (bif Nat.blt m 150 then (bif Nat.blt m 148 then (bif Nat.beq m 147 then 4176 else 0) else
        (bif Nat.blt m 149 then (bif Nat.beq m 148 then 4180 else 0) else
         (bif Nat.beq m 149 then 4184 else 0))) else
       (bif Nat.blt m 151 then (bif Nat.beq m 150 then 4188 else 0) else
        (bif Nat.blt m 152 then (bif Nat.beq m 151 then 4192 else 0) else
         (bif Nat.beq m 152 then 4198 else 0)))) else
      (bif Nat.blt m 156 then (bif Nat.blt m 154 then (bif Nat.beq m 153 then 4206 else 0) else
        (bif Nat.blt m 155 then (bif Nat.beq m 154 then 4220 else 0) else
         (bif Nat.beq m 155 then 5022 else 0))) else
       (bif Nat.blt m 157 then (bif Nat.beq m 156 then 5030 else 0) else
        (bif Nat.blt m 158 then (bif Nat.beq m 157 then 5040 else 0) else
         (bif Nat.beq m 158 then 5055 else 0))))) else
     (bif Nat.blt m 165 then (bif Nat.blt m 162 then (bif Nat.blt m 160 then (bif Nat.beq m 159 then 20038 else 0) else
        (bif Nat.blt m 161 then (bif Nat.beq m 160 then 5131 else 0) else
         (bif Nat.beq m 161 then 20039 else 0))) else
       (bif Nat.blt m 163 then (bif Nat.beq m 162 then 20040 else 0) else
        (bif Nat.blt m 164 then (bif Nat.beq m 163 then 5165 else 0) else
         (bif Nat.beq m 164 then 5185 else 0)))) else
      (bif Nat.blt m 168 then (bif Nat.blt m 166 then (bif Nat.beq m 165 then 20041 else 0) else
        (bif Nat.blt m 167 then (bif Nat.beq m 166 then 20042 else 0) else
         (bif Nat.beq m 167 then 5237 else 0))) else
       (bif Nat.blt m 169 then (bif Nat.beq m 168 then 20043 else 0) else
        (bif Nat.blt m 170 then (bif Nat.beq m 169 then 6011 else 0) else
         (bif Nat.beq m 170 then 20044 else 0)))))) else
    (bif Nat.blt m 183 then (bif Nat.blt m 177 then (bif Nat.blt m 174 then (bif Nat.blt m 172 then (bif Nat.beq m 171 then 6023 else 0) else
        (bif Nat.blt m 173 then (bif Nat.beq m 172 then 6030 else 0) else
         (bif Nat.beq m 173 then 20045 else 0))) else
       (bif Nat.blt m 175 then (bif Nat.beq m 174 then 6045 else 0) else
        (bif Nat.blt m 176 then (bif Nat.beq m 175 then 6052 else 0) else
         (bif Nat.beq m 176 then 6060 else 0)))) else
      (bif Nat.blt m 180 then (bif Nat.blt m 178 then (bif Nat.beq m 177 then 6071 else 0) else
        (bif Nat.blt m 179 then (bif Nat.beq m 178 then 6082 else 0) else
         (bif Nat.beq m 179 then 6094 else 0))) else
       (bif Nat.blt m 181 then (bif Nat.beq m 180 then 6110 else 0) else
        (bif Nat.blt m 182 then (bif Nat.beq m 181 then 6121 else 0) else
         (bif Nat.beq m 182 then 20047 else 0))))) else
     (bif Nat.blt m 189 then (bif Nat.blt m 186 then (bif Nat.blt m 184 then (bif Nat.beq m 183 then 20048 else 0) else
        (bif Nat.blt m 185 then (bif Nat.beq m 184 then 6141 else 0) else
         (bif Nat.beq m 185 then 6148 else 0))) else
       (bif Nat.blt m 187 then (bif Nat.beq m 186 then 6159 else 0) else
        (bif Nat.blt m 188 then (bif Nat.beq m 187 then 6167 else 0) else
         (bif Nat.beq m 188 then 20055 else 0)))) else
      (bif Nat.blt m 192 then (bif Nat.blt m 190 then (bif Nat.beq m 189 then 6236 else 0) else
        (bif Nat.blt m 191 then (bif Nat.beq m 190 then 7018 else 0) else
         (bif Nat.beq m 191 then 7025 else 0))) else
       (bif Nat.blt m 194 then (bif Nat.blt m 193 then (bif Nat.beq m 192 then 7034 else 0) else
         (bif Nat.beq m 193 then 20056 else 0)) else
        (bif Nat.blt m 195 then (bif Nat.beq m 194 then 7061 else 0) else
         (bif Nat.beq m 195 then 7068 else 0))))))))) else
 (bif Nat.blt m 294 then (bif Nat.blt m 245 then (bif Nat.blt m 220 then (bif Nat.blt m 208 then (bif Nat.blt m 202 then (bif Nat.blt m 199 then (bif Nat.blt m 197 then (bif Nat.beq m 196 then 7076 else 0) else
        (bif Nat.blt m 198 then (bif Nat.beq m 197 then 7091 else 0) else
         (bif Nat.beq m 198 then 7098 else 0))) else
       (bif Nat.blt m 200 then (bif Nat.beq m 199 then 7109 else 0) else
        (bif Nat.blt m 201 then (bif Nat.beq m 200 then 20057 else 0) else
         (bif Nat.beq m 201 then 7129 else 0)))) else
      (bif Nat.blt m 205 then (bif Nat.blt m 203 then (bif Nat.beq m 202 then 7140 else 0) else
        (bif Nat.blt m 204 then (bif Nat.beq m 203 then 0 else 0) else
         (bif Nat.beq m 204 then 20058 else 0))) else
       (bif Nat.blt m 206 then (bif Nat.beq m 205 then 20059 else 0) else
        (bif Nat.blt m 207 then (bif Nat.beq m 206 then 20060 else 0) else
         (bif Nat.beq m 207 then 20061 else 0))))) else
     (bif Nat.blt m 214 then (bif Nat.blt m 211 then (bif Nat.blt m 209 then (bif Nat.beq m 208 then 8076 else 0) else
        (bif Nat.blt m 210 then (bif Nat.beq m 209 then 8080 else 0) else
         (bif Nat.beq m 210 then 20062 else 0))) else
       (bif Nat.blt m 212 then (bif Nat.beq m 211 then 20063 else 0) else
        (bif Nat.blt m 213 then (bif Nat.beq m 212 then 20064 else 0) else
         (bif Nat.beq m 213 then 8096 else 0)))) else
      (bif Nat.blt m 217 then (bif Nat.blt m 215 then (bif Nat.beq m 214 then 0 else 0) else
        (bif Nat.blt m 216 then (bif Nat.beq m 215 then 20065 else 0) else
         (bif Nat.beq m 216 then 20066 else 0))) else
       (bif Nat.blt m 218 then (bif Nat.beq m 217 then 20067 else 0) else
        (bif Nat.blt m 219 then (bif Nat.beq m 218 then 20068 else 0) else
         (bif Nat.beq m 219 then 0 else 0)))))) else
    (bif Nat.blt m 232 then (bif Nat.blt m 226 then (bif Nat.blt m 223 then (bif Nat.blt m 221 then (bif Nat.beq m 220 then 0 else 0) else
        (bif Nat.blt m 222 then (bif Nat.beq m 221 then 20069 else 0) else
         (bif Nat.beq m 222 then 20070 else 0))) else
       (bif Nat.blt m 224 then (bif Nat.beq m 223 then 20071 else 0) else
        (bif Nat.blt m 225 then (bif Nat.beq m 224 then 20072 else 0) else
         (bif Nat.beq m 225 then 20073 else 0)))) else
      (bif Nat.blt m 229 then (bif Nat.blt m 227 then (bif Nat.beq m 226 then 20074 else 0) else
        (bif Nat.blt m 228 then (bif Nat.beq m 227 then 0 else 0) else
         (bif Nat.beq m 228 then 20075 else 0))) else
       (bif Nat.blt m 230 then (bif Nat.beq m 229 then 20076 else 0) else
        (bif Nat.blt m 231 then (bif Nat.beq m 230 then 20077 else 0) else
         (bif Nat.beq m 231 then 20078 else 0))))) else
     (bif Nat.blt m 238 then (bif Nat.blt m 235 then (bif Nat.blt m 233 then (bif Nat.beq m 232 then 20079 else 0) else
        (bif Nat.blt m 234 then (bif Nat.beq m 233 then 20080 else 0) else
         (bif Nat.beq m 234 then 20081 else 0))) else
       (bif Nat.blt m 236 then (bif Nat.beq m 235 then 20082 else 0) else
        (bif Nat.blt m 237 then (bif Nat.beq m 236 then 20083 else 0) else
         (bif Nat.beq m 237 then 20084 else 0)))) else
      (bif Nat.blt m 241 then (bif Nat.blt m 239 then (bif Nat.beq m 238 then 20085 else 0) else
        (bif Nat.blt m 240 then (bif Nat.beq m 239 then 8196 else 0) else
         (bif Nat.beq m 240 then 8200 else 0))) else
       (bif Nat.blt m 243 then (bif Nat.blt m 242 then (bif Nat.beq m 241 then 8204 else 0) else
         (bif Nat.beq m 242 then 20086 else 0)) else
        (bif Nat.blt m 244 then (bif Nat.beq m 243 then 20087 else 0) else
         (bif Nat.beq m 244 then 20088 else 0))))))) else
   (bif Nat.blt m 269 then (bif Nat.blt m 257 then (bif Nat.blt m 251 then (bif Nat.blt m 248 then (bif Nat.blt m 246 then (bif Nat.beq m 245 then 20089 else 0) else
        (bif Nat.blt m 247 then (bif Nat.beq m 246 then 20090 else 0) else
         (bif Nat.beq m 247 then 20091 else 0))) else
       (bif Nat.blt m 249 then (bif Nat.beq m 248 then 20092 else 0) else
        (bif Nat.blt m 250 then (bif Nat.beq m 249 then 20093 else 0) else
         (bif Nat.beq m 250 then 20094 else 0)))) else
      (bif Nat.blt m 254 then (bif Nat.blt m 252 then (bif Nat.beq m 251 then 0 else 0) else
        (bif Nat.blt m 253 then (bif Nat.beq m 252 then 0 else 0) else
         (bif Nat.beq m 253 then 0 else 0))) else
       (bif Nat.blt m 255 then (bif Nat.beq m 254 then 20095 else 0) else
        (bif Nat.blt m 256 then (bif Nat.beq m 255 then 20096 else 0) else
         (bif Nat.beq m 256 then 20097 else 0))))) else
     (bif Nat.blt m 263 then (bif Nat.blt m 260 then (bif Nat.blt m 258 then (bif Nat.beq m 257 then 0 else 0) else
        (bif Nat.blt m 259 then (bif Nat.beq m 258 then 20098 else 0) else
         (bif Nat.beq m 259 then 20099 else 0))) else
       (bif Nat.blt m 261 then (bif Nat.beq m 260 then 0 else 0) else
        (bif Nat.blt m 262 then (bif Nat.beq m 261 then 20100 else 0) else
         (bif Nat.beq m 262 then 20101 else 0)))) else
      (bif Nat.blt m 266 then (bif Nat.blt m 264 then (bif Nat.beq m 263 then 20102 else 0) else
        (bif Nat.blt m 265 then (bif Nat.beq m 264 then 20103 else 0) else
         (bif Nat.beq m 265 then 20104 else 0))) else
       (bif Nat.blt m 267 then (bif Nat.beq m 266 then 20105 else 0) else
        (bif Nat.blt m 268 then (bif Nat.beq m 267 then 20106 else 0) else
         (bif Nat.beq m 268 then 20107 else 0)))))) else
    (bif Nat.blt m 281 then (bif Nat.blt m 275 then (bif Nat.blt m 272 then (bif Nat.blt m 270 then (bif Nat.beq m 269 then 20108 else 0) else
        (bif Nat.blt m 271 then (bif Nat.beq m 270 then 20109 else 0) else
         (bif Nat.beq m 271 then 20110 else 0))) else
       (bif Nat.blt m 273 then (bif Nat.beq m 272 then 20111 else 0) else
        (bif Nat.blt m 274 then (bif Nat.beq m 273 then 20112 else 0) else
         (bif Nat.beq m 274 then 20113 else 0)))) else
      (bif Nat.blt m 278 then (bif Nat.blt m 276 then (bif Nat.beq m 275 then 20114 else 0) else
        (bif Nat.blt m 277 then (bif Nat.beq m 276 then 9101 else 0) else
         (bif Nat.beq m 277 then 20115 else 0))) else
       (bif Nat.blt m 279 then (bif Nat.beq m 278 then 20116 else 0) else
        (bif Nat.blt m 280 then (bif Nat.beq m 279 then 20117 else 0) else
         (bif Nat.beq m 280 then 9117 else 0))))) else
     (bif Nat.blt m 287 then (bif Nat.blt m 284 then (bif Nat.blt m 282 then (bif Nat.beq m 281 then 20118 else 0) else
        (bif Nat.blt m 283 then (bif Nat.beq m 282 then 9125 else 0) else
         (bif Nat.beq m 283 then 9129 else 0))) else
       (bif Nat.blt m 285 then (bif Nat.beq m 284 then 20119 else 0) else
        (bif Nat.blt m 286 then (bif Nat.beq m 285 then 9137 else 0) else
         (bif Nat.beq m 286 then 0 else 0)))) else
      (bif Nat.blt m 290 then (bif Nat.blt m 288 then (bif Nat.beq m 287 then 9144 else 0) else
        (bif Nat.blt m 289 then (bif Nat.beq m 288 then 9148 else 0) else
         (bif Nat.beq m 289 then 9152 else 0))) else
       (bif Nat.blt m 292 then (bif Nat.blt m 291 then (bif Nat.beq m 290 then 20120 else 0) else
         (bif Nat.beq m 291 then 0 else 0)) else
        (bif Nat.blt m 293 then (bif Nat.beq m 292 then 0 else 0) else
         (bif Nat.beq m 293 then 9166 else 0)))))))) else
  (bif Nat.blt m 343 then (bif Nat.blt m 318 then (bif Nat.blt m 306 then (bif Nat.blt m 300 then (bif Nat.blt m 297 then (bif Nat.blt m 295 then (bif Nat.beq m 294 then 9170 else 0) else
        (bif Nat.blt m 296 then (bif Nat.beq m 295 then 9174 else 0) else
         (bif Nat.beq m 296 then 20121 else 0))) else
       (bif Nat.blt m 298 then (bif Nat.beq m 297 then 9182 else 0) else
        (bif Nat.blt m 299 then (bif Nat.beq m 298 then 9186 else 0) else
         (bif Nat.beq m 299 then 9191 else 0)))) else
      (bif Nat.blt m 303 then (bif Nat.blt m 301 then (bif Nat.beq m 300 then 9205 else 0) else
        (bif Nat.blt m 302 then (bif Nat.beq m 301 then 20122 else 0) else
         (bif Nat.beq m 302 then 20123 else 0))) else
       (bif Nat.blt m 304 then (bif Nat.beq m 303 then 9217 else 0) else
        (bif Nat.blt m 305 then (bif Nat.beq m 304 then 9221 else 0) else
         (bif Nat.beq m 305 then 20124 else 0))))) else
     (bif Nat.blt m 312 then (bif Nat.blt m 309 then (bif Nat.blt m 307 then (bif Nat.beq m 306 then 20125 else 0) else
        (bif Nat.blt m 308 then (bif Nat.beq m 307 then 9233 else 0) else
         (bif Nat.beq m 308 then 9237 else 0))) else
       (bif Nat.blt m 310 then (bif Nat.beq m 309 then 20126 else 0) else
        (bif Nat.blt m 311 then (bif Nat.beq m 310 then 10005 else 0) else
         (bif Nat.beq m 311 then 10019 else 0)))) else
      (bif Nat.blt m 315 then (bif Nat.blt m 313 then (bif Nat.beq m 312 then 10024 else 0) else
        (bif Nat.blt m 314 then (bif Nat.beq m 313 then 20127 else 0) else
         (bif Nat.beq m 314 then 10032 else 0))) else
       (bif Nat.blt m 316 then (bif Nat.beq m 315 then 10036 else 0) else
        (bif Nat.blt m 317 then (bif Nat.beq m 316 then 20128 else 0) else
         (bif Nat.beq m 317 then 20129 else 0)))))) else
    (bif Nat.blt m 330 then (bif Nat.blt m 324 then (bif Nat.blt m 321 then (bif Nat.blt m 319 then (bif Nat.beq m 318 then 10048 else 0) else
        (bif Nat.blt m 320 then (bif Nat.beq m 319 then 10052 else 0) else
         (bif Nat.beq m 320 then 20130 else 0))) else
       (bif Nat.blt m 322 then (bif Nat.beq m 321 then 20131 else 0) else
        (bif Nat.blt m 323 then (bif Nat.beq m 322 then 20132 else 0) else
         (bif Nat.beq m 323 then 20133 else 0)))) else
      (bif Nat.blt m 327 then (bif Nat.blt m 325 then (bif Nat.beq m 324 then 20134 else 0) else
        (bif Nat.blt m 326 then (bif Nat.beq m 325 then 20135 else 0) else
         (bif Nat.beq m 326 then 20136 else 0))) else
       (bif Nat.blt m 328 then (bif Nat.beq m 327 then 20137 else 0) else
        (bif Nat.blt m 329 then (bif Nat.beq m 328 then 20138 else 0) else
         (bif Nat.beq m 329 then 20139 else 0))))) else
     (bif Nat.blt m 336 then (bif Nat.blt m 333 then (bif Nat.blt m 331 then (bif Nat.beq m 330 then 20140 else 0) else
        (bif Nat.blt m 332 then (bif Nat.beq m 331 then 20141 else 0) else
         (bif Nat.beq m 332 then 20142 else 0))) else
       (bif Nat.blt m 334 then (bif Nat.beq m 333 then 20143 else 0) else
        (bif Nat.blt m 335 then (bif Nat.beq m 334 then 10112 else 0) else
         (bif Nat.beq m 335 then 10116 else 0)))) else
      (bif Nat.blt m 339 then (bif Nat.blt m 337 then (bif Nat.beq m 336 then 10120 else 0) else
        (bif Nat.blt m 338 then (bif Nat.beq m 337 then 20144 else 0) else
         (bif Nat.beq m 338 then 10128 else 0))) else
       (bif Nat.blt m 341 then (bif Nat.blt m 340 then (bif Nat.beq m 339 then 20145 else 0) else
         (bif Nat.beq m 340 then 20146 else 0)) else
        (bif Nat.blt m 342 then (bif Nat.beq m 341 then 20147 else 0) else
         (bif Nat.beq m 342 then 10144 else 0))))))) else
   (bif Nat.blt m 367 then (bif Nat.blt m 355 then (bif Nat.blt m 349 then (bif Nat.blt m 346 then (bif Nat.blt m 344 then (bif Nat.beq m 343 then 10148 else 0) else
        (bif Nat.blt m 345 then (bif Nat.beq m 344 then 10152 else 0) else
         (bif Nat.beq m 345 then 10156 else 0))) else
       (bif Nat.blt m 347 then (bif Nat.beq m 346 then 10160 else 0) else
        (bif Nat.blt m 348 then (bif Nat.beq m 347 then 10164 else 0) else
         (bif Nat.beq m 348 then 10168 else 0)))) else
      (bif Nat.blt m 352 then (bif Nat.blt m 350 then (bif Nat.beq m 349 then 10172 else 0) else
        (bif Nat.blt m 351 then (bif Nat.beq m 350 then 0 else 0) else
         (bif Nat.beq m 351 then 0 else 0))) else
       (bif Nat.blt m 353 then (bif Nat.beq m 352 then 0 else 0) else
        (bif Nat.blt m 354 then (bif Nat.beq m 353 then 0 else 0) else
         (bif Nat.beq m 354 then 0 else 0))))) else
     (bif Nat.blt m 361 then (bif Nat.blt m 358 then (bif Nat.blt m 356 then (bif Nat.beq m 355 then 0 else 0) else
        (bif Nat.blt m 357 then (bif Nat.beq m 356 then 0 else 0) else
         (bif Nat.beq m 357 then 0 else 0))) else
       (bif Nat.blt m 359 then (bif Nat.beq m 358 then 0 else 0) else
        (bif Nat.blt m 360 then (bif Nat.beq m 359 then 0 else 0) else
         (bif Nat.beq m 360 then 0 else 0)))) else
      (bif Nat.blt m 364 then (bif Nat.blt m 362 then (bif Nat.beq m 361 then 0 else 0) else
        (bif Nat.blt m 363 then (bif Nat.beq m 362 then 0 else 0) else
         (bif Nat.beq m 363 then 0 else 0))) else
       (bif Nat.blt m 365 then (bif Nat.beq m 364 then 0 else 0) else
        (bif Nat.blt m 366 then (bif Nat.beq m 365 then 0 else 0) else
         (bif Nat.beq m 366 then 0 else 0)))))) else
    (bif Nat.blt m 379 then (bif Nat.blt m 373 then (bif Nat.blt m 370 then (bif Nat.blt m 368 then (bif Nat.beq m 367 then 0 else 0) else
        (bif Nat.blt m 369 then (bif Nat.beq m 368 then 0 else 0) else
         (bif Nat.beq m 369 then 0 else 0))) else
       (bif Nat.blt m 371 then (bif Nat.beq m 370 then 0 else 0) else
        (bif Nat.blt m 372 then (bif Nat.beq m 371 then 0 else 0) else
         (bif Nat.beq m 372 then 0 else 0)))) else
      (bif Nat.blt m 376 then (bif Nat.blt m 374 then (bif Nat.beq m 373 then 0 else 0) else
        (bif Nat.blt m 375 then (bif Nat.beq m 374 then 0 else 0) else
         (bif Nat.beq m 375 then 0 else 0))) else
       (bif Nat.blt m 377 then (bif Nat.beq m 376 then 0 else 0) else
        (bif Nat.blt m 378 then (bif Nat.beq m 377 then 0 else 0) else
         (bif Nat.beq m 378 then 0 else 0))))) else
     (bif Nat.blt m 385 then (bif Nat.blt m 382 then (bif Nat.blt m 380 then (bif Nat.beq m 379 then 0 else 0) else
        (bif Nat.blt m 381 then (bif Nat.beq m 380 then 0 else 0) else
         (bif Nat.beq m 381 then 0 else 0))) else
       (bif Nat.blt m 383 then (bif Nat.beq m 382 then 0 else 0) else
        (bif Nat.blt m 384 then (bif Nat.beq m 383 then 0 else 0) else
         (bif Nat.beq m 384 then 0 else 0)))) else
      (bif Nat.blt m 388 then (bif Nat.blt m 386 then (bif Nat.beq m 385 then 0 else 0) else
        (bif Nat.blt m 387 then (bif Nat.beq m 386 then 0 else 0) else
         (bif Nat.beq m 387 then 0 else 0))) else
       (bif Nat.blt m 390 then (bif Nat.blt m 389 then (bif Nat.beq m 388 then 0 else 0) else
         (bif Nat.beq m 389 then 0 else 0)) else
        (bif Nat.blt m 391 then (bif Nat.beq m 390 then 0 else 0) else
         (bif Nat.beq m 391 then 0 else 0))))))))))
noncomputable def zpN (o : Nat) : Nat :=
 (bif Nat.blt o 9 then (bif Nat.blt o 4 then (bif Nat.blt o 2 then (bif Nat.blt o 1 then (bif Nat.beq o 0 then 1013 else 0) else
    (bif Nat.beq o 1 then 1002 else 0)) else
   (bif Nat.blt o 3 then (bif Nat.beq o 2 then 1008 else 0) else
    (bif Nat.beq o 3 then 1006 else 0))) else
  (bif Nat.blt o 6 then (bif Nat.blt o 5 then (bif Nat.beq o 4 then 1010 else 0) else
    (bif Nat.beq o 5 then 1012 else 0)) else
   (bif Nat.blt o 7 then (bif Nat.beq o 6 then 1007 else 0) else
    (bif Nat.blt o 8 then (bif Nat.beq o 7 then 1011 else 0) else
     (bif Nat.beq o 8 then 1014 else 0))))) else
 (bif Nat.blt o 14 then (bif Nat.blt o 11 then (bif Nat.blt o 10 then (bif Nat.beq o 9 then 1009 else 0) else
    (bif Nat.beq o 10 then 1015 else 0)) else
   (bif Nat.blt o 12 then (bif Nat.beq o 11 then 1001 else 0) else
    (bif Nat.blt o 13 then (bif Nat.beq o 12 then 1020 else 0) else
     (bif Nat.beq o 13 then 1000 else 0)))) else
  (bif Nat.blt o 16 then (bif Nat.blt o 15 then (bif Nat.beq o 14 then 1003 else 0) else
    (bif Nat.beq o 15 then 1028 else 0)) else
   (bif Nat.blt o 17 then (bif Nat.beq o 16 then 1004 else 0) else
    (bif Nat.blt o 18 then (bif Nat.beq o 17 then 1029 else 0) else
     (bif Nat.beq o 18 then 1030 else 0))))))
noncomputable def zplF (o i : Nat) : Nat :=
 (bif Nat.blt o 6 then (bif Nat.blt o 3 then (bif Nat.blt o 1 then (bif Nat.beq o 0 then (bif Nat.blt i 26 then (bif Nat.blt i 18 then (bif Nat.blt i 15 then (bif Nat.beq i 9 then 2141 else 0) else
   (bif Nat.beq i 15 then 2142 else 0)) else
  (bif Nat.blt i 22 then (bif Nat.beq i 18 then 2138 else 0) else
   (bif Nat.beq i 22 then 2139 else 0))) else
 (bif Nat.blt i 64 then (bif Nat.blt i 48 then (bif Nat.beq i 26 then 2140 else 0) else
   (bif Nat.beq i 48 then 2039 else 0)) else
  (bif Nat.blt i 83 then (bif Nat.beq i 64 then 1218 else 0) else
   (bif Nat.blt i 117 then (bif Nat.beq i 83 then 1213 else 0) else
    (bif Nat.beq i 117 then 2044 else 0))))) else 0) else
   (bif Nat.blt o 2 then (bif Nat.beq o 1 then (bif Nat.beq i 19 then 1065 else 0) else 0) else
    (bif Nat.beq o 2 then (bif Nat.blt i 20 then (bif Nat.blt i 17 then (bif Nat.beq i 11 then 1190 else 0) else
  (bif Nat.beq i 17 then 1191 else 0)) else
 (bif Nat.blt i 27 then (bif Nat.beq i 20 then 1192 else 0) else
  (bif Nat.blt i 31 then (bif Nat.beq i 27 then 1187 else 0) else
   (bif Nat.beq i 31 then 1189 else 0)))) else 0))) else
  (bif Nat.blt o 4 then (bif Nat.beq o 3 then (bif Nat.blt i 49 then (bif Nat.blt i 28 then (bif Nat.blt i 20 then (bif Nat.beq i 9 then 1120 else 0) else
   (bif Nat.blt i 24 then (bif Nat.beq i 20 then 1119 else 0) else
    (bif Nat.beq i 24 then 1115 else 0))) else
  (bif Nat.blt i 39 then (bif Nat.beq i 28 then 1117 else 0) else
   (bif Nat.blt i 45 then (bif Nat.beq i 39 then 1085 else 0) else
    (bif Nat.beq i 45 then 1121 else 0)))) else
 (bif Nat.blt i 65 then (bif Nat.blt i 53 then (bif Nat.beq i 49 then 1122 else 0) else
   (bif Nat.blt i 56 then (bif Nat.beq i 53 then 1123 else 0) else
    (bif Nat.beq i 56 then 1124 else 0))) else
  (bif Nat.blt i 82 then (bif Nat.blt i 71 then (bif Nat.beq i 65 then 1159 else 0) else
    (bif Nat.beq i 71 then 1164 else 0)) else
   (bif Nat.blt i 111 then (bif Nat.beq i 82 then 1087 else 0) else
    (bif Nat.beq i 111 then 1217 else 0))))) else 0) else
   (bif Nat.blt o 5 then (bif Nat.beq o 4 then (bif Nat.blt i 33 then (bif Nat.blt i 21 then (bif Nat.blt i 15 then (bif Nat.beq i 9 then 1225 else 0) else
   (bif Nat.blt i 18 then (bif Nat.beq i 15 then 1226 else 0) else
    (bif Nat.beq i 18 then 1227 else 0))) else
  (bif Nat.blt i 27 then (bif Nat.blt i 24 then (bif Nat.beq i 21 then 1228 else 0) else
    (bif Nat.beq i 24 then 1229 else 0)) else
   (bif Nat.blt i 30 then (bif Nat.beq i 27 then 1231 else 0) else
    (bif Nat.beq i 30 then 1232 else 0)))) else
 (bif Nat.blt i 45 then (bif Nat.blt i 36 then (bif Nat.beq i 33 then 1233 else 0) else
   (bif Nat.blt i 41 then (bif Nat.beq i 36 then 1234 else 0) else
    (bif Nat.beq i 41 then 1235 else 0))) else
  (bif Nat.blt i 57 then (bif Nat.blt i 49 then (bif Nat.beq i 45 then 1236 else 0) else
    (bif Nat.beq i 49 then 1211 else 0)) else
   (bif Nat.blt i 90 then (bif Nat.beq i 57 then 1222 else 0) else
    (bif Nat.beq i 90 then 1224 else 0))))) else 0) else
    (bif Nat.beq o 5 then (bif Nat.blt i 83 then (bif Nat.blt i 22 then (bif Nat.blt i 15 then (bif Nat.beq i 9 then 2104 else 0) else
   (bif Nat.blt i 18 then (bif Nat.beq i 15 then 2105 else 0) else
    (bif Nat.beq i 18 then 2106 else 0))) else
  (bif Nat.blt i 30 then (bif Nat.blt i 26 then (bif Nat.beq i 22 then 2101 else 0) else
    (bif Nat.beq i 26 then 2102 else 0)) else
   (bif Nat.blt i 34 then (bif Nat.beq i 30 then 2103 else 0) else
    (bif Nat.beq i 34 then 1212 else 0)))) else
 (bif Nat.blt i 116 then (bif Nat.blt i 90 then (bif Nat.beq i 83 then 1230 else 0) else
   (bif Nat.blt i 113 then (bif Nat.beq i 90 then 2042 else 0) else
    (bif Nat.beq i 113 then 2107 else 0))) else
  (bif Nat.blt i 123 then (bif Nat.blt i 120 then (bif Nat.beq i 116 then 2108 else 0) else
    (bif Nat.beq i 120 then 2109 else 0)) else
   (bif Nat.blt i 162 then (bif Nat.beq i 123 then 2110 else 0) else
    (bif Nat.beq i 162 then 2046 else 0))))) else 0)))) else
 (bif Nat.blt o 9 then (bif Nat.blt o 7 then (bif Nat.beq o 6 then (bif Nat.blt i 32 then (bif Nat.blt i 18 then (bif Nat.blt i 15 then (bif Nat.beq i 11 then 1091 else 0) else
   (bif Nat.beq i 15 then 1092 else 0)) else
  (bif Nat.blt i 28 then (bif Nat.beq i 18 then 1088 else 0) else
   (bif Nat.beq i 28 then 1089 else 0))) else
 (bif Nat.blt i 38 then (bif Nat.blt i 35 then (bif Nat.beq i 32 then 1084 else 0) else
   (bif Nat.beq i 35 then 1090 else 0)) else
  (bif Nat.blt i 44 then (bif Nat.beq i 38 then 1093 else 0) else
   (bif Nat.blt i 47 then (bif Nat.beq i 44 then 1086 else 0) else
    (bif Nat.beq i 47 then 1094 else 0))))) else 0) else
   (bif Nat.blt o 8 then (bif Nat.beq o 7 then (bif Nat.blt i 59 then (bif Nat.blt i 27 then (bif Nat.blt i 18 then (bif Nat.blt i 15 then (bif Nat.beq i 9 then 2047 else 0) else
    (bif Nat.beq i 15 then 2048 else 0)) else
   (bif Nat.blt i 21 then (bif Nat.beq i 18 then 2049 else 0) else
    (bif Nat.blt i 24 then (bif Nat.beq i 21 then 2050 else 0) else
     (bif Nat.beq i 24 then 2051 else 0)))) else
  (bif Nat.blt i 40 then (bif Nat.blt i 33 then (bif Nat.beq i 27 then 2052 else 0) else
    (bif Nat.blt i 37 then (bif Nat.beq i 33 then 2053 else 0) else
     (bif Nat.beq i 37 then 2055 else 0))) else
   (bif Nat.blt i 43 then (bif Nat.beq i 40 then 2056 else 0) else
    (bif Nat.blt i 46 then (bif Nat.beq i 43 then 2057 else 0) else
     (bif Nat.beq i 46 then 2054 else 0))))) else
 (bif Nat.blt i 93 then (bif Nat.blt i 72 then (bif Nat.blt i 63 then (bif Nat.beq i 59 then 2059 else 0) else
    (bif Nat.blt i 67 then (bif Nat.beq i 63 then 2060 else 0) else
     (bif Nat.beq i 67 then 1158 else 0))) else
   (bif Nat.blt i 87 then (bif Nat.beq i 72 then 1066 else 0) else
    (bif Nat.blt i 90 then (bif Nat.beq i 87 then 2040 else 0) else
     (bif Nat.beq i 90 then 1162 else 0)))) else
  (bif Nat.blt i 162 then (bif Nat.blt i 95 then (bif Nat.beq i 93 then 2043 else 0) else
    (bif Nat.blt i 105 then (bif Nat.beq i 95 then 1214 else 0) else
     (bif Nat.beq i 105 then 1219 else 0))) else
   (bif Nat.blt i 172 then (bif Nat.beq i 162 then 2058 else 0) else
    (bif Nat.blt i 175 then (bif Nat.beq i 172 then 3219 else 0) else
     (bif Nat.beq i 175 then 3221 else 0)))))) else 0) else
    (bif Nat.beq o 8 then (bif Nat.blt i 34 then (bif Nat.blt i 20 then (bif Nat.blt i 16 then (bif Nat.beq i 13 then 2164 else 0) else
   (bif Nat.beq i 16 then 2165 else 0)) else
  (bif Nat.blt i 24 then (bif Nat.beq i 20 then 2162 else 0) else
   (bif Nat.beq i 24 then 2163 else 0))) else
 (bif Nat.blt i 58 then (bif Nat.blt i 44 then (bif Nat.beq i 34 then 1163 else 0) else
   (bif Nat.beq i 44 then 1220 else 0)) else
  (bif Nat.blt i 111 then (bif Nat.beq i 58 then 1216 else 0) else
   (bif Nat.beq i 111 then 1067 else 0)))) else 0))) else
  (bif Nat.blt o 11 then (bif Nat.beq o 9 then (bif Nat.blt i 24 then (bif Nat.blt i 17 then (bif Nat.beq i 11 then 1167 else 0) else
  (bif Nat.blt i 20 then (bif Nat.beq i 17 then 1168 else 0) else
   (bif Nat.beq i 20 then 1169 else 0))) else
 (bif Nat.blt i 31 then (bif Nat.blt i 27 then (bif Nat.beq i 24 then 1170 else 0) else
   (bif Nat.beq i 27 then 1166 else 0)) else
  (bif Nat.blt i 34 then (bif Nat.beq i 31 then 1157 else 0) else
   (bif Nat.beq i 34 then 1161 else 0)))) else 0) else
   (bif Nat.blt o 12 then (bif Nat.beq o 11 then (bif Nat.blt i 109 then (bif Nat.blt i 53 then (bif Nat.blt i 30 then (bif Nat.blt i 13 then (bif Nat.beq i 9 then 4128 else 0) else
    (bif Nat.blt i 21 then (bif Nat.beq i 13 then 4130 else 0) else
     (bif Nat.beq i 21 then 4134 else 0))) else
   (bif Nat.blt i 39 then (bif Nat.beq i 30 then 4135 else 0) else
    (bif Nat.blt i 46 then (bif Nat.beq i 39 then 4136 else 0) else
     (bif Nat.beq i 46 then 4141 else 0)))) else
  (bif Nat.blt i 78 then (bif Nat.blt i 60 then (bif Nat.beq i 53 then 4142 else 0) else
    (bif Nat.blt i 69 then (bif Nat.beq i 60 then 4137 else 0) else
     (bif Nat.beq i 69 then 4138 else 0))) else
   (bif Nat.blt i 85 then (bif Nat.beq i 78 then 4139 else 0) else
    (bif Nat.blt i 97 then (bif Nat.beq i 85 then 4140 else 0) else
     (bif Nat.beq i 97 then 4129 else 0))))) else
 (bif Nat.blt i 186 then (bif Nat.blt i 136 then (bif Nat.blt i 130 then (bif Nat.beq i 109 then 4133 else 0) else
    (bif Nat.blt i 133 then (bif Nat.beq i 130 then 1215 else 0) else
     (bif Nat.beq i 133 then 4132 else 0))) else
   (bif Nat.blt i 139 then (bif Nat.beq i 136 then 1221 else 0) else
    (bif Nat.blt i 152 then (bif Nat.beq i 139 then 1223 else 0) else
     (bif Nat.beq i 152 then 1188 else 0)))) else
  (bif Nat.blt i 314 then (bif Nat.blt i 190 then (bif Nat.beq i 186 then 2041 else 0) else
    (bif Nat.blt i 294 then (bif Nat.beq i 190 then 2045 else 0) else
     (bif Nat.beq i 294 then 4131 else 0))) else
   (bif Nat.blt i 358 then (bif Nat.blt i 316 then (bif Nat.beq i 314 then 1160 else 0) else
     (bif Nat.beq i 316 then 1165 else 0)) else
    (bif Nat.blt i 359 then (bif Nat.beq i 358 then 1116 else 0) else
     (bif Nat.beq i 359 then 1118 else 0)))))) else 0) else
    (bif Nat.beq o 12 then (bif Nat.blt i 90 then (bif Nat.blt i 45 then (bif Nat.blt i 25 then (bif Nat.blt i 16 then (bif Nat.blt i 13 then (bif Nat.beq i 7 then 7172 else 0) else
     (bif Nat.beq i 13 then 7174 else 0)) else
    (bif Nat.blt i 19 then (bif Nat.beq i 16 then 7175 else 0) else
     (bif Nat.blt i 22 then (bif Nat.beq i 19 then 7176 else 0) else
      (bif Nat.beq i 22 then 7178 else 0)))) else
   (bif Nat.blt i 35 then (bif Nat.blt i 28 then (bif Nat.beq i 25 then 7180 else 0) else
     (bif Nat.blt i 31 then (bif Nat.beq i 28 then 7181 else 0) else
      (bif Nat.beq i 31 then 7184 else 0))) else
    (bif Nat.blt i 39 then (bif Nat.beq i 35 then 7186 else 0) else
     (bif Nat.blt i 42 then (bif Nat.beq i 39 then 7188 else 0) else
      (bif Nat.beq i 42 then 7191 else 0))))) else
  (bif Nat.blt i 64 then (bif Nat.blt i 55 then (bif Nat.blt i 48 then (bif Nat.beq i 45 then 7192 else 0) else
     (bif Nat.blt i 52 then (bif Nat.beq i 48 then 7194 else 0) else
      (bif Nat.beq i 52 then 7195 else 0))) else
    (bif Nat.blt i 58 then (bif Nat.beq i 55 then 7196 else 0) else
     (bif Nat.blt i 61 then (bif Nat.beq i 58 then 7197 else 0) else
      (bif Nat.beq i 61 then 7204 else 0)))) else
   (bif Nat.blt i 73 then (bif Nat.blt i 67 then (bif Nat.beq i 64 then 7205 else 0) else
     (bif Nat.blt i 70 then (bif Nat.beq i 67 then 7206 else 0) else
      (bif Nat.beq i 70 then 7207 else 0))) else
    (bif Nat.blt i 80 then (bif Nat.beq i 73 then 7215 else 0) else
     (bif Nat.blt i 83 then (bif Nat.beq i 80 then 7216 else 0) else
      (bif Nat.beq i 83 then 7218 else 0)))))) else
 (bif Nat.blt i 290 then (bif Nat.blt i 178 then (bif Nat.blt i 124 then (bif Nat.blt i 97 then (bif Nat.beq i 90 then 7173 else 0) else
     (bif Nat.blt i 114 then (bif Nat.beq i 97 then 7182 else 0) else
      (bif Nat.beq i 114 then 7217 else 0))) else
    (bif Nat.blt i 172 then (bif Nat.beq i 124 then 7193 else 0) else
     (bif Nat.blt i 175 then (bif Nat.beq i 172 then 7199 else 0) else
      (bif Nat.beq i 175 then 7200 else 0)))) else
   (bif Nat.blt i 247 then (bif Nat.blt i 181 then (bif Nat.beq i 178 then 7201 else 0) else
     (bif Nat.blt i 184 then (bif Nat.beq i 181 then 7202 else 0) else
      (bif Nat.beq i 184 then 7203 else 0))) else
    (bif Nat.blt i 284 then (bif Nat.beq i 247 then 7198 else 0) else
     (bif Nat.blt i 287 then (bif Nat.beq i 284 then 7177 else 0) else
      (bif Nat.beq i 287 then 7183 else 0))))) else
  (bif Nat.blt i 314 then (bif Nat.blt i 299 then (bif Nat.blt i 293 then (bif Nat.beq i 290 then 7185 else 0) else
     (bif Nat.blt i 296 then (bif Nat.beq i 293 then 7209 else 0) else
      (bif Nat.beq i 296 then 7211 else 0))) else
    (bif Nat.blt i 302 then (bif Nat.beq i 299 then 7210 else 0) else
     (bif Nat.blt i 311 then (bif Nat.beq i 302 then 7208 else 0) else
      (bif Nat.beq i 311 then 7212 else 0)))) else
   (bif Nat.blt i 375 then (bif Nat.blt i 317 then (bif Nat.beq i 314 then 7213 else 0) else
     (bif Nat.blt i 372 then (bif Nat.beq i 317 then 7214 else 0) else
      (bif Nat.beq i 372 then 7187 else 0))) else
    (bif Nat.blt i 399 then (bif Nat.beq i 375 then 7190 else 0) else
     (bif Nat.blt i 473 then (bif Nat.beq i 399 then 7179 else 0) else
      (bif Nat.beq i 473 then 7189 else 0))))))) else 0)))))
noncomputable def zplM (o i : Nat) : Nat :=
 (bif Nat.blt o 8 then (bif Nat.blt o 4 then (bif Nat.blt o 2 then (bif Nat.blt o 1 then (bif Nat.beq o 0 then (bif Nat.blt i 86 then (bif Nat.blt i 52 then (bif Nat.blt i 36 then (bif Nat.blt i 30 then (bif Nat.beq i 3 then 2137 else 0) else
    (bif Nat.beq i 30 then 3202 else 0)) else
   (bif Nat.blt i 39 then (bif Nat.beq i 36 then 4026 else 0) else
    (bif Nat.blt i 42 then (bif Nat.beq i 39 then 4069 else 0) else
     (bif Nat.beq i 42 then 4110 else 0)))) else
  (bif Nat.blt i 72 then (bif Nat.blt i 58 then (bif Nat.beq i 52 then 4113 else 0) else
    (bif Nat.blt i 68 then (bif Nat.beq i 58 then 4091 else 0) else
     (bif Nat.beq i 68 then 4073 else 0))) else
   (bif Nat.blt i 76 then (bif Nat.beq i 72 then 4114 else 0) else
    (bif Nat.blt i 79 then (bif Nat.beq i 76 then 4077 else 0) else
     (bif Nat.beq i 79 then 4081 else 0))))) else
 (bif Nat.blt i 106 then (bif Nat.blt i 96 then (bif Nat.blt i 89 then (bif Nat.beq i 86 then 4085 else 0) else
    (bif Nat.blt i 92 then (bif Nat.beq i 89 then 4086 else 0) else
     (bif Nat.beq i 92 then 4087 else 0))) else
   (bif Nat.blt i 99 then (bif Nat.beq i 96 then 4096 else 0) else
    (bif Nat.blt i 103 then (bif Nat.beq i 99 then 4101 else 0) else
     (bif Nat.beq i 103 then 4118 else 0)))) else
  (bif Nat.blt i 120 then (bif Nat.blt i 110 then (bif Nat.beq i 106 then 4119 else 0) else
    (bif Nat.blt i 114 then (bif Nat.beq i 110 then 4123 else 0) else
     (bif Nat.beq i 114 then 4124 else 0))) else
   (bif Nat.blt i 123 then (bif Nat.beq i 120 then 4100 else 0) else
    (bif Nat.blt i 126 then (bif Nat.beq i 123 then 4105 else 0) else
     (bif Nat.beq i 126 then 4109 else 0)))))) else 0) else
    (bif Nat.beq o 1 then (bif Nat.blt i 7 then (bif Nat.beq i 1 then 1045 else 0) else
 (bif Nat.blt i 13 then (bif Nat.beq i 7 then 1046 else 0) else
  (bif Nat.beq i 13 then 1049 else 0))) else 0)) else
   (bif Nat.blt o 3 then (bif Nat.beq o 2 then (bif Nat.blt i 40 then (bif Nat.blt i 24 then (bif Nat.beq i 3 then 1147 else 0) else
  (bif Nat.blt i 34 then (bif Nat.beq i 24 then 1151 else 0) else
   (bif Nat.beq i 34 then 7048 else 0))) else
 (bif Nat.blt i 44 then (bif Nat.beq i 40 then 7051 else 0) else
  (bif Nat.blt i 47 then (bif Nat.beq i 44 then 7055 else 0) else
   (bif Nat.beq i 47 then 7123 else 0)))) else 0) else
    (bif Nat.beq o 3 then (bif Nat.blt i 108 then (bif Nat.blt i 77 then (bif Nat.blt i 35 then (bif Nat.blt i 17 then (bif Nat.beq i 3 then 1077 else 0) else
    (bif Nat.blt i 31 then (bif Nat.beq i 17 then 1080 else 0) else
     (bif Nat.beq i 31 then 2232 else 0))) else
   (bif Nat.blt i 62 then (bif Nat.blt i 42 then (bif Nat.beq i 35 then 3080 else 0) else
     (bif Nat.beq i 42 then 3076 else 0)) else
    (bif Nat.blt i 74 then (bif Nat.beq i 62 then 3071 else 0) else
     (bif Nat.beq i 74 then 3102 else 0)))) else
  (bif Nat.blt i 96 then (bif Nat.blt i 88 then (bif Nat.blt i 85 then (bif Nat.beq i 77 then 3188 else 0) else
     (bif Nat.beq i 85 then 3075 else 0)) else
    (bif Nat.blt i 92 then (bif Nat.beq i 88 then 3106 else 0) else
     (bif Nat.beq i 92 then 3114 else 0))) else
   (bif Nat.blt i 102 then (bif Nat.blt i 99 then (bif Nat.beq i 96 then 3117 else 0) else
     (bif Nat.beq i 99 then 3175 else 0)) else
    (bif Nat.blt i 105 then (bif Nat.beq i 102 then 3179 else 0) else
     (bif Nat.beq i 105 then 3183 else 0))))) else
 (bif Nat.blt i 134 then (bif Nat.blt i 121 then (bif Nat.blt i 114 then (bif Nat.beq i 108 then 3184 else 0) else
    (bif Nat.blt i 118 then (bif Nat.beq i 114 then 3121 else 0) else
     (bif Nat.beq i 118 then 3145 else 0))) else
   (bif Nat.blt i 128 then (bif Nat.blt i 125 then (bif Nat.beq i 121 then 3156 else 0) else
     (bif Nat.beq i 125 then 3160 else 0)) else
    (bif Nat.blt i 131 then (bif Nat.beq i 128 then 3164 else 0) else
     (bif Nat.beq i 131 then 3171 else 0)))) else
  (bif Nat.blt i 148 then (bif Nat.blt i 141 then (bif Nat.blt i 137 then (bif Nat.beq i 134 then 3149 else 0) else
     (bif Nat.beq i 137 then 3152 else 0)) else
    (bif Nat.blt i 145 then (bif Nat.beq i 141 then 3084 else 0) else
     (bif Nat.beq i 145 then 3094 else 0))) else
   (bif Nat.blt i 156 then (bif Nat.blt i 153 then (bif Nat.beq i 148 then 3097 else 0) else
     (bif Nat.beq i 153 then 3101 else 0)) else
    (bif Nat.blt i 159 then (bif Nat.beq i 156 then 3088 else 0) else
     (bif Nat.beq i 159 then 3091 else 0)))))) else 0))) else
  (bif Nat.blt o 6 then (bif Nat.blt o 5 then (bif Nat.beq o 4 then (bif Nat.blt i 70 then (bif Nat.blt i 60 then (bif Nat.blt i 53 then (bif Nat.beq i 3 then 1209 else 0) else
   (bif Nat.beq i 53 then 3110 else 0)) else
  (bif Nat.blt i 64 then (bif Nat.beq i 60 then 3192 else 0) else
   (bif Nat.blt i 67 then (bif Nat.beq i 64 then 5220 else 0) else
    (bif Nat.beq i 67 then 3193 else 0)))) else
 (bif Nat.blt i 79 then (bif Nat.blt i 73 then (bif Nat.beq i 70 then 3194 else 0) else
   (bif Nat.blt i 76 then (bif Nat.beq i 73 then 3133 else 0) else
    (bif Nat.beq i 76 then 3129 else 0))) else
  (bif Nat.blt i 83 then (bif Nat.beq i 79 then 3125 else 0) else
   (bif Nat.blt i 86 then (bif Nat.beq i 83 then 3137 else 0) else
    (bif Nat.beq i 86 then 3141 else 0))))) else 0) else
    (bif Nat.beq o 5 then (bif Nat.blt i 97 then (bif Nat.blt i 66 then (bif Nat.blt i 50 then (bif Nat.blt i 40 then (bif Nat.beq i 3 then 2100 else 0) else
    (bif Nat.blt i 46 then (bif Nat.beq i 40 then 4030 else 0) else
     (bif Nat.beq i 46 then 4031 else 0))) else
   (bif Nat.blt i 57 then (bif Nat.blt i 54 then (bif Nat.beq i 50 then 4032 else 0) else
     (bif Nat.beq i 54 then 4057 else 0)) else
    (bif Nat.blt i 62 then (bif Nat.beq i 57 then 4061 else 0) else
     (bif Nat.beq i 62 then 4053 else 0)))) else
  (bif Nat.blt i 76 then (bif Nat.blt i 70 then (bif Nat.beq i 66 then 4036 else 0) else
    (bif Nat.blt i 73 then (bif Nat.beq i 70 then 4047 else 0) else
     (bif Nat.beq i 73 then 4048 else 0))) else
   (bif Nat.blt i 86 then (bif Nat.blt i 79 then (bif Nat.beq i 76 then 4068 else 0) else
     (bif Nat.beq i 79 then 4052 else 0)) else
    (bif Nat.blt i 94 then (bif Nat.beq i 86 then 4216 else 0) else
     (bif Nat.beq i 94 then 4217 else 0))))) else
 (bif Nat.blt i 136 then (bif Nat.blt i 107 then (bif Nat.blt i 100 then (bif Nat.beq i 97 then 4212 else 0) else
    (bif Nat.blt i 103 then (bif Nat.beq i 100 then 5009 else 0) else
     (bif Nat.beq i 103 then 5013 else 0))) else
   (bif Nat.blt i 126 then (bif Nat.blt i 110 then (bif Nat.beq i 107 then 5014 else 0) else
     (bif Nat.beq i 110 then 5019 else 0)) else
    (bif Nat.blt i 132 then (bif Nat.beq i 126 then 4235 else 0) else
     (bif Nat.beq i 132 then 5000 else 0)))) else
  (bif Nat.blt i 145 then (bif Nat.blt i 139 then (bif Nat.beq i 136 then 5005 else 0) else
    (bif Nat.blt i 142 then (bif Nat.beq i 139 then 5015 else 0) else
     (bif Nat.beq i 142 then 5004 else 0))) else
   (bif Nat.blt i 153 then (bif Nat.blt i 150 then (bif Nat.beq i 145 then 4231 else 0) else
     (bif Nat.beq i 150 then 4227 else 0)) else
    (bif Nat.blt i 159 then (bif Nat.beq i 153 then 6100 else 0) else
     (bif Nat.beq i 159 then 6101 else 0)))))) else 0)) else
   (bif Nat.blt o 7 then (bif Nat.beq o 6 then (bif Nat.blt i 60 then (bif Nat.blt i 50 then (bif Nat.blt i 22 then (bif Nat.beq i 3 then 1083 else 0) else
   (bif Nat.blt i 41 then (bif Nat.beq i 22 then 2236 else 0) else
    (bif Nat.beq i 41 then 2237 else 0))) else
  (bif Nat.blt i 53 then (bif Nat.beq i 50 then 3063 else 0) else
   (bif Nat.blt i 57 then (bif Nat.beq i 53 then 3001 else 0) else
    (bif Nat.beq i 57 then 3005 else 0)))) else
 (bif Nat.blt i 73 then (bif Nat.blt i 64 then (bif Nat.beq i 60 then 3009 else 0) else
   (bif Nat.blt i 67 then (bif Nat.beq i 64 then 3012 else 0) else
    (bif Nat.beq i 67 then 3016 else 0))) else
  (bif Nat.blt i 76 then (bif Nat.beq i 73 then 3052 else 0) else
   (bif Nat.blt i 79 then (bif Nat.beq i 76 then 3055 else 0) else
    (bif Nat.beq i 79 then 3059 else 0))))) else 0) else
    (bif Nat.beq o 7 then (bif Nat.blt i 128 then (bif Nat.blt i 101 then (bif Nat.blt i 76 then (bif Nat.blt i 50 then (bif Nat.beq i 3 then 2033 else 0) else
    (bif Nat.blt i 54 then (bif Nat.beq i 50 then 2035 else 0) else
     (bif Nat.beq i 54 then 2038 else 0))) else
   (bif Nat.blt i 80 then (bif Nat.beq i 76 then 3206 else 0) else
    (bif Nat.blt i 83 then (bif Nat.beq i 80 then 3210 else 0) else
     (bif Nat.beq i 83 then 3232 else 0)))) else
  (bif Nat.blt i 115 then (bif Nat.blt i 108 then (bif Nat.beq i 101 then 3236 else 0) else
    (bif Nat.blt i 111 then (bif Nat.beq i 108 then 4014 else 0) else
     (bif Nat.beq i 111 then 4000 else 0))) else
   (bif Nat.blt i 121 then (bif Nat.blt i 118 then (bif Nat.beq i 115 then 4001 else 0) else
     (bif Nat.beq i 118 then 4002 else 0)) else
    (bif Nat.blt i 124 then (bif Nat.beq i 121 then 4006 else 0) else
     (bif Nat.beq i 124 then 4010 else 0))))) else
 (bif Nat.blt i 148 then (bif Nat.blt i 138 then (bif Nat.blt i 131 then (bif Nat.beq i 128 then 4018 else 0) else
    (bif Nat.blt i 134 then (bif Nat.beq i 131 then 4022 else 0) else
     (bif Nat.beq i 134 then 4065 else 0))) else
   (bif Nat.blt i 142 then (bif Nat.beq i 138 then 4040 else 0) else
    (bif Nat.blt i 146 then (bif Nat.beq i 142 then 4044 else 0) else
     (bif Nat.beq i 146 then 7083 else 0)))) else
  (bif Nat.blt i 165 then (bif Nat.blt i 151 then (bif Nat.beq i 148 then 7084 else 0) else
    (bif Nat.blt i 156 then (bif Nat.beq i 151 then 7085 else 0) else
     (bif Nat.beq i 156 then 6039 else 0))) else
   (bif Nat.blt i 180 then (bif Nat.blt i 168 then (bif Nat.beq i 165 then 3214 else 0) else
     (bif Nat.beq i 168 then 3215 else 0)) else
    (bif Nat.blt i 183 then (bif Nat.beq i 180 then 3224 else 0) else
     (bif Nat.beq i 183 then 3228 else 0)))))) else 0)))) else
 (bif Nat.blt o 12 then (bif Nat.blt o 10 then (bif Nat.blt o 9 then (bif Nat.beq o 8 then (bif Nat.blt i 74 then (bif Nat.blt i 54 then (bif Nat.blt i 40 then (bif Nat.blt i 28 then (bif Nat.beq i 3 then 2159 else 0) else
    (bif Nat.beq i 28 then 6173 else 0)) else
   (bif Nat.blt i 50 then (bif Nat.beq i 40 then 6176 else 0) else
    (bif Nat.beq i 50 then 6192 else 0))) else
  (bif Nat.blt i 64 then (bif Nat.blt i 61 then (bif Nat.beq i 54 then 6193 else 0) else
    (bif Nat.beq i 61 then 6194 else 0)) else
   (bif Nat.blt i 68 then (bif Nat.beq i 64 then 6195 else 0) else
    (bif Nat.blt i 71 then (bif Nat.beq i 68 then 6212 else 0) else
     (bif Nat.beq i 71 then 6201 else 0))))) else
 (bif Nat.blt i 93 then (bif Nat.blt i 83 then (bif Nat.blt i 78 then (bif Nat.beq i 74 then 6213 else 0) else
    (bif Nat.beq i 78 then 6199 else 0)) else
   (bif Nat.blt i 86 then (bif Nat.beq i 83 then 6180 else 0) else
    (bif Nat.blt i 90 then (bif Nat.beq i 86 then 6200 else 0) else
     (bif Nat.beq i 90 then 6204 else 0)))) else
  (bif Nat.blt i 101 then (bif Nat.blt i 98 then (bif Nat.beq i 93 then 6217 else 0) else
    (bif Nat.beq i 98 then 6184 else 0)) else
   (bif Nat.blt i 105 then (bif Nat.beq i 101 then 6208 else 0) else
    (bif Nat.blt i 108 then (bif Nat.beq i 105 then 6218 else 0) else
     (bif Nat.beq i 108 then 6188 else 0)))))) else 0) else
    (bif Nat.beq o 9 then (bif Nat.blt i 37 then (bif Nat.beq i 3 then 1154 else 0) else
 (bif Nat.beq i 37 then 3168 else 0)) else 0)) else
   (bif Nat.blt o 11 then (bif Nat.beq o 10 then (bif Nat.blt i 71 then (bif Nat.blt i 67 then (bif Nat.beq i 63 then 3019 else 0) else
  (bif Nat.beq i 67 then 3049 else 0)) else
 (bif Nat.blt i 77 then (bif Nat.beq i 71 then 2180 else 0) else
  (bif Nat.blt i 81 then (bif Nat.beq i 77 then 2190 else 0) else
   (bif Nat.beq i 81 then 2179 else 0)))) else 0) else
    (bif Nat.beq o 11 then (bif Nat.blt i 225 then (bif Nat.blt i 149 then (bif Nat.blt i 91 then (bif Nat.blt i 52 then (bif Nat.blt i 27 then (bif Nat.blt i 18 then (bif Nat.beq i 3 then 1037 else 0) else
      (bif Nat.beq i 18 then 1042 else 0)) else
     (bif Nat.blt i 36 then (bif Nat.beq i 27 then 1074 else 0) else
      (bif Nat.blt i 45 then (bif Nat.beq i 36 then 1144 else 0) else
       (bif Nat.beq i 45 then 1206 else 0)))) else
    (bif Nat.blt i 66 then (bif Nat.blt i 59 then (bif Nat.beq i 52 then 2027 else 0) else
      (bif Nat.beq i 59 then 2030 else 0)) else
     (bif Nat.blt i 75 then (bif Nat.beq i 66 then 2097 else 0) else
      (bif Nat.blt i 84 then (bif Nat.beq i 75 then 2134 else 0) else
       (bif Nat.beq i 84 then 2156 else 0))))) else
   (bif Nat.blt i 118 then (bif Nat.blt i 105 then (bif Nat.blt i 101 then (bif Nat.beq i 91 then 2176 else 0) else
      (bif Nat.beq i 101 then 2228 else 0)) else
     (bif Nat.blt i 112 then (bif Nat.beq i 105 then 3067 else 0) else
      (bif Nat.blt i 117 then (bif Nat.beq i 112 then 3198 else 0) else
       (bif Nat.beq i 117 then 5099 else 0)))) else
    (bif Nat.blt i 127 then (bif Nat.blt i 121 then (bif Nat.beq i 118 then 5121 else 0) else
      (bif Nat.blt i 124 then (bif Nat.beq i 121 then 5133 else 0) else
       (bif Nat.beq i 124 then 5152 else 0))) else
     (bif Nat.blt i 142 then (bif Nat.beq i 127 then 5156 else 0) else
      (bif Nat.blt i 146 then (bif Nat.beq i 142 then 5167 else 0) else
       (bif Nat.beq i 146 then 5171 else 0)))))) else
  (bif Nat.blt i 183 then (bif Nat.blt i 165 then (bif Nat.blt i 156 then (bif Nat.blt i 155 then (bif Nat.beq i 149 then 5175 else 0) else
      (bif Nat.beq i 155 then 5146 else 0)) else
     (bif Nat.blt i 159 then (bif Nat.beq i 156 then 5187 else 0) else
      (bif Nat.blt i 162 then (bif Nat.beq i 159 then 5206 else 0) else
       (bif Nat.beq i 162 then 5207 else 0)))) else
    (bif Nat.blt i 174 then (bif Nat.blt i 168 then (bif Nat.beq i 165 then 5211 else 0) else
      (bif Nat.blt i 171 then (bif Nat.beq i 168 then 5215 else 0) else
       (bif Nat.beq i 171 then 5216 else 0))) else
     (bif Nat.blt i 177 then (bif Nat.beq i 174 then 5221 else 0) else
      (bif Nat.blt i 180 then (bif Nat.beq i 177 then 5222 else 0) else
       (bif Nat.beq i 180 then 5223 else 0))))) else
   (bif Nat.blt i 206 then (bif Nat.blt i 196 then (bif Nat.blt i 193 then (bif Nat.beq i 183 then 5229 else 0) else
      (bif Nat.beq i 193 then 5239 else 0)) else
     (bif Nat.blt i 199 then (bif Nat.beq i 196 then 6003 else 0) else
      (bif Nat.blt i 203 then (bif Nat.beq i 199 then 6004 else 0) else
       (bif Nat.beq i 203 then 6005 else 0)))) else
    (bif Nat.blt i 216 then (bif Nat.blt i 209 then (bif Nat.beq i 206 then 6013 else 0) else
      (bif Nat.blt i 213 then (bif Nat.beq i 209 then 6017 else 0) else
       (bif Nat.beq i 213 then 4195 else 0))) else
     (bif Nat.blt i 219 then (bif Nat.beq i 216 then 4194 else 0) else
      (bif Nat.blt i 222 then (bif Nat.beq i 219 then 6032 else 0) else
       (bif Nat.beq i 222 then 4200 else 0))))))) else
 (bif Nat.blt i 303 then (bif Nat.blt i 261 then (bif Nat.blt i 244 then (bif Nat.blt i 234 then (bif Nat.blt i 231 then (bif Nat.beq i 225 then 5042 else 0) else
      (bif Nat.beq i 231 then 6036 else 0)) else
     (bif Nat.blt i 237 then (bif Nat.beq i 234 then 6054 else 0) else
      (bif Nat.blt i 240 then (bif Nat.beq i 237 then 6062 else 0) else
       (bif Nat.beq i 240 then 6073 else 0)))) else
    (bif Nat.blt i 251 then (bif Nat.blt i 248 then (bif Nat.beq i 244 then 6084 else 0) else
      (bif Nat.beq i 248 then 6096 else 0)) else
     (bif Nat.blt i 254 then (bif Nat.beq i 251 then 6112 else 0) else
      (bif Nat.blt i 258 then (bif Nat.beq i 254 then 4208 else 0) else
       (bif Nat.beq i 258 then 4222 else 0))))) else
   (bif Nat.blt i 281 then (bif Nat.blt i 269 then (bif Nat.blt i 265 then (bif Nat.beq i 261 then 5024 else 0) else
      (bif Nat.beq i 265 then 5032 else 0)) else
     (bif Nat.blt i 272 then (bif Nat.beq i 269 then 6123 else 0) else
      (bif Nat.blt i 276 then (bif Nat.beq i 272 then 6127 else 0) else
       (bif Nat.beq i 276 then 6150 else 0)))) else
    (bif Nat.blt i 291 then (bif Nat.blt i 284 then (bif Nat.beq i 281 then 6169 else 0) else
      (bif Nat.blt i 287 then (bif Nat.beq i 284 then 6222 else 0) else
       (bif Nat.beq i 287 then 6223 else 0))) else
     (bif Nat.blt i 299 then (bif Nat.beq i 291 then 6224 else 0) else
      (bif Nat.blt i 300 then (bif Nat.beq i 299 then 7007 else 0) else
       (bif Nat.beq i 300 then 7027 else 0)))))) else
  (bif Nat.blt i 346 then (bif Nat.blt i 325 then (bif Nat.blt i 310 then (bif Nat.blt i 306 then (bif Nat.beq i 303 then 7028 else 0) else
      (bif Nat.beq i 306 then 7036 else 0)) else
     (bif Nat.blt i 318 then (bif Nat.beq i 310 then 7044 else 0) else
      (bif Nat.blt i 322 then (bif Nat.beq i 318 then 7070 else 0) else
       (bif Nat.beq i 322 then 7078 else 0)))) else
    (bif Nat.blt i 335 then (bif Nat.blt i 328 then (bif Nat.beq i 325 then 7079 else 0) else
      (bif Nat.blt i 332 then (bif Nat.beq i 328 then 6132 else 0) else
       (bif Nat.beq i 332 then 7100 else 0))) else
     (bif Nat.blt i 338 then (bif Nat.beq i 335 then 7111 else 0) else
      (bif Nat.blt i 342 then (bif Nat.beq i 338 then 7115 else 0) else
       (bif Nat.beq i 342 then 7119 else 0))))) else
   (bif Nat.blt i 364 then (bif Nat.blt i 352 then (bif Nat.blt i 349 then (bif Nat.beq i 346 then 7131 else 0) else
      (bif Nat.beq i 349 then 7142 else 0)) else
     (bif Nat.blt i 355 then (bif Nat.beq i 352 then 7146 else 0) else
      (bif Nat.blt i 360 then (bif Nat.beq i 355 then 7040 else 0) else
       (bif Nat.beq i 360 then 5227 else 0)))) else
    (bif Nat.blt i 371 then (bif Nat.blt i 367 then (bif Nat.beq i 364 then 5228 else 0) else
      (bif Nat.blt i 369 then (bif Nat.beq i 367 then 5230 else 0) else
       (bif Nat.beq i 369 then 5231 else 0))) else
     (bif Nat.blt i 376 then (bif Nat.beq i 371 then 6131 else 0) else
      (bif Nat.blt i 382 then (bif Nat.beq i 376 then 6229 else 0) else
       (bif Nat.beq i 382 then 5200 else 0)))))))) else 0))) else
  (bif Nat.blt o 16 then (bif Nat.blt o 13 then (bif Nat.beq o 12 then (bif Nat.blt i 305 then (bif Nat.blt i 198 then (bif Nat.blt i 138 then (bif Nat.blt i 108 then (bif Nat.blt i 93 then (bif Nat.blt i 76 then (bif Nat.beq i 1 then 7155 else 0) else
      (bif Nat.blt i 86 then (bif Nat.beq i 76 then 7156 else 0) else
       (bif Nat.beq i 86 then 7160 else 0))) else
     (bif Nat.blt i 100 then (bif Nat.beq i 93 then 9035 else 0) else
      (bif Nat.blt i 104 then (bif Nat.beq i 100 then 8098 else 0) else
       (bif Nat.beq i 104 then 7168 else 0)))) else
    (bif Nat.blt i 121 then (bif Nat.blt i 111 then (bif Nat.beq i 108 then 9050 else 0) else
      (bif Nat.blt i 118 then (bif Nat.beq i 111 then 7164 else 0) else
       (bif Nat.beq i 118 then 9005 else 0))) else
     (bif Nat.blt i 130 then (bif Nat.blt i 127 then (bif Nat.beq i 121 then 8147 else 0) else
       (bif Nat.beq i 127 then 9002 else 0)) else
      (bif Nat.blt i 134 then (bif Nat.beq i 130 then 9008 else 0) else
       (bif Nat.beq i 134 then 8238 else 0))))) else
   (bif Nat.blt i 157 then (bif Nat.blt i 147 then (bif Nat.blt i 141 then (bif Nat.beq i 138 then 8234 else 0) else
      (bif Nat.blt i 144 then (bif Nat.beq i 141 then 8210 else 0) else
       (bif Nat.beq i 144 then 9024 else 0))) else
     (bif Nat.blt i 150 then (bif Nat.beq i 147 then 9027 else 0) else
      (bif Nat.blt i 153 then (bif Nat.beq i 150 then 9031 else 0) else
       (bif Nat.beq i 153 then 8230 else 0)))) else
    (bif Nat.blt i 169 then (bif Nat.blt i 160 then (bif Nat.beq i 157 then 9011 else 0) else
      (bif Nat.blt i 166 then (bif Nat.beq i 160 then 9015 else 0) else
       (bif Nat.beq i 166 then 9020 else 0))) else
     (bif Nat.blt i 192 then (bif Nat.blt i 189 then (bif Nat.beq i 169 then 8226 else 0) else
       (bif Nat.beq i 189 then 9091 else 0)) else
      (bif Nat.blt i 195 then (bif Nat.beq i 192 then 9082 else 0) else
       (bif Nat.beq i 195 then 9087 else 0)))))) else
  (bif Nat.blt i 240 then (bif Nat.blt i 218 then (bif Nat.blt i 208 then (bif Nat.blt i 201 then (bif Nat.beq i 198 then 9078 else 0) else
      (bif Nat.blt i 205 then (bif Nat.beq i 201 then 9074 else 0) else
       (bif Nat.beq i 205 then 9066 else 0))) else
     (bif Nat.blt i 211 then (bif Nat.beq i 208 then 9070 else 0) else
      (bif Nat.blt i 215 then (bif Nat.beq i 211 then 9211 else 0) else
       (bif Nat.beq i 215 then 9176 else 0)))) else
    (bif Nat.blt i 227 then (bif Nat.blt i 221 then (bif Nat.beq i 218 then 9227 else 0) else
      (bif Nat.blt i 224 then (bif Nat.beq i 221 then 9062 else 0) else
       (bif Nat.beq i 224 then 9058 else 0))) else
     (bif Nat.blt i 234 then (bif Nat.blt i 231 then (bif Nat.beq i 227 then 9042 else 0) else
       (bif Nat.beq i 231 then 9046 else 0)) else
      (bif Nat.blt i 237 then (bif Nat.beq i 234 then 9054 else 0) else
       (bif Nat.beq i 237 then 8222 else 0))))) else
   (bif Nat.blt i 263 then (bif Nat.blt i 254 then (bif Nat.blt i 244 then (bif Nat.beq i 240 then 8214 else 0) else
      (bif Nat.blt i 250 then (bif Nat.beq i 244 then 9038 else 0) else
       (bif Nat.beq i 250 then 10066 else 0))) else
     (bif Nat.blt i 257 then (bif Nat.beq i 254 then 10062 else 0) else
      (bif Nat.blt i 260 then (bif Nat.beq i 257 then 10086 else 0) else
       (bif Nat.beq i 260 then 10090 else 0)))) else
    (bif Nat.blt i 272 then (bif Nat.blt i 266 then (bif Nat.beq i 263 then 10082 else 0) else
      (bif Nat.blt i 269 then (bif Nat.beq i 266 then 10078 else 0) else
       (bif Nat.beq i 269 then 10094 else 0))) else
     (bif Nat.blt i 278 then (bif Nat.blt i 275 then (bif Nat.beq i 272 then 10074 else 0) else
       (bif Nat.beq i 275 then 10098 else 0)) else
      (bif Nat.blt i 281 then (bif Nat.beq i 278 then 10070 else 0) else
       (bif Nat.beq i 281 then 10058 else 0))))))) else
 (bif Nat.blt i 402 then (bif Nat.blt i 353 then (bif Nat.blt i 332 then (bif Nat.blt i 323 then (bif Nat.blt i 308 then (bif Nat.beq i 305 then 8117 else 0) else
      (bif Nat.blt i 320 then (bif Nat.beq i 308 then 8120 else 0) else
       (bif Nat.beq i 320 then 8127 else 0))) else
     (bif Nat.blt i 326 then (bif Nat.beq i 323 then 8131 else 0) else
      (bif Nat.blt i 329 then (bif Nat.beq i 326 then 8113 else 0) else
       (bif Nat.beq i 329 then 8139 else 0)))) else
    (bif Nat.blt i 341 then (bif Nat.blt i 335 then (bif Nat.beq i 332 then 8143 else 0) else
      (bif Nat.blt i 338 then (bif Nat.beq i 335 then 8162 else 0) else
       (bif Nat.beq i 338 then 8135 else 0))) else
     (bif Nat.blt i 347 then (bif Nat.blt i 344 then (bif Nat.beq i 341 then 8170 else 0) else
       (bif Nat.beq i 344 then 8123 else 0)) else
      (bif Nat.blt i 350 then (bif Nat.beq i 347 then 8158 else 0) else
       (bif Nat.beq i 350 then 8166 else 0))))) else
   (bif Nat.blt i 378 then (bif Nat.blt i 362 then (bif Nat.blt i 356 then (bif Nat.beq i 353 then 8174 else 0) else
      (bif Nat.blt i 359 then (bif Nat.beq i 356 then 8182 else 0) else
       (bif Nat.beq i 359 then 8109 else 0))) else
     (bif Nat.blt i 366 then (bif Nat.beq i 362 then 8150 else 0) else
      (bif Nat.blt i 369 then (bif Nat.beq i 366 then 8154 else 0) else
       (bif Nat.beq i 369 then 8178 else 0)))) else
    (bif Nat.blt i 387 then (bif Nat.blt i 381 then (bif Nat.beq i 378 then 8082 else 0) else
      (bif Nat.blt i 384 then (bif Nat.beq i 381 then 8086 else 0) else
       (bif Nat.beq i 384 then 8090 else 0))) else
     (bif Nat.blt i 393 then (bif Nat.blt i 390 then (bif Nat.beq i 387 then 8101 else 0) else
       (bif Nat.beq i 390 then 8105 else 0)) else
      (bif Nat.blt i 396 then (bif Nat.beq i 393 then 8186 else 0) else
       (bif Nat.beq i 396 then 8190 else 0)))))) else
  (bif Nat.blt i 447 then (bif Nat.blt i 420 then (bif Nat.blt i 411 then (bif Nat.blt i 405 then (bif Nat.beq i 402 then 8206 else 0) else
      (bif Nat.blt i 408 then (bif Nat.beq i 405 then 8218 else 0) else
       (bif Nat.beq i 408 then 9095 else 0))) else
     (bif Nat.blt i 414 then (bif Nat.beq i 411 then 9103 else 0) else
      (bif Nat.blt i 417 then (bif Nat.beq i 414 then 9107 else 0) else
       (bif Nat.beq i 417 then 9111 else 0)))) else
    (bif Nat.blt i 430 then (bif Nat.blt i 424 then (bif Nat.beq i 420 then 9119 else 0) else
      (bif Nat.blt i 427 then (bif Nat.beq i 424 then 9131 else 0) else
       (bif Nat.beq i 427 then 9139 else 0))) else
     (bif Nat.blt i 437 then (bif Nat.blt i 433 then (bif Nat.beq i 430 then 9154 else 0) else
       (bif Nat.beq i 433 then 9158 else 0)) else
      (bif Nat.blt i 441 then (bif Nat.beq i 437 then 9161 else 0) else
       (bif Nat.beq i 441 then 9193 else 0))))) else
   (bif Nat.blt i 476 then (bif Nat.blt i 457 then (bif Nat.blt i 450 then (bif Nat.beq i 447 then 9207 else 0) else
      (bif Nat.blt i 453 then (bif Nat.beq i 450 then 9223 else 0) else
       (bif Nat.beq i 453 then 9239 else 0))) else
     (bif Nat.blt i 467 then (bif Nat.blt i 464 then (bif Nat.beq i 457 then 10007 else 0) else
       (bif Nat.beq i 464 then 10026 else 0)) else
      (bif Nat.blt i 470 then (bif Nat.beq i 467 then 10042 else 0) else
       (bif Nat.beq i 470 then 10038 else 0)))) else
    (bif Nat.blt i 485 then (bif Nat.blt i 479 then (bif Nat.beq i 476 then 10102 else 0) else
      (bif Nat.blt i 482 then (bif Nat.beq i 479 then 10054 else 0) else
       (bif Nat.beq i 482 then 10106 else 0))) else
     (bif Nat.blt i 491 then (bif Nat.blt i 488 then (bif Nat.beq i 485 then 10122 else 0) else
       (bif Nat.beq i 488 then 10138 else 0)) else
      (bif Nat.blt i 494 then (bif Nat.beq i 491 then 10130 else 0) else
       (bif Nat.beq i 494 then 10134 else 0)))))))) else 0) else
    (bif Nat.beq o 13 then (bif Nat.blt i 176 then (bif Nat.blt i 113 then (bif Nat.blt i 66 then (bif Nat.blt i 41 then (bif Nat.blt i 24 then (bif Nat.blt i 15 then (bif Nat.beq i 7 then 5053 else 0) else
      (bif Nat.blt i 21 then (bif Nat.beq i 15 then 5129 else 0) else
       (bif Nat.beq i 21 then 5163 else 0))) else
     (bif Nat.blt i 34 then (bif Nat.blt i 30 then (bif Nat.beq i 24 then 5183 else 0) else
       (bif Nat.beq i 30 then 5235 else 0)) else
      (bif Nat.blt i 37 then (bif Nat.beq i 34 then 6009 else 0) else
       (bif Nat.beq i 37 then 6021 else 0)))) else
    (bif Nat.blt i 53 then (bif Nat.blt i 47 then (bif Nat.blt i 44 then (bif Nat.beq i 41 then 6028 else 0) else
       (bif Nat.beq i 44 then 6043 else 0)) else
      (bif Nat.blt i 50 then (bif Nat.beq i 47 then 6050 else 0) else
       (bif Nat.beq i 50 then 6058 else 0))) else
     (bif Nat.blt i 60 then (bif Nat.blt i 57 then (bif Nat.beq i 53 then 6069 else 0) else
       (bif Nat.beq i 57 then 6080 else 0)) else
      (bif Nat.blt i 63 then (bif Nat.beq i 60 then 6092 else 0) else
       (bif Nat.beq i 63 then 6108 else 0))))) else
   (bif Nat.blt i 89 then (bif Nat.blt i 75 then (bif Nat.blt i 69 then (bif Nat.beq i 66 then 6119 else 0) else
      (bif Nat.blt i 72 then (bif Nat.beq i 69 then 6139 else 0) else
       (bif Nat.beq i 72 then 6146 else 0))) else
     (bif Nat.blt i 81 then (bif Nat.blt i 78 then (bif Nat.beq i 75 then 6157 else 0) else
       (bif Nat.beq i 78 then 6165 else 0)) else
      (bif Nat.blt i 86 then (bif Nat.beq i 81 then 6234 else 0) else
       (bif Nat.beq i 86 then 7016 else 0)))) else
    (bif Nat.blt i 101 then (bif Nat.blt i 95 then (bif Nat.blt i 92 then (bif Nat.beq i 89 then 7023 else 0) else
       (bif Nat.beq i 92 then 7032 else 0)) else
      (bif Nat.blt i 98 then (bif Nat.beq i 95 then 7059 else 0) else
       (bif Nat.beq i 98 then 7066 else 0))) else
     (bif Nat.blt i 107 then (bif Nat.blt i 104 then (bif Nat.beq i 101 then 7074 else 0) else
       (bif Nat.beq i 104 then 7089 else 0)) else
      (bif Nat.blt i 110 then (bif Nat.beq i 107 then 7096 else 0) else
       (bif Nat.beq i 110 then 7107 else 0)))))) else
  (bif Nat.blt i 148 then (bif Nat.blt i 133 then (bif Nat.blt i 123 then (bif Nat.blt i 117 then (bif Nat.beq i 113 then 7127 else 0) else
      (bif Nat.blt i 120 then (bif Nat.beq i 117 then 7138 else 0) else
       (bif Nat.beq i 120 then 1034 else 0))) else
     (bif Nat.blt i 129 then (bif Nat.blt i 124 then (bif Nat.beq i 123 then 7152 else 0) else
       (bif Nat.beq i 124 then 5049 else 0)) else
      (bif Nat.blt i 130 then (bif Nat.beq i 129 then 8078 else 0) else
       (bif Nat.beq i 130 then 8074 else 0)))) else
    (bif Nat.blt i 141 then (bif Nat.blt i 137 then (bif Nat.blt i 136 then (bif Nat.beq i 133 then 5125 else 0) else
       (bif Nat.beq i 136 then 8094 else 0)) else
      (bif Nat.blt i 140 then (bif Nat.beq i 137 then 4174 else 0) else
       (bif Nat.beq i 140 then 8194 else 0))) else
     (bif Nat.blt i 145 then (bif Nat.blt i 144 then (bif Nat.beq i 141 then 4178 else 0) else
       (bif Nat.beq i 144 then 8198 else 0)) else
      (bif Nat.blt i 147 then (bif Nat.beq i 145 then 5160 else 0) else
       (bif Nat.beq i 147 then 8202 else 0))))) else
   (bif Nat.blt i 163 then (bif Nat.blt i 156 then (bif Nat.blt i 151 then (bif Nat.beq i 148 then 5179 else 0) else
      (bif Nat.blt i 152 then (bif Nat.beq i 151 then 9099 else 0) else
       (bif Nat.beq i 152 then 4182 else 0))) else
     (bif Nat.blt i 160 then (bif Nat.blt i 157 then (bif Nat.beq i 156 then 9115 else 0) else
       (bif Nat.beq i 157 then 4186 else 0)) else
      (bif Nat.blt i 161 then (bif Nat.beq i 160 then 9123 else 0) else
       (bif Nat.beq i 161 then 5232 else 0)))) else
    (bif Nat.blt i 169 then (bif Nat.blt i 166 then (bif Nat.blt i 164 then (bif Nat.beq i 163 then 9127 else 0) else
       (bif Nat.beq i 164 then 6006 else 0)) else
      (bif Nat.blt i 167 then (bif Nat.beq i 166 then 9135 else 0) else
       (bif Nat.beq i 167 then 6018 else 0))) else
     (bif Nat.blt i 173 then (bif Nat.blt i 170 then (bif Nat.beq i 169 then 9142 else 0) else
       (bif Nat.beq i 170 then 4190 else 0)) else
      (bif Nat.blt i 174 then (bif Nat.beq i 173 then 9146 else 0) else
       (bif Nat.beq i 174 then 6025 else 0))))))) else
 (bif Nat.blt i 230 then (bif Nat.blt i 200 then (bif Nat.blt i 187 then (bif Nat.blt i 180 then (bif Nat.blt i 177 then (bif Nat.beq i 176 then 9150 else 0) else
      (bif Nat.blt i 179 then (bif Nat.beq i 177 then 6040 else 0) else
       (bif Nat.beq i 179 then 9164 else 0))) else
     (bif Nat.blt i 184 then (bif Nat.blt i 183 then (bif Nat.beq i 180 then 4196 else 0) else
       (bif Nat.beq i 183 then 9168 else 0)) else
      (bif Nat.blt i 186 then (bif Nat.beq i 184 then 6047 else 0) else
       (bif Nat.beq i 186 then 9172 else 0)))) else
    (bif Nat.blt i 194 then (bif Nat.blt i 190 then (bif Nat.blt i 189 then (bif Nat.beq i 187 then 6055 else 0) else
       (bif Nat.beq i 189 then 9180 else 0)) else
      (bif Nat.blt i 193 then (bif Nat.beq i 190 then 6066 else 0) else
       (bif Nat.beq i 193 then 9184 else 0))) else
     (bif Nat.blt i 197 then (bif Nat.blt i 196 then (bif Nat.beq i 194 then 6077 else 0) else
       (bif Nat.beq i 196 then 9189 else 0)) else
      (bif Nat.blt i 199 then (bif Nat.beq i 197 then 6089 else 0) else
       (bif Nat.beq i 199 then 9203 else 0))))) else
   (bif Nat.blt i 215 then (bif Nat.blt i 206 then (bif Nat.blt i 202 then (bif Nat.beq i 200 then 6105 else 0) else
      (bif Nat.blt i 203 then (bif Nat.beq i 202 then 9215 else 0) else
       (bif Nat.beq i 203 then 4204 else 0))) else
     (bif Nat.blt i 210 then (bif Nat.blt i 207 then (bif Nat.beq i 206 then 9219 else 0) else
       (bif Nat.beq i 207 then 4218 else 0)) else
      (bif Nat.blt i 211 then (bif Nat.beq i 210 then 9231 else 0) else
       (bif Nat.beq i 211 then 5020 else 0)))) else
    (bif Nat.blt i 224 then (bif Nat.blt i 219 then (bif Nat.blt i 216 then (bif Nat.beq i 215 then 9235 else 0) else
       (bif Nat.beq i 216 then 5028 else 0)) else
      (bif Nat.blt i 220 then (bif Nat.beq i 219 then 10003 else 0) else
       (bif Nat.beq i 220 then 5038 else 0))) else
     (bif Nat.blt i 227 then (bif Nat.blt i 225 then (bif Nat.beq i 224 then 10017 else 0) else
       (bif Nat.beq i 225 then 6116 else 0)) else
      (bif Nat.blt i 228 then (bif Nat.beq i 227 then 10022 else 0) else
       (bif Nat.beq i 228 then 6136 else 0)))))) else
  (bif Nat.blt i 252 then (bif Nat.blt i 240 then (bif Nat.blt i 234 then (bif Nat.blt i 231 then (bif Nat.beq i 230 then 10030 else 0) else
      (bif Nat.blt i 233 then (bif Nat.beq i 231 then 6143 else 0) else
       (bif Nat.beq i 233 then 10034 else 0))) else
     (bif Nat.blt i 237 then (bif Nat.blt i 236 then (bif Nat.beq i 234 then 6154 else 0) else
       (bif Nat.beq i 236 then 10046 else 0)) else
      (bif Nat.blt i 239 then (bif Nat.beq i 237 then 6162 else 0) else
       (bif Nat.beq i 239 then 10050 else 0)))) else
    (bif Nat.blt i 246 then (bif Nat.blt i 243 then (bif Nat.blt i 242 then (bif Nat.beq i 240 then 6230 else 0) else
       (bif Nat.beq i 242 then 10110 else 0)) else
      (bif Nat.blt i 245 then (bif Nat.beq i 243 then 7013 else 0) else
       (bif Nat.beq i 245 then 10114 else 0))) else
     (bif Nat.blt i 249 then (bif Nat.blt i 248 then (bif Nat.beq i 246 then 7020 else 0) else
       (bif Nat.beq i 248 then 10118 else 0)) else
      (bif Nat.blt i 251 then (bif Nat.beq i 249 then 7029 else 0) else
       (bif Nat.beq i 251 then 10126 else 0))))) else
   (bif Nat.blt i 264 then (bif Nat.blt i 258 then (bif Nat.blt i 255 then (bif Nat.blt i 254 then (bif Nat.beq i 252 then 7056 else 0) else
       (bif Nat.beq i 254 then 10142 else 0)) else
      (bif Nat.blt i 257 then (bif Nat.beq i 255 then 7063 else 0) else
       (bif Nat.beq i 257 then 10146 else 0))) else
     (bif Nat.blt i 261 then (bif Nat.blt i 260 then (bif Nat.beq i 258 then 7071 else 0) else
       (bif Nat.beq i 260 then 10150 else 0)) else
      (bif Nat.blt i 263 then (bif Nat.beq i 261 then 7086 else 0) else
       (bif Nat.beq i 263 then 10154 else 0)))) else
    (bif Nat.blt i 270 then (bif Nat.blt i 267 then (bif Nat.blt i 266 then (bif Nat.beq i 264 then 7093 else 0) else
       (bif Nat.beq i 266 then 10158 else 0)) else
      (bif Nat.blt i 269 then (bif Nat.beq i 267 then 7104 else 0) else
       (bif Nat.beq i 269 then 10162 else 0))) else
     (bif Nat.blt i 274 then (bif Nat.blt i 273 then (bif Nat.beq i 270 then 7124 else 0) else
       (bif Nat.beq i 273 then 10166 else 0)) else
      (bif Nat.blt i 276 then (bif Nat.beq i 274 then 7135 else 0) else
       (bif Nat.beq i 276 then 10170 else 0)))))))) else 0)) else
   (bif Nat.blt o 17 then (bif Nat.beq o 16 then (bif Nat.blt i 304 then (bif Nat.beq i 150 then 1062 else 0) else
 (bif Nat.blt i 310 then (bif Nat.beq i 304 then 1059 else 0) else
  (bif Nat.beq i 310 then 1052 else 0))) else 0) else
    (bif Nat.blt o 18 then (bif Nat.beq o 17 then (bif Nat.blt i 74 then (bif Nat.beq i 59 then 9196 else 0) else
 (bif Nat.beq i 74 then 9199 else 0)) else 0) else
     (bif Nat.beq o 18 then (bif Nat.blt i 134 then (bif Nat.beq i 122 then 10010 else 0) else
 (bif Nat.beq i 134 then 10013 else 0)) else 0))))))
noncomputable def zplC (o i : Nat) : Nat :=
 (bif Nat.blt o 8 then (bif Nat.blt o 4 then (bif Nat.blt o 3 then (bif Nat.beq o 2 then (bif Nat.beq i 9 then 1148 else 0) else 0) else
   (bif Nat.beq o 3 then (bif Nat.blt i 151 then (bif Nat.beq i 15 then 1078 else 0) else
 (bif Nat.beq i 151 then 3100 else 0)) else 0)) else
  (bif Nat.blt o 7 then (bif Nat.beq o 4 then (bif Nat.beq i 39 then 1210 else 0) else 0) else
   (bif Nat.beq o 7 then (bif Nat.beq i 31 then 2034 else 0) else 0))) else
 (bif Nat.blt o 11 then (bif Nat.blt o 9 then (bif Nat.beq o 8 then (bif Nat.beq i 11 then 2160 else 0) else 0) else
   (bif Nat.beq o 9 then (bif Nat.beq i 9 then 1155 else 0) else 0)) else
  (bif Nat.blt o 13 then (bif Nat.beq o 11 then (bif Nat.blt i 64 then (bif Nat.blt i 43 then (bif Nat.blt i 25 then (bif Nat.beq i 16 then 1040 else 0) else
   (bif Nat.blt i 34 then (bif Nat.beq i 25 then 1072 else 0) else
    (bif Nat.beq i 34 then 1142 else 0))) else
  (bif Nat.blt i 50 then (bif Nat.beq i 43 then 1204 else 0) else
   (bif Nat.blt i 57 then (bif Nat.beq i 50 then 2026 else 0) else
    (bif Nat.beq i 57 then 2028 else 0)))) else
 (bif Nat.blt i 115 then (bif Nat.blt i 73 then (bif Nat.beq i 64 then 2095 else 0) else
   (bif Nat.blt i 82 then (bif Nat.beq i 73 then 2132 else 0) else
    (bif Nat.beq i 82 then 2154 else 0))) else
  (bif Nat.blt i 297 then (bif Nat.blt i 153 then (bif Nat.beq i 115 then 5057 else 0) else
    (bif Nat.beq i 153 then 5137 else 0)) else
   (bif Nat.blt i 380 then (bif Nat.beq i 297 then 6238 else 0) else
    (bif Nat.beq i 380 then 5191 else 0))))) else 0) else
   (bif Nat.blt o 16 then (bif Nat.beq o 13 then (bif Nat.blt i 28 then (bif Nat.blt i 13 then (bif Nat.beq i 8 then 1032 else 0) else
  (bif Nat.blt i 19 then (bif Nat.beq i 13 then 5052 else 0) else
   (bif Nat.beq i 19 then 5128 else 0))) else
 (bif Nat.blt i 84 then (bif Nat.beq i 28 then 5182 else 0) else
  (bif Nat.blt i 121 then (bif Nat.beq i 84 then 6233 else 0) else
   (bif Nat.beq i 121 then 7150 else 0)))) else 0) else
    (bif Nat.beq o 16 then (bif Nat.beq i 311 then 1058 else 0) else 0)))))
noncomputable def zplK (o i : Nat) : Nat :=
 (bif Nat.blt o 11 then (bif Nat.blt o 7 then (bif Nat.blt o 5 then (bif Nat.beq o 0 then (bif Nat.beq i 62 then 4095 else 0) else 0) else
   (bif Nat.beq o 5 then (bif Nat.blt i 166 then (bif Nat.blt i 149 then (bif Nat.beq i 131 then 4239 else 0) else
  (bif Nat.blt i 165 then (bif Nat.beq i 149 then 4226 else 0) else
   (bif Nat.beq i 165 then 6087 else 0))) else
 (bif Nat.blt i 169 then (bif Nat.blt i 167 then (bif Nat.beq i 166 then 6088 else 0) else
   (bif Nat.beq i 167 then 5035 else 0)) else
  (bif Nat.blt i 171 then (bif Nat.beq i 169 then 5036 else 0) else
   (bif Nat.beq i 171 then 5037 else 0)))) else 0)) else
  (bif Nat.blt o 10 then (bif Nat.beq o 7 then (bif Nat.beq i 178 then 3223 else 0) else 0) else
   (bif Nat.beq o 10 then (bif Nat.blt i 33 then (bif Nat.blt i 19 then (bif Nat.blt i 13 then (bif Nat.blt i 9 then (bif Nat.beq i 7 then 3022 else 0) else
    (bif Nat.blt i 11 then (bif Nat.beq i 9 then 3023 else 0) else
     (bif Nat.beq i 11 then 3024 else 0))) else
   (bif Nat.blt i 15 then (bif Nat.beq i 13 then 3025 else 0) else
    (bif Nat.blt i 17 then (bif Nat.beq i 15 then 3026 else 0) else
     (bif Nat.beq i 17 then 3027 else 0)))) else
  (bif Nat.blt i 25 then (bif Nat.blt i 21 then (bif Nat.beq i 19 then 3028 else 0) else
    (bif Nat.blt i 23 then (bif Nat.beq i 21 then 3029 else 0) else
     (bif Nat.beq i 23 then 3030 else 0))) else
   (bif Nat.blt i 29 then (bif Nat.blt i 27 then (bif Nat.beq i 25 then 3031 else 0) else
     (bif Nat.beq i 27 then 3032 else 0)) else
    (bif Nat.blt i 31 then (bif Nat.beq i 29 then 3033 else 0) else
     (bif Nat.beq i 31 then 3034 else 0))))) else
 (bif Nat.blt i 47 then (bif Nat.blt i 39 then (bif Nat.blt i 35 then (bif Nat.beq i 33 then 3035 else 0) else
    (bif Nat.blt i 37 then (bif Nat.beq i 35 then 3036 else 0) else
     (bif Nat.beq i 37 then 3037 else 0))) else
   (bif Nat.blt i 43 then (bif Nat.blt i 41 then (bif Nat.beq i 39 then 3038 else 0) else
     (bif Nat.beq i 41 then 3039 else 0)) else
    (bif Nat.blt i 45 then (bif Nat.beq i 43 then 3040 else 0) else
     (bif Nat.beq i 45 then 3041 else 0)))) else
  (bif Nat.blt i 53 then (bif Nat.blt i 49 then (bif Nat.beq i 47 then 3042 else 0) else
    (bif Nat.blt i 51 then (bif Nat.beq i 49 then 3043 else 0) else
     (bif Nat.beq i 51 then 3044 else 0))) else
   (bif Nat.blt i 57 then (bif Nat.blt i 55 then (bif Nat.beq i 53 then 3045 else 0) else
     (bif Nat.beq i 55 then 3046 else 0)) else
    (bif Nat.blt i 59 then (bif Nat.beq i 57 then 3047 else 0) else
     (bif Nat.beq i 59 then 3048 else 0)))))) else 0))) else
 (bif Nat.blt o 15 then (bif Nat.blt o 12 then (bif Nat.beq o 11 then (bif Nat.blt i 279 then (bif Nat.blt i 268 then (bif Nat.beq i 89 then 2175 else 0) else
  (bif Nat.beq i 268 then 5048 else 0)) else
 (bif Nat.blt i 374 then (bif Nat.beq i 279 then 6161 else 0) else
  (bif Nat.beq i 374 then 6228 else 0))) else 0) else
   (bif Nat.beq o 12 then (bif Nat.blt i 440 then (bif Nat.blt i 188 then (bif Nat.beq i 164 then 9019 else 0) else
  (bif Nat.beq i 188 then 9086 else 0)) else
 (bif Nat.blt i 463 then (bif Nat.beq i 440 then 9188 else 0) else
  (bif Nat.beq i 463 then 10021 else 0))) else 0)) else
  (bif Nat.blt o 17 then (bif Nat.beq o 15 then (bif Nat.blt i 316 then (bif Nat.beq i 314 then 5045 else 0) else
 (bif Nat.blt i 318 then (bif Nat.beq i 316 then 5046 else 0) else
  (bif Nat.beq i 318 then 5047 else 0))) else 0) else
   (bif Nat.blt o 18 then (bif Nat.beq o 17 then (bif Nat.beq i 77 then 9202 else 0) else 0) else
    (bif Nat.beq o 18 then (bif Nat.beq i 137 then 10016 else 0) else 0)))))
noncomputable def zpT (c : Nat) : Nat :=
 (bif Nat.blt c 6 then (bif Nat.blt c 3 then (bif Nat.blt c 1 then (bif Nat.beq c 0 then 2133 else 0) else
   (bif Nat.blt c 2 then (bif Nat.beq c 1 then 1041 else 0) else
    (bif Nat.beq c 2 then 1143 else 0))) else
  (bif Nat.blt c 4 then (bif Nat.beq c 3 then 1073 else 0) else
   (bif Nat.blt c 5 then (bif Nat.beq c 4 then 1205 else 0) else
    (bif Nat.beq c 5 then 2096 else 0)))) else
 (bif Nat.blt c 9 then (bif Nat.blt c 7 then (bif Nat.beq c 6 then 1079 else 0) else
   (bif Nat.blt c 8 then (bif Nat.beq c 7 then 2029 else 0) else
    (bif Nat.beq c 8 then 2155 else 0))) else
  (bif Nat.blt c 10 then (bif Nat.beq c 9 then 1150 else 0) else
   (bif Nat.blt c 11 then (bif Nat.beq c 10 then 1033 else 0) else
    (bif Nat.beq c 11 then 7151 else 0)))))
