/-! The reference: what is asked. -/
abbrev b_Fl_isNaN (x0 : UInt32) : Prop :=
  ¬ ((Op.cmpValue (FP.fcmp x0 x0) .l).toInt = 0)
abbrev b_Do_isNaN (x0 : UInt64) : Prop :=
  ¬ ((Op.cmpValue (FP.dcmp x0 x0) .l).toInt = 0)
def f_Fl_floatToIntBits (x0 : UInt32) : Int :=
  if b_Fl_isNaN x0 then
    2143289344
  else
    (UInt32.toInt32 x0).toInt
def f_Do_doubleToLongBits (x0 : UInt64) : BitVec 64 :=
  if b_Do_isNaN x0 then
    9221120237041090560#64
  else
    (UInt64.toInt64 x0).toBitVec
