def q_kind (c : Int32) : Int32 := if c = 101 then 0 else if c = 112 then 1 else if c = 114 then 2 else if c = 98 then 3 else if c = 116 then 4 else -1
def zX3_kindOf (v0 : Int32) : Option (Int32) := some (q_kind (v0.toUInt32 % 65536).toInt32)
theorem kX3_kindOf (l : Launch) (E : q_E) (v0 : Int32) (r : Int32) (h : zX3_kindOf v0 = some r) : q_RO l E yX3_kindOf cX3_kindOf 1 (some .int) 8 [.int v0] ([]) (.int r) := sorry
