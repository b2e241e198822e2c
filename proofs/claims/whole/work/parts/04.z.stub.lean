theorem cd_dec {b pc : Nat} (hb : b < 354) {i : Instr} {len : Nat} (h : cd b pc = some (i, len)) : decode (byt b) pc = .ok (i, len) := by sorry
