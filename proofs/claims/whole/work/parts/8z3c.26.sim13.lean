/-! EXCEPTIONS THAT THE CLASS MAKES -/
def am_rx (e : Nat) : ByteArray := match am_nth lw_tbl (cond (Nat.beq e 1) 1029 702) with
  | some (.code _ b _ _) => b
  | _ => cL_law
def am_rix (e : Nat) : Nat := cond (Nat.beq e 1) 13 7
def am_tin (w : Jvm.Cond) : Bool := lw_tbl.any (fun v => am_weq v w) && (goodWord w || am_isn w) && vx_ot w
def am_ns9 : List String := ["java/lang/RuntimeException", "java/lang/Exception"]
theorem am_ok_x1 : (am_atS "WolfDeeds" 150 "java/util/NoSuchElementException" 13 (am_rx 1) am_ns9).all am_tin = true := by decide +kernel
theorem am_ok_x2 : (am_atS "WolfDeeds" 90 "java/lang/IllegalArgumentException" 7 (am_rx 2) am_ns9).all am_tin = true := by decide +kernel
theorem am_ok_x3 : decode (am_rx 1) 0 = .ok (.aload_n 0, 1) ∧ decode (am_rx 1) 1 = .ok (.aload_n 1, 1) ∧ decode (am_rx 1) 2 = .ok (.invokespecial 13, 3) ∧ decode (am_rx 1) 5 = .ok (.return_, 1) := by decide +kernel
theorem am_ok_x4 : decode (am_rx 2) 0 = .ok (.aload_n 0, 1) ∧ decode (am_rx 2) 1 = .ok (.aload_n 1, 1) ∧ decode (am_rx 2) 2 = .ok (.invokespecial 7, 3) ∧ decode (am_rx 2) 5 = .ok (.return_, 1) := by decide +kernel
theorem am_ok_x5 : (Bundle.fit "java/util/NoSuchElementException" && Bundle.fit "java/lang/IllegalArgumentException" && am_ns9.all Bundle.fit) = true := by decide +kernel
