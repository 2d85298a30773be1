set_option maxRecDepth 1000000 in
theorem t1 : (lw_tbl.filter (fun w => !goodWord w)).length = 205 := by decide +kernel
set_option maxRecDepth 1000000 in
theorem t2 : (lw_tbl.filter (fun w => !goodWord w)).all (fun w => match w with | .fieldLinkNest .. => true | .methodLinkNest .. => true | .castable .. => true | .declares .. => true | _ => false) = true := by decide +kernel
set_option maxRecDepth 1000000 in
theorem t3 : (lw_tbl.filter (fun w => !goodWord w)).all (fun w => match w with | .fieldLinkNest .. => true | .methodLinkNest .. => true | .castable .. => true | .declares .. => true | .publicMethod .. => true | .unhidden .. => true | .interfaceMethod .. => true | .stringRef .. => true | .arrayOver .. => true | _ => false) = true := by decide +kernel
theorem t4 {s U : State} (hW : s.WarmedH U.vm) (a b c d : String) (h : va_Nw (.interfaceMethod a b c d) s) : va_Nw (.interfaceMethod a b c d) U := by
  have h1 : va_Fw "" ⟨a, c, d⟩ ⟨"", "", ""⟩ s → True := fun _ => trivial
  exact va_tabs rfl (rfl : (s.setVm U.vm).vm = U.vm) (by simpa using h)
