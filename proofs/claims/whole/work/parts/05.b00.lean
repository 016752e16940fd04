theorem oxl_0 : (List.range' 0 110).all (fun pc => match oxi_114 pc with | none => true | some e => decide (decode code pc = .ok (e.1, e.2.1))) = true := by decide +kernel
