/-! The claim. -/
theorem i_vc : Claimed_1_1 ∧ Claimed_1_2 := whole_of (R := Rel) op0 op1 op2 op3 op4 op5 op6 op7 op8 op9 op10 op11 op12 op13 op14 op15 op16 op17 op18 op19 op20 op21 op22 op23 op24 op25 op26 op27 op28 op29 op30 op31 op32 op33 op34 op35 op36 op37 op38 op39 op40 op41 op42 rel0
