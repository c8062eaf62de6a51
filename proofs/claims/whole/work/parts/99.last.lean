def RelT : SS → Prop := fun _ => True
theorem i_vc : Claimed_1_1 ∧ Claimed_1_2 := whole_of (R := RelT) sorry sorry sorry sorry sorry sorry sorry sorry sorry sorry sorry sorry sorry sorry sorry sorry sorry sorry sorry sorry sorry sorry sorry sorry sorry sorry sorry sorry sorry sorry sorry sorry sorry sorry sorry sorry sorry sorry sorry sorry sorry sorry sorry sorry
