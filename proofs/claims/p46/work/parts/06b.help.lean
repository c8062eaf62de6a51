/-! More helpers: lambdas of joins, switches, tables. -/
theorem vth_ex {α β : Type} {x : α} {f : α → β} {y : β} (h : vthen x f = y) : ∃ z, z = x ∧ f z = y := ⟨x, rfl, h⟩
theorem i32_of_toInt {x : Int32} {k : Int} (h : x.toInt = k) : x = Int32.ofInt k := by subst h; exact (Int32.ofInt_toInt x).symm
theorem tab_out {x : Int32} {lo hi : Int} (_h1 : -2147483648 ≤ lo) (_h2 : hi ≤ 2147483647) (h : ∀ k : Int, lo ≤ k → k ≤ hi → ¬ x = Int32.ofInt k) : x.toInt < lo ∨ hi < x.toInt := by
  rcases Int.lt_or_le x.toInt lo with h3 | h3
  · exact Or.inl h3
  · rcases Int.lt_or_le hi x.toInt with h4 | h4
    · exact Or.inr h4
    · exact absurd (i32_of_toInt rfl) (h x.toInt h3 h4)
theorem z_1001 {g : GG} : ∀ s, Ko g s → va_Z "SheetReader" "SETTING_LEAST" "[I" (.ref (ad g 1001)) (AA g) s s.heap := fun _ o => o.2.1.1
theorem t_1001 {g : GG} : ∀ s, Ko g s → va_T .int (ad g 1001) 7 (fun j => .int (roV 1001 j)) (AA g) s s.heap := fun _ o => o.2.1.2
theorem z_1002 {g : GG} : ∀ s, Ko g s → va_Z "SheetReader" "SETTING_MOST" "[I" (.ref (ad g 1002)) (AA g) s s.heap := fun _ o => o.2.2.1.1
theorem t_1002 {g : GG} : ∀ s, Ko g s → va_T .int (ad g 1002) 7 (fun j => .int (roV 1002 j)) (AA g) s s.heap := fun _ o => o.2.2.1.2
theorem nle {a b : Nat} (h : Nat.ble a b = true) : a ≤ b := Nat.le_of_ble_eq_true h
