/-! Print kept: the dots not white, counted. -/
section CNT
variable {σ τ : SS} {s w q : Nat}
theorem cnt_at {v : Int32} (h : inR v 0 9) : (v < 1) ↔ v ≤ 0 := by
  have z1 : (1 : Int32).toInt = 1 := rfl
  have z0 : (0 : Int32).toInt = 0 := rfl
  rw [lt_i, le_i, z1, z0]
  omega
theorem cnt8 (hw : w ≤ 40) (hq : q ≤ 40) (e3 : gI τ 73 29 = nI w) (e4 : gI τ 73 30 = nI q) (hp : alk (w * q) (gI σ (s + 1)) (gI τ 83)) : X8_print_L231 τ fuel (0 : Int32) (0 : Int32) = some (itr (fun i n => if gI σ (s + 1) i < 1 then n else n + 1) 0 (w * q), τ) := by
  have ha := area_le hw hq
  unfold X8_print_L231
  refine lp_2 (fun i => itr (fun i n => if gI σ (s + 1) i < 1 then n else n + 1) 0 i) (fun i => nI i) (w * q) _ (fun i hi rec => ?_) (fun rec => ?_) fuel (fuel_gt (by omega))
  · obtain ⟨p1, p2⟩ := hp i hi
    unfold fX8_all
    rw [e3, e4, nI_mul, if_neg (nI_ge hi (by omega)), grd_eq _ (inb_nI (by omega) (by decide)), nI_clamp (by omega), nI_1]
    have es : itr (fun i n => if gI σ (s + 1) i < 1 then n else n + 1) (0 : Int32) (i + 1) = if gI σ (s + 1) i < 1 then itr (fun i n => if gI σ (s + 1) i < 1 then n else n + 1) (0 : Int32) i else itr (fun i n => if gI σ (s + 1) i < 1 then n else n + 1) (0 : Int32) i + 1 := rfl
    rw [es, p1]
    by_cases c : gI τ 83 i ≤ 0
    · rw [if_pos c, if_pos ((cnt_at p2).mpr c), vthen_q, Int32.add_zero]
    · rw [if_neg c, if_neg (fun k => c ((cnt_at p2).mp k)), vthen_q]
  · unfold fX8_all
    rw [e3, e4, nI_mul, if_pos (nI_le (Nat.le_refl _) (by omega))]
end CNT
