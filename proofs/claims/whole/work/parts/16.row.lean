/-! A row of the tape. -/
theorem least_of {D : Nat → Prop} : ∀ n, ¬ (∀ i, i < n → D i) → ∃ i, i < n ∧ ¬ D i ∧ ∀ j, j < i → D j := by
  intro n
  induction n with
  | zero => exact fun h => absurd (fun i hi => absurd hi (by omega)) h
  | succ n ih =>
    intro h
    by_cases h1 : ∀ i, i < n → D i
    · refine ⟨n, by omega, fun q => h fun i hi => ?_, h1⟩
      by_cases e : i = n
      · subst e; exact q
      · exact h1 i (by omega)
    · obtain ⟨i, a, b, c⟩ := ih h1
      exact ⟨i, by omega, b, c⟩
theorem sI_A_ne {σ : SS} {c c' k : Nat} {v : Int32} {d : Nat → Int32} (h : c' ≠ c) : sI (sA σ c d) c' k v = sA (sI σ c' k v) c d := SS_ext (fun q j => by
  rw [gI_sI, gI_sA, gI_sA, gI_sI]
  by_cases h1 : q = c
  · subst h1; rw [if_neg (fun z => h z.1.symm), if_pos rfl, if_pos rfl]
  · rw [if_neg h1, if_neg h1]) rfl
theorem byte_of {x : Int32} (h : inR x (-128) 127) : (∃ n : Nat, n < 128 ∧ x = nI n) ∨ ∃ n : Nat, n < 128 ∧ x = nI (n + 1) * (-1) := by
  by_cases h0 : 0 ≤ x.toInt
  · obtain ⟨n, hn, e⟩ := in_of (x := x) (w := 128) (by decide) ⟨h0, by have := h.2; omega⟩
    exact Or.inl ⟨n, hn, e⟩
  · have h1 : (-x).toInt = - x.toInt := by
      rw [Int32.toInt_neg]
      apply Int.bmod_eq_of_le <;> have := h.1 <;> omega
    obtain ⟨n, hn, e⟩ := in_of (x := -x) (w := 129) (by decide) (by rw [h1]; have := h.1; omega)
    refine Or.inr ⟨n - 1, ?_, ?_⟩
    · have : n ≠ 0 := fun z => by subst z; rw [e] at h1; have h9 : (nI 0).toInt = 0 := rfl; rw [h9] at h1; omega
      omega
    · have hn0 : n ≠ 0 := fun z => by subst z; rw [e] at h1; have h9 : (nI 0).toInt = 0 := rfl; rw [h9] at h1; omega
      rw [show n - 1 + 1 = n by omega, ← e, Int32.mul_neg, Int32.mul_one, Int32.neg_neg]
theorem byte_p : ∀ n, n < 128 → nI n &&& 255 = nI n := by decide +kernel
theorem byte_n : ∀ n, n < 128 → ¬ (48 ≤ (nI (n + 1) * (-1) &&& 255).toInt ∧ (nI (n + 1) * (-1) &&& 255).toInt ≤ 57) ∧ ¬ (48 ≤ (nI (n + 1) * (-1)).toInt ∧ (nI (n + 1) * (-1)).toInt ≤ 57) := by decide +kernel
theorem digit {x : Int32} (h : inR x (-128) 127) : ((48 ≤ (x &&& 255).toInt ∧ (x &&& 255).toInt ≤ 57) ↔ (48 ≤ x.toInt ∧ x.toInt ≤ 57)) ∧ ((48 ≤ x.toInt ∧ x.toInt ≤ 57) → x &&& 255 = x) := by
  rcases byte_of h with ⟨n, hn, rfl⟩ | ⟨n, hn, rfl⟩
  · rw [byte_p n hn]; exact ⟨Iff.rfl, fun _ => rfl⟩
  · obtain ⟨a, b⟩ := byte_n n hn
    exact ⟨⟨fun q => absurd q a, fun q => absurd q b⟩, fun q => absurd q b⟩
theorem row7_c {σ : SS} {w : Nat} (hw : w ≤ 40) (k : Unit → Option (Bool × SS)) : ((∀ i, i < w → 48 ≤ (gI σ 2 i).toInt ∧ (gI σ 2 i).toInt ≤ 57) → X7_row_L40 σ (nI w) k fuel (nI 0) = k ()) ∧ (¬ (∀ i, i < w → 48 ≤ (gI σ 2 i).toInt ∧ (gI σ 2 i).toInt ≤ 57) → X7_row_L40 σ (nI w) k fuel (nI 0) = some (false, σ)) := by
  unfold X7_row_L40
  simp only [lt_i, Int32.reduceToInt]
  refine ⟨fun hD => ?_, fun hN => ?_⟩
  · refine lp_1 (fun i => nI i) w _ (fun i hi rec => ?_) (fun rec => ?_) fuel (fuel_gt (by omega))
    · have := hD i hi
      rw [if_neg (nI_ge hi (by omega)), grd_eq _ (inb_nI (by omega) (by omega)), nI_clamp (by omega), if_neg (by omega), if_pos (by rw [le_i]; exact this.2), nI_1]
    · rw [if_pos (nI_le (Nat.le_refl _) (by omega))]
  · obtain ⟨i0, h1, h2, h3⟩ := least_of w hN
    refine lp_1 (fun i => nI i) i0 _ (fun i hi rec => ?_) (fun rec => ?_) fuel (fuel_gt (by omega))
    · have := h3 i hi
      rw [if_neg (nI_ge (by omega) (by omega)), grd_eq _ (inb_nI (by omega) (by omega)), nI_clamp (by omega), if_neg (by omega), if_pos (by rw [le_i]; exact this.2), nI_1]
    · rw [if_neg (nI_ge (by omega) (by omega)), grd_eq _ (inb_nI (by omega) (by omega)), nI_clamp (by omega)]
      by_cases c : (gI σ 2 i0).toInt < 48
      · rw [if_pos c]
      · rw [if_neg c, if_neg (fun q => h2 ⟨by omega, by rw [le_i] at q; exact q⟩)]
theorem row8_c {σ : SS} {w : Nat} (e3 : gI σ 73 29 = nI w) (hw : w ≤ 40) (k : Unit → Option (Bool × SS)) : ((∀ i, i < w → 48 ≤ (gI σ 74 i).toInt ∧ (gI σ 74 i).toInt ≤ 57) → X8_row_L34 σ k fuel (nI 0) = k ()) ∧ (¬ (∀ i, i < w → 48 ≤ (gI σ 74 i).toInt ∧ (gI σ 74 i).toInt ≤ 57) → X8_row_L34 σ k fuel (nI 0) = some (false, σ)) := by
  unfold X8_row_L34
  simp only [in_eq, e3]
  refine ⟨fun hD => ?_, fun hN => ?_⟩
  · refine lp_1 (fun i => nI i) w _ (fun i hi rec => ?_) (fun rec => ?_) fuel (fuel_gt (by omega))
    · have := hD i hi
      rw [if_neg (nI_ge hi (by omega)), grd_eq _ (inb_nI (by omega) (by omega)), nI_clamp (by omega), if_pos (by rw [le_i, le_i]; exact this), nI_1]
    · rw [if_pos (nI_le (Nat.le_refl _) (by omega))]
  · obtain ⟨i0, h1, h2, h3⟩ := least_of w hN
    refine lp_1 (fun i => nI i) i0 _ (fun i hi rec => ?_) (fun rec => ?_) fuel (fuel_gt (by omega))
    · have := h3 i hi
      rw [if_neg (nI_ge (by omega) (by omega)), grd_eq _ (inb_nI (by omega) (by omega)), nI_clamp (by omega), if_pos (by rw [le_i, le_i]; exact this), nI_1]
    · rw [if_neg (nI_ge (by omega) (by omega)), grd_eq _ (inb_nI (by omega) (by omega)), nI_clamp (by omega), if_neg (by rw [le_i, le_i]; exact h2)]
theorem row7_p {σ : SS} {s w q Y : Nat} (hs : s = 3 ∨ s = 6) (hr : gR σ 1 2 = s) (hw : w ≤ 40) (hq : q ≤ 40) (e1 : gI σ s 0 = nI w) (e2 : gI σ s 1 = nI q) (hY : Y < q) (d : Nat → Int32) :
    X7_row_L77 (nI Y) (nI w) fuel (nI 0) (sA σ (s + 1) d) = some (true, sA σ (s + 1) (itr (fun i d => upd d (Y * w + i) (gI σ 2 i - 48)) d w)) := by
  unfold X7_row_L77
  refine lp_2 (fun i => nI i) (fun i => sA σ (s + 1) (itr (fun i d => upd d (Y * w + i) (gI σ 2 i - 48)) d i)) w _ (fun i hi rec => ?_) (fun rec => ?_) fuel (fuel_gt (by omega))
  · obtain ⟨b, e, -⟩ := put_in (σ := sA σ (s + 1) (itr (fun i d => upd d (Y * w + i) (gI σ 2 i - 48)) d i)) (s := s) (w := w) (h := q) (X := i) (Y := Y) (by rw [gI_A_ne (by omega)]; exact e1) (by rw [gI_A_ne (by omega)]; exact e2) hw hq hi hY (gI σ 2 i - 48)
    rw [if_neg (nI_ge hi (by omega)), grd_eq _ (inb_nI (by omega) (by omega)), nI_clamp (by omega), gI_A_ne (c' := 2) (by omega), show gR (sA σ (s + 1) (itr (fun i d => upd d (Y * w + i) (gI σ 2 i - 48)) d i)) 1 2 = s from hr, bnd_of _ e, sI_A, nI_1]
    rfl
  · rw [if_pos (nI_le (Nat.le_refl _) (by omega))]
theorem row8_p {σ : SS} {w q Y : Nat} (hw : w ≤ 40) (hq : q ≤ 40) (e3 : gI σ 73 29 = nI w) (hY : Y < q) (d : Nat → Int32) :
    X8_row_L68 (nI Y) fuel (nI 0) (sA σ 83 d) = some (true, sA σ 83 (itr (fun i d => upd d (Y * w + i) (gI σ 74 i - 48)) d w)) := by
  unfold X8_row_L68
  refine lp_2 (fun i => nI i) (fun i => sA σ 83 (itr (fun i d => upd d (Y * w + i) (gI σ 74 i - 48)) d i)) w _ (fun i hi rec => ?_) (fun rec => ?_) fuel (fuel_gt (by omega))
  · have hk := cell_lt hi hY
    have ha := area_le hw hq
    rw [gI_A_ne (c' := 73) (by omega), e3, if_neg (nI_ge hi (by omega)), grd_eq _ (inb_nI (by omega) (by omega)), ix_m, grd_eq _ (inb_nI (by omega) (by omega)), vthen_eq, nI_clamp (by omega), nI_clamp (by omega), gI_A_ne (c' := 74) (by omega), sI_A, nI_1]
    rfl
  · rw [gI_A_ne (c' := 73) (by omega), e3, if_pos (nI_le (Nat.le_refl _) (by omega))]
theorem sub48 {x : Int32} (h : 48 ≤ x.toInt ∧ x.toInt ≤ 57) : inR (x - 48) 0 9 := by
  obtain ⟨n, hn, rfl⟩ := in_of (x := x) (w := 58) (by decide) (by omega)
  rw [nI_toInt (by omega)] at h
  have e : nI n - 48 = nI (n - 48) := nI_sub (a := n) (b := 48) (by omega)
  rw [e]; unfold inR; rw [nI_toInt (by omega)]; omega
theorem op6 : ∀ a σ, Rel σ → st6 Rel a σ := by
  intro a σ ⟨s, f, h⟩
  obtain ⟨hs, hf, hR1, -⟩ := id h.1
  obtain ⟨n, hn, t1, t2, ht⟩ := h.2.1
  obtain ⟨w, q, hw, hq, e1, e2, e3, e4, hd⟩ := h.2.2.1
  have hb : RAll s f (sI (sI σ 1 1 0) 73 1 0) := by
    refine h.of rfl ?h1 ?h2 ?h3 ?h4 ?h5 ?h6 ?h7 ?h8 ?h9
    case h1 => exact Or.inl ⟨0, by omega, by rw [gI_nk (by omega), gI_eq]; rfl, by rw [gI_eq]; rfl, fun j hj => absurd hj (by omega)⟩
    all_goals exact Or.inr fun c k hp => by rw [gI_nk (by omega), gI_nk (by omega)]
  by_cases hc : (0 ≤ (a 1).toInt ∧ (a 1).toInt < q) ∧ w ≤ n
  · obtain ⟨hY, hwn⟩ := hc
    obtain ⟨Y, hY2, eY⟩ := in_of (by omega) hY
    have c7 : ∀ r1 r2 r3 r4 : Option (Bool × SS), (if a 1 < 0 then r1 else if nI q ≤ a 1 then r2 else if nI w ≤ nI n then r3 else r4) = r3 := fun r1 r2 r3 r4 => by
      rw [if_neg (by rw [lt_i]; have : (0 : Int32).toInt = 0 := rfl; omega), if_neg (by rw [le_i, nI_toInt (by omega)]; omega), if_pos (nI_le hwn (by omega))]
    have D : ∀ i, i < w → ((48 ≤ (gI σ 2 i).toInt ∧ (gI σ 2 i).toInt ≤ 57) ↔ (48 ≤ (gI σ 74 i).toInt ∧ (gI σ 74 i).toInt ≤ 57)) ∧ ((48 ≤ (gI σ 74 i).toInt ∧ (gI σ 74 i).toInt ≤ 57) → gI σ 2 i = gI σ 74 i) := fun i hi => by
      obtain ⟨x1, x2⟩ := ht i (by omega)
      rw [x1]; exact digit x2
    by_cases hD : ∀ i, i < w → 48 ≤ (gI σ 74 i).toInt ∧ (gI σ 74 i).toInt ≤ 57
    · refine ⟨true, sA (sI σ 1 1 0) (s + 1) (itr (fun i d => upd d (Y * w + i) (gI (sI σ 1 1 0) 2 i - 48)) (gI (sI σ 1 1 0) (s + 1)) w), sA (sI (sA (sI σ 1 1 0) (s + 1) (itr (fun i d => upd d (Y * w + i) (gI (sI σ 1 1 0) 2 i - 48)) (gI (sI σ 1 1 0) (s + 1)) w)) 73 1 0) 83 (itr (fun i d => upd d (Y * w + i) (gI σ 74 i - 48)) (gI σ 83) w), ?_, ?_, s, f, ?_⟩
      · unfold fX7_row
        simp only [vthen_eq]
        rw [hR1, e1, e2, t1, c7, eY]
        refine ((row7_c (σ := sI σ 1 1 0) (w := w) (by omega) _).1 (fun i hi => ?_)).trans ?_
        · rw [gI_ne (by omega)]; exact (D i hi).1.mpr (hD i hi)
        · have := row7_p (σ := sI σ 1 1 0) (Y := Y) hs hR1 (w := w) (q := q) (by omega) (by omega) (by rw [gI_ne (by omega)]; exact e1) (by rw [gI_ne (by omega)]; exact e2) hY2 (gI (sI σ 1 1 0) (s + 1))
          rw [sA_self] at this
          exact this
      · have g3 : gI (sI (sA (sI σ 1 1 0) (s + 1) (itr (fun i d => upd d (Y * w + i) (gI (sI σ 1 1 0) 2 i - 48)) (gI (sI σ 1 1 0) (s + 1)) w)) 73 1 0) 73 29 = nI w := by rw [gI_nk (by omega), gI_A_ne (by omega), gI_ne (by omega), e3]
        have g4 : gI (sI (sA (sI σ 1 1 0) (s + 1) (itr (fun i d => upd d (Y * w + i) (gI (sI σ 1 1 0) 2 i - 48)) (gI (sI σ 1 1 0) (s + 1)) w)) 73 1 0) 74 = gI σ 74 := by rw [gI_ne (by omega), gI_A_ne (by omega), gI_ne (by omega)]
        have g5 : gI (sI (sA (sI σ 1 1 0) (s + 1) (itr (fun i d => upd d (Y * w + i) (gI (sI σ 1 1 0) 2 i - 48)) (gI (sI σ 1 1 0) (s + 1)) w)) 73 1 0) 83 = gI σ 83 := by rw [gI_ne (by omega), gI_A_ne (by omega), gI_ne (by omega)]
        unfold fX8_row
        simp only [vthen_eq, in_eq, le_i, Int32.reduceToInt]
        rw [gI_A_ne (c' := 73) (by omega), gI_ne (c' := 73) (by omega), e4, e3, t2, sub1 (by omega) (by omega), nI_toInt (by omega), nI_toInt (by omega), if_pos (by omega), if_pos (by omega), eY]
        refine ((row8_c g3 (by omega) _).1 (fun i hi => ?_)).trans ?_
        · rw [g4]; exact hD i hi
        · have := row8_p (Y := Y) (q := q) (by omega) (by omega) g3 hY2 (gI (sI (sA (sI σ 1 1 0) (s + 1) (itr (fun i d => upd d (Y * w + i) (gI (sI σ 1 1 0) 2 i - 48)) (gI (sI σ 1 1 0) (s + 1)) w)) 73 1 0) 83)
          rw [sA_self, g4, g5] at this
          exact this
      · rw [sI_A_ne (by omega), gI_ne (c' := 2) (by omega), gI_ne (c' := s + 1) (by omega)]
        exact hb.pic hw hq (by rw [gI_ne (by omega), gI_ne (by omega)]; exact e1) (by rw [gI_ne (by omega), gI_ne (by omega)]; exact e2) (by rw [gI_nk (by omega), gI_ne (by omega)]; exact e3) (by rw [gI_nk (by omega), gI_ne (by omega)]; exact e4) (alk_itr (n := w * q) (fun k hk => hd k hk) w fun i hi a' b' hab => by rw [(D i hi).2 (hD i hi)]; exact alk_upd hab _ (sub48 (hD i hi)))
    · refine ⟨false, sI σ 1 1 0, sI (sI σ 1 1 0) 73 1 0, ?_, ?_, s, f, hb⟩
      · unfold fX7_row
        simp only [vthen_eq]
        rw [hR1, e1, e2, t1, c7]
        refine (row7_c (σ := sI σ 1 1 0) (w := w) (by omega) _).2 (fun q => hD fun i hi => (D i hi).1.mp ?_)
        have := q i hi
        rw [gI_ne (by omega)] at this
        exact this
      · unfold fX8_row
        simp only [vthen_eq, in_eq, le_i, Int32.reduceToInt]
        rw [gI_ne (c' := 73) (by omega), e4, e3, t2, sub1 (by omega) (by omega), nI_toInt (by omega), nI_toInt (by omega), if_pos (by omega), if_pos (by omega)]
        refine (row8_c (σ := sI (sI σ 1 1 0) 73 1 0) (w := w) (by rw [gI_nk (by omega), gI_ne (by omega), e3]) (by omega) _).2 (fun q => hD fun i hi => ?_)
        have := q i hi
        rw [gI_ne (by omega), gI_ne (by omega)] at this
        exact this
  · refine ⟨false, σ, σ, ?_, ?_, s, f, h⟩
    · unfold fX7_row
      simp only [vthen_eq, lt_i, le_i, Int32.reduceToInt]
      rw [hR1, e1, e2, t1, nI_toInt (by omega), nI_toInt (by omega), nI_toInt (by omega)]
      repeat' split
      all_goals first | omega | rfl
    · unfold fX8_row
      simp only [vthen_eq, in_eq, le_i, Int32.reduceToInt]
      rw [e4, e3, t2, sub1 (by omega) (by omega), nI_toInt (by omega), nI_toInt (by omega)]
      repeat' split
      all_goals first | omega | rfl
