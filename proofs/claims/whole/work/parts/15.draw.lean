/-! Pictures drawn in place: put, fill, row, keep, back. -/
theorem gI_A (σ : SS) (c : Nat) (d : Nat → Int32) : gI (sA σ c d) c = d := by funext k; rw [gI_sA, if_pos rfl]
theorem gI_A_ne {σ : SS} {c c' : Nat} {d : Nat → Int32} (h : c' ≠ c) : gI (sA σ c d) c' = gI σ c' := by funext k; rw [gI_sA, if_neg h]
theorem sI_A (σ : SS) (c k : Nat) (d : Nat → Int32) (v : Int32) : sI (sA σ c d) c k v = sA σ c (upd d k v) := SS_ext (fun c' j => by
  rw [gI_sI, gI_sA, gI_sA]
  by_cases h : c' = c
  · subst h; by_cases h2 : j = k <;> simp [upd, h2]
  · simp [h]) rfl
theorem sA_self (σ : SS) (c : Nat) : sA σ c (gI σ c) = σ := SS_ext (fun c' j => by rw [gI_sA]; by_cases h : c' = c <;> simp [h]) rfl
theorem sA_sA (σ : SS) (c : Nat) (d d' : Nat → Int32) : sA (sA σ c d) c d' = sA σ c d' := SS_ext (fun c' j => by rw [gI_sA, gI_sA, gI_sA]; by_cases h : c' = c <;> simp [h]) rfl
theorem flI_A (σ : SS) (c n : Nat) (v : Int32) : flI σ c n v = sA σ c (fun j => if j < n then v else gI σ c j) := rfl
theorem put_in {σ : SS} {s w h X Y : Nat} (hw : gI σ s 0 = nI w) (hh : gI σ s 1 = nI h) (hw2 : w ≤ 40) (hh2 : h ≤ 40) (hX : X < w) (hY : Y < h) (v : Int32) : ∃ b, fX6_put σ s (nI X) (nI Y) v = some (b, sI σ (s + 1) (Y * w + X) v) ∧ b = decide (¬ gI σ (s + 1) (Y * w + X) = v) := by
  have hk := cell_lt hX hY
  have ha := area_le hw2 hh2
  unfold fX6_put
  rw [if_pos (by rw [has_eq hw hh hw2 hh2, nI_toInt (by omega), nI_toInt (by omega)]; omega)]
  simp only [vthen_eq]
  rw [hw, ix_c, grd_eq _ (inb_nI (by omega) (by omega)), nI_clamp (by omega)]
  by_cases hv : gI σ (s + 1) (Y * w + X) = v
  · rw [if_pos hv, grd_eq _ (show isb 0 = true from rfl)]
    exact ⟨_, rfl, by rw [decide_eq_false (fun h => h hv)]; rfl⟩
  · rw [if_neg hv, grd_eq _ (show isb 1 = true from rfl)]
    exact ⟨_, rfl, by rw [decide_eq_true hv]; rfl⟩
theorem put_out {σ : SS} {s w h : Nat} (hw : gI σ s 0 = nI w) (hh : gI σ s 1 = nI h) (hw2 : w ≤ 40) (hh2 : h ≤ 40) {x y : Int32} (hc : ¬ ((0 ≤ x.toInt ∧ x.toInt < w) ∧ 0 ≤ y.toInt ∧ y.toInt < h)) (v : Int32) : fX6_put σ s x y v = some (false, σ) := by
  unfold fX6_put
  rw [if_neg (by rw [has_eq hw hh hw2 hh2]; exact hc)]
theorem min_nI {a b : Nat} (ha : a < 2 ^ 31) (hb : b < 2 ^ 31) (σ : SS) : fJ9_min_7cf53 σ (nI a) (nI b) = nI (min a b) := by
  unfold fJ9_min_7cf53
  by_cases h : b < a
  · rw [if_pos ((nI_ltI hb ha).mpr h)]; congr 1; omega
  · rw [if_neg (fun q => h ((nI_ltI hb ha).mp q))]; congr 1; omega
theorem max_nI {a b : Nat} (ha : a < 2 ^ 31) (hb : b < 2 ^ 31) (σ : SS) : fJ9_max_7cf53 σ (nI a) (nI b) = nI (max a b) := by
  unfold fJ9_max_7cf53
  by_cases h : a < b
  · rw [if_pos ((nI_ltI ha hb).mpr h)]; congr 1; omega
  · rw [if_neg (fun q => h ((nI_ltI ha hb).mp q))]; congr 1; omega
/-- two pictures alike up to n places, of small numbers -/
def alk (n : Nat) (d d' : Nat → Int32) : Prop := ∀ k, k < n → d k = d' k ∧ inR (d' k) 0 9
theorem alk_upd {n : Nat} {d d' : Nat → Int32} (h : alk n d d') (k : Nat) {v : Int32} (hv : inR v 0 9) : alk n (upd d k v) (upd d' k v) := fun j hj => by
  show (if j = k then v else d j) = (if j = k then v else d' j) ∧ inR (if j = k then v else d' j) 0 9
  by_cases e : j = k
  · rw [if_pos e, if_pos e]; exact ⟨rfl, hv⟩
  · rw [if_neg e, if_neg e]; exact h j hj
theorem alk_itr {n : Nat} {f g : Nat → (Nat → Int32) → Nat → Int32} {d d' : Nat → Int32} (h : alk n d d') (N : Nat) (hs : ∀ i, i < N → ∀ a b, alk n a b → alk n (f i a) (g i b)) : alk n (itr f d N) (itr g d' N) := by
  induction N with
  | zero => exact h
  | succ N ih => exact hs N (by omega) _ _ (ih fun i hi => hs i (by omega))
theorem itr_id {S : Type} {f : Nat → S → S} {s : S} {M N : Nat} (hMN : M ≤ N) (h : ∀ i, M ≤ i → i < N → ∀ s, f i s = s) : itr f s N = itr f s M := by
  obtain ⟨d, rfl⟩ : ∃ d, N = M + d := ⟨N - M, by omega⟩
  clear hMN
  induction d with
  | zero => rfl
  | succ d ih =>
    show f (M + d) (itr f s (M + d)) = _
    rw [h (M + d) (by omega) (by omega)]
    exact ih fun i h1 h2 => h i h1 (by omega)
theorem RAll.pic {s f w q : Nat} {σ : SS} (h : RAll s f σ) (hw : 8 ≤ w ∧ w ≤ 40) (hq : 8 ≤ q ∧ q ≤ 40) (e1 : gI σ s 0 = nI w) (e2 : gI σ s 1 = nI q) (e3 : gI σ 73 29 = nI w) (e4 : gI σ 73 30 = nI q) {d d' : Nat → Int32} (hd : alk (w * q) d d') : RAll s f (sA (sA σ (s + 1) d) 83 d') := by
  obtain ⟨hs, hf, -⟩ := id h.1
  refine h.of rfl ?h1 ?h2 ?h3 ?h4 ?h5 ?h6 ?h7 ?h8 ?h9
  case h2 =>
    refine Or.inl ⟨w, q, hw, hq, ?_, ?_, ?_, ?_, fun k hk => ?_⟩
    · rw [gI_A_ne (by omega), gI_A_ne (by omega), e1]
    · rw [gI_A_ne (by omega), gI_A_ne (by omega), e2]
    · rw [gI_A_ne (by omega), gI_A_ne (by omega), e3]
    · rw [gI_A_ne (by omega), gI_A_ne (by omega), e4]
    · rw [gI_A, gI_A_ne (by omega), gI_A]; exact hd k hk
  all_goals exact Or.inr fun c k hp => by rw [gI_A_ne (by omega), gI_A_ne (by omega)]
section FILL
variable {σ : SS} {s w q X : Nat} {v : Int32}
theorem fill7_i (hs : s = 3 ∨ s = 6) (hr : gR σ 1 2 = s) (hw : w ≤ 40) (hq : q ≤ 40) (e1 : gI σ s 0 = nI w) (e2 : gI σ s 1 = nI q) {R J : Nat} (hR : X + R ≤ w) (hJ : J < q) (d : Nat → Int32) (k : SS → Option (Int32 × SS)) :
    X7_fill_L79 v (nI (X + R)) (nI J) k fuel (nI X) (sA σ (s + 1) d) = k (sA σ (s + 1) (itr (fun i d => upd d (J * w + (X + i)) v) d R)) := by
  unfold X7_fill_L79
  refine lp_2 (fun i => nI (X + i)) (fun i => sA σ (s + 1) (itr (fun i d => upd d (J * w + (X + i)) v) d i)) R _ (fun i hi rec => ?_) (fun rec => ?_) fuel (fuel_gt (by omega))
  · rw [if_neg (nI_ge (by omega) (by omega))]
    obtain ⟨b, e, -⟩ := put_in (σ := sA σ (s + 1) (itr (fun i d => upd d (J * w + (X + i)) v) d i)) (s := s) (w := w) (h := q) (X := X + i) (Y := J) (by rw [gI_A_ne (by omega)]; exact e1) (by rw [gI_A_ne (by omega)]; exact e2) hw hq (by omega) hJ v
    rw [show gR (sA σ (s + 1) (itr (fun i d => upd d (J * w + (X + i)) v) d i)) 1 2 = s from hr, bnd_of _ e, sI_A, nI_1]
    rfl
  · rw [if_pos (nI_le (Nat.le_refl _) (by omega))]
theorem fill7_o (hs : s = 3 ∨ s = 6) (hr : gR σ 1 2 = s) (hw : w ≤ 40) (hq : q ≤ 40) (e1 : gI σ s 0 = nI w) (e2 : gI σ s 1 = nI q) {R Y L : Nat} (hR : X + R ≤ w) (hL : Y + L ≤ q) (d : Nat → Int32) :
    X7_fill_L69 (nI X) (nI Y) v (nI (X + R)) (nI (Y + L)) fuel (nI Y) (sA σ (s + 1) d) = some (nI (R * L), sA σ (s + 1) (itr (fun j d => itr (fun i d => upd d ((Y + j) * w + (X + i)) v) d R) d L)) := by
  unfold X7_fill_L69
  refine lp_2 (fun j => nI (Y + j)) (fun j => sA σ (s + 1) (itr (fun j d => itr (fun i d => upd d ((Y + j) * w + (X + i)) v) d R) d j)) L _ (fun j hj rec => ?_) (fun rec => ?_) fuel (fuel_gt (by omega))
  · rw [if_neg (nI_ge (by omega) (by omega)), fill7_i hs hr hw hq e1 e2 hR (by omega), nI_1]
    rfl
  · rw [if_pos (nI_le (Nat.le_refl _) (by omega)), nI_sub (by omega), nI_sub (by omega), nI_mul]
    congr 3
    rw [Nat.add_sub_cancel_left, Nat.add_sub_cancel_left]
theorem fill8_i (e3 : gI σ 73 29 = nI w) (e4 : gI σ 73 30 = nI q) (hw : 1 ≤ w ∧ w ≤ 40) (hq : 1 ≤ q ∧ q ≤ 40) {P R J : Nat} (hP : P ≤ 40) (hX : X ≤ 40) (hR : R = min (X + P) w - X) (hXw : X < w) (hJ : J ≤ 100) (d : Nat → Int32) (n : Nat) (k : Int32 → SS → Option (Int32 × SS)) :
    X8_fill_L61 (nI X) (nI P) v (nI J) k fuel (nI n) (nI X) (sA σ 83 d) = k (nI (n + if J < q then R else 0)) (sA σ 83 (if J < q then itr (fun i d => upd d (J * w + (X + i)) v) d R else d)) := by
  unfold X8_fill_L61
  by_cases hJq : J < q
  · refine lp_3 (fun i => nI (n + min i R)) (fun i => nI (X + i)) (fun i => sA σ 83 (itr (fun i d => upd d (J * w + (X + i)) v) d (min i R))) P _ (fun i hi rec => ?_) (fun rec => ?_) fuel (fuel_gt (by omega)) |> Eq.trans (by rw [show min 0 R = 0 by omega]; rfl)
    · have c := isDot_eq (σ := sA σ 83 (itr (fun i d => upd d (J * w + (X + i)) v) d (min i R))) (w := w) (h := q) (by rw [gI_A_ne (by omega)]; exact e3) (by rw [gI_A_ne (by omega)]; exact e4) hw.1 hq.1 hw.2 hq.2 (nI (X + i)) (nI J)
      rw [nI_toInt (by omega), nI_toInt (by omega)] at c
      have hk := area_le hw.2 hq.2
      rw [nI_add, if_neg (nI_ge (by omega) (by omega))]
      by_cases hi2 : X + i < w
      · have hlt := cell_lt (w := w) (h := q) hi2 hJq
        rw [if_pos (by rw [c]; omega), gI_A_ne (by omega), e3, ix_m, grd_eq _ (inb_nI (by omega) (by omega)), vthen_eq, vthen_eq, nI_clamp (by omega), sI_A, nI_1, nI_1]
        have m1 : min i R = i := by omega
        have m2 : min (i + 1) R = i + 1 := by omega
        rw [m1, m2]
        rfl
      · rw [if_neg (by rw [c]; omega), nI_1]
        have m2 : min (i + 1) R = min i R := by omega
        rw [m2]
        rfl
    · have m : min P R = R := by omega
      rw [nI_add, if_pos (nI_le (Nat.le_refl _) (by omega)), m, if_pos hJq, if_pos hJq]
  · refine lp_3 (fun i => nI n) (fun i => nI (X + i)) (fun i => sA σ 83 d) P _ (fun i hi rec => ?_) (fun rec => ?_) fuel (fuel_gt (by omega))
    · have c := isDot_eq (σ := sA σ 83 d) (w := w) (h := q) (by rw [gI_A_ne (by omega)]; exact e3) (by rw [gI_A_ne (by omega)]; exact e4) hw.1 hq.1 hw.2 hq.2 (nI (X + i)) (nI J)
      rw [nI_toInt (by omega), nI_toInt (by omega)] at c
      rw [nI_add, if_neg (nI_ge (by omega) (by omega)), if_neg (by rw [c]; omega), nI_1]
      rfl
    · rw [nI_add, if_pos (nI_le (Nat.le_refl _) (by omega)), if_neg hJq, if_neg hJq]
      rfl
end FILL
section FILL2
variable {σ : SS} {s w q X Y : Nat} {v : Int32}
theorem fill8_o (e3 : gI σ 73 29 = nI w) (e4 : gI σ 73 30 = nI q) (hw : 1 ≤ w ∧ w ≤ 40) (hq : 1 ≤ q ∧ q ≤ 40) {P Q R L : Nat} (hP : P ≤ 40) (hQ : Q ≤ 40) (hR : R = min (X + P) w - X) (hL : L = min (Y + Q) q - Y) (hXw : X < w) (hYq : Y < q) (d : Nat → Int32) :
    X8_fill_L49 (nI X) (nI Y) (nI P) (nI Q) v fuel (nI 0) (nI Y) (sA σ 83 d) = some (nI (R * L), sA σ 83 (itr (fun j d => itr (fun i d => upd d ((Y + j) * w + (X + i)) v) d R) d L)) := by
  unfold X8_fill_L49
  refine lp_3 (fun j => nI (R * min j L)) (fun j => nI (Y + j)) (fun j => sA σ 83 (itr (fun j d => itr (fun i d => upd d ((Y + j) * w + (X + i)) v) d R) d (min j L))) Q _ (fun j hj rec => ?_) (fun rec => ?_) fuel (fuel_gt (by omega)) |> Eq.trans (by rw [show min 0 L = 0 by omega]; rfl)
  · rw [nI_add, if_neg (nI_ge (by omega) (by omega)), fill8_i e3 e4 hw hq hP (by omega) hR hXw (by omega), nI_1]
    by_cases hj2 : Y + j < q
    · have m1 : min j L = j := by omega
      have m2 : min (j + 1) L = j + 1 := by omega
      rw [if_pos hj2, if_pos hj2, m1, m2, Nat.mul_succ]
      rfl
    · have m2 : min (j + 1) L = min j L := by omega
      rw [if_neg hj2, if_neg hj2, m2]
      rfl
  · have m : min Q L = L := by omega
    rw [nI_add, if_pos (nI_le (Nat.le_refl _) (by omega)), m]
end FILL2
theorem piece_eq (σ : SS) (x y : Int32) : (fX7_isPiece σ x y = true) = ((1 ≤ x.toInt ∧ x.toInt ≤ 40) ∧ 1 ≤ y.toInt ∧ y.toInt ≤ 40) := by
  unfold fX7_isPiece
  simp only [vthen_eq, lt_i, Int32.reduceToInt]
  by_cases c1 : x.toInt < 1
  · rw [if_pos c1]; simp; omega
  rw [if_neg c1]
  by_cases c2 : 40 < x.toInt
  · rw [if_pos c2]; simp; omega
  rw [if_neg c2]
  by_cases c3 : y.toInt < 1
  · rw [if_pos c3]; simp; omega
  rw [if_neg c3]
  by_cases c4 : 40 < y.toInt
  · rw [if_pos c4]; simp; omega
  rw [if_neg c4]; simp; omega
theorem op7 : ∀ a σ, Rel σ → st7 Rel a σ := by
  intro a σ ⟨s, f, h⟩
  obtain ⟨hs, hf, hR1, -⟩ := id h.1
  obtain ⟨w, q, hw, hq, e1, e2, e3, e4, hd⟩ := h.2.2.1
  have c7 := has_eq (σ := σ) e1 e2 (by omega) (by omega) (a 1) (a 2)
  have p7 := piece_eq σ (a 3) (a 4)
  by_cases hc : ((1 ≤ (a 3).toInt ∧ (a 3).toInt ≤ 40) ∧ 1 ≤ (a 4).toInt ∧ (a 4).toInt ≤ 40) ∧ (0 ≤ (a 5).toInt ∧ (a 5).toInt ≤ 9) ∧ (0 ≤ (a 1).toInt ∧ (a 1).toInt < w) ∧ 0 ≤ (a 2).toInt ∧ (a 2).toInt < q
  · obtain ⟨hP, hv, hX, hY⟩ := hc
    obtain ⟨X, hX2, eX⟩ := in_of (by omega) hX
    obtain ⟨Y, hY2, eY⟩ := in_of (by omega) hY
    obtain ⟨P, hP2, eP⟩ := in_of (x := a 3) (w := 41) (by decide) (by omega)
    obtain ⟨Q, hQ2, eQ⟩ := in_of (x := a 4) (w := 41) (by decide) (by omega)
    have hR : ∃ R, R = min (X + P) w - X := ⟨_, rfl⟩
    have hL : ∃ L, L = min (Y + Q) q - Y := ⟨_, rfl⟩
    obtain ⟨R, hR⟩ := hR
    obtain ⟨L, hL⟩ := hL
    have mR : min (X + P) w = X + R := by omega
    have mL : min (Y + Q) q = Y + L := by omega
    refine ⟨nI (R * L), sA σ (s + 1) (itr (fun j d => itr (fun i d => upd d ((Y + j) * w + (X + i)) (a 5)) d R) (gI σ (s + 1)) L), sA (sA σ (s + 1) (itr (fun j d => itr (fun i d => upd d ((Y + j) * w + (X + i)) (a 5)) d R) (gI σ (s + 1)) L)) 83 (itr (fun j d => itr (fun i d => upd d ((Y + j) * w + (X + i)) (a 5)) d R) (gI σ 83) L), ?_, ?_, s, f, ?_⟩
    · unfold fX7_fill
      simp only [lt_i, Int32.reduceToInt]
      rw [if_pos (by rw [p7]; exact hP), if_neg (by omega), if_neg (by omega), hR1, if_pos (by rw [c7]; exact ⟨hX, hY⟩), e1, e2, eX, eY, eP, eQ]
      simp only [vthen_eq]
      rw [nI_add, nI_add, min_nI (by omega) (by omega), min_nI (by omega) (by omega), mR, mL]
      have := fill7_o (σ := σ) (X := X) (v := a 5) hs hR1 (by omega) (by omega) e1 e2 (R := R) (Y := Y) (L := L) (by omega) (by omega) (gI σ (s + 1))
      rw [sA_self] at this
      exact this
    · have e3' : gI (sA σ (s + 1) (itr (fun j d => itr (fun i d => upd d ((Y + j) * w + (X + i)) (a 5)) d R) (gI σ (s + 1)) L)) 73 29 = nI w := by rw [gI_A_ne (by omega)]; exact e3
      have e4' : gI (sA σ (s + 1) (itr (fun j d => itr (fun i d => upd d ((Y + j) * w + (X + i)) (a 5)) d R) (gI σ (s + 1)) L)) 73 30 = nI q := by rw [gI_A_ne (by omega)]; exact e4
      have c8 := isDot_eq e3' e4' (by omega) (by omega) (by omega) (by omega) (a 1) (a 2)
      have := fill8_o (X := X) (Y := Y) (v := a 5) e3' e4' (by omega) (by omega) (P := P) (Q := Q) (by omega) (by omega) hR hL hX2 hY2 (gI σ 83)
      rw [← gI_A_ne (σ := σ) (c := s + 1) (c' := 83) (d := itr (fun j d => itr (fun i d => upd d ((Y + j) * w + (X + i)) (a 5)) d R) (gI σ (s + 1)) L) (by omega), sA_self] at this
      unfold fX8_fill
      simp only [in_eq, le_i, Int32.reduceToInt]
      rw [if_pos hP.1, if_pos hP.2, if_pos hv, if_pos (by rw [c8]; exact ⟨hX, hY⟩), eX, eY, eP, eQ]
      rw [gI_A_ne (σ := σ) (c := s + 1) (c' := 83) (by omega)] at this
      exact this
    · exact h.pic hw hq e1 e2 e3 e4 (alk_itr (n := w * q) (fun k hk => hd k hk) L fun j hj a' b' hab => alk_itr hab R fun i hi a2 b2 hab2 => alk_upd hab2 _ hv)
  · refine ⟨-1, σ, σ, ?_, ?_, s, f, h⟩
    · unfold fX7_fill
      simp only [lt_i, Int32.reduceToInt]
      by_cases c1 : (1 ≤ (a 3).toInt ∧ (a 3).toInt ≤ 40) ∧ 1 ≤ (a 4).toInt ∧ (a 4).toInt ≤ 40
      · rw [if_pos (by rw [p7]; exact c1)]
        by_cases c2 : (a 5).toInt < 0
        · rw [if_pos c2]
        rw [if_neg c2]
        by_cases c3 : 9 < (a 5).toInt
        · rw [if_pos c3]
        rw [if_neg c3, hR1, if_neg (by rw [c7]; omega)]
      · rw [if_neg (by rw [p7]; exact c1)]
    · have c8 := isDot_eq (σ := σ) e3 e4 (by omega) (by omega) (by omega) (by omega) (a 1) (a 2)
      unfold fX8_fill
      simp only [in_eq, le_i, Int32.reduceToInt]
      by_cases c1 : 1 ≤ (a 3).toInt ∧ (a 3).toInt ≤ 40
      · rw [if_pos c1]
        by_cases c2 : 1 ≤ (a 4).toInt ∧ (a 4).toInt ≤ 40
        · rw [if_pos c2]
          by_cases c3 : 0 ≤ (a 5).toInt ∧ (a 5).toInt ≤ 9
          · rw [if_pos c3, if_neg (by rw [c8]; omega)]
          · rw [if_neg c3]
        · rw [if_neg c2]
      · rw [if_neg c1]
