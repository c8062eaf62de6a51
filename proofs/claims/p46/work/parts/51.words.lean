/-! 51: the law's words made. -/
section WORDS51
variable {σ : SS} {Z : Bool × SS → Prop}
/-- one array more -/
def Md (σ τ : SS) : Prop := (∀ c k, c ≠ 0 → c ≠ 2000 + gR σ 0 0 → gR τ c k = gR σ c k) ∧ gR τ 0 0 = gR σ 0 0 + 1 ∧ ∀ c k, c ≠ 2000 + gR σ 0 0 → gI τ c k = gI σ c k
theorem Md.mk (σ : SS) (n : Nat) : Md σ (mkL σ n) ∧ lav (mkL σ n) (2000 + gR σ 0 0) = true ∧ gR (mkL σ n) (2000 + gR σ 0 0) 0 = n :=
  ⟨⟨fun c k h1 h2 => by rw [gR_mkL, if_neg h1, if_neg h2], by rw [gR_mkL, if_pos rfl, if_pos rfl], fun c k h => by rw [gI_mkL, if_neg h]⟩, lav_mk σ n, by rw [gR_mkL, if_neg (by omega), if_pos rfl]⟩
theorem Md.put {τ : SS} (h : Md σ τ) (k : Nat) (v : Int32) : Md σ (sI τ (2000 + gR σ 0 0) k v) := ⟨h.1, h.2.1, fun c j hc => by rw [gI_ne hc]; exact h.2.2 c j hc⟩
theorem mk4_s {a b c d : Nat} (h : a < 128 ∧ b < 128 ∧ c < 128 ∧ d < 128) {K : Nat → SS → Option (Bool × SS)} (hK : ∀ τ, Md σ τ → Wc7 (2000 + gR σ 0 0) [a, b, c, d] τ → WP (K (2000 + gR σ 0 0) τ) Z) :
    WP (vthen (2000 + gR σ 0 0) fun c2 =>
      vthen (mkL σ 4) fun σ1 =>
      grd (lin σ1 c2 (0 : Int32)) <|
      vthen (sI σ1 c2 0 (nI a)) fun σ4 =>
      grd (lin σ4 c2 (1 : Int32)) <|
      vthen (sI σ4 c2 1 (nI b)) fun σ6 =>
      grd (lin σ6 c2 (2 : Int32)) <|
      vthen (sI σ6 c2 2 (nI c)) fun σ8 =>
      grd (lin σ8 c2 (3 : Int32)) <|
      vthen (sI σ8 c2 3 (nI d)) fun σ10 =>
      K c2 σ10) Z := by
  obtain ⟨m1, m2, m3⟩ := Md.mk σ 4
  refine wp_v (wp_v ?_)
  generalize mkL σ 4 = t at m1 m2 m3
  have l : ∀ (t' : SS) (k : Nat), gR t' = gR t → k < 4 → lin t' (2000 + gR σ 0 0) (nI k) = true := fun t' k e hk => lin_of (n := 4) (by unfold lav at *; rw [e]; exact m2) (by rw [e]; exact m3) hk (by decide)
  refine wp_grd (l t 0 rfl (by decide)) (wp_v (wp_grd (l _ 1 rfl (by decide)) (wp_v (wp_grd (l _ 2 rfl (by decide)) (wp_v (wp_grd (l _ 3 rfl (by decide)) (wp_v (hK _ ((((m1.put 0 _).put 1 _).put 2 _).put 3 _) ⟨m2, m3, by show 4 ≤ 6; decide, fun k hk => ?_⟩))))))))
  have hk4 : k < 4 := hk
  rcases (show k = 0 ∨ k = 1 ∨ k = 2 ∨ k = 3 by omega) with rfl | rfl | rfl | rfl
  · exact ⟨by rw [gI_nk (by omega), gI_nk (by omega), gI_nk (by omega), gI_eq]; rfl, h.1⟩
  · exact ⟨by rw [gI_nk (by omega), gI_nk (by omega), gI_eq]; rfl, h.2.1⟩
  · exact ⟨by rw [gI_nk (by omega), gI_eq]; rfl, h.2.2.1⟩
  · exact ⟨by rw [gI_eq]; rfl, h.2.2.2⟩
theorem mk3_s {a b c : Nat} (h : a < 128 ∧ b < 128 ∧ c < 128) {K : Nat → SS → Option (Bool × SS)} (hK : ∀ τ, Md σ τ → Wc7 (2000 + gR σ 0 0) [a, b, c] τ → WP (K (2000 + gR σ 0 0) τ) Z) :
    WP (vthen (2000 + gR σ 0 0) fun c2 =>
      vthen (mkL σ 3) fun σ1 =>
      grd (lin σ1 c2 (0 : Int32)) <|
      vthen (sI σ1 c2 0 (nI a)) fun σ4 =>
      grd (lin σ4 c2 (1 : Int32)) <|
      vthen (sI σ4 c2 1 (nI b)) fun σ6 =>
      grd (lin σ6 c2 (2 : Int32)) <|
      vthen (sI σ6 c2 2 (nI c)) fun σ8 =>
      K c2 σ8) Z := by
  obtain ⟨m1, m2, m3⟩ := Md.mk σ 3
  refine wp_v (wp_v ?_)
  generalize mkL σ 3 = t at m1 m2 m3
  have l : ∀ (t' : SS) (k : Nat), gR t' = gR t → k < 3 → lin t' (2000 + gR σ 0 0) (nI k) = true := fun t' k e hk => lin_of (n := 3) (by unfold lav at *; rw [e]; exact m2) (by rw [e]; exact m3) hk (by decide)
  refine wp_grd (l t 0 rfl (by decide)) (wp_v (wp_grd (l _ 1 rfl (by decide)) (wp_v (wp_grd (l _ 2 rfl (by decide)) (wp_v (hK _ (((m1.put 0 _).put 1 _).put 2 _) ⟨m2, m3, by show 3 ≤ 6; decide, fun k hk => ?_⟩))))))
  have hk4 : k < 3 := hk
  rcases (show k = 0 ∨ k = 1 ∨ k = 2 by omega) with rfl | rfl | rfl
  · exact ⟨by rw [gI_nk (by omega), gI_nk (by omega), gI_eq]; rfl, h.1⟩
  · exact ⟨by rw [gI_nk (by omega), gI_eq]; rfl, h.2.1⟩
  · exact ⟨by rw [gI_eq]; rfl, h.2.2⟩
theorem mk6_s {a b c d e f : Nat} (h : a < 128 ∧ b < 128 ∧ c < 128 ∧ d < 128 ∧ e < 128 ∧ f < 128) {K : Nat → SS → Option (Bool × SS)} (hK : ∀ τ, Md σ τ → Wc7 (2000 + gR σ 0 0) [a, b, c, d, e, f] τ → WP (K (2000 + gR σ 0 0) τ) Z) :
    WP (vthen (2000 + gR σ 0 0) fun c2 =>
      vthen (mkL σ 6) fun σ1 =>
      grd (lin σ1 c2 (0 : Int32)) <|
      vthen (sI σ1 c2 0 (nI a)) fun σ4 =>
      grd (lin σ4 c2 (1 : Int32)) <|
      vthen (sI σ4 c2 1 (nI b)) fun σ6 =>
      grd (lin σ6 c2 (2 : Int32)) <|
      vthen (sI σ6 c2 2 (nI c)) fun σ8 =>
      grd (lin σ8 c2 (3 : Int32)) <|
      vthen (sI σ8 c2 3 (nI d)) fun σ10 =>
      grd (lin σ10 c2 (4 : Int32)) <|
      vthen (sI σ10 c2 4 (nI e)) fun σ12 =>
      grd (lin σ12 c2 (5 : Int32)) <|
      vthen (sI σ12 c2 5 (nI f)) fun σ14 =>
      K c2 σ14) Z := by
  obtain ⟨m1, m2, m3⟩ := Md.mk σ 6
  refine wp_v (wp_v ?_)
  generalize mkL σ 6 = t at m1 m2 m3
  have l : ∀ (t' : SS) (k : Nat), gR t' = gR t → k < 6 → lin t' (2000 + gR σ 0 0) (nI k) = true := fun t' k e hk => lin_of (n := 6) (by unfold lav at *; rw [e]; exact m2) (by rw [e]; exact m3) hk (by decide)
  refine wp_grd (l t 0 rfl (by decide)) (wp_v (wp_grd (l _ 1 rfl (by decide)) (wp_v (wp_grd (l _ 2 rfl (by decide)) (wp_v (wp_grd (l _ 3 rfl (by decide)) (wp_v (wp_grd (l _ 4 rfl (by decide)) (wp_v (wp_grd (l _ 5 rfl (by decide)) (wp_v (hK _ ((((((m1.put 0 _).put 1 _).put 2 _).put 3 _).put 4 _).put 5 _) ⟨m2, m3, by show 6 ≤ 6; decide, fun k hk => ?_⟩))))))))))))
  have hk4 : k < 6 := hk
  rcases (show k = 0 ∨ k = 1 ∨ k = 2 ∨ k = 3 ∨ k = 4 ∨ k = 5 by omega) with rfl | rfl | rfl | rfl | rfl | rfl
  · exact ⟨by rw [gI_nk (by omega), gI_nk (by omega), gI_nk (by omega), gI_nk (by omega), gI_nk (by omega), gI_eq]; rfl, h.1⟩
  · exact ⟨by rw [gI_nk (by omega), gI_nk (by omega), gI_nk (by omega), gI_nk (by omega), gI_eq]; rfl, h.2.1⟩
  · exact ⟨by rw [gI_nk (by omega), gI_nk (by omega), gI_nk (by omega), gI_eq]; rfl, h.2.2.1⟩
  · exact ⟨by rw [gI_nk (by omega), gI_nk (by omega), gI_eq]; rfl, h.2.2.2.1⟩
  · exact ⟨by rw [gI_nk (by omega), gI_eq]; rfl, h.2.2.2.2.1⟩
  · exact ⟨by rw [gI_eq]; rfl, h.2.2.2.2.2⟩
/-- a word stays when another is made -/
theorem Wc7.md {c : Nat} {L : List Nat} {τ : SS} (h : Wc7 c L σ) (hm : Md σ τ) : Wc7 c L τ ∧ c ≠ 2000 + gR σ 0 0 := by
  obtain ⟨h1, h2, h3, h4⟩ := h
  have hc := of_decide_eq_true h1
  have hne : c ≠ 2000 + gR σ 0 0 := by omega
  exact ⟨⟨decide_eq_true ⟨hc.1, by rw [hm.2.1]; omega⟩, by rw [hm.1 _ _ (by omega) hne]; exact h2, h3, fun k hk => by rw [hm.2.2 _ _ hne]; exact h4 k hk⟩, hne⟩
end WORDS51
