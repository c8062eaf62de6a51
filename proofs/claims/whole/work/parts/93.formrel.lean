/-! Form kept: the form so far. -/
def RG (W H A B : Nat) : Prop := (4 ≤ W ∧ W ≤ 40) ∧ (4 ≤ H ∧ H ≤ 40) ∧ (1 ≤ A ∧ A ≤ 6) ∧ (1 ≤ B ∧ B ≤ 6)
theorem psum_c {N N' : Nat → Nat} : ∀ q, (∀ p, p < q → N' p = N p) → psum N' q = psum N q
  | 0, _ => rfl
  | q + 1, h => by
    show psum N' q + N' q = psum N q + N q
    rw [psum_c q fun p hp => h p (by omega), h q (by omega)]
/-- one question as it stands on both sides -/
def En (g bb : Nat) (N : Nat → Nat) (W H A B p : Nat) (a b : SS) : Prop :=
  N p ≤ 6 ∧ gI a (g + 2) p = nI (psum N p) ∧ gI a (g + 3) p = nI (N p) ∧ gI b 77 (12 * bb + p) = nI (N p) ∧
    (gI a (g + 4) p = gI b 78 (12 * bb + p) ∧ inR (gI b 78 (12 * bb + p)) 0 63) ∧ (gI a (g + 5) p = gI b 79 (12 * bb + p) ∧ inR (gI b 79 (12 * bb + p)) 0 99) ∧
    ((gI a (g + 1) p = 0 ∧ gI b 76 (12 * bb + p) = 1) ∨ (gI a (g + 1) p = 1 ∧ gI b 76 (12 * bb + p) = 2)) ∧
    ∀ i, i < N p → (gI a (g + 6) (psum N p + i) = gI b 80 (6 * (12 * bb + p) + i) ∧ inR (gI b 80 (6 * (12 * bb + p) + i)) 0 (W - A)) ∧ (gI a (g + 7) (psum N p + i) = gI b 81 (6 * (12 * bb + p) + i) ∧ inR (gI b 81 (6 * (12 * bb + p) + i)) 0 (H - B))
theorem En.fr {g bb W H A B p : Nat} {N N' : Nat → Nat} {a b a' b' : SS} (h : En g bb N W H A B p a b) (hN : ∀ p', p' ≤ p → N' p' = N p') (h1 : ∀ j, 1 ≤ j → j ≤ 5 → gI a' (g + j) p = gI a (g + j) p) (h2 : ∀ j, j = 6 ∨ j = 7 → ∀ i, i < N p → gI a' (g + j) (psum N p + i) = gI a (g + j) (psum N p + i)) (h3 : ∀ c, 76 ≤ c → c ≤ 79 → gI b' c (12 * bb + p) = gI b c (12 * bb + p)) (h4 : ∀ c, c = 80 ∨ c = 81 → ∀ i, i < N p → gI b' c (6 * (12 * bb + p) + i) = gI b c (6 * (12 * bb + p) + i)) : En g bb N' W H A B p a' b' := by
  obtain ⟨k1, k2, k3, k4, k5, k6, k7, k8⟩ := h
  unfold En
  rw [psum_c (N := N) (N' := N') p fun p' hp => hN p' (by omega), hN p (Nat.le_refl _), h1 1 (by omega) (by omega), h1 2 (by omega) (by omega), h1 3 (by omega) (by omega), h1 4 (by omega) (by omega), h1 5 (by omega) (by omega), h3 76 (by omega) (by omega), h3 77 (by omega) (by omega), h3 78 (by omega) (by omega), h3 79 (by omega) (by omega)]
  refine ⟨k1, k2, k3, k4, k5, k6, k7, fun i hi => ?_⟩
  rw [h2 6 (by omega) i hi, h2 7 (by omega) i hi, h4 80 (by omega) i hi, h4 81 (by omega) i hi]
  exact k8 i hi
def Hq (g bb W H A B : Nat) (a b : SS) : Prop := (gI a g 1 = nI W ∧ gI a g 2 = nI H ∧ gI a g 3 = nI A ∧ gI a g 4 = nI B) ∧ gI b 75 (5 * bb) = nI W ∧ gI b 75 (5 * bb + 1) = nI H ∧ gI b 75 (5 * bb + 2) = nI A ∧ gI b 75 (5 * bb + 3) = nI B
/-- m questions begun by the class, M closed by the reference -/
def Fm (g bb : Nat) (a0 b0 : SS) (W H A B m M : Nat) (N : Nat → Nat) (a b : SS) : Prop := Om g bb a0 b0 a b ∧ Hq g bb W H A B a b ∧ gI a g 5 = nI m ∧ gI a g 6 = nI (psum N m) ∧ gI b 75 (5 * bb + 4) = nI M ∧ (∀ p, p < m → En g bb N W H A B p a b) ∧ ∀ p, p < M → 1 ≤ N p
section FORMREL
variable {g bb : Nat} {a0 b0 a b : SS} {W H A B m M q : Nat} {N : Nat → Nat}
theorem Fm.sb (hg : 27 < g ∨ g + 7 < 26) : Sb (Fm g bb a0 b0 W H A B m M N) := by
  rintro a b a' b' ⟨h1, ⟨⟨k1, k2, k3, k4⟩, k5, k6, k7, k8⟩, h3, h4, h5, h6, h7⟩ q1 q2 q3 q4
  refine ⟨Om.sb hg a b a' b' h1 q1 q2 q3 q4, ⟨⟨by rw [q2 _ _ (by omega)]; exact k1, by rw [q2 _ _ (by omega)]; exact k2, by rw [q2 _ _ (by omega)]; exact k3, by rw [q2 _ _ (by omega)]; exact k4⟩, by rw [q4 _ _ (by omega)]; exact k5, by rw [q4 _ _ (by omega)]; exact k6, by rw [q4 _ _ (by omega)]; exact k7, by rw [q4 _ _ (by omega)]; exact k8⟩, by rw [q2 _ _ (by omega)]; exact h3, by rw [q2 _ _ (by omega)]; exact h4, by rw [q4 _ _ (by omega)]; exact h5, fun p hp => (h6 p hp).fr (fun _ _ => rfl) (fun j _ _ => q2 _ _ (by omega)) (fun j _ i _ => q2 _ _ (by omega)) (fun c _ _ => q4 _ _ (by omega)) (fun c _ i _ => q4 _ _ (by omega)), h7⟩
/-- a box laid by both -/
theorem Fm.box {x y : Nat} (hb : bb < 2) (hq : q < 12) (hx : x ≤ 999 ∧ (x : Int) ≤ (W : Int) - A) (hy : y ≤ 999 ∧ (y : Int) ≤ (H : Int) - B) (h6 : N q < 6) (h : Fm g bb a0 b0 W H A B (q + 1) q N a b) : Fm g bb a0 b0 W H A B (q + 1) q (upN N q (N q + 1)) (sI (sI (sI (sI a (g + 6) (psum N (q + 1)) (nI x)) (g + 7) (psum N (q + 1)) (nI y)) g 6 (nI (psum N (q + 1) + 1))) (g + 3) q (nI (N q + 1))) (sI (sI (sI b 80 (6 * (12 * bb + q) + N q) (nI x)) 81 (6 * (12 * bb + q) + N q) (nI y)) 77 (12 * bb + q) (nI (N q + 1))) := by
  obtain ⟨ho, ⟨⟨k1, k2, k3, k4⟩, k5, k6, k7, k8⟩, h3, h4, h5, hE, h7⟩ := h
  have hKe : psum N (q + 1) = psum N q + N q := rfl
  have hup : upN N q (N q + 1) q = N q + 1 := if_pos rfl
  have hne : ∀ p, p ≠ q → upN N q (N q + 1) p = N p := fun p hp => if_neg hp
  have hpq : psum (upN N q (N q + 1)) q = psum N q := psum_c q fun p hp => hne p (by omega)
  have hps : psum (upN N q (N q + 1)) (q + 1) = psum N (q + 1) + 1 := by
    show psum (upN N q (N q + 1)) q + upN N q (N q + 1) q = _
    rw [hpq, hup, hKe]; omega
  refine ⟨(((((((ho.cl (by omega)).cl (by omega)).cl (by omega)).cl (by omega)).rr (by unfold OB; omega)).rr (by unfold OB; omega)).rr (by unfold OB; omega)), ⟨⟨?_, ?_, ?_, ?_⟩, ?_, ?_, ?_, ?_⟩, ?_, ?_, ?_, fun p hp => ?_, fun p hp => by rw [hne p (by omega)]; exact h7 p hp⟩
  · rw [gI_nk (by omega), gI_nk (by omega), gI_nk (by omega), gI_nk (by omega)]; exact k1
  · rw [gI_nk (by omega), gI_nk (by omega), gI_nk (by omega), gI_nk (by omega)]; exact k2
  · rw [gI_nk (by omega), gI_nk (by omega), gI_nk (by omega), gI_nk (by omega)]; exact k3
  · rw [gI_nk (by omega), gI_nk (by omega), gI_nk (by omega), gI_nk (by omega)]; exact k4
  · rw [gI_nk (by omega), gI_nk (by omega), gI_nk (by omega)]; exact k5
  · rw [gI_nk (by omega), gI_nk (by omega), gI_nk (by omega)]; exact k6
  · rw [gI_nk (by omega), gI_nk (by omega), gI_nk (by omega)]; exact k7
  · rw [gI_nk (by omega), gI_nk (by omega), gI_nk (by omega)]; exact k8
  · rw [gI_nk (by omega), gI_nk (by omega), gI_nk (by omega), gI_nk (by omega)]; exact h3
  · rw [gI_nk (by omega), gI_eq, hps]
  · rw [gI_nk (by omega), gI_nk (by omega), gI_nk (by omega)]; exact h5
  · by_cases e : p = q
    · subst e
      obtain ⟨n1, n2, n3, n4, n5, n6, n7, n8⟩ := hE p (by omega)
      unfold En
      rw [hup, hpq]
      refine ⟨by omega, ?_, ?_, ?_, ?_, ?_, ?_, fun i hi => ?_⟩
      · rw [gI_nk (by omega), gI_nk (by omega), gI_nk (by omega), gI_nk (by omega)]; exact n2
      · rw [gI_eq]
      · rw [gI_eq]
      · rw [gI_nk (by omega), gI_nk (by omega), gI_nk (by omega), gI_nk (by omega), gI_nk (by omega), gI_nk (by omega), gI_nk (by omega)]; exact n5
      · rw [gI_nk (by omega), gI_nk (by omega), gI_nk (by omega), gI_nk (by omega), gI_nk (by omega), gI_nk (by omega), gI_nk (by omega)]; exact n6
      · rw [gI_nk (by omega), gI_nk (by omega), gI_nk (by omega), gI_nk (by omega), gI_nk (by omega), gI_nk (by omega), gI_nk (by omega)]; exact n7
      · by_cases ei : i = N p
        · subst ei
          have tx : (nI x).toInt = x := nI_toInt (by omega)
          have ty : (nI y).toInt = y := nI_toInt (by omega)
          have x6 : ∀ v, gI (sI (sI (sI (sI a (g + 6) (psum N (p + 1)) (nI x)) (g + 7) (psum N (p + 1)) (nI y)) g 6 v) (g + 3) p (nI (N p + 1))) (g + 6) (psum N p + N p) = nI x := fun v => by
            rw [gI_nk (by omega), gI_nk (by omega), gI_nk (by omega), ← hKe, gI_eq]
          have x7 : ∀ v, gI (sI (sI (sI (sI a (g + 6) (psum N (p + 1)) (nI x)) (g + 7) (psum N (p + 1)) (nI y)) g 6 v) (g + 3) p (nI (N p + 1))) (g + 7) (psum N p + N p) = nI y := fun v => by
            rw [gI_nk (by omega), gI_nk (by omega), ← hKe, gI_eq]
          rw [x6, x7, show gI (sI (sI (sI b 80 (6 * (12 * bb + p) + N p) (nI x)) 81 (6 * (12 * bb + p) + N p) (nI y)) 77 (12 * bb + p) (nI (N p + 1))) 80 (6 * (12 * bb + p) + N p) = nI x by rw [gI_nk (by omega), gI_nk (by omega), gI_eq], show gI (sI (sI (sI b 80 (6 * (12 * bb + p) + N p) (nI x)) 81 (6 * (12 * bb + p) + N p) (nI y)) 77 (12 * bb + p) (nI (N p + 1))) 81 (6 * (12 * bb + p) + N p) = nI y by rw [gI_nk (by omega), gI_eq]]
          exact ⟨⟨rfl, by rw [tx]; omega, by rw [tx]; exact hx.2⟩, rfl, by rw [ty]; omega, by rw [ty]; exact hy.2⟩
        · have hi2 : i < N p := by omega
          rw [gI_nk (by omega), gI_nk (by omega), gI_nk (by omega), gI_nk (c' := g + 6) (by omega), gI_nk (by omega), gI_nk (by omega), gI_nk (c' := 80) (by omega), gI_nk (c' := g + 7) (by omega), gI_nk (c' := g + 7) (by omega), gI_nk (c' := g + 7) (by omega), gI_nk (c' := g + 7) (by omega), gI_nk (c' := 81) (by omega), gI_nk (c' := 81) (by omega), gI_nk (c' := 81) (by omega)]
          exact n8 i hi2
    · have hlt : p < q := by omega
      have hp6 := (hE p hp).1
      refine (hE p hp).fr (fun p' hp' => hne p' (by omega)) (fun j j1 j2 => ?_) (fun j j1 i hi => ?_) (fun c c1 c2 => ?_) (fun c c1 i hi => ?_)
      · rw [gI_nk (by omega), gI_nk (by omega), gI_nk (by omega), gI_nk (by omega)]
      · have := psum_lt (N := N) (Q := q) hlt hi
        rw [gI_nk (by omega), gI_nk (by omega), gI_nk (by omega), gI_nk (by omega)]
      · rw [gI_nk (by omega), gI_nk (by omega), gI_nk (by omega)]
      · rw [gI_nk (by omega), gI_nk (by omega), gI_nk (by omega)]
/-- one cell of the running question on both sides: its key, its worth -/
theorem Fm.cell {c d : Nat} {v : Int32} (hq : q < 12) (hc : (c = 4 ∧ d = 78 ∧ inR v 0 63) ∨ (c = 5 ∧ d = 79 ∧ inR v 0 99)) (h : Fm g bb a0 b0 W H A B (q + 1) q N a b) : Fm g bb a0 b0 W H A B (q + 1) q N (sI a (g + c) q v) (sI b d (12 * bb + q) v) := by
  obtain ⟨ho, ⟨⟨k1, k2, k3, k4⟩, k5, k6, k7, k8⟩, h3, h4, h5, hE, h7⟩ := h
  refine ⟨(ho.cl (by omega)).rr (by unfold OB; omega), ⟨⟨?_, ?_, ?_, ?_⟩, ?_, ?_, ?_, ?_⟩, ?_, ?_, ?_, fun p hp => ?_, h7⟩
  · rw [gI_nk (by omega)]; exact k1
  · rw [gI_nk (by omega)]; exact k2
  · rw [gI_nk (by omega)]; exact k3
  · rw [gI_nk (by omega)]; exact k4
  · rw [gI_nk (by omega)]; exact k5
  · rw [gI_nk (by omega)]; exact k6
  · rw [gI_nk (by omega)]; exact k7
  · rw [gI_nk (by omega)]; exact k8
  · rw [gI_nk (by omega)]; exact h3
  · rw [gI_nk (by omega)]; exact h4
  · rw [gI_nk (by omega)]; exact h5
  · have hp6 := (hE p hp).1
    by_cases e : p = q
    · subst e
      obtain ⟨n1, n2, n3, n4, n5, n6, n7, n8⟩ := hE p (by omega)
      rcases hc with ⟨rfl, rfl, hv⟩ | ⟨rfl, rfl, hv⟩
      · refine ⟨n1, by rw [gI_nk (by omega)]; exact n2, by rw [gI_nk (by omega)]; exact n3, by rw [gI_nk (by omega)]; exact n4, by rw [gI_eq, gI_eq]; exact ⟨rfl, hv⟩, by rw [gI_nk (by omega), gI_nk (by omega)]; exact n6, by rw [gI_nk (by omega), gI_nk (by omega)]; exact n7, fun i hi => ?_⟩
        rw [gI_nk (by omega), gI_nk (by omega), gI_nk (by omega), gI_nk (by omega)]
        exact n8 i hi
      · refine ⟨n1, by rw [gI_nk (by omega)]; exact n2, by rw [gI_nk (by omega)]; exact n3, by rw [gI_nk (by omega)]; exact n4, by rw [gI_nk (by omega), gI_nk (by omega)]; exact n5, by rw [gI_eq, gI_eq]; exact ⟨rfl, hv⟩, by rw [gI_nk (by omega), gI_nk (by omega)]; exact n7, fun i hi => ?_⟩
        rw [gI_nk (by omega), gI_nk (by omega), gI_nk (by omega), gI_nk (by omega)]
        exact n8 i hi
    · refine (hE p hp).fr (fun _ _ => rfl) (fun j j1 j2 => ?_) (fun j j1 i hi => ?_) (fun c' c1 c2 => ?_) (fun c' c1 i hi => ?_)
      · rw [gI_nk (by omega)]
      · rw [gI_nk (by omega)]
      · rw [gI_nk (by omega)]
      · rw [gI_nk (by omega)]
end FORMREL
