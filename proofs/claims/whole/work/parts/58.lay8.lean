/-! Lay kept: the reference's half, and both. -/
/-- nothing but scratch of the judging, and the piles -/
def Kw (σ s : SS) : Prop := ∀ c k, ¬ (c = 31 ∨ (33 ≤ c ∧ c ≤ 62) ∨ (91 ≤ c ∧ c ≤ 112) ∨ (c = 73 ∧ ¬ (k = 1 ∨ k = 11 ∨ k = 12 ∨ k = 29 ∨ k = 30 ∨ k = 31))) → gI s c k = gI σ c k
def G9 (Q : Nat) (N D : Nat → Nat) (P : Nat) (σ s : SS) : Prop := Kw σ s ∧ (∀ p, p < Q → ∀ i, i < N p → gI s 106 (6 * p + i) = nI (D (psum N p + i))) ∧ (0 < psum N Q → gI s 73 54 = nI P)
section LAY8
variable {w q spk : Nat} {lvl mk : Int32} {pic : Nat → Int32} {b U V A B Q : Nat} {N cx cy D : Nat → Nat} {P : Nat} {σ s r1 : SS} {S : Nat}
theorem G9.j {p : Nat} (h8 : C8 w q spk lvl mk pic b U V A B Q N cx cy σ) (hJ : Jd b Q N D P σ r1) (hG : G9 Q N D P σ s) (hp : p < Q) : WP (fX8_judges s (nI p) (gI s 88 3)) (fun r => gR r = gR s ∧ G9 Q N D P σ r ∧ gI r 73 55 = gI r1 53 p ∧ gI r 73 56 = gI r1 54 p ∧ fX8_pointsOf r (nI p) = some (gI r1 57 p) ∧ ∀ c k, c ≠ 107 → ¬ (c = 73 ∧ 55 ≤ k ∧ k ≤ 58) → gI r c k = gI s c k) := by
  have h8s := h8.fr (σ' := s) fun c k hc => hG.1 c k (by omega)
  have hGs : G8 Q N D P s s := ⟨fun c k hc => rfl, hG.2.1, hG.2.2⟩
  refine wp_imp (hGs.j h8s hp (gI s 88 3)) ?_
  rintro r ⟨y1, y2, y3, y4⟩
  have e := pts8 h8s y2.1 hp
  rw [hG.1 76 _ (by omega), hG.1 88 3 (by omega), hG.1 88 4 (by omega), hG.1 88 5 (by omega)] at y3
  rw [hG.1 78 _ (by omega), hG.1 79 _ (by omega), hG.1 88 6 (by omega)] at e
  obtain ⟨j1, j2⟩ := hJ p hp
  obtain ⟨z1, z2, -⟩ := j1.one y3
  exact ⟨y1, ⟨fun c k hc => (y4 c k (by omega) (by omega)).trans (hG.1 c k hc), y2.2.1, y2.2.2⟩, z1.symm, z2.symm, by rw [e, j2, z1, z2], y4⟩
theorem lay8 (h8 : C8 w q spk lvl mk pic b U V A B Q N cx cy σ) (hJ : Jd b Q N D P σ r1) (hG : G9 Q N D P σ s) (hS : S < 16) : WP (X8_lay_L66 (nI S) fuel (0 : Int32) (sI (sI (sI (sI s 73 65 (nI S + 1)) 109 S 0) 110 S 0) 111 S 0)) (fun w => w.1 = nI S ∧ gR w.2 = gR s ∧ Kw σ w.2 ∧ gI w.2 73 65 = nI (S + 1) ∧ (∀ c k, 58 ≤ c ∧ c ≤ 62 → gI w.2 c k = gI s c k) ∧ LR r1 s w.2 109 S Q (itr (shW r1 0) 0 Q)) := by
  obtain ⟨-, -, -, -, -, -, -, -, -, -, -, -, -, hQ, hHd, hN⟩ := id h8
  unfold X8_lay_L66
  refine wf_2 Q (fun i v t => v = nI i ∧ gR t = gR s ∧ G9 Q N D P σ t ∧ gI t 73 65 = nI (S + 1) ∧ (∀ c k, 58 ≤ c ∧ c ≤ 62 → gI t c k = gI s c k) ∧ LR r1 s t 109 S i (itr (shW r1 0) 0 i)) ⟨rfl, rfl, ⟨fun c k hc => ?_, fun p hp i hi => ?_, fun h => ?_⟩, ?_, fun c k hc => ?_, ?_⟩ (by omega) ?_ ?_
  · rw [gI_nk (by omega), gI_nk (by omega), gI_nk (by omega), gI_nk (by omega)]; exact hG.1 c k hc
  · rw [gI_nk (by omega), gI_nk (by omega), gI_nk (by omega), gI_nk (by omega)]; exact hG.2.1 p hp i hi
  · rw [gI_nk (by omega), gI_nk (by omega), gI_nk (by omega), gI_nk (by omega)]; exact hG.2.2 h
  · rw [gI_nk (by omega), gI_nk (by omega), gI_nk (by omega), gI_sI, if_pos ⟨rfl, rfl⟩, nI_1]
  · rw [gI_nk (by omega), gI_nk (by omega), gI_nk (by omega), gI_nk (by omega)]
  · refine ⟨?_, fun k hk => ?_, ?_, fun k hk => ?_, ?_, fun k hk => ?_, fun q hq => absurd hq (by omega), fun k hk => ?_⟩
    · rw [gI_nk (by omega), gI_nk (by omega), gI_sI, if_pos ⟨rfl, rfl⟩]; rfl
    · rw [gI_nk (by omega), gI_nk (by omega), gI_nk (by omega), gI_nk (by omega)]
    · rw [gI_nk (by omega), gI_sI, if_pos ⟨rfl, rfl⟩]; rfl
    · rw [gI_nk (by omega), gI_nk (by omega), gI_nk (by omega), gI_nk (by omega)]
    · rw [gI_sI, if_pos ⟨rfl, rfl⟩]; rfl
    · rw [gI_nk (by omega), gI_nk (by omega), gI_nk (by omega), gI_nk (by omega)]
    · rw [gI_nk (by omega), gI_nk (by omega), gI_nk (by omega), gI_nk (by omega)]
  · rintro i _ t rec hi ⟨rfl, g1, g2, g3, g4, g5⟩ hr
    rw [quest8 (hHd.fr (fun k hk => g2.1 73 k (by omega)) fun k => g2.1 75 k (by omega)), bnd1_some, if_neg (nI_ge hi (by omega))]
    refine wp_bnd1 (g2.j h8 hJ hi) ?_
    rintro r ⟨y1, y2, y3, y4, y5, y6⟩
    have ek : (12 : Int32) * nI S + nI i = nI (12 * S + i) := by rw [show (12 : Int32) = nI 12 from rfl, nI_mul, nI_add]
    rw [y5, bnd1_some, ek, nI_clamp (by omega), nI_clamp (by omega), nI_1]
    have leaf : ∀ x y : Int32, itr (btW r1 1) (0 : Int32) i ||| x = itr (btW r1 1) (0 : Int32) (i + 1) → itr (btW r1 2) (0 : Int32) i ||| y = itr (btW r1 2) (0 : Int32) (i + 1) → ∀ t', t' = (sI (sI (sI (sI r 109 S (gI r 109 S + gI r1 57 i)) 110 S (gI (sI r 109 S (gI r 109 S + gI r1 57 i)) 110 S ||| x)) 111 S (gI (sI (sI r 109 S (gI r 109 S + gI r1 57 i)) 110 S (gI (sI r 109 S (gI r 109 S + gI r1 57 i)) 110 S ||| x)) 111 S ||| y)) 112 (12 * S + i) (gI (sI (sI (sI r 109 S (gI r 109 S + gI r1 57 i)) 110 S (gI (sI r 109 S (gI r 109 S + gI r1 57 i)) 110 S ||| x)) 111 S (gI (sI (sI r 109 S (gI r 109 S + gI r1 57 i)) 110 S (gI (sI r 109 S (gI r 109 S + gI r1 57 i)) 110 S ||| x)) 111 S ||| y)) 73 55)) → WP (rec (nI (i + 1)) t') (fun w => w.1 = nI S ∧ gR w.2 = gR s ∧ Kw σ w.2 ∧ gI w.2 73 65 = nI (S + 1) ∧ (∀ c k, 58 ≤ c ∧ c ≤ 62 → gI w.2 c k = gI s c k) ∧ LR r1 s w.2 109 S Q (itr (shW r1 0) 0 Q)) := by
      rintro x y hx hy _ rfl
      rw [gI_nk (c := 109) (c' := 110) (by omega), gI_nk (c := 110) (c' := 111) (by omega), gI_nk (c := 109) (c' := 111) (by omega), gI_nk (c := 111) (c' := 73) (by omega), gI_nk (c := 110) (c' := 73) (by omega), gI_nk (c := 109) (c' := 73) (by omega), y3, y6 109 _ (by omega) (by omega), y6 110 _ (by omega) (by omega), y6 111 _ (by omega) (by omega), g5.1, g5.2.2.1, g5.2.2.2.2.1, hx, hy]
      refine hr _ _ ⟨rfl, y1.trans g1, ⟨fun c k hc => ?_, fun p hp j hj => ?_, fun h => ?_⟩, ?_, fun c k hc => ?_, g5.put ⟨?_, fun k hk => ?_⟩ ⟨?_, fun k hk => ?_⟩ ⟨?_, fun k hk => ?_⟩ ⟨?_, fun k hk => ?_⟩⟩
      · rw [gI_nk (by omega), gI_nk (by omega), gI_nk (by omega), gI_nk (by omega)]; exact y2.1 c k hc
      · rw [gI_nk (by omega), gI_nk (by omega), gI_nk (by omega), gI_nk (by omega)]; exact y2.2.1 p hp j hj
      · rw [gI_nk (by omega), gI_nk (by omega), gI_nk (by omega), gI_nk (by omega)]; exact y2.2.2 h
      · rw [gI_nk (by omega), gI_nk (by omega), gI_nk (by omega), gI_nk (by omega), y6 _ _ (by omega) (by omega)]; exact g3
      · rw [gI_nk (by omega), gI_nk (by omega), gI_nk (by omega), gI_nk (by omega), y6 _ _ (by omega) (by omega)]; exact g4 c k hc
      · rw [gI_nk (by omega), gI_nk (by omega), gI_nk (by omega), gI_sI, if_pos ⟨rfl, rfl⟩]; rfl
      · rw [gI_nk (by omega), gI_nk (by omega), gI_nk (by omega), gI_nk (by omega), y6 _ _ (by omega) (by omega)]
      · rw [gI_nk (by omega), gI_nk (by omega), gI_sI, if_pos ⟨rfl, rfl⟩]
      · rw [gI_nk (by omega), gI_nk (by omega), gI_nk (by omega), gI_nk (by omega), y6 _ _ (by omega) (by omega)]
      · rw [gI_nk (by omega), gI_sI, if_pos ⟨rfl, rfl⟩]
      · rw [gI_nk (by omega), gI_nk (by omega), gI_nk (by omega), gI_nk (by omega), y6 _ _ (by omega) (by omega)]
      · rw [gI_sI, if_pos ⟨rfl, rfl⟩]
      · rw [gI_nk (by omega), gI_nk (by omega), gI_nk (by omega), gI_nk (by omega), y6 _ _ (by omega) (by omega)]
    have i1 : inb (nI S) 16 = true := inb_nI (by omega) (by decide)
    have i2 : inb (nI (12 * S + i)) 192 = true := inb_nI (by omega) (by decide)
    have a1 : gI r1 54 i = 1 → itr (btW r1 1) (0 : Int32) i ||| ((1 : Int32) <<< (nI i &&& 31)) = itr (btW r1 1) (0 : Int32) (i + 1) := fun c => (btW_y c).symm
    have a0 : ¬ gI r1 54 i = 1 → itr (btW r1 1) (0 : Int32) i ||| 0 = itr (btW r1 1) (0 : Int32) (i + 1) := fun c => by rw [btW_n c, Int32.or_zero]
    have b1 : gI r1 54 i = 2 → itr (btW r1 2) (0 : Int32) i ||| ((1 : Int32) <<< (nI i &&& 31)) = itr (btW r1 2) (0 : Int32) (i + 1) := fun c => (btW_y c).symm
    have b0 : ¬ gI r1 54 i = 2 → itr (btW r1 2) (0 : Int32) i ||| 0 = itr (btW r1 2) (0 : Int32) (i + 1) := fun c => by rw [btW_n c, Int32.or_zero]
    refine wp_grd i1 (wp_v (wp_v (wp_if (fun c1 => wp_v (wp_v (wp_if (fun c2 => wp_v (wp_grd i2 (wp_v (leaf _ _ (a1 ?_) (b1 ?_) _ rfl)))) fun c2 => wp_v (wp_grd i2 (wp_v (leaf _ _ (a1 ?_) (b0 ?_) _ rfl)))))) fun c1 => wp_v (wp_v (wp_if (fun c2 => wp_v (wp_grd i2 (wp_v (leaf _ _ (a0 ?_) (b1 ?_) _ rfl)))) fun c2 => wp_v (wp_grd i2 (wp_v (leaf _ _ (a0 ?_) (b0 ?_) _ rfl))))))))
    · rw [gI_nk (by omega), y4] at c1; exact c1
    · rw [gI_nk (by omega), gI_nk (by omega), y4] at c2; exact c2
    · rw [gI_nk (by omega), y4] at c1; exact c1
    · rw [gI_nk (by omega), gI_nk (by omega), y4] at c2; exact c2
    · rw [gI_nk (by omega), y4] at c1; exact c1
    · rw [gI_nk (by omega), gI_nk (by omega), y4] at c2; exact c2
    · rw [gI_nk (by omega), y4] at c1; exact c1
    · rw [gI_nk (by omega), gI_nk (by omega), y4] at c2; exact c2
  · rintro _ t rec ⟨rfl, g1, g2, g3, g4, g5⟩
    rw [quest8 (hHd.fr (fun k hk => g2.1 73 k (by omega)) fun k => g2.1 75 k (by omega)), bnd1_some, if_pos (nI_le (Nat.le_refl _) (by omega))]
    exact wp_some ⟨rfl, g1, g2.1, g3, g4, g5⟩
end LAY8
