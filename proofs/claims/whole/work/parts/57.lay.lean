/-! Lay kept: one sheet more on the pile. -/
theorem pN_ge {D : Nat → Nat} : ∀ T k, k < T → pN D T ≤ D k
  | 0, k, h => absurd h (by omega)
  | T + 1, k, h => by
    show (if T = 0 then D 0 else min (pN D T) (D T)) ≤ D k
    by_cases c : T = 0
    · rw [if_pos c, show k = 0 by omega]; exact Nat.le_refl _
    · rw [if_neg c]
      by_cases c2 : k = T
      · rw [c2]; omega
      · have := pN_ge (D := D) T k (by omega)
        omega
/-- both sides' reading of all questions, the reference's behind any state that keeps what it reads -/
theorem RAll.readR {s f : Nat} {σ : SS} (h : RAll s f σ) (ht : gI σ f 0 = 1) : ∃ (w q spk b U V A B Q : Nat) (N cx cy D : Nat → Nat) (P : Nat) (m : Prop), C8 w q spk (gI σ 88 0) (gI σ 88 2) (gI σ 83) b U V A B Q N cx cy σ ∧ gI σ f 5 = nI Q ∧ gI σ 73 12 = 1 ∧ psum N Q ≤ 72 ∧ (∀ k, D k ≤ 324 ∧ (k < psum N Q → P ≤ D k)) ∧
    (∃ mb r1, fX3_read σ s f = some (mb, r1) ∧ (mb = true ↔ m) ∧ gR r1 = gR σ ∧ Kj σ r1 ∧ (∀ c k, 73 ≤ c → gI r1 c k = gI σ c k) ∧ (m → (∀ k, k < psum N Q → gI r1 51 k = nI (D k)) ∧ Jd b Q N D P σ r1)) ∧
    ∀ σ' r1, C8 w q spk (gI σ 88 0) (gI σ 88 2) (gI σ 83) b U V A B Q N cx cy σ' → Kj σ' r1 → WP (fX8_finds r1) (fun r => (r.1 = true ↔ m) ∧ gR r.2 = gR r1 ∧ Kj σ' r.2 ∧ (∀ c k, c < 73 → gI r.2 c k = gI r1 c k) ∧ (m → G8 Q N D P σ' r.2)) := by
  obtain ⟨w, q, spk, b, U, V, A, B, Q, N, cx, cy, h7, h8, e5, e12, hF⟩ := h.ctx ht
  have h5 := h.2.2.2.2.1
  have hT : psum N Q ≤ 72 := h7.2.2.2.2.2.2.2.2.2.2.2.2.2.2.2.1
  obtain ⟨hw, hq, hspk, e3, e4, hpc, el, es, em, hU, hV, hA, hB, hQ, hH, hN⟩ := id h8
  have hF7 : F7 f Q N σ := ⟨hQ, e5, hT, fun p hp => ⟨(hN p hp).1, (hF p hp).1, (hF p hp).2.1⟩⟩
  obtain ⟨⟨mb, r1⟩, x1, m1, m2, m3, m4⟩ := read7 h7 hF7
  dsimp only at m1 m2 m3 m4
  refine ⟨w, q, spk, b, U, V, A, B, Q, N, cx, cy, dkD w q spk (gI σ 88 0) (gI σ 88 2) (gI σ 83) U V A B cx cy, _, frU (mkB w q spk (gI σ 88 2) (inkP (gI σ 88 0) (gI σ 83))) 4, h8, e5, e12, hT, fun k => ⟨dkD_le (fun k hk => (hpc k hk).2) hA.2 hB.2 k, pN_ge _ k⟩, ⟨mb, r1, x1, m1, m2, fun c k hc => m3 c k (by omega) (by omega), fun c k hc => m3 c k (by omega) (by omega), fun hm => ⟨(m4 hm).1, fun p hp => ?_⟩⟩, fun σ' r1 h8' hK => finds8g h8' hK⟩
  obtain ⟨j1, j2⟩ := (m4 hm).2 p hp
  obtain ⟨-, -, ⟨g4, -⟩, ⟨g5, -⟩, g1⟩ := hF p hp
  rw [(h5 3 (by omega)).1, (h5 4 (by omega)).1, (h5 5 (by omega)).1] at j1
  rw [(h5 6 (by omega)).1, g4, g5] at j2
  have ep : (gI σ (f + 1) p = 0) = (gI σ 76 (12 * b + p) = 1) := by
    rcases g1 with ⟨a1, a2⟩ | ⟨a1, a2⟩
    · rw [a1, a2]; exact propext ⟨fun _ => rfl, fun _ => rfl⟩
    · rw [a1, a2]; exact propext ⟨fun h => absurd h (by decide), fun h => absurd h (by decide)⟩
  rw [ep] at j1
  exact ⟨j1, j2⟩
/-- the bits of the questions in one state -/
def btW (r : SS) (j p : Nat) (v : Int32) : Int32 := if gI r 54 p = nI j then v ||| ((1 : Int32) <<< (nI p &&& 31)) else v
theorem btW_y {r : SS} {j p : Nat} (h : gI r 54 p = nI j) : itr (btW r j) (0 : Int32) (p + 1) = itr (btW r j) (0 : Int32) p ||| ((1 : Int32) <<< (nI p &&& 31)) := by
  show btW r j p (itr (btW r j) 0 p) = _
  generalize itr (btW r j) (0 : Int32) p = v
  exact if_pos h
theorem btW_n {r : SS} {j p : Nat} (h : ¬ gI r 54 p = nI j) : itr (btW r j) (0 : Int32) (p + 1) = itr (btW r j) (0 : Int32) p := by
  show btW r j p (itr (btW r j) 0 p) = _
  generalize itr (btW r j) (0 : Int32) p = v
  exact if_neg h
/-- row S of a pile at x .. x+3, filled for i questions; the rows before as in s0 -/
def LR (r s0 s : SS) (x S i : Nat) (g : Int32) : Prop := gI s x S = g ∧ (∀ k, k ≠ S → gI s x k = gI s0 x k) ∧ gI s (x + 1) S = itr (btW r 1) 0 i ∧ (∀ k, k ≠ S → gI s (x + 1) k = gI s0 (x + 1) k) ∧ gI s (x + 2) S = itr (btW r 2) 0 i ∧ (∀ k, k ≠ S → gI s (x + 2) k = gI s0 (x + 2) k) ∧ (∀ q, q < i → gI s (x + 3) (12 * S + q) = gI r 53 q) ∧ ∀ k, k < 12 * S → gI s (x + 3) k = gI s0 (x + 3) k
section ADD7
variable {r s : SS} {f Q S : Nat}
theorem LR.put {s0 s' : SS} {x i : Nat} {g g' : Int32} (h : LR r s0 s x S i g)
    (h0 : gI s' x S = g' ∧ ∀ k, k ≠ S → gI s' x k = gI s x k)
    (h1 : gI s' (x + 1) S = itr (btW r 1) 0 (i + 1) ∧ ∀ k, k ≠ S → gI s' (x + 1) k = gI s (x + 1) k)
    (h2 : gI s' (x + 2) S = itr (btW r 2) 0 (i + 1) ∧ ∀ k, k ≠ S → gI s' (x + 2) k = gI s (x + 2) k)
    (h3 : gI s' (x + 3) (12 * S + i) = gI r 53 i ∧ ∀ k, k ≠ 12 * S + i → gI s' (x + 3) k = gI s (x + 3) k) : LR r s0 s' x S (i + 1) g' := by
  obtain ⟨a0, b0, a1, b1, a2, b2, a3, b3⟩ := h
  refine ⟨h0.1, fun k hk => (h0.2 k hk).trans (b0 k hk), h1.1, fun k hk => (h1.2 k hk).trans (b1 k hk), h2.1, fun k hk => (h2.2 k hk).trans (b2 k hk), fun q hq => ?_, fun k hk => (h3.2 k (by omega)).trans (b3 k hk)⟩
  by_cases c : q = i
  · rw [c]; exact h3.1
  · rw [h3.2 _ (by omega)]; exact a3 q (by omega)
theorem add7 (hQ : Q ≤ 12) (hS : S < 16) (hf : f = 10 ∨ f = 18) (e5 : gI r f 5 = nI Q) (e58 : gI r 58 0 = nI S) : WP (fX4_add r f) (fun w => w.1 = nI S ∧ gR w.2 = gR r ∧ (∀ c k, ¬ (58 ≤ c ∧ c ≤ 62) → gI w.2 c k = gI r c k) ∧ gI w.2 58 0 = nI (S + 1) ∧ LR r r w.2 59 S Q (itr (shW r 0) 0 Q)) := by
  have eg : fX3_allGains (sI r 58 0 (nI S + 1)) f = some (itr (shW r 0) 0 Q) := by
    rw [gains7 hQ (by rw [gI_ne (by omega)]; exact e5)]
    refine congrArg some (itr_congr fun i hi v => ?_)
    unfold shW
    rw [if_pos rfl, if_pos rfl, gI_ne (by decide)]
  unfold fX4_add
  rw [e58]
  refine wp_v (wp_v ?_)
  rw [bnd1_of _ eg]
  refine wp_grd (inb_nI (by omega) (by decide)) (wp_v (wp_v (wp_v ?_)))
  rw [nI_clamp (by omega)]
  unfold X4_add_L43
  refine wf_2 Q (fun i v t => v = nI i ∧ gR t = gR r ∧ (∀ c k, ¬ (58 ≤ c ∧ c ≤ 62) → gI t c k = gI r c k) ∧ gI t 58 0 = nI (S + 1) ∧ LR r r t 59 S i (itr (shW r 0) 0 Q)) ⟨rfl, rfl, fun c k hc => ?_, ?_, ?_⟩ (by omega) ?_ ?_
  · rw [gI_nk (by omega), gI_nk (by omega), gI_nk (by omega), gI_nk (by omega)]
  · rw [gI_nk (by omega), gI_nk (by omega), gI_nk (by omega), gI_sI, if_pos ⟨rfl, rfl⟩, nI_1]
  · refine ⟨?_, fun k hk => ?_, ?_, fun k hk => ?_, ?_, fun k hk => ?_, fun q hq => absurd hq (by omega), fun k hk => ?_⟩
    · rw [gI_nk (by omega), gI_nk (by omega), gI_sI, if_pos ⟨rfl, rfl⟩]
    · rw [gI_nk (by omega), gI_nk (by omega), gI_nk (by omega), gI_nk (by omega)]
    · rw [gI_nk (by omega), gI_sI, if_pos ⟨rfl, rfl⟩]; rfl
    · rw [gI_nk (by omega), gI_nk (by omega), gI_nk (by omega), gI_nk (by omega)]
    · rw [gI_sI, if_pos ⟨rfl, rfl⟩]; rfl
    · rw [gI_nk (by omega), gI_nk (by omega), gI_nk (by omega), gI_nk (by omega)]
    · rw [gI_nk (by omega), gI_nk (by omega), gI_nk (by omega), gI_nk (by omega)]
  · rintro i _ t rec hi ⟨rfl, g1, g2, g3, g4⟩ hr
    rw [g2 f 5 (by omega), e5, if_neg (nI_ge hi (by omega))]
    have ek : nI S * (12 : Int32) + nI i = nI (12 * S + i) := by rw [show (12 : Int32) = nI 12 from rfl, nI_mul, nI_add, Nat.mul_comm]
    rw [ek, nI_clamp (by omega), nI_clamp (by omega), nI_clamp (by omega), nI_1, g2 53 _ (by omega)]
    refine wp_grd (inb_nI (by omega) (by decide)) (wp_grd (inb_nI (by omega) (by decide)) (wp_v ?_))
    have e54 : gI (sI t 62 (12 * S + i) (gI r 53 i)) 54 i = gI r 54 i := by rw [gI_nk (by omega), g2 54 _ (by omega)]
    rw [e54]
    refine wp_if (fun c1 => wp_grd (inb_nI (by omega) (by decide)) (wp_v (hr _ _ ⟨rfl, g1, fun c k hc => ?_, ?_, ?_⟩))) fun c1 => wp_if (fun c2 => wp_grd (inb_nI (by omega) (by decide)) (wp_v (hr _ _ ⟨rfl, g1, fun c k hc => ?_, ?_, ?_⟩))) fun c2 => hr _ _ ⟨rfl, g1, fun c k hc => ?_, ?_, ?_⟩
    · rw [gI_nk (by omega), gI_nk (by omega)]; exact g2 c k hc
    · rw [gI_nk (by omega), gI_nk (by omega)]; exact g3
    · have c2 : ¬ gI r 54 i = nI 2 := by rw [c1]; decide
      refine g4.put ⟨?_, fun k hk => ?_⟩ ⟨?_, fun k hk => ?_⟩ ⟨?_, fun k hk => ?_⟩ ⟨?_, fun k hk => ?_⟩
      · rw [gI_nk (by omega), gI_nk (by omega)]; exact g4.1
      · rw [gI_nk (by omega), gI_nk (by omega)]
      · rw [gI_sI, if_pos ⟨rfl, rfl⟩, gI_nk (by omega), g4.2.2.1, btW_y c1]
      · rw [gI_nk (by omega), gI_nk (by omega)]
      · rw [gI_nk (by omega), gI_nk (by omega), btW_n c2]; exact g4.2.2.2.2.1
      · rw [gI_nk (by omega), gI_nk (by omega)]
      · rw [gI_nk (by omega), gI_sI, if_pos ⟨rfl, rfl⟩]
      · rw [gI_nk (by omega), gI_nk (by omega)]
    · rw [gI_nk (by omega), gI_nk (by omega)]; exact g2 c k hc
    · rw [gI_nk (by omega), gI_nk (by omega)]; exact g3
    · refine g4.put ⟨?_, fun k hk => ?_⟩ ⟨?_, fun k hk => ?_⟩ ⟨?_, fun k hk => ?_⟩ ⟨?_, fun k hk => ?_⟩
      · rw [gI_nk (by omega), gI_nk (by omega)]; exact g4.1
      · rw [gI_nk (by omega), gI_nk (by omega)]
      · rw [gI_nk (by omega), gI_nk (by omega), btW_n c1]; exact g4.2.2.1
      · rw [gI_nk (by omega), gI_nk (by omega)]
      · rw [gI_sI, if_pos ⟨rfl, rfl⟩, gI_nk (by omega), g4.2.2.2.2.1, btW_y c2]
      · rw [gI_nk (by omega), gI_nk (by omega)]
      · rw [gI_nk (by omega), gI_sI, if_pos ⟨rfl, rfl⟩]
      · rw [gI_nk (by omega), gI_nk (by omega)]
    · rw [gI_nk (by omega)]; exact g2 c k hc
    · rw [gI_nk (by omega)]; exact g3
    · refine g4.put ⟨?_, fun k hk => ?_⟩ ⟨?_, fun k hk => ?_⟩ ⟨?_, fun k hk => ?_⟩ ⟨?_, fun k hk => ?_⟩
      · rw [gI_nk (by omega)]; exact g4.1
      · rw [gI_nk (by omega)]
      · rw [gI_nk (by omega), btW_n c1]; exact g4.2.2.1
      · rw [gI_nk (by omega)]
      · rw [gI_nk (by omega), btW_n c2]; exact g4.2.2.2.2.1
      · rw [gI_nk (by omega)]
      · rw [gI_sI, if_pos ⟨rfl, rfl⟩]
      · rw [gI_nk (by omega)]
  · rintro _ t rec ⟨rfl, g1, g2, g3, g4⟩
    rw [g2 f 5 (by omega), e5, if_pos (nI_le (Nat.le_refl _) (by omega))]
    exact wp_some ⟨rfl, g1, g2, g3, g4⟩
end ADD7
