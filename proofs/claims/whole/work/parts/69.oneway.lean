/-! Shape kept. -/
def cyc (k : Nat) : Nat := if k = 2 then 3 else if k = 3 then 2 else k
theorem cyc_r : ∀ k, k < 4 → cyc k < 4 ∧ irm (nI k + 1) 4 = nI ((k + 1) % 4) ∧ irm (nI k + 2) 4 = nI ((k + 2) % 4) ∧ irm (nI k + 3) 4 = nI ((k + 3) % 4) ∧ roV 1003 (nI k).toNatClampNeg = nI (cyc k) := by decide +kernel
theorem sg_r (n : Int) : sg n = 0 ∨ sg n = 1 ∨ sg n = -1 := by
  unfold sg
  by_cases c : n ≤ 0
  · rw [if_pos c]
    by_cases c2 : 0 ≤ n
    · rw [if_pos c2]; exact Or.inl rfl
    · rw [if_neg c2]; exact Or.inr (Or.inr rfl)
  · rw [if_neg c]; exact Or.inr (Or.inl rfl)
def pcS (s : Nat → Int32) : Nat → Int32 := itr (fun k n => if s k = 1 then n + 1 else n) 0
def ncS (s : Nat → Int32) : Nat → Int32 := itr (fun k n => if s k = -1 then n + 1 else n) 0
theorem ow4 (a b c d : Int32) (ha : a = 0 ∨ a = 1 ∨ a = -1) (hb : b = 0 ∨ b = 1 ∨ b = -1) (hc : c = 0 ∨ c = 1 ∨ c = -1) (hd : d = 0 ∨ d = 1 ∨ d = -1) : ((if d = 1 then (if c = 1 then (if b = 1 then (if a = 1 then (0 : Int32) + 1 else 0) + 1 else (if a = 1 then (0 : Int32) + 1 else 0)) + 1 else (if b = 1 then (if a = 1 then (0 : Int32) + 1 else 0) + 1 else (if a = 1 then (0 : Int32) + 1 else 0))) + 1 else (if c = 1 then (if b = 1 then (if a = 1 then (0 : Int32) + 1 else 0) + 1 else (if a = 1 then (0 : Int32) + 1 else 0)) + 1 else (if b = 1 then (if a = 1 then (0 : Int32) + 1 else 0) + 1 else (if a = 1 then (0 : Int32) + 1 else 0)))) = 4 ↔ (a = 1 ∧ b = 1 ∧ c = 1 ∧ d = 1)) := by
  rcases ha with rfl | rfl | rfl <;> rcases hb with rfl | rfl | rfl <;> rcases hc with rfl | rfl | rfl <;> rcases hd with rfl | rfl | rfl <;> decide
theorem ow5 (a b c d : Int32) (ha : a = 0 ∨ a = 1 ∨ a = -1) (hb : b = 0 ∨ b = 1 ∨ b = -1) (hc : c = 0 ∨ c = 1 ∨ c = -1) (hd : d = 0 ∨ d = 1 ∨ d = -1) : ((if d = -1 then (if c = -1 then (if b = -1 then (if a = -1 then (0 : Int32) + 1 else 0) + 1 else (if a = -1 then (0 : Int32) + 1 else 0)) + 1 else (if b = -1 then (if a = -1 then (0 : Int32) + 1 else 0) + 1 else (if a = -1 then (0 : Int32) + 1 else 0))) + 1 else (if c = -1 then (if b = -1 then (if a = -1 then (0 : Int32) + 1 else 0) + 1 else (if a = -1 then (0 : Int32) + 1 else 0)) + 1 else (if b = -1 then (if a = -1 then (0 : Int32) + 1 else 0) + 1 else (if a = -1 then (0 : Int32) + 1 else 0)))) = 4 ↔ (a = -1 ∧ b = -1 ∧ c = -1 ∧ d = -1)) := by
  rcases ha with rfl | rfl | rfl <;> rcases hb with rfl | rfl | rfl <;> rcases hc with rfl | rfl | rfl <;> rcases hd with rfl | rfl | rfl <;> decide
theorem ow {s : Nat → Int32} (h : ∀ k, s k = 0 ∨ s k = 1 ∨ s k = -1) : (pcS s 4 = 4 ∨ ncS s 4 = 4) ↔ (¬ s 0 = 0 ∧ s 1 = s 0 ∧ s 2 = s 0 ∧ s 3 = s 0) := by
  have h1 : pcS s 4 = 4 ↔ (s 0 = 1 ∧ s 1 = 1 ∧ s 2 = 1 ∧ s 3 = 1) := ow4 (s 0) (s 1) (s 2) (s 3) (h 0) (h 1) (h 2) (h 3)
  have h2 : ncS s 4 = 4 ↔ (s 0 = -1 ∧ s 1 = -1 ∧ s 2 = -1 ∧ s 3 = -1) := ow5 (s 0) (s 1) (s 2) (s 3) (h 0) (h 1) (h 2) (h 3)
  rw [h1, h2]
  constructor
  · rintro (⟨a, b, c, d⟩ | ⟨a, b, c, d⟩)
    · rw [a, b, c, d]; decide
    · rw [a, b, c, d]; decide
  · rintro ⟨a, b, c, d⟩
    rcases h 0 with e | e | e
    · exact absurd e a
    · exact Or.inl ⟨e, b.trans e, c.trans e, d.trans e⟩
    · exact Or.inr ⟨e, b.trans e, c.trans e, d.trans e⟩
section SHAPE7
variable {X Y S : Nat → Nat} {r : SS}
def sgs (X Y S : Nat → Nat) (k : Nat) : Int32 := sg (sdI X Y S (cyc k) (cyc ((k + 1) % 4)) (cyc ((k + 2) % 4)))
theorem oneway7 (h : ∀ k, k < 4 → gL r 46 k = lN (X k) ∧ gL r 47 k = lN (Y k) ∧ gL r 48 k = lN (S k)) (hX : ∀ k, k < 4 → X k ≤ 64000 ∧ Y k ≤ 64000) (hS : ∀ k, k < 4 → 1 ≤ S k ∧ S k ≤ 1600) : ∃ bb, fX5_turnsOneWay r = some bb ∧ (bb = true ↔ (¬ sgs X Y S 0 = 0 ∧ sgs X Y S 1 = sgs X Y S 0 ∧ sgs X Y S 2 = sgs X Y S 0 ∧ sgs X Y S 3 = sgs X Y S 0)) := by
  have key : fX5_turnsOneWay r = (if pcS (sgs X Y S) 4 = 4 then some true else if ncS (sgs X Y S) 4 = 4 then some true else some false) := by
    unfold fX5_turnsOneWay X5_turnsOneWay_L6
    refine lp_3 (fun i => pcS (sgs X Y S) i) (fun i => ncS (sgs X Y S) i) (fun i => nI i) 4 _ (fun k hk rec => ?_) (fun rec => ?_) fuel (fuel_gt (by omega))
    · obtain ⟨c1, c2, c3, c4, c5⟩ := cyc_r k hk
      obtain ⟨d1, -, -, -, d5⟩ := cyc_r ((k + 1) % 4) (by omega)
      obtain ⟨e1, -, -, -, e5⟩ := cyc_r ((k + 2) % 4) (by omega)
      have hI := sdI_b hX hS c1 d1 e1
      obtain ⟨q1, q2⟩ := cmp0 (n := sdI X Y S (cyc k) (cyc ((k + 1) % 4)) (cyc ((k + 2) % 4))) (by omega)
      rw [if_neg (by show ¬ nI 4 ≤ nI k; exact nI_ge hk (by omega)), c2, c3, grd_eq _ (inb_nI (by omega) (by decide)), grd_eq _ (inb_nI (by omega) (by decide)), grd_eq _ (inb_nI (by omega) (by decide)), c5, d5, e5, side7 h c1 d1 e1, bnd1_some, nI_1]
      have ep : pcS (sgs X Y S) (k + 1) = if sgs X Y S k = 1 then pcS (sgs X Y S) k + 1 else pcS (sgs X Y S) k := rfl
      have en : ncS (sgs X Y S) (k + 1) = if sgs X Y S k = -1 then ncS (sgs X Y S) k + 1 else ncS (sgs X Y S) k := rfl
      have es : sgs X Y S k = sg (sdI X Y S (cyc k) (cyc ((k + 1) % 4)) (cyc ((k + 2) % 4))) := rfl
      rw [ep, en, es]
      generalize sdI X Y S (cyc k) (cyc ((k + 1) % 4)) (cyc ((k + 2) % 4)) = I at *
      unfold sg
      by_cases z1 : I ≤ 0
      · rw [if_pos (q1.mpr z1), if_pos z1]
        by_cases z2 : 0 ≤ I
        · rw [if_pos (q2.mpr z2), if_pos z2, if_neg (by decide), if_neg (by decide)]
        · rw [if_neg (fun q => z2 (q2.mp q)), if_neg z2, if_neg (by decide), if_pos rfl]
      · rw [if_neg (fun q => z1 (q1.mp q)), if_neg z1, if_pos rfl, if_neg (by decide)]
    · rw [if_pos (by decide)]
      simp only [vthen_q]
  rw [key]
  have o := ow (s := sgs X Y S) fun k => sg_r _
  by_cases p1 : pcS (sgs X Y S) 4 = 4
  · rw [if_pos p1]; exact ⟨true, rfl, ⟨fun _ => o.mp (Or.inl p1), fun _ => rfl⟩⟩
  · rw [if_neg p1]
    by_cases p2 : ncS (sgs X Y S) 4 = 4
    · rw [if_pos p2]; exact ⟨true, rfl, ⟨fun _ => o.mp (Or.inr p2), fun _ => rfl⟩⟩
    · rw [if_neg p2]; exact ⟨false, rfl, ⟨fun q => absurd q (by decide), fun q => absurd (o.mpr q) fun z => z.elim p1 p2⟩⟩
end SHAPE7
