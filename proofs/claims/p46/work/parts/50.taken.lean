/-! 50: a form taken stands on the scan. -/
def Sc (σ : SS) : Prop := ((sO σ = 3 ∨ sO σ = 6) ∧ gR σ 1 3 = 9 - sO σ) ∧ ((fO σ = 10 ∨ fO σ = 18) ∧ gR σ 1 6 = 28 - fO σ) ∧ (8 ≤ wO σ ∧ wO σ ≤ 40) ∧ (8 ≤ hO σ ∧ hO σ ≤ 40) ∧ gI σ (sO σ) 0 = nI (wO σ) ∧ gI σ (sO σ) 1 = nI (hO σ) ∧ (∀ k, k < wO σ * hO σ → inR (gI σ (sO σ + 1) k) 0 9) ∧ Stg σ
section TAKEN
variable {σ r : SS} {d : Nat → Nat → Nat} {Q : Nat}
theorem Sd.sc (h : Sd σ) (hS : Stg σ) : Sc σ := by
  obtain ⟨⟨a1, a2, a3, a4, a5, a6, a7, a8, -⟩, -, c, -⟩ := h
  refine ⟨⟨a1, c.1⟩, ⟨a2, c.2⟩, a3, a4, a6, a7, fun k hk => ?_, hS⟩
  rw [(a8 k hk).1]; exact (a8 k hk).2
theorem Vd.apart (hV : Vd d Q) {k k' x y : Nat} (hk : k < psum (d 1) Q) (hk' : k' < psum (d 1) Q) (h1 : inBx (d 0 2) (d 0 3) (d 2) (d 3) k x y) (h2 : inBx (d 0 2) (d 0 3) (d 2) (d 3) k' x y) : k = k' := by
  have v8 := hV.2.2.2.2.2.2.2
  unfold inBx at h1 h2
  rcases Nat.lt_trichotomy k k' with c | c | c
  · exact absurd (show cv (d 2) (d 3) (d 0 2) (d 0 3) (d 2 k') (d 3 k') k from ⟨⟨by omega, by omega⟩, by omega, by omega⟩) (v8 k' k c hk')
  · exact c
  · exact absurd (show cv (d 2) (d 3) (d 0 2) (d 0 3) (d 2 k) (d 3 k) k' from ⟨⟨by omega, by omega⟩, by omega, by omega⟩) (v8 k k' c hk)
theorem Tk.sd (hσ : Sc σ) (hT : Tk (28 - fO σ) (fO σ) Q d σ r) (hV : Vd d Q) : Sd r ∧ (uO r = d 0 0 ∧ vO r = d 0 1 ∧ aO r = d 0 2 ∧ bO r = d 0 3 ∧ qO r = Q ∧ fO r = 28 - fO σ) ∧ (∀ p, p < Q → nO r p = d 1 p) ∧ Bxs r ∧ Stg r := by
  obtain ⟨⟨s1, s2⟩, ⟨s3, s4⟩, s5, s6, s7, s8, s9, s10⟩ := hσ
  obtain ⟨⟨t1, t2, t3⟩, t4, t5, t6, t7, t8, ⟨ta, tb, tc, td⟩, te, tf, tg, th⟩ := hT
  have hps := hV.ps
  have hbd := fun k hk => hV.bd (k := k) hk
  obtain ⟨v1, v2, v3, v4, v5, v6, v7, v8⟩ := id hV
  have e1 : sO r = sO σ := t3 1 2 (by omega)
  have ef : fO r = 28 - fO σ := t1
  generalize eg : 28 - fO σ = g at *
  have low : ∀ c k, 3 ≤ c → c ≤ 8 → gI r c k = gI σ c k := fun c k c1 c2 => t4 c k (by omega) (by omega) (by omega) (by omega) (by omega) (by omega)
  have l32 : ∀ k, gI r 32 k = gI σ 32 k := fun k => t4 32 k (by omega) (by omega) (by omega) (by omega) (by omega) (by omega)
  have ew : wO r = wO σ := by unfold wO; rw [e1, low _ _ (by omega) (by omega)]
  have eh : hO r = hO σ := by unfold hO; rw [e1, low _ _ (by omega) (by omega)]
  have eu : uO r = d 0 0 := by unfold uO; rw [ef, ta, tn_nI (by omega)]
  have ev : vO r = d 0 1 := by unfold vO; rw [ef, tb, tn_nI (by omega)]
  have ea : aO r = d 0 2 := by unfold aO; rw [ef, tc, tn_nI (by omega)]
  have eb : bO r = d 0 3 := by unfold bO; rw [ef, td, tn_nI (by omega)]
  have eq : qO r = Q := by unfold qO; rw [ef, te, tn_nI (by omega)]
  have en : ∀ p, p < Q → nO r p = d 1 p := fun p hp => by
    have := (v6 p hp).1
    unfold nO; rw [ef, (tg p hp).2.2.1, tn_nI (by omega)]
  have ep : psum (nO r) Q = psum (d 1) Q := psum_c Q fun p hp => en p hp
  have epp : ∀ p, p ≤ Q → psum (nO r) p = psum (d 1) p := fun p hp => psum_c p fun p' hp' => en p' (by omega)
  have ex : ∀ k, k < psum (d 1) Q → xO r k = d 2 k ∧ yO r k = d 3 k := fun k hk => by
    have := hbd k hk
    unfold xO yO
    rw [ef, (th k hk).1, (th k hk).2, tn_nI (by omega), tn_nI (by omega)]
    exact ⟨rfl, rfl⟩
  have hSt : Stg r := fun k hk => by
    obtain ⟨n, h1, h2⟩ := s10 k hk
    exact ⟨n, h1, (l32 k).trans h2⟩
  obtain ⟨sp, hsp, esp⟩ := hSt 1 (by decide)
  obtain ⟨m, hm, em⟩ := hSt 3 (by decide)
  have hsp' : 1 ≤ sp ∧ sp ≤ 20 := hsp
  have hm' : 1 ≤ m ∧ m ≤ 200 := hm
  have ek : kO r = sp := by unfold kO; rw [esp, tn_nI (by omega)]
  have har := area_le s5.2 s6.2
  refine ⟨⟨?_, ?_, ⟨by rw [e1, t3 1 3 (by omega)]; exact s2, by rw [ef, t2]; omega⟩, by rw [ef]; exact t8, m, hm', em⟩, ⟨eu, ev, ea, eb, eq, ef⟩, en, ⟨fun k hk => ?_, fun k k' x y hk hk' h1 h2 => ?_⟩, hSt⟩
  · unfold Cd C7
    rw [e1, ef, ew, eh, ek, eu, ev, ea, eb, eq, ep]
    refine ⟨s1, by omega, s5, s6, hsp', by rw [low _ _ (by omega) (by omega)]; exact s7, by rw [low _ _ (by omega) (by omega)]; exact s8, fun k hk => ?_, rfl, esp, rfl, v1, v2, v3, v4, by omega, ta, tb, tc, td, tf, fun k hk => ?_⟩
    · unfold pO
      rw [ew, eh, if_pos hk, e1]
      refine ⟨rfl, ?_⟩
      rw [low _ _ (by omega) (by omega)]; exact s9 k hk
    · have hv := v7 k hk
      rw [(ex k hk).1, (ex k hk).2]
      exact ⟨⟨(th k hk).1, by omega⟩, (th k hk).2, by omega⟩
  · rw [ef, eq]
    refine ⟨by omega, te, by rw [ep]; omega, fun p hp => ?_⟩
    have := (v6 p hp).1
    rw [en p hp, epp p (by omega)]
    exact ⟨⟨by omega, by omega⟩, (tg p hp).2.1, (tg p hp).2.2.1⟩
  · rw [eq, ep] at hk
    rw [(ex k hk).1, (ex k hk).2, ea, eb, eu, ev]
    exact v7 k hk
  · rw [eq, ep] at hk hk'
    rw [ea, eb] at h1 h2
    unfold inBx at h1 h2
    rw [(ex k hk).1, (ex k hk).2] at h1
    rw [(ex k' hk').1, (ex k' hk').2] at h2
    exact hV.apart hk hk' h1 h2
end TAKEN
