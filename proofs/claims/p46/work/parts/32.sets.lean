/-! 32: the law's reads: the settings and the corners told. -/
section SETS
theorem nx_at {n k : Nat} (hn : n < 2 ^ 31) (hk : 1 ≤ k ∧ k < 2 ^ 31) : (1 : Int32) + irm (nI n) (nI k) = nI (1 + n % k) := by
  rw [rem_nI hn (by omega) hk.2, show (1 : Int32) = nI 1 from rfl, nI_add]
theorem cloop_s {U V : Nat} {τ : SS} {k223 : Int32 → SS → Option (Bool × SS)} {Q : Bool × SS → Prop} (hU : U ≤ 33) (hV : V ≤ 33) (hk : ∀ τ', gR τ' = gR τ → (∀ c k, c ≠ 28 → c ≠ 29 → gI τ' c k = gI τ c k) → (∀ k, k < 4 → gI τ' 28 k = nI (cX U k) ∧ gI τ' 29 k = nI (cY V k)) → WP (k223 1 τ') Q) : WP (L_reads_L162 (nI U) (nI V) k223 fuel (1 : Int32) (0 : Int32) τ) Q := by
  unfold L_reads_L162
  refine wf_3 4 (fun i a b t => a = (1 : Int32) ∧ b = nI i ∧ gR t = gR τ ∧ (∀ c k, c ≠ 28 → c ≠ 29 → gI t c k = gI τ c k) ∧ ∀ k, k < i → gI t 28 k = nI (cX U k) ∧ gI t 29 k = nI (cY V k)) ⟨rfl, rfl, rfl, fun _ _ _ _ => rfl, fun k hk => absurd hk (Nat.not_lt_zero _)⟩ (by decide) (fun i a b t rec hi hI ih => ?_) (fun a b t rec hI => ?_)
  · obtain ⟨rfl, rfl, h1, h2, h3⟩ := hI
    rw [if_neg (c := (4 : Int32) ≤ nI i) (nI_ge hi (by decide))]
    refine wp_vk1 (fun _ => False) (fun _ q => q.elim) fun j214 _ => ?_
    rw [if_neg (by decide)]
    refine wp_vk1 (fun s => s = nI (cX U i)) (fun s33 e => ?_) (fun j190 hj => ?_)
    · subst e
      refine wp_vk1 (fun s => s = nI (cY V i)) (fun s34 e => ?_) (fun j204 hj => ?_)
      · subst e
        have c1 := cc U V hi
        rw [bnd_of _ (corner_s t hi (by omega) (by omega)), if_pos rfl]
        refine ih _ _ _ ⟨rfl, nI_1 i, h1, fun c k c1 c2 => ?_, fun k hk' => ?_⟩
        · rw [gI_ne c2, gI_ne c1]; exact h2 c k c1 c2
        · by_cases ek : k = i
          · subst ek
            exact ⟨by rw [gI_ne (by decide), gI_eq], gI_eq _ _ _ _⟩
          · obtain ⟨q1, q2⟩ := h3 k (by omega)
            exact ⟨by rw [gI_ne (by decide), gI_nk (by omega)]; exact q1, by rw [gI_nk (by omega), gI_ne (by decide)]; exact q2⟩
      · by_cases c : i < 2
        · rw [if_neg (c := (2 : Int32) ≤ nI i) (nI_ge c (by decide))]
          exact hj _ (show nI 3 = nI (cY V i) by unfold cY; rw [if_pos c])
        · rw [if_pos (c := (2 : Int32) ≤ nI i) (by rw [show (2 : Int32) = nI 2 from rfl, lenN (by omega) (by omega)]; omega)]
          refine hj _ ?_
          rw [show (3 : Int32) = nI 3 from rfl, nI_add]
          unfold cY; rw [if_neg c]
    · have er : irm (nI i) (2 : Int32) = nI (i % 2) := by rw [show (2 : Int32) = nI 2 from rfl]; exact rem_nI (by omega) (by decide) (by decide)
      rw [er]
      by_cases c : i % 2 = 0
      · rw [c, if_pos (show nI 0 = (0 : Int32) from rfl)]
        exact hj _ (show nI 3 = nI (cX U i) by unfold cX; rw [if_pos c])
      · rw [show i % 2 = 1 by omega, if_neg (by decide)]
        refine hj _ ?_
        rw [show (3 : Int32) = nI 3 from rfl, nI_add]
        unfold cX; rw [if_neg c]
  · obtain ⟨rfl, rfl, h1, h2, h3⟩ := hI
    rw [if_pos (by decide)]
    exact hk t h1 h2 h3
/-- what the settings come to -/
def Sts (rr U V l sp m cl rb pe : Nat) (σ τ : SS) : Prop := gR τ = gR σ ∧ Pc (U + 7) (V + 7) (fun _ _ => 0) τ ∧ (∀ c k, ¬ (c = sO σ ∨ c = sO σ + 1) → c ≠ 32 → ¬ (c = rr ∧ k = 0) → gI τ c k = gI σ c k) ∧ ((1 ≤ l ∧ l ≤ 9) ∧ 1 ≤ sp ∧ sp ≤ 3) ∧ gI τ 32 0 = nI l ∧ gI τ 32 1 = nI sp ∧ gI τ 32 2 = nI 9 ∧ gI τ 32 3 = nI m ∧ gI τ 32 4 = nI cl ∧ gI τ 32 5 = nI rb ∧ gI τ 32 6 = nI pe
theorem sets_s {rr : Nat} {σ : SS} {U V m cl rb pe : Nat} {K : Int32 → SS → Option (Bool × SS)} {Q : Bool × SS → Prop} (hU : 14 ≤ U ∧ U ≤ 33) (hV : 14 ≤ V ∧ V ≤ 33) (hS : Stg σ) (hs : sO σ = 3 ∨ sO σ = 6) (hrr : 2000 ≤ rr) (hv : lav σ rr = true) (hl : gR σ rr 0 = 1) (hm : 1 ≤ m ∧ m ≤ 30) (hcl : 1 ≤ cl ∧ cl ≤ 20) (hrb : 1 ≤ rb ∧ rb ≤ 20) (hpe : pe ≤ 4) (hK : ∀ τ l sp, Sts rr U V l sp m cl rb pe σ τ → WP (K 1 τ) Q) :
    WP (bnd (fX7_blank σ (nI U + (7 : Int32)) (nI V + (7 : Int32))) fun b27 σ29 =>
      vthen K fun j157 =>
      vthen (fun (σ197 : SS) => j157 (0 : Int32) σ197) fun j156 =>
      if b27 = true then (
        bnd (fL_next σ29 rr) fun v198 σ201 =>
        bnd (fX7_set σ201 (0 : Int32) ((1 : Int32) + (irm v198 (9 : Int32)))) fun v202 σ205 =>
        if v202 ≤ 0 then j156 σ205 else (
          bnd (fX7_set σ205 (2 : Int32) (9 : Int32)) fun v206 σ209 =>
          if v206 ≤ 0 then j156 σ209 else (
            bnd (fX7_set σ209 (3 : Int32) (nI m)) fun v210 σ213 =>
            if v210 ≤ 0 then j156 σ213 else (
              bnd (fX7_set σ213 (4 : Int32) (nI cl)) fun v214 σ217 =>
              if v214 < 0 then j156 σ217 else (
                bnd (fX7_set σ217 (5 : Int32) (nI rb)) fun v218 σ221 =>
                if v218 < 0 then j156 σ221 else (
                  bnd (fX7_set σ221 (6 : Int32) (nI pe)) fun v222 σ225 =>
                  if v222 < 0 then j156 σ225 else (
                    bnd (fL_next σ225 rr) fun v226 σ229 =>
                    bnd (fX7_set σ229 (1 : Int32) ((1 : Int32) + (irm v226 (3 : Int32)))) fun v230 σ233 =>
                    if v230 ≤ 0 then j156 σ233 else j157 (1 : Int32) σ233))))))) else j156 σ29) Q := by
  rw [show (7 : Int32) = nI 7 from rfl, nI_add, nI_add]
  refine wp_bndp (blank_s σ (W := U + 7) (H := V + 7) (by omega) (by omega)) fun b27 σ29 ⟨eb, r29, P29, f29⟩ => ?_
  have eb : b27 = true := eb
  have r29 : gR σ29 = gR σ := r29
  have P29 : Pc (U + 7) (V + 7) (fun _ _ => 0) σ29 := P29
  have f29 : ∀ c k, ¬ (c = sO σ ∨ c = sO σ + 1) → gI σ29 c k = gI σ c k := f29
  refine wp_v (wp_v ?_)
  rw [if_pos eb]
  refine wp_bndp (next_s (σ := σ29) (c := rr) (by unfold lav at *; rw [r29]; exact hv) (by rw [r29]; exact hl)) fun v198 σ201 ⟨⟨n1, hn1, e1⟩, k201⟩ => ?_
  have e1 : v198 = nI n1 := e1
  have k201 : Kn rr σ29 σ201 := k201
  rw [e1, show (9 : Int32) = nI 9 from rfl, nx_at (by omega) (by omega)]
  have d1 := Nat.mod_lt n1 (show 0 < 9 by decide)
  refine wp_bndp (set_s σ201 (k := 0) (n := 1 + n1 % 9) (by decide) ⟨by show 1 ≤ _; omega, by show _ ≤ 9; omega⟩) fun v202 σ205 ⟨q1, s205⟩ => ?_
  have q1 : v202 = gI σ201 32 0 := q1
  have s205 : Se σ201 0 (1 + n1 % 9) σ205 := s205
  have z201 : ∀ k, gI σ201 32 k = gI σ 32 k := fun k => (k201.2 _ _ (by omega)).trans (f29 _ _ (by omega))
  rw [q1, if_neg (hS.pos (k := 0) (by decide) (z201 0))]
  refine wp_bndp (set_s σ205 (k := 2) (n := 9) (by decide) ⟨by decide, by decide⟩) fun v206 σ209 ⟨q2, s209⟩ => ?_
  have q2 : v206 = gI σ205 32 2 := q2
  have s209 : Se σ205 2 9 σ209 := s209
  rw [q2, if_neg (hS.pos (k := 2) (by decide) ((s205.2.2 _ _ (by omega)).trans (z201 2)))]
  refine wp_bndp (set_s σ209 (k := 3) (n := m) (by decide) ⟨by show 1 ≤ _; omega, by show _ ≤ 200; omega⟩) fun v210 σ213 ⟨q3, s213⟩ => ?_
  have q3 : v210 = gI σ209 32 3 := q3
  have s213 : Se σ209 3 m σ213 := s213
  rw [q3, if_neg (hS.pos (k := 3) (by decide) ((s209.2.2 _ _ (by omega)).trans ((s205.2.2 _ _ (by omega)).trans (z201 3))))]
  refine wp_bndp (set_s σ213 (k := 4) (n := cl) (by decide) ⟨by show 0 ≤ _; omega, by show _ ≤ 200; omega⟩) fun v214 σ217 ⟨q4, s217⟩ => ?_
  have q4 : v214 = gI σ213 32 4 := q4
  have s217 : Se σ213 4 cl σ217 := s217
  rw [q4, if_neg (hS.nn (k := 4) (by decide) ((s213.2.2 _ _ (by omega)).trans ((s209.2.2 _ _ (by omega)).trans ((s205.2.2 _ _ (by omega)).trans (z201 4)))))]
  refine wp_bndp (set_s σ217 (k := 5) (n := rb) (by decide) ⟨by show 0 ≤ _; omega, by show _ ≤ 200; omega⟩) fun v218 σ221 ⟨q5, s221⟩ => ?_
  have q5 : v218 = gI σ217 32 5 := q5
  have s221 : Se σ217 5 rb σ221 := s221
  rw [q5, if_neg (hS.nn (k := 5) (by decide) ((s217.2.2 _ _ (by omega)).trans ((s213.2.2 _ _ (by omega)).trans ((s209.2.2 _ _ (by omega)).trans ((s205.2.2 _ _ (by omega)).trans (z201 5))))))]
  refine wp_bndp (set_s σ221 (k := 6) (n := pe) (by decide) ⟨by show 0 ≤ _; omega, by show _ ≤ 20; omega⟩) fun v222 σ225 ⟨q6, s225⟩ => ?_
  have q6 : v222 = gI σ221 32 6 := q6
  have s225 : Se σ221 6 pe σ225 := s225
  rw [q6, if_neg (hS.nn (k := 6) (by decide) ((s221.2.2 _ _ (by omega)).trans ((s217.2.2 _ _ (by omega)).trans ((s213.2.2 _ _ (by omega)).trans ((s209.2.2 _ _ (by omega)).trans ((s205.2.2 _ _ (by omega)).trans (z201 6)))))))]
  have r225 : gR σ225 = gR σ := by rw [s225.1, s221.1, s217.1, s213.1, s209.1, s205.1, k201.1, r29]
  refine wp_bndp (next_s (σ := σ225) (c := rr) (by unfold lav at *; rw [r225]; exact hv) (by rw [r225]; exact hl)) fun v226 σ229 ⟨⟨n2, hn2, e2⟩, k229⟩ => ?_
  have e2 : v226 = nI n2 := e2
  have k229 : Kn rr σ225 σ229 := k229
  rw [e2, show (3 : Int32) = nI 3 from rfl, nx_at (by omega) (by omega)]
  have d2 := Nat.mod_lt n2 (show 0 < 3 by decide)
  refine wp_bndp (set_s σ229 (k := 1) (n := 1 + n2 % 3) (by decide) ⟨by show 1 ≤ _; omega, by show _ ≤ 20; omega⟩) fun v230 σ233 ⟨q7, s233⟩ => ?_
  have q7 : v230 = gI σ229 32 1 := q7
  have s233 : Se σ229 1 (1 + n2 % 3) σ233 := s233
  rw [q7, if_neg (hS.pos (k := 1) (by decide) ((k229.2 _ _ (by omega)).trans ((s225.2.2 _ _ (by omega)).trans ((s221.2.2 _ _ (by omega)).trans ((s217.2.2 _ _ (by omega)).trans ((s213.2.2 _ _ (by omega)).trans ((s209.2.2 _ _ (by omega)).trans ((s205.2.2 _ _ (by omega)).trans (z201 1)))))))))]
  have r233 : gR σ233 = gR σ := by rw [s233.1, k229.1, r225]
  have fr : ∀ c k, c ≠ 32 → ¬ (c = rr ∧ k = 0) → gI σ233 c k = gI σ29 c k := fun c k h1 h2 => by
    rw [s233.2.2 _ _ (by omega), k229.2 _ _ h2, s225.2.2 _ _ (by omega), s221.2.2 _ _ (by omega), s217.2.2 _ _ (by omega), s213.2.2 _ _ (by omega), s209.2.2 _ _ (by omega), s205.2.2 _ _ (by omega), k201.2 _ _ h2]
  have so : sO σ29 = sO σ := by unfold sO; rw [r29]
  refine hK σ233 (1 + n1 % 9) (1 + n2 % 3) ⟨r233, P29.fr (by unfold sO; rw [r233, r29]) (fun k => fr _ _ (by omega) (by omega)) (fun k => fr _ _ (by omega) (by omega)), fun c k h1 h2 h3 => (fr c k h2 h3).trans (f29 c k h1), by omega, ?_, s233.2.1, ?_, ?_, ?_, ?_, ?_⟩
  · rw [s233.2.2 _ _ (by omega), k229.2 _ _ (by omega), s225.2.2 _ _ (by omega), s221.2.2 _ _ (by omega), s217.2.2 _ _ (by omega), s213.2.2 _ _ (by omega), s209.2.2 _ _ (by omega)]; exact s205.2.1
  · rw [s233.2.2 _ _ (by omega), k229.2 _ _ (by omega), s225.2.2 _ _ (by omega), s221.2.2 _ _ (by omega), s217.2.2 _ _ (by omega), s213.2.2 _ _ (by omega)]; exact s209.2.1
  · rw [s233.2.2 _ _ (by omega), k229.2 _ _ (by omega), s225.2.2 _ _ (by omega), s221.2.2 _ _ (by omega), s217.2.2 _ _ (by omega)]; exact s213.2.1
  · rw [s233.2.2 _ _ (by omega), k229.2 _ _ (by omega), s225.2.2 _ _ (by omega), s221.2.2 _ _ (by omega)]; exact s217.2.1
  · rw [s233.2.2 _ _ (by omega), k229.2 _ _ (by omega), s225.2.2 _ _ (by omega)]; exact s221.2.1
  · rw [s233.2.2 _ _ (by omega), k229.2 _ _ (by omega)]; exact s225.2.1
end SETS
