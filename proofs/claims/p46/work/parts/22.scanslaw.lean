/-! 22: the law's scans. -/
section LAWS
variable {rr : Nat} {σ τ τ' : SS} {s W H : Nat} {F F' : Nat → Nat → Int32}
theorem Sgg.congr (h : Sgg rr σ τ s W H F) (he : ∀ x y, x < W → y < H → F x y = F' x y) : Sgg rr σ τ s W H F' := ⟨h.1, h.2.1, h.2.2.1.congr he, h.2.2.2⟩
theorem Dw.congr (h : Dw W H F τ) (he : ∀ x y, x < W → y < H → F x y = F' x y) : Dw W H F' τ := ⟨h.1, h.2.1, fun x y hx hy => (h.2.2 x y hx hy).trans (he x y hx hy)⟩
theorem Sgg.seed (h : Sgg rr σ τ s W H F) (hs : s = 3 ∨ s = 6) (v : Int32) : Sgg rr σ (sI τ 1 8 v) s W H F := by
  obtain ⟨h1, ⟨h2, h3⟩, h4, h5⟩ := h
  refine ⟨h1.tr ⟨fun c k _ _ _ => rfl, fun c k _ _ _ _ h5 _ => gI_nk h5, Nat.le_refl _⟩, ⟨h2, h3⟩, h4.fr rfl (fun k => gI_nk (by omega)) (fun k => gI_nk (by omega)), h5.fr (fun k => gI_nk (by omega)) (fun k => gI_nk (by omega))⟩
theorem seed_s (τ : SS) (x : Int32) : ∃ X, X < 65536 ∧ fX7_seed τ x = some (gI τ 1 8, sI τ 1 8 (nI X)) ∧ x &&& 65535 = nI X := by
  obtain ⟨j, hj, e⟩ := pk_andE x (m := 65535) 16 rfl
  refine ⟨j, hj, ?_, e⟩
  unfold fX7_seed
  simp only [vthen_eq]
  rw [e]
theorem Pc.al (h : Pc W H F τ) (hF : ∀ x y, x < W → y < H → inR (F x y) 0 9) {d : Nat → Int32} (hd : d = gI τ (sO τ + 1)) (hW : 1 ≤ W) : alk (W * H) d (cW W H F) := fun j hj => by
  have m1 : j % W < W := Nat.mod_lt _ (by omega)
  have m2 : j / W < H := Nat.div_lt_of_lt_mul hj
  have e := h.2.2 _ _ m1 m2
  rw [Nat.mul_comm, Nat.div_add_mod] at e
  subst hd
  unfold cW
  rw [if_pos hj]
  exact ⟨e, hF _ _ m1 m2⟩
set_option maxHeartbeats 4000000 in
theorem scans_main {b : SS} {c17 k : Nat} {b2 : Bool} (db : Sd b) (hrb : 2000 ≤ rr) (hk4 : k < 4) (e2 : b2 = true) (h9b : gR b 9 0 = 64) (hvb : lav b rr = true) (hlb : gR b rr 0 = 1) (hvc : lav b c17 = true) (hlc : gR b c17 0 = wO b * hO b) (wb : ∀ j, j < wO b * hO b → gI b c17 j = fP b (j % wO b) (j / wO b)) (Db : Dw (wO b) (hO b) (fP b) b) :
    WP (bnd (fX7_up b) fun v26 σ29 =>
      vthen (fun (s30 : Int32) (σ31 : SS) => L_scans_L125 σ31 (nI (wO b)) (nI (hO b)) c17 (fun v37 => L_scans_L180 (fun v58 σ59 =>
          vthen (fun (s60 : Int32) =>
            bnd (fL_next σ59 rr) fun v61 σ64 =>
            vthen (irm v61 (65536 : Int32)) fun v65 =>
            bnd (fX7_seed σ64 v65) fun v66 σ69 =>
            bnd (fX7_noise σ69 (60 : Int32)) fun v70 σ73 =>
            bnd1 (fX7_count σ73 (10 : Int32)) fun v74 =>
            bnd1 (fX7_count σ73 (7 : Int32)) fun v77 =>
            vthen (fun (σ80 : SS) => some (false, σ80)) fun j379 =>
            if s60 = 0 then j379 σ73 else (if v70 < 0 then j379 σ73 else (if (60 : Int32) < v70 then j379 σ73 else (
                  bnd (fX7_back σ73 (0 : Int32)) fun b82 σ84 =>
                  if b82 = true then (
                    bnd (fX7_seed σ84 v65) fun v85 σ88 =>
                    if v85 = v77 then (
                      bnd (fX7_noise σ88 (60 : Int32)) fun v89 σ92 =>
                      if v89 = v70 then (
                        bnd1 (fX7_count σ92 (10 : Int32)) fun v93 =>
                        if v93 = v74 then (
                          bnd1 (fX7_count σ92 (7 : Int32)) fun v96 =>
                          if v96 = v77 then some (true, σ92) else j379 σ92
                          ) else j379 σ92
                        ) else j379 σ92
                      ) else j379 σ88
                    ) else j379 σ84)))) fun j266 =>
          vthen (fun (_u : Unit) => j266 (0 : Int32)) fun j265 =>
          if v37 = 0 then j265 () else (if v26 = v58 then (
              bnd1 (fX7_count σ59 (0 : Int32)) fun v99 =>
              if v99 = nI (wO b) then (
                bnd1 (fX7_count σ59 (10 : Int32)) fun v102 =>
                if v102 < 0 then j265 () else j266 (1 : Int32)
                ) else j265 ()
              ) else j265 ()))
        fuel (-2 : Int32) (0 : Int32) (0 : Int32) σ31) fuel s30 (0 : Int32)) fun j121 =>
      vthen (fun (σ105 : SS) => j121 (0 : Int32) σ105) fun j120 =>
      if b2 = true then (
        bnd (fX7_turn σ29 (nI k)) fun v106 σ109 =>
        vthen (fun (s110 : Int32) => if v106 = s110 then (
            bnd (fX7_turn σ109 (irm ((4 : Int32) - nI k) (4 : Int32))) fun v111 σ114 =>
            if v111 = nI (wO b) then j121 (1 : Int32) σ114 else j120 σ114
            ) else j120 σ109) fun j99 =>
        if (irm (nI k) (2 : Int32)) = 0 then j99 (nI (wO b)) else j99 (nI (hO b))
        ) else j120 σ29) (fun r => r.1 = true ∧ Sd r.2 ∧ (∃ X, X < 65536 ∧ gI r.2 1 8 = nI X) ∧ Sf rr b r.2) := by
  have hsb := db.s
  have hwb := db.w
  refine wp_bndp (up_s db) fun v26 σ29 ⟨⟨u2, hu⟩, r29, k29⟩ => ?_
  have r29 : gR σ29 = gR b := r29
  have k29 : Ku (sO b) (9 - sO b) b σ29 := k29
  have hu : UV (mK7 b) (GG7 b) 4 v26 u2 := hu
  have G0 : Sgg rr b b (sO b) (wO b) (hO b) (fP b) := ⟨Sf.rf _ _, ⟨rfl, db.2.2.1.1⟩, db.pc, Db⟩
  have G29 := G0.ku hsb r29 k29
  have al3 : 8 ≤ tW (wO b) (hO b) k ∧ tW (wO b) (hO b) k ≤ 40 := tW_le hwb.1 hwb.2
  have al4 : 8 ≤ tW (hO b) (wO b) k ∧ tW (hO b) (wO b) k ≤ 40 := tW_le hwb.2 hwb.1
  refine wp_vk (fun a t => a = (1 : Int32) ∧ Sgg rr b t (sO b) (wO b) (hO b) (fP b) ∧ (∀ c k, 2000 ≤ c → gR t c k = gR b c k) ∧ gR t 0 0 = gR b 0 0 ∧ ∀ k, gI t c17 k = gI b c17 k) (fun a t q => ?_) (fun j121 hj1 => ?_)
  · obtain ⟨rfl, Gt, rt, rt0, ct⟩ := q
    have hc17 : 2000 ≤ c17 := (of_decide_eq_true hvc).1
    refine same_s Gt.2.2.1 hwb.1 hwb.2 (by unfold lav at *; rw [rt0]; exact hvc) (by rw [rt c17 0 hc17]; exact hlc) (fun j hj => (ct j).trans (wb j hj)) ?_
    refine first_s db hrb Gt fun v8 v9 σ59 hu2 G59 => ?_
    have e26 : v26 = v8 := (UV_one (M := mK7 b) (G := GG7 b) (fun i g g' h h' => gG_one h h') 4 v26 u2 v8 v9 hu hu2).1
    subst e26
    refine wp_vk1 (fun a => a = (1 : Int32)) (fun a ea => ?_) (fun j266 hj6 => ?_)
    · subst ea
      have hv59 : lav σ59 rr = true := decide_eq_true ⟨hrb, by have := G59.1.2.2; have := (of_decide_eq_true hvb).2; omega⟩
      have hl59 : gR σ59 rr 0 = 1 := by rw [G59.1.1 rr 0 (by omega) (of_decide_eq_true hvb).2 (by omega)]; exact hlb
      refine wp_bndp (next_s hv59 hl59) fun v61 σ64 ⟨_, k64⟩ => ?_
      have G64 := G59.kn hsb hrb k64
      refine wp_v ?_
      obtain ⟨X, hX, es, ex⟩ := seed_s σ64 (irm v61 (65536 : Int32))
      rw [bnd_of _ es]
      have G69 := G64.seed hsb (nI X)
      have x69 : gI (sI σ64 1 8 (nI X)) 1 8 = nI X := gI_eq _ _ _ _
      generalize sI σ64 1 8 (nI X) = σ69 at G69 x69
      have s69 : sO σ69 = sO b := G69.2.1.1
      refine wp_bndp (noise_s (K := 60) (by rw [s69]; exact hsb) G69.2.2.1 hwb.1 hwb.2 db.pr x69 hX (by decide)) fun v70 σ73 ⟨e70, r73, x73, d73, f73⟩ => ?_
      have e70 : v70 = nsN (wO b) (hO b) X (gI σ69 (sO σ69 + 1)) 60 := e70
      have r73 : gR σ73 = gR σ69 := r73
      have x73 : gI σ73 1 8 = nI (nsS X 60) := x73
      have d73 : gI σ73 (sO σ69 + 1) = nsD (wO b) (hO b) X (gI σ69 (sO σ69 + 1)) 60 := d73
      have f73 : ∀ c k, c ≠ sO σ69 + 1 → ¬ (c = 1 ∧ k = 8) → gI σ73 c k = gI σ69 c k := f73
      have s73 : sO σ73 = sO b := by unfold sO; rw [r73]; exact s69
      have A69 := G69.2.2.1.al db.pr rfl (by omega)
      have P73 : Pc (wO b) (hO b) (fun x y => nsD (wO b) (hO b) X (gI σ69 (sO σ69 + 1)) 60 (y * wO b + x)) σ73 := by
        unfold Pc
        rw [s73]
        refine ⟨?_, ?_, fun x y hx hy => ?_⟩
        · rw [f73 _ _ (by omega) (by omega), ← s69]; exact G69.2.2.1.1
        · rw [f73 _ _ (by omega) (by omega), ← s69]; exact G69.2.2.1.2.1
        · rw [← s69, d73]
      rw [bnd1_of _ (count10 P73 hwb.1.2 hwb.2.2), bnd1_of _ (count7 σ73), s73, ← s69, d73, x73]
      refine wp_vk1 (fun _ => False) (fun a q => q.elim) (fun j379 hj9 => ?_)
      rw [if_neg (by decide)]
      obtain ⟨nn, hnn, enn⟩ := nsN_nn (w := wO b) (q := hO b) (X := X) (d := gI σ69 (sO σ69 + 1)) 60
      rw [e70, enn]
      rw [if_neg (c := nI nn < 0) (by rw [lt_i, nI_toInt (by omega)]; simp), if_neg (c := (60 : Int32) < nI nn) (by rw [lt_i, nI_toInt (by omega)]; simp; omega)]
      have D73 : Dw (wO b) (hO b) (fP b) σ73 := G69.2.2.2.fr (fun k => f73 _ _ (by omega) (by omega)) (fun k => f73 _ _ (by omega) (by omega))
      have S73 : Sf rr b σ73 := G69.1.tr ⟨fun c k _ _ _ => by rw [r73], fun c k _ _ h3 _ h5 _ => f73 c k (by omega) h5, by rw [r73]; exact Nat.le_refl _⟩
      have h973 : gR σ73 9 0 = 64 := by rw [S73.1 9 0 (by decide) (by omega) (by omega)]; exact h9b
      refine wp_bndp (back_s (by rw [s73]; exact hsb) h973 D73 hwb.1 hwb.2.2) fun b82 σ84 ⟨e82, r84, P84, f84⟩ => ?_
      have e82 : b82 = true := e82
      have r84 : gR σ84 = gR σ73 := r84
      have f84 : ∀ c k, ¬ (3 ≤ c ∧ c ≤ 8) → gI σ84 c k = gI σ73 c k := f84
      rw [if_pos e82]
      obtain ⟨X', hX', es', ex'⟩ := seed_s σ84 (irm v61 (65536 : Int32))
      have eX : X' = X := nI_injN (by omega) (by omega) (ex'.symm.trans ex)
      subst eX
      rw [bnd_of _ es', f84 1 8 (by omega), x73, if_pos rfl]
      have s84 : sO σ84 = sO b := by unfold sO; rw [r84]; exact s73
      have P84 : Pc (wO b) (hO b) (fP b) σ84 := P84
      have P88 : Pc (wO b) (hO b) (fP b) (sI σ84 1 8 (nI X')) := Pc.fr P84 rfl (fun k => gI_nk (by omega)) (fun k => gI_nk (by omega))
      have x88 : gI (sI σ84 1 8 (nI X')) 1 8 = nI X' := gI_eq _ _ _ _
      have S88 : Sf rr b (sI σ84 1 8 (nI X')) := S73.tr ⟨fun c k _ _ _ => by show gR σ84 c k = _; rw [r84], fun c k _ _ h3 _ h5 _ => by rw [gI_nk h5]; exact f84 c k h3, by show _ ≤ gR σ84 0 0; rw [r84]; exact Nat.le_refl _⟩
      have s88 : sO (sI σ84 1 8 (nI X')) = sO b := s84
      have r88 : gR (sI σ84 1 8 (nI X')) = gR σ73 := r84
      generalize sI σ84 1 8 (nI X') = σ88 at P88 x88 S88 s88 r88
      refine wp_bndp (noise_s (K := 60) (by rw [s88]; exact hsb) P88 hwb.1 hwb.2 db.pr x88 hX (by decide)) fun v89 σ92 ⟨e89, r92, x92, d92, f92⟩ => ?_
      have e89 : v89 = nsN (wO b) (hO b) X' (gI σ88 (sO σ88 + 1)) 60 := e89
      have r92 : gR σ92 = gR σ88 := r92
      have x92 : gI σ92 1 8 = nI (nsS X' 60) := x92
      have d92 : gI σ92 (sO σ88 + 1) = nsD (wO b) (hO b) X' (gI σ88 (sO σ88 + 1)) 60 := d92
      have f92 : ∀ c k, c ≠ sO σ88 + 1 → ¬ (c = 1 ∧ k = 8) → gI σ92 c k = gI σ88 c k := f92
      have A88 := P88.al db.pr rfl (by omega)
      have B1 := nsN_alk (X := X') (by omega) (by omega) A69 60
      have B2 := nsN_alk (X := X') (by omega) (by omega) A88 60
      rw [e89, B2, ← B1, enn, if_pos rfl]
      have s92 : sO σ92 = sO b := by unfold sO; rw [r92]; exact s88
      have C1 := nsD_alk (X := X') A69 60
      have C2 := nsD_alk (X := X') A88 60
      have P92 : Pc (wO b) (hO b) (fun x y => nsD (wO b) (hO b) X' (cW (wO b) (hO b) (fP b)) 60 (y * wO b + x)) σ92 := by
        unfold Pc
        rw [s92]
        refine ⟨?_, ?_, fun x y hx hy => ?_⟩
        · rw [f92 _ _ (by omega) (by omega), ← s88]; exact P88.1
        · rw [f92 _ _ (by omega) (by omega), ← s88]; exact P88.2.1
        · rw [← s88, d92]; exact (C2 _ (cell_lt hx hy)).1
      rw [bnd1_of _ (count10 P92 hwb.1.2 hwb.2.2), s92, ← s88, d92, if_pos (sumF_congr fun j hj => (C2 j hj).1.trans (C1 j hj).1.symm), bnd1_of _ (count7 σ92), x92, if_pos rfl]
      have S92 : Sf rr b σ92 := S88.tr ⟨fun c k _ _ _ => by rw [r92], fun c k _ _ h3 _ h5 _ => f92 c k (by omega) h5, by rw [r92]; exact Nat.le_refl _⟩
      refine ⟨_, rfl, rfl, ?_, ⟨_, nsS_lt hX 60, x92⟩, S92⟩
      refine (db.turn (σ' := σ92) (by rw [s92]; exact hsb) ?_ (S92.1 1 5 (by decide) (by omega) (by omega)) (S92.1 1 6 (by decide) (by omega) (by omega)) P92 hwb.1 hwb.2 (fun x y hx hy => (C2 _ (cell_lt hx hy)).2) (fun c k hc => S92.2.1 c k (by omega) (by unfold Sk; omega) (by omega) (by omega) (by omega) (by omega))).1
      rw [s92, r92, r88, r73]; exact G69.2.1.2
    · refine wp_vk1 (fun _ => False) (fun a q => q.elim) (fun j265 hj5 => ?_)
      obtain ⟨sn, hsn, esn⟩ := sumF_nn (W := wO b) (H := hO b) (d := gI σ59 (sO σ59 + 1)) (fun j hj => by
        have := G59.2.2.1.al db.pr rfl (by omega) j hj
        rw [this.1]; exact this.2) hwb.1.2 hwb.2.2
      rw [if_neg (by decide), if_pos rfl, bnd1_of _ (count01 G59.2.2.1).1, if_pos rfl, bnd1_of _ (count10 G59.2.2.1 hwb.1.2 hwb.2.2), esn, if_neg (c := nI sn < 0) (by rw [lt_i, nI_toInt (by omega)]; simp)]
      exact hj6 _ rfl
  · refine wp_vk1 (fun _ => False) (fun a q => q.elim) (fun j120 hj0 => ?_)
    rw [if_pos e2]
    refine wp_bndp (G29.turn hsb hwb.1 hwb.2 hk4) fun v106 σ109 ⟨e106, G109, r109, f109⟩ => ?_
    have e106 : v106 = nI (tW (wO b) (hO b) k) := e106
    have r109 : ∀ c k, ¬ (c = 1 ∧ (k = 2 ∨ k = 3)) → gR σ109 c k = gR σ29 c k := r109
    have f109 : ∀ c k, ¬ (3 ≤ c ∧ c ≤ 8) → gI σ109 c k = gI σ29 c k := f109
    have G109 : Sgg rr b σ109 (9 - sO b) (tW (wO b) (hO b) k) (tW (hO b) (wO b) k) (tG (fP b) (wO b) (hO b) k) := G109
    refine wp_vk1 (fun a => a = nI (tW (wO b) (hO b) k)) (fun a ea => ?_) (fun j99 hj9 => ?_)
    · subst ea
      rw [if_pos e106, show (4 : Int32) = nI 4 from rfl, nI_sub (by omega), rem_nI (by omega) (by decide) (by decide)]
      refine wp_bndp (G109.turn (by omega) al3 al4 (k := (4 - k) % 4) (Nat.mod_lt _ (by decide))) fun v111 σ114 ⟨e111, G114, r114, f114⟩ => ?_
      have e111 : v111 = nI (tW (tW (wO b) (hO b) k) (tW (hO b) (wO b) k) ((4 - k) % 4)) := e111
      have r114 : ∀ c k, ¬ (c = 1 ∧ (k = 2 ∨ k = 3)) → gR σ114 c k = gR σ109 c k := r114
      have f114 : ∀ c k, ¬ (3 ≤ c ∧ c ≤ 8) → gI σ114 c k = gI σ109 c k := f114
      have G114 : Sgg rr b σ114 (9 - (9 - sO b)) (tW (tW (wO b) (hO b) k) (tW (hO b) (wO b) k) ((4 - k) % 4)) (tW (tW (hO b) (wO b) k) (tW (wO b) (hO b) k) ((4 - k) % 4)) (tG (tG (fP b) (wO b) (hO b) k) (tW (wO b) (hO b) k) (tW (hO b) (wO b) k) ((4 - k) % 4)) := G114
      rw [tW_back hk4] at e111
      rw [tW_back hk4, tW_back hk4, show 9 - (9 - sO b) = sO b by omega] at G114
      rw [if_pos e111]
      have hc17 : 2000 ≤ c17 := (of_decide_eq_true hvc).1
      refine hj1 _ _ ⟨rfl, G114.congr fun x y hx hy => tG_back hk4 hx hy, fun c k hc => by rw [r114 c k (by omega), r109 c k (by omega), r29], by rw [r114 0 0 (by omega), r109 0 0 (by omega), r29], fun j => ?_⟩
      rw [f114 _ _ (by omega), f109 _ _ (by omega)]
      unfold Ku at k29
      exact k29 _ _ (by omega)
    · rw [show (2 : Int32) = nI 2 from rfl, rem_nI (by omega) (by decide) (by decide)]
      by_cases c : k % 2 = 0
      · rw [c, if_pos (c := nI 0 = (0 : Int32)) rfl]
        exact hj9 _ (by unfold tW; rw [if_pos c])
      · rw [if_neg (nI_ne0 (by omega) (by omega))]
        exact hj9 _ (by unfold tW; rw [if_neg c])
set_option maxHeartbeats 4000000 in
theorem scans_s (hd : Sd σ) (h9 : gR σ 9 0 = 64) (hv : lav σ rr = true) (hl : gR σ rr 0 = 1) : WP (fL_scans σ rr) (fun r => r.1 = true ∧ Sd r.2 ∧ (∃ X, X < 65536 ∧ gI r.2 1 8 = nI X) ∧ Sf rr σ r.2) := by
  have hs := hd.s
  have hw := hd.w
  have hrr : 2000 ≤ rr ∧ rr < 2000 + gR σ 0 0 := of_decide_eq_true hv
  have ha := area_le hw.1.2 hw.2.2
  unfold fL_scans
  refine wp_bndp (keep_s hs h9 hd.pc hw.1.2 hw.2.2) fun b2 σ4 ⟨e2, r4, D4, f4⟩ => ?_
  have e2 : b2 = true := e2
  have r4 : gR σ4 = gR σ := r4
  have f4 : ∀ c k, ¬ (c = 64 ∨ c = 65) → gI σ4 c k = gI σ c k := f4
  have P4 : Pc (wO σ) (hO σ) (fP σ) σ4 := hd.pc.fr (by unfold sO; rw [r4]) (fun k => f4 _ _ (by omega)) (fun k => f4 _ _ (by omega))
  rw [bnd1_of _ (count01 P4).1, bnd1_of _ (count01 P4).2]
  refine wp_bndp (next_s (σ := σ4) (c := rr) (by unfold lav at *; rw [r4]; exact hv) (by rw [r4]; exact hl)) fun v11 σ14 ⟨⟨n, hn, e11⟩, k14⟩ => ?_
  have e11 : v11 = nI n := e11
  subst e11
  refine wp_vv fun v15 e15 => ?_
  have e15 : v15 = nI (n % 4) := by rw [e15, show (4 : Int32) = nI 4 from rfl, rem_nI (by omega) (by decide) (by decide)]
  have hk4 : n % 4 < 4 := Nat.mod_lt _ (by decide)
  generalize n % 4 = k at e15 hk4
  subst e15
  rw [nI_mul]
  refine wp_grd (inb_nI (by omega) (by decide)) ?_
  rw [nI_clamp (by omega)]
  refine wp_vv fun c17 ec17 => ?_
  refine wp_vv fun σ16 e16 => ?_
  have r14 : gR σ14 = gR σ := k14.1.trans r4
  have hE : gR σ14 0 0 = gR σ 0 0 := by rw [r14]
  have r16 : ∀ c k, c ≠ 0 → c ≠ c17 → gR σ16 c k = gR σ c k := fun c k h1 h2 => by rw [e16, gR_mkL, if_neg h1, if_neg (by omega), r14]
  have hv16 : lav σ16 c17 = true := by rw [e16, ec17]; exact lav_mk _ _
  have hl16 : gR σ16 c17 0 = wO σ * hO σ := by rw [e16, gR_mkL, if_neg (by omega), if_pos (by omega)]
  have hE16 : gR σ16 0 0 = gR σ 0 0 + 1 := by rw [e16, gR_mkL, if_pos rfl, if_pos rfl, hE]
  have f16 : ∀ c k, c ≠ c17 → ¬ (c = 64 ∨ c = 65) → ¬ (c = rr ∧ k = 0) → gI σ16 c k = gI σ c k := fun c k h1 h2 h3 => by rw [e16, gI_mkL, if_neg (by omega), k14.2 c k h3, f4 c k h2]
  have s16 : sO σ16 = sO σ := r16 1 2 (by decide) (by omega)
  have P16 : Pc (wO σ) (hO σ) (fP σ) σ16 := hd.pc.fr s16 (fun k => f16 _ _ (by omega) (by omega) (by omega)) (fun k => f16 _ _ (by omega) (by omega) (by omega))
  have D16 : Dw (wO σ) (hO σ) (fP σ) σ16 := D4.fr (fun k => by rw [e16, gI_mkL, if_neg (by omega), k14.2 _ _ (by omega)]) (fun k => by rw [e16, gI_mkL, if_neg (by omega), k14.2 _ _ (by omega)])
  refine was_s (by rw [s16]; exact hs) P16 hw.1 hw.2 hv16 hl16 fun b rb fb wb => ?_
  -- the base of what follows
  have sb : sO b = sO σ := by unfold sO; rw [rb]; exact s16
  have Pb : Pc (wO σ) (hO σ) (fP σ) b := P16.fr (by unfold sO; rw [rb]) (fun k => fb _ _ (by omega)) (fun k => fb _ _ (by omega))
  have Db : Dw (wO σ) (hO σ) (fP σ) b := D16.fr (fun k => fb _ _ (by omega)) (fun k => fb _ _ (by omega))
  have Sb : Sf rr σ b := ⟨fun c k h1 h2 _ => by rw [rb, r16 c k h1 (by omega)], fun c k h1 h2 h3 h4 h5 h6 => by rw [fb c k (by omega), f16 c k (by omega) h4 h6], by rw [rb, hE16]; omega⟩
  obtain ⟨db, ⟨ewb, ehb, -⟩, -⟩ := hd.turn (σ' := b) (by rw [sb]; exact hs) (by rw [sb, rb, r16 1 3 (by decide) (by omega)]; exact hd.2.2.1.1) (by rw [rb]; exact r16 1 5 (by decide) (by omega)) (by rw [rb]; exact r16 1 6 (by decide) (by omega)) Pb hw.1 hw.2 hd.pr (fun c k hc => Sb.2.1 c k (by omega) (by unfold Sk; omega) (by omega) (by omega) (by omega) (by omega))
  have fPb : ∀ x y, x < wO b → y < hO b → fP σ x y = fP b x y := fun x y hx hy => by
    rw [ewb] at hx; rw [ehb] at hy
    have := Pb.2.2 x y hx hy
    unfold fP at *
    rw [ewb]; exact this.symm
  have hsb := db.s
  have hwb := db.w
  have h9b : gR b 9 0 = 64 := by rw [rb, r16 9 0 (by decide) (by omega)]; exact h9
  have hvb : lav b rr = true := by
    have : rr < 2000 + gR b 0 0 := by rw [rb, hE16]; omega
    exact decide_eq_true ⟨hrr.1, this⟩
  have hlb : gR b rr 0 = 1 := by rw [rb, r16 rr 0 (by omega) (by omega)]; exact hl
  have hvc : lav b c17 = true := by unfold lav at *; rw [rb]; exact hv16
  have hlc : gR b c17 0 = wO b * hO b := by rw [rb, ewb, ehb]; exact hl16
  have wb : ∀ j, j < wO b * hO b → gI b c17 j = fP b (j % wO b) (j / wO b) := fun j hj => by
    rw [wb j (by rw [← ewb, ← ehb]; exact hj), ← ewb]
    exact fPb _ _ (Nat.mod_lt _ (by omega)) (Nat.div_lt_of_lt_mul hj)
  have Db : Dw (wO b) (hO b) (fP b) b := by rw [← ewb, ← ehb] at Db; exact Db.congr fPb
  have hmain := scans_main (rr := rr) (b2 := b2) db hrr.1 hk4 e2 h9b hvb hlb hvc hlc wb Db
  rw [ewb, ehb] at hmain
  exact wp_imp hmain fun r hr => ⟨hr.1, hr.2.1, hr.2.2.1, Sb.tr hr.2.2.2⟩
end LAWS
