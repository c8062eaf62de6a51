/-! Clean kept. -/
theorem gs_or {m m' : Nat → Prop} {f : Nat → Nat} (hd : ∀ k, ¬ (m k ∧ m' k)) : ∀ N, gs (fun k => m k ∨ m' k) f N = gs m f N + gs m' f N
  | 0 => rfl
  | N + 1 => by
    have ih := gs_or (f := f) hd N
    by_cases c : m N
    · rw [gs_t (m := fun k => m k ∨ m' k) (Or.inl c), gs_t c, gs_f (m := m') fun h => hd N ⟨c, h⟩, ih]; omega
    · by_cases c' : m' N
      · rw [gs_t (m := fun k => m k ∨ m' k) (Or.inr c'), gs_f c, gs_t c', ih]; omega
      · rw [gs_f (m := fun k => m k ∨ m' k) fun h => h.elim c c', gs_f c, gs_f c', ih]
/-- what is wiped, of first dots ahead of i -/
def Wp (w q spk : Nat) (ink : Nat → Prop) (i k : Nat) : Prop := ∃ st, st < i ∧ isSt w q ink st ∧ ¬ spk ≤ szS w q ink st ∧ Conn w q ink st k
theorem wipe7 {σ : SS} {s w q spk : Nat} {lvl : Int32} {ink : Nat → Prop} (hs : s = 3 ∨ s = 6) (hw : 1 ≤ w ∧ w ≤ 40) (hq : 1 ≤ q ∧ q ≤ 40) (e1 : gI σ s 0 = nI w) (e2 : gI σ s 1 = nI q) (hink : ∀ k, k < w * q → (lvl ≤ gI σ (s + 1) k ↔ ink k)) (hspk : 1 ≤ spk ∧ spk ≤ 20) : WP (fX0_wipeSpecks σ s lvl (nI spk)) (fun r => r.1 = nI (gs (Wp w q spk ink (w * q)) (fun _ => 1) (w * q)) ∧ gR r.2 = gR σ ∧ (∀ c k, c ≠ s + 1 → c ≠ 42 → c ≠ 43 → gI r.2 c k = gI σ c k) ∧ ∀ k, k < w * q → (Wp w q spk ink (w * q) k → gI r.2 (s + 1) k = 0) ∧ (¬ Wp w q spk ink (w * q) k → gI r.2 (s + 1) k = gI σ (s + 1) k)) := by
  have hN := area_le hw.2 hq.2
  unfold fX0_wipeSpecks
  refine wp_vv ?_; intro σ2 h2
  have b43 : ∀ k, k < 1600 → gI σ2 43 k = 0 := fun k hk => by rw [h2]; unfold flB; exact gI_fl hk
  have bF : ∀ c k, c ≠ 43 → gI σ2 c k = gI σ c k := fun c k hc => by
    rw [h2]; unfold flB; rw [gI_fl_ne (by omega)]
  unfold X0_wipeSpecks_L14
  refine wf_3 (w * q) (fun i v4 v s' => v4 = nI (gs (Wp w q spk ink i) (fun _ => 1) (w * q)) ∧ v = nI i ∧ gR s' = gR σ ∧ (∀ c k, c ≠ s + 1 → c ≠ 42 → c ≠ 43 → gI s' c k = gI σ c k) ∧ (∀ k, k < 1600 → (gI s' 43 k = 0 ↔ ¬ Sn w q ink i k)) ∧ ∀ k, k < w * q → (Wp w q spk ink i k → gI s' (s + 1) k = 0) ∧ (¬ Wp w q spk ink i k → gI s' (s + 1) k = gI σ (s + 1) k)) ⟨by rw [gs_none _ fun k _ h => by obtain ⟨st, h1, _⟩ := h; omega]; rfl, rfl, by rw [h2]; rfl, fun c k c1 c2 c3 => bF c k c3, fun k hk => ⟨fun _ ⟨j, k1, _⟩ => by omega, fun _ => b43 k hk⟩, fun k hk => ⟨fun ⟨st, h1, _⟩ => by omega, fun _ => bF _ _ (by omega)⟩⟩ (by omega) ?_ ?_
  · rintro i _ _ s' rec hi ⟨rfl, rfl, i1, i2, i3, i4⟩ hr
    have q1 : gI s' s 0 = nI w := (i2 _ _ (by omega) (by omega) (by omega)).trans e1
    have q2 : gI s' s 1 = nI q := (i2 _ _ (by omega) (by omega) (by omega)).trans e2
    have hsz : fX6_size s' s = nI (w * q) := by unfold fX6_size; rw [q1, q2, nI_mul]
    have ws : ∀ k, Wp w q spk ink i k → Sn w q ink i k := fun k ⟨st, k1, k2, _, k4⟩ => ⟨st, k1, k2.1, k2.2.1, k4⟩
    rw [hsz, if_neg (nI_ge hi (by omega))]
    refine wp_bndp (gather7 (σg := s') (ink := ink) (S := Sn w q ink i) hs hw hq q1 q2 (fun k hk hS => by rw [(i4 k hk).2 fun h => hS (ws k h)]; exact hink k hk) i3 hi) ?_
    rintro v3 s3 ⟨L, n, hv3, hm, hcase⟩
    dsimp only at hv3 hm
    subst hv3
    rw [nI_1]
    have fr : ∀ c k, c ≠ s + 1 → c ≠ 42 → c ≠ 43 → gI s3 c k = gI σ c k := fun c k c1 c2 c3 => by rw [hm.2.1 c k c2 c3]; exact i2 c k c1 c2 c3
    have fs : ∀ k, gI s3 (s + 1) k = gI s' (s + 1) k := fun k => hm.2.1 _ _ (by omega) (by omega)
    have hn16 : n ≤ 1600 := by
      rcases hcase with ⟨_, hbf⟩ | ⟨_, h⟩
      · have := hbf.le; omega
      · omega
    have hlt : ∀ j, j < n → L j < w * q := fun j hj => by
      rcases hcase with ⟨_, hbf⟩ | ⟨_, h⟩
      · exact (hbf.2.2.2.1 j hj).1
      · omega
    have hseen : ∀ k, k < 1600 → (gI s3 43 k = 0 ↔ ¬ Sn w q ink (i + 1) k) := fun k hk => by
      rw [hm.2.2.2 k hk]
      rcases hcase with ⟨hnew, hbf⟩ | ⟨hnew, rfl⟩
      · rw [Sn.s hi, hbf.done hnew.1 fun a b ha hn hb => Sn.cl ha hn hb]
        exact ⟨fun h h2 => h (h2.imp id fun x => x.2), fun h h2 => h (h2.imp id fun x => ⟨hnew.1, x⟩)⟩
      · rw [Sn.same hi fun h => hnew ((Sn.st hi).mp h)]
        exact ⟨fun h h2 => h (Or.inl h2), fun h h2 => h2.elim h fun ⟨j, k1, _⟩ => by omega⟩
    by_cases c : spk ≤ n
    · rw [if_pos (nI_le c (by omega))]
      rcases hcase with ⟨hnew, hbf⟩ | ⟨hnew, h0⟩
      · have hst : isSt w q ink i := (Sn.st hi).mpr hnew
        have hmem := hbf.done hnew.1 fun a b ha hn hb => Sn.cl ha hn hb
        have hsz2 : n = szS w q ink i := by rw [← ls_1 L n, list_sz hbf hmem]; rfl
        have hW : ∀ k, Wp w q spk ink (i + 1) k ↔ Wp w q spk ink i k := fun k => by
          constructor
          · rintro ⟨st, k1, k2, k3, k4⟩
            by_cases e : st = i
            · subst e; omega
            · exact ⟨st, by omega, k2, k3, k4⟩
          · rintro ⟨st, k1, k2⟩; exact ⟨st, by omega, k2⟩
        refine hr _ _ _ ⟨congrArg nI (gs_congr _ fun k _ => (hW k).symm), rfl, hm.1.trans i1, fr, hseen, fun k hk => ?_⟩
        rw [hW, fs]; exact i4 k hk
      · omega
    · rw [if_neg (nI_ge (by omega) (by omega))]
      have hWn : (∀ k, Wp w q spk ink (i + 1) k ↔ Wp w q spk ink i k ∨ mem L n k) ∧ gs (Wp w q spk ink (i + 1)) (fun _ => 1) (w * q) = gs (Wp w q spk ink i) (fun _ => 1) (w * q) + n := by
        rcases hcase with ⟨hnew, hbf⟩ | ⟨hnew, rfl⟩
        · have hst : isSt w q ink i := (Sn.st hi).mpr hnew
          have hmem := hbf.done hnew.1 fun a b ha hn hb => Sn.cl ha hn hb
          have hsz2 : n = szS w q ink i := by rw [← ls_1 L n, list_sz hbf hmem]; rfl
          have hW : ∀ k, Wp w q spk ink (i + 1) k ↔ Wp w q spk ink i k ∨ Conn w q ink i k := fun k => by
            constructor
            · rintro ⟨st, k1, k2, k3, k4⟩
              by_cases e : st = i
              · subst e; exact Or.inr k4
              · exact Or.inl ⟨st, by omega, k2, k3, k4⟩
            · rintro (⟨st, k1, k2⟩ | h)
              · exact ⟨st, by omega, k2⟩
              · exact ⟨i, by omega, hst, by omega, h⟩
          refine ⟨fun k => by rw [hW, hmem], ?_⟩
          have hdj : ∀ k, ¬ (Wp w q spk ink i k ∧ Conn w q ink i k) := by
            rintro k ⟨⟨st, k1, k2, k3, k4⟩, h⟩
            have := st_one k2 hst k4 h; omega
          rw [gs_congr _ fun k _ => hW k, gs_or hdj, hsz2]
          rfl
        · have hst : ¬ isSt w q ink i := fun h => hnew ((Sn.st hi).mp h)
          have hW : ∀ k, Wp w q spk ink (i + 1) k ↔ Wp w q spk ink i k := fun k => by
            constructor
            · rintro ⟨st, k1, k2, k3, k4⟩
              by_cases e : st = i
              · subst e; exact absurd k2 hst
              · exact ⟨st, by omega, k2, k3, k4⟩
            · rintro ⟨st, k1, k2⟩; exact ⟨st, by omega, k2⟩
          exact ⟨fun k => by rw [hW]; exact ⟨Or.inl, fun h => h.elim id fun ⟨j, k1, _⟩ => by omega⟩, gs_congr _ fun k _ => hW k⟩
      unfold X0_wipeSpecks_L42
      refine wf_2 n (fun j v s7 => v = nI j ∧ gR s7 = gR σ ∧ (∀ c k, c ≠ s + 1 → gI s7 c k = gI s3 c k) ∧ ∀ k, (mem L j k → gI s7 (s + 1) k = 0) ∧ (¬ mem L j k → gI s7 (s + 1) k = gI s3 (s + 1) k)) ⟨rfl, hm.1.trans i1, fun _ _ _ => rfl, fun k => ⟨fun ⟨j, k1, _⟩ => by omega, fun _ => rfl⟩⟩ (by omega) ?_ ?_
      · rintro j _ s7 rec7 hj ⟨rfl, l1, l2, l3⟩ hr7
        have lL := hlt j hj
        rw [if_neg (nI_ge hj (by omega)), nI_clamp (by omega), l2 42 j (by omega), hm.2.2.1 j hj, nI_clamp (by omega), nI_1]
        refine wp_grd (inb_nI (by omega) (by decide)) (wp_grd (inb_nI (by omega) (by decide)) ?_)
        refine wp_vv ?_; intro s8 g8
        refine hr7 _ _ ⟨rfl, by rw [g8]; exact l1, fun c k hc => by rw [g8, gI_ne hc]; exact l2 c k hc, fun k => ?_⟩
        rw [g8]
        by_cases ek : k = L j
        · subst ek; rw [gI_eq]; exact ⟨fun _ => rfl, fun h => absurd ⟨j, by omega, rfl⟩ h⟩
        · rw [gI_nk (by omega)]
          refine ⟨fun ⟨u, u1, u2⟩ => ?_, fun h => (l3 k).2 fun ⟨u, u1, u2⟩ => h ⟨u, by omega, u2⟩⟩
          by_cases eu : u = j
          · subst eu; exact absurd u2.symm ek
          · exact (l3 k).1 ⟨u, by omega, u2⟩
      · rintro _ s7 rec7 ⟨rfl, l1, l2, l3⟩
        rw [if_pos (nI_le (Nat.le_refl _) (by omega)), nI_add]
        refine wp_v (hr _ _ _ ⟨by rw [hWn.2], rfl, l1, fun c k c1 c2 c3 => by rw [l2 c k c1]; exact fr c k c1 c2 c3, fun k hk => by rw [l2 43 k (by omega)]; exact hseen k hk, fun k hk => ?_⟩)
        rw [hWn.1]
        constructor
        · intro h
          by_cases hk2 : mem L n k
          · exact (l3 k).1 hk2
          · rw [(l3 k).2 hk2, fs]; exact (i4 k hk).1 (h.resolve_right hk2)
        · intro h
          rw [(l3 k).2 fun h2 => h (Or.inr h2), fs]
          exact (i4 k hk).2 fun h2 => h (Or.inl h2)
  · rintro _ _ s' rec ⟨rfl, rfl, i1, i2, i3, i4⟩
    have hsz : fX6_size s' s = nI (w * q) := by unfold fX6_size; rw [i2 _ _ (by omega) (by omega) (by omega), i2 _ _ (by omega) (by omega) (by omega), e1, e2, nI_mul]
    rw [hsz, if_pos (nI_le (Nat.le_refl _) (by omega))]
    exact wp_some ⟨rfl, i1, i2, i4⟩
theorem clean8 {σ : SS} {w q : Nat} {ink : Nat → Prop} (hw : 1 ≤ w ∧ w ≤ 40) (hq : 1 ≤ q ∧ q ≤ 40) (e3 : gI σ 73 29 = nI w) (e4 : gI σ 73 30 = nI q) (hink : ∀ k, k < w * q → (gI σ 83 k < gI σ 88 0 ↔ ¬ ink k)) : WP (X8_clean_L8 fuel (0 : Int32) (0 : Int32) σ) (fun r => r.1 = nI (gs (fun k => ink k ∧ gI σ 92 k = -1) (fun _ => 1) (w * q)) ∧ gR r.2 = gR σ ∧ (∀ c k, c ≠ 83 → gI r.2 c k = gI σ c k) ∧ ∀ k, k < w * q → (ink k ∧ gI σ 92 k = -1 → gI r.2 83 k = 0) ∧ (¬ (ink k ∧ gI σ 92 k = -1) → gI r.2 83 k = gI σ 83 k)) := by
  have hN := area_le hw.2 hq.2
  unfold X8_clean_L8
  refine wf_3 (w * q) (fun i v1 v s' => v1 = nI (gs (fun k => ink k ∧ gI σ 92 k = -1) (fun _ => 1) i) ∧ v = nI i ∧ gR s' = gR σ ∧ (∀ c k, c ≠ 83 → gI s' c k = gI σ c k) ∧ ∀ k, (k < i ∧ ink k ∧ gI σ 92 k = -1 → gI s' 83 k = 0) ∧ (¬ (k < i ∧ ink k ∧ gI σ 92 k = -1) → gI s' 83 k = gI σ 83 k)) ⟨rfl, rfl, rfl, fun _ _ _ => rfl, fun k => ⟨fun h => by omega, fun _ => rfl⟩⟩ (by omega) ?_ ?_
  · rintro i _ _ s' rec hi ⟨rfl, rfl, l1, l2, l3⟩ hr
    have al : fX8_all s' = nI (w * q) := all_eq (by rw [l2 _ _ (by omega)]; exact e3) (by rw [l2 _ _ (by omega)]; exact e4)
    rw [al, if_neg (nI_ge hi (by omega)), nI_clamp (by omega), (l3 i).2 (by omega), l2 88 0 (by omega), l2 92 i (by omega), nI_1]
    refine wp_grd (inb_nI (by omega) (by decide)) ?_
    have skip : ¬ (ink i ∧ gI σ 92 i = -1) → WP (rec (nI (gs (fun k => ink k ∧ gI σ 92 k = -1) (fun _ => 1) i)) (nI (i + 1)) s') (fun r => r.1 = nI (gs (fun k => ink k ∧ gI σ 92 k = -1) (fun _ => 1) (w * q)) ∧ gR r.2 = gR σ ∧ (∀ c k, c ≠ 83 → gI r.2 c k = gI σ c k) ∧ ∀ k, k < w * q → (ink k ∧ gI σ 92 k = -1 → gI r.2 83 k = 0) ∧ (¬ (ink k ∧ gI σ 92 k = -1) → gI r.2 83 k = gI σ 83 k)) := fun h => by
      refine hr _ _ _ ⟨congrArg nI (gs_f (m := fun k => ink k ∧ gI σ 92 k = -1) h).symm, rfl, l1, l2, fun k => ⟨fun hk => ?_, fun hk => ?_⟩⟩
      · by_cases e : k = i
        · subst e; exact absurd hk.2 h
        · exact (l3 k).1 ⟨by omega, hk.2⟩
      · exact (l3 k).2 fun h2 => hk ⟨by omega, h2.2⟩
    by_cases ci : ink i
    · rw [if_neg fun h => (hink i hi).mp h ci]
      by_cases cs : gI σ 92 i = -1
      · rw [if_pos cs]
        refine wp_vv ?_; intro s2 g2
        refine wp_v (hr _ _ _ ⟨by rw [nI_1]; exact congrArg nI (gs_t (m := fun k => ink k ∧ gI σ 92 k = -1) ⟨ci, cs⟩).symm, rfl, by rw [g2]; exact l1, fun c k hc => by rw [g2, gI_ne hc]; exact l2 c k hc, fun k => ?_⟩)
        rw [g2]
        by_cases e : k = i
        · subst e; rw [gI_eq]; exact ⟨fun _ => rfl, fun h => absurd ⟨by omega, ci, cs⟩ h⟩
        · rw [gI_nk (by omega)]
          exact ⟨fun hk => (l3 k).1 ⟨by omega, hk.2⟩, fun hk => (l3 k).2 fun h2 => hk ⟨by omega, h2.2⟩⟩
      · rw [if_neg cs]; exact skip fun h => cs h.2
    · rw [if_pos ((hink i hi).mpr ci)]; exact skip fun h => ci h.1
  · rintro _ _ s' rec ⟨rfl, rfl, l1, l2, l3⟩
    have al : fX8_all s' = nI (w * q) := all_eq (by rw [l2 _ _ (by omega)]; exact e3) (by rw [l2 _ _ (by omega)]; exact e4)
    rw [al, if_pos (nI_le (Nat.le_refl _) (by omega))]
    exact wp_some ⟨rfl, l1, l2, fun k hk => ⟨fun h => (l3 k).1 ⟨hk, h⟩, fun h => (l3 k).2 fun h2 => h h2.2⟩⟩
theorem op15 : ∀ a σ, Rel σ → st15 Rel a σ := by
  intro a σ ⟨s, f, h⟩
  obtain ⟨hs, hf, hR1, -⟩ := id h.1
  obtain ⟨w, q, hw, hq, e1, e2, e3, e4, hd⟩ := h.2.2.1
  obtain ⟨spk, hspk, e88⟩ := h.2.2.2.2.1.spk
  have h5 := h.2.2.2.2.1
  obtain ⟨⟨v1, r1⟩, x1, a0, a1, a2, a3⟩ := wipe7 (σ := σ) (s := s) (w := w) (q := q) (spk := spk) (lvl := gI σ 32 0) (ink := inkO σ) hs ⟨by omega, hw.2⟩ ⟨by omega, hq.2⟩ e1 e2 (fun k hk => by rw [(h5 0 (by omega)).1, (hd k hk).1]; exact Int32.not_lt.symm) hspk
  dsimp only at a0 a1 a2 a3
  have i8 : ∀ k, (gI σ 83 k < gI σ 88 0 ↔ ¬ inkO σ k) := fun k => ⟨fun h h2 => h2 h, fun h => Classical.byContradiction fun h2 => h h2⟩
  obtain ⟨r2, x2, b1, b2, -, -, b5⟩ := lays8 (σ := r1) (w := w) (q := q) (spk := spk) (ink := inkO σ) ⟨by omega, hw.2⟩ ⟨by omega, hq.2⟩ (by rw [a2 _ _ (by omega) (by omega) (by omega)]; exact e3) (by rw [a2 _ _ (by omega) (by omega) (by omega)]; exact e4) (fun k hk => by rw [a2 _ _ (by omega) (by omega) (by omega), a2 _ _ (by omega) (by omega) (by omega)]; exact i8 k) (by rw [a2 _ _ (by omega) (by omega) (by omega)]; exact e88) hspk
  have k2 : ∀ c k, ¬ (92 ≤ c ∧ c ≤ 101) → ¬ (c = 73 ∧ (k = 43 ∨ k = 44)) → c ≠ s + 1 → c ≠ 42 → c ≠ 43 → gI r2 c k = gI σ c k := fun c k c1 c2 c3 c4 c5 => by rw [b2 c k c1 c2, a2 c k c3 c4 c5]
  obtain ⟨⟨v3, r3⟩, x3, d0, d1, d2, d3⟩ := clean8 (σ := r2) (w := w) (q := q) (ink := inkO σ) ⟨by omega, hw.2⟩ ⟨by omega, hq.2⟩ (by rw [k2 _ _ (by omega) (by omega) (by omega) (by omega) (by omega)]; exact e3) (by rw [k2 _ _ (by omega) (by omega) (by omega) (by omega) (by omega)]; exact e4) (fun k hk => by rw [k2 _ _ (by omega) (by omega) (by omega) (by omega) (by omega), k2 _ _ (by omega) (by omega) (by omega) (by omega) (by omega)]; exact i8 k)
  dsimp only at d0 d1 d2 d3
  have hZ : ∀ k, k < w * q → (Wp w q spk (inkO σ) (w * q) k ↔ inkO σ k ∧ gI r2 92 k = -1) := fun k hk => by
    constructor
    · rintro ⟨st, k1, k2, k3, k4⟩
      exact ⟨k4.inked k2.2.1, by rw [b5 st k k2 k4, if_neg k3]⟩
    · rintro ⟨k1, k2⟩
      obtain ⟨st, c1, c2, c3⟩ := st_of_ink k hk k1
      refine ⟨st, c2.1, c2, fun c4 => ?_, c3⟩
      rw [b5 st k c2 c3, if_pos c4] at k2
      have := st_800 (m := ql w q spk (inkO σ)) hw.2 hq.2 (fun k h => h.1) c2
      exact nI_m1 (show nB w q spk (inkO σ) st < 2 ^ 31 from by unfold nB; omega) k2
  have ev : v3 = v1 := by rw [d0, a0]; exact congrArg nI (gs_congr _ fun k hk => (hZ k hk).symm)
  subst ev
  refine ⟨v3, r1, r3, ?_, ?_, s, f, ?_⟩
  · unfold fX7_clean
    rw [hR1, (h5 1 (by omega)).1, e88, bnd_of _ x1]
  · unfold fX8_clean
    rw [bnd1_of _ x2]; exact x3
  · have k3 : ∀ c k, ¬ (92 ≤ c ∧ c ≤ 101) → ¬ (c = 73 ∧ (k = 43 ∨ k = 44)) → c ≠ s + 1 → c ≠ 42 → c ≠ 43 → c ≠ 83 → gI r3 c k = gI σ c k := fun c k c1 c2 c3 c4 c5 c6 => by rw [d2 c k c6, k2 c k c1 c2 c3 c4 c5]
    have hcls : ∀ k, gI r3 (s + 1) k = gI r1 (s + 1) k := fun k => by rw [d2 _ _ (by omega), b2 _ _ (by omega) (by omega)]
    have h83 : ∀ k, gI r2 83 k = gI σ 83 k := fun k => k2 _ _ (by omega) (by omega) (by omega) (by omega) (by omega)
    refine h.of (d1.trans (b1.trans a1)) ?h1 ?h2 ?h3 ?h4 ?h5 ?h6 ?h7 ?h8 ?h9
    case h2 =>
      refine Or.inl ⟨w, q, hw, hq, ?_, ?_, ?_, ?_, fun k hk => ?_⟩
      · rw [k3 _ _ (by omega) (by omega) (by omega) (by omega) (by omega) (by omega)]; exact e1
      · rw [k3 _ _ (by omega) (by omega) (by omega) (by omega) (by omega) (by omega)]; exact e2
      · rw [k3 _ _ (by omega) (by omega) (by omega) (by omega) (by omega) (by omega)]; exact e3
      · rw [k3 _ _ (by omega) (by omega) (by omega) (by omega) (by omega) (by omega)]; exact e4
      · by_cases c : Wp w q spk (inkO σ) (w * q) k
        · rw [hcls, (a3 k hk).1 c, (d3 k hk).1 ((hZ k hk).mp c)]
          exact ⟨rfl, by decide⟩
        · rw [hcls, (a3 k hk).2 c, (d3 k hk).2 fun h2 => c ((hZ k hk).mpr h2), h83]
          exact hd k hk
    all_goals exact Or.inr fun c k hp => k3 c k (by omega) (by omega) (by omega) (by omega) (by omega) (by omega)
