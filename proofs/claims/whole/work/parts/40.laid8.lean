/-! The reference's blobs laid; blob kept. -/
def Bg (w q : Nat) (ink : Nat → Prop) (st b : Nat) (σ : SS) : Prop := gI σ 97 b = nI st ∧ gI σ 98 b = nI (mnV (Conn w q ink st) fun k => k % w) ∧ gI σ 99 b = nI (mxV (Conn w q ink st) fun k => k % w) ∧ gI σ 100 b = nI (mnV (Conn w q ink st) fun k => k / w) ∧ gI σ 101 b = nI (mxV (Conn w q ink st) fun k => k / w)
theorem st_of_ink {w q : Nat} {ink : Nat → Prop} : ∀ k, k < w * q → ink k → ∃ st, st ≤ k ∧ isSt w q ink st ∧ Conn w q ink st k := by
  intro k
  induction k using Nat.strongRecOn with
  | _ k ih =>
    intro hk hi
    by_cases c : isSt w q ink k
    · exact ⟨k, Nat.le_refl _, c, Conn.rf⟩
    · rw [Sn.st hk] at c
      have h3 : Sn w q ink k k := Classical.byContradiction fun h => c ⟨hi, h⟩
      obtain ⟨j, k1, k2, k3, k4⟩ := h3
      obtain ⟨st, a1, a2, a3⟩ := ih j k1 k2 k3
      exact ⟨st, by omega, a2, a3.tr k4⟩
theorem st_one {w q a b k : Nat} {ink : Nat → Prop} (ha : isSt w q ink a) (hb : isSt w q ink b) (h1 : Conn w q ink a k) (h2 : Conn w q ink b k) : a = b := by
  rcases Nat.lt_trichotomy a b with c | c | c
  · exact absurd (h1.tr (h2.sym hb.2.1)) (hb.2.2 a c ha.2.1)
  · exact c
  · exact absurd (h2.tr (h1.sym ha.2.1)) (ha.2.2 b c hb.2.1)
theorem nB_lt {w q spk a b : Nat} {ink : Nat → Prop} (ha : ql w q spk ink a) (h : a < b) : nB w q spk ink a < nB w q spk ink b := by
  have h1 : nB w q spk ink (a + 1) = nB w q spk ink a + 1 := gs_t ha
  have h2 : nB w q spk ink (a + 1) ≤ nB w q spk ink b := gs_mono b (by omega)
  omega
def cl9 (v : Int32) : Int32 := if 0 ≤ v then v else -1
theorem m2_ne : ¬ (-2 : Int32) = -1 := by decide
theorem lays8 {σ : SS} {w q spk : Nat} {ink : Nat → Prop} (hw : 1 ≤ w ∧ w ≤ 40) (hq : 1 ≤ q ∧ q ≤ 40) (e3 : gI σ 73 29 = nI w) (e4 : gI σ 73 30 = nI q) (hink : ∀ k, k < w * q → (gI σ 83 k < gI σ 88 0 ↔ ¬ ink k)) (e88 : gI σ 88 1 = nI spk) (hspk : 1 ≤ spk ∧ spk ≤ 20) : WP (fX8_laysBlobs σ) (fun r => gR r = gR σ ∧ (∀ c k, ¬ (92 ≤ c ∧ c ≤ 101) → ¬ (c = 73 ∧ (k = 43 ∨ k = 44)) → gI r c k = gI σ c k) ∧ gI r 73 43 = nI (nB w q spk ink (w * q)) ∧ (∀ st, st < w * q → ql w q spk ink st → Bd 94 w q ink st (nB w q spk ink st) r ∧ Bg w q ink st (nB w q spk ink st) r) ∧ ∀ st k, isSt w q ink st → Conn w q ink st k → gI r 92 k = if spk ≤ szS w q ink st then nI (nB w q spk ink st) else -1) := by
  have hN := area_le hw.2 hq.2
  unfold fX8_laysBlobs
  refine wp_vv ?_; intro σ1 h1
  have aF : ∀ c k, ¬ (c = 73 ∧ k = 43) → gI σ1 c k = gI σ c k := fun c k hc => by rw [h1, gI_nk hc]
  have al : ∀ s', (∀ c k, ¬ (92 ≤ c ∧ c ≤ 101) → ¬ (c = 73 ∧ (k = 43 ∨ k = 44)) → gI s' c k = gI σ c k) → fX8_all s' = nI (w * q) := fun s' h => all_eq (by rw [h _ _ (by omega) (by omega)]; exact e3) (by rw [h _ _ (by omega) (by omega)]; exact e4)
  unfold X8_laysBlobs_L7
  refine wf_2 (w * q) (fun i v s' => v = nI i ∧ gR s' = gR σ ∧ gI s' 73 43 = nI 0 ∧ (∀ k, k < i → gI s' 92 k = -1) ∧ ∀ c k, ¬ (92 ≤ c ∧ c ≤ 101) → ¬ (c = 73 ∧ (k = 43 ∨ k = 44)) → gI s' c k = gI σ c k) ⟨rfl, by rw [h1]; rfl, by rw [h1, gI_eq]; rfl, fun k hk => absurd hk (by omega), fun c k c1 c2 => aF c k (by omega)⟩ (by omega) ?_ ?_
  · rintro i _ s' rec hi ⟨rfl, i1, i2, i3, i4⟩ hr
    rw [al s' i4, if_neg (nI_ge hi (by omega)), nI_clamp (by omega), nI_1]
    refine wp_grd (inb_nI (by omega) (by decide)) ?_
    refine wp_vv ?_; intro s2 g2
    refine hr _ _ ⟨rfl, by rw [g2]; exact i1, by rw [g2, gI_ne (by omega)]; exact i2, fun k hk => ?_, fun c k c1 c2 => by rw [g2, gI_nk (by omega)]; exact i4 c k c1 c2⟩
    by_cases e : k = i
    · subst e; rw [g2, gI_eq]
    · rw [g2, gI_nk (by omega)]; exact i3 k (by omega)
  rintro _ s0 rec0 ⟨rfl, j1, j2, j3, j4⟩
  rw [al s0 j4, if_pos (nI_le (Nat.le_refl _) (by omega))]
  clear rec0
  unfold X8_laysBlobs_L30
  refine wf_2 (w * q) (fun i v s' => v = nI i ∧ gR s' = gR σ ∧ (∀ c k, ¬ (92 ≤ c ∧ c ≤ 101) → ¬ (c = 73 ∧ (k = 43 ∨ k = 44)) → gI s' c k = gI σ c k) ∧ (∀ k, k < w * q → (gI s' 92 k = -1 ↔ ¬ Sn w q ink i k)) ∧ (∀ st k, st < i → isSt w q ink st → Conn w q ink st k → gI s' 92 k = if spk ≤ szS w q ink st then nI (nB w q spk ink st) else -2) ∧ gI s' 73 43 = nI (nB w q spk ink i) ∧ ∀ st, st < i → ql w q spk ink st → Bd 94 w q ink st (nB w q spk ink st) s' ∧ Bg w q ink st (nB w q spk ink st) s') ⟨rfl, j1, j4, fun k hk => ⟨fun _ ⟨j, k1, _⟩ => by omega, fun _ => j3 k hk⟩, fun st k hst => absurd hst (by omega), j2, fun st hst => absurd hst (by omega)⟩ (by omega) ?_ ?_
  · rintro i _ s' rec hi ⟨rfl, i1, i2, i3, i4, i5, i6⟩ hr
    rw [al s' i2, if_neg (nI_ge hi (by omega)), nI_clamp (by omega), nI_1]
    refine wp_grd (inb_nI (by omega) (by decide)) ?_
    have hink' : ∀ k, k < w * q → (gI s' 83 k < gI s' 88 0 ↔ ¬ ink k) := fun k hk => by rw [i2 _ _ (by omega) (by omega), i2 _ _ (by omega) (by omega)]; exact hink k hk
    have same : ¬ isSt w q ink i → WP (rec (nI (i + 1)) s') (fun r => gR r = gR σ ∧ (∀ c k, ¬ (92 ≤ c ∧ c ≤ 101) → ¬ (c = 73 ∧ (k = 43 ∨ k = 44)) → gI r c k = gI σ c k) ∧ gI r 73 43 = nI (nB w q spk ink (w * q)) ∧ (∀ st, st < w * q → ql w q spk ink st → Bd 94 w q ink st (nB w q spk ink st) r ∧ Bg w q ink st (nB w q spk ink st) r) ∧ ∀ st k, isSt w q ink st → Conn w q ink st k → gI r 92 k = if spk ≤ szS w q ink st then nI (nB w q spk ink st) else -1) := fun hst => by
      have e : nB w q spk ink (i + 1) = nB w q spk ink i := gs_f fun h => hst h.1
      refine hr _ _ ⟨rfl, i1, i2, fun k hk => by rw [Sn.same hi hst]; exact i3 k hk, fun st k k1 k2 => ?_, by rw [e]; exact i5, fun st k1 k2 => ?_⟩
      · by_cases e2 : st = i
        · subst e2; exact absurd k2 hst
        · exact i4 st k (by omega) k2
      · by_cases e2 : st = i
        · subst e2; exact absurd k2.1 hst
        · exact i6 st (by omega) k2
    by_cases ci : ink i
    · rw [if_neg fun h => (hink' i hi).mp h ci]
      by_cases cs : gI s' 92 i = -1
      · rw [if_pos cs]
        have hnew : ink i ∧ ¬ Sn w q ink i i := ⟨ci, (i3 i hi).mp cs⟩
        have hst : isSt w q ink i := (Sn.st hi).mpr hnew
        have hb8 : nB w q spk ink i < 800 := st_800 hw.2 hq.2 (fun k h => h.1) hst
        refine wp_bnd1 (blob8 (σg := s') (S := Sn w q ink i) (ink := ink) hw hq (by rw [i2 _ _ (by omega) (by omega)]; exact e3) (by rw [i2 _ _ (by omega) (by omega)]; exact e4) i5 (by omega) i3 hink' hi hnew) ?_
        rintro s6 ⟨L, n, hm, hbf, h94, h97, hA⟩
        obtain ⟨m1, m2, m3, m4, m5⟩ := hm
        have hmem := hbf.done hnew.1 fun a b ha hn hb => Sn.cl ha hn hb
        have hsz2 : n = szS w q ink i := by rw [← ls_1 L n, list_sz hbf hmem]; rfl
        have hle := hbf.le
        have fr : ∀ c k, ¬ (92 ≤ c ∧ c ≤ 101) → ¬ (c = 73 ∧ (k = 43 ∨ k = 44)) → gI s6 c k = gI σ c k := fun c k c1 c2 => by rw [m5 c k (by omega) (by omega) (by omega) (by omega)]; exact i2 c k c1 c2
        have e43 : gI s6 73 43 = nI (nB w q spk ink i) := by rw [m5 _ _ (by omega) (by omega) (by omega) (by omega)]; exact i5
        have e88' : gI s6 88 1 = nI spk := (fr _ _ (by omega) (by omega)).trans e88
        have old : ∀ st, st < i → ql w q spk ink st → Bd 94 w q ink st (nB w q spk ink st) s6 ∧ Bg w q ink st (nB w q spk ink st) s6 := fun st k1 k2 => by
          have hlt := nB_lt k2 k1
          obtain ⟨u1, u2⟩ := i6 st k1 k2
          refine ⟨u1.fr fun j hj => m5 _ _ (by omega) (by omega) (by omega) (by omega), ?_⟩
          unfold Bg at *
          rw [m5 _ _ (by omega) (by omega) (by omega) (by omega), m5 _ _ (by omega) (by omega) (by omega) (by omega), m5 _ _ (by omega) (by omega) (by omega) (by omega), m5 _ _ (by omega) (by omega) (by omega) (by omega), m5 _ _ (by omega) (by omega) (by omega) (by omega)]
          exact u2
        have apart : ∀ st k, st < i → isSt w q ink st → Conn w q ink st k → ¬ mem L n k := fun st k k1 k2 k3 h => by
          have := st_one k2 hst k3 ((hmem k).mp h); omega
        rw [m2, e88', e43]
        by_cases c : n < spk
        · rw [if_pos (nI_lt c (by omega))]
          have e : nB w q spk ink (i + 1) = nB w q spk ink i := gs_f fun h => by have := h.2; omega
          unfold X8_laysBlobs_L99
          refine wf_2 n (fun j v s7 => v = nI j ∧ gR s7 = gR σ ∧ (∀ c k, c ≠ 92 → gI s7 c k = gI s6 c k) ∧ ∀ k, k < 1600 → (mem L j k → gI s7 92 k = -2) ∧ (¬ mem L j k → gI s7 92 k = gI s6 92 k)) ⟨rfl, m1.trans i1, fun _ _ _ => rfl, fun k hk => ⟨fun ⟨j, k1, _⟩ => by omega, fun _ => rfl⟩⟩ (by omega) ?_ ?_
          · rintro j _ s7 rec7 hj ⟨rfl, l1, l2, l3⟩ hr7
            have lL := (hbf.2.2.2.1 j hj).1
            rw [l2 73 44 (by omega), m2, if_neg (nI_ge hj (by omega)), nI_clamp (by omega), l2 93 j (by omega), m3 j hj, nI_clamp (by omega), nI_1]
            refine wp_grd (inb_nI (by omega) (by decide)) (wp_grd (inb_nI (by omega) (by decide)) ?_)
            refine wp_vv ?_; intro s8 g8
            refine hr7 _ _ ⟨rfl, by rw [g8]; exact l1, fun c k hc => by rw [g8, gI_ne hc]; exact l2 c k hc, fun k hk => ?_⟩
            rw [g8]
            by_cases ek : k = L j
            · subst ek; rw [gI_eq]; exact ⟨fun _ => rfl, fun h => absurd ⟨j, by omega, rfl⟩ h⟩
            · rw [gI_nk (by omega)]
              refine ⟨fun ⟨u, u1, u2⟩ => ?_, fun h => (l3 k hk).2 fun ⟨u, u1, u2⟩ => h ⟨u, by omega, u2⟩⟩
              by_cases eu : u = j
              · subst eu; exact absurd u2.symm ek
              · exact (l3 k hk).1 ⟨u, by omega, u2⟩
          · rintro _ s7 rec7 ⟨rfl, l1, l2, l3⟩
            rw [l2 73 44 (by omega), m2, if_pos (nI_le (Nat.le_refl _) (by omega))]
            refine hr _ _ ⟨rfl, l1, fun c k c1 c2 => by rw [l2 c k (by omega)]; exact fr c k c1 c2, fun k hk => ?_, fun st k k1 k2 k3 => ?_, by rw [l2 _ _ (by omega), e]; exact e43, fun st k1 k2 => ?_⟩
            · rw [Sn.s hi]
              by_cases hk2 : mem L n k
              · rw [(l3 k (by omega)).1 hk2]
                exact ⟨fun h => absurd h m2_ne, fun h => absurd (Or.inr ⟨ci, (hmem k).mp hk2⟩) h⟩
              · rw [(l3 k (by omega)).2 hk2, (m4 k (by omega)).2 hk2, i3 k hk]
                exact ⟨fun h h2 => h2.elim h fun x => hk2 ((hmem k).mpr x.2), fun h h2 => h (Or.inl h2)⟩
            · have hkN := k3.lt k2.1
              by_cases e2 : st = i
              · subst e2
                rw [(l3 k (by omega)).1 ((hmem k).mpr k3), if_neg (by omega)]
              · have hk2 := apart st k (by omega) k2 k3
                rw [(l3 k (by omega)).2 hk2, (m4 k (by omega)).2 hk2]
                exact i4 st k (by omega) k2 k3
            · by_cases e2 : st = i
              · subst e2; have := k2.2; omega
              · obtain ⟨u1, u2⟩ := old st (by omega) k2
                refine ⟨u1.fr fun j hj => l2 _ _ (by omega), ?_⟩
                unfold Bg at *
                rw [l2 _ _ (by omega), l2 _ _ (by omega), l2 _ _ (by omega), l2 _ _ (by omega), l2 _ _ (by omega)]
                exact u2
        · have hql : ql w q spk ink i := ⟨hst, by omega⟩
          have e : nB w q spk ink (i + 1) = nB w q spk ink i + 1 := gs_t hql
          rw [if_neg (nI_nlt (by omega) (by omega)), nI_1]
          refine wp_vv ?_; intro s7 g7
          have f7 : ∀ c k, ¬ (c = 73 ∧ k = 43) → gI s7 c k = gI s6 c k := fun c k hc => by rw [g7, gI_nk hc]
          refine hr _ _ ⟨rfl, by rw [g7]; exact m1.trans i1, fun c k c1 c2 => by rw [f7 c k (by omega)]; exact fr c k c1 c2, fun k hk => ?_, fun st k k1 k2 k3 => ?_, by rw [g7, gI_eq, e], fun st k1 k2 => ?_⟩
          · rw [Sn.s hi, f7 _ _ (by omega)]
            by_cases hk2 : mem L n k
            · rw [(m4 k (by omega)).1 hk2]
              exact ⟨fun h => absurd h (nI_m1 (by omega)), fun h => absurd (Or.inr ⟨ci, (hmem k).mp hk2⟩) h⟩
            · rw [(m4 k (by omega)).2 hk2, i3 k hk]
              exact ⟨fun h h2 => h2.elim h fun x => hk2 ((hmem k).mpr x.2), fun h h2 => h (Or.inl h2)⟩
          · have hkN := k3.lt k2.1
            rw [f7 _ _ (by omega)]
            by_cases e2 : st = i
            · subst e2
              rw [(m4 k (by omega)).1 ((hmem k).mpr k3), if_pos (by omega)]
            · have hk2 := apart st k (by omega) k2 k3
              rw [(m4 k (by omega)).2 hk2]
              exact i4 st k (by omega) k2 k3
          · by_cases e2 : st = i
            · subst e2
              obtain ⟨f1, f2, f3, f4, f5, f6⟩ := hA
              have kx : ∀ k, Conn w q ink st k → k % w ≤ 40 ∧ k / w ≤ 40 := fun k hk => by
                have h1 := hk.lt hi
                have h2 : k % w < w := Nat.mod_lt _ (by omega)
                have h3 : k / w < q := Nat.div_lt_of_lt_mul h1
                omega
              refine ⟨⟨by rw [f7 _ _ (by omega), h94, hsz2], ?_, ?_⟩, by rw [f7 _ _ (by omega)]; exact h97, ?_, ?_, ?_, ?_⟩
              · rw [f7 _ _ (by omega)]; exact f1.trans (by rw [list_sz hbf hmem])
              · rw [f7 _ _ (by omega)]; exact f2.trans (by rw [list_sz hbf hmem])
              · rw [f7 _ _ (by omega), f3, mn_of hmem (Or.inr ⟨hbf.1, fun k hk => (kx k hk).1⟩)]
              · rw [f7 _ _ (by omega), f4, mx_of hmem (Or.inr ⟨hbf.1, fun k hk => Nat.zero_le _⟩)]
              · rw [f7 _ _ (by omega), f5, mn_of hmem (Or.inr ⟨hbf.1, fun k hk => (kx k hk).2⟩)]
              · rw [f7 _ _ (by omega), f6, mx_of hmem (Or.inr ⟨hbf.1, fun k hk => Nat.zero_le _⟩)]
            · obtain ⟨u1, u2⟩ := old st (by omega) k2
              refine ⟨u1.fr fun j hj => f7 _ _ (by omega), ?_⟩
              unfold Bg at *
              rw [f7 _ _ (by omega), f7 _ _ (by omega), f7 _ _ (by omega), f7 _ _ (by omega), f7 _ _ (by omega)]
              exact u2
      · rw [if_neg cs]
        exact same fun h => cs ((i3 i hi).mpr ((Sn.st hi).mp h).2)
    · rw [if_pos ((hink' i hi).mpr ci)]
      exact same fun h => ci h.2.1
  rintro _ s1 rec1 ⟨rfl, i1, i2, i3, i4, i5, i6⟩
  rw [al s1 i2, if_pos (nI_le (Nat.le_refl _) (by omega))]
  clear rec1
  unfold X8_laysBlobs_L134
  refine wf_2 (w * q) (fun i v s' => v = nI i ∧ gR s' = gR σ ∧ (∀ c k, c ≠ 92 → gI s' c k = gI s1 c k) ∧ ∀ k, gI s' 92 k = if k < i then cl9 (gI s1 92 k) else gI s1 92 k) ⟨rfl, i1, fun _ _ _ => rfl, fun k => by rw [if_neg (by omega)]⟩ (by omega) ?_ ?_
  · rintro i _ s' rec hi ⟨rfl, l1, l2, l3⟩ hr
    rw [al s' (fun c k c1 c2 => by rw [l2 c k (by omega)]; exact i2 c k c1 c2), if_neg (nI_ge hi (by omega)), nI_clamp (by omega), nI_1]
    refine wp_grd (inb_nI (by omega) (by decide)) ?_
    refine wp_vk1 (fun v => v = cl9 (gI s1 92 i)) ?_ fun j hj => ?_
    · rintro _ rfl
      refine wp_vv ?_; intro s2 g2
      refine hr _ _ ⟨rfl, by rw [g2]; exact l1, fun c k hc => by rw [g2, gI_ne hc]; exact l2 c k hc, fun k => ?_⟩
      by_cases e : k = i
      · subst e; rw [g2, gI_eq, if_pos (by omega)]
      · rw [g2, gI_nk (by omega), l3 k]
        by_cases c : k < i
        · rw [if_pos c, if_pos (by omega)]
        · rw [if_neg c, if_neg (by omega)]
    · rw [l3 i, if_neg (c := i < i) (by omega)]
      refine wp_if (fun h => hj _ (by unfold cl9; rw [if_pos h])) fun h => hj _ (by unfold cl9; rw [if_neg h])
  · rintro _ s' rec ⟨rfl, l1, l2, l3⟩
    have fr : ∀ c k, ¬ (92 ≤ c ∧ c ≤ 101) → ¬ (c = 73 ∧ (k = 43 ∨ k = 44)) → gI s' c k = gI σ c k := fun c k c1 c2 => by rw [l2 c k (by omega)]; exact i2 c k c1 c2
    rw [al s' fr, if_pos (nI_le (Nat.le_refl _) (by omega))]
    refine wp_some ⟨l1, fr, by rw [l2 _ _ (by omega)]; exact i5, fun st k1 k2 => ?_, fun st k k1 k2 => ?_⟩
    · obtain ⟨u1, u2⟩ := i6 st k1 k2
      refine ⟨u1.fr fun j hj => l2 _ _ (by omega), ?_⟩
      unfold Bg at *
      rw [l2 _ _ (by omega), l2 _ _ (by omega), l2 _ _ (by omega), l2 _ _ (by omega), l2 _ _ (by omega)]
      exact u2
    · have hkN := k2.lt k1.1
      rw [l3 k, if_pos hkN, i4 st k k1.1 k1 k2]
      unfold cl9
      by_cases c : spk ≤ szS w q ink st
      · have hb8 : nB w q spk ink st < 800 := st_800 hw.2 hq.2 (fun k h => h.1) k1
        rw [if_pos c, if_pos (nI_pos' (by omega)), if_pos c]
      · rw [if_neg c, if_neg (by decide), if_neg c]
