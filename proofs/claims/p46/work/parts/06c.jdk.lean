/-! Rows of the JDK's own: Math, Arrays.fill, System.arraycopy; and the puts of the four references that change. -/
def mJ9_min_7cf53 : MM := (yJ9_min_7cf53, cJ9_min_7cf53, 2, some .int, { frames := 0, cells := 0, slots := 0, locals := 0 })
def mJ9_max_7cf53 : MM := (yJ9_max_7cf53, cJ9_max_7cf53, 2, some .int, { frames := 0, cells := 0, slots := 0, locals := 0 })
def mJ9_abs_0f7a4 : MM := (yJ9_abs_0f7a4, cJ9_abs_0f7a4, 1, some .int, { frames := 0, cells := 0, slots := 0, locals := 1 })
def fJ9_min_7cf53 (_ : SS) (a0 a1 : Int32) : Int32 := if a1 < a0 then a1 else a0
def fJ9_max_7cf53 (_ : SS) (a0 a1 : Int32) : Int32 := if a0 < a1 then a1 else a0
def fJ9_abs_0f7a4 (_ : SS) (a0 : Int32) : Int32 := if 0 ≤ a0 then a0 else 0 - a0
section ROWS5
variable {g : GG} {M : MM} {F : State → Array Value → List Frame → State → Prop} {pc index : Nat} {ls : List (Nat × Value)} {rest : List Value} {σ0 : SS}
theorem kJ9_min_7cf53 {a0 a1 v : Int32} (hf : fJ9_min_7cf53 σ0 a0 a1 = v) (hl : Cond.methodLink M.1.cls index yJ9_min_7cf53 ∈ lw_gt) (hR : mJ9_min_7cf53.2.2.2.2.frames + 1 ≤ M.2.2.2.2.frames ∧ 8 + (mJ9_min_7cf53.2.2.1 + 11) + mJ9_min_7cf53.2.2.2.2.locals ≤ M.2.2.2.2.locals) (hrest : (rest.map fun v => v.category).sum ≤ 8) (hd : decode M.2.1 pc = .ok (.invokestatic index, 3)) (k : RR g M F zF (pc + 3) ls (.int v :: rest) σ0) : RR g M F zF pc ls (.int a1 :: .int a0 :: rest) σ0 := by
  subst hf
  have e : (1 : Nat) ≤ M.2.2.2.2.frames := hR.1
  have e2 : 21 ≤ M.2.2.2.2.locals := hR.2
  exact fun _ _ _ _ _ _ _ _ _ _ _ C w o vv a l => va_mmin C.1 C.2.1 (C.2.2.1.trans l.1.symm) C.2.2.2.1 (C.2.2.2.2.1 _ hl) (C.2.2.2.2.1 _ tw_2_176) (C.2.2.2.2.1 _ tw_1_10) (C.2.2.2.2.1 _ tw_2_177) e (by omega) (Nat.zero_le _) (Nat.zero_le _) hd (k _ _ _ _ _ _ _ _ _ _ _ C w o vv a l)
theorem kJ9_max_7cf53 {a0 a1 v : Int32} (hf : fJ9_max_7cf53 σ0 a0 a1 = v) (hl : Cond.methodLink M.1.cls index yJ9_max_7cf53 ∈ lw_gt) (hR : mJ9_max_7cf53.2.2.2.2.frames + 1 ≤ M.2.2.2.2.frames ∧ 8 + (mJ9_max_7cf53.2.2.1 + 11) + mJ9_max_7cf53.2.2.2.2.locals ≤ M.2.2.2.2.locals) (hrest : (rest.map fun v => v.category).sum ≤ 8) (hd : decode M.2.1 pc = .ok (.invokestatic index, 3)) (k : RR g M F zF (pc + 3) ls (.int v :: rest) σ0) : RR g M F zF pc ls (.int a1 :: .int a0 :: rest) σ0 := by
  subst hf
  have e : (1 : Nat) ≤ M.2.2.2.2.frames := hR.1
  have e2 : 21 ≤ M.2.2.2.2.locals := hR.2
  exact fun _ _ _ _ _ _ _ _ _ _ _ C w o vv a l => va_mmax C.1 C.2.1 (C.2.2.1.trans l.1.symm) C.2.2.2.1 (C.2.2.2.2.1 _ hl) (C.2.2.2.2.1 _ tw_2_179) (C.2.2.2.2.1 _ tw_1_10) (C.2.2.2.2.1 _ tw_2_180) e (by omega) (Nat.zero_le _) (Nat.zero_le _) hd (k _ _ _ _ _ _ _ _ _ _ _ C w o vv a l)
theorem kJ9_abs_0f7a4 {a0 v : Int32} (hf : fJ9_abs_0f7a4 σ0 a0 = v) (hl : Cond.methodLink M.1.cls index yJ9_abs_0f7a4 ∈ lw_gt) (hR : mJ9_abs_0f7a4.2.2.2.2.frames + 1 ≤ M.2.2.2.2.frames ∧ 8 + (mJ9_abs_0f7a4.2.2.1 + 11) + mJ9_abs_0f7a4.2.2.2.2.locals ≤ M.2.2.2.2.locals) (hrest : (rest.map fun v => v.category).sum ≤ 8) (hd : decode M.2.1 pc = .ok (.invokestatic index, 3)) (k : RR g M F zF (pc + 3) ls (.int v :: rest) σ0) : RR g M F zF pc ls (.int a0 :: rest) σ0 := by
  subst hf
  have e : (1 : Nat) ≤ M.2.2.2.2.frames := hR.1
  have e2 : 21 ≤ M.2.2.2.2.locals := hR.2
  exact fun _ _ _ _ _ _ _ _ _ _ _ C w o vv a l => va_mabs C.1 C.2.1 (C.2.2.1.trans l.1.symm) C.2.2.2.1 (C.2.2.2.2.1 _ hl) (C.2.2.2.2.1 _ tw_4_38) (C.2.2.2.2.1 _ tw_1_10) (C.2.2.2.2.1 _ tw_4_39) e (by omega) (Nat.zero_le _) (Nat.zero_le _) hd (k _ _ _ _ _ _ _ _ _ _ _ C w o vv a l)
end ROWS5
/-! Arrays.fill, at any number of cells made -/
def flI (σ : SS) (c n : Nat) (v : Int32) : SS := sA σ c (fun j => if j < n then v else gI σ c j)
def flB (σ : SS) (c n : Nat) (v : Int32) : SS := flI σ c n v.toInt8.toInt32
theorem wtFI {σ σ1 : SS} {c n : Nat} {v : Int32} (e : σ1 = flI σ c n v) (h : WT σ) : WT σ1 := e ▸ h.sA c _
theorem wtFB {σ σ1 : SS} {c n : Nat} {v : Int32} (e : σ1 = flB σ c n v) (h : WT σ) : WT σ1 := e ▸ h.sA c _
theorem SS_ext {a b : SS} (h1 : ∀ c k, gI a c k = gI b c k) (h2 : a.2 = b.2) : a = b := Prod.ext (by funext c k; exact h1 c k) h2
theorem flI_0 (σ : SS) (c : Nat) (v : Int32) : flI σ c 0 v = σ := SS_ext (fun c' k => by unfold flI; rw [gI_sA]; by_cases h : c' = c <;> simp [h]) rfl
theorem flI_s (σ : SS) (c n : Nat) (v : Int32) : sI (flI σ c n v) c n v = flI σ c (n + 1) v := SS_ext (fun c' k => by
  unfold flI; rw [gI_sI, gI_sA, gI_sA]
  by_cases h : c' = c
  · subst h
    by_cases h2 : k = n
    · subst h2; simp
    · simp only [h2, and_false, if_false, if_true]
      by_cases h3 : k < n
      · rw [if_pos h3, if_pos (by omega)]
      · rw [if_neg h3, if_neg (by omega)]
  · simp [h]) rfl
theorem shp_n {c k n : Nat} (h : shp c = (k, n)) : n ≤ 4800 := by
  rcases Nat.lt_or_ge c 73 with h1 | h1
  · have := (by decide +kernel : ∀ c, c < 73 → (shp c).2 ≤ 4800) c h1
    rw [h] at this; exact this
  · rw [shp_big h1] at h; cases h; decide
theorem inb_nI {i n : Nat} (h : i < n) (hn : n < 2 ^ 31) : inb (nI i) n = true := decide_eq_true (nI_in h hn)
def mJ7_fill_53178 : MM := (yJ7_fill_53178, cJ7_fill_53178, 4, none, { frames := 0, cells := 0, slots := 0, locals := 0 })
def mJ7_fill_031fb : MM := (yJ7_fill_031fb, cJ7_fill_031fb, 4, none, { frames := 0, cells := 0, slots := 0, locals := 0 })
theorem dJ7_fill_53178_0 : decode cJ7_fill_53178 0 = .ok (.iconst 0, 1) := by decide +kernel
theorem dJ7_fill_53178_1 : decode cJ7_fill_53178 1 = .ok (.istore_n 2, 1) := by decide +kernel
theorem dJ7_fill_53178_2 : decode cJ7_fill_53178 2 = .ok (.aload_n 0, 1) := by decide +kernel
theorem dJ7_fill_53178_3 : decode cJ7_fill_53178 3 = .ok (.arraylength, 1) := by decide +kernel
theorem dJ7_fill_53178_4 : decode cJ7_fill_53178 4 = .ok (.istore_n 3, 1) := by decide +kernel
theorem dJ7_fill_53178_5 : decode cJ7_fill_53178 5 = .ok (.iload_n 2, 1) := by decide +kernel
theorem dJ7_fill_53178_6 : decode cJ7_fill_53178 6 = .ok (.iload_n 3, 1) := by decide +kernel
theorem dJ7_fill_53178_7 : decode cJ7_fill_53178 7 = .ok (.if_icmp .ge 13, 3) := by decide +kernel
theorem dJ7_fill_53178_10 : decode cJ7_fill_53178 10 = .ok (.aload_n 0, 1) := by decide +kernel
theorem dJ7_fill_53178_11 : decode cJ7_fill_53178 11 = .ok (.iload_n 2, 1) := by decide +kernel
theorem dJ7_fill_53178_12 : decode cJ7_fill_53178 12 = .ok (.iload_n 1, 1) := by decide +kernel
theorem dJ7_fill_53178_13 : decode cJ7_fill_53178 13 = .ok (.iastore, 1) := by decide +kernel
theorem dJ7_fill_53178_14 : decode cJ7_fill_53178 14 = .ok (.iinc 2 1, 3) := by decide +kernel
theorem dJ7_fill_53178_17 : decode cJ7_fill_53178 17 = .ok (.goto (-12), 3) := by decide +kernel
theorem dJ7_fill_53178_20 : decode cJ7_fill_53178 20 = .ok (.return_, 1) := by decide +kernel
theorem dJ7_fill_031fb_0 : decode cJ7_fill_031fb 0 = .ok (.iconst 0, 1) := by decide +kernel
theorem dJ7_fill_031fb_1 : decode cJ7_fill_031fb 1 = .ok (.istore_n 2, 1) := by decide +kernel
theorem dJ7_fill_031fb_2 : decode cJ7_fill_031fb 2 = .ok (.aload_n 0, 1) := by decide +kernel
theorem dJ7_fill_031fb_3 : decode cJ7_fill_031fb 3 = .ok (.arraylength, 1) := by decide +kernel
theorem dJ7_fill_031fb_4 : decode cJ7_fill_031fb 4 = .ok (.istore_n 3, 1) := by decide +kernel
theorem dJ7_fill_031fb_5 : decode cJ7_fill_031fb 5 = .ok (.iload_n 2, 1) := by decide +kernel
theorem dJ7_fill_031fb_6 : decode cJ7_fill_031fb 6 = .ok (.iload_n 3, 1) := by decide +kernel
theorem dJ7_fill_031fb_7 : decode cJ7_fill_031fb 7 = .ok (.if_icmp .ge 13, 3) := by decide +kernel
theorem dJ7_fill_031fb_10 : decode cJ7_fill_031fb 10 = .ok (.aload_n 0, 1) := by decide +kernel
theorem dJ7_fill_031fb_11 : decode cJ7_fill_031fb 11 = .ok (.iload_n 2, 1) := by decide +kernel
theorem dJ7_fill_031fb_12 : decode cJ7_fill_031fb 12 = .ok (.iload_n 1, 1) := by decide +kernel
theorem dJ7_fill_031fb_13 : decode cJ7_fill_031fb 13 = .ok (.bastore, 1) := by decide +kernel
theorem dJ7_fill_031fb_14 : decode cJ7_fill_031fb 14 = .ok (.iinc 2 1, 3) := by decide +kernel
theorem dJ7_fill_031fb_17 : decode cJ7_fill_031fb 17 = .ok (.goto (-12), 3) := by decide +kernel
theorem dJ7_fill_031fb_20 : decode cJ7_fill_031fb 20 = .ok (.return_, 1) := by decide +kernel
theorem fillI_w {g : GG} {σ : SS} {c0 n N : Nat} {v : Int32} (hs : shp c0 = (20, n)) (hz : 1 ≤ c0 ∧ c0 ≤ cnt N) : ∀ d i : Nat, i + d = n →
    RR g mJ7_fill_53178 (FinR g mJ7_fill_53178 none N (flI σ c0 n v)) (N, 0, 0) 5 [(0, .ref (ad g c0)), (1, .int v), (2, .int (nI i)), (3, .int (nI n))] [] (flI σ c0 i v) := by
  have hn : n < 2 ^ 31 := Nat.lt_of_le_of_lt (shp_n hs) (by decide)
  intro d
  induction d with
  | zero =>
    intro i hi
    have : i = n := by omega
    subst this
    refine r_iload_n (pc := 5) (j := 2) dJ7_fill_53178_5 rfl rfl ?_
    refine r_iload_n (pc := 6) (j := 3) dJ7_fill_53178_6 rfl rfl ?_
    refine r_icmp_ge (pc := 7) (tgt := 20) dJ7_fill_53178_7 rfl (fun _ => ?_) (fun h => absurd (nI_le (Nat.le_refl _) hn) h)
    exact r_vret (pc := 20) rfl rfl ⟨Nat.le_refl _, Nat.le_refl _⟩ dJ7_fill_53178_20
  | succ d ih =>
    intro i hi
    refine r_iload_n (pc := 5) (j := 2) dJ7_fill_53178_5 rfl rfl ?_
    refine r_iload_n (pc := 6) (j := 3) dJ7_fill_53178_6 rfl rfl ?_
    refine r_icmp_ge (pc := 7) (tgt := 20) dJ7_fill_53178_7 rfl (fun h => absurd h (nI_ge (by omega) hn)) (fun _ => ?_)
    refine r_aload_n (pc := 10) (j := 0) dJ7_fill_53178_10 rfl rfl ?_
    refine r_iload_n (pc := 11) (j := 2) dJ7_fill_53178_11 rfl rfl ?_
    refine r_iload_n (pc := 12) (j := 1) dJ7_fill_53178_12 rfl rfl ?_
    refine r_iast (pc := 13) hs hz (inb_nI (by omega) hn) dJ7_fill_53178_13 ?_
    rw [nI_clamp (by omega), flI_s]
    refine r_iinc (pc := 14) (j := 2) (v := nI (i + 1)) (ls1 := [(2, .int (nI (i + 1))), (0, .ref (ad g c0)), (1, .int v), (3, .int (nI n))]) dJ7_fill_53178_14 rfl (nI_succ i).symm (nle rfl) rfl ?_
    refine r_goto (pc := 17) (tgt := 5) dJ7_fill_53178_17 rfl ?_
    exact r_pick (ls1 := [(0, .ref (ad g c0)), (1, .int v), (2, .int (nI (i + 1))), (3, .int (nI n))]) [1, 2, 0, 3] rfl (ih (i + 1) (by omega))
theorem fillI_ct {g : GG} {σ : SS} {c0 n N : Nat} {v : Int32} (hs : shp c0 = (20, n)) (hz : 1 ≤ c0 ∧ c0 ≤ cnt N) : Ct g mJ7_fill_53178 [.ref (ad g c0), .int v] N σ none N (flI σ c0 n v) := by
  refine Ct.of (by decide +kernel) (nle rfl) fun hw0 => ?_
  change RR g mJ7_fill_53178 (FinR g mJ7_fill_53178 none N (flI σ c0 n v)) (N, 0, 0) 0 [(0, .ref (ad g c0)), (1, .int v)] [] σ
  refine r_iconst (pc := 0) (v := nI 0) dJ7_fill_53178_0 rfl ?_
  refine r_istore_n (pc := 1) (ls1 := [(2, .int (nI 0)), (0, .ref (ad g c0)), (1, .int v)]) dJ7_fill_53178_1 rfl (nle rfl) rfl ?_
  refine r_aload_n (pc := 2) (j := 1) dJ7_fill_53178_2 rfl rfl ?_
  refine r_alen (pc := 3) hs hz dJ7_fill_53178_3 ?_
  refine r_istore_n (pc := 4) (ls1 := [(3, .int (nI n)), (2, .int (nI 0)), (0, .ref (ad g c0)), (1, .int v)]) dJ7_fill_53178_4 rfl (nle rfl) rfl ?_
  have h := fillI_w (g := g) (σ := σ) (v := v) hs hz n 0 (by omega)
  rw [flI_0] at h
  exact r_pick (ls1 := [(0, .ref (ad g c0)), (1, .int v), (2, .int (nI 0)), (3, .int (nI n))]) [2, 3, 1, 0] rfl h
theorem fillB_w {g : GG} {σ : SS} {c0 n N : Nat} {v : Int32} (hs : shp c0 = (21, n)) (hz : 1 ≤ c0 ∧ c0 ≤ cnt N) : ∀ d i : Nat, i + d = n →
    RR g mJ7_fill_031fb (FinR g mJ7_fill_031fb none N (flB σ c0 n v)) (N, 0, 0) 5 [(0, .ref (ad g c0)), (1, .int v), (2, .int (nI i)), (3, .int (nI n))] [] (flB σ c0 i v) := by
  have hn : n < 2 ^ 31 := Nat.lt_of_le_of_lt (shp_n hs) (by decide)
  intro d
  induction d with
  | zero =>
    intro i hi
    have : i = n := by omega
    subst this
    refine r_iload_n (pc := 5) (j := 2) dJ7_fill_031fb_5 rfl rfl ?_
    refine r_iload_n (pc := 6) (j := 3) dJ7_fill_031fb_6 rfl rfl ?_
    refine r_icmp_ge (pc := 7) (tgt := 20) dJ7_fill_031fb_7 rfl (fun _ => ?_) (fun h => absurd (nI_le (Nat.le_refl _) hn) h)
    exact r_vret (pc := 20) rfl rfl ⟨Nat.le_refl _, Nat.le_refl _⟩ dJ7_fill_031fb_20
  | succ d ih =>
    intro i hi
    refine r_iload_n (pc := 5) (j := 2) dJ7_fill_031fb_5 rfl rfl ?_
    refine r_iload_n (pc := 6) (j := 3) dJ7_fill_031fb_6 rfl rfl ?_
    refine r_icmp_ge (pc := 7) (tgt := 20) dJ7_fill_031fb_7 rfl (fun h => absurd h (nI_ge (by omega) hn)) (fun _ => ?_)
    refine r_aload_n (pc := 10) (j := 0) dJ7_fill_031fb_10 rfl rfl ?_
    refine r_iload_n (pc := 11) (j := 2) dJ7_fill_031fb_11 rfl rfl ?_
    refine r_iload_n (pc := 12) (j := 1) dJ7_fill_031fb_12 rfl rfl ?_
    refine r_bast (pc := 13) hs hz (inb_nI (by omega) hn) dJ7_fill_031fb_13 ?_
    have e : sI (flB σ c0 i v) c0 (nI i).toNatClampNeg v.toInt8.toInt32 = flB σ c0 (i + 1) v := by rw [nI_clamp (by omega)]; exact flI_s σ c0 i _
    rw [e]
    refine r_iinc (pc := 14) (j := 2) (v := nI (i + 1)) (ls1 := [(2, .int (nI (i + 1))), (0, .ref (ad g c0)), (1, .int v), (3, .int (nI n))]) dJ7_fill_031fb_14 rfl (nI_succ i).symm (nle rfl) rfl ?_
    refine r_goto (pc := 17) (tgt := 5) dJ7_fill_031fb_17 rfl ?_
    exact r_pick (ls1 := [(0, .ref (ad g c0)), (1, .int v), (2, .int (nI (i + 1))), (3, .int (nI n))]) [1, 2, 0, 3] rfl (ih (i + 1) (by omega))
theorem fillB_ct {g : GG} {σ : SS} {c0 n N : Nat} {v : Int32} (hs : shp c0 = (21, n)) (hz : 1 ≤ c0 ∧ c0 ≤ cnt N) : Ct g mJ7_fill_031fb [.ref (ad g c0), .int v] N σ none N (flB σ c0 n v) := by
  refine Ct.of (by decide +kernel) (nle rfl) fun hw0 => ?_
  change RR g mJ7_fill_031fb (FinR g mJ7_fill_031fb none N (flB σ c0 n v)) (N, 0, 0) 0 [(0, .ref (ad g c0)), (1, .int v)] [] σ
  refine r_iconst (pc := 0) (v := nI 0) dJ7_fill_031fb_0 rfl ?_
  refine r_istore_n (pc := 1) (ls1 := [(2, .int (nI 0)), (0, .ref (ad g c0)), (1, .int v)]) dJ7_fill_031fb_1 rfl (nle rfl) rfl ?_
  refine r_aload_n (pc := 2) (j := 1) dJ7_fill_031fb_2 rfl rfl ?_
  refine r_alenb (pc := 3) hs hz dJ7_fill_031fb_3 ?_
  refine r_istore_n (pc := 4) (ls1 := [(3, .int (nI n)), (2, .int (nI 0)), (0, .ref (ad g c0)), (1, .int v)]) dJ7_fill_031fb_4 rfl (nle rfl) rfl ?_
  have h := fillB_w (g := g) (σ := σ) (v := v) hs hz n 0 (by omega)
  rw [show flB σ c0 0 v = σ from flI_0 σ c0 _] at h
  exact r_pick (ls1 := [(0, .ref (ad g c0)), (1, .int v), (2, .int (nI 0)), (3, .int (nI n))]) [2, 3, 1, 0] rfl h
section ROWS6
variable {g : GG} {M : MM} {F : State → Array Value → List Frame → State → Prop} {z : Nat × Nat × Nat} {pc index : Nat} {ls : List (Nat × Value)} {rest : List Value} {σ : SS} {c0 n : Nat}
theorem x_flI {v : Int32} (hs : shp c0 = (20, n)) (hl : Cond.methodLink M.1.cls index yJ7_fill_53178 ∈ lw_gt) (hR : mJ7_fill_53178.2.2.2.2.frames + 1 ≤ M.2.2.2.2.frames ∧ 8 + (mJ7_fill_53178.2.2.1 + 11) + mJ7_fill_53178.2.2.2.2.locals ≤ M.2.2.2.2.locals) (hrest : (rest.map fun v => v.category).sum ≤ 8) (hd : decode M.2.1 pc = .ok (.invokestatic index, 3)) (k : ∀ σ1, σ1 = flI σ c0 n v → RR g M F zF (pc + 3) ls rest σ1) : RR g M F zF pc ls (.int v :: .ref (ad g c0) :: rest) σ :=
  r_callS (N := mJ7_fill_53178) (nn := 2) (o1 := none) (fillI_ct (N := NF) hs (shp_le hs (nle rfl))) tw_2_102 tw_1_9 hl tw_2_101 ⟨by decide, by decide, rfl⟩ hR rfl hrest hd ⟨Nat.zero_le _, Nat.zero_le _⟩ rfl (fun _ => k _ rfl)
theorem x_flB {v : Int32} (hs : shp c0 = (21, n)) (hl : Cond.methodLink M.1.cls index yJ7_fill_031fb ∈ lw_gt) (hR : mJ7_fill_031fb.2.2.2.2.frames + 1 ≤ M.2.2.2.2.frames ∧ 8 + (mJ7_fill_031fb.2.2.1 + 11) + mJ7_fill_031fb.2.2.2.2.locals ≤ M.2.2.2.2.locals) (hrest : (rest.map fun v => v.category).sum ≤ 8) (hd : decode M.2.1 pc = .ok (.invokestatic index, 3)) (k : ∀ σ1, σ1 = flB σ c0 n v → RR g M F zF (pc + 3) ls rest σ1) : RR g M F zF pc ls (.int v :: .ref (ad g c0) :: rest) σ :=
  r_callS (N := mJ7_fill_031fb) (nn := 2) (o1 := none) (fillB_ct (N := NF) hs (shp_le hs (nle rfl))) tw_2_214 tw_1_9 hl tw_2_213 ⟨by decide, by decide, rfl⟩ hR rfl hrest hd ⟨Nat.zero_le _, Nat.zero_le _⟩ rfl (fun _ => k _ rfl)
end ROWS6
/-! System.arraycopy between two arrays of ints -/
def cpOK (sp dp n : Int32) (ns nd : Nat) : Bool := decide (¬ sp < 0 ∧ ¬ dp < 0 ∧ ¬ n < 0 ∧ sp.toNatClampNeg + n.toNatClampNeg ≤ ns ∧ dp.toNatClampNeg + n.toNatClampNeg ≤ nd)
def cpA (σ : SS) (cs : Nat) (sp : Int32) (cd : Nat) (dp n : Int32) : SS := sA σ cd (va_cpy (gI σ cs) (gI σ cd) sp.toNatClampNeg dp.toNatClampNeg n.toNatClampNeg)
theorem wtA {σ σ1 : SS} {cs cd : Nat} {sp dp n : Int32} (e : σ1 = cpA σ cs sp cd dp n) (h : WT σ) : WT σ1 := e ▸ h.sA cd _
theorem nn_toInt (z : Int32) (hz : ¬ z < 0) : z.toInt = (z.toNatClampNeg : Int) := by
  have hz0 : (0 : Int) ≤ z.toInt := by
    have := Int32.not_lt.mp hz
    simpa using Int32.le_iff_toInt_le.mp this
  show z.toInt = ((z.toInt.toNat : Nat) : Int)
  omega
section ROWS7
variable {g : GG} {M : MM} {F : State → Array Value → List Frame → State → Prop} {pc index : Nat} {ls : List (Nat × Value)} {rest : List Value} {σ : SS}
theorem x_cpy {cs cd ns nd : Nat} {sp dp n : Int32} (hs : shp cs = (20, ns)) (hs2 : shp cd = (20, nd)) (hok : cpOK sp dp n ns nd = true) (hl : Cond.methodLink M.1.cls index arraycopyName ∈ lw_gt) (hR : 1 ≤ M.2.2.2.2.frames ∧ 8 + (nativeFrameWords "java/lang/System" "arraycopy" 5 + 11) ≤ M.2.2.2.2.locals) (hrest : (rest.map fun v => v.category).sum ≤ 8) (hd : decode M.2.1 pc = .ok (.invokestatic index, 3))
    (k : ∀ σ1, σ1 = cpA σ cs sp cd dp n → RR g M F zF (pc + 3) ls rest σ1) : RR g M F zF pc ls (.int n :: .int dp :: .ref (ad g cd) :: .int sp :: .ref (ad g cs) :: rest) σ := by
  intro p e s m args below meth c H locs lsA C w o v a l
  obtain ⟨h1, h2, h3, h4, h5⟩ := of_decide_eq_true hok
  have hz := shp_le hs (nle rfl)
  have hz2 := shp_le hs2 (nle rfl)
  have hc0 : H[ad g cs]? = some (vp_cell (g.2.2.2.1 20) (ns, .inl (gI σ cs))) := w.at hz (cellE_i hs)
  have hc1 : H[ad g cd]? = some (vp_cell (g.2.2.2.1 20) (nd, .inl (gI σ cd))) := w.at hz2 (cellE_i hs2)
  have hlt : cd < 1000 := Nat.lt_of_le_of_lt hz2.2 (by decide)
  obtain ⟨-, k0, hk0, cm0, hkk0⟩ := (o.1.2 0 _ rfl).1 ns (fun j => .int (gI σ cs j))
  obtain ⟨-, k1, hk1, cm1, hkk1⟩ := (o.1.2 0 _ rfl).1 nd (fun j => .int (gI σ cd j))
  have hW : ∀ L : List Loc, (∀ q ∈ L, AA g q.base) → W p g.1 e M.2.2.2.2 s m args below meth c (H.setIfInBounds (ad g cd) (vp_cell (g.2.2.2.1 20) (nd, .inl (va_cpy (gI σ cs) (gI σ cd) sp.toNatClampNeg dp.toNatClampNeg n.toNatClampNeg)))) (locs ++ L) zF.2.1 zF.2.2 (F s args below) (F0 m (pc + 3) lsA rest) := by
    intro L hL
    have hl2 : ad g cd < H.size := (Array.getElem?_eq_some_iff.mp hc1).1
    have oq : ∀ q : Nat, q ≠ ad g cd → (H.setIfInBounds (ad g cd) (vp_cell (g.2.2.2.1 20) (nd, .inl (va_cpy (gI σ cs) (gI σ cd) sp.toNatClampNeg dp.toNatClampNeg n.toNatClampNeg))))[q]? = H[q]? := fun q hq => by simp [Array.getElem?_setIfInBounds, Ne.symm hq]
    refine k _ rfl _ _ _ _ _ _ _ _ _ _ _ C (w.set hz2 (cellE_i hs2) (ar_set (show (H.setIfInBounds (ad g cd) _)[ad g cd]? = some _ by simp [Array.getElem?_setIfInBounds, hl2]; rfl) ?_) (by simp) oq (fun c' hc => ⟨by funext j; unfold cpA; rw [gI_sA]; simp [hc], rfl, rfl⟩) (fun hn => (w.2.2.2 hn).sA _ _)) o ⟨by simp; exact v.1, fun q g1 g2 => ?_, fun q hq => ?_⟩ a l
    · rw [vp_cell_i, vp_cell_i]
      congr 1
      funext q
      unfold cpA
      rw [gI_sA]
      simp
    · rw [oq q (fun e => g2 (by rw [e]; exact ad_AA g hz2.1 hlt))]
      exact v.2.1 q g1 g2
    · rcases List.mem_append.mp hq with h | h
      · exact v.2.2 q h
      · exact hL q h
  intro T hT X
  obtain ⟨vm', X', step⟩ := X.arraycopy C.1 C.2.2.2.1 (C.2.2.2.2.1 _ hl) (C.2.2.2.2.1 _ tw_2_199) (C.2.2.2.2.1 _ tw_2_198) (C.2.2.2.2.1 _ tw_1_12) (src := ad g cs) (dst := ad g cd) (cs := vp_cell (g.2.2.2.1 20) (ns, .inl (gI σ cs))) (cd := vp_cell (g.2.2.2.1 20) (nd, .inl (gI σ cd))) (srcPos := sp) (destPos := dp) (n := n) (by rw [hT]; exact hc0) (by rw [hT]; exact hc1)
    (fun _ h => by cases h) (fun _ h => by cases h) (fun h => by cases h) (fun h => by cases h) hk0 hk1 hkk0 hkk1 (by simp [refKind]) h1 h2 h3
    (by rw [nn_toInt sp h1, nn_toInt n h3]; show ¬ _ > ((arrV _ ns (fun j => .int (gI σ cs j))).slots.size : Int); rw [arrV_size]; omega)
    (by rw [nn_toInt dp h2, nn_toInt n h3]; show ¬ _ > ((arrV _ nd (fun j => .int (gI σ cd j))).slots.size : Int); rw [arrV_size]; omega)
    (fun vm₁ _ i hi => by
      have e : (vp_cell (g.2.2.2.1 20) (ns, .inl (gI σ cs))).slots.getD (sp.toNatClampNeg + i) .null = .int (gI σ cs (sp.toNatClampNeg + i)) := by
        show (arrV _ ns (fun j => .int (gI σ cs j))).slots.getD _ _ = _
        rw [Array.getD_eq_getD_getElem?, arrV_read _ _ (by omega)]
        rfl
      refine ⟨?_, ?_⟩
      · rw [e]; rfl
      · rw [e]; exact trivial)
    (g := F0 m pc lsA (.int n :: .int dp :: .ref (ad g cd) :: .int sp :: .ref (ad g cs) :: rest)) rfl (by rw [C.2.2.1]; exact l.1) (rest := rest) rfl (by rw [C.2.1]; exact hd) hR.1 (by show 2 * 0 + _ + _ ≤ _; have := hR.2; omega)
  have e1 : copied (vp_cell (g.2.2.2.1 20) (ns, .inl (gI σ cs))) (vp_cell (g.2.2.2.1 20) (nd, .inl (gI σ cd))) sp dp n = vp_cell (g.2.2.2.1 20) (nd, .inl (va_cpy (gI σ cs) (gI σ cd) sp.toNatClampNeg dp.toNatClampNeg n.toNatClampNeg)) := va_copied (fun z => .int z) _ _ _ _ h4
  rw [e1] at X' step
  have hheap : ((T.setVm vm').setCell (ad g cd) (vp_cell (g.2.2.2.1 20) (nd, .inl (va_cpy (gI σ cs) (gI σ cd) sp.toNatClampNeg dp.toNatClampNeg n.toNatClampNeg)))).heap = H.setIfInBounds (ad g cd) (vp_cell (g.2.2.2.1 20) (nd, .inl (va_cpy (gI σ cs) (gI σ cd) sp.toNatClampNeg dp.toNatClampNeg n.toNatClampNeg))) := by rw [← hT]; rfl
  obtain ⟨t, a1, b1⟩ := hW _ (fun q hq => by obtain ⟨z, -, hz⟩ := List.mem_map.mp hq; rw [← hz]; exact ad_AA g hz2.1 hlt) _ hheap X'
  exact ⟨t, step t a1, b1⟩
/-! the four references that change -/
theorem wq_sc (hw : WT σ) : gR σ 1 2 = 3 ∨ gR σ 1 2 = 6 := hw.2.1
theorem wq_sp (hw : WT σ) : gR σ 1 3 = 3 ∨ gR σ 1 3 = 6 := hw.2.2.1
theorem wq_fo (hw : WT σ) : gR σ 1 5 = 10 ∨ gR σ 1 5 = 18 := hw.2.2.2.1
theorem wq_dr (hw : WT σ) : gR σ 1 6 = 10 ∨ gR σ 1 6 = 18 := hw.2.2.2.2
theorem fx_not {q : Nat × Nat × Nat} (hq : q ∈ fxTab) : ¬ (q.1 = 1 ∧ (q.2.1 = 2 ∨ q.2.1 = 3 ∨ q.2.1 = 5 ∨ q.2.1 = 6)) := (by decide +kernel : ∀ q ∈ fxTab, ¬ (q.1 = 1 ∧ (q.2.1 = 2 ∨ q.2.1 = 3 ∨ q.2.1 = 5 ∨ q.2.1 = 6))) q hq
theorem WT.put {k v : Nat} (hw : WT σ) (h : (k = 2 ∧ (v = 3 ∨ v = 6)) ∨ (k = 3 ∧ (v = 3 ∨ v = 6)) ∨ (k = 5 ∧ (v = 10 ∨ v = 18)) ∨ (k = 6 ∧ (v = 10 ∨ v = 18))) : WT (sR σ 1 k v) := by
  obtain ⟨h1, h2, h3, h4, h5⟩ := hw
  refine ⟨fun q hq => ?_, ?_, ?_, ?_, ?_⟩
  · rw [gR_sR, if_neg]
    · exact h1 q hq
    · intro hc
      refine fx_not hq ⟨hc.1, ?_⟩
      rcases h with h | h | h | h <;> rw [hc.2, h.1] <;> decide
  · rw [gR_sR]; split
    · next hc => rcases h with h | h | h | h <;> first | exact h.2 | exact absurd (hc.2.trans h.1) (by decide)
    · exact h2
  · rw [gR_sR]; split
    · next hc => rcases h with h | h | h | h <;> first | exact absurd (hc.2.trans h.1) (by decide) | exact h.2
    · exact h3
  · rw [gR_sR]; split
    · next hc => rcases h with h | h | h | h <;> first | exact absurd (hc.2.trans h.1) (by decide) | exact h.2
    · exact h4
  · rw [gR_sR]; split
    · next hc => rcases h with h | h | h | h <;> first | exact absurd (hc.2.trans h.1) (by decide) | exact h.2
    · exact h5
theorem fval_r {c ci k v : Nat} {C : String} (h : tyC ci k = .object C) (hv : 1 ≤ v) : fval g (sR σ c k v) c ci k = .ref (ad g v) := by
  unfold fval; rw [h]; show rv g (gR (sR σ c k v) c k) = _; rw [gR_sR, if_pos ⟨rfl, rfl⟩, rv_pos g hv]
theorem pr7_2 {v : Nat} (hv : v = 3 ∨ v = 6) (hl : Cond.fieldLink M.1.cls index RX7 "scan" "LSheetReader$Scan;" ∈ lw_gt) (hd : decode M.2.1 pc = .ok (.putfield index, 3)) (k : ∀ σ1, σ1 = sR σ 1 2 v → RR g M F zF (pc + 3) ls rest σ1) : RR g M F zF pc ls (.ref (ad g v) :: .ref (ad g 1) :: rest) σ := r_putf (C := RX7) (T := TX7) (N := 14) (kf := 2) (n := 0) (ty0 := tyX7) rfl inG7 tyX7_ok nmX7 (by decide) rfl hl rfl rfl rfl rfl rfl (by decide) (by decide) rfl (fldsC_set (fval_r rfl (by omega)) (fun j h => fval_sR h) (by decide)) oth_sR (fun _ h => h.put (Or.inl ⟨rfl, hv⟩)) hd (k _ rfl)
theorem pr7_3 {v : Nat} (hv : v = 3 ∨ v = 6) (hl : Cond.fieldLink M.1.cls index RX7 "spare" "LSheetReader$Scan;" ∈ lw_gt) (hd : decode M.2.1 pc = .ok (.putfield index, 3)) (k : ∀ σ1, σ1 = sR σ 1 3 v → RR g M F zF (pc + 3) ls rest σ1) : RR g M F zF pc ls (.ref (ad g v) :: .ref (ad g 1) :: rest) σ := r_putf (C := RX7) (T := TX7) (N := 14) (kf := 3) (n := 0) (ty0 := tyX7) rfl inG7 tyX7_ok nmX7 (by decide) rfl hl rfl rfl rfl rfl rfl (by decide) (by decide) rfl (fldsC_set (fval_r rfl (by omega)) (fun j h => fval_sR h) (by decide)) oth_sR (fun _ h => h.put (Or.inr (Or.inl ⟨rfl, hv⟩))) hd (k _ rfl)
theorem pr7_5 {v : Nat} (hv : v = 10 ∨ v = 18) (hl : Cond.fieldLink M.1.cls index RX7 "form" "LSheetReader$Form;" ∈ lw_gt) (hd : decode M.2.1 pc = .ok (.putfield index, 3)) (k : ∀ σ1, σ1 = sR σ 1 5 v → RR g M F zF (pc + 3) ls rest σ1) : RR g M F zF pc ls (.ref (ad g v) :: .ref (ad g 1) :: rest) σ := r_putf (C := RX7) (T := TX7) (N := 14) (kf := 5) (n := 0) (ty0 := tyX7) rfl inG7 tyX7_ok nmX7 (by decide) rfl hl rfl rfl rfl rfl rfl (by decide) (by decide) rfl (fldsC_set (fval_r rfl (by omega)) (fun j h => fval_sR h) (by decide)) oth_sR (fun _ h => h.put (Or.inr (Or.inr (Or.inl ⟨rfl, hv⟩)))) hd (k _ rfl)
theorem pr7_6 {v : Nat} (hv : v = 10 ∨ v = 18) (hl : Cond.fieldLink M.1.cls index RX7 "draft" "LSheetReader$Form;" ∈ lw_gt) (hd : decode M.2.1 pc = .ok (.putfield index, 3)) (k : ∀ σ1, σ1 = sR σ 1 6 v → RR g M F zF (pc + 3) ls rest σ1) : RR g M F zF pc ls (.ref (ad g v) :: .ref (ad g 1) :: rest) σ := r_putf (C := RX7) (T := TX7) (N := 14) (kf := 6) (n := 0) (ty0 := tyX7) rfl inG7 tyX7_ok nmX7 (by decide) rfl hl rfl rfl rfl rfl rfl (by decide) (by decide) rfl (fldsC_set (fval_r rfl (by omega)) (fun j h => fval_sR h) (by decide)) oth_sR (fun _ h => h.put (Or.inr (Or.inr (Or.inr ⟨rfl, hv⟩)))) hd (k _ rfl)
theorem wtR {σ1 : SS} {k v : Nat} (e : σ1 = sR σ 1 k v) (hw : WT σ) (h : (k = 2 ∧ (v = 3 ∨ v = 6)) ∨ (k = 3 ∧ (v = 3 ∨ v = 6)) ∨ (k = 5 ∧ (v = 10 ∨ v = 18)) ∨ (k = 6 ∧ (v = 10 ∨ v = 18))) : WT σ1 := e ▸ hw.put h
end ROWS7
