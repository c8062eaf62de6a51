/-! Small helpers of the generated walks. -/
def lp {A : Type} (bot : A) (body : A → A) : Nat → A
  | 0 => bot
  | n + 1 => body (lp bot body n)
theorem lp_succ {A : Type} (bot : A) (body : A → A) (n : Nat) : lp bot body (n + 1) = body (lp bot body n) := rfl
theorem lp_ind {A : Type} {bot : A} {body : A → A} (P : A → Prop) (h0 : P bot) (h1 : ∀ x, P x → P (body x)) : ∀ n, P (lp bot body n)
  | 0 => h0
  | n + 1 => h1 _ (lp_ind P h0 h1 n)
def fuel : Nat := 1000000
theorem ite_t {α : Type} {c : Prop} [Decidable c] {a b r : α} (h : c) (hr : (if c then a else b) = r) : a = r := (if_pos h).symm.trans hr
theorem ite_f {α : Type} {c : Prop} [Decidable c] {a b r : α} (h : ¬ c) (hr : (if c then a else b) = r) : b = r := (if_neg h).symm.trans hr
theorem wtI {σ σ1 : SS} {c k : Nat} {v : Int32} (e : σ1 = sI σ c k v) (h : WT σ) : WT σ1 := e ▸ h.sI c k v
theorem wtL {σ σ1 : SS} {c k : Nat} {v : Int64} (e : σ1 = sL σ c k v) (h : WT σ) : WT σ1 := e ▸ h.sL c k v
section ROWS4
variable {g : GG} {M : MM} {F : State → Array Value → List Frame → State → Prop} {z : Nat × Nat × Nat} {pc : Nat} {ls : List (Nat × Value)} {rest st : List Value} {σ σ0 σ2 : SS} {c0 n : Nat}
theorem r_topb {x : Bool} (k : ∀ y, y = x → RR g M F z pc ls (.int (b2i y) :: rest) σ) : RR g M F z pc ls (.int (b2i x) :: rest) σ := k x rfl
theorem r_toz {v : Int32} (h : isb v = true) (k : RR g M F z pc ls (.int (b2i (i2b v)) :: rest) σ) : RR g M F z pc ls (.int v :: rest) σ := by rw [b2i_i2b h] at k; exact k
theorem r_iincv {i j : Nat} {n : Int} {x : Int32} {w : Int32} (hd : decode M.2.1 pc = .ok (.iinc i n, 3)) (hk : ls[j]? = some (i, .int x)) (hv : x + Int32.ofInt n = w) (hn : i < M.2.2.1) (k : ∀ v, v = w → RR g M F z (pc + 3) ((i, Value.int v) :: ls.filter (fun q => !(q.1 == i) && !(q.1 + 1 == i && q.2.category == 2))) rest σ) : RR g M F z pc ls rest σ := r_iinc hd hk hv hn rfl (k _ rfl)
theorem r_upd {ls1 : List (Nat × Value)} (h : ls = ls1) (k : RR g M F z pc ls1 st σ) : RR g M F z pc ls st σ := h ▸ k
/-! leaves -/
theorem l_pi {v r : Int32} (hr : v = r) (h : RR g M (FinR g M (some (.int v)) NF σ2) z pc ls st σ) : RR g M (FinR g M (some (.int r)) NF σ2) z pc ls st σ := hr ▸ h
theorem l_pl {v r : Int64} (hr : v = r) (h : RR g M (FinR g M (some (.long v)) NF σ2) z pc ls st σ) : RR g M (FinR g M (some (.long r)) NF σ2) z pc ls st σ := hr ▸ h
theorem l_pz {v r : Bool} (hr : v = r) (h : RR g M (FinR g M (some (.int (b2i v))) NF σ2) z pc ls st σ) : RR g M (FinR g M (some (.int (b2i r))) NF σ2) z pc ls st σ := hr ▸ h
theorem l_opi {v r : Int32} (hr : some v = some r) (h : RR g M (FinR g M (some (.int v)) NF σ2) z pc ls st σ) : RR g M (FinR g M (some (.int r)) NF σ2) z pc ls st σ := Option.some.inj hr ▸ h
theorem l_opl {v r : Int64} (hr : some v = some r) (h : RR g M (FinR g M (some (.long v)) NF σ2) z pc ls st σ) : RR g M (FinR g M (some (.long r)) NF σ2) z pc ls st σ := Option.some.inj hr ▸ h
theorem l_opz {v r : Bool} (hr : some v = some r) (h : RR g M (FinR g M (some (.int (b2i v))) NF σ2) z pc ls st σ) : RR g M (FinR g M (some (.int (b2i r))) NF σ2) z pc ls st σ := Option.some.inj hr ▸ h
theorem l_osi {v : Int32} {r : Int32 × SS} (hr : some (v, σ2) = some r) (h : RR g M (FinR g M (some (.int v)) NF σ2) z pc ls st σ) : RR g M (FinR g M (some (.int r.1)) NF r.2) z pc ls st σ := by cases hr; exact h
theorem l_osl {v : Int64} {r : Int64 × SS} (hr : some (v, σ2) = some r) (h : RR g M (FinR g M (some (.long v)) NF σ2) z pc ls st σ) : RR g M (FinR g M (some (.long r.1)) NF r.2) z pc ls st σ := by cases hr; exact h
theorem l_osz {v : Bool} {r : Bool × SS} (hr : some (v, σ2) = some r) (h : RR g M (FinR g M (some (.int (b2i v))) NF σ2) z pc ls st σ) : RR g M (FinR g M (some (.int (b2i r.1))) NF r.2) z pc ls st σ := by cases hr; exact h
theorem l_ov {r : SS} (hr : some σ2 = some r) (h : RR g M (FinR g M none NF σ2) z pc ls st σ) : RR g M (FinR g M none NF r) z pc ls st σ := by cases hr; exact h
/-! array rows with the place's number by its own name -/
theorem x_iald {i : Int32} {k : Nat} (hs : shp c0 = (20, n)) (hi : inb i n = true) (hk : i.toNatClampNeg = k) (hd : decode M.2.1 pc = .ok (.iaload, 1)) (kk : RR g M F zF (pc + 1) ls (.int (gI σ c0 k) :: rest) σ) : RR g M F zF pc ls (.int i :: .ref (ad g c0) :: rest) σ := w_iald hs hi hd (hk ▸ kk)
theorem x_bald {i : Int32} {k : Nat} (hs : shp c0 = (21, n)) (hi : inb i n = true) (hk : i.toNatClampNeg = k) (hd : decode M.2.1 pc = .ok (.baload, 1)) (kk : RR g M F zF (pc + 1) ls (.int (gI σ c0 k) :: rest) σ) : RR g M F zF pc ls (.int i :: .ref (ad g c0) :: rest) σ := w_bald hs hi hd (hk ▸ kk)
theorem x_zald {i : Int32} {k : Nat} (hs : shp c0 = (22, n)) (hi : inb i n = true) (hk : i.toNatClampNeg = k) (hd : decode M.2.1 pc = .ok (.baload, 1)) (kk : RR g M F zF (pc + 1) ls (.int (gI σ c0 k) :: rest) σ) : RR g M F zF pc ls (.int i :: .ref (ad g c0) :: rest) σ := w_zald hs hi hd (hk ▸ kk)
theorem x_lald {i : Int32} {k : Nat} (hs : shp c0 = (23, n)) (hi : inb i n = true) (hk : i.toNatClampNeg = k) (hd : decode M.2.1 pc = .ok (.laload, 1)) (kk : RR g M F zF (pc + 1) ls (.long (gL σ c0 k) :: rest) σ) : RR g M F zF pc ls (.int i :: .ref (ad g c0) :: rest) σ := w_lald hs hi hd (hk ▸ kk)
theorem x_iast {i x : Int32} {j : Nat} (hs : shp c0 = (20, n)) (hi : inb i n = true) (hk : i.toNatClampNeg = j) (hd : decode M.2.1 pc = .ok (.iastore, 1)) (k : ∀ σ1, σ1 = sI σ c0 j x → RR g M F zF (pc + 1) ls rest σ1) : RR g M F zF pc ls (.int x :: .int i :: .ref (ad g c0) :: rest) σ := w_iast hs hi hd (hk ▸ k)
theorem x_bast {i x : Int32} {j : Nat} (hs : shp c0 = (21, n)) (hi : inb i n = true) (hk : i.toNatClampNeg = j) (hd : decode M.2.1 pc = .ok (.bastore, 1)) (k : ∀ σ1, σ1 = sI σ c0 j x.toInt8.toInt32 → RR g M F zF (pc + 1) ls rest σ1) : RR g M F zF pc ls (.int x :: .int i :: .ref (ad g c0) :: rest) σ := w_bast hs hi hd (hk ▸ k)
theorem x_zast {i x : Int32} {j : Nat} (hs : shp c0 = (22, n)) (hi : inb i n = true) (hk : i.toNatClampNeg = j) (hx : isb x = true) (hd : decode M.2.1 pc = .ok (.bastore, 1)) (k : ∀ σ1, σ1 = sI σ c0 j x → RR g M F zF (pc + 1) ls rest σ1) : RR g M F zF pc ls (.int x :: .int i :: .ref (ad g c0) :: rest) σ := w_zast hs hi hx hd (hk ▸ k)
theorem x_last {i : Int32} {x : Int64} {j : Nat} (hs : shp c0 = (23, n)) (hi : inb i n = true) (hk : i.toNatClampNeg = j) (hd : decode M.2.1 pc = .ok (.lastore, 1)) (k : ∀ σ1, σ1 = sL σ c0 j x → RR g M F zF (pc + 1) ls rest σ1) : RR g M F zF pc ls (.long x :: .int i :: .ref (ad g c0) :: rest) σ := w_last hs hi hd (hk ▸ k)
theorem x_ti {a0 t0 : Nat} {i : Int32} {j : Nat} (hT : ∀ s, Ko g s → va_T .int a0 n (fun j => .int (roV t0 j)) (AA g) s s.heap) (hi : inb i n = true) (hk : i.toNatClampNeg = j) (hd : decode M.2.1 pc = .ok (.iaload, 1)) (k : RR g M F z (pc + 1) ls (.int (roV t0 j) :: rest) σ) : RR g M F z pc ls (.int i :: .ref a0 :: rest) σ := r_ti hT hi hd (hk ▸ k)
end ROWS4
