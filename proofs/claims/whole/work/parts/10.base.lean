/-! What the bytecode of a method does, as a function over plain values: an object and its arrays are a VV (scalars by slot, int rows by slot, long rows by slot). -/
abbrev VV : Type := (Nat → Int32) × (Nat → Nat → Int32) × (Nat → Nat → Int64)
def si (v : VV) (k : Nat) (x : Int32) : VV := (fun q => if q = k then x else v.1 q, v.2)
def sr (v : VV) (k i : Nat) (x : Int32) : VV := (v.1, (fun q => if q = k then upd (v.2.1 k) i x else v.2.1 q), v.2.2)
def sj (v : VV) (k i : Nat) (x : Int64) : VV := (v.1, v.2.1, fun q => if q = k then vp_updL (v.2.2 k) i x else v.2.2 q)
def sw (v : VV) (k : Nat) (f : Nat → Int32) : VV := (v.1, (fun q => if q = k then f else v.2.1 q), v.2.2)
/-- a loop: at most n turns -/
def itr {σ ρ : Type} (step : σ → Option (σ ⊕ ρ)) : Nat → σ → Option ρ
  | 0, _ => none
  | n + 1, s => match step s with
    | none => none
    | some (.inl s') => itr step n s'
    | some (.inr r) => some r
def itrK {σ ρ : Type} (step : σ → Option (σ ⊕ ρ)) (n : Nat) : σ ⊕ ρ → Option ρ
  | .inl s' => itr step n s'
  | .inr r => some r
theorem itr_zero {σ ρ : Type} {step : σ → Option (σ ⊕ ρ)} {s : σ} {r : ρ} (h : itr step 0 s = some r) : False := nomatch h
theorem itr_inv {σ ρ : Type} {step : σ → Option (σ ⊕ ρ)} {n : Nat} {s : σ} {r : ρ} (h : itr step (n + 1) s = some r) : ∃ y, step s = some y ∧ itrK step n y = some r := by
  unfold itr at h
  cases hs : step s with
  | none => rw [hs] at h; cases h
  | some y => rw [hs] at h; cases y with
    | inl s' => exact ⟨_, rfl, h⟩
    | inr r' => exact ⟨_, rfl, h⟩
def inrO {σ ρ : Type} (o : Option ρ) : Option (σ ⊕ ρ) := match o with
  | none => none
  | some r => some (.inr r)
theorem itr_exit {σ ρ : Type} {step : σ → Option (σ ⊕ ρ)} {n : Nat} {T : Option ρ} {y : σ ⊕ ρ} {r : ρ} (h : inrO T = some y) (hy : itrK step n y = some r) : T = some r := by
  cases T with
  | none => cases h
  | some t => cases h; exact hy
theorem itr_back {σ ρ : Type} {step : σ → Option (σ ⊕ ρ)} {n : Nat} {s : σ} {y : σ ⊕ ρ} {r : ρ} (h : some (.inl s) = some y) (hy : itrK step n y = some r) : itr step n s = some r := by
  cases h; exact hy
theorem br {c : Prop} [Decidable c] {α : Type} {A B : Option α} {r : α} (h : (if c then A else B) = some r) : (c → A = some r) ∧ (¬ c → B = some r) :=
  ⟨fun hc => by rw [if_pos hc] at h; exact h, fun hc => by rw [if_neg hc] at h; exact h⟩
def bnd {α β : Type} (o : Option α) (k : α → Option β) : Option β := match o with
  | none => none
  | some a => k a
theorem bd {α β : Type} {o : Option α} {k : α → Option β} {r : β} (h : bnd o k = some r) : ∃ a, o = some a ∧ k a = some r := by
  cases o with
  | none => cases h
  | some a => exact ⟨a, rfl, h⟩
/-- an index is within its row -/
def gin {α : Type} (i : Int32) (n : Nat) (o : Option α) : Option α := if ¬ (i < 0 ∨ n ≤ i.toNatClampNeg) then o else none
theorem gin_inv {α : Type} {i : Int32} {n : Nat} {o : Option α} {r : α} (h : gin i n o = some r) : vp_in i n ∧ o = some r := by
  unfold gin at h
  by_cases hc : ¬ (i < 0 ∨ n ≤ i.toNatClampNeg)
  · rw [if_pos hc] at h; exact ⟨hc, h⟩
  · rw [if_neg hc] at h; cases h
/-- a divisor isn't 0 -/
def gnz {α : Type} (y : Int32) (o : Option α) : Option α := if y = 0 then none else o
theorem gnz_inv {α : Type} {y : Int32} {o : Option α} {r : α} (h : gnz y o = some r) : ¬ y = 0 ∧ o = some r := by
  unfold gnz at h
  by_cases hc : y = 0
  · rw [if_pos hc] at h; cases h
  · rw [if_neg hc] at h; exact ⟨hc, h⟩
def gnzL {α : Type} (y : Int64) (o : Option α) : Option α := if y = 0 then none else o
theorem gnzL_inv {α : Type} {y : Int64} {o : Option α} {r : α} (h : gnzL y o = some r) : ¬ y = 0 ∧ o = some r := by
  unfold gnzL at h
  by_cases hc : y = 0
  · rw [if_pos hc] at h; cases h
  · rw [if_neg hc] at h; exact ⟨hc, h⟩
/-- a truth value is 0 or 1 -/
def gbz {α : Type} (x : Int32) (o : Option α) : Option α := if x = 0 ∨ x = 1 then o else none
theorem narZ {x : Int32} (h : x = 0 ∨ x = 1) : narrow .boolean (.int x) = .int x ∧ fits .boolean (.int x) = true ∧ vp_nar .boolean x = x := by
  rcases h with rfl | rfl
  · exact ⟨by decide +kernel, by decide +kernel, by decide +kernel⟩
  · exact ⟨by decide +kernel, by decide +kernel, by decide +kernel⟩
theorem narZ0 : narrow .boolean (.int 0) = .int 0 := by decide +kernel
theorem narZ1 : narrow .boolean (.int 1) = .int 1 := by decide +kernel
theorem gbz_inv {α : Type} {x : Int32} {o : Option α} {r : α} (h : gbz x o = some r) : (x = 0 ∨ x = 1) ∧ o = some r := by
  unfold gbz at h
  by_cases hc : x = 0 ∨ x = 1
  · rw [if_pos hc] at h; exact ⟨hc, h⟩
  · rw [if_neg hc] at h; cases h
theorem wl_all : WL.all goodWord = true := by decide +kernel
theorem wl_good : ∀ w ∈ WL, ((w.onTables && w.keeps) = true ∨ ∃ ty, w = .arrayClass ty) := fun w h => good_of_word (List.all_eq_true.mp wl_all w h)
/-- a callee's words among the caller's: both have the law's -/
theorem wl_in {c : Cond} {y : MethodName} {bytes : ByteArray} {maxL : Nat} {ret : Option FieldType} (hc : Cond.code y bytes maxL ret ∈ WL) : GoodIn (c :: WL) (.code y bytes maxL ret :: WL) := fun w h => by
  rcases List.mem_cons.mp h with rfl | h
  · exact ⟨List.mem_cons_of_mem _ hc, wl_good _ hc⟩
  · exact ⟨List.mem_cons_of_mem _ h, wl_good _ h⟩
theorem wl_inW {y : MethodName} {bytes : ByteArray} {maxL : Nat} {ret : Option FieldType} (hc : Cond.code y bytes maxL ret ∈ WL) : GoodIn WL (.code y bytes maxL ret :: WL) := fun w h => by
  rcases List.mem_cons.mp h with rfl | h
  · exact ⟨hc, wl_good _ hc⟩
  · exact ⟨h, wl_good _ h⟩
abbrev tysX (cy : Nat → ClassId) : List (ClassId × FieldType) := [(cy 0, .byte), (cy 1, .int), (cy 2, .long), (cy 3, .boolean), (cy 4, .array .int)]
def mPre (G : va_G) (cy : Nat → ClassId) (ev : Nat → Nat) (av : List Value) (sz : Nat) (w : va_W) : Array Value → State → Prop := va_Pc av (fun U => U.heap.size = sz ∧ va_P G vwCl w U.heap ∧ va_K G vwCl (tysX cy) U ∧ va_D (fun _ => True) w ∧ EV ev (va_A w sz) U U.heap)
def mB (G : va_G) (cy : Nat → ClassId) (A : Nat → Prop) (w : va_W) : Unit → State → Prop := fun _ t => va_P G vwCl w t.heap ∧ va_K G vwCl (tysX cy) t ∧ va_D A w
def mQi (r : Int32) (G : va_G) (cy : Nat → ClassId) (A : Nat → Prop) (w : va_W) : Array Value → State → Outcome → State → Prop := va_Qi (fun r' (_ : Unit) => r' = r) (mB G cy A w) A
def mQl (r : Int64) (G : va_G) (cy : Nat → ClassId) (A : Nat → Prop) (w : va_W) : Array Value → State → Outcome → State → Prop := va_Ql (fun r' (_ : Unit) => r' = r) (mB G cy A w) A
def mQv (G : va_G) (cy : Nat → ClassId) (A : Nat → Prop) (w : va_W) : Array Value → State → Outcome → State → Prop := va_Qv (fun (_ : Unit) => True) (mB G cy A w) A
def rmX (f lc : Nat) : Room := { frames := f, cells := 0, slots := 0, locals := lc }
def MetQ (l : Launch) (y : MethodName) (bytes : ByteArray) (maxL : Nat) (ret : Option FieldType) (f lc : Nat) (G : va_G) (cy : Nat → ClassId) (ev : Nat → Nat) (av : List Value) (w : va_W) (Q : (Nat → Prop) → Array Value → State → Outcome → State → Prop) : Prop :=
  ∀ sz : Nat, Met l y (.code y bytes maxL ret :: WL) (rmX f lc) (mPre G cy ev av sz w) (Q (va_A w sz)) 0 0 (va_A w sz)
abbrev MetI (l : Launch) (y : MethodName) (bytes : ByteArray) (maxL : Nat) (ret : Option FieldType) (f lc : Nat) (G : va_G) (cy : Nat → ClassId) (ev : Nat → Nat) (av : List Value) (w : va_W) (r : Int32) (w' : va_W) : Prop := MetQ l y bytes maxL ret f lc G cy ev av w (fun A => mQi r G cy A w')
abbrev MetL (l : Launch) (y : MethodName) (bytes : ByteArray) (maxL : Nat) (ret : Option FieldType) (f lc : Nat) (G : va_G) (cy : Nat → ClassId) (ev : Nat → Nat) (av : List Value) (w : va_W) (r : Int64) (w' : va_W) : Prop := MetQ l y bytes maxL ret f lc G cy ev av w (fun A => mQl r G cy A w')
abbrev MetV (l : Launch) (y : MethodName) (bytes : ByteArray) (maxL : Nat) (ret : Option FieldType) (f lc : Nat) (G : va_G) (cy : Nat → ClassId) (ev : Nat → Nat) (av : List Value) (w : va_W) (w' : va_W) : Prop := MetQ l y bytes maxL ret f lc G cy ev av w (fun A => mQv G cy A w')
theorem MetQ.start {l : Launch} {y : MethodName} {bytes : ByteArray} {maxL : Nat} {ret : Option FieldType} {f lc : Nat} {G : va_G} {cy : Nat → ClassId} {ev : Nat → Nat} {av : List Value} {w : va_W} {Q : (Nat → Prop) → Array Value → State → Outcome → State → Prop}
    (hy : plainName y.cls = true) (hlen : (lg_sl av).length ≤ maxL)
    (K : ∀ (p : Program) (e : Env) (s : State) (m : MethodId) (args : Array Value) (below : List Frame) (meth : Method) (c : Code) (A : Nat → Prop) (ls : Array Slot), p.tables.exec = Jvm.exec → c.code = bytes → meth.sig.returnType = ret → c.maxLocals = maxL → s.vm.findClass y.cls = some m.cls → (∀ w ∈ WL, w.before args s = true) → meth.locks = false → va_K G vwCl (tysX cy) s → va_P G vwCl w s.heap → va_D A w → (∀ q : Nat, s.heap.size ≤ q → A q) → lv_has ls maxL (lv_args 0 av) → EV ev A s s.heap →
      W p l e (rmX f lc) s m args below meth c s.heap [] 0 0 (MQ below (Q A) args s 0 0 A) (F0 m 0 ls [])) : MetQ l y bytes maxL ret f lc G cy ev av w Q := by
  intro sz
  refine Met.ofW (cc := bytes) (maxL := maxL) (ret := ret) hy rfl ?_
  intro p e s m args below meth c s₁ B hml hv
  obtain ⟨rfl, hsz, hP, hK, hD0, hE⟩ := hv
  have hts0 := atoms_spec (ws := .code y bytes maxL ret :: WL) B.pre
  have hown : s.vm.findClass y.cls = some m.cls := findClass_of_methodNamed B.named
  subst hsz
  have hD := hD0.self (sz := s.heap.size)
  have hl := lv_entry av (n := maxL) hlen
  rw [lg_entry_eq]
  exact K p e s m _ below meth c _ _ B.exec B.bytes B.returns hml hown (fun w h => hts0 w (List.mem_cons_of_mem _ h)) B.notSynchronized hK hP hD (fun q h => Or.inr h) hl hE
