/-! THE FRAME: what a method finds (CX, KF), where it stands (V), what it does (RT). -/
/-- the constants of a run: class numbers, array classes, addresses, how big the heap was at first, the script, one value that nobody looks at -/
abbrev KK : Type := va_G × (Nat → ClassId) × (Nat → Nat) × Nat × Nat × (Nat → Int32) × Option Nat
abbrev kD (k : KK) : va_G := k.1
abbrev kC (k : KK) : Nat → ClassId := k.2.1
abbrev ka (k : KK) : Nat → Nat := k.2.2.1
abbrev kh (k : KK) : Nat := k.2.2.2.1
abbrev kL (k : KK) : Nat := k.2.2.2.2.1
abbrev kx (k : KK) : Nat → Int32 := k.2.2.2.2.2.1
abbrev ko (k : KK) : Option Nat := k.2.2.2.2.2.2
def kA (k : KK) : Nat → Prop := fun q => kh k ≤ q
def cv (k : KK) : AV → Value
  | .inl x => .int x
  | .inr (.inl y) => .long y
  | .inr (.inr (.inl q)) => .ref (ka k (oT q.1 + q.2))
  | .inr (.inr (.inr _)) => va_rf (ko k)
def acat : AV → Nat
  | .inr (.inl _) => 2
  | _ => 1
theorem cv_cat (k : KK) (v : AV) : (cv k v).category = acat v := by
  rcases v with x | y | q | q
  · rfl
  · rfl
  · rfl
  · show (va_rf (ko k)).category = 1
    cases ko k <;> rfl
abbrev cvl (k : KK) (l : List (Nat × AV)) : List (Nat × Value) := l.map (fun q => (q.1, cv k q.2))
abbrev tysK (k : KK) : List (ClassId × FieldType) := [(kC k 0, .int), (kC k 1, .long), (kC k 2, .array .int), (kC k 3, .object "WallShifts$Sheet")]
def wNests : List Cond := [.methodLinkNest "WallShifts$Palace" 40 ⟨"WallShifts", "quarterOf", "(II)I"⟩ "WallShifts", .methodLinkNest "WallShifts$Palace" 43 ⟨"WallShifts", "restOf", "(II)I"⟩ "WallShifts", .methodLinkNest "WallShifts$Palace" 58 ⟨"WallShifts", "becomes", "([II)I"⟩ "WallShifts", .methodLinkNest "WallShifts$Palace" 66 ⟨"WallShifts", "tires", "(I)I"⟩ "WallShifts"]
def stN (i : Nat) : String := ["MOST_OF_PART", "LEAST_OF_ROTA", "MOST_OF_ROTA"].getD i ""
def stV (i : Nat) : List Int32 := [[5, 9, 9, 3, 65535, 99], [1, 0, 0, 1], [60, 60, 3, 20]].getD i []
/-- what the static rows hold -/
def stc (i j : Nat) : Int32 := (stV i).getD j 0
/-- what the tables and the cells that nobody writes say -/
def KF (k : KK) (s : State) : Prop :=
  va_K (kD k) wcl (tysK k) s ∧ (∀ m, va_D (kA k) (wl (kC k) (ka k) m)) ∧ kh k ≤ s.heap.size ∧ (∀ w ∈ wNests, va_Nw w s) ∧
  (∀ i, i < 3 → va_Z "WallShifts" (stN i) "[I" (.ref (ka k (oT 23 + i))) (kA k) s s.heap ∧ va_T .int (ka k (oT 23 + i)) (stV i).length (fun j => .int (stc i j)) (kA k) s s.heap) ∧
  va_X (ka k (oT 24 + 0)) (kL k) (kx k) s s.heap ∧ ka k (oT 24 + 0) < kh k
theorem wNests_same {u U : State} (h : u.vm = U.vm) (hZ : ∀ w ∈ wNests, va_Nw w u) : ∀ w ∈ wNests, va_Nw w U := by
  intro w hw
  have hz := hZ w hw
  simp only [wNests, List.mem_cons, List.not_mem_nil, or_false] at hw
  rcases hw with rfl | rfl | rfl | rfl <;> exact va_Nw.same rfl h hz
theorem wNests_warm {s U : State} (hW : s.WarmedH U.vm) (hZ : ∀ w ∈ wNests, va_Nw w s) : ∀ w ∈ wNests, va_Nw w U := by
  intro w hw
  have hz := hZ w hw
  simp only [wNests, List.mem_cons, List.not_mem_nil, or_false] at hw
  rcases hw with rfl | rfl | rfl | rfl <;> exact va_Nw.warmM hW hz
theorem KF.same {k : KK} {u U : State} (hv : u.vm = U.vm) (hh : u.heap = U.heap) (h : KF k u) : KF k U := by
  obtain ⟨h1, h2, h3, h4, h5, h10, h11⟩ := h
  have hal : u.vm.Alike U.vm := by rw [hv]; exact Vm.Alike.refl _
  rw [hh] at h3 h5 h10
  exact ⟨h1.moved hal, h2, h3, wNests_same hv h4, fun i hi => ⟨(h5 i hi).1.moved hal, (h5 i hi).2.moved hal⟩, h10.moved hal, h11⟩
theorem KF.go {k : KK} {s U : State} {H : Heap} {locs : List Loc} (hW : s.WarmedH U.vm) (hH : U.heap = H) (hS : va_S (kA k) s.heap H locs) (h : KF k s) : KF k U := by
  obtain ⟨h1, h2, h3, h4, h5, h10, h11⟩ := h
  have hal : s.vm.Alike U.vm := hW.alike
  subst hH
  have hk : ∀ a : Nat, a < s.heap.size → ¬ kA k a → U.heap[a]? = s.heap[a]? := hS.2.1
  refine ⟨h1.moved hal, h2, Nat.le_trans h3 hS.1, wNests_warm hW h4, fun i hi => ⟨((h5 i hi).1.moved hal).kept hk, ((h5 i hi).2.moved hal).kept hk⟩, (h10.moved hal).kept (hk _ (Nat.lt_of_lt_of_le h11 h3) (Nat.not_le.mpr h11)), h11⟩
/-- what a method finds -/
def CX (p : Program) (s : State) (m : MethodId) (args : Array Value) (meth : Method) (c : Code) (k : KK) (cc : ByteArray) (nL : Nat) (own : String) : Prop :=
  p.tables.exec = Jvm.exec ∧ c.code = cc ∧ c.maxLocals = nL ∧ s.vm.findClass own = some m.cls ∧ (∀ w ∈ wG, w.before args s = true) ∧ KF k s ∧ meth.locks = false
/-- where it stands: at pc, with these locals and this stack, the world holding mem -/
def V (p : Program) (l : Launch) (e : Env) (R : Room) (s : State) (m : MethodId) (args : Array Value) (below : List Frame) (meth : Method) (c : Code) (cells slots : Nat) (Q : State → Prop) (k : KK) (nL : Nat) (mem : Mem) (pc : Nat) (lv : List (Nat × AV)) (st : List AV) : Prop :=
  ∀ (H : Heap) (locs : List Loc) (ls : Array Slot), va_P (kD k) wcl (wl (kC k) (ka k) mem) H → va_S (kA k) s.heap H locs → lv_has ls nL (cvl k lv) →
    W p l e R s m args below meth c H locs cells slots Q (F0 m pc ls (st.map (cv k)))
def RPc (k : KK) (as : List AV) (mem : Mem) : Array Value → State → Prop := fun v U => v = (as.map (cv k)).toArray ∧ KF k U ∧ va_P (kD k) wcl (wl (kC k) (ka k) mem) U.heap
def RQc (k : KK) (r : Option AV) (mem : Mem) : Array Value → State → Outcome → State → Prop := fun _ st oc t => oc = .returned (r.map (cv k)) ∧ va_P (kD k) wcl (wl (kC k) (ka k) mem) t.heap ∧ va_F (kA k) st t
abbrev wM (y : MethodName) (b : ByteArray) (n : Nat) (ret : Option FieldType) : List Cond := .code y b n ret :: wG
abbrev rmM (fr lo : Nat) : Room := { frames := fr, cells := 0, slots := 0, locals := lo }
/-- what a method does: called with these, the world holding mem, it returns r and leaves mem' -/
def RT (y : MethodName) (b : ByteArray) (n : Nat) (ret : Option FieldType) (rm : Room) (as : List AV) (mem : Mem) (r : Option AV) (mem' : Mem) : Prop :=
  ∀ (l : Launch) (k : KK), Met l y (wM y b n ret) rm (RPc k as mem) (RQc k r mem') 0 0 (kA k)
def lvA : Nat → List AV → List (Nat × AV)
  | _, [] => []
  | i, v :: vs => (i, v) :: lvA (if acat v = 2 then i + 2 else i + 1) vs
theorem lvA_args (k : KK) : ∀ (vs : List AV) (i : Nat), lv_args i (vs.map (cv k)) = cvl k (lvA i vs)
  | [], _ => rfl
  | v :: vs, i => by
    show (i, cv k v) :: lv_args (if (cv k v).category = 2 then i + 2 else i + 1) (vs.map (cv k)) = (i, cv k v) :: cvl k (lvA (if acat v = 2 then i + 2 else i + 1) vs)
    rw [cv_cat, lvA_args k vs]
def slA (vs : List AV) : Nat := (vs.map acat).sum
theorem slA_sl (k : KK) : ∀ vs : List AV, (lg_sl (vs.map (cv k))).length = slA vs
  | [] => rfl
  | v :: vs => by
    have ih := slA_sl k vs
    have hc := cv_cat k v
    unfold lg_sl at ih ⊢
    rw [List.map_cons, List.flatMap_cons, List.length_append, ih]
    unfold slA
    rw [List.map_cons, List.sum_cons, hc]
    rcases v with x | y | q | q <;> rfl
theorem RT.of {y : MethodName} {b : ByteArray} {n : Nat} {ret : Option FieldType} {rm : Room} {as : List AV} {mem : Mem} {r : Option AV} {mem' : Mem} (hy : plainName y.cls = true) (hn : slA as ≤ n)
    (body : ∀ (p : Program) (l : Launch) (e : Env) (s : State) (m : MethodId) (args : Array Value) (below : List Frame) (meth : Method) (c : Code) (k : KK), CX p s m args meth c k b n y.cls → meth.sig.returnType = ret →
      V p l e rm s m args below meth c 0 0 (MQ below (RQc k r mem') args s 0 0 (kA k)) k n mem 0 (lvA 0 as) []) : RT y b n ret rm as mem r mem' := by
  intro l k
  refine Met.ofW (cc := b) (maxL := n) (ret := ret) hy rfl ?_
  intro p e s m args below meth c s₁ B hml hv
  obtain ⟨rfl, hK, hP⟩ := hv
  have hts := atoms_spec (ws := wM y b n ret) B.pre
  have hown : s.vm.findClass y.cls = some m.cls := findClass_of_methodNamed B.named
  rw [lg_entry_eq]
  exact body p l e s m _ below meth c k ⟨B.exec, B.bytes, hml, hown, fun w hw => hts w (List.mem_cons_of_mem _ hw), hK, B.notSynchronized⟩ B.returns s.heap [] _ hP va_S.rf (by rw [← lvA_args]; exact lv_entry (as.map (cv k)) (n := n) (by rw [slA_sl]; exact hn))
/-- what a method does that reads the script -/
def RTx (LL : Nat) (xs : Nat → Int32) (y : MethodName) (b : ByteArray) (n : Nat) (ret : Option FieldType) (rm : Room) (as : List AV) (mem : Mem) (r : Option AV) (mem' : Mem) : Prop :=
  ∀ (l : Launch) (k : KK), kL k = LL → kx k = xs → Met l y (wM y b n ret) rm (RPc k as mem) (RQc k r mem') 0 0 (kA k)
theorem RTx.of {LL : Nat} {xs : Nat → Int32} {y : MethodName} {b : ByteArray} {n : Nat} {ret : Option FieldType} {rm : Room} {as : List AV} {mem : Mem} {r : Option AV} {mem' : Mem} (hy : plainName y.cls = true) (hn : slA as ≤ n)
    (body : ∀ (p : Program) (l : Launch) (e : Env) (s : State) (m : MethodId) (args : Array Value) (below : List Frame) (meth : Method) (c : Code) (k : KK), kL k = LL → kx k = xs → CX p s m args meth c k b n y.cls → meth.sig.returnType = ret →
      V p l e rm s m args below meth c 0 0 (MQ below (RQc k r mem') args s 0 0 (kA k)) k n mem 0 (lvA 0 as) []) : RTx LL xs y b n ret rm as mem r mem' := by
  intro l k hL hx
  refine Met.ofW (cc := b) (maxL := n) (ret := ret) hy rfl ?_
  intro p e s m args below meth c s₁ B hml hv
  obtain ⟨rfl, hK, hP⟩ := hv
  have hts := atoms_spec (ws := wM y b n ret) B.pre
  have hown : s.vm.findClass y.cls = some m.cls := findClass_of_methodNamed B.named
  rw [lg_entry_eq]
  exact body p l e s m _ below meth c k hL hx ⟨B.exec, B.bytes, hml, hown, fun w hw => hts w (List.mem_cons_of_mem _ hw), hK, B.notSynchronized⟩ B.returns s.heap [] _ hP va_S.rf (by rw [← lvA_args]; exact lv_entry (as.map (cv k)) (n := n) (by rw [slA_sl]; exact hn))
