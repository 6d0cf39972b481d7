/-! THE ABSTRACT MACHINE. Objects have numbers (0..3: the three static rows and the script; from 4 on those that the run makes, in the order of their making); ρ sends a number to its address. A state: K (kind of each: 0..8 a class, 9 char[], 10 int[], 11 Lane[], 12 Part[], 13 State[], 14 long[], 15 a row that is only read, 99 nothing yet), N (length of an array), I (whole numbers: object, field or place), P (references), z (how many were made). -/
abbrev am_V : Type := Int ⊕ Int ⊕ Value
abbrev am_M : Type := String × MethodName × ByteArray × Nat × Option FieldType × (Nat × Nat) × List (Nat × Nat × Nat × Nat)
abbrev am_T : Type := (Nat → Nat) → (Nat → Nat) → (Nat → Nat → Int) → (Nat → Nat → Option Nat) → Nat → Prop
def am_cv (ρ : Nat → Nat) : am_V → Value
  | .inl z => .int (Int32.ofInt z)
  | .inr (.inl z) => .long (Int64.ofInt z)
  | .inr (.inr (.ref a)) => .ref (ρ a)
  | .inr (.inr v) => v
abbrev am_i (z : Int) : am_V := .inl z
abbrev am_j (z : Int) : am_V := .inr (.inl z)
abbrev am_r (a : Nat) : am_V := .inr (.inr (.ref a))
abbrev am_nl : am_V := .inr (.inr .null)
abbrev am_d (x : UInt64) : am_V := .inr (.inr (.double x))
def am_o : Option Nat → am_V
  | some a => am_r a
  | none => am_nl
def am_in (z : Int) : Prop := -2147483648 ≤ z ∧ z ≤ 2147483647
def am_wr (z : Int) : Int := (Int32.ofInt z).toInt
def am_ok (z : Nat) : am_V → Prop
  | .inl x => am_in x
  | .inr (.inl x) => am_in x
  | .inr (.inr (.ref a)) => a < z + 4
  | .inr (.inr .null) => True
  | .inr (.inr (.double _)) => True
  | _ => False
/-- what is taken from a reference on the stack -/
def am_ob (v : am_V) (f : Nat → Prop) : Prop := match v with
  | .inr (.inr (.ref a)) => f a
  | _ => False
def am_ifn (v : am_V) (A B : Prop) : Prop := match v with
  | .inr (.inr (.ref _)) => B
  | .inr (.inr .null) => A
  | _ => False
def am_iv (v : am_V) (f : Int → Prop) : Prop := match v with
  | .inl x => f x
  | _ => False
def am_ty (c k : Nat) : FieldType := match c with
  | 0 => tyX0 k
  | 1 => tyX1 k
  | 2 => tyX2 k
  | 3 => tyX3 k
  | 4 => tyX4 k
  | 5 => tyX5 k
  | 6 => tyX6 k
  | 7 => tyX7 k
  | _ => tyX8 k
def am_nf (c : Nat) : Nat := match c with
  | 0 => 5
  | 1 => 1
  | 2 => 12
  | 3 => 3
  | 4 => 6
  | 5 => 3
  | 6 => 11
  | 7 => 7
  | _ => 5
def am_isr : FieldType → Bool
  | .object _ => true
  | .array _ => true
  | _ => false
def am_fv (ρ : Nat → Nat) (I : Nat → Nat → Int) (P : Nat → Nat → Option Nat) (c a k : Nat) : Value := if am_isr (am_ty c k) then va_rf ((P a k).map ρ) else .int (Int32.ofInt (I a k))
def am_fl (ρ : Nat → Nat) (I : Nat → Nat → Int) (P : Nat → Nat → Option Nat) (c a : Nat) : List Value := (List.range (am_nf c)).map (am_fv ρ I P c a)
def am_ent (cA : Nat → ClassId) (ρ K N : Nat → Nat) (I : Nat → Nat → Int) (P : Nat → Nat → Option Nat) (a : Nat) : va_E :=
  if K a < 9 then .inr (K a, am_fl ρ I P (K a) a)
  else if K a < 11 then .inl (cA (K a), N a, .inl (fun j => Int32.ofInt (I a j)))
  else if K a < 14 then .inl (cA (K a), N a, .inr (.inr (.inr (.inr (fun j => (P a j).map ρ)))))
  else .inl (cA (K a), N a, .inr (.inl (fun j => Int64.ofInt (I a j))))
def am_ws (cA : Nat → ClassId) (ρ K N : Nat → Nat) (I : Nat → Nat → Int) (P : Nat → Nat → Option Nat) (z : Nat) : va_W := (List.range z).map (fun j => (ρ (j + 4), am_ent cA ρ K N I P (j + 4)))
def am_tys (cA : Nat → ClassId) : List (ClassId × FieldType) := [(cA 9, .char), (cA 10, .int), (cA 11, .object "PickScanner$Lane"), (cA 12, .object "PickScanner$Part"), (cA 13, .object "PickScanner$State")]
def am_rep (B : Nat) (D : va_G) (cA : Nat → ClassId) (ρ0 N0 : Nat → Nat) (I0 : Nat → Nat → Int) (ρ K N : Nat → Nat) (I : Nat → Nat → Int) (P : Nat → Nat → Option Nat) (z : Nat) (H : Heap) : Prop :=
  va_P D vwCl (am_ws cA ρ K N I P z) H ∧ va_D (fun q => B ≤ q) (am_ws cA ρ K N I P z) ∧
  (∀ a, 4 ≤ a → a < z + 4 → K a < 15) ∧ (∀ a, z + 4 ≤ a → K a = 99 ∧ (∀ k, I a k = 0) ∧ ∀ k, P a k = none) ∧ (∀ a, a < 4 → K a = 15 ∧ ρ a = ρ0 a ∧ N a = N0 a ∧ ∀ k, I a k = I0 a k) ∧
  (∀ a k, am_in (I a k)) ∧ (∀ a k b, P a k = some b → b < z + 4)
/-- String constants and links that the tables' good words don't say -/
def am_sta : List (String × String × String × Nat) := [("PickScanner", "INITIAL_SETTINGS", "[I", 0), ("PickScanner", "LEAST_SETTINGS", "[I", 1), ("PickScanner", "GREATEST_SETTINGS", "[I", 2)]
def am_good : List Cond := lw_tbl.filter goodWord
def am_nws : List (String × Nat × MethodName × String) := [("PickScanner", 17, yX1_init, "PickScanner"), ("PickScanner", 24, yX5_init, "PickScanner"), ("PickScanner", 31, yX4_init, "PickScanner"), ("PickScanner$State", 31, yX3_init, "PickScanner"), ("PickScanner$State", 46, yX0_init, "PickScanner"), ("PickScanner$State", 47, yX2_init, "PickScanner")]
def am_str : List (String × Nat × String) := [("PickScanner", 52, "there is no such setting"), ("PickScanner", 66, "the value is out of the setting's range"), ("PickScanner", 75, "there are parts on the belt"), ("PickScanner", 84, "the position is out of range"), ("PickScanner", 86, "the window is out of range"), ("PickScanner", 88, "the capacity is out of range"), ("PickScanner", 93, "there is no room for another lane"), ("PickScanner", 109, "there is no such lane"), ("PickScanner", 114, "the code is out of range"), ("PickScanner", 129, "there is no room for another route"), ("PickScanner", 135, "there is no route of this code"), ("PickScanner", 140, "the length is out of range"), ("PickScanner", 146, "the entry is not free"), ("PickScanner", 151, "there is no room for another part"), ("PickScanner", 174, "the number of millimeters is out of range"), ("PickScanner", 177, "the belt can't move so far"), ("PickScanner", 191, "no such part has entered"), ("PickScanner", 196, "the part is not on the belt"), ("PickScanner", 211, "no state is saved"), ("PickScanner", 217, "there is no such property"), ("PickScanner", 238, "there is no such total"), ("PickScanner", 240, "there is no such reason"), ("PickScanner", 242, "the index is negative"), ("PickScanner", 250, "the rank is negative")]
def am_ncs : List (String × String) := [("java/lang/IllegalArgumentException", "java/lang/IndexOutOfBoundsException"), ("java/lang/IllegalStateException", "java/lang/IndexOutOfBoundsException"), ("java/lang/IllegalStateException", "java/lang/IllegalArgumentException"), ("java/lang/IndexOutOfBoundsException", "java/lang/IllegalArgumentException"), ("java/lang/IndexOutOfBoundsException", "java/lang/IllegalStateException"), ("java/lang/IllegalArgumentException", "java/lang/IllegalStateException")]
def am_exn (e : Nat) : String := match e with
  | 0 => "java/lang/IndexOutOfBoundsException"
  | 1 => "java/lang/IllegalArgumentException"
  | _ => "java/lang/IllegalStateException"
def am_dcl : List MethodName := [⟨"java/lang/RuntimeException", "<init>", "(Ljava/lang/String;)V"⟩, ⟨"java/lang/Exception", "<init>", "(Ljava/lang/String;)V"⟩, ⟨"java/lang/Throwable", "<init>", "(Ljava/lang/String;)V"⟩]
def am_xtra (ee : Nat) : List Cond := Cond.castable (am_exn ee) (am_exn ee) :: am_dcl.map Cond.declares
/-- what holds where a method begins, at the state s with the heap H: the classes, the rows that are only read, the statics, the Strings, the links within the nest; B: all that is below it is as it was -/
def am_fact (B : Nat) (D : va_G) (cA : Nat → ClassId) (ρ0 N0 : Nat → Nat) (I0 : Nat → Nat → Int) (s : State) : Prop :=
  B ≤ s.heap.size ∧ va_K D vwCl (am_tys cA) s ∧ (∀ a, a < 4 → va_X (ρ0 a) (N0 a) (fun j => Int32.ofInt (I0 a j)) s s.heap ∧ ρ0 a < B) ∧
  (∀ q ∈ am_sta, va_Z q.1 q.2.1 q.2.2.1 (.ref (ρ0 q.2.2.2)) (fun a => B ≤ a) s s.heap) ∧
  vx_Zq Bundle.tN "UNASSIGNED_STACK" Bundle.steD (fun a => B ≤ a) s s.heap ∧ vx_Zq Bundle.tN "SUPPRESSED_SENTINEL" Bundle.listD (fun a => B ≤ a) s s.heap ∧
  (∀ q ∈ am_str, ∃ sa, vk_R q.1 q.2.1 q.2.2 sa s) ∧ (∀ q ∈ am_nws, va_Nw (.methodLinkNest q.1 q.2.1 q.2.2.1 q.2.2.2) s) ∧
  va_Nw (.fieldLinkNest "PickScanner$State" 9 "PickScanner" "INITIAL_SETTINGS" "[I" "PickScanner") s ∧ va_Nw (.castable "[I" "java/lang/Cloneable") s ∧ (∀ q ∈ am_ncs, va_Nc q.1 q.2 s) ∧
  (∃ scr, s.heap[ρ0 0]? = some scr ∧ s.vm.findClass "[I" = some scr.cls) ∧ va_AO "PickScanner$Lane" s ∧ va_AO "PickScanner$Part" s ∧ va_AO "PickScanner$State" s ∧ (∀ ee, ee < 3 → va_Nw (.castable (am_exn ee) (am_exn ee)) s) ∧ (∀ q ∈ am_dcl, va_Nw (.declares q) s)
theorem am_fact_to {B : Nat} {D : va_G} {cA : Nat → ClassId} {ρ0 N0 : Nat → Nat} {I0 : Nat → Nat → Int} {s U : State} (h : am_fact B D cA ρ0 N0 I0 s) (hW : s.WarmedH U.vm) (hz : B ≤ U.heap.size) (hk : ∀ q : Nat, q < B → U.heap[q]? = s.heap[q]?) : am_fact B D cA ρ0 N0 I0 U := by
  obtain ⟨h1, h2, h3, h4, h5, h6, h7, h8, h9, h10, h11, ⟨scr, h12, h13⟩, h14, h15, h16, h17, h18⟩ := h
  have hv := hW.alike
  have hq : ∀ a : Nat, a < s.heap.size → ¬ B ≤ a → U.heap[a]? = s.heap[a]? := fun a _ h => hk a (by omega)
  refine ⟨hz, va_K.moved hv h2, fun a ha => ⟨(va_X.kept (h3 a ha).1 (hk _ (h3 a ha).2)).moved hv, (h3 a ha).2⟩, fun q hm => va_Z.moved hv ((h4 q hm).kept hq), vx_Zq.moved hv (h5.kept hq), vx_Zq.moved hv (h6.kept hq), fun q hm => ?_, fun q hm => va_Nw.warmM hW (h8 q hm), va_Nw.warmF hW h9, va_Nw.warmC hW h10, fun q hm => va_Nc.moved hv (h11 q hm), ⟨scr, (hk _ (h3 0 (by decide)).2).trans h12, by rw [hv.findClass]; exact h13⟩, va_AO.moved hv h14, va_AO.moved hv h15, va_AO.moved hv h16, fun ee he => va_Nw.warmC hW (h17 ee he), fun q hq => va_Nw.warmD hW (h18 q hq)⟩
  obtain ⟨sa, h⟩ := h7 q hm
  exact ⟨sa, vk_R.warm hW h⟩
def am_word (M : am_M) : Cond := match M.2.2.2.2.2.2 with
  | [] => .code M.2.1 M.2.2.1 M.2.2.2.1 M.2.2.2.2.1
  | h :: t => .codeWith M.2.1 M.2.2.1 M.2.2.2.1 M.2.2.2.2.1 (h :: t)
def am_wds (M : am_M) : List Cond := am_word M :: am_good
/-- where a method stands: the machine, its code, its class, the tables' words, its room -/
def am_cx (d : Nat) (M : am_M) (l : Launch) (p : Program) (R : Room) (s : State) (m : MethodId) (args : Array Value) (meth : Method) (c : Code) : Prop :=
  l.stackTraces = false ∧ p.tables.exec = Jvm.exec ∧ c.code = M.2.2.1 ∧ meth.sig.returnType = M.2.2.2.2.1 ∧ c.maxLocals = M.2.2.2.1 ∧ s.vm.findClass M.1 = some m.cls ∧ meth.locks = false ∧ (∀ w ∈ am_good, w.before args s = true) ∧
  c.exceptionTable.toList = tableOf M.2.2.2.2.2.2 ∧ meth.name = M.2.1.name ∧ d ≤ R.frames ∧ 41 * d ≤ R.locals ∧ M.2.2.2.2.2.1.1 ≤ R.cells ∧ M.2.2.2.2.2.1.2 ≤ R.slots
def am_ll (ρ : Nat → Nat) (lv : List (Option am_V)) : List (Nat × Value) := (List.range lv.length).filterMap (fun i => match lv[i]? with
  | some (some v) => some (i, am_cv ρ v)
  | _ => none)
def am_loc (ρ : Nat → Nat) (z nL : Nat) (lv : List (Option am_V)) (ls : Array Slot) : Prop := lv_has ls nL (am_ll ρ lv) ∧ lv.length = nL ∧ ∀ (i : Nat) (v : am_V), lv[i]? = some (some v) → am_ok z v
def am_rv (ret : Option FieldType) (ρ : Nat → Nat) (v : am_V) : Option Value := match ret with
  | none => none
  | some _ => some (am_cv ρ v)
def am_Qc (B : Nat) (D : va_G) (cA : Nat → ClassId) (ρ0 N0 : Nat → Nat) (I0 : Nat → Nat → Int) (ret : Option FieldType) (ρ1 : Nat → Nat) (z1 : Nat) (Q : am_V → am_T) : Array Value → State → Outcome → State → Prop := fun _ st o t =>
  ∃ (v : am_V) (K N : Nat → Nat) (I : Nat → Nat → Int) (P : Nat → Nat → Option Nat) (z : Nat) (ρ : Nat → Nat), o = .returned (am_rv ret ρ v) ∧ Q v K N I P z ∧ am_rep B D cA ρ0 N0 I0 ρ K N I P z t.heap ∧ (∀ a, a < z1 + 4 → ρ a = ρ1 a) ∧ z1 ≤ z ∧ am_ok z v ∧ va_F (fun q => B ≤ q) st t
def am_XC (B : Nat) (D : va_G) (cA : Nat → ClassId) (ρ0 N0 : Nat → Nat) (I0 : Nat → Nat → Int) (ρ1 : Nat → Nat) (z1 : Nat) (X : Nat → am_T) : String → State → State → Prop := fun E st t =>
  ∃ (e : Nat) (K N : Nat → Nat) (I : Nat → Nat → Int) (P : Nat → Nat → Option Nat) (z : Nat) (ρ : Nat → Nat), E = am_exn e ∧ X e K N I P z ∧ am_rep B D cA ρ0 N0 I0 ρ K N I P z t.heap ∧ (∀ a, a < z1 + 4 → ρ a = ρ1 a) ∧ z1 ≤ z ∧ va_F (fun q => B ≤ q) st t
/-- what is so while a method runs -/
def am_at (M : am_M) (ls : List (Option am_V)) (st : List am_V) (K N : Nat → Nat) (I : Nat → Nat → Int) (P : Nat → Nat → Option Nat) (z : Nat) (B : Nat) (D : va_G) (cA : Nat → ClassId) (ρ0 N0 : Nat → Nat) (I0 : Nat → Nat → Int) (s : State) (ρ1 : Nat → Nat) (z1 : Nat) (ρ : Nat → Nat) (H : Heap) (locs : List Loc) (lsR : Array Slot) : Prop :=
  am_rep B D cA ρ0 N0 I0 ρ K N I P z H ∧ va_S (fun q => B ≤ q) s.heap H locs ∧ am_loc ρ z M.2.2.2.1 ls lsR ∧ (∀ v ∈ st, am_ok z v) ∧ (∀ a, a < z1 + 4 → ρ a = ρ1 a) ∧ z1 ≤ z
/-- THE STATEMENT OF A PLACE: from the place pc of M with these locals, this stack and this world the method comes to its end, with Q, or throws, with X; k cells and n slots were made by it up to here -/
def am_E (d : Nat) (M : am_M) (pc k n : Nat) (ls : List (Option am_V)) (st : List am_V) (K N : Nat → Nat) (I : Nat → Nat → Int) (P : Nat → Nat → Option Nat) (z : Nat) (Q : am_V → am_T) (X : Nat → am_T) : Prop :=
  ∀ (l : Launch) (p : Program) (e : Env) (R : Room) (s : State) (m : MethodId) (args : Array Value) (below : List Frame) (meth : Method) (c : Code) (B : Nat) (D : va_G) (cA : Nat → ClassId) (ρ0 N0 : Nat → Nat) (I0 : Nat → Nat → Int),
    am_cx d M l p R s m args meth c → am_fact B D cA ρ0 N0 I0 s → ∀ (ρ1 : Nat → Nat) (z1 : Nat) (ρ : Nat → Nat) (H : Heap) (locs : List Loc) (lsR : Array Slot), am_at M ls st K N I P z B D cA ρ0 N0 I0 s ρ1 z1 ρ H locs lsR →
      W p l e R s m args below meth c H locs k n (vx_MQ below (am_Qc B D cA ρ0 N0 I0 M.2.2.2.2.1 ρ1 z1 Q) (am_XC B D cA ρ0 N0 I0 ρ1 z1 X) args s M.2.2.2.2.2.1.1 M.2.2.2.2.2.1.2 (fun q => B ≤ q)) (F0 m pc lsR (st.map (am_cv ρ)))
def am_rm (d : Nat) (M : am_M) : Room := { frames := d, cells := M.2.2.2.2.2.1.1, slots := M.2.2.2.2.2.1.2, locals := 41 * d }
def am_Pc (B : Nat) (D : va_G) (cA : Nat → ClassId) (ρ0 N0 : Nat → Nat) (I0 : Nat → Nat → Int) (vs : List am_V) (K N : Nat → Nat) (I : Nat → Nat → Int) (P : Nat → Nat → Option Nat) (z : Nat) (ρ : Nat → Nat) : Array Value → State → Prop := fun a U =>
  a = (vs.map (am_cv ρ)).toArray ∧ am_fact B D cA ρ0 N0 I0 U ∧ am_rep B D cA ρ0 N0 I0 ρ K N I P z U.heap ∧ ∀ v ∈ vs, am_ok z v
/-- THE STATEMENT OF A METHOD: called with these arguments in this world it ends with Q or throws with X -/
def am_C (d : Nat) (M : am_M) (vs : List am_V) (K N : Nat → Nat) (I : Nat → Nat → Int) (P : Nat → Nat → Option Nat) (z : Nat) (Q : am_V → am_T) (X : Nat → am_T) : Prop :=
  ∀ (l : Launch) (B : Nat) (D : va_G) (cA : Nat → ClassId) (ρ0 N0 : Nat → Nat) (I0 : Nat → Nat → Int) (ρ : Nat → Nat), l.stackTraces = false →
    vx_Met l M.2.1 (am_wds M) (am_rm d M) (am_Pc B D cA ρ0 N0 I0 vs K N I P z ρ) (am_Qc B D cA ρ0 N0 I0 M.2.2.2.2.1 ρ z Q) (am_XC B D cA ρ0 N0 I0 ρ z X) M.2.2.2.2.2.1.1 M.2.2.2.2.2.1.2 (fun q => B ≤ q)
abbrev am_nx : Nat → am_T := fun _ _ _ _ _ _ => False
/-- the classes by their numbers -/
def am_R (c : Nat) : String := match c with
  | 0 => RX0
  | 1 => RX1
  | 2 => RX2
  | 3 => RX3
  | 4 => RX4
  | 5 => RX5
  | 6 => RX6
  | 7 => RX7
  | _ => RX8
def am_TT (c : Nat) : u_T := match c with
  | 0 => TX0
  | 1 => TX1
  | 2 => TX2
  | 3 => TX3
  | 4 => TX4
  | 5 => TX5
  | 6 => TX6
  | 7 => TX7
  | _ => TX8
/-- a field's link: the pool's row idx of the class own is field f of class c -/
def am_flk (own : String) (idx c f : Nat) : Prop := c < 9 ∧ f < am_nf c ∧ Cond.fieldLink own idx (am_R c) (am_TT c f).2.1 (am_TT c f).2.2.1 ∈ am_good
/-- a method as the tables have it; q: how many parameters -/
def am_okM (M : am_M) (q : Nat) : Prop := M.1 = M.2.1.cls ∧ plainName M.2.1.cls = true ∧ am_word M ∈ am_good ∧ Cond.initialized M.2.1.cls ∈ am_good ∧ (M.2.1.cls ≠ "java/lang/invoke/MethodHandle" ∧ M.2.1.cls ≠ "java/lang/invoke/VarHandle") ∧ (parseMethodDescriptor M.2.1.desc).map (fun d => d.parameters.length) = some q ∧ M.2.2.2.1 ≤ 22
abbrev am_cln : MethodName := ⟨"[I", "clone", "()Ljava/lang/Object;"⟩
abbrev am_clo : MethodName := ⟨"java/lang/Object", "clone", "()Ljava/lang/Object;"⟩
theorem am_memI (i : Nat) {w : Cond} (h : lw_tbl[i]? = some w) (hg : goodWord w = true) : w ∈ am_good := List.mem_filter.mpr ⟨List.mem_of_getElem? h, hg⟩
