/-! MY MACHINE: a method's frame as a list of locals, a stack of values (a reference is a cell's number), a heap as two functions (cell, place) to a number; 'stp' says what one instruction asks for, 'vc' follows a path of instructions to a proposition; 'Go' is what is said of the Java machine. -/
def up2 {α : Type} (f : Nat → Nat → α) (o k : Nat) (v : α) : Nat → Nat → α := fun a b => if a = o then (if b = k then v else f a b) else f a b
def upr {α : Type} (f : Nat → Nat → α) (o : Nat) (g : Nat → α) : Nat → Nat → α := fun a b => if a = o then g b else f a b
def ovf (j : Nat) : Int32 := [-1, 0, 0, 1, 2, 3].getD j 0
-- ===== the world
def cv (ρ : Nat → Nat) (v : Value) : Value := match v with
  | .ref a => .ref (ρ a)
  | .null => if ρ 2999 = 0 then .null else .ref (ρ 3000)
  | v => v
def fv (ρ : Nat → Nat) (h : Hp) (o : Nat) : Nat → List Nat → List Value
  | _, [] => []
  | k, 0 :: t => .int (h.1 o k) :: fv ρ h o (k + 1) t
  | k, 1 :: t => .long (h.2 o k) :: fv ρ h o (k + 1) t
  | k, 2 :: t => .int (h.1 o k) :: fv ρ h o (k + 1) t
  | k, (r + 3) :: t => .ref (ρ r) :: fv ρ h o (k + 1) t
def cellE (ρ : Nat → Nat) (dA : Nat → ClassId) (h : Hp) (o : Nat) (q : SH) : va_E := match q with
  | .inl (c, fs) => .inr (c, fv ρ h o 0 fs)
  | .inr (0, n, _) => .inl (dA 0, n, .inl (h.1 o))
  | .inr (1, n, _) => .inl (dA 1, n, .inl (h.1 o))
  | .inr (2, n, _) => .inl (dA 2, n, .inr (.inl (h.2 o)))
  | .inr (_, n, rs) => .inl (dA 3, n, .inr (.inr (.inr (.inr (fun j => (rs[j]?).map ρ)))))
def shD (o : Nat) : SH := (sh o).getD (.inr (0, 0, []))
def wsOf (ρ : Nat → Nat) (dA : Nat → ClassId) (h : Hp) : va_W := (List.range 66).map (fun o => (ρ o, cellE ρ dA h o (shD o)))
abbrev tysOf (dA : Nat → ClassId) : List (ClassId × FieldType) := [(dA 0, .int), (dA 1, .byte), (dA 2, .long), (dA 3, .object "LoomCards$Sheet")]
def strK : List Nat := [38, 47, 52, 103, 105, 107, 109, 111, 113, 115]
def strT : List String := ["card", "tie", "order", "law", "even", "long", "step", "tight", "turn", ""]
def strN : List Nat := [4, 3, 5, 3, 4, 4, 4, 5, 4, 0]
def strB : List (List Int32) := [[99, 97, 114, 100], [116, 105, 101], [111, 114, 100, 101, 114], [108, 97, 119], [101, 118, 101, 110], [108, 111, 110, 103], [115, 116, 101, 112], [116, 105, 103, 104, 116], [116, 117, 114, 110], []]
/-- what lies outside: the script, the class's own table, the statics -/
def Ex (ρ : Nat → Nat) (A : Nat → Prop) (X : Xs) (s : State) : Prop :=
  va_T .int (ρ 1000) X.1 (fun j => .int (X.2 j)) A s s.heap ∧ va_T .int (ρ 1002) 6 (fun j => .int (ovf j)) A s s.heap ∧ va_Z "LoomCards" "OVER" "[I" (.ref (ρ 1002)) A s s.heap ∧
  (∀ q ∈ statM, va_Z "LoomCardsModel" q.1 "J" (.long q.2) A s s.heap) ∧ X.1 < 2 ^ 31 ∧ va_Z "java/lang/String" "COMPACT_STRINGS" "Z" (.int 1) A s s.heap ∧
  va_Z "jdk/internal/util/Preconditions" "SIOOBE_FORMATTER" "Ljava/util/function/BiFunction;" (cv ρ .null) A s s.heap ∧ (∀ i : Nat, i < 10 → vk_R "LoomCards$Text" (strK.getD i 0) (strT.getD i "") (ρ (2000 + i)) s) ∧ vk_S 10 strN strB (fun i => ρ (2000 + i)) (fun i => ρ (2100 + i)) A s s.heap ∧
  (∀ (own : String) (i : Nat) (y : MethodName) (host : String), Cond.methodLinkNest own i y host ∈ lw_tbl → va_Nw (.methodLinkNest own i y host) s)
def LR (ρ : Nat → Nat) (L : List Value) (ls : Array Slot) (nL : Nat) : Prop := L.length = nL ∧ ls.size = nL ∧ lv_wf ls ∧ ∀ (k : Nat) (v : Value), L[k]? = some v → v ≠ .null → ls[k]? = some (.val (cv ρ v))
def Cx (e : ME) (D : va_G) (dA : Nat → ClassId) (p : Program) (R : Room) (s : State) (m : MethodId) (args : Array Value) (meth : Method) (c : Code) (cells slots : Nat) : Prop :=
  p.tables.exec = Jvm.exec ∧ c.code = eB e ∧ meth.sig.returnType = eR e ∧ c.maxLocals = eM e ∧ s.vm.findClass e.1.cls = some m.cls ∧ (∀ w ∈ tb, w.before args s = true) ∧ meth.locks = false ∧
  (eF e ≤ R.frames ∧ eL e ≤ R.locals) ∧ (cells ≤ R.cells ∧ slots ≤ R.slots) ∧ va_K D vwCl (tysOf dA) s
def Wd (ρ : Nat → Nat) (D : va_G) (dA : Nat → ClassId) (A : Nat → Prop) (h : Hp) (H : Heap) : Prop := va_P D vwCl (wsOf ρ dA h) H ∧ va_D A (wsOf ρ dA h)
/-- a return instruction that fits the method's answer -/
def RetI (e : ME) (pc : Nat) (v : Option Value) : Prop := match v with
  | none => eR e = none ∧ decode (eB e) pc = .ok (.return_, 1)
  | some (.int x) => (∃ ty, eR e = some ty ∧ narrow ty (.int x) = .int x) ∧ decode (eB e) pc = .ok (.ireturn, 1)
  | some (.long _) => eR e = some .long ∧ decode (eB e) pc = .ok (.lreturn, 1)
  | some (.ref _) => (∃ n, eR e = some (.object n)) ∧ decode (eB e) pc = .ok (.areturn, 1)
  | _ => False
def Go (X : Xs) (mid pc : Nat) (L S : List Value) (h : Hp) (Q : Qt) : Prop :=
  ∀ (e : ME), mts[mid]? = some e → ∀ (ρ : Nat → Nat) (D : va_G) (dA : Nat → ClassId) (A : Nat → Prop) (p : Program) (l : Launch) (env : Env) (R : Room) (s : State) (m : MethodId) (args : Array Value) (below : List Frame) (meth : Method) (c : Code) (cells slots : Nat) (fin : State → Prop),
  Cx e D dA p R s m args meth c cells slots → Ex ρ A X s →
  (∀ (v : Option Value) (h' : Hp) (H : Heap) (locs : List Loc) (ls : Array Slot) (pc' : Nat), RetI e pc' v → Wd ρ D dA A h' H → va_S A s.heap H locs → Q v h' → W p l env R s m args below meth c H locs cells slots fin (F0 m pc' ls (v.toList.map (cv ρ)))) →
  ∀ (H : Heap) (locs : List Loc) (ls : Array Slot), Wd ρ D dA A h H → va_S A s.heap H locs → LR ρ L ls (eM e) → W p l env R s m args below meth c H locs cells slots fin (F0 m pc ls (S.map (cv ρ)))
-- ===== one instruction
def pI (S : List Value) (f : Int32 → List Value → Prop) : Prop := match S with
  | .int x :: r => f x r
  | _ => False
def pL (S : List Value) (f : Int64 → List Value → Prop) : Prop := match S with
  | .long x :: r => f x r
  | _ => False
def pR (S : List Value) (f : Nat → List Value → Prop) : Prop := match S with
  | .ref x :: r => f x r
  | _ => False
def ldI (L : List Value) (k : Nat) (f : Int32 → Prop) : Prop := match L[k]? with
  | some (.int x) => f x
  | _ => False
def ldL (L : List Value) (k : Nat) (f : Int64 → Prop) : Prop := match L[k]? with
  | some (.long x) => f x
  | _ => False
def ldR (L : List Value) (k : Nat) (f : Nat → Prop) : Prop := match L[k]? with
  | some (.ref x) => f x
  | _ => False
def killL (L : List Value) (k : Nat) : List Value := match k with
  | 0 => L
  | j + 1 => match L[j]? with
    | some (.long _) => L.set j .null
    | some (.double _) => L.set j .null
    | _ => L
def setC : List Value → Nat → Value → (List Value → Prop) → Prop
  | [], _, _, _ => False
  | _ :: t, 0, v, f => f (v :: t)
  | x :: t, k + 1, v, f => setC t k v (fun t' => f (x :: t'))
def killC (L : List Value) (k : Nat) (f : List Value → Prop) : Prop := match k with
  | 0 => f L
  | j + 1 => match L[j]? with
    | some (.long _) => setC L j .null f
    | some (.double _) => setC L j .null f
    | _ => f L
def st1 (L : List Value) (k : Nat) (v : Value) (f : List Value → Prop) : Prop := killC L k (fun L => setC L k v f)
def st2 (L : List Value) (k : Nat) (v : Value) (f : List Value → Prop) : Prop := killC L k (fun L => setC L k v (fun L => setC L (k + 1) .null f))
def popC : Nat → List Value → List Value → (List Value → List Value → Prop) → Prop
  | 0, as, S, f => f as S
  | n + 1, as, v :: S, f => popC n (v :: as) S f
  | _ + 1, _, [], _ => False
def padC : Nat → (List Value → Prop) → Prop
  | 0, f => f []
  | m + 1, f => padC m (fun l => f (.null :: l))
def entC : List Value → Nat → (List Value → Prop) → Prop
  | [], m, f => padC m f
  | v :: t, m, f => match v, m with
    | .long x, m' + 2 => entC t m' (fun l => f (.long x :: .null :: l))
    | .long _, _ => False
    | .double _, _ => False
    | v, m' + 1 => entC t m' (fun l => f (v :: l))
    | _, _ => False
def pushO (v : Option Value) (r : List Value) : List Value := match v with
  | some x => x :: r
  | none => r
def jmp (pc : Nat) (off : Int) (f : Nat → Prop) : Prop := match (pc : Int) + off with
  | .ofNat t => f t
  | _ => False
def br (c : ClassFile.Cond) (x y : Int32) (a b : Prop) : Prop := match c with
  | .eq => (x = y → a) ∧ (¬ x = y → b)
  | .ne => (¬ x = y → a) ∧ (x = y → b)
  | .lt => (x < y → a) ∧ (¬ x < y → b)
  | .ge => (y ≤ x → a) ∧ (¬ y ≤ x → b)
  | .gt => (y < x → a) ∧ (¬ y < x → b)
  | .le => (x ≤ y → a) ∧ (¬ x ≤ y → b)
def tsw (x : Int32) : Int → List Int → (Int → Prop) → Prop
  | _, [], _ => True
  | lo, o :: t, K => (x.toInt = lo → K o) ∧ tsw x (lo + 1) t K
def cats (S : List Value) : Nat := (S.map fun v => v.category).sum
def entA : List Value → List Value
  | [] => []
  | .long x :: t => .long x :: .null :: entA t
  | .double x :: t => .double x :: .null :: entA t
  | v :: t => v :: entA t
def entL (n : Nat) (as : List Value) : List Value := entA as ++ List.replicate (n - (entA as).length) .null
def fld (mid i : Nat) (f : Nat → Nat → Prop) : Prop := match cno mid with
  | some c => match lk c i with
    | some (.inl q) => f q.1 q.2
    | _ => False
  | none => False
def kst (mid i : Nat) (f : Value → Prop) : Prop := match cno mid with
  | some c => match lk c i with
    | some (.inr (.inl v)) => f v
    | _ => False
  | none => False
def sta (mid i : Nat) (f : Value → Prop) : Prop := match cno mid with
  | some c => match lk c i with
    | some (.inr (.inr (.inl v))) => f v
    | _ => False
  | none => False
def mth (mid i : Nat) (f : Nat → Bool → Nat → Nat → Prop) : Prop := match cno mid with
  | some c => match lk c i with
    | some (.inr (.inr (.inr q))) => f q.1 q.2.1 q.2.2.1 q.2.2.2
    | _ => False
  | none => False
def strI (j : Nat) : Option Nat := cond (Nat.beq j 38) (some 0) (cond (Nat.beq j 47) (some 1) (cond (Nat.beq j 52) (some 2) (cond (Nat.beq j 103) (some 3) (cond (Nat.beq j 105) (some 4) (cond (Nat.beq j 107) (some 5) (cond (Nat.beq j 109) (some 6) (cond (Nat.beq j 111) (some 7) (cond (Nat.beq j 113) (some 8) (cond (Nat.beq j 115) (some 9) (none))))))))))
def strL (mid j : Nat) : Option Nat := match cno mid with
  | some 4 => strI j
  | _ => none
def strO (o : Nat) : Option Nat := cond (Nat.ble 2000 o && Nat.blt o 2010) (some (o - 2000)) none
def strV (o : Nat) : Option Nat := cond (Nat.ble 2100 o && Nat.blt o 2110) (some (o - 2100)) none
def strF (mid j i : Nat) (f : Value → Prop) : Prop := match cno mid with
  | some c => cond (Nat.beq c 10) (cond (Nat.beq j 9) (f (.ref (2100 + i))) (cond (Nat.beq j 15) (f (.int 0)) False)) False
  | none => False
def strS (mid j : Nat) : Option Value := match cno mid with
  | some c => cond (Nat.beq c 10) (cond (Nat.beq j 38) (some (.int 1)) (cond (Nat.beq j 1053) (some .null) none)) none
  | none => none
def arr (o : Nat) (kd : Nat) (f : Nat → Prop) : Prop := match sh o with
  | some (.inr (k, n, _)) => cond (Nat.beq k kd) (f n) False
  | _ => False
def alen (X : Xs) (o : Nat) (f : Nat → Prop) : Prop := match sh o with
  | some (.inr (_, n, _)) => f n
  | some _ => False
  | none => cond (Nat.beq o 1000) (f X.1) (cond (Nat.beq o 1002) (f 6) (match strV o with
    | some i => f (strN.getD i 0)
    | none => False))
def iald (X : Xs) (h : Hp) (o : Nat) (i : Int32) (f : Int32 → Prop) : Prop := match sh o with
  | some (.inr (0, n, _)) => ∃ q : Nat, i = nI q ∧ q < n ∧ f (h.1 o q)
  | some _ => False
  | none => cond (Nat.beq o 1000) (∃ q : Nat, i = nI q ∧ q < X.1 ∧ f (X.2 q)) (cond (Nat.beq o 1002) (∃ q : Nat, i = nI q ∧ q < 6 ∧ f (ovf q)) False)
def aald (o : Nat) (i : Int32) (f : Nat → Prop) : Prop := match sh o with
  | some (.inr (3, n, rs)) => ∃ j : Nat, i = nI j ∧ j < n ∧ (match rs[j]? with
    | some q => f q
    | none => False)
  | _ => False
def getF (h : Hp) (o ci kk : Nat) (f : Value → Prop) : Prop := match sh o with
  | some (.inl (c, fs)) => cond (Nat.beq c ci) (match fs[kk]? with
    | some 0 => f (.int (h.1 o kk))
    | some 1 => f (.long (h.2 o kk))
    | some 2 => f (.int (h.1 o kk))
    | some (r + 3) => f (.ref r)
    | none => False) False
  | _ => False
def putF (h : Hp) (o ci kk : Nat) (v : Value) (f : Hp → Prop) : Prop := match sh o with
  | some (.inl (c, fs)) => cond (Nat.beq c ci) (match fs[kk]?, v with
    | some 0, .int x => f (up2 h.1 o kk x, h.2)
    | some 1, .long x => f (h.1, up2 h.2 o kk x)
    | some 2, .int x => (x = 0 ∨ x = 1) ∧ f (up2 h.1 o kk x, h.2)
    | _, _ => False) False
  | _ => False
def rOk (mid : Nat) (x : Int32) (a : Prop) : Prop := match rtp mid with
  | some 0 => a
  | some 1 => (x = 0 ∨ x = 1) ∧ a
  | some 2 => narrow .byte (.int x) = .int x ∧ a
  | some 3 => narrow .char (.int x) = .int x ∧ a
  | _ => False
def isObj (o cm : Nat) (a : Prop) : Prop := match sh o, cno cm with
  | some (.inl (c, _)), some d => cond (Nat.beq c d) a False
  | none, some d => (match strO o with
    | some _ => cond (Nat.beq d 10) a False
    | none => False)
  | _, _ => False
def acp (h : Hp) (s d : Nat) (sp dp n : Int32) (f : Hp → Prop) : Prop := match sh s, sh d with
  | some (.inr (0, n0, _)), some (.inr (0, n1, _)) => ∃ a b l : Nat, (sp = nI a ∧ dp = nI b ∧ n = nI l) ∧ (a + l ≤ n0 ∧ b + l ≤ n1) ∧ f (upr h.1 d (va_cpy (h.1 s) (h.1 d) a b l), h.2)
  | some (.inr (2, n0, _)), some (.inr (2, n1, _)) => ∃ a b l : Nat, (sp = nI a ∧ dp = nI b ∧ n = nI l) ∧ (a + l ≤ n0 ∧ b + l ≤ n1) ∧ f (h.1, upr h.2 d (va_cpy (h.2 s) (h.2 d) a b l))
  | _, _ => False
def calA (nx : Nat) (L S : List Value) (h : Hp) (k : Nat → List Value → List Value → Hp → Prop) : Prop := match S with
  | .int ln :: .int dp :: .ref d :: .int sp :: .ref s :: r => cond (Nat.ble (cats r) 8) (acp h s d sp dp ln (fun h' => k nx L r h')) False
  | _ => False
def calM (nx : Nat) (L S : List Value) (h : Hp) (f : Int32 → Int32 → Int32) (k : Nat → List Value → List Value → Hp → Prop) : Prop := match S with
  | .int y :: .int x :: r => cond (Nat.ble (cats r) 8) (k nx L (.int (f x y) :: r) h) False
  | _ => False
def calS (X : Xs) (mid nx : Nat) (cm n mx : Nat) (L S : List Value) (h : Hp) (Q : Qt) (k : Nat → List Value → List Value → Hp → Prop) : Prop :=
  cond (Nat.beq cm 9999) (calA nx L S h k)
  (cond (Nat.beq cm 9998) (calM nx L S h (fun x y => if x < y then y else x) k)
  (cond (Nat.beq cm 9997) (calM nx L S h (fun x y => if y < x then y else x) k)
  (popC n [] S (fun as r => cond (Nat.ble (cats r) 8) (entC as mx (fun l => Go X cm 0 l [] h (fun v h' => Go X mid nx L (pushO v r) h' Q))) False))))
def calV (X : Xs) (mid nx : Nat) (cm n mx : Nat) (L S : List Value) (h : Hp) (Q : Qt) : Prop :=
  popC n [] S (fun as r => match r with
    | .ref o :: r => cond (Nat.ble (cats r) 8) (isObj o cm (entC (.ref o :: as) mx (fun l => Go X cm 0 l [] h (fun v h' => Go X mid nx L (pushO v r) h' Q)))) False
    | _ => False)
def stp (X : Xs) (mid pc nx tg : Nat) (i : Instr) (L S : List Value) (h : Hp) (Q : Qt) (k : Nat → List Value → List Value → Hp → Prop) : Prop := match i with
  | .iconst c => k nx L (.int (Int32.ofInt c) :: S) h
  | .bipush c => k nx L (.int (Int8.ofInt c).toInt32 :: S) h
  | .sipush c => k nx L (.int (Int16.ofInt c).toInt32 :: S) h
  | .lconst c => k nx L (.long (Int64.ofNat c) :: S) h
  | .ldc j => match strL mid j with
    | some i => k nx L (.ref (2000 + i) :: S) h
    | none => kst mid j (fun v => match v with
      | .int x => k nx L (.int x :: S) h
      | _ => False)
  | .ldc_w j => kst mid j (fun v => match v with
    | .int x => k nx L (.int x :: S) h
    | _ => False)
  | .ldc2_w j => kst mid j (fun v => match v with
    | .long x => k nx L (.long x :: S) h
    | _ => False)
  | .iload j => ldI L j (fun x => k nx L (.int x :: S) h)
  | .iload_n j => ldI L j (fun x => k nx L (.int x :: S) h)
  | .lload j => ldL L j (fun x => k nx L (.long x :: S) h)
  | .lload_n j => ldL L j (fun x => k nx L (.long x :: S) h)
  | .aload j => ldR L j (fun x => k nx L (.ref x :: S) h)
  | .aload_n j => ldR L j (fun x => k nx L (.ref x :: S) h)
  | .istore j => pI S (fun x r => st1 L j (.int x) (fun L => k nx L r h))
  | .istore_n j => pI S (fun x r => st1 L j (.int x) (fun L => k nx L r h))
  | .astore j => pR S (fun x r => st1 L j (.ref x) (fun L => k nx L r h))
  | .astore_n j => pR S (fun x r => st1 L j (.ref x) (fun L => k nx L r h))
  | .lstore j => pL S (fun x r => st2 L j (.long x) (fun L => k nx L r h))
  | .lstore_n j => pL S (fun x r => st2 L j (.long x) (fun L => k nx L r h))
  | .iinc j c => ldI L j (fun x => st1 L j (.int (x + Int32.ofInt c)) (fun L => k nx L S h))
  | .iadd => pI S (fun y r => pI r (fun x r => k nx L (.int (x + y) :: r) h))
  | .isub => pI S (fun y r => pI r (fun x r => k nx L (.int (x - y) :: r) h))
  | .imul => pI S (fun y r => pI r (fun x r => k nx L (.int (x * y) :: r) h))
  | .iand => pI S (fun y r => pI r (fun x r => k nx L (.int (x &&& y) :: r) h))
  | .ior => pI S (fun y r => pI r (fun x r => k nx L (.int (x ||| y) :: r) h))
  | .ixor => pI S (fun y r => pI r (fun x r => k nx L (.int (x ^^^ y) :: r) h))
  | .idiv => pI S (fun y r => pI r (fun x r => ¬ y = 0 ∧ k nx L (.int (x / y) :: r) h))
  | .irem => pI S (fun y r => pI r (fun x r => ¬ y = 0 ∧ k nx L (.int (x - x / y * y) :: r) h))
  | .ishl => pI S (fun y r => pI r (fun x r => k nx L (.int (x <<< (y &&& 31)) :: r) h))
  | .ishr => pI S (fun y r => pI r (fun x r => k nx L (.int (x >>> (y &&& 31)) :: r) h))
  | .iushr => pI S (fun y r => pI r (fun x r => k nx L (.int (x.toUInt32 >>> (y.toUInt32 &&& Int32.toUInt32 31)).toInt32 :: r) h))
  | .ladd => pL S (fun y r => pL r (fun x r => k nx L (.long (x + y) :: r) h))
  | .lsub => pL S (fun y r => pL r (fun x r => k nx L (.long (x - y) :: r) h))
  | .lmul => pL S (fun y r => pL r (fun x r => k nx L (.long (x * y) :: r) h))
  | .land => pL S (fun y r => pL r (fun x r => k nx L (.long (x &&& y) :: r) h))
  | .lor => pL S (fun y r => pL r (fun x r => k nx L (.long (x ||| y) :: r) h))
  | .lshl => pI S (fun y r => pL r (fun x r => k nx L (.long (x <<< (y.toInt64 &&& 63)) :: r) h))
  | .lshr => pI S (fun y r => pL r (fun x r => k nx L (.long (x >>> (y.toInt64 &&& 63)) :: r) h))
  | .lcmp => pL S (fun y r => pL r (fun x r => k nx L (.int (lg_cmp x y) :: r) h))
  | .i2l => pI S (fun x r => k nx L (.long x.toInt64 :: r) h)
  | .l2i => pL S (fun x r => k nx L (.int x.toInt32 :: r) h)
  | .i2b => pI S (fun x r => k nx L (.int x.toInt8.toInt32 :: r) h)
  | .i2c => pI S (fun x r => k nx L (.int (x.toUInt32 % 65536).toInt32 :: r) h)
  | .i2s => pI S (fun x r => k nx L (.int x.toInt16.toInt32 :: r) h)
  | .dup => match S with
    | .int x :: r => k nx L (.int x :: .int x :: r) h
    | .ref x :: r => k nx L (.ref x :: .ref x :: r) h
    | _ => False
  | .dup2 => match S with
    | .int x :: .ref y :: r => k nx L (.int x :: .ref y :: .int x :: .ref y :: r) h
    | .int x :: .int y :: r => k nx L (.int x :: .int y :: .int x :: .int y :: r) h
    | .long x :: r => k nx L (.long x :: .long x :: r) h
    | _ => False
  | .pop => match S with
    | .int _ :: r => k nx L r h
    | _ => False
  | .goto _ => k tg L S h
  | .ifCond c _ => pI S (fun x r => br c x 0 (k tg L r h) (k nx L r h))
  | .if_icmp c _ => pI S (fun y r => pI r (fun x r => br c x y (k tg L r h) (k nx L r h)))
  | .tableswitch d lo hi offs => pI S (fun x r => tsw x lo offs.toList (fun off => jmp pc off (fun t => k t L r h)) ∧ (x.toInt < lo ∨ hi < x.toInt → jmp pc d (fun t => k t L r h)))
  | .getfield j => pR S (fun o r => match strO o with
    | some i => strF mid j i (fun v => k nx L (v :: r) h)
    | none => fld mid j (fun ci kk => getF h o ci kk (fun v => k nx L (v :: r) h)))
  | .putfield j => match S with
    | v :: r => pR r (fun o r => fld mid j (fun ci kk => putF h o ci kk v (fun h' => k nx L r h')))
    | _ => False
  | .getstatic j => match strS mid j with
    | some v => k nx L (v :: S) h
    | none => sta mid j (fun v => k nx L (v :: S) h)
  | .arraylength => pR S (fun o r => alen X o (fun n => k nx L (.int (Int32.ofNat n) :: r) h))
  | .iaload => pI S (fun i r => pR r (fun o r => iald X h o i (fun x => k nx L (.int x :: r) h)))
  | .baload => pI S (fun i r => pR r (fun o r => match strV o with
    | some q => ∃ j : Nat, i = nI j ∧ j < strN.getD q 0 ∧ k nx L (.int ((strB.getD q []).getD j 0) :: r) h
    | none => arr o 1 (fun n => ∃ j : Nat, i = nI j ∧ j < n ∧ k nx L (.int (h.1 o j) :: r) h)))
  | .laload => pI S (fun i r => pR r (fun o r => arr o 2 (fun n => ∃ j : Nat, i = nI j ∧ j < n ∧ k nx L (.long (h.2 o j) :: r) h)))
  | .aaload => pI S (fun i r => pR r (fun o r => aald o i (fun q => k nx L (.ref q :: r) h)))
  | .iastore => pI S (fun x r => pI r (fun i r => pR r (fun o r => arr o 0 (fun n => ∃ j : Nat, i = nI j ∧ j < n ∧ k nx L r (up2 h.1 o j x, h.2)))))
  | .bastore => pI S (fun x r => pI r (fun i r => pR r (fun o r => arr o 1 (fun n => ∃ j : Nat, i = nI j ∧ j < n ∧ k nx L r (up2 h.1 o j (vp_nar .byte x), h.2)))))
  | .lastore => pL S (fun x r => pI r (fun i r => pR r (fun o r => arr o 2 (fun n => ∃ j : Nat, i = nI j ∧ j < n ∧ k nx L r (h.1, up2 h.2 o j x)))))
  | .invokestatic j => mth mid j (fun cm stt n mx => cond stt (calS X mid nx cm n mx L S h Q k) False)
  | .invokevirtual j => mth mid j (fun cm stt n mx => cond stt False (calV X mid nx cm n mx L S h Q))
  | .ireturn => match S with
    | [.int x] => rOk mid x (Q (some (.int x)) h)
    | _ => False
  | .lreturn => match S with
    | [.long x] => Q (some (.long x)) h
    | _ => False
  | .areturn => match S with
    | [.ref x] => Q (some (.ref x)) h
    | _ => False
  | .return_ => match S with
    | [] => Q none h
    | _ => False
  | _ => False
def hasN : List Nat → Nat → Bool
  | [], _ => false
  | a :: l, b => cond (Nat.beq a b) true (hasN l b)
/-- n instructions on, but not beyond the places of st -/
def vc (X : Xs) (st : List Nat) : Nat → (mid pc : Nat) → (L S : List Value) → Hp → Qt → Prop
  | 0, mid, pc, L, S, h, Q => Go X mid pc L S h Q
  | n + 1, mid, pc, L, S, h, Q => match tab mid pc, nt mid pc with
    | some (i, _), some (nx, tg) => stp X mid pc nx tg i L S h Q (fun pc' L' S' h' => cond (hasN st pc') (Go X mid pc' L' S' h' Q) (vc X st n mid pc' L' S' h' Q))
    | _, _ => False
