abbrev bC : Type := (Nat × Nat × (Nat → Int32)) ⊕ ((Nat × (Nat → Int64)) ⊕ (Nat × List Value))
abbrev bW : Type := List bC
abbrev bLk : Type := (Nat × Nat × Nat) ⊕ (Nat ⊕ (Int32 ⊕ Int64))
/-- a method: name, bytes, most locals, answer's type, number of its file in the list, static, arguments, its instructions by place, what its pool's entries are -/
abbrev bM : Type := MethodName × ByteArray × Nat × Option FieldType × Nat × Bool × Nat × List (Nat × Instr × Nat) × List (Nat × bLk)
abbrev bM_y (M : bM) : MethodName := M.1
abbrev bM_code (M : bM) : ByteArray := M.2.1
abbrev bM_maxL (M : bM) : Nat := M.2.2.1
abbrev bM_ret (M : bM) : Option FieldType := M.2.2.2.1
abbrev bM_ci (M : bM) : Nat := M.2.2.2.2.1
abbrev bM_st (M : bM) : Bool := M.2.2.2.2.2.1
abbrev bM_na (M : bM) : Nat := M.2.2.2.2.2.2.1
abbrev bM_tab (M : bM) : List (Nat × Instr × Nat) := M.2.2.2.2.2.2.2.1
abbrev bM_pool (M : bM) : List (Nat × bLk) := M.2.2.2.2.2.2.2.2
abbrev bL : Type := List (Option Value)
abbrev bJ : Type := List (Nat × Int64)
abbrev bR : Type := Option Value × bW
abbrev bK : Type := Nat → bL → bJ → List Value → bW → Option bR
def bg (ad : Nat → Nat) (v : Value) : Value := match v with
  | .ref k => .ref (ad k)
  | .int x => .int x
  | .long x => .long x
  | .float x => .float x
  | .double x => .double x
  | .null => .null
  | .retAddr x => .retAddr x
def bcell (ad : Nat → Nat) (cA : Nat → ClassId) (c : bC) : va_E := match c with
  | .inl (t, n, f) => .inl (cA t, n, .inl f)
  | .inr (.inl (n, f)) => .inl (cA 3, n, .inr (.inl f))
  | .inr (.inr (ci, fs)) => .inr (ci, fs.map (bg ad))
def bws (ad : Nat → Nat) (cA : Nat → ClassId) (W : bW) : va_W := (List.range W.length).map (fun k => (ad k, bcell ad cA (W.getD k (.inr (.inr (0, []))))))
abbrev btys (cA : Nat → ClassId) : List (ClassId × FieldType) := [(cA 0, .int), (cA 1, .byte), (cA 2, .boolean), (cA 3, .long)]
abbrev bup (W : bW) (k : Nat) (c : bC) : bW := W.set k c
def bfind {α : Type} : List (Nat × α) → Nat → Option α
  | [], _ => none
  | (j, a) :: t, k => bif Nat.beq j k then some a else bfind t k
def bI1 {β : Type} (st : List Value) (k : Int32 → List Value → Option β) : Option β := match st with
  | .int x :: r => k x r
  | _ => none
def bI2 {β : Type} (st : List Value) (k : Int32 → Int32 → List Value → Option β) : Option β := match st with
  | .int y :: .int x :: r => k x y r
  | _ => none
def bJ1 {β : Type} (st : List Value) (k : Int64 → List Value → Option β) : Option β := match st with
  | .long x :: r => k x r
  | _ => none
def bJ2 {β : Type} (st : List Value) (k : Int64 → Int64 → List Value → Option β) : Option β := match st with
  | .long y :: .long x :: r => k x y r
  | _ => none
def bA1 {β : Type} (st : List Value) (k : Nat → List Value → Option β) : Option β := match st with
  | .ref b :: r => k b r
  | _ => none
def bV1 {β : Type} (st : List Value) (k : Value → List Value → Option β) : Option β := match st with
  | v :: r => k v r
  | _ => none
def bLI {β : Type} (L : bL) (i : Nat) (k : Int32 → Option β) : Option β := match L[i]? with
  | some (some (.int x)) => k x
  | _ => none
def bLA {β : Type} (L : bL) (i : Nat) (k : Nat → Option β) : Option β := match L[i]? with
  | some (some (.ref x)) => k x
  | _ => none
def bLJ {β : Type} (J : bJ) (i : Nat) (k : Int64 → Option β) : Option β := match bfind J i with
  | some x => k x
  | none => none
def bJ_1 (J : bJ) (i : Nat) : bJ := J.filter (fun q => !(q.1 == i) && !(q.1 + 1 == i))
def bJ_2 (J : bJ) (i : Nat) : bJ := J.filter (fun q => !(q.1 == i) && (!(q.1 == i + 1) && !(q.1 + 1 == i)))
def bif_ {β : Type} (c : Bool) (x : Option β) : Option β := match c with
  | true => x
  | false => none
def bAI {β : Type} (W : bW) (b : Nat) (k : Nat → Nat → (Nat → Int32) → Option β) : Option β := match W[b]? with
  | some (.inl (t, n, f)) => k t n f
  | _ => none
def bAJ {β : Type} (W : bW) (b : Nat) (k : Nat → (Nat → Int64) → Option β) : Option β := match W[b]? with
  | some (.inr (.inl (n, f))) => k n f
  | _ => none
def bAO {β : Type} (W : bW) (b : Nat) (k : Nat → List Value → Option β) : Option β := match W[b]? with
  | some (.inr (.inr (ci, fs))) => k ci fs
  | _ => none
def bLen {β : Type} (W : bW) (b : Nat) (k : Nat → Option β) : Option β := match W[b]? with
  | some (.inl (t, n, _)) => bif_ (Nat.blt t 3) (k n)
  | some (.inr (.inl (n, _))) => k n
  | _ => none
def bin_ {β : Type} (i : Int32) (n : Nat) (x : Option β) : Option β := if i < 0 ∨ n ≤ i.toNatClampNeg then none else x
def btgt {β : Type} (pc : Nat) (off : Int) (k : Nat → Option β) : Option β := match (pc : Int) + off with
  | .ofNat t => k t
  | .negSucc _ => none
def bcat (st : List Value) : Nat := (st.map fun v => v.category).sum
def bbr {β : Type} (c : ClassFile.Cond) (x y : Int32) (t f : Option β) : Option β := match c with
  | .eq => if x = y then t else f
  | .ne => if x = y then f else t
  | .lt => if x < y then t else f
  | .ge => if y ≤ x then t else f
  | .gt => if y < x then t else f
  | .le => if x ≤ y then t else f
def bsw {β : Type} (pc : Nat) (x : Int32) (dflt : Int) (k : Nat → Option β) : Int → List Int → Option β
  | _, [] => btgt pc dflt k
  | lo, o :: os => if x.toInt = lo then btgt pc o k else bsw pc x dflt k (lo + 1) os
def bkd (kd : Nat) (v : Value) : Bool := match kd, v with
  | 0, .int _ => true
  | 1, .int x => x == 0 || x == 1
  | 2, .ref _ => true
  | _, _ => false
def bent : Nat → List Value → bL × bJ
  | _, [] => ([], [])
  | i, .long x :: vs => (none :: none :: (bent (i + 2) vs).1, (i, x) :: (bent (i + 2) vs).2)
  | i, .int x :: vs => (some (.int x) :: (bent (i + 1) vs).1, (bent (i + 1) vs).2)
  | i, .ref x :: vs => (some (.ref x) :: (bent (i + 1) vs).1, (bent (i + 1) vs).2)
  | _, _ => ([], [])
def bpad (n : Nat) (L : bL) : bL := match n, L with
  | 0, L => L
  | n + 1, [] => none :: bpad n []
  | n + 1, x :: L => x :: bpad n L
abbrev bCall : Type := Nat → bM → List Value → bW → Option bR
def bopt (o : Option bR) (k : Option Value → bW → Option bR) : Option bR := match o with
  | some (v, W') => k v W'
  | none => none
def bdo (call : bCall) (d : Nat) (M : bM) (args : List Value) (W : bW) (k : Option Value → bW → Option bR) : Option bR := match d with
  | 0 => none
  | d + 1 => bif_ (Nat.ble (bcat args) (bM_maxL M)) (bopt (call d M args W) k)
def bcopy (W : bW) (d : Nat) (st : List Value) (k : List Value → bW → Option bR) : Option bR := match st with
  | .int n :: .int dp :: .ref a :: .int sp :: .ref a0 :: r => bAI W a0 fun t0 n0 f => bAI W a fun t1 n1 g =>
    bif_ (Nat.beq t0 0 && Nat.beq t1 0 && Nat.ble 1 d && Nat.ble (bcat r) 8) (if sp < 0 ∨ dp < 0 ∨ n < 0 ∨ n0 < sp.toNatClampNeg + n.toNatClampNeg ∨ n1 < dp.toNatClampNeg + n.toNatClampNeg then none else k r (bup W a (.inl (0, n1, va_cpy f g sp.toNatClampNeg dp.toNatClampNeg n.toNatClampNeg))))
  | _ => none
def bret (M : bM) (v : Option Value) (W : bW) : Option bR := match bM_ret M, v with
  | none, none => some (none, W)
  | some .int, some (.int x) => some (some (.int x), W)
  | some .boolean, some (.int x) => if x = 0 ∨ x = 1 then some (some (.int x), W) else none
  | some .long, some (.long x) => some (some (.long x), W)
  | _, _ => none
def bmt (MT : List bM) (mi : Nat) (k : bM → Option bR) : Option bR := match MT[mi]? with
  | some M => k M
  | none => none
def bstep (MT : List bM) (call : bCall) (M : bM) (K : bK) (d pc : Nat) (i : Instr) (len : Nat) (L : bL) (J : bJ) (st : List Value) (W : bW) : Option bR :=
  match i with
  | .aload_n k => bif_ (Nat.beq len 1) (bLA L k.val fun x => K (pc + 1) L J (.ref x :: st) W)
  | .aload k => bif_ (Nat.beq len 2) (bLA L k fun x => K (pc + 2) L J (.ref x :: st) W)
  | .iload_n k => bif_ (Nat.beq len 1) (bLI L k.val fun x => K (pc + 1) L J (.int x :: st) W)
  | .iload k => bif_ (Nat.beq len 2) (bLI L k fun x => K (pc + 2) L J (.int x :: st) W)
  | .lload_n k => bif_ (Nat.beq len 1) (bLJ J k.val fun x => K (pc + 1) L J (.long x :: st) W)
  | .lload k => bif_ (Nat.beq len 2) (bLJ J k fun x => K (pc + 2) L J (.long x :: st) W)
  | .istore_n k => bif_ (Nat.beq len 1 && Nat.blt k.val (bM_maxL M)) (bI1 st fun x r => K (pc + 1) (L.set k.val (some (.int x))) (bJ_1 J k.val) r W)
  | .istore k => bif_ (Nat.beq len 2 && Nat.blt k (bM_maxL M)) (bI1 st fun x r => K (pc + 2) (L.set k (some (.int x))) (bJ_1 J k) r W)
  | .astore_n k => bif_ (Nat.beq len 1 && Nat.blt k.val (bM_maxL M)) (bA1 st fun x r => K (pc + 1) (L.set k.val (some (.ref x))) (bJ_1 J k.val) r W)
  | .astore k => bif_ (Nat.beq len 2 && Nat.blt k (bM_maxL M)) (bA1 st fun x r => K (pc + 2) (L.set k (some (.ref x))) (bJ_1 J k) r W)
  | .lstore_n k => bif_ (Nat.beq len 1 && Nat.blt (k.val + 1) (bM_maxL M)) (bJ1 st fun x r => K (pc + 1) ((L.set k.val none).set (k.val + 1) none) ((k.val, x) :: bJ_2 J k.val) r W)
  | .lstore k => bif_ (Nat.beq len 2 && Nat.blt (k + 1) (bM_maxL M)) (bJ1 st fun x r => K (pc + 2) ((L.set k none).set (k + 1) none) ((k, x) :: bJ_2 J k) r W)
  | .iinc k n => bif_ (Nat.beq len 3 && Nat.blt k (bM_maxL M)) (bLI L k fun x => K (pc + 3) (L.set k (some (.int (x + Int32.ofInt n)))) (bJ_1 J k) st W)
  | .iconst n => bif_ (Nat.beq len 1) (K (pc + 1) L J (.int (Int32.ofInt n) :: st) W)
  | .bipush n => bif_ (Nat.beq len 2) (K (pc + 2) L J (.int (Int8.ofInt n).toInt32 :: st) W)
  | .sipush n => bif_ (Nat.beq len 3) (K (pc + 3) L J (.int (Int16.ofInt n).toInt32 :: st) W)
  | .lconst n => bif_ (Nat.beq len 1) (K (pc + 1) L J (.long (Int64.ofNat n.val) :: st) W)
  | .ldc x => bif_ (Nat.beq len 2) (match bfind (bM_pool M) x with
    | some (.inr (.inr (.inl v))) => K (pc + 2) L J (.int v :: st) W
    | _ => none)
  | .ldc_w x => bif_ (Nat.beq len 3) (match bfind (bM_pool M) x with
    | some (.inr (.inr (.inl v))) => K (pc + 3) L J (.int v :: st) W
    | _ => none)
  | .ldc2_w x => bif_ (Nat.beq len 3) (match bfind (bM_pool M) x with
    | some (.inr (.inr (.inr v))) => K (pc + 3) L J (.long v :: st) W
    | _ => none)
  | .getfield x => bif_ (Nat.beq len 3) (match bfind (bM_pool M) x with
    | some (.inl (ci, k, _)) => bA1 st fun b r => bAO W b fun c fs => bif_ (Nat.beq c ci) (match fs[k]? with
      | some v => K (pc + 3) L J (v :: r) W
      | none => none)
    | _ => none)
  | .putfield x => bif_ (Nat.beq len 3) (match bfind (bM_pool M) x with
    | some (.inl (ci, k, kd)) => bV1 st fun v r1 => bA1 r1 fun b r => bAO W b fun c fs => bif_ (Nat.beq c ci && bkd kd v && Nat.blt k fs.length) (K (pc + 3) L J r (bup W b (.inr (.inr (ci, fs.set k v)))))
    | _ => none)
  | .iaload => bif_ (Nat.beq len 1) (bI1 st fun i r1 => bA1 r1 fun b r => bAI W b fun t n f => bif_ (Nat.beq t 0) (bin_ i n (K (pc + 1) L J (.int (f i.toNatClampNeg) :: r) W)))
  | .baload => bif_ (Nat.beq len 1) (bI1 st fun i r1 => bA1 r1 fun b r => bAI W b fun t n f => bif_ (Nat.beq t 1 || Nat.beq t 2) (bin_ i n (K (pc + 1) L J (.int (f i.toNatClampNeg) :: r) W)))
  | .laload => bif_ (Nat.beq len 1) (bI1 st fun i r1 => bA1 r1 fun b r => bAJ W b fun n f => bin_ i n (K (pc + 1) L J (.long (f i.toNatClampNeg) :: r) W))
  | .iastore => bif_ (Nat.beq len 1) (bI2 st fun i x r1 => bA1 r1 fun b r => bAI W b fun t n f => bif_ (Nat.beq t 0) (bin_ i n (K (pc + 1) L J r (bup W b (.inl (0, n, upd f i.toNatClampNeg x))))))
  | .bastore => bif_ (Nat.beq len 1) (bI2 st fun i x r1 => bA1 r1 fun b r => bAI W b fun t n f => match t with
    | 1 => bin_ i n (K (pc + 1) L J r (bup W b (.inl (1, n, upd f i.toNatClampNeg (vp_nar .byte x)))))
    | 2 => bin_ i n (K (pc + 1) L J r (bup W b (.inl (2, n, upd f i.toNatClampNeg (vp_nar .boolean x)))))
    | _ => none)
  | .lastore => bif_ (Nat.beq len 1) (bJ1 st fun x r2 => bI1 r2 fun i r1 => bA1 r1 fun b r => bAJ W b fun n f => bin_ i n (K (pc + 1) L J r (bup W b (.inr (.inl (n, vp_updL f i.toNatClampNeg x))))))
  | .arraylength => bif_ (Nat.beq len 1) (bA1 st fun b r => bLen W b fun n => K (pc + 1) L J (.int (Int32.ofNat n) :: r) W)
  | .iadd => bif_ (Nat.beq len 1) (bI2 st fun x y r => K (pc + 1) L J (.int (x + y) :: r) W)
  | .isub => bif_ (Nat.beq len 1) (bI2 st fun x y r => K (pc + 1) L J (.int (x - y) :: r) W)
  | .imul => bif_ (Nat.beq len 1) (bI2 st fun x y r => K (pc + 1) L J (.int (x * y) :: r) W)
  | .idiv => bif_ (Nat.beq len 1) (bI2 st fun x y r => if y = 0 then none else K (pc + 1) L J (.int (x / y) :: r) W)
  | .irem => bif_ (Nat.beq len 1) (bI2 st fun x y r => if y = 0 then none else K (pc + 1) L J (.int (x - x / y * y) :: r) W)
  | .iand => bif_ (Nat.beq len 1) (bI2 st fun x y r => K (pc + 1) L J (.int (x &&& y) :: r) W)
  | .ior => bif_ (Nat.beq len 1) (bI2 st fun x y r => K (pc + 1) L J (.int (x ||| y) :: r) W)
  | .ixor => bif_ (Nat.beq len 1) (bI2 st fun x y r => K (pc + 1) L J (.int (x ^^^ y) :: r) W)
  | .ishl => bif_ (Nat.beq len 1) (bI2 st fun x y r => K (pc + 1) L J (.int (x <<< (y &&& 31)) :: r) W)
  | .ishr => bif_ (Nat.beq len 1) (bI2 st fun x y r => K (pc + 1) L J (.int (x >>> (y &&& 31)) :: r) W)
  | .iushr => bif_ (Nat.beq len 1) (bI2 st fun x y r => K (pc + 1) L J (.int (x.toUInt32 >>> (y.toUInt32 &&& Int32.toUInt32 31)).toInt32 :: r) W)
  | .ineg => none
  | .i2l => bif_ (Nat.beq len 1) (bI1 st fun x r => K (pc + 1) L J (.long x.toInt64 :: r) W)
  | .l2i => bif_ (Nat.beq len 1) (bJ1 st fun x r => K (pc + 1) L J (.int x.toInt32 :: r) W)
  | .i2b => bif_ (Nat.beq len 1) (bI1 st fun x r => K (pc + 1) L J (.int x.toInt8.toInt32 :: r) W)
  | .i2c => bif_ (Nat.beq len 1) (bI1 st fun x r => K (pc + 1) L J (.int (x.toUInt32 % 65536).toInt32 :: r) W)
  | .ladd => bif_ (Nat.beq len 1) (bJ2 st fun x y r => K (pc + 1) L J (.long (x + y) :: r) W)
  | .lsub => bif_ (Nat.beq len 1) (bJ2 st fun x y r => K (pc + 1) L J (.long (x - y) :: r) W)
  | .lmul => bif_ (Nat.beq len 1) (bJ2 st fun x y r => K (pc + 1) L J (.long (x * y) :: r) W)
  | .lcmp => bif_ (Nat.beq len 1) (bJ2 st fun x y r => K (pc + 1) L J (.int (lg_cmp x y) :: r) W)
  | .dup => bif_ (Nat.beq len 1) (bV1 st fun v r => bif_ (Nat.beq v.category 1) (K (pc + 1) L J (v :: v :: r) W))
  | .dup2 => bif_ (Nat.beq len 1) (bV1 st fun v r1 => bV1 r1 fun w r => bif_ (Nat.beq v.category 1 && Nat.beq w.category 1) (K (pc + 1) L J (v :: w :: v :: w :: r) W))
  | .pop => bif_ (Nat.beq len 1) (bV1 st fun v r => bif_ (Nat.beq v.category 1) (K (pc + 1) L J r W))
  | .ifCond c off => bif_ (Nat.beq len 3) (bI1 st fun x r => btgt pc off fun t => bbr c x 0 (K t L J r W) (K (pc + 3) L J r W))
  | .if_icmp c off => bif_ (Nat.beq len 3) (bI2 st fun x y r => btgt pc off fun t => bbr c x y (K t L J r W) (K (pc + 3) L J r W))
  | .goto off => bif_ (Nat.beq len 3) (btgt pc off fun t => K t L J st W)
  | .tableswitch dflt lo hi offs => bif_ (decide (hi = lo + offs.toList.length - 1)) (bI1 st fun x r => bsw pc x dflt (fun t => K t L J r W) lo offs.toList)
  | .invokevirtual x => bif_ (Nat.beq len 3) (match bfind (bM_pool M) x with
    | some (.inr (.inl mi)) => bmt MT mi fun M' => bA1 (st.drop (bM_na M')) fun b r => bAO W b fun ci _ => bif_ (!bM_st M' && Nat.beq ci (bM_ci M') && Nat.ble (bcat r) 8 && Nat.beq (st.take (bM_na M')).length (bM_na M')) (bdo call d M' (.ref b :: (st.take (bM_na M')).reverse) W fun v W' => K (pc + 3) L J (v.toList ++ r) W')
    | _ => none)
  | .invokestatic x => bif_ (Nat.beq len 3) (match bfind (bM_pool M) x with
    | some (.inr (.inl 0)) => bcopy W d st fun r W' => K (pc + 3) L J r W'
    | some (.inr (.inl mi)) => bmt MT mi fun M' => bif_ (bM_st M' && Nat.ble (bcat (st.drop (bM_na M'))) 8 && Nat.beq (st.take (bM_na M')).length (bM_na M')) (bdo call d M' ((st.take (bM_na M')).reverse) W fun v W' => K (pc + 3) L J (v.toList ++ st.drop (bM_na M')) W')
    | _ => none)
  | .ireturn => bif_ (Nat.beq len 1) (match st with
    | [.int x] => bret M (some (.int x)) W
    | _ => none)
  | .lreturn => bif_ (Nat.beq len 1) (match st with
    | [.long x] => bret M (some (.long x)) W
    | _ => none)
  | .return_ => bif_ (Nat.beq len 1) (match st with
    | [] => bret M none W
    | _ => none)
  | _ => none
def brun (MT : List bM) : Nat → Nat → bM → bK
  | 0, _, _ => fun _ _ _ _ _ => none
  | n + 1, d, M => fun pc L J st W => match bfind (bM_tab M) pc with
    | some (i, len) => bstep MT (fun d' M' args W => brun MT n d' M' 0 (bpad (bM_maxL M') (bent 0 args).1) (bent 0 args).2 [] W) M (brun MT n d M) d pc i len L J st W
    | none => none
