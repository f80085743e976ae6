section
-- ===== PART A: goes FIRST, ahead of the names: the tables' words, and 'selects' of the private methods out of them =====
/-- a private method of a class that the tables say can be made, by its rows of tables_1 -/
def lw_okq (q : MethodName × Nat) : Prop := (q.1.cls ≠ "java/lang/invoke/MethodHandle" ∧ q.1.cls ≠ "java/lang/invoke/VarHandle") ∧ Cond.instantiable q.1.cls q.2 ∈ tables_1 ∧ Cond.privateMethod q.1 ∈ tables_1 ∧ Cond.instanceMethod q.1 ∈ tables_1
theorem lw_p0 : lw_okq (⟨"java/lang/Throwable", "fillInStackTrace", "(I)Ljava/lang/Throwable;"⟩, 6) := ⟨⟨by decide +kernel, by decide +kernel⟩, List.mem_of_getElem? (i := 245) (by decide +kernel), List.mem_of_getElem? (i := 243) (by decide +kernel), List.mem_of_getElem? (i := 244) (by decide +kernel)⟩
theorem lw_p1 : lw_okq (⟨"PinBarrel", "needTooth", "(I)V"⟩, 7) := ⟨⟨by decide +kernel, by decide +kernel⟩, List.mem_of_getElem? (i := 25) (by decide +kernel), List.mem_of_getElem? (i := 299) (by decide +kernel), List.mem_of_getElem? (i := 300) (by decide +kernel)⟩
theorem lw_p2 : lw_okq (⟨"PinBarrel", "needTune", "(I)V"⟩, 7) := ⟨⟨by decide +kernel, by decide +kernel⟩, List.mem_of_getElem? (i := 25) (by decide +kernel), List.mem_of_getElem? (i := 328) (by decide +kernel), List.mem_of_getElem? (i := 329) (by decide +kernel)⟩
theorem lw_p3 : lw_okq (⟨"PinBarrel", "pinTune", "(LPinBarrel$Barrel;III)I"⟩, 7) := ⟨⟨by decide +kernel, by decide +kernel⟩, List.mem_of_getElem? (i := 25) (by decide +kernel), List.mem_of_getElem? (i := 363) (by decide +kernel), List.mem_of_getElem? (i := 364) (by decide +kernel)⟩
theorem lw_p4 : lw_okq (⟨"PinBarrel", "allPins", "()I"⟩, 7) := ⟨⟨by decide +kernel, by decide +kernel⟩, List.mem_of_getElem? (i := 25) (by decide +kernel), List.mem_of_getElem? (i := 515) (by decide +kernel), List.mem_of_getElem? (i := 516) (by decide +kernel)⟩
theorem lw_p5 : lw_okq (⟨"PinBarrel", "wouldLose", "(III)I"⟩, 7) := ⟨⟨by decide +kernel, by decide +kernel⟩, List.mem_of_getElem? (i := 25) (by decide +kernel), List.mem_of_getElem? (i := 523) (by decide +kernel), List.mem_of_getElem? (i := 524) (by decide +kernel)⟩
theorem lw_p6 : lw_okq (⟨"PinBarrel", "digestTooth", "(JI)J"⟩, 7) := ⟨⟨by decide +kernel, by decide +kernel⟩, List.mem_of_getElem? (i := 25) (by decide +kernel), List.mem_of_getElem? (i := 541) (by decide +kernel), List.mem_of_getElem? (i := 542) (by decide +kernel)⟩
theorem lw_p7 : lw_okq (⟨"PinBarrel", "digestTune", "(JI)J"⟩, 7) := ⟨⟨by decide +kernel, by decide +kernel⟩, List.mem_of_getElem? (i := 25) (by decide +kernel), List.mem_of_getElem? (i := 547) (by decide +kernel), List.mem_of_getElem? (i := 548) (by decide +kernel)⟩
theorem lw_p8 : lw_okq (⟨"PinBarrel", "needSound", "(I)V"⟩, 7) := ⟨⟨by decide +kernel, by decide +kernel⟩, List.mem_of_getElem? (i := 25) (by decide +kernel), List.mem_of_getElem? (i := 657) (by decide +kernel), List.mem_of_getElem? (i := 658) (by decide +kernel)⟩
theorem lw_p9 : lw_okq (⟨"PinBarrel", "signOf", "(II)C"⟩, 7) := ⟨⟨by decide +kernel, by decide +kernel⟩, List.mem_of_getElem? (i := 25) (by decide +kernel), List.mem_of_getElem? (i := 709) (by decide +kernel), List.mem_of_getElem? (i := 710) (by decide +kernel)⟩
def lw_privs_1 : List (MethodName × Nat) := [(⟨"java/lang/Throwable", "fillInStackTrace", "(I)Ljava/lang/Throwable;"⟩, 6), (⟨"PinBarrel", "needTooth", "(I)V"⟩, 7), (⟨"PinBarrel", "needTune", "(I)V"⟩, 7), (⟨"PinBarrel", "pinTune", "(LPinBarrel$Barrel;III)I"⟩, 7), (⟨"PinBarrel", "allPins", "()I"⟩, 7), (⟨"PinBarrel", "wouldLose", "(III)I"⟩, 7), (⟨"PinBarrel", "digestTooth", "(JI)J"⟩, 7), (⟨"PinBarrel", "digestTune", "(JI)J"⟩, 7), (⟨"PinBarrel", "needSound", "(I)V"⟩, 7), (⟨"PinBarrel", "signOf", "(II)C"⟩, 7)]
theorem lw_r1 : ∀ q ∈ lw_privs_1, lw_okq q := List.forall_mem_cons.mpr ⟨lw_p0, List.forall_mem_cons.mpr ⟨lw_p1, List.forall_mem_cons.mpr ⟨lw_p2, List.forall_mem_cons.mpr ⟨lw_p3, List.forall_mem_cons.mpr ⟨lw_p4, List.forall_mem_cons.mpr ⟨lw_p5, List.forall_mem_cons.mpr ⟨lw_p6, List.forall_mem_cons.mpr ⟨lw_p7, List.forall_mem_cons.mpr ⟨lw_p8, List.forall_mem_cons.mpr ⟨lw_p9, fun _ h => absurd h List.not_mem_nil⟩⟩⟩⟩⟩⟩⟩⟩⟩⟩
def lw_privs : List (MethodName × Nat) := lw_privs_1
/-- three private methods of the builder's superclass, called on a builder -/
def lw_up : List MethodName := [⟨"java/lang/AbstractStringBuilder", "ensureCapacityInternal", "(I)V"⟩, ⟨"java/lang/AbstractStringBuilder", "newCapacity", "(I)I"⟩, ⟨"java/lang/AbstractStringBuilder", "inflate", "()V"⟩]
def lw_ups : List Cond := lw_up.map fun y => Cond.selects "java/lang/StringBuilder" y y
def lw_tbl : List Cond := lw_ups ++ (k2_sels lw_privs ++ tables_1)
theorem xk_selP {C : String} {x0 y z : MethodName} {n : Nat} {s : State} {args : Array Value} (hy : y.cls ≠ "java/lang/invoke/MethodHandle" ∧ y.cls ≠ "java/lang/invoke/VarHandle") (hC : (Cond.instantiable C n).before args s = true) (hpriv : (Cond.privateMethod y).before args s = true) (hinst : (Cond.instanceMethod y).before args s = true) (hz : (Cond.selects C x0 z).before args s = true) (hzc : z.cls = y.cls) : (Cond.selects C y y).before args s = true := by
  obtain ⟨c, k, hc, hk, -, -, -, -⟩ := Cond.instantiable_spec hC
  obtain ⟨mk, methM, hnamed, hmethM, -, -⟩ := Cond.instanceMethod_spec hinst
  have hfound : s.methodFound? y.cls y.name y.desc = some mk := State.methodFound?_of_named hnamed hy
  have hsel : selectMethod {} s.vm c mk = .method mk := selectMethod_private hmethM (Cond.privateMethod_at hpriv mk methM hnamed hmethM)
  obtain ⟨c2, r2, m2, -, -, hn2, -, kk, hk2, hi2⟩ := Cond.selects_spec hz
  have hcls : mk.cls = m2.cls := by
    have h1 := findClass_of_methodNamed hnamed
    have h2 := findClass_of_methodNamed hn2
    rw [hzc] at h2
    exact Option.some.inj (h1.symm.trans h2)
  simp only [Cond.before, Cond.holds, Cond.value, hc, hfound, hnamed, hsel, hcls, hk2]
  simp; exact hi2
theorem lw_hts {args : Array Value} {s : State} (hts : ∀ w ∈ tables_1, w.before args s = true) (hps : ∀ q ∈ lw_privs, lw_okq q) : ∀ w ∈ lw_tbl, w.before args s = true := by
  intro w hw
  rcases List.mem_append.mp hw with hw | hw
  · obtain ⟨y, hy, rfl⟩ := List.mem_map.mp hw
    have hI := hts (.instantiable "java/lang/StringBuilder" 4) (by decide +kernel)
    have hZ := hts (.selects "java/lang/StringBuilder" ⟨"java/lang/AbstractStringBuilder", "getValue", "()[B"⟩ ⟨"java/lang/AbstractStringBuilder", "getValue", "()[B"⟩) (by decide +kernel)
    have hp : ∀ y ∈ lw_up, Cond.privateMethod y ∈ tables_1 ∧ Cond.instanceMethod y ∈ tables_1 ∧ y.cls = "java/lang/AbstractStringBuilder" := by decide +kernel
    obtain ⟨h1, h2, h3⟩ := hp y hy
    exact xk_selP (by rw [h3]; decide) hI (hts _ h1) (hts _ h2) hZ h3.symm
  · exact k2_hts_sels lw_privs hts hps w hw
theorem lw_privs_ok : ∀ q ∈ lw_privs, lw_okq q := lw_r1
/-- the streams that the claim lets the run draw from -/
abbrev lw_cs : List Choice := [Jvm.Choice.named "NaN.bits"]
theorem lw_bits : nanBits ∈ lw_cs := by first | decide | exact List.mem_cons_self | simp [lw_cs, nanBits]
-- ===== end of PART A; then your names; then what follows =====

/-! ===== BEGIN words of one list among another's, by their places ===== -/
theorem goodIn_r {big : List Cond} (ws : List Cond) (ps : List Nat) (hp : ws = ps.filterMap (fun i => big[i]?)) (h : ws.all goodWord = true) : GoodIn big ws := by
  intro w hw
  have h1 := List.all_eq_true.mp h w hw
  rw [hp] at hw
  obtain ⟨i, -, hi⟩ := List.mem_filterMap.mp hw
  have hm : w ∈ big := by first | exact List.mem_of_getElem? hi | exact List.getElem?_mem hi
  exact ⟨hm, good_of_word h1⟩
theorem goodIn_app {big a b : List Cond} (ha : GoodIn big a) (hb : GoodIn big b) : GoodIn big (a ++ b) := fun w h => (List.mem_append.mp h).elim (ha w) (hb w)
theorem goodIn_ca {big a b : List Cond} {c : Cond} (ha : GoodIn big (c :: a)) (hb : GoodIn big b) : GoodIn big (c :: (a ++ b)) := fun w h => (List.mem_cons.mp h).elim (fun e => ha w (List.mem_cons.mpr (Or.inl e))) (fun h => (List.mem_append.mp h).elim (fun h => ha w (List.mem_cons.mpr (Or.inr h))) (hb w))
theorem goodIn_sub {big ws : List Cond} (hm : ∀ w ∈ ws, w ∈ big) (h : ws.all goodWord = true) : GoodIn big ws := fun w hw => ⟨hm w hw, good_of_word (List.all_eq_true.mp h w hw)⟩
/-! ===== END ===== -/
def vx_no (w : Cond) : Bool := decide (w ≠ .isRef (.static Bundle.tN "UNASSIGNED_STACK" Bundle.steD)) && decide (w ≠ .isRef (.static Bundle.tN "SUPPRESSED_SENTINEL" Bundle.listD)) && decide (w ≠ .laysStatic Bundle.tN "UNASSIGNED_STACK" Bundle.steD) && decide (w ≠ .laysStatic Bundle.tN "SUPPRESSED_SENTINEL" Bundle.listD)
def vx_at0 (own : String) (ic : Nat) (X : String) (names : List String) : List Cond := (Bundle.ownAtoms0 own ic X names).filter vx_no
def vx_atS (own : String) (ic : Nat) (X : String) (names : List String) : List Cond := (Bundle.ownAtoms own ic X names).filter vx_no
/-! ===== BEGIN printed: names, fields, word lists, decode rows ===== -/
def RX0 : String := "PinBarrel$Barrel"
def TX0 : u_T := fun k => match k with
  | 0 => ("PinBarrel$Barrel", "places", "[J", true)
  | _ => ("PinBarrel$Barrel", "wears", "[I", true)
def tyX0 : Nat → FieldType := fun k => match k with
  | 0 => .array .long
  | _ => .array .int
abbrev wsX00 : List Cond := u_ws RX0 TX0 2
theorem nmX0 : ∀ a, a < 2 → ∀ b, b < 2 → a ≠ b → (TX0 a).2.1 ≠ (TX0 b).2.1 := by decide +kernel
theorem tyX0_ok : ∀ k, k < 2 → parseFieldDescriptor (TX0 k).2.2.1 = some (tyX0 k) := by decide +kernel
abbrev cX0_init : ByteArray := prog_2_method_1_code
def yX0_init : MethodName := ⟨RX0, "<init>", "()V"⟩
abbrev cX0_lineAt : ByteArray := prog_2_method_2_code
def yX0_lineAt : MethodName := ⟨RX0, "lineAt", "(II)I"⟩
abbrev cX0_pinAt : ByteArray := prog_2_method_3_code
def yX0_pinAt : MethodName := ⟨RX0, "pinAt", "(III)I"⟩
abbrev cX0_placesNear : ByteArray := prog_2_method_4_code
def yX0_placesNear : MethodName := ⟨RX0, "placesNear", "(I)J"⟩
abbrev cX0_placesOf : ByteArray := prog_2_method_5_code
def yX0_placesOf : MethodName := ⟨RX0, "placesOf", "(II)J"⟩
abbrev cX0_wearOf : ByteArray := prog_2_method_6_code
def yX0_wearOf : MethodName := ⟨RX0, "wearOf", "(III)I"⟩
abbrev cX0_hasPin : ByteArray := prog_2_method_7_code
def yX0_hasPin : MethodName := ⟨RX0, "hasPin", "(III)Z"⟩
abbrev cX0_setPin : ByteArray := prog_2_method_8_code
def yX0_setPin : MethodName := ⟨RX0, "setPin", "(III)V"⟩
abbrev cX0_pinsOfTooth : ByteArray := prog_2_method_9_code
def yX0_pinsOfTooth : MethodName := ⟨RX0, "pinsOfTooth", "(I)I"⟩
abbrev cX0_freeTooth : ByteArray := prog_2_method_10_code
def yX0_freeTooth : MethodName := ⟨RX0, "freeTooth", "(LPinBarrel$Comb;III)I"⟩
abbrev cX0_pullFrom : ByteArray := prog_2_method_11_code
def yX0_pullFrom : MethodName := ⟨RX0, "pullFrom", "(III)I"⟩
abbrev cX0_renewPins : ByteArray := prog_2_method_12_code
def yX0_renewPins : MethodName := ⟨RX0, "renewPins", "(II)I"⟩
abbrev cX0_wearDown : ByteArray := prog_2_method_13_code
def yX0_wearDown : MethodName := ⟨RX0, "wearDown", "(III)Z"⟩
abbrev cX0_takePins : ByteArray := prog_2_method_14_code
def yX0_takePins : MethodName := ⟨RX0, "takePins", "(LPinBarrel$Barrel;I)V"⟩
abbrev cX0_takeWears : ByteArray := prog_2_method_15_code
def yX0_takeWears : MethodName := ⟨RX0, "takeWears", "(LPinBarrel$Barrel;I)V"⟩
def RX1 : String := "PinBarrel$Comb"
def TX1 : u_T := fun k => match k with
  | 0 => ("PinBarrel$Comb", "pitch", "[I", true)
  | 1 => ("PinBarrel$Comb", "broken", "[Z", true)
  | 2 => ("PinBarrel$Comb", "scratches", "[I", true)
  | 3 => ("PinBarrel$Comb", "plucks", "[I", true)
  | 4 => ("PinBarrel$Comb", "lastPluck", "[I", true)
  | _ => ("PinBarrel$Comb", "count", "I", false)
def tyX1 : Nat → FieldType := fun k => match k with
  | 0 => .array .int
  | 1 => .array .boolean
  | 2 => .array .int
  | 3 => .array .int
  | 4 => .array .int
  | _ => .int
abbrev wsX10 : List Cond := u_ws RX1 TX1 6
theorem nmX1 : ∀ a, a < 6 → ∀ b, b < 6 → a ≠ b → (TX1 a).2.1 ≠ (TX1 b).2.1 := by decide +kernel
theorem tyX1_ok : ∀ k, k < 6 → parseFieldDescriptor (TX1 k).2.2.1 = some (tyX1 k) := by decide +kernel
abbrev cX1_init : ByteArray := prog_3_method_1_code
def yX1_init : MethodName := ⟨RX1, "<init>", "()V"⟩
abbrev cX1_addTooth : ByteArray := prog_3_method_2_code
def yX1_addTooth : MethodName := ⟨RX1, "addTooth", "(I)I"⟩
abbrev cX1_brokenTeeth : ByteArray := prog_3_method_3_code
def yX1_brokenTeeth : MethodName := ⟨RX1, "brokenTeeth", "()I"⟩
abbrev cX1_mendTooth : ByteArray := prog_3_method_4_code
def yX1_mendTooth : MethodName := ⟨RX1, "mendTooth", "(I)I"⟩
abbrev cX1_pluckTooth : ByteArray := prog_3_method_5_code
def yX1_pluckTooth : MethodName := ⟨RX1, "pluckTooth", "(II)Z"⟩
abbrev cX1_takeTeeth : ByteArray := prog_3_method_6_code
def yX1_takeTeeth : MethodName := ⟨RX1, "takeTeeth", "(LPinBarrel$Comb;)V"⟩
def RX2 : String := "PinBarrel$Sounds"
def TX2 : u_T := fun k => match k with
  | 0 => ("PinBarrel$Sounds", "pitches", "[I", true)
  | 1 => ("PinBarrel$Sounds", "clocks", "[D", true)
  | 2 => ("PinBarrel$Sounds", "oldest", "I", false)
  | 3 => ("PinBarrel$Sounds", "kept", "I", false)
  | _ => ("PinBarrel$Sounds", "ever", "I", false)
def tyX2 : Nat → FieldType := fun k => match k with
  | 0 => .array .int
  | 1 => .array .double
  | 2 => .int
  | 3 => .int
  | _ => .int
abbrev wsX20 : List Cond := u_ws RX2 TX2 5
theorem nmX2 : ∀ a, a < 5 → ∀ b, b < 5 → a ≠ b → (TX2 a).2.1 ≠ (TX2 b).2.1 := by decide +kernel
theorem tyX2_ok : ∀ k, k < 5 → parseFieldDescriptor (TX2 k).2.2.1 = some (tyX2 k) := by decide +kernel
abbrev cX2_init : ByteArray := prog_4_method_1_code
def yX2_init : MethodName := ⟨RX2, "<init>", "()V"⟩
abbrev cX2_roomOf : ByteArray := prog_4_method_2_code
def yX2_roomOf : MethodName := ⟨RX2, "roomOf", "(I)I"⟩
abbrev cX2_pitchOf : ByteArray := prog_4_method_3_code
def yX2_pitchOf : MethodName := ⟨RX2, "pitchOf", "(I)I"⟩
abbrev cX2_clockOf : ByteArray := prog_4_method_4_code
def yX2_clockOf : MethodName := ⟨RX2, "clockOf", "(I)D"⟩
abbrev cX2_addSound : ByteArray := prog_4_method_5_code
def yX2_addSound : MethodName := ⟨RX2, "addSound", "(ID)V"⟩
def RX3 : String := "PinBarrel$Tunes"
def TX3 : u_T := fun k => match k with
  | 0 => ("PinBarrel$Tunes", "size", "[I", true)
  | 1 => ("PinBarrel$Tunes", "notes", "[I", true)
  | _ => ("PinBarrel$Tunes", "count", "I", false)
def tyX3 : Nat → FieldType := fun k => match k with
  | 0 => .array .int
  | 1 => .array .int
  | _ => .int
abbrev wsX30 : List Cond := u_ws RX3 TX3 3
theorem nmX3 : ∀ a, a < 3 → ∀ b, b < 3 → a ≠ b → (TX3 a).2.1 ≠ (TX3 b).2.1 := by decide +kernel
theorem tyX3_ok : ∀ k, k < 3 → parseFieldDescriptor (TX3 k).2.2.1 = some (tyX3 k) := by decide +kernel
abbrev cX3_init : ByteArray := prog_5_method_1_code
def yX3_init : MethodName := ⟨RX3, "<init>", "()V"⟩
abbrev cX3_timeOf : ByteArray := prog_5_method_2_code
def yX3_timeOf : MethodName := ⟨RX3, "timeOf", "(II)I"⟩
abbrev cX3_pitchOf : ByteArray := prog_5_method_3_code
def yX3_pitchOf : MethodName := ⟨RX3, "pitchOf", "(II)I"⟩
abbrev cX3_rankOf : ByteArray := prog_5_method_4_code
def yX3_rankOf : MethodName := ⟨RX3, "rankOf", "(II)I"⟩
abbrev cX3_holds : ByteArray := prog_5_method_5_code
def yX3_holds : MethodName := ⟨RX3, "holds", "(III)Z"⟩
abbrev cX3_write : ByteArray := prog_5_method_6_code
def yX3_write : MethodName := ⟨RX3, "write", "(III)V"⟩
abbrev cX3_strike : ByteArray := prog_5_method_7_code
def yX3_strike : MethodName := ⟨RX3, "strike", "(III)V"⟩
abbrev cX3_lowest : ByteArray := prog_5_method_8_code
def yX3_lowest : MethodName := ⟨RX3, "lowest", "(I)I"⟩
abbrev cX3_highest : ByteArray := prog_5_method_9_code
def yX3_highest : MethodName := ⟨RX3, "highest", "(I)I"⟩
abbrev cX3_times : ByteArray := prog_5_method_10_code
def yX3_times : MethodName := ⟨RX3, "times", "(I)I"⟩
abbrev cX3_mostAtOnce : ByteArray := prog_5_method_11_code
def yX3_mostAtOnce : MethodName := ⟨RX3, "mostAtOnce", "(I)I"⟩
abbrev cX3_shared : ByteArray := prog_5_method_12_code
def yX3_shared : MethodName := ⟨RX3, "shared", "(III)I"⟩
def RX4 : String := "PinBarrel$Works"
def TX4 : u_T := fun k => match k with
  | 0 => ("PinBarrel$Works", "comb", "LPinBarrel$Comb;", true)
  | 1 => ("PinBarrel$Works", "barrel", "LPinBarrel$Barrel;", true)
  | 2 => ("PinBarrel$Works", "sounds", "LPinBarrel$Sounds;", true)
  | 3 => ("PinBarrel$Works", "wound", "I", false)
  | 4 => ("PinBarrel$Works", "governor", "I", false)
  | 5 => ("PinBarrel$Works", "place", "I", false)
  | 6 => ("PinBarrel$Works", "shift", "I", false)
  | 7 => ("PinBarrel$Works", "steps", "I", false)
  | 8 => ("PinBarrel$Works", "buzzes", "I", false)
  | 9 => ("PinBarrel$Works", "wornOut", "I", false)
  | _ => ("PinBarrel$Works", "clock", "D", false)
def tyX4 : Nat → FieldType := fun k => match k with
  | 0 => .object "PinBarrel$Comb"
  | 1 => .object "PinBarrel$Barrel"
  | 2 => .object "PinBarrel$Sounds"
  | 3 => .int
  | 4 => .int
  | 5 => .int
  | 6 => .int
  | 7 => .int
  | 8 => .int
  | 9 => .int
  | _ => .double
abbrev wsX40 : List Cond := u_ws RX4 TX4 11
theorem nmX4 : ∀ a, a < 11 → ∀ b, b < 11 → a ≠ b → (TX4 a).2.1 ≠ (TX4 b).2.1 := by decide +kernel
theorem tyX4_ok : ∀ k, k < 11 → parseFieldDescriptor (TX4 k).2.2.1 = some (tyX4 k) := by decide +kernel
abbrev cX4_init : ByteArray := prog_6_method_1_code
def yX4_init : MethodName := ⟨RX4, "<init>", "()V"⟩
abbrev cX4_speedNow : ByteArray := prog_6_method_2_code
def yX4_speedNow : MethodName := ⟨RX4, "speedNow", "()F"⟩
abbrev cX4_run : ByteArray := prog_6_method_3_code
def yX4_run : MethodName := ⟨RX4, "run", "(I)V"⟩
abbrev cX4_step : ByteArray := prog_6_method_4_code
def yX4_step : MethodName := ⟨RX4, "step", "()V"⟩
abbrev cX4_pluck : ByteArray := prog_6_method_5_code
def yX4_pluck : MethodName := ⟨RX4, "pluck", "(I)V"⟩
abbrev cX4_takeOver : ByteArray := prog_6_method_6_code
def yX4_takeOver : MethodName := ⟨RX4, "takeOver", "(LPinBarrel$Works;)V"⟩
def RX5 : String := "PinBarrel"
def TX5 : u_T := fun k => match k with
  | 0 => ("PinBarrel", "tunes", "LPinBarrel$Tunes;", true)
  | 1 => ("PinBarrel", "works", "LPinBarrel$Works;", true)
  | 2 => ("PinBarrel", "comb", "LPinBarrel$Comb;", true)
  | 3 => ("PinBarrel", "barrel", "LPinBarrel$Barrel;", true)
  | 4 => ("PinBarrel", "sounds", "LPinBarrel$Sounds;", true)
  | 5 => ("PinBarrel", "trial", "LPinBarrel$Works;", true)
  | _ => ("PinBarrel", "knocks", "I", false)
def tyX5 : Nat → FieldType := fun k => match k with
  | 0 => .object "PinBarrel$Tunes"
  | 1 => .object "PinBarrel$Works"
  | 2 => .object "PinBarrel$Comb"
  | 3 => .object "PinBarrel$Barrel"
  | 4 => .object "PinBarrel$Sounds"
  | 5 => .object "PinBarrel$Works"
  | _ => .int
abbrev wsX50 : List Cond := u_ws RX5 TX5 7
theorem nmX5 : ∀ a, a < 7 → ∀ b, b < 7 → a ≠ b → (TX5 a).2.1 ≠ (TX5 b).2.1 := by decide +kernel
theorem tyX5_ok : ∀ k, k < 7 → parseFieldDescriptor (TX5 k).2.2.1 = some (tyX5 k) := by decide +kernel
abbrev cX5_init : ByteArray := prog_1_method_1_code
def yX5_init : MethodName := ⟨RX5, "<init>", "()V"⟩
abbrev cX5_tooth : ByteArray := prog_1_method_2_code
def yX5_tooth : MethodName := ⟨RX5, "tooth", "(I)I"⟩
abbrev cX5_file : ByteArray := prog_1_method_3_code
def yX5_file : MethodName := ⟨RX5, "file", "(II)I"⟩
abbrev cX5_tune : ByteArray := prog_1_method_4_code
def yX5_tune : MethodName := ⟨RX5, "tune", "()I"⟩
abbrev cX5_note : ByteArray := prog_1_method_5_code
def yX5_note : MethodName := ⟨RX5, "note", "(III)I"⟩
abbrev cX5_pin : ByteArray := prog_1_method_6_code
def yX5_pin : MethodName := ⟨RX5, "pin", "(III)I"⟩
abbrev cX5_pull : ByteArray := prog_1_method_7_code
def yX5_pull : MethodName := ⟨RX5, "pull", "(IZ)I"⟩
abbrev cX5_shift : ByteArray := prog_1_method_8_code
def yX5_shift : MethodName := ⟨RX5, "shift", "(I)I"⟩
abbrev cX5_wind : ByteArray := prog_1_method_9_code
def yX5_wind : MethodName := ⟨RX5, "wind", "(I)I"⟩
abbrev cX5_govern : ByteArray := prog_1_method_10_code
def yX5_govern : MethodName := ⟨RX5, "govern", "(I)D"⟩
abbrev cX5_play : ByteArray := prog_1_method_11_code
def yX5_play : MethodName := ⟨RX5, "play", "(I)I"⟩
abbrev cX5_mend : ByteArray := prog_1_method_12_code
def yX5_mend : MethodName := ⟨RX5, "mend", "()I"⟩
abbrev cX5_ofTooth : ByteArray := prog_1_method_13_code
def yX5_ofTooth : MethodName := ⟨RX5, "ofTooth", "(II)I"⟩
abbrev cX5_pins : ByteArray := prog_1_method_14_code
def yX5_pins : MethodName := ⟨RX5, "pins", "(II)J"⟩
abbrev cX5_wear : ByteArray := prog_1_method_15_code
def yX5_wear : MethodName := ⟨RX5, "wear", "(III)I"⟩
abbrev cX5_row : ByteArray := prog_1_method_16_code
def yX5_row : MethodName := ⟨RX5, "row", "(I)Ljava/lang/String;"⟩
abbrev cX5_ofTune : ByteArray := prog_1_method_17_code
def yX5_ofTune : MethodName := ⟨RX5, "ofTune", "(II)I"⟩
abbrev cX5_likeness : ByteArray := prog_1_method_18_code
def yX5_likeness : MethodName := ⟨RX5, "likeness", "(III)D"⟩
abbrev cX5_heard : ByteArray := prog_1_method_19_code
def yX5_heard : MethodName := ⟨RX5, "heard", "(I)I"⟩
abbrev cX5_when : ByteArray := prog_1_method_20_code
def yX5_when : MethodName := ⟨RX5, "when", "(I)D"⟩
abbrev cX5_speed : ByteArray := prog_1_method_21_code
def yX5_speed : MethodName := ⟨RX5, "speed", "()D"⟩
abbrev cX5_many : ByteArray := prog_1_method_22_code
def yX5_many : MethodName := ⟨RX5, "many", "(I)I"⟩
abbrev cX5_bestKey : ByteArray := prog_1_method_23_code
def yX5_bestKey : MethodName := ⟨RX5, "bestKey", "(II)I"⟩
abbrev cX5_lasts : ByteArray := prog_1_method_24_code
def yX5_lasts : MethodName := ⟨RX5, "lasts", "()I"⟩
abbrev cX5_wouldBuzz : ByteArray := prog_1_method_25_code
def yX5_wouldBuzz : MethodName := ⟨RX5, "wouldBuzz", "(I)I"⟩
abbrev cX5_digest : ByteArray := prog_1_method_26_code
def yX5_digest : MethodName := ⟨RX5, "digest", "()J"⟩
abbrev cX5_digestTooth : ByteArray := prog_1_method_27_code
def yX5_digestTooth : MethodName := ⟨RX5, "digestTooth", "(JI)J"⟩
abbrev cX5_digestTune : ByteArray := prog_1_method_28_code
def yX5_digestTune : MethodName := ⟨RX5, "digestTune", "(JI)J"⟩
abbrev cX5_pinTune : ByteArray := prog_1_method_29_code
def yX5_pinTune : MethodName := ⟨RX5, "pinTune", "(LPinBarrel$Barrel;III)I"⟩
abbrev cX5_wouldLose : ByteArray := prog_1_method_30_code
def yX5_wouldLose : MethodName := ⟨RX5, "wouldLose", "(III)I"⟩
abbrev cX5_allPins : ByteArray := prog_1_method_31_code
def yX5_allPins : MethodName := ⟨RX5, "allPins", "()I"⟩
abbrev cX5_signOf : ByteArray := prog_1_method_32_code
def yX5_signOf : MethodName := ⟨RX5, "signOf", "(II)C"⟩
abbrev cX5_nearestWhole : ByteArray := prog_1_method_33_code
def yX5_nearestWhole : MethodName := ⟨RX5, "nearestWhole", "(D)J"⟩
abbrev cX5_needTooth : ByteArray := prog_1_method_34_code
def yX5_needTooth : MethodName := ⟨RX5, "needTooth", "(I)V"⟩
abbrev cX5_needTune : ByteArray := prog_1_method_35_code
def yX5_needTune : MethodName := ⟨RX5, "needTune", "(I)V"⟩
abbrev cX5_needSound : ByteArray := prog_1_method_36_code
def yX5_needSound : MethodName := ⟨RX5, "needSound", "(I)V"⟩
abbrev cX5_needLine : ByteArray := prog_1_method_37_code
def yX5_needLine : MethodName := ⟨RX5, "needLine", "(I)V"⟩
abbrev cX5_needPlace : ByteArray := prog_1_method_38_code
def yX5_needPlace : MethodName := ⟨RX5, "needPlace", "(I)V"⟩
abbrev cX5_needPitch : ByteArray := prog_1_method_39_code
def yX5_needPitch : MethodName := ⟨RX5, "needPitch", "(I)V"⟩
abbrev cX5_needKey : ByteArray := prog_1_method_40_code
def yX5_needKey : MethodName := ⟨RX5, "needKey", "(I)V"⟩
abbrev cX5_needSteps : ByteArray := prog_1_method_41_code
def yX5_needSteps : MethodName := ⟨RX5, "needSteps", "(I)V"⟩
abbrev cX5_needQuestion : ByteArray := prog_1_method_42_code
def yX5_needQuestion : MethodName := ⟨RX5, "needQuestion", "(II)V"⟩
def RX6 : String := "PinBarrelModel$Tune"
def TX6 : u_T := fun k => match k with
  | _ => ("", "", "", false)
def tyX6 : Nat → FieldType := fun k => match k with
  | _ => .int
abbrev wsX60 : List Cond := u_ws RX6 TX6 0
theorem nmX6 : ∀ a, a < 0 → ∀ b, b < 0 → a ≠ b → (TX6 a).2.1 ≠ (TX6 b).2.1 := by decide +kernel
theorem tyX6_ok : ∀ k, k < 0 → parseFieldDescriptor (TX6 k).2.2.1 = some (tyX6 k) := by decide +kernel
def RX7 : String := "PinBarrelModel$Works"
def TX7 : u_T := fun k => match k with
  | _ => ("", "", "", false)
def tyX7 : Nat → FieldType := fun k => match k with
  | _ => .int
abbrev wsX70 : List Cond := u_ws RX7 TX7 0
theorem nmX7 : ∀ a, a < 0 → ∀ b, b < 0 → a ≠ b → (TX7 a).2.1 ≠ (TX7 b).2.1 := by decide +kernel
theorem tyX7_ok : ∀ k, k < 0 → parseFieldDescriptor (TX7 k).2.2.1 = some (tyX7 k) := by decide +kernel
def RX8 : String := "PinBarrelModel"
def TX8 : u_T := fun k => match k with
  | _ => ("", "", "", false)
def tyX8 : Nat → FieldType := fun k => match k with
  | _ => .int
abbrev wsX80 : List Cond := u_ws RX8 TX8 0
theorem nmX8 : ∀ a, a < 0 → ∀ b, b < 0 → a ≠ b → (TX8 a).2.1 ≠ (TX8 b).2.1 := by decide +kernel
theorem tyX8_ok : ∀ k, k < 0 → parseFieldDescriptor (TX8 k).2.2.1 = some (tyX8 k) := by decide +kernel
def RJx145de : String := "java/io/Serializable"
def TJx145de : u_T := fun k => match k with
  | _ => ("", "", "", false)
def tyJx145de : Nat → FieldType := fun k => match k with
  | _ => .int
abbrev wsJx145de0 : List Cond := u_ws RJx145de TJx145de 0
theorem nmJx145de : ∀ a, a < 0 → ∀ b, b < 0 → a ≠ b → (TJx145de a).2.1 ≠ (TJx145de b).2.1 := by decide +kernel
theorem tyJx145de_ok : ∀ k, k < 0 → parseFieldDescriptor (TJx145de k).2.2.1 = some (tyJx145de k) := by decide +kernel
def RJ5 : String := "java/lang/AbstractStringBuilder"
def TJ5 : u_T := fun k => match k with
  | _ => ("", "", "", false)
def tyJ5 : Nat → FieldType := fun k => match k with
  | _ => .int
abbrev wsJ50 : List Cond := u_ws RJ5 TJ5 0
theorem nmJ5 : ∀ a, a < 0 → ∀ b, b < 0 → a ≠ b → (TJ5 a).2.1 ≠ (TJ5 b).2.1 := by decide +kernel
theorem tyJ5_ok : ∀ k, k < 0 → parseFieldDescriptor (TJ5 k).2.2.1 = some (tyJ5 k) := by decide +kernel
abbrev cJ5_init_d00df : ByteArray := prog_11_method_2_code
def yJ5_init_d00df : MethodName := ⟨RJ5, "<init>", "(I)V"⟩
abbrev cJ5_length_8abf5 : ByteArray := prog_11_method_6_code
def yJ5_length_8abf5 : MethodName := ⟨RJ5, "length", "()I"⟩
abbrev cJ5_ensureCapacityInternal_d00df : ByteArray := prog_11_method_9_code
def yJ5_ensureCapacityInternal_d00df : MethodName := ⟨RJ5, "ensureCapacityInternal", "(I)V"⟩
abbrev cJ5_newCapacity_0f7a4 : ByteArray := prog_11_method_10_code
def yJ5_newCapacity_0f7a4 : MethodName := ⟨RJ5, "newCapacity", "(I)I"⟩
abbrev cJ5_inflate_da8c8 : ByteArray := prog_11_method_11_code
def yJ5_inflate_da8c8 : MethodName := ⟨RJ5, "inflate", "()V"⟩
abbrev cJ5_append_3fe6f : ByteArray := prog_11_method_31_code
def yJ5_append_3fe6f : MethodName := ⟨RJ5, "append", "(C)Ljava/lang/AbstractStringBuilder;"⟩
abbrev cJ5_getValue_6d5f1 : ByteArray := prog_11_method_64_code
def yJ5_getValue_6d5f1 : MethodName := ⟨RJ5, "getValue", "()[B"⟩
abbrev cJ5_isLatin1_aae02 : ByteArray := prog_11_method_68_code
def yJ5_isLatin1_aae02 : MethodName := ⟨RJ5, "isLatin1", "()Z"⟩
def RJx2cfe8 : String := "java/lang/Appendable"
def TJx2cfe8 : u_T := fun k => match k with
  | _ => ("", "", "", false)
def tyJx2cfe8 : Nat → FieldType := fun k => match k with
  | _ => .int
abbrev wsJx2cfe80 : List Cond := u_ws RJx2cfe8 TJx2cfe8 0
theorem nmJx2cfe8 : ∀ a, a < 0 → ∀ b, b < 0 → a ≠ b → (TJx2cfe8 a).2.1 ≠ (TJx2cfe8 b).2.1 := by decide +kernel
theorem tyJx2cfe8_ok : ∀ k, k < 0 → parseFieldDescriptor (TJx2cfe8 k).2.2.1 = some (tyJx2cfe8 k) := by decide +kernel
def RJx9f9b0 : String := "java/lang/CharSequence"
def TJx9f9b0 : u_T := fun k => match k with
  | _ => ("", "", "", false)
def tyJx9f9b0 : Nat → FieldType := fun k => match k with
  | _ => .int
abbrev wsJx9f9b00 : List Cond := u_ws RJx9f9b0 TJx9f9b0 0
theorem nmJx9f9b0 : ∀ a, a < 0 → ∀ b, b < 0 → a ≠ b → (TJx9f9b0 a).2.1 ≠ (TJx9f9b0 b).2.1 := by decide +kernel
theorem tyJx9f9b0_ok : ∀ k, k < 0 → parseFieldDescriptor (TJx9f9b0 k).2.2.1 = some (tyJx9f9b0 k) := by decide +kernel
def RJx8e188 : String := "java/lang/Cloneable"
def TJx8e188 : u_T := fun k => match k with
  | _ => ("", "", "", false)
def tyJx8e188 : Nat → FieldType := fun k => match k with
  | _ => .int
abbrev wsJx8e1880 : List Cond := u_ws RJx8e188 TJx8e188 0
theorem nmJx8e188 : ∀ a, a < 0 → ∀ b, b < 0 → a ≠ b → (TJx8e188 a).2.1 ≠ (TJx8e188 b).2.1 := by decide +kernel
theorem tyJx8e188_ok : ∀ k, k < 0 → parseFieldDescriptor (TJx8e188 k).2.2.1 = some (tyJx8e188 k) := by decide +kernel
def RJxb160c : String := "java/lang/Comparable"
def TJxb160c : u_T := fun k => match k with
  | _ => ("", "", "", false)
def tyJxb160c : Nat → FieldType := fun k => match k with
  | _ => .int
abbrev wsJxb160c0 : List Cond := u_ws RJxb160c TJxb160c 0
theorem nmJxb160c : ∀ a, a < 0 → ∀ b, b < 0 → a ≠ b → (TJxb160c a).2.1 ≠ (TJxb160c b).2.1 := by decide +kernel
theorem tyJxb160c_ok : ∀ k, k < 0 → parseFieldDescriptor (TJxb160c k).2.2.1 = some (tyJxb160c k) := by decide +kernel
def RJ13 : String := "java/lang/Long"
def TJ13 : u_T := fun k => match k with
  | _ => ("", "", "", false)
def tyJ13 : Nat → FieldType := fun k => match k with
  | _ => .int
abbrev wsJ130 : List Cond := u_ws RJ13 TJ13 0
theorem nmJ13 : ∀ a, a < 0 → ∀ b, b < 0 → a ≠ b → (TJ13 a).2.1 ≠ (TJ13 b).2.1 := by decide +kernel
theorem tyJ13_ok : ∀ k, k < 0 → parseFieldDescriptor (TJ13 k).2.2.1 = some (tyJ13 k) := by decide +kernel
abbrev cJ13_bitCount_95d88 : ByteArray := prog_17_method_50_code
def yJ13_bitCount_95d88 : MethodName := ⟨RJ13, "bitCount", "(J)I"⟩
abbrev cJ13_rotateLeft_b2ac5 : ByteArray := prog_17_method_51_code
def yJ13_rotateLeft_b2ac5 : MethodName := ⟨RJ13, "rotateLeft", "(JI)J"⟩
def RJ9 : String := "java/lang/Math"
def TJ9 : u_T := fun k => match k with
  | _ => ("", "", "", false)
def tyJ9 : Nat → FieldType := fun k => match k with
  | _ => .int
abbrev wsJ90 : List Cond := u_ws RJ9 TJ9 0
theorem nmJ9 : ∀ a, a < 0 → ∀ b, b < 0 → a ≠ b → (TJ9 a).2.1 ≠ (TJ9 b).2.1 := by decide +kernel
theorem tyJ9_ok : ∀ k, k < 0 → parseFieldDescriptor (TJ9 k).2.2.1 = some (tyJ9 k) := by decide +kernel
abbrev cJ9_abs_0f7a4 : ByteArray := prog_18_method_59_code
def yJ9_abs_0f7a4 : MethodName := ⟨RJ9, "abs", "(I)I"⟩
abbrev cJ9_max_7cf53 : ByteArray := prog_18_method_65_code
def yJ9_max_7cf53 : MethodName := ⟨RJ9, "max", "(II)I"⟩
abbrev cJ9_min_7cf53 : ByteArray := prog_18_method_69_code
def yJ9_min_7cf53 : MethodName := ⟨RJ9, "min", "(II)I"⟩
def RJ0 : String := "java/lang/String"
def TJ0 : u_T := fun k => match k with
  | 0 => ("java/lang/String", "value", "[B", true)
  | 1 => ("java/lang/String", "coder", "B", true)
  | 2 => ("java/lang/String", "hash", "I", false)
  | _ => ("java/lang/String", "hashIsZero", "Z", false)
def tyJ0 : Nat → FieldType := fun k => match k with
  | 0 => .array .byte
  | 1 => .byte
  | 2 => .int
  | _ => .boolean
abbrev wsJ00 : List Cond := u_ws RJ0 TJ0 4
theorem nmJ0 : ∀ a, a < 4 → ∀ b, b < 4 → a ≠ b → (TJ0 a).2.1 ≠ (TJ0 b).2.1 := by decide +kernel
theorem tyJ0_ok : ∀ k, k < 4 → parseFieldDescriptor (TJ0 k).2.2.1 = some (tyJ0 k) := by decide +kernel
abbrev cJ0_init_81219 : ByteArray := prog_20_method_53_code
def yJ0_init_81219 : MethodName := ⟨RJ0, "<init>", "(Ljava/lang/StringBuilder;)V"⟩
abbrev cJ0_length_8abf5 : ByteArray := prog_20_method_54_code
def yJ0_length_8abf5 : MethodName := ⟨RJ0, "length", "()I"⟩
abbrev cJ0_charAt_5068e : ByteArray := prog_20_method_56_code
def yJ0_charAt_5068e : MethodName := ⟨RJ0, "charAt", "(I)C"⟩
abbrev cJ0_init_db425 : ByteArray := prog_20_method_150_code
def yJ0_init_db425 : MethodName := ⟨RJ0, "<init>", "(Ljava/lang/AbstractStringBuilder;Ljava/lang/Void;)V"⟩
abbrev cJ0_coder_7d493 : ByteArray := prog_20_method_152_code
def yJ0_coder_7d493 : MethodName := ⟨RJ0, "coder", "()B"⟩
abbrev cJ0_isLatin1_aae02 : ByteArray := prog_20_method_154_code
def yJ0_isLatin1_aae02 : MethodName := ⟨RJ0, "isLatin1", "()Z"⟩
abbrev cJ0_checkIndex_df160 : ByteArray := prog_20_method_155_code
def yJ0_checkIndex_df160 : MethodName := ⟨RJ0, "checkIndex", "(II)V"⟩
abbrev cJ0_checkBoundsOffCount_cabcc : ByteArray := prog_20_method_157_code
def yJ0_checkBoundsOffCount_cabcc : MethodName := ⟨RJ0, "checkBoundsOffCount", "(III)I"⟩
def RJ4 : String := "java/lang/StringBuilder"
def TJ4 : u_T := fun k => match k with
  | 0 => ("java/lang/AbstractStringBuilder", "value", "[B", false)
  | 1 => ("java/lang/AbstractStringBuilder", "coder", "B", false)
  | 2 => ("java/lang/AbstractStringBuilder", "maybeLatin1", "Z", false)
  | _ => ("java/lang/AbstractStringBuilder", "count", "I", false)
def tyJ4 : Nat → FieldType := fun k => match k with
  | 0 => .array .byte
  | 1 => .byte
  | 2 => .boolean
  | _ => .int
abbrev wsJ40 : List Cond := u_ws RJ4 TJ4 4
theorem nmJ4 : ∀ a, a < 4 → ∀ b, b < 4 → a ≠ b → (TJ4 a).2.1 ≠ (TJ4 b).2.1 := by decide +kernel
theorem tyJ4_ok : ∀ k, k < 4 → parseFieldDescriptor (TJ4 k).2.2.1 = some (tyJ4 k) := by decide +kernel
abbrev cJ4_init_da8c8 : ByteArray := prog_21_method_1_code
def yJ4_init_da8c8 : MethodName := ⟨RJ4, "<init>", "()V"⟩
abbrev cJ4_append_cf468 : ByteArray := prog_21_method_14_code
def yJ4_append_cf468 : MethodName := ⟨RJ4, "append", "(C)Ljava/lang/StringBuilder;"⟩
abbrev cJ4_toString_0e30d : ByteArray := prog_21_method_42_code
def yJ4_toString_0e30d : MethodName := ⟨RJ4, "toString", "()Ljava/lang/String;"⟩
abbrev cJ4_length_8abf5 : ByteArray := prog_21_method_93_code
def yJ4_length_8abf5 : MethodName := ⟨RJ4, "length", "()I"⟩
def RJ1 : String := "java/lang/StringLatin1"
def TJ1 : u_T := fun k => match k with
  | _ => ("", "", "", false)
def tyJ1 : Nat → FieldType := fun k => match k with
  | _ => .int
abbrev wsJ10 : List Cond := u_ws RJ1 TJ1 0
theorem nmJ1 : ∀ a, a < 0 → ∀ b, b < 0 → a ≠ b → (TJ1 a).2.1 ≠ (TJ1 b).2.1 := by decide +kernel
theorem tyJ1_ok : ∀ k, k < 0 → parseFieldDescriptor (TJ1 k).2.2.1 = some (tyJ1 k) := by decide +kernel
abbrev cJ1_charAt_3b067 : ByteArray := prog_22_method_2_code
def yJ1_charAt_3b067 : MethodName := ⟨RJ1, "charAt", "([BI)C"⟩
abbrev cJ1_canEncode_fc78d : ByteArray := prog_22_method_3_code
def yJ1_canEncode_fc78d : MethodName := ⟨RJ1, "canEncode", "(C)Z"⟩
abbrev cJ1_inflate_0e8fd : ByteArray := prog_22_method_50_code
def yJ1_inflate_0e8fd : MethodName := ⟨RJ1, "inflate", "([BI[BII)V"⟩
def RJ2 : String := "java/lang/StringUTF16"
def TJ2 : u_T := fun k => match k with
  | _ => ("", "", "", false)
def tyJ2 : Nat → FieldType := fun k => match k with
  | _ => .int
abbrev wsJ20 : List Cond := u_ws RJ2 TJ2 0
theorem nmJ2 : ∀ a, a < 0 → ∀ b, b < 0 → a ≠ b → (TJ2 a).2.1 ≠ (TJ2 b).2.1 := by decide +kernel
theorem tyJ2_ok : ∀ k, k < 0 → parseFieldDescriptor (TJ2 k).2.2.1 = some (tyJ2 k) := by decide +kernel
abbrev cJ2_newBytesFor_77867 : ByteArray := prog_23_method_2_code
def yJ2_newBytesFor_77867 : MethodName := ⟨RJ2, "newBytesFor", "(I)[B"⟩
abbrev cJ2_newBytesLength_0f7a4 : ByteArray := prog_23_method_3_code
def yJ2_newBytesLength_0f7a4 : MethodName := ⟨RJ2, "newBytesLength", "(I)I"⟩
abbrev cJ2_putChar_b72d1 : ByteArray := prog_23_method_4_code
def yJ2_putChar_b72d1 : MethodName := ⟨RJ2, "putChar", "([BII)V"⟩
abbrev cJ2_getChar_3b067 : ByteArray := prog_23_method_5_code
def yJ2_getChar_3b067 : MethodName := ⟨RJ2, "getChar", "([BI)C"⟩
abbrev cJ2_length_9d52b : ByteArray := prog_23_method_6_code
def yJ2_length_9d52b : MethodName := ⟨RJ2, "length", "([B)I"⟩
abbrev cJ2_coderFromArrayLen_85cad : ByteArray := prog_23_method_15_code
def yJ2_coderFromArrayLen_85cad : MethodName := ⟨RJ2, "coderFromArrayLen", "([BI)B"⟩
abbrev cJ2_compress_39247 : ByteArray := prog_23_method_17_code
def yJ2_compress_39247 : MethodName := ⟨RJ2, "compress", "([BII)[B"⟩
abbrev cJ2_compress_5af95 : ByteArray := prog_23_method_22_code
def yJ2_compress_5af95 : MethodName := ⟨RJ2, "compress", "([BI[BII)I"⟩
abbrev cJ2_putCharSB_b72d1 : ByteArray := prog_23_method_71_code
def yJ2_putCharSB_b72d1 : MethodName := ⟨RJ2, "putCharSB", "([BII)V"⟩
abbrev cJ2_charAt_3b067 : ByteArray := prog_23_method_83_code
def yJ2_charAt_3b067 : MethodName := ⟨RJ2, "charAt", "([BI)C"⟩
abbrev cJ2_inflate_0e8fd : ByteArray := prog_23_method_86_code
def yJ2_inflate_0e8fd : MethodName := ⟨RJ2, "inflate", "([BI[BII)V"⟩
abbrev cJ2_checkIndex_2214a : ByteArray := prog_23_method_91_code
def yJ2_checkIndex_2214a : MethodName := ⟨RJ2, "checkIndex", "(I[B)V"⟩
abbrev cJ2_checkBoundsOffCount_d044e : ByteArray := prog_23_method_94_code
def yJ2_checkBoundsOffCount_d044e : MethodName := ⟨RJ2, "checkBoundsOffCount", "(II[B)V"⟩
def RJ10 : String := "java/lang/System"
def TJ10 : u_T := fun k => match k with
  | _ => ("", "", "", false)
def tyJ10 : Nat → FieldType := fun k => match k with
  | _ => .int
abbrev wsJ100 : List Cond := u_ws RJ10 TJ10 0
theorem nmJ10 : ∀ a, a < 0 → ∀ b, b < 0 → a ≠ b → (TJ10 a).2.1 ≠ (TJ10 b).2.1 := by decide +kernel
theorem tyJ10_ok : ∀ k, k < 0 → parseFieldDescriptor (TJ10 k).2.2.1 = some (tyJ10 k) := by decide +kernel
def RJxfd54e : String := "java/lang/constant/Constable"
def TJxfd54e : u_T := fun k => match k with
  | _ => ("", "", "", false)
def tyJxfd54e : Nat → FieldType := fun k => match k with
  | _ => .int
abbrev wsJxfd54e0 : List Cond := u_ws RJxfd54e TJxfd54e 0
theorem nmJxfd54e : ∀ a, a < 0 → ∀ b, b < 0 → a ≠ b → (TJxfd54e a).2.1 ≠ (TJxfd54e b).2.1 := by decide +kernel
theorem tyJxfd54e_ok : ∀ k, k < 0 → parseFieldDescriptor (TJxfd54e k).2.2.1 = some (tyJxfd54e k) := by decide +kernel
def RJx3cf43 : String := "java/lang/constant/ConstantDesc"
def TJx3cf43 : u_T := fun k => match k with
  | _ => ("", "", "", false)
def tyJx3cf43 : Nat → FieldType := fun k => match k with
  | _ => .int
abbrev wsJx3cf430 : List Cond := u_ws RJx3cf43 TJx3cf43 0
theorem nmJx3cf43 : ∀ a, a < 0 → ∀ b, b < 0 → a ≠ b → (TJx3cf43 a).2.1 ≠ (TJx3cf43 b).2.1 := by decide +kernel
theorem tyJx3cf43_ok : ∀ k, k < 0 → parseFieldDescriptor (TJx3cf43 k).2.2.1 = some (tyJx3cf43 k) := by decide +kernel
def RJ7 : String := "java/util/Arrays"
def TJ7 : u_T := fun k => match k with
  | _ => ("", "", "", false)
def tyJ7 : Nat → FieldType := fun k => match k with
  | _ => .int
abbrev wsJ70 : List Cond := u_ws RJ7 TJ7 0
theorem nmJ7 : ∀ a, a < 0 → ∀ b, b < 0 → a ≠ b → (TJ7 a).2.1 ≠ (TJ7 b).2.1 := by decide +kernel
theorem tyJ7_ok : ∀ k, k < 0 → parseFieldDescriptor (TJ7 k).2.2.1 = some (tyJ7 k) := by decide +kernel
abbrev cJ7_copyOf_9075b : ByteArray := prog_26_method_121_code
def yJ7_copyOf_9075b : MethodName := ⟨RJ7, "copyOf", "([BI)[B"⟩
abbrev cJ7_checkLength_df160 : ByteArray := prog_26_method_131_code
def yJ7_checkLength_df160 : MethodName := ⟨RJ7, "checkLength", "(II)V"⟩
abbrev cJ7_copyOfRange_39247 : ByteArray := prog_26_method_132_code
def yJ7_copyOfRange_39247 : MethodName := ⟨RJ7, "copyOfRange", "([BII)[B"⟩
abbrev cJ7_copyOfRangeByte_39247 : ByteArray := prog_26_method_133_code
def yJ7_copyOfRangeByte_39247 : MethodName := ⟨RJ7, "copyOfRangeByte", "([BII)[B"⟩
def RJ8 : String := "jdk/internal/util/ArraysSupport"
def TJ8 : u_T := fun k => match k with
  | _ => ("", "", "", false)
def tyJ8 : Nat → FieldType := fun k => match k with
  | _ => .int
abbrev wsJ80 : List Cond := u_ws RJ8 TJ8 0
theorem nmJ8 : ∀ a, a < 0 → ∀ b, b < 0 → a ≠ b → (TJ8 a).2.1 ≠ (TJ8 b).2.1 := by decide +kernel
theorem tyJ8_ok : ∀ k, k < 0 → parseFieldDescriptor (TJ8 k).2.2.1 = some (tyJ8 k) := by decide +kernel
abbrev cJ8_newLength_cabcc : ByteArray := prog_27_method_27_code
def yJ8_newLength_cabcc : MethodName := ⟨RJ8, "newLength", "(III)I"⟩
abbrev cJ8_hugeLength_7cf53 : ByteArray := prog_27_method_28_code
def yJ8_hugeLength_7cf53 : MethodName := ⟨RJ8, "hugeLength", "(II)I"⟩
def RJ3 : String := "jdk/internal/util/Preconditions"
def TJ3 : u_T := fun k => match k with
  | _ => ("", "", "", false)
def tyJ3 : Nat → FieldType := fun k => match k with
  | _ => .int
abbrev wsJ30 : List Cond := u_ws RJ3 TJ3 0
theorem nmJ3 : ∀ a, a < 0 → ∀ b, b < 0 → a ≠ b → (TJ3 a).2.1 ≠ (TJ3 b).2.1 := by decide +kernel
theorem tyJ3_ok : ∀ k, k < 0 → parseFieldDescriptor (TJ3 k).2.2.1 = some (tyJ3 k) := by decide +kernel
abbrev cJ3_checkIndex_8e157 : ByteArray := prog_28_method_11_code
def yJ3_checkIndex_8e157 : MethodName := ⟨RJ3, "checkIndex", "(IILjava/util/function/BiFunction;)I"⟩
abbrev cJ3_checkFromIndexSize_8c36e : ByteArray := prog_28_method_13_code
def yJ3_checkFromIndexSize_8c36e : MethodName := ⟨RJ3, "checkFromIndexSize", "(IIILjava/util/function/BiFunction;)I"⟩
def RL : String := "PinBarrelLaw"
abbrev cL_below : ByteArray := method_2_code
def yL_below : MethodName := ⟨RL, "below", "(II)I"⟩
abbrev cL_cell : ByteArray := method_3_code
def yL_cell : MethodName := ⟨RL, "cell", "([II)I"⟩
abbrev cL_law : ByteArray := code
def yL_law : MethodName := ⟨RL, "law", "([I)Z"⟩
abbrev cL_plucks : ByteArray := method_5_code
def yL_plucks : MethodName := ⟨RL, "plucks", "(LPinBarrel;I)I"⟩
abbrev cL_isPlayed : ByteArray := method_6_code
def yL_isPlayed : MethodName := ⟨RL, "isPlayed", "(LPinBarrel;II)Z"⟩
abbrev cL_areWell : ByteArray := method_7_code
def yL_areWell : MethodName := ⟨RL, "areWell", "(LPinBarrel;I)Z"⟩
def wsX0_init : List Cond := .code yX0_init cX0_init 1 none :: ([.methodLink RX0 3 objectInit, .instanceMethod objectInit, .code objectInit ⟨#[0xb1]⟩ 1 none, .arrayClass .long, .fieldLink RX0 9 "PinBarrel$Barrel" "places" "[J", .arrayClass .int, .fieldLink RX0 15 "PinBarrel$Barrel" "wears" "[I"] ++ wsX00)
def wsX0_lineAt : List Cond := .code yX0_lineAt cX0_lineAt 2 (some .int) :: ([])
def wsX0_pinAt : List Cond := .code yX0_pinAt cX0_pinAt 3 (some .int) :: ([])
def wsX0_placesNear : List Cond := .code yX0_placesNear cX0_placesNear 2 (some .long) :: ([.constantLong RX0 19 (127)])
def wsX0_placesOf : List Cond := .code yX0_placesOf cX0_placesOf 3 (some .long) :: ([.fieldLink RX0 9 "PinBarrel$Barrel" "places" "[J", .methodLink RX0 21 yX0_lineAt, .static yX0_lineAt, .initialized RX0, .code yX0_lineAt cX0_lineAt 2 (some .int)] ++ wsX00)
def wsX0_wearOf : List Cond := .code yX0_wearOf cX0_wearOf 4 (some .int) :: ([.fieldLink RX0 15 "PinBarrel$Barrel" "wears" "[I", .methodLink RX0 25 yX0_pinAt, .static yX0_pinAt, .initialized RX0, .code yX0_pinAt cX0_pinAt 3 (some .int)] ++ wsX00)
def wsX0_hasPin : List Cond := .code yX0_hasPin cX0_hasPin 4 (some .boolean) :: ([.fieldLink RX0 9 "PinBarrel$Barrel" "places" "[J", .methodLink RX0 21 yX0_lineAt, .static yX0_lineAt, .initialized RX0, .code yX0_lineAt cX0_lineAt 2 (some .int)] ++ wsX00)
def wsX0_setPin : List Cond := .code yX0_setPin cX0_setPin 4 none :: ([.fieldLink RX0 9 "PinBarrel$Barrel" "places" "[J", .fieldLink RX0 15 "PinBarrel$Barrel" "wears" "[I", .methodLink RX0 21 yX0_lineAt, .static yX0_lineAt, .initialized RX0, .code yX0_lineAt cX0_lineAt 2 (some .int), .methodLink RX0 25 yX0_pinAt, .static yX0_pinAt, .code yX0_pinAt cX0_pinAt 3 (some .int)] ++ wsX00)
def wsJ13_bitCount_95d88 : List Cond := .code yJ13_bitCount_95d88 cJ13_bitCount_95d88 2 (some .int) :: ([.constantLong RJ13 314 (6148914691236517205), .constantLong RJ13 316 (3689348814741910323), .constantLong RJ13 318 (1085102592571150095)])
def wsX0_pinsOfTooth : List Cond := .code yX0_pinsOfTooth cX0_pinsOfTooth 4 (some .int) :: ([.methodLink RX0 29 yX0_placesOf, .instanceMethod yX0_placesOf, .selects RX0 yX0_placesOf yX0_placesOf, .initialized RX0, .code yX0_placesOf cX0_placesOf 3 (some .long), .fieldLink RX0 9 "PinBarrel$Barrel" "places" "[J", .methodLink RX0 21 yX0_lineAt, .static yX0_lineAt, .code yX0_lineAt cX0_lineAt 2 (some .int), .methodLink RX0 33 yJ13_bitCount_95d88, .static yJ13_bitCount_95d88, .initialized RJ13, .code yJ13_bitCount_95d88 cJ13_bitCount_95d88 2 (some .int), .constantLong RJ13 314 (6148914691236517205), .constantLong RJ13 316 (3689348814741910323), .constantLong RJ13 318 (1085102592571150095)] ++ wsX00)
def wsX0_freeTooth : List Cond := .code yX0_freeTooth cX0_freeTooth 13 (some .int) :: ([.fieldLink RX0 43 "PinBarrel$Comb" "count" "I", .fieldLink RX0 49 "PinBarrel$Comb" "pitch" "[I", .fieldLink RX0 52 "PinBarrel$Comb" "broken" "[Z", .fieldLink RX0 9 "PinBarrel$Barrel" "places" "[J", .methodLink RX0 39 yX0_placesNear, .static yX0_placesNear, .initialized RX0, .code yX0_placesNear cX0_placesNear 2 (some .long), .constantLong RX0 19 (127), .methodLink RX0 21 yX0_lineAt, .static yX0_lineAt, .code yX0_lineAt cX0_lineAt 2 (some .int), .methodLink RX0 33 yJ13_bitCount_95d88, .static yJ13_bitCount_95d88, .initialized RJ13, .code yJ13_bitCount_95d88 cJ13_bitCount_95d88 2 (some .int), .constantLong RJ13 314 (6148914691236517205), .constantLong RJ13 316 (3689348814741910323), .constantLong RJ13 318 (1085102592571150095)] ++ wsX10 ++ wsX00)
def wsX0_pullFrom : List Cond := .code yX0_pullFrom cX0_pullFrom 6 (some .int) :: ([.fieldLink RX0 9 "PinBarrel$Barrel" "places" "[J", .constantLong RX0 63 (-1), .methodLink RX0 56 yX0_hasPin, .instanceMethod yX0_hasPin, .selects RX0 yX0_hasPin yX0_hasPin, .initialized RX0, .code yX0_hasPin cX0_hasPin 4 (some .boolean), .methodLink RX0 21 yX0_lineAt, .static yX0_lineAt, .code yX0_lineAt cX0_lineAt 2 (some .int), .methodLink RX0 60 yX0_wearOf, .instanceMethod yX0_wearOf, .selects RX0 yX0_wearOf yX0_wearOf, .code yX0_wearOf cX0_wearOf 4 (some .int), .fieldLink RX0 15 "PinBarrel$Barrel" "wears" "[I", .methodLink RX0 25 yX0_pinAt, .static yX0_pinAt, .code yX0_pinAt cX0_pinAt 3 (some .int)] ++ wsX00)
def wsX0_renewPins : List Cond := .code yX0_renewPins cX0_renewPins 5 (some .int) :: ([.fieldLink RX0 15 "PinBarrel$Barrel" "wears" "[I", .methodLink RX0 56 yX0_hasPin, .instanceMethod yX0_hasPin, .selects RX0 yX0_hasPin yX0_hasPin, .initialized RX0, .code yX0_hasPin cX0_hasPin 4 (some .boolean), .fieldLink RX0 9 "PinBarrel$Barrel" "places" "[J", .methodLink RX0 21 yX0_lineAt, .static yX0_lineAt, .code yX0_lineAt cX0_lineAt 2 (some .int), .methodLink RX0 60 yX0_wearOf, .instanceMethod yX0_wearOf, .selects RX0 yX0_wearOf yX0_wearOf, .code yX0_wearOf cX0_wearOf 4 (some .int), .methodLink RX0 25 yX0_pinAt, .static yX0_pinAt, .code yX0_pinAt cX0_pinAt 3 (some .int)] ++ wsX00)
def wsX0_wearDown : List Cond := .code yX0_wearDown cX0_wearDown 5 (some .boolean) :: ([.fieldLink RX0 15 "PinBarrel$Barrel" "wears" "[I", .fieldLink RX0 9 "PinBarrel$Barrel" "places" "[J", .constantLong RX0 63 (-1), .methodLink RX0 25 yX0_pinAt, .static yX0_pinAt, .initialized RX0, .code yX0_pinAt cX0_pinAt 3 (some .int), .methodLink RX0 21 yX0_lineAt, .static yX0_lineAt, .code yX0_lineAt cX0_lineAt 2 (some .int)] ++ wsX00)
def wsX0_takePins : List Cond := .code yX0_takePins cX0_takePins 4 none :: ([.fieldLink RX0 9 "PinBarrel$Barrel" "places" "[J", .methodLink RX0 65 arraycopyName, .native arraycopyName, .static arraycopyName, .initialized "java/lang/System", .methodLink RX0 21 yX0_lineAt, .static yX0_lineAt, .initialized RX0, .code yX0_lineAt cX0_lineAt 2 (some .int)] ++ wsX00)
def wsX0_takeWears : List Cond := .code yX0_takeWears cX0_takeWears 4 none :: ([.fieldLink RX0 15 "PinBarrel$Barrel" "wears" "[I", .methodLink RX0 65 arraycopyName, .native arraycopyName, .static arraycopyName, .initialized "java/lang/System", .methodLink RX0 25 yX0_pinAt, .static yX0_pinAt, .initialized RX0, .code yX0_pinAt cX0_pinAt 3 (some .int)] ++ wsX00)
def wsX1_init : List Cond := .code yX1_init cX1_init 1 none :: ([.methodLink RX1 3 objectInit, .instanceMethod objectInit, .code objectInit ⟨#[0xb1]⟩ 1 none, .arrayClass .int, .fieldLink RX1 9 "PinBarrel$Comb" "pitch" "[I", .arrayClass .boolean, .fieldLink RX1 15 "PinBarrel$Comb" "broken" "[Z", .fieldLink RX1 19 "PinBarrel$Comb" "scratches" "[I", .fieldLink RX1 22 "PinBarrel$Comb" "plucks" "[I", .fieldLink RX1 25 "PinBarrel$Comb" "lastPluck" "[I"] ++ wsX10)
def wsX1_addTooth : List Cond := .code yX1_addTooth cX1_addTooth 2 (some .int) :: ([.fieldLink RX1 9 "PinBarrel$Comb" "pitch" "[I", .fieldLink RX1 28 "PinBarrel$Comb" "count" "I"] ++ wsX10)
def wsX1_brokenTeeth : List Cond := .code yX1_brokenTeeth cX1_brokenTeeth 3 (some .int) :: ([.fieldLink RX1 28 "PinBarrel$Comb" "count" "I", .fieldLink RX1 15 "PinBarrel$Comb" "broken" "[Z"] ++ wsX10)
def wsX1_mendTooth : List Cond := .code yX1_mendTooth cX1_mendTooth 3 (some .int) :: ([.fieldLink RX1 15 "PinBarrel$Comb" "broken" "[Z", .fieldLink RX1 19 "PinBarrel$Comb" "scratches" "[I"] ++ wsX10)
def wsX1_pluckTooth : List Cond := .code yX1_pluckTooth cX1_pluckTooth 4 (some .boolean) :: ([.fieldLink RX1 22 "PinBarrel$Comb" "plucks" "[I", .fieldLink RX1 25 "PinBarrel$Comb" "lastPluck" "[I", .fieldLink RX1 19 "PinBarrel$Comb" "scratches" "[I", .fieldLink RX1 15 "PinBarrel$Comb" "broken" "[Z"] ++ wsX10)
def wsX1_takeTeeth : List Cond := .code yX1_takeTeeth cX1_takeTeeth 3 none :: ([.fieldLink RX1 28 "PinBarrel$Comb" "count" "I", .fieldLink RX1 9 "PinBarrel$Comb" "pitch" "[I", .fieldLink RX1 15 "PinBarrel$Comb" "broken" "[Z", .fieldLink RX1 19 "PinBarrel$Comb" "scratches" "[I", .fieldLink RX1 22 "PinBarrel$Comb" "plucks" "[I", .fieldLink RX1 25 "PinBarrel$Comb" "lastPluck" "[I"] ++ wsX10)
def wsX2_init : List Cond := .code yX2_init cX2_init 1 none :: ([.methodLink RX2 3 objectInit, .instanceMethod objectInit, .code objectInit ⟨#[0xb1]⟩ 1 none, .arrayClass .int, .fieldLink RX2 9 "PinBarrel$Sounds" "pitches" "[I", .arrayClass .double, .fieldLink RX2 15 "PinBarrel$Sounds" "clocks" "[D"] ++ wsX20)
def wsX2_roomOf : List Cond := .code yX2_roomOf cX2_roomOf 2 (some .int) :: ([.fieldLink RX2 19 "PinBarrel$Sounds" "oldest" "I"] ++ wsX20)
def wsX2_pitchOf : List Cond := .code yX2_pitchOf cX2_pitchOf 2 (some .int) :: ([.fieldLink RX2 9 "PinBarrel$Sounds" "pitches" "[I", .methodLink RX2 23 yX2_roomOf, .instanceMethod yX2_roomOf, .selects RX2 yX2_roomOf yX2_roomOf, .initialized RX2, .code yX2_roomOf cX2_roomOf 2 (some .int), .fieldLink RX2 19 "PinBarrel$Sounds" "oldest" "I"] ++ wsX20)
def wsX2_clockOf : List Cond := .code yX2_clockOf cX2_clockOf 2 (some .double) :: ([.fieldLink RX2 15 "PinBarrel$Sounds" "clocks" "[D", .methodLink RX2 23 yX2_roomOf, .instanceMethod yX2_roomOf, .selects RX2 yX2_roomOf yX2_roomOf, .initialized RX2, .code yX2_roomOf cX2_roomOf 2 (some .int), .fieldLink RX2 19 "PinBarrel$Sounds" "oldest" "I"] ++ wsX20)
def wsX2_addSound : List Cond := .code yX2_addSound cX2_addSound 5 none :: ([.fieldLink RX2 27 "PinBarrel$Sounds" "kept" "I", .fieldLink RX2 9 "PinBarrel$Sounds" "pitches" "[I", .fieldLink RX2 15 "PinBarrel$Sounds" "clocks" "[D", .fieldLink RX2 30 "PinBarrel$Sounds" "ever" "I", .fieldLink RX2 19 "PinBarrel$Sounds" "oldest" "I", .methodLink RX2 23 yX2_roomOf, .instanceMethod yX2_roomOf, .selects RX2 yX2_roomOf yX2_roomOf, .initialized RX2, .code yX2_roomOf cX2_roomOf 2 (some .int)] ++ wsX20)
def wsX3_init : List Cond := .code yX3_init cX3_init 1 none :: ([.methodLink RX3 3 objectInit, .instanceMethod objectInit, .code objectInit ⟨#[0xb1]⟩ 1 none, .arrayClass .int, .fieldLink RX3 9 "PinBarrel$Tunes" "size" "[I", .fieldLink RX3 15 "PinBarrel$Tunes" "notes" "[I"] ++ wsX30)
def wsX3_timeOf : List Cond := .code yX3_timeOf cX3_timeOf 3 (some .int) :: ([.fieldLink RX3 15 "PinBarrel$Tunes" "notes" "[I"] ++ wsX30)
def wsX3_pitchOf : List Cond := .code yX3_pitchOf cX3_pitchOf 3 (some .int) :: ([.fieldLink RX3 15 "PinBarrel$Tunes" "notes" "[I"] ++ wsX30)
def wsX3_rankOf : List Cond := .code yX3_rankOf cX3_rankOf 4 (some .int) :: ([.fieldLink RX3 9 "PinBarrel$Tunes" "size" "[I", .fieldLink RX3 15 "PinBarrel$Tunes" "notes" "[I"] ++ wsX30)
def wsX3_holds : List Cond := .code yX3_holds cX3_holds 6 (some .boolean) :: ([.fieldLink RX3 9 "PinBarrel$Tunes" "size" "[I", .fieldLink RX3 15 "PinBarrel$Tunes" "notes" "[I", .methodLink RX3 18 yX3_rankOf, .instanceMethod yX3_rankOf, .selects RX3 yX3_rankOf yX3_rankOf, .initialized RX3, .code yX3_rankOf cX3_rankOf 4 (some .int)] ++ wsX30)
def wsX3_write : List Cond := .code yX3_write cX3_write 8 none :: ([.fieldLink RX3 9 "PinBarrel$Tunes" "size" "[I", .fieldLink RX3 15 "PinBarrel$Tunes" "notes" "[I", .methodLink RX3 18 yX3_rankOf, .instanceMethod yX3_rankOf, .selects RX3 yX3_rankOf yX3_rankOf, .initialized RX3, .code yX3_rankOf cX3_rankOf 4 (some .int)] ++ wsX30)
def wsX3_strike : List Cond := .code yX3_strike cX3_strike 6 none :: ([.fieldLink RX3 9 "PinBarrel$Tunes" "size" "[I", .fieldLink RX3 15 "PinBarrel$Tunes" "notes" "[I", .methodLink RX3 18 yX3_rankOf, .instanceMethod yX3_rankOf, .selects RX3 yX3_rankOf yX3_rankOf, .initialized RX3, .code yX3_rankOf cX3_rankOf 4 (some .int)] ++ wsX30)
def wsX3_lowest : List Cond := .code yX3_lowest cX3_lowest 5 (some .int) :: ([.fieldLink RX3 9 "PinBarrel$Tunes" "size" "[I", .methodLink RX3 22 yX3_pitchOf, .instanceMethod yX3_pitchOf, .selects RX3 yX3_pitchOf yX3_pitchOf, .initialized RX3, .code yX3_pitchOf cX3_pitchOf 3 (some .int), .fieldLink RX3 15 "PinBarrel$Tunes" "notes" "[I"] ++ wsX30)
def wsX3_highest : List Cond := .code yX3_highest cX3_highest 4 (some .int) :: ([.fieldLink RX3 9 "PinBarrel$Tunes" "size" "[I", .methodLink RX3 25 Lib.Math.max.name, .static Lib.Math.max.name, .initialized "java/lang/Math", .code Lib.Math.max.name Lib.Math.max.code 2 (some .int), .methodLink RX3 22 yX3_pitchOf, .instanceMethod yX3_pitchOf, .selects RX3 yX3_pitchOf yX3_pitchOf, .initialized RX3, .code yX3_pitchOf cX3_pitchOf 3 (some .int), .fieldLink RX3 15 "PinBarrel$Tunes" "notes" "[I"] ++ wsX30)
def wsX3_times : List Cond := .code yX3_times cX3_times 4 (some .int) :: ([.fieldLink RX3 9 "PinBarrel$Tunes" "size" "[I", .methodLink RX3 30 yX3_timeOf, .instanceMethod yX3_timeOf, .selects RX3 yX3_timeOf yX3_timeOf, .initialized RX3, .code yX3_timeOf cX3_timeOf 3 (some .int), .fieldLink RX3 15 "PinBarrel$Tunes" "notes" "[I"] ++ wsX30)
def wsX3_mostAtOnce : List Cond := .code yX3_mostAtOnce cX3_mostAtOnce 6 (some .int) :: ([.fieldLink RX3 9 "PinBarrel$Tunes" "size" "[I", .methodLink RX3 25 Lib.Math.max.name, .static Lib.Math.max.name, .initialized "java/lang/Math", .code Lib.Math.max.name Lib.Math.max.code 2 (some .int), .methodLink RX3 30 yX3_timeOf, .instanceMethod yX3_timeOf, .selects RX3 yX3_timeOf yX3_timeOf, .initialized RX3, .code yX3_timeOf cX3_timeOf 3 (some .int), .fieldLink RX3 15 "PinBarrel$Tunes" "notes" "[I"] ++ wsX30)
def wsX3_shared : List Cond := .code yX3_shared cX3_shared 7 (some .int) :: ([.fieldLink RX3 9 "PinBarrel$Tunes" "size" "[I", .methodLink RX3 22 yX3_pitchOf, .instanceMethod yX3_pitchOf, .selects RX3 yX3_pitchOf yX3_pitchOf, .initialized RX3, .code yX3_pitchOf cX3_pitchOf 3 (some .int), .fieldLink RX3 15 "PinBarrel$Tunes" "notes" "[I", .methodLink RX3 30 yX3_timeOf, .instanceMethod yX3_timeOf, .selects RX3 yX3_timeOf yX3_timeOf, .code yX3_timeOf cX3_timeOf 3 (some .int), .methodLink RX3 33 yX3_holds, .instanceMethod yX3_holds, .selects RX3 yX3_holds yX3_holds, .code yX3_holds cX3_holds 6 (some .boolean), .methodLink RX3 18 yX3_rankOf, .instanceMethod yX3_rankOf, .selects RX3 yX3_rankOf yX3_rankOf, .code yX3_rankOf cX3_rankOf 4 (some .int)] ++ wsX30)
def wsX4_init_r1 : List Cond := [Cond.methodLink RX4 3 objectInit, Cond.instanceMethod objectInit, Cond.code objectInit ⟨#[0xb1]⟩ 1 none, Cond.classLink RX4 9 RX1, Cond.instantiable RX1 6, Cond.initialized RX1, Cond.fieldLink RX4 12 "PinBarrel$Works" "comb" "LPinBarrel$Comb;", Cond.classLink RX4 18 RX0, Cond.instantiable RX0 2, Cond.initialized RX0, Cond.fieldLink RX4 21 "PinBarrel$Works" "barrel" "LPinBarrel$Barrel;", Cond.classLink RX4 25 RX2, Cond.instantiable RX2 5, Cond.initialized RX2, Cond.fieldLink RX4 28 "PinBarrel$Works" "sounds" "LPinBarrel$Sounds;", Cond.fieldLink RX4 32 "PinBarrel$Works" "governor" "I", Cond.methodLink RX4 11 yX1_init, Cond.instanceMethod yX1_init, Cond.code yX1_init cX1_init 1 none, Cond.methodLink RX1 3 objectInit, Cond.arrayClass .int, Cond.fieldLink RX1 9 "PinBarrel$Comb" "pitch" "[I", Cond.arrayClass .boolean, Cond.fieldLink RX1 15 "PinBarrel$Comb" "broken" "[Z"]
def wsX4_init_r2 : List Cond := [Cond.fieldLink RX1 19 "PinBarrel$Comb" "scratches" "[I", Cond.fieldLink RX1 22 "PinBarrel$Comb" "plucks" "[I", Cond.fieldLink RX1 25 "PinBarrel$Comb" "lastPluck" "[I", Cond.methodLink RX4 20 yX0_init, Cond.instanceMethod yX0_init, Cond.code yX0_init cX0_init 1 none, Cond.methodLink RX0 3 objectInit, Cond.arrayClass .long, Cond.fieldLink RX0 9 "PinBarrel$Barrel" "places" "[J", Cond.fieldLink RX0 15 "PinBarrel$Barrel" "wears" "[I", Cond.methodLink RX4 27 yX2_init, Cond.instanceMethod yX2_init, Cond.code yX2_init cX2_init 1 none, Cond.methodLink RX2 3 objectInit, Cond.fieldLink RX2 9 "PinBarrel$Sounds" "pitches" "[I", Cond.arrayClass .double, Cond.fieldLink RX2 15 "PinBarrel$Sounds" "clocks" "[D"]
def wsX4_init : List Cond := .code yX4_init cX4_init 1 none :: ((wsX4_init_r1 ++ wsX4_init_r2) ++ wsX10 ++ wsX40 ++ wsX00 ++ wsX20)
def wsX4_speedNow : List Cond := .code yX4_speedNow cX4_speedNow 2 (some .float) :: ([.constantFloat RX4 36 (1040187392), .fieldLink RX4 32 "PinBarrel$Works" "governor" "I", .fieldLink RX4 37 "PinBarrel$Works" "wound" "I", .constantFloat RX4 40 (981467136)] ++ wsX40)
def wsX4_pluck_r1 : List Cond := [Cond.fieldLink RX4 12 "PinBarrel$Works" "comb" "LPinBarrel$Comb;", Cond.fieldLink RX4 57 "PinBarrel$Works" "steps" "I", Cond.fieldLink RX4 88 "PinBarrel$Works" "buzzes" "I", Cond.fieldLink RX4 28 "PinBarrel$Works" "sounds" "LPinBarrel$Sounds;", Cond.fieldLink RX4 91 "PinBarrel$Comb" "pitch" "[I", Cond.fieldLink RX4 44 "PinBarrel$Works" "clock" "D", Cond.fieldLink RX4 21 "PinBarrel$Works" "barrel" "LPinBarrel$Barrel;", Cond.fieldLink RX4 67 "PinBarrel$Works" "shift" "I", Cond.fieldLink RX4 54 "PinBarrel$Works" "place" "I", Cond.fieldLink RX4 102 "PinBarrel$Works" "wornOut" "I", Cond.methodLink RX4 84 yX1_pluckTooth, Cond.instanceMethod yX1_pluckTooth, Cond.selects RX1 yX1_pluckTooth yX1_pluckTooth, Cond.initialized RX1, Cond.code yX1_pluckTooth cX1_pluckTooth 4 (some .boolean), Cond.fieldLink RX1 22 "PinBarrel$Comb" "plucks" "[I", Cond.fieldLink RX1 25 "PinBarrel$Comb" "lastPluck" "[I", Cond.fieldLink RX1 19 "PinBarrel$Comb" "scratches" "[I", Cond.fieldLink RX1 15 "PinBarrel$Comb" "broken" "[Z", Cond.methodLink RX4 95 yX2_addSound, Cond.instanceMethod yX2_addSound, Cond.selects RX2 yX2_addSound yX2_addSound, Cond.initialized RX2, Cond.code yX2_addSound cX2_addSound 5 none]
def wsX4_pluck_r2 : List Cond := [Cond.fieldLink RX2 27 "PinBarrel$Sounds" "kept" "I", Cond.fieldLink RX2 9 "PinBarrel$Sounds" "pitches" "[I", Cond.fieldLink RX2 15 "PinBarrel$Sounds" "clocks" "[D", Cond.fieldLink RX2 30 "PinBarrel$Sounds" "ever" "I", Cond.fieldLink RX2 19 "PinBarrel$Sounds" "oldest" "I", Cond.methodLink RX2 23 yX2_roomOf, Cond.instanceMethod yX2_roomOf, Cond.selects RX2 yX2_roomOf yX2_roomOf, Cond.code yX2_roomOf cX2_roomOf 2 (some .int), Cond.methodLink RX4 99 yX0_wearDown, Cond.instanceMethod yX0_wearDown, Cond.selects RX0 yX0_wearDown yX0_wearDown, Cond.initialized RX0, Cond.code yX0_wearDown cX0_wearDown 5 (some .boolean), Cond.fieldLink RX0 15 "PinBarrel$Barrel" "wears" "[I", Cond.fieldLink RX0 9 "PinBarrel$Barrel" "places" "[J", Cond.constantLong RX0 63 (-1), Cond.methodLink RX0 25 yX0_pinAt, Cond.static yX0_pinAt, Cond.code yX0_pinAt cX0_pinAt 3 (some .int), Cond.methodLink RX0 21 yX0_lineAt, Cond.static yX0_lineAt, Cond.code yX0_lineAt cX0_lineAt 2 (some .int)]
def wsX4_pluck : List Cond := .code yX4_pluck cX4_pluck 2 none :: ((wsX4_pluck_r1 ++ wsX4_pluck_r2) ++ wsX40 ++ wsX10 ++ wsX20 ++ wsX00)
def wsX4_step_r1 : List Cond := [Cond.fieldLink RX4 44 "PinBarrel$Works" "clock" "D", Cond.constantDouble RX4 48 (4593671619917905920), Cond.fieldLink RX4 54 "PinBarrel$Works" "place" "I", Cond.fieldLink RX4 57 "PinBarrel$Works" "steps" "I", Cond.fieldLink RX4 12 "PinBarrel$Works" "comb" "LPinBarrel$Comb;", Cond.fieldLink RX4 60 "PinBarrel$Comb" "count" "I", Cond.fieldLink RX4 63 "PinBarrel$Comb" "broken" "[Z", Cond.fieldLink RX4 21 "PinBarrel$Works" "barrel" "LPinBarrel$Barrel;", Cond.fieldLink RX4 67 "PinBarrel$Works" "shift" "I", Cond.fieldLink RX4 37 "PinBarrel$Works" "wound" "I", Cond.methodLink RX4 78 Lib.Math.max.name, Cond.static Lib.Math.max.name, Cond.initialized "java/lang/Math", Cond.code Lib.Math.max.name Lib.Math.max.code 2 (some .int), Cond.methodLink RX4 50 yX4_speedNow, Cond.instanceMethod yX4_speedNow, Cond.selects RX4 yX4_speedNow yX4_speedNow, Cond.initialized RX4, Cond.code yX4_speedNow cX4_speedNow 2 (some .float), Cond.constantFloat RX4 36 (1040187392), Cond.fieldLink RX4 32 "PinBarrel$Works" "governor" "I", Cond.constantFloat RX4 40 (981467136), Cond.methodLink RX4 70 yX0_hasPin, Cond.instanceMethod yX0_hasPin]
def wsX4_step_r2 : List Cond := [Cond.selects RX0 yX0_hasPin yX0_hasPin, Cond.initialized RX0, Cond.code yX0_hasPin cX0_hasPin 4 (some .boolean), Cond.fieldLink RX0 9 "PinBarrel$Barrel" "places" "[J", Cond.methodLink RX0 21 yX0_lineAt, Cond.static yX0_lineAt, Cond.code yX0_lineAt cX0_lineAt 2 (some .int), Cond.methodLink RX4 74 yX4_pluck, Cond.instanceMethod yX4_pluck, Cond.selects RX4 yX4_pluck yX4_pluck, Cond.code yX4_pluck cX4_pluck 2 none, Cond.fieldLink RX4 88 "PinBarrel$Works" "buzzes" "I", Cond.fieldLink RX4 28 "PinBarrel$Works" "sounds" "LPinBarrel$Sounds;", Cond.fieldLink RX4 91 "PinBarrel$Comb" "pitch" "[I", Cond.fieldLink RX4 102 "PinBarrel$Works" "wornOut" "I", Cond.methodLink RX4 84 yX1_pluckTooth, Cond.instanceMethod yX1_pluckTooth, Cond.selects RX1 yX1_pluckTooth yX1_pluckTooth, Cond.initialized RX1, Cond.code yX1_pluckTooth cX1_pluckTooth 4 (some .boolean), Cond.fieldLink RX1 22 "PinBarrel$Comb" "plucks" "[I", Cond.fieldLink RX1 25 "PinBarrel$Comb" "lastPluck" "[I", Cond.fieldLink RX1 19 "PinBarrel$Comb" "scratches" "[I", Cond.fieldLink RX1 15 "PinBarrel$Comb" "broken" "[Z"]
def wsX4_step_r3 : List Cond := [Cond.methodLink RX4 95 yX2_addSound, Cond.instanceMethod yX2_addSound, Cond.selects RX2 yX2_addSound yX2_addSound, Cond.initialized RX2, Cond.code yX2_addSound cX2_addSound 5 none, Cond.fieldLink RX2 27 "PinBarrel$Sounds" "kept" "I", Cond.fieldLink RX2 9 "PinBarrel$Sounds" "pitches" "[I", Cond.fieldLink RX2 15 "PinBarrel$Sounds" "clocks" "[D", Cond.fieldLink RX2 30 "PinBarrel$Sounds" "ever" "I", Cond.fieldLink RX2 19 "PinBarrel$Sounds" "oldest" "I", Cond.methodLink RX2 23 yX2_roomOf, Cond.instanceMethod yX2_roomOf, Cond.selects RX2 yX2_roomOf yX2_roomOf, Cond.code yX2_roomOf cX2_roomOf 2 (some .int), Cond.methodLink RX4 99 yX0_wearDown, Cond.instanceMethod yX0_wearDown, Cond.selects RX0 yX0_wearDown yX0_wearDown, Cond.code yX0_wearDown cX0_wearDown 5 (some .boolean), Cond.fieldLink RX0 15 "PinBarrel$Barrel" "wears" "[I", Cond.constantLong RX0 63 (-1), Cond.methodLink RX0 25 yX0_pinAt, Cond.static yX0_pinAt, Cond.code yX0_pinAt cX0_pinAt 3 (some .int)]
def wsX4_step : List Cond := .code yX4_step cX4_step 3 none :: ((wsX4_step_r1 ++ (wsX4_step_r2 ++ wsX4_step_r3)) ++ wsX40 ++ wsX10 ++ wsX00 ++ wsX20)
def wsX4_run_r1 : List Cond := [Cond.fieldLink RX4 37 "PinBarrel$Works" "wound" "I", Cond.methodLink RX4 41 yX4_step, Cond.instanceMethod yX4_step, Cond.selects RX4 yX4_step yX4_step, Cond.initialized RX4, Cond.code yX4_step cX4_step 3 none, Cond.fieldLink RX4 44 "PinBarrel$Works" "clock" "D", Cond.constantDouble RX4 48 (4593671619917905920), Cond.fieldLink RX4 54 "PinBarrel$Works" "place" "I", Cond.fieldLink RX4 57 "PinBarrel$Works" "steps" "I", Cond.fieldLink RX4 12 "PinBarrel$Works" "comb" "LPinBarrel$Comb;", Cond.fieldLink RX4 60 "PinBarrel$Comb" "count" "I", Cond.fieldLink RX4 63 "PinBarrel$Comb" "broken" "[Z", Cond.fieldLink RX4 21 "PinBarrel$Works" "barrel" "LPinBarrel$Barrel;", Cond.fieldLink RX4 67 "PinBarrel$Works" "shift" "I", Cond.methodLink RX4 78 Lib.Math.max.name, Cond.static Lib.Math.max.name, Cond.initialized "java/lang/Math", Cond.code Lib.Math.max.name Lib.Math.max.code 2 (some .int), Cond.methodLink RX4 50 yX4_speedNow, Cond.instanceMethod yX4_speedNow, Cond.selects RX4 yX4_speedNow yX4_speedNow, Cond.code yX4_speedNow cX4_speedNow 2 (some .float), Cond.constantFloat RX4 36 (1040187392)]
def wsX4_run_r2 : List Cond := [Cond.fieldLink RX4 32 "PinBarrel$Works" "governor" "I", Cond.constantFloat RX4 40 (981467136), Cond.methodLink RX4 70 yX0_hasPin, Cond.instanceMethod yX0_hasPin, Cond.selects RX0 yX0_hasPin yX0_hasPin, Cond.initialized RX0, Cond.code yX0_hasPin cX0_hasPin 4 (some .boolean), Cond.fieldLink RX0 9 "PinBarrel$Barrel" "places" "[J", Cond.methodLink RX0 21 yX0_lineAt, Cond.static yX0_lineAt, Cond.code yX0_lineAt cX0_lineAt 2 (some .int), Cond.methodLink RX4 74 yX4_pluck, Cond.instanceMethod yX4_pluck, Cond.selects RX4 yX4_pluck yX4_pluck, Cond.code yX4_pluck cX4_pluck 2 none, Cond.fieldLink RX4 88 "PinBarrel$Works" "buzzes" "I", Cond.fieldLink RX4 28 "PinBarrel$Works" "sounds" "LPinBarrel$Sounds;", Cond.fieldLink RX4 91 "PinBarrel$Comb" "pitch" "[I", Cond.fieldLink RX4 102 "PinBarrel$Works" "wornOut" "I", Cond.methodLink RX4 84 yX1_pluckTooth, Cond.instanceMethod yX1_pluckTooth, Cond.selects RX1 yX1_pluckTooth yX1_pluckTooth, Cond.initialized RX1, Cond.code yX1_pluckTooth cX1_pluckTooth 4 (some .boolean)]
def wsX4_run_r3 : List Cond := [Cond.fieldLink RX1 22 "PinBarrel$Comb" "plucks" "[I", Cond.fieldLink RX1 25 "PinBarrel$Comb" "lastPluck" "[I", Cond.fieldLink RX1 19 "PinBarrel$Comb" "scratches" "[I", Cond.fieldLink RX1 15 "PinBarrel$Comb" "broken" "[Z", Cond.methodLink RX4 95 yX2_addSound, Cond.instanceMethod yX2_addSound, Cond.selects RX2 yX2_addSound yX2_addSound, Cond.initialized RX2, Cond.code yX2_addSound cX2_addSound 5 none, Cond.fieldLink RX2 27 "PinBarrel$Sounds" "kept" "I", Cond.fieldLink RX2 9 "PinBarrel$Sounds" "pitches" "[I", Cond.fieldLink RX2 15 "PinBarrel$Sounds" "clocks" "[D", Cond.fieldLink RX2 30 "PinBarrel$Sounds" "ever" "I", Cond.fieldLink RX2 19 "PinBarrel$Sounds" "oldest" "I", Cond.methodLink RX2 23 yX2_roomOf, Cond.instanceMethod yX2_roomOf, Cond.selects RX2 yX2_roomOf yX2_roomOf, Cond.code yX2_roomOf cX2_roomOf 2 (some .int), Cond.methodLink RX4 99 yX0_wearDown, Cond.instanceMethod yX0_wearDown, Cond.selects RX0 yX0_wearDown yX0_wearDown, Cond.code yX0_wearDown cX0_wearDown 5 (some .boolean), Cond.fieldLink RX0 15 "PinBarrel$Barrel" "wears" "[I", Cond.constantLong RX0 63 (-1)]
def wsX4_run_r4 : List Cond := [Cond.methodLink RX0 25 yX0_pinAt, Cond.static yX0_pinAt, Cond.code yX0_pinAt cX0_pinAt 3 (some .int)]
def wsX4_run : List Cond := .code yX4_run cX4_run 3 none :: ((wsX4_run_r1 ++ (wsX4_run_r2 ++ (wsX4_run_r3 ++ wsX4_run_r4))) ++ wsX40 ++ wsX10 ++ wsX00 ++ wsX20)
def wsX4_takeOver_r1 : List Cond := [Cond.fieldLink RX4 12 "PinBarrel$Works" "comb" "LPinBarrel$Comb;", Cond.fieldLink RX4 21 "PinBarrel$Works" "barrel" "LPinBarrel$Barrel;", Cond.fieldLink RX4 67 "PinBarrel$Works" "shift" "I", Cond.fieldLink RX4 37 "PinBarrel$Works" "wound" "I", Cond.fieldLink RX4 32 "PinBarrel$Works" "governor" "I", Cond.fieldLink RX4 54 "PinBarrel$Works" "place" "I", Cond.fieldLink RX4 57 "PinBarrel$Works" "steps" "I", Cond.fieldLink RX4 88 "PinBarrel$Works" "buzzes" "I", Cond.fieldLink RX4 102 "PinBarrel$Works" "wornOut" "I", Cond.fieldLink RX4 44 "PinBarrel$Works" "clock" "D", Cond.methodLink RX4 105 yX1_takeTeeth, Cond.instanceMethod yX1_takeTeeth, Cond.selects RX1 yX1_takeTeeth yX1_takeTeeth, Cond.initialized RX1, Cond.code yX1_takeTeeth cX1_takeTeeth 3 none, Cond.fieldLink RX1 28 "PinBarrel$Comb" "count" "I", Cond.fieldLink RX1 9 "PinBarrel$Comb" "pitch" "[I", Cond.fieldLink RX1 15 "PinBarrel$Comb" "broken" "[Z", Cond.fieldLink RX1 19 "PinBarrel$Comb" "scratches" "[I", Cond.fieldLink RX1 22 "PinBarrel$Comb" "plucks" "[I", Cond.fieldLink RX1 25 "PinBarrel$Comb" "lastPluck" "[I", Cond.methodLink RX4 109 yX0_takePins, Cond.instanceMethod yX0_takePins, Cond.selects RX0 yX0_takePins yX0_takePins]
def wsX4_takeOver_r2 : List Cond := [Cond.initialized RX0, Cond.code yX0_takePins cX0_takePins 4 none, Cond.fieldLink RX0 9 "PinBarrel$Barrel" "places" "[J", Cond.methodLink RX0 65 arraycopyName, Cond.native arraycopyName, Cond.static arraycopyName, Cond.initialized "java/lang/System", Cond.methodLink RX0 21 yX0_lineAt, Cond.static yX0_lineAt, Cond.code yX0_lineAt cX0_lineAt 2 (some .int), Cond.methodLink RX4 113 yX0_takeWears, Cond.instanceMethod yX0_takeWears, Cond.selects RX0 yX0_takeWears yX0_takeWears, Cond.code yX0_takeWears cX0_takeWears 4 none, Cond.fieldLink RX0 15 "PinBarrel$Barrel" "wears" "[I", Cond.methodLink RX0 25 yX0_pinAt, Cond.static yX0_pinAt, Cond.code yX0_pinAt cX0_pinAt 3 (some .int)]
def wsX4_takeOver : List Cond := .code yX4_takeOver cX4_takeOver 2 none :: ((wsX4_takeOver_r1 ++ wsX4_takeOver_r2) ++ wsX40 ++ wsX10 ++ wsX00)
def wsX5_init_r1 : List Cond := [Cond.methodLink RX5 1 objectInit, Cond.instanceMethod objectInit, Cond.code objectInit ⟨#[0xb1]⟩ 1 none, Cond.classLink RX5 7 RX3, Cond.instantiable RX3 3, Cond.initialized RX3, Cond.fieldLink RX5 10 "PinBarrel" "tunes" "LPinBarrel$Tunes;", Cond.classLink RX5 16 RX4, Cond.instantiable RX4 11, Cond.initialized RX4, Cond.fieldLink RX5 19 "PinBarrel" "works" "LPinBarrel$Works;", Cond.fieldLink RX5 23 "PinBarrel$Works" "comb" "LPinBarrel$Comb;", Cond.fieldLink RX5 27 "PinBarrel" "comb" "LPinBarrel$Comb;", Cond.fieldLink RX5 28 "PinBarrel$Works" "barrel" "LPinBarrel$Barrel;", Cond.fieldLink RX5 32 "PinBarrel" "barrel" "LPinBarrel$Barrel;", Cond.fieldLink RX5 33 "PinBarrel$Works" "sounds" "LPinBarrel$Sounds;", Cond.fieldLink RX5 37 "PinBarrel" "sounds" "LPinBarrel$Sounds;", Cond.fieldLink RX5 38 "PinBarrel" "trial" "LPinBarrel$Works;", Cond.methodLink RX5 9 yX3_init, Cond.instanceMethod yX3_init, Cond.code yX3_init cX3_init 1 none, Cond.methodLink RX3 3 objectInit, Cond.arrayClass .int, Cond.fieldLink RX3 9 "PinBarrel$Tunes" "size" "[I"]
def wsX5_init_r2 : List Cond := [Cond.fieldLink RX3 15 "PinBarrel$Tunes" "notes" "[I", Cond.methodLink RX5 18 yX4_init, Cond.instanceMethod yX4_init, Cond.code yX4_init cX4_init 1 none, Cond.methodLink RX4 3 objectInit, Cond.classLink RX4 9 RX1, Cond.instantiable RX1 6, Cond.initialized RX1, Cond.fieldLink RX4 12 "PinBarrel$Works" "comb" "LPinBarrel$Comb;", Cond.classLink RX4 18 RX0, Cond.instantiable RX0 2, Cond.initialized RX0, Cond.fieldLink RX4 21 "PinBarrel$Works" "barrel" "LPinBarrel$Barrel;", Cond.classLink RX4 25 RX2, Cond.instantiable RX2 5, Cond.initialized RX2, Cond.fieldLink RX4 28 "PinBarrel$Works" "sounds" "LPinBarrel$Sounds;", Cond.fieldLink RX4 32 "PinBarrel$Works" "governor" "I", Cond.methodLink RX4 11 yX1_init, Cond.instanceMethod yX1_init, Cond.code yX1_init cX1_init 1 none, Cond.methodLink RX1 3 objectInit, Cond.fieldLink RX1 9 "PinBarrel$Comb" "pitch" "[I", Cond.arrayClass .boolean]
def wsX5_init_r3 : List Cond := [Cond.fieldLink RX1 15 "PinBarrel$Comb" "broken" "[Z", Cond.fieldLink RX1 19 "PinBarrel$Comb" "scratches" "[I", Cond.fieldLink RX1 22 "PinBarrel$Comb" "plucks" "[I", Cond.fieldLink RX1 25 "PinBarrel$Comb" "lastPluck" "[I", Cond.methodLink RX4 20 yX0_init, Cond.instanceMethod yX0_init, Cond.code yX0_init cX0_init 1 none, Cond.methodLink RX0 3 objectInit, Cond.arrayClass .long, Cond.fieldLink RX0 9 "PinBarrel$Barrel" "places" "[J", Cond.fieldLink RX0 15 "PinBarrel$Barrel" "wears" "[I", Cond.methodLink RX4 27 yX2_init, Cond.instanceMethod yX2_init, Cond.code yX2_init cX2_init 1 none, Cond.methodLink RX2 3 objectInit, Cond.fieldLink RX2 9 "PinBarrel$Sounds" "pitches" "[I", Cond.arrayClass .double, Cond.fieldLink RX2 15 "PinBarrel$Sounds" "clocks" "[D"]
def wsX5_init : List Cond := .code yX5_init cX5_init 1 none :: ((wsX5_init_r1 ++ (wsX5_init_r2 ++ wsX5_init_r3)) ++ wsX30 ++ wsX50 ++ wsX40 ++ wsX10 ++ wsX00 ++ wsX20)
def wsX5_needPitch : List Cond := .code yX5_needPitch cX5_needPitch 1 none :: ([.classLink RX5 75 "java/lang/IllegalArgumentException", .initialized "java/lang/IllegalArgumentException"] ++ (vx_atS RX5 79 "java/lang/IllegalArgumentException" ["java/lang/RuntimeException", "java/lang/Exception"]).filter goodWord)
def wsX5_tooth : List Cond := .code yX5_tooth cX5_tooth 2 (some .int) :: ([.classLink RX5 51 "java/lang/IllegalStateException", .initialized "java/lang/IllegalStateException", .fieldLink RX5 27 "PinBarrel" "comb" "LPinBarrel$Comb;", .fieldLink RX5 45 "PinBarrel$Comb" "count" "I", .methodLink RX5 41 yX5_needPitch, .static yX5_needPitch, .initialized RX5, .code yX5_needPitch cX5_needPitch 1 none, .classLink RX5 75 "java/lang/IllegalArgumentException", .initialized "java/lang/IllegalArgumentException", .methodLink RX5 58 yX1_addTooth, .instanceMethod yX1_addTooth, .selects RX1 yX1_addTooth yX1_addTooth, .initialized RX1, .code yX1_addTooth cX1_addTooth 2 (some .int), .fieldLink RX1 9 "PinBarrel$Comb" "pitch" "[I", .fieldLink RX1 28 "PinBarrel$Comb" "count" "I"] ++ wsX50 ++ wsX10 ++ (vx_atS RX5 55 "java/lang/IllegalStateException" ["java/lang/RuntimeException", "java/lang/Exception"]).filter goodWord ++ (vx_atS RX5 79 "java/lang/IllegalArgumentException" ["java/lang/RuntimeException", "java/lang/Exception"]).filter goodWord)
def wsX5_needTooth : List Cond := .code yX5_needTooth cX5_needTooth 2 none :: ([.classLink RX5 321 "java/lang/IndexOutOfBoundsException", .initialized "java/lang/IndexOutOfBoundsException", .fieldLink RX5 27 "PinBarrel" "comb" "LPinBarrel$Comb;", .fieldLink RX5 45 "PinBarrel$Comb" "count" "I"] ++ wsX50 ++ wsX10 ++ (vx_atS RX5 325 "java/lang/IndexOutOfBoundsException" ["java/lang/RuntimeException", "java/lang/Exception"]).filter goodWord)
def wsX5_file : List Cond := .code yX5_file cX5_file 4 (some .int) :: ([.fieldLink RX5 27 "PinBarrel" "comb" "LPinBarrel$Comb;", .fieldLink RX5 65 "PinBarrel$Comb" "pitch" "[I", .methodLink RX5 62 yX5_needTooth, .instanceMethod yX5_needTooth, .selects RX5 yX5_needTooth yX5_needTooth, .initialized RX5, .code yX5_needTooth cX5_needTooth 2 none, .classLink RX5 321 "java/lang/IndexOutOfBoundsException", .initialized "java/lang/IndexOutOfBoundsException", .fieldLink RX5 45 "PinBarrel$Comb" "count" "I", .methodLink RX5 41 yX5_needPitch, .static yX5_needPitch, .code yX5_needPitch cX5_needPitch 1 none, .classLink RX5 75 "java/lang/IllegalArgumentException", .initialized "java/lang/IllegalArgumentException"] ++ wsX50 ++ wsX10 ++ (vx_atS RX5 325 "java/lang/IndexOutOfBoundsException" ["java/lang/RuntimeException", "java/lang/Exception"]).filter goodWord ++ (vx_atS RX5 79 "java/lang/IllegalArgumentException" ["java/lang/RuntimeException", "java/lang/Exception"]).filter goodWord)
def wsX5_tune : List Cond := .code yX5_tune cX5_tune 1 (some .int) :: ([.classLink RX5 51 "java/lang/IllegalStateException", .initialized "java/lang/IllegalStateException", .fieldLink RX5 10 "PinBarrel" "tunes" "LPinBarrel$Tunes;", .fieldLink RX5 69 "PinBarrel$Tunes" "count" "I"] ++ wsX50 ++ wsX30 ++ (vx_atS RX5 55 "java/lang/IllegalStateException" ["java/lang/RuntimeException", "java/lang/Exception"]).filter goodWord)
def wsX5_needTune : List Cond := .code yX5_needTune cX5_needTune 2 none :: ([.classLink RX5 321 "java/lang/IndexOutOfBoundsException", .initialized "java/lang/IndexOutOfBoundsException", .fieldLink RX5 10 "PinBarrel" "tunes" "LPinBarrel$Tunes;", .fieldLink RX5 69 "PinBarrel$Tunes" "count" "I"] ++ wsX50 ++ wsX30 ++ (vx_atS RX5 325 "java/lang/IndexOutOfBoundsException" ["java/lang/RuntimeException", "java/lang/Exception"]).filter goodWord)
def wsX5_note_r1 : List Cond := [Cond.classLink RX5 75 "java/lang/IllegalArgumentException", Cond.initialized "java/lang/IllegalArgumentException", Cond.classLink RX5 51 "java/lang/IllegalStateException", Cond.initialized "java/lang/IllegalStateException", Cond.fieldLink RX5 10 "PinBarrel" "tunes" "LPinBarrel$Tunes;", Cond.fieldLink RX5 84 "PinBarrel$Tunes" "size" "[I", Cond.methodLink RX5 72 yX5_needTune, Cond.instanceMethod yX5_needTune, Cond.selects RX5 yX5_needTune yX5_needTune, Cond.initialized RX5, Cond.code yX5_needTune cX5_needTune 2 none, Cond.classLink RX5 321 "java/lang/IndexOutOfBoundsException", Cond.initialized "java/lang/IndexOutOfBoundsException", Cond.fieldLink RX5 69 "PinBarrel$Tunes" "count" "I", Cond.methodLink RX5 41 yX5_needPitch, Cond.static yX5_needPitch, Cond.code yX5_needPitch cX5_needPitch 1 none, Cond.methodLink RX5 80 yX3_holds, Cond.instanceMethod yX3_holds, Cond.selects RX3 yX3_holds yX3_holds, Cond.initialized RX3, Cond.code yX3_holds cX3_holds 6 (some .boolean), Cond.fieldLink RX3 9 "PinBarrel$Tunes" "size" "[I", Cond.fieldLink RX3 15 "PinBarrel$Tunes" "notes" "[I"]
def wsX5_note_r2 : List Cond := [Cond.methodLink RX3 18 yX3_rankOf, Cond.instanceMethod yX3_rankOf, Cond.selects RX3 yX3_rankOf yX3_rankOf, Cond.code yX3_rankOf cX3_rankOf 4 (some .int), Cond.methodLink RX5 89 yX3_strike, Cond.instanceMethod yX3_strike, Cond.selects RX3 yX3_strike yX3_strike, Cond.code yX3_strike cX3_strike 6 none, Cond.methodLink RX5 93 yX3_write, Cond.instanceMethod yX3_write, Cond.selects RX3 yX3_write yX3_write, Cond.code yX3_write cX3_write 8 none]
def wsX5_note : List Cond := .code yX5_note cX5_note 5 (some .int) :: ((wsX5_note_r1 ++ wsX5_note_r2) ++ wsX50 ++ wsX30 ++ (vx_atS RX5 79 "java/lang/IllegalArgumentException" ["java/lang/RuntimeException", "java/lang/Exception"]).filter goodWord ++ (vx_atS RX5 55 "java/lang/IllegalStateException" ["java/lang/RuntimeException", "java/lang/Exception"]).filter goodWord ++ (vx_atS RX5 325 "java/lang/IndexOutOfBoundsException" ["java/lang/RuntimeException", "java/lang/Exception"]).filter goodWord)
def wsX5_needLine : List Cond := .code yX5_needLine cX5_needLine 1 none :: ([.classLink RX5 321 "java/lang/IndexOutOfBoundsException", .initialized "java/lang/IndexOutOfBoundsException"] ++ (vx_atS RX5 325 "java/lang/IndexOutOfBoundsException" ["java/lang/RuntimeException", "java/lang/Exception"]).filter goodWord)
def wsX5_needKey : List Cond := .code yX5_needKey cX5_needKey 1 none :: ([.classLink RX5 75 "java/lang/IllegalArgumentException", .initialized "java/lang/IllegalArgumentException"] ++ (vx_atS RX5 79 "java/lang/IllegalArgumentException" ["java/lang/RuntimeException", "java/lang/Exception"]).filter goodWord)
def wsX5_pinTune_r1 : List Cond := [Cond.fieldLink RX5 10 "PinBarrel" "tunes" "LPinBarrel$Tunes;", Cond.fieldLink RX5 84 "PinBarrel$Tunes" "size" "[I", Cond.fieldLink RX5 27 "PinBarrel" "comb" "LPinBarrel$Comb;", Cond.methodLink RX5 303 yX3_timeOf, Cond.instanceMethod yX3_timeOf, Cond.selects RX3 yX3_timeOf yX3_timeOf, Cond.initialized RX3, Cond.code yX3_timeOf cX3_timeOf 3 (some .int), Cond.fieldLink RX3 15 "PinBarrel$Tunes" "notes" "[I", Cond.methodLink RX5 306 yX3_pitchOf, Cond.instanceMethod yX3_pitchOf, Cond.selects RX3 yX3_pitchOf yX3_pitchOf, Cond.code yX3_pitchOf cX3_pitchOf 3 (some .int), Cond.methodLink RX5 308 yX0_freeTooth, Cond.instanceMethod yX0_freeTooth, Cond.selects RX0 yX0_freeTooth yX0_freeTooth, Cond.initialized RX0, Cond.code yX0_freeTooth cX0_freeTooth 13 (some .int), Cond.fieldLink RX0 43 "PinBarrel$Comb" "count" "I", Cond.fieldLink RX0 49 "PinBarrel$Comb" "pitch" "[I", Cond.fieldLink RX0 52 "PinBarrel$Comb" "broken" "[Z", Cond.fieldLink RX0 9 "PinBarrel$Barrel" "places" "[J", Cond.methodLink RX0 39 yX0_placesNear, Cond.static yX0_placesNear]
def wsX5_pinTune_r2 : List Cond := [Cond.code yX0_placesNear cX0_placesNear 2 (some .long), Cond.constantLong RX0 19 (127), Cond.methodLink RX0 21 yX0_lineAt, Cond.static yX0_lineAt, Cond.code yX0_lineAt cX0_lineAt 2 (some .int), Cond.methodLink RX0 33 yJ13_bitCount_95d88, Cond.static yJ13_bitCount_95d88, Cond.initialized RJ13, Cond.code yJ13_bitCount_95d88 cJ13_bitCount_95d88 2 (some .int), Cond.constantLong RJ13 314 (6148914691236517205), Cond.constantLong RJ13 316 (3689348814741910323), Cond.constantLong RJ13 318 (1085102592571150095), Cond.methodLink RX5 312 yX0_setPin, Cond.instanceMethod yX0_setPin, Cond.selects RX0 yX0_setPin yX0_setPin, Cond.code yX0_setPin cX0_setPin 4 none, Cond.fieldLink RX0 15 "PinBarrel$Barrel" "wears" "[I", Cond.methodLink RX0 25 yX0_pinAt, Cond.static yX0_pinAt, Cond.code yX0_pinAt cX0_pinAt 3 (some .int)]
def wsX5_pinTune : List Cond := .code yX5_pinTune cX5_pinTune 10 (some .int) :: ((wsX5_pinTune_r1 ++ wsX5_pinTune_r2) ++ wsX50 ++ wsX30 ++ wsX10 ++ wsX00)
def wsX5_pin_r1 : List Cond := [Cond.fieldLink RX5 32 "PinBarrel" "barrel" "LPinBarrel$Barrel;", Cond.methodLink RX5 72 yX5_needTune, Cond.instanceMethod yX5_needTune, Cond.selects RX5 yX5_needTune yX5_needTune, Cond.initialized RX5, Cond.code yX5_needTune cX5_needTune 2 none, Cond.classLink RX5 321 "java/lang/IndexOutOfBoundsException", Cond.initialized "java/lang/IndexOutOfBoundsException", Cond.fieldLink RX5 10 "PinBarrel" "tunes" "LPinBarrel$Tunes;", Cond.fieldLink RX5 69 "PinBarrel$Tunes" "count" "I", Cond.methodLink RX5 96 yX5_needLine, Cond.static yX5_needLine, Cond.code yX5_needLine cX5_needLine 1 none, Cond.methodLink RX5 99 yX5_needKey, Cond.static yX5_needKey, Cond.code yX5_needKey cX5_needKey 1 none, Cond.classLink RX5 75 "java/lang/IllegalArgumentException", Cond.initialized "java/lang/IllegalArgumentException", Cond.methodLink RX5 102 yX5_pinTune, Cond.instanceMethod yX5_pinTune, Cond.selects RX5 yX5_pinTune yX5_pinTune, Cond.code yX5_pinTune cX5_pinTune 10 (some .int), Cond.fieldLink RX5 84 "PinBarrel$Tunes" "size" "[I", Cond.fieldLink RX5 27 "PinBarrel" "comb" "LPinBarrel$Comb;"]
def wsX5_pin_r2 : List Cond := [Cond.methodLink RX5 303 yX3_timeOf, Cond.instanceMethod yX3_timeOf, Cond.selects RX3 yX3_timeOf yX3_timeOf, Cond.initialized RX3, Cond.code yX3_timeOf cX3_timeOf 3 (some .int), Cond.fieldLink RX3 15 "PinBarrel$Tunes" "notes" "[I", Cond.methodLink RX5 306 yX3_pitchOf, Cond.instanceMethod yX3_pitchOf, Cond.selects RX3 yX3_pitchOf yX3_pitchOf, Cond.code yX3_pitchOf cX3_pitchOf 3 (some .int), Cond.methodLink RX5 308 yX0_freeTooth, Cond.instanceMethod yX0_freeTooth, Cond.selects RX0 yX0_freeTooth yX0_freeTooth, Cond.initialized RX0, Cond.code yX0_freeTooth cX0_freeTooth 13 (some .int), Cond.fieldLink RX0 43 "PinBarrel$Comb" "count" "I", Cond.fieldLink RX0 49 "PinBarrel$Comb" "pitch" "[I", Cond.fieldLink RX0 52 "PinBarrel$Comb" "broken" "[Z", Cond.fieldLink RX0 9 "PinBarrel$Barrel" "places" "[J", Cond.methodLink RX0 39 yX0_placesNear, Cond.static yX0_placesNear, Cond.code yX0_placesNear cX0_placesNear 2 (some .long), Cond.constantLong RX0 19 (127), Cond.methodLink RX0 21 yX0_lineAt]
def wsX5_pin_r3 : List Cond := [Cond.static yX0_lineAt, Cond.code yX0_lineAt cX0_lineAt 2 (some .int), Cond.methodLink RX0 33 yJ13_bitCount_95d88, Cond.static yJ13_bitCount_95d88, Cond.initialized RJ13, Cond.code yJ13_bitCount_95d88 cJ13_bitCount_95d88 2 (some .int), Cond.constantLong RJ13 314 (6148914691236517205), Cond.constantLong RJ13 316 (3689348814741910323), Cond.constantLong RJ13 318 (1085102592571150095), Cond.methodLink RX5 312 yX0_setPin, Cond.instanceMethod yX0_setPin, Cond.selects RX0 yX0_setPin yX0_setPin, Cond.code yX0_setPin cX0_setPin 4 none, Cond.fieldLink RX0 15 "PinBarrel$Barrel" "wears" "[I", Cond.methodLink RX0 25 yX0_pinAt, Cond.static yX0_pinAt, Cond.code yX0_pinAt cX0_pinAt 3 (some .int)]
def wsX5_pin : List Cond := .code yX5_pin cX5_pin 4 (some .int) :: ((wsX5_pin_r1 ++ (wsX5_pin_r2 ++ wsX5_pin_r3)) ++ wsX50 ++ wsX30 ++ wsX10 ++ wsX00 ++ (vx_atS RX5 325 "java/lang/IndexOutOfBoundsException" ["java/lang/RuntimeException", "java/lang/Exception"]).filter goodWord ++ (vx_atS RX5 79 "java/lang/IllegalArgumentException" ["java/lang/RuntimeException", "java/lang/Exception"]).filter goodWord)
def wsX5_pull_r1 : List Cond := [Cond.fieldLink RX5 27 "PinBarrel" "comb" "LPinBarrel$Comb;", Cond.fieldLink RX5 45 "PinBarrel$Comb" "count" "I", Cond.fieldLink RX5 32 "PinBarrel" "barrel" "LPinBarrel$Barrel;", Cond.methodLink RX5 96 yX5_needLine, Cond.static yX5_needLine, Cond.initialized RX5, Cond.code yX5_needLine cX5_needLine 1 none, Cond.classLink RX5 321 "java/lang/IndexOutOfBoundsException", Cond.initialized "java/lang/IndexOutOfBoundsException", Cond.methodLink RX5 106 yX0_pullFrom, Cond.instanceMethod yX0_pullFrom, Cond.selects RX0 yX0_pullFrom yX0_pullFrom, Cond.initialized RX0, Cond.code yX0_pullFrom cX0_pullFrom 6 (some .int), Cond.fieldLink RX0 9 "PinBarrel$Barrel" "places" "[J", Cond.constantLong RX0 63 (-1), Cond.methodLink RX0 56 yX0_hasPin, Cond.instanceMethod yX0_hasPin, Cond.selects RX0 yX0_hasPin yX0_hasPin, Cond.code yX0_hasPin cX0_hasPin 4 (some .boolean), Cond.methodLink RX0 21 yX0_lineAt, Cond.static yX0_lineAt, Cond.code yX0_lineAt cX0_lineAt 2 (some .int), Cond.methodLink RX0 60 yX0_wearOf]
def wsX5_pull_r2 : List Cond := [Cond.instanceMethod yX0_wearOf, Cond.selects RX0 yX0_wearOf yX0_wearOf, Cond.code yX0_wearOf cX0_wearOf 4 (some .int), Cond.fieldLink RX0 15 "PinBarrel$Barrel" "wears" "[I", Cond.methodLink RX0 25 yX0_pinAt, Cond.static yX0_pinAt, Cond.code yX0_pinAt cX0_pinAt 3 (some .int)]
def wsX5_pull : List Cond := .code yX5_pull cX5_pull 5 (some .int) :: ((wsX5_pull_r1 ++ wsX5_pull_r2) ++ wsX50 ++ wsX10 ++ wsX00 ++ (vx_atS RX5 325 "java/lang/IndexOutOfBoundsException" ["java/lang/RuntimeException", "java/lang/Exception"]).filter goodWord)
def wsX5_shift : List Cond := .code yX5_shift cX5_shift 3 (some .int) :: ([.fieldLink RX5 19 "PinBarrel" "works" "LPinBarrel$Works;", .fieldLink RX5 112 "PinBarrel$Works" "shift" "I", .methodLink RX5 96 yX5_needLine, .static yX5_needLine, .initialized RX5, .code yX5_needLine cX5_needLine 1 none, .classLink RX5 321 "java/lang/IndexOutOfBoundsException", .initialized "java/lang/IndexOutOfBoundsException"] ++ wsX50 ++ wsX40 ++ (vx_atS RX5 325 "java/lang/IndexOutOfBoundsException" ["java/lang/RuntimeException", "java/lang/Exception"]).filter goodWord)
def wsX5_wind : List Cond := .code yX5_wind cX5_wind 2 (some .int) :: ([.classLink RX5 75 "java/lang/IllegalArgumentException", .initialized "java/lang/IllegalArgumentException", .fieldLink RX5 19 "PinBarrel" "works" "LPinBarrel$Works;", .fieldLink RX5 117 "PinBarrel$Works" "wound" "I", .fieldLink RX5 120 "PinBarrel" "knocks" "I", .methodLink RX5 123 Lib.Math.min.name, .static Lib.Math.min.name, .initialized "java/lang/Math", .code Lib.Math.min.name Lib.Math.min.code 2 (some .int)] ++ wsX50 ++ wsX40 ++ (vx_atS RX5 79 "java/lang/IllegalArgumentException" ["java/lang/RuntimeException", "java/lang/Exception"]).filter goodWord)
def wsX5_speed : List Cond := .code yX5_speed cX5_speed 1 (some .double) :: ([.fieldLink RX5 19 "PinBarrel" "works" "LPinBarrel$Works;", .methodLink RX5 234 yX4_speedNow, .instanceMethod yX4_speedNow, .selects RX4 yX4_speedNow yX4_speedNow, .initialized RX4, .code yX4_speedNow cX4_speedNow 2 (some .float), .constantFloat RX4 36 (1040187392), .fieldLink RX4 32 "PinBarrel$Works" "governor" "I", .fieldLink RX4 37 "PinBarrel$Works" "wound" "I", .constantFloat RX4 40 (981467136)] ++ wsX50 ++ wsX40)
def wsX5_govern : List Cond := .code yX5_govern cX5_govern 2 (some .double) :: ([.classLink RX5 75 "java/lang/IllegalArgumentException", .initialized "java/lang/IllegalArgumentException", .fieldLink RX5 19 "PinBarrel" "works" "LPinBarrel$Works;", .fieldLink RX5 131 "PinBarrel$Works" "governor" "I", .methodLink RX5 134 yX5_speed, .instanceMethod yX5_speed, .selects RX5 yX5_speed yX5_speed, .initialized RX5, .code yX5_speed cX5_speed 1 (some .double), .methodLink RX5 234 yX4_speedNow, .instanceMethod yX4_speedNow, .selects RX4 yX4_speedNow yX4_speedNow, .initialized RX4, .code yX4_speedNow cX4_speedNow 2 (some .float), .constantFloat RX4 36 (1040187392), .fieldLink RX4 32 "PinBarrel$Works" "governor" "I", .fieldLink RX4 37 "PinBarrel$Works" "wound" "I", .constantFloat RX4 40 (981467136)] ++ wsX50 ++ wsX40 ++ (vx_atS RX5 79 "java/lang/IllegalArgumentException" ["java/lang/RuntimeException", "java/lang/Exception"]).filter goodWord)
def wsX5_needSteps : List Cond := .code yX5_needSteps cX5_needSteps 1 none :: ([.classLink RX5 75 "java/lang/IllegalArgumentException", .initialized "java/lang/IllegalArgumentException"] ++ (vx_atS RX5 79 "java/lang/IllegalArgumentException" ["java/lang/RuntimeException", "java/lang/Exception"]).filter goodWord)
def wsX5_play_r1 : List Cond := [Cond.fieldLink RX5 37 "PinBarrel" "sounds" "LPinBarrel$Sounds;", Cond.fieldLink RX5 141 "PinBarrel$Sounds" "ever" "I", Cond.fieldLink RX5 19 "PinBarrel" "works" "LPinBarrel$Works;", Cond.methodLink RX5 138 yX5_needSteps, Cond.static yX5_needSteps, Cond.initialized RX5, Cond.code yX5_needSteps cX5_needSteps 1 none, Cond.classLink RX5 75 "java/lang/IllegalArgumentException", Cond.initialized "java/lang/IllegalArgumentException", Cond.methodLink RX5 146 yX4_run, Cond.instanceMethod yX4_run, Cond.selects RX4 yX4_run yX4_run, Cond.initialized RX4, Cond.code yX4_run cX4_run 3 none, Cond.fieldLink RX4 37 "PinBarrel$Works" "wound" "I", Cond.methodLink RX4 41 yX4_step, Cond.instanceMethod yX4_step, Cond.selects RX4 yX4_step yX4_step, Cond.code yX4_step cX4_step 3 none, Cond.fieldLink RX4 44 "PinBarrel$Works" "clock" "D", Cond.constantDouble RX4 48 (4593671619917905920), Cond.fieldLink RX4 54 "PinBarrel$Works" "place" "I", Cond.fieldLink RX4 57 "PinBarrel$Works" "steps" "I", Cond.fieldLink RX4 12 "PinBarrel$Works" "comb" "LPinBarrel$Comb;"]
def wsX5_play_r2 : List Cond := [Cond.fieldLink RX4 60 "PinBarrel$Comb" "count" "I", Cond.fieldLink RX4 63 "PinBarrel$Comb" "broken" "[Z", Cond.fieldLink RX4 21 "PinBarrel$Works" "barrel" "LPinBarrel$Barrel;", Cond.fieldLink RX4 67 "PinBarrel$Works" "shift" "I", Cond.methodLink RX4 78 Lib.Math.max.name, Cond.static Lib.Math.max.name, Cond.initialized "java/lang/Math", Cond.code Lib.Math.max.name Lib.Math.max.code 2 (some .int), Cond.methodLink RX4 50 yX4_speedNow, Cond.instanceMethod yX4_speedNow, Cond.selects RX4 yX4_speedNow yX4_speedNow, Cond.code yX4_speedNow cX4_speedNow 2 (some .float), Cond.constantFloat RX4 36 (1040187392), Cond.fieldLink RX4 32 "PinBarrel$Works" "governor" "I", Cond.constantFloat RX4 40 (981467136), Cond.methodLink RX4 70 yX0_hasPin, Cond.instanceMethod yX0_hasPin, Cond.selects RX0 yX0_hasPin yX0_hasPin, Cond.initialized RX0, Cond.code yX0_hasPin cX0_hasPin 4 (some .boolean), Cond.fieldLink RX0 9 "PinBarrel$Barrel" "places" "[J", Cond.methodLink RX0 21 yX0_lineAt, Cond.static yX0_lineAt, Cond.code yX0_lineAt cX0_lineAt 2 (some .int)]
def wsX5_play_r3 : List Cond := [Cond.methodLink RX4 74 yX4_pluck, Cond.instanceMethod yX4_pluck, Cond.selects RX4 yX4_pluck yX4_pluck, Cond.code yX4_pluck cX4_pluck 2 none, Cond.fieldLink RX4 88 "PinBarrel$Works" "buzzes" "I", Cond.fieldLink RX4 28 "PinBarrel$Works" "sounds" "LPinBarrel$Sounds;", Cond.fieldLink RX4 91 "PinBarrel$Comb" "pitch" "[I", Cond.fieldLink RX4 102 "PinBarrel$Works" "wornOut" "I", Cond.methodLink RX4 84 yX1_pluckTooth, Cond.instanceMethod yX1_pluckTooth, Cond.selects RX1 yX1_pluckTooth yX1_pluckTooth, Cond.initialized RX1, Cond.code yX1_pluckTooth cX1_pluckTooth 4 (some .boolean), Cond.fieldLink RX1 22 "PinBarrel$Comb" "plucks" "[I", Cond.fieldLink RX1 25 "PinBarrel$Comb" "lastPluck" "[I", Cond.fieldLink RX1 19 "PinBarrel$Comb" "scratches" "[I", Cond.fieldLink RX1 15 "PinBarrel$Comb" "broken" "[Z", Cond.methodLink RX4 95 yX2_addSound, Cond.instanceMethod yX2_addSound, Cond.selects RX2 yX2_addSound yX2_addSound, Cond.initialized RX2, Cond.code yX2_addSound cX2_addSound 5 none, Cond.fieldLink RX2 27 "PinBarrel$Sounds" "kept" "I", Cond.fieldLink RX2 9 "PinBarrel$Sounds" "pitches" "[I"]
def wsX5_play_r4 : List Cond := [Cond.fieldLink RX2 15 "PinBarrel$Sounds" "clocks" "[D", Cond.fieldLink RX2 30 "PinBarrel$Sounds" "ever" "I", Cond.fieldLink RX2 19 "PinBarrel$Sounds" "oldest" "I", Cond.methodLink RX2 23 yX2_roomOf, Cond.instanceMethod yX2_roomOf, Cond.selects RX2 yX2_roomOf yX2_roomOf, Cond.code yX2_roomOf cX2_roomOf 2 (some .int), Cond.methodLink RX4 99 yX0_wearDown, Cond.instanceMethod yX0_wearDown, Cond.selects RX0 yX0_wearDown yX0_wearDown, Cond.code yX0_wearDown cX0_wearDown 5 (some .boolean), Cond.fieldLink RX0 15 "PinBarrel$Barrel" "wears" "[I", Cond.constantLong RX0 63 (-1), Cond.methodLink RX0 25 yX0_pinAt, Cond.static yX0_pinAt, Cond.code yX0_pinAt cX0_pinAt 3 (some .int)]
def wsX5_play : List Cond := .code yX5_play cX5_play 3 (some .int) :: ((wsX5_play_r1 ++ (wsX5_play_r2 ++ (wsX5_play_r3 ++ wsX5_play_r4))) ++ wsX50 ++ wsX20 ++ wsX40 ++ wsX10 ++ wsX00 ++ (vx_atS RX5 79 "java/lang/IllegalArgumentException" ["java/lang/RuntimeException", "java/lang/Exception"]).filter goodWord)
def wsX5_mend_r1 : List Cond := [Cond.fieldLink RX5 27 "PinBarrel" "comb" "LPinBarrel$Comb;", Cond.fieldLink RX5 45 "PinBarrel$Comb" "count" "I", Cond.fieldLink RX5 32 "PinBarrel" "barrel" "LPinBarrel$Barrel;", Cond.methodLink RX5 149 yX1_mendTooth, Cond.instanceMethod yX1_mendTooth, Cond.selects RX1 yX1_mendTooth yX1_mendTooth, Cond.initialized RX1, Cond.code yX1_mendTooth cX1_mendTooth 3 (some .int), Cond.fieldLink RX1 15 "PinBarrel$Comb" "broken" "[Z", Cond.fieldLink RX1 19 "PinBarrel$Comb" "scratches" "[I", Cond.methodLink RX5 152 yX0_renewPins, Cond.instanceMethod yX0_renewPins, Cond.selects RX0 yX0_renewPins yX0_renewPins, Cond.initialized RX0, Cond.code yX0_renewPins cX0_renewPins 5 (some .int), Cond.fieldLink RX0 15 "PinBarrel$Barrel" "wears" "[I", Cond.methodLink RX0 56 yX0_hasPin, Cond.instanceMethod yX0_hasPin, Cond.selects RX0 yX0_hasPin yX0_hasPin, Cond.code yX0_hasPin cX0_hasPin 4 (some .boolean), Cond.fieldLink RX0 9 "PinBarrel$Barrel" "places" "[J", Cond.methodLink RX0 21 yX0_lineAt, Cond.static yX0_lineAt, Cond.code yX0_lineAt cX0_lineAt 2 (some .int)]
def wsX5_mend_r2 : List Cond := [Cond.methodLink RX0 60 yX0_wearOf, Cond.instanceMethod yX0_wearOf, Cond.selects RX0 yX0_wearOf yX0_wearOf, Cond.code yX0_wearOf cX0_wearOf 4 (some .int), Cond.methodLink RX0 25 yX0_pinAt, Cond.static yX0_pinAt, Cond.code yX0_pinAt cX0_pinAt 3 (some .int)]
def wsX5_mend : List Cond := .code yX5_mend cX5_mend 4 (some .int) :: ((wsX5_mend_r1 ++ wsX5_mend_r2) ++ wsX50 ++ wsX10 ++ wsX00)
def wsX5_needQuestion : List Cond := .code yX5_needQuestion cX5_needQuestion 2 none :: ([.classLink RX5 75 "java/lang/IllegalArgumentException", .initialized "java/lang/IllegalArgumentException"] ++ (vx_atS RX5 79 "java/lang/IllegalArgumentException" ["java/lang/RuntimeException", "java/lang/Exception"]).filter goodWord)
def wsX5_ofTooth_r1 : List Cond := [Cond.fieldLink RX5 27 "PinBarrel" "comb" "LPinBarrel$Comb;", Cond.fieldLink RX5 65 "PinBarrel$Comb" "pitch" "[I", Cond.fieldLink RX5 159 "PinBarrel$Comb" "broken" "[Z", Cond.fieldLink RX5 163 "PinBarrel$Comb" "scratches" "[I", Cond.fieldLink RX5 166 "PinBarrel$Comb" "plucks" "[I", Cond.fieldLink RX5 32 "PinBarrel" "barrel" "LPinBarrel$Barrel;", Cond.methodLink RX5 62 yX5_needTooth, Cond.instanceMethod yX5_needTooth, Cond.selects RX5 yX5_needTooth yX5_needTooth, Cond.initialized RX5, Cond.code yX5_needTooth cX5_needTooth 2 none, Cond.classLink RX5 321 "java/lang/IndexOutOfBoundsException", Cond.initialized "java/lang/IndexOutOfBoundsException", Cond.fieldLink RX5 45 "PinBarrel$Comb" "count" "I", Cond.methodLink RX5 155 yX5_needQuestion, Cond.static yX5_needQuestion, Cond.code yX5_needQuestion cX5_needQuestion 2 none, Cond.classLink RX5 75 "java/lang/IllegalArgumentException", Cond.initialized "java/lang/IllegalArgumentException", Cond.methodLink RX5 169 yX0_pinsOfTooth, Cond.instanceMethod yX0_pinsOfTooth, Cond.selects RX0 yX0_pinsOfTooth yX0_pinsOfTooth, Cond.initialized RX0, Cond.code yX0_pinsOfTooth cX0_pinsOfTooth 4 (some .int)]
def wsX5_ofTooth_r2 : List Cond := [Cond.methodLink RX0 29 yX0_placesOf, Cond.instanceMethod yX0_placesOf, Cond.selects RX0 yX0_placesOf yX0_placesOf, Cond.code yX0_placesOf cX0_placesOf 3 (some .long), Cond.fieldLink RX0 9 "PinBarrel$Barrel" "places" "[J", Cond.methodLink RX0 21 yX0_lineAt, Cond.static yX0_lineAt, Cond.code yX0_lineAt cX0_lineAt 2 (some .int), Cond.methodLink RX0 33 yJ13_bitCount_95d88, Cond.static yJ13_bitCount_95d88, Cond.initialized RJ13, Cond.code yJ13_bitCount_95d88 cJ13_bitCount_95d88 2 (some .int), Cond.constantLong RJ13 314 (6148914691236517205), Cond.constantLong RJ13 316 (3689348814741910323), Cond.constantLong RJ13 318 (1085102592571150095)]
def wsX5_ofTooth : List Cond := .code yX5_ofTooth cX5_ofTooth 3 (some .int) :: ((wsX5_ofTooth_r1 ++ wsX5_ofTooth_r2) ++ wsX50 ++ wsX10 ++ wsX00 ++ (vx_atS RX5 325 "java/lang/IndexOutOfBoundsException" ["java/lang/RuntimeException", "java/lang/Exception"]).filter goodWord ++ (vx_atS RX5 79 "java/lang/IllegalArgumentException" ["java/lang/RuntimeException", "java/lang/Exception"]).filter goodWord)
def wsX5_pins : List Cond := .code yX5_pins cX5_pins 3 (some .long) :: ([.fieldLink RX5 32 "PinBarrel" "barrel" "LPinBarrel$Barrel;", .methodLink RX5 62 yX5_needTooth, .instanceMethod yX5_needTooth, .selects RX5 yX5_needTooth yX5_needTooth, .initialized RX5, .code yX5_needTooth cX5_needTooth 2 none, .classLink RX5 321 "java/lang/IndexOutOfBoundsException", .initialized "java/lang/IndexOutOfBoundsException", .fieldLink RX5 27 "PinBarrel" "comb" "LPinBarrel$Comb;", .fieldLink RX5 45 "PinBarrel$Comb" "count" "I", .methodLink RX5 96 yX5_needLine, .static yX5_needLine, .code yX5_needLine cX5_needLine 1 none, .methodLink RX5 172 yX0_placesOf, .instanceMethod yX0_placesOf, .selects RX0 yX0_placesOf yX0_placesOf, .initialized RX0, .code yX0_placesOf cX0_placesOf 3 (some .long), .fieldLink RX0 9 "PinBarrel$Barrel" "places" "[J", .methodLink RX0 21 yX0_lineAt, .static yX0_lineAt, .code yX0_lineAt cX0_lineAt 2 (some .int)] ++ wsX50 ++ wsX10 ++ wsX00 ++ (vx_atS RX5 325 "java/lang/IndexOutOfBoundsException" ["java/lang/RuntimeException", "java/lang/Exception"]).filter goodWord)
def wsX5_needPlace : List Cond := .code yX5_needPlace cX5_needPlace 1 none :: ([.classLink RX5 321 "java/lang/IndexOutOfBoundsException", .initialized "java/lang/IndexOutOfBoundsException"] ++ (vx_atS RX5 325 "java/lang/IndexOutOfBoundsException" ["java/lang/RuntimeException", "java/lang/Exception"]).filter goodWord)
def wsX5_wear_r1 : List Cond := [Cond.fieldLink RX5 32 "PinBarrel" "barrel" "LPinBarrel$Barrel;", Cond.methodLink RX5 62 yX5_needTooth, Cond.instanceMethod yX5_needTooth, Cond.selects RX5 yX5_needTooth yX5_needTooth, Cond.initialized RX5, Cond.code yX5_needTooth cX5_needTooth 2 none, Cond.classLink RX5 321 "java/lang/IndexOutOfBoundsException", Cond.initialized "java/lang/IndexOutOfBoundsException", Cond.fieldLink RX5 27 "PinBarrel" "comb" "LPinBarrel$Comb;", Cond.fieldLink RX5 45 "PinBarrel$Comb" "count" "I", Cond.methodLink RX5 96 yX5_needLine, Cond.static yX5_needLine, Cond.code yX5_needLine cX5_needLine 1 none, Cond.methodLink RX5 176 yX5_needPlace, Cond.static yX5_needPlace, Cond.code yX5_needPlace cX5_needPlace 1 none, Cond.methodLink RX5 179 yX0_hasPin, Cond.instanceMethod yX0_hasPin, Cond.selects RX0 yX0_hasPin yX0_hasPin, Cond.initialized RX0, Cond.code yX0_hasPin cX0_hasPin 4 (some .boolean), Cond.fieldLink RX0 9 "PinBarrel$Barrel" "places" "[J", Cond.methodLink RX0 21 yX0_lineAt, Cond.static yX0_lineAt]
def wsX5_wear_r2 : List Cond := [Cond.code yX0_lineAt cX0_lineAt 2 (some .int), Cond.methodLink RX5 182 yX0_wearOf, Cond.instanceMethod yX0_wearOf, Cond.selects RX0 yX0_wearOf yX0_wearOf, Cond.code yX0_wearOf cX0_wearOf 4 (some .int), Cond.fieldLink RX0 15 "PinBarrel$Barrel" "wears" "[I", Cond.methodLink RX0 25 yX0_pinAt, Cond.static yX0_pinAt, Cond.code yX0_pinAt cX0_pinAt 3 (some .int)]
def wsX5_wear : List Cond := .code yX5_wear cX5_wear 4 (some .int) :: ((wsX5_wear_r1 ++ wsX5_wear_r2) ++ wsX50 ++ wsX10 ++ wsX00 ++ (vx_atS RX5 325 "java/lang/IndexOutOfBoundsException" ["java/lang/RuntimeException", "java/lang/Exception"]).filter goodWord)
def wsJ2_newBytesLength_0f7a4 : List Cond := .code yJ2_newBytesLength_0f7a4 cJ2_newBytesLength_0f7a4 1 (some .int) :: ([.constant RJ2 20 (1073741823)])
def wsJ2_newBytesFor_77867 : List Cond := .code yJ2_newBytesFor_77867 cJ2_newBytesFor_77867 1 (some (.array .byte)) :: ([.arrayClass .byte, .methodLink RJ2 11 yJ2_newBytesLength_0f7a4, .static yJ2_newBytesLength_0f7a4, .initialized RJ2, .code yJ2_newBytesLength_0f7a4 cJ2_newBytesLength_0f7a4 1 (some .int), .constant RJ2 20 (1073741823)])
def wsJ5_init_d00df : List Cond := .code yJ5_init_d00df cJ5_init_d00df 2 none :: ([.methodLink RJ5 3 objectInit, .instanceMethod objectInit, .code objectInit ⟨#[0xb1]⟩ 1 none, .fieldLink RJ5 18 "java/lang/String" "COMPACT_STRINGS" "Z", .arrayClass .byte, .fieldLink RJ5 15 "java/lang/AbstractStringBuilder" "value" "[B", .fieldLink RJ5 22 "java/lang/AbstractStringBuilder" "coder" "B", .methodLink RJ5 26 yJ2_newBytesFor_77867, .static yJ2_newBytesFor_77867, .initialized RJ2, .code yJ2_newBytesFor_77867 cJ2_newBytesFor_77867 1 (some (.array .byte)), .methodLink RJ2 11 yJ2_newBytesLength_0f7a4, .static yJ2_newBytesLength_0f7a4, .code yJ2_newBytesLength_0f7a4 cJ2_newBytesLength_0f7a4 1 (some .int), .constant RJ2 20 (1073741823)] ++ wsJ40)
def wsJ4_init_da8c8 : List Cond := .code yJ4_init_da8c8 cJ4_init_da8c8 1 none :: ([.methodLink RJ4 1 yJ5_init_d00df, .instanceMethod yJ5_init_d00df, .initialized RJ5, .code yJ5_init_d00df cJ5_init_d00df 2 none, .methodLink RJ5 3 objectInit, .instanceMethod objectInit, .code objectInit ⟨#[0xb1]⟩ 1 none, .fieldLink RJ5 18 "java/lang/String" "COMPACT_STRINGS" "Z", .arrayClass .byte, .fieldLink RJ5 15 "java/lang/AbstractStringBuilder" "value" "[B", .fieldLink RJ5 22 "java/lang/AbstractStringBuilder" "coder" "B", .methodLink RJ5 26 yJ2_newBytesFor_77867, .static yJ2_newBytesFor_77867, .initialized RJ2, .code yJ2_newBytesFor_77867 cJ2_newBytesFor_77867 1 (some (.array .byte)), .methodLink RJ2 11 yJ2_newBytesLength_0f7a4, .static yJ2_newBytesLength_0f7a4, .code yJ2_newBytesLength_0f7a4 cJ2_newBytesLength_0f7a4 1 (some .int), .constant RJ2 20 (1073741823)] ++ wsJ40)
def wsX5_signOf : List Cond := .code yX5_signOf cX5_signOf 3 (some .char) :: ([.fieldLink RX5 27 "PinBarrel" "comb" "LPinBarrel$Comb;", .fieldLink RX5 159 "PinBarrel$Comb" "broken" "[Z", .fieldLink RX5 32 "PinBarrel" "barrel" "LPinBarrel$Barrel;", .fieldLink RX5 19 "PinBarrel" "works" "LPinBarrel$Works;", .fieldLink RX5 112 "PinBarrel$Works" "shift" "I", .methodLink RX5 179 yX0_hasPin, .instanceMethod yX0_hasPin, .selects RX0 yX0_hasPin yX0_hasPin, .initialized RX0, .code yX0_hasPin cX0_hasPin 4 (some .boolean), .fieldLink RX0 9 "PinBarrel$Barrel" "places" "[J", .methodLink RX0 21 yX0_lineAt, .static yX0_lineAt, .code yX0_lineAt cX0_lineAt 2 (some .int)] ++ wsX50 ++ wsX10 ++ wsX40 ++ wsX00)
def wsJ8_hugeLength_7cf53 : List Cond := .code yJ8_hugeLength_7cf53 cJ8_hugeLength_7cf53 3 (some .int) :: ([.constant RJ8 200 (2147483639)])
def wsJ8_newLength_cabcc : List Cond := .code yJ8_newLength_cabcc cJ8_newLength_cabcc 4 (some .int) :: ([.methodLink RJ8 194 Lib.Math.max.name, .static Lib.Math.max.name, .initialized "java/lang/Math", .code Lib.Math.max.name Lib.Math.max.code 2 (some .int), .constant RJ8 200 (2147483639), .methodLink RJ8 201 yJ8_hugeLength_7cf53, .static yJ8_hugeLength_7cf53, .initialized RJ8, .code yJ8_hugeLength_7cf53 cJ8_hugeLength_7cf53 3 (some .int)])
def wsJ5_newCapacity_0f7a4 : List Cond := .code yJ5_newCapacity_0f7a4 cJ5_newCapacity_0f7a4 6 (some .int) :: ([.fieldLink RJ5 15 "java/lang/AbstractStringBuilder" "value" "[B", .fieldLink RJ5 22 "java/lang/AbstractStringBuilder" "coder" "B", .constant RJ5 39 (2147483647), .methodLink RJ5 114 yJ8_newLength_cabcc, .static yJ8_newLength_cabcc, .initialized RJ8, .code yJ8_newLength_cabcc cJ8_newLength_cabcc 4 (some .int), .methodLink RJ8 194 Lib.Math.max.name, .static Lib.Math.max.name, .initialized "java/lang/Math", .code Lib.Math.max.name Lib.Math.max.code 2 (some .int), .constant RJ8 200 (2147483639), .methodLink RJ8 201 yJ8_hugeLength_7cf53, .static yJ8_hugeLength_7cf53, .code yJ8_hugeLength_7cf53 cJ8_hugeLength_7cf53 3 (some .int)] ++ wsJ40)
def wsJ7_copyOf_9075b : List Cond := .code yJ7_copyOf_9075b cJ7_copyOf_9075b 3 (some (.array .byte)) :: ([.methodLink RJ7 310 ⟨"[B", "clone", "()Ljava/lang/Object;"⟩, .sameMethod "[B" "java/lang/Object" "clone" "()Ljava/lang/Object;", .native ⟨"java/lang/Object", "clone", "()Ljava/lang/Object;"⟩, .instanceMethod ⟨"java/lang/Object", "clone", "()Ljava/lang/Object;"⟩, .selects "[B" ⟨"[B", "clone", "()Ljava/lang/Object;"⟩ ⟨"java/lang/Object", "clone", "()Ljava/lang/Object;"⟩, .classLink RJ7 311 "[B", .arrayClass .byte, .methodLink RJ7 304 Lib.Math.min.name, .static Lib.Math.min.name, .initialized "java/lang/Math", .code Lib.Math.min.name Lib.Math.min.code 2 (some .int), .methodLink RJ7 150 arraycopyName, .native arraycopyName, .static arraycopyName, .initialized "java/lang/System"])
def wsJ5_ensureCapacityInternal_d00df_r1 : List Cond := [Cond.fieldLink RJ5 15 "java/lang/AbstractStringBuilder" "value" "[B", Cond.fieldLink RJ5 22 "java/lang/AbstractStringBuilder" "coder" "B", Cond.methodLink RJ5 104 ⟨"java/lang/AbstractStringBuilder", "newCapacity", "(I)I"⟩, Cond.sameMethod "java/lang/AbstractStringBuilder" "java/lang/AbstractStringBuilder" "newCapacity" "(I)I", Cond.selects RJ4 ⟨"java/lang/AbstractStringBuilder", "newCapacity", "(I)I"⟩ yJ5_newCapacity_0f7a4, Cond.instanceMethod yJ5_newCapacity_0f7a4, Cond.initialized RJ5, Cond.code yJ5_newCapacity_0f7a4 cJ5_newCapacity_0f7a4 6 (some .int), Cond.constant RJ5 39 (2147483647), Cond.methodLink RJ5 114 yJ8_newLength_cabcc, Cond.static yJ8_newLength_cabcc, Cond.initialized RJ8, Cond.code yJ8_newLength_cabcc cJ8_newLength_cabcc 4 (some .int), Cond.methodLink RJ8 194 Lib.Math.max.name, Cond.static Lib.Math.max.name, Cond.initialized "java/lang/Math", Cond.code Lib.Math.max.name Lib.Math.max.code 2 (some .int), Cond.constant RJ8 200 (2147483639), Cond.methodLink RJ8 201 yJ8_hugeLength_7cf53, Cond.static yJ8_hugeLength_7cf53, Cond.code yJ8_hugeLength_7cf53 cJ8_hugeLength_7cf53 3 (some .int), Cond.methodLink RJ5 108 yJ7_copyOf_9075b, Cond.static yJ7_copyOf_9075b, Cond.initialized RJ7]
def wsJ5_ensureCapacityInternal_d00df_r2 : List Cond := [Cond.code yJ7_copyOf_9075b cJ7_copyOf_9075b 3 (some (.array .byte)), Cond.methodLink RJ7 310 ⟨"[B", "clone", "()Ljava/lang/Object;"⟩, Cond.sameMethod "[B" "java/lang/Object" "clone" "()Ljava/lang/Object;", Cond.native ⟨"java/lang/Object", "clone", "()Ljava/lang/Object;"⟩, Cond.instanceMethod ⟨"java/lang/Object", "clone", "()Ljava/lang/Object;"⟩, Cond.selects "[B" ⟨"[B", "clone", "()Ljava/lang/Object;"⟩ ⟨"java/lang/Object", "clone", "()Ljava/lang/Object;"⟩, Cond.classLink RJ7 311 "[B", Cond.arrayClass .byte, Cond.methodLink RJ7 304 Lib.Math.min.name, Cond.static Lib.Math.min.name, Cond.code Lib.Math.min.name Lib.Math.min.code 2 (some .int), Cond.methodLink RJ7 150 arraycopyName, Cond.native arraycopyName, Cond.static arraycopyName, Cond.initialized "java/lang/System"]
def wsJ5_ensureCapacityInternal_d00df : List Cond := .code yJ5_ensureCapacityInternal_d00df cJ5_ensureCapacityInternal_d00df 3 none :: ((wsJ5_ensureCapacityInternal_d00df_r1 ++ wsJ5_ensureCapacityInternal_d00df_r2) ++ wsJ40)
def wsJ5_isLatin1_aae02 : List Cond := .code yJ5_isLatin1_aae02 cJ5_isLatin1_aae02 1 (some .boolean) :: ([.fieldLink RJ5 18 "java/lang/String" "COMPACT_STRINGS" "Z", .fieldLink RJ5 22 "java/lang/AbstractStringBuilder" "coder" "B"] ++ wsJ40)
def wsJ1_canEncode_fc78d : List Cond := .code yJ1_canEncode_fc78d cJ1_canEncode_fc78d 1 (some .boolean) :: ([])
def wsJ2_length_9d52b : List Cond := .code yJ2_length_9d52b cJ2_length_9d52b 1 (some .int) :: ([])
def wsJ3_checkFromIndexSize_8c36e : List Cond := .code yJ3_checkFromIndexSize_8c36e cJ3_checkFromIndexSize_8c36e 4 (some .int) :: ([])
def wsJ0_checkBoundsOffCount_cabcc : List Cond := .code yJ0_checkBoundsOffCount_cabcc cJ0_checkBoundsOffCount_cabcc 3 (some .int) :: ([.fieldLink RJ0 1053 "jdk/internal/util/Preconditions" "SIOOBE_FORMATTER" "Ljava/util/function/BiFunction;", .methodLink RJ0 1065 yJ3_checkFromIndexSize_8c36e, .static yJ3_checkFromIndexSize_8c36e, .initialized RJ3, .code yJ3_checkFromIndexSize_8c36e cJ3_checkFromIndexSize_8c36e 4 (some .int)])
def wsJ2_checkBoundsOffCount_d044e : List Cond := .code yJ2_checkBoundsOffCount_d044e cJ2_checkBoundsOffCount_d044e 3 none :: ([.methodLink RJ2 48 yJ2_length_9d52b, .static yJ2_length_9d52b, .initialized RJ2, .code yJ2_length_9d52b cJ2_length_9d52b 1 (some .int), .methodLink RJ2 419 yJ0_checkBoundsOffCount_cabcc, .static yJ0_checkBoundsOffCount_cabcc, .initialized RJ0, .code yJ0_checkBoundsOffCount_cabcc cJ0_checkBoundsOffCount_cabcc 3 (some .int), .fieldLink RJ0 1053 "jdk/internal/util/Preconditions" "SIOOBE_FORMATTER" "Ljava/util/function/BiFunction;", .methodLink RJ0 1065 yJ3_checkFromIndexSize_8c36e, .static yJ3_checkFromIndexSize_8c36e, .initialized RJ3, .code yJ3_checkFromIndexSize_8c36e cJ3_checkFromIndexSize_8c36e 4 (some .int)])
def wsJ2_putChar_b72d1 : List Cond := .code yJ2_putChar_b72d1 cJ2_putChar_b72d1 3 none :: ([.fieldLink RJ2 44 "java/lang/StringUTF16" "$assertionsDisabled" "Z", .fieldLink RJ2 59 "java/lang/StringUTF16" "HI_BYTE_SHIFT" "I", .fieldLink RJ2 63 "java/lang/StringUTF16" "LO_BYTE_SHIFT" "I", .methodLink RJ2 48 yJ2_length_9d52b, .static yJ2_length_9d52b, .initialized RJ2, .code yJ2_length_9d52b cJ2_length_9d52b 1 (some .int)])
def wsJ2_inflate_0e8fd : List Cond := .code yJ2_inflate_0e8fd cJ2_inflate_0e8fd 6 none :: ([.methodLink RJ2 173 yJ2_checkBoundsOffCount_d044e, .static yJ2_checkBoundsOffCount_d044e, .initialized RJ2, .code yJ2_checkBoundsOffCount_d044e cJ2_checkBoundsOffCount_d044e 3 none, .methodLink RJ2 48 yJ2_length_9d52b, .static yJ2_length_9d52b, .code yJ2_length_9d52b cJ2_length_9d52b 1 (some .int), .methodLink RJ2 419 yJ0_checkBoundsOffCount_cabcc, .static yJ0_checkBoundsOffCount_cabcc, .initialized RJ0, .code yJ0_checkBoundsOffCount_cabcc cJ0_checkBoundsOffCount_cabcc 3 (some .int), .fieldLink RJ0 1053 "jdk/internal/util/Preconditions" "SIOOBE_FORMATTER" "Ljava/util/function/BiFunction;", .methodLink RJ0 1065 yJ3_checkFromIndexSize_8c36e, .static yJ3_checkFromIndexSize_8c36e, .initialized RJ3, .code yJ3_checkFromIndexSize_8c36e cJ3_checkFromIndexSize_8c36e 4 (some .int), .methodLink RJ2 111 yJ2_putChar_b72d1, .static yJ2_putChar_b72d1, .code yJ2_putChar_b72d1 cJ2_putChar_b72d1 3 none, .fieldLink RJ2 44 "java/lang/StringUTF16" "$assertionsDisabled" "Z", .fieldLink RJ2 59 "java/lang/StringUTF16" "HI_BYTE_SHIFT" "I", .fieldLink RJ2 63 "java/lang/StringUTF16" "LO_BYTE_SHIFT" "I"])
def wsJ1_inflate_0e8fd_r1 : List Cond := [Cond.methodLink RJ1 240 yJ2_inflate_0e8fd, Cond.static yJ2_inflate_0e8fd, Cond.initialized RJ2, Cond.code yJ2_inflate_0e8fd cJ2_inflate_0e8fd 6 none, Cond.methodLink RJ2 173 yJ2_checkBoundsOffCount_d044e, Cond.static yJ2_checkBoundsOffCount_d044e, Cond.code yJ2_checkBoundsOffCount_d044e cJ2_checkBoundsOffCount_d044e 3 none, Cond.methodLink RJ2 48 yJ2_length_9d52b, Cond.static yJ2_length_9d52b, Cond.code yJ2_length_9d52b cJ2_length_9d52b 1 (some .int), Cond.methodLink RJ2 419 yJ0_checkBoundsOffCount_cabcc, Cond.static yJ0_checkBoundsOffCount_cabcc, Cond.initialized RJ0, Cond.code yJ0_checkBoundsOffCount_cabcc cJ0_checkBoundsOffCount_cabcc 3 (some .int), Cond.fieldLink RJ0 1053 "jdk/internal/util/Preconditions" "SIOOBE_FORMATTER" "Ljava/util/function/BiFunction;", Cond.methodLink RJ0 1065 yJ3_checkFromIndexSize_8c36e, Cond.static yJ3_checkFromIndexSize_8c36e, Cond.initialized RJ3, Cond.code yJ3_checkFromIndexSize_8c36e cJ3_checkFromIndexSize_8c36e 4 (some .int), Cond.methodLink RJ2 111 yJ2_putChar_b72d1, Cond.static yJ2_putChar_b72d1, Cond.code yJ2_putChar_b72d1 cJ2_putChar_b72d1 3 none, Cond.fieldLink RJ2 44 "java/lang/StringUTF16" "$assertionsDisabled" "Z", Cond.fieldLink RJ2 59 "java/lang/StringUTF16" "HI_BYTE_SHIFT" "I"]
def wsJ1_inflate_0e8fd_r2 : List Cond := [Cond.fieldLink RJ2 63 "java/lang/StringUTF16" "LO_BYTE_SHIFT" "I"]
def wsJ1_inflate_0e8fd : List Cond := .code yJ1_inflate_0e8fd cJ1_inflate_0e8fd 5 none :: ((wsJ1_inflate_0e8fd_r1 ++ wsJ1_inflate_0e8fd_r2))
def wsJ5_inflate_da8c8_r1 : List Cond := [Cond.fieldLink RJ5 15 "java/lang/AbstractStringBuilder" "value" "[B", Cond.fieldLink RJ5 79 "java/lang/AbstractStringBuilder" "count" "I", Cond.fieldLink RJ5 22 "java/lang/AbstractStringBuilder" "coder" "B", Cond.methodLink RJ5 83 ⟨"java/lang/AbstractStringBuilder", "isLatin1", "()Z"⟩, Cond.sameMethod "java/lang/AbstractStringBuilder" "java/lang/AbstractStringBuilder" "isLatin1" "()Z", Cond.selects RJ4 ⟨"java/lang/AbstractStringBuilder", "isLatin1", "()Z"⟩ yJ5_isLatin1_aae02, Cond.instanceMethod yJ5_isLatin1_aae02, Cond.initialized RJ5, Cond.code yJ5_isLatin1_aae02 cJ5_isLatin1_aae02 1 (some .boolean), Cond.fieldLink RJ5 18 "java/lang/String" "COMPACT_STRINGS" "Z", Cond.methodLink RJ5 26 yJ2_newBytesFor_77867, Cond.static yJ2_newBytesFor_77867, Cond.initialized RJ2, Cond.code yJ2_newBytesFor_77867 cJ2_newBytesFor_77867 1 (some (.array .byte)), Cond.arrayClass .byte, Cond.methodLink RJ2 11 yJ2_newBytesLength_0f7a4, Cond.static yJ2_newBytesLength_0f7a4, Cond.code yJ2_newBytesLength_0f7a4 cJ2_newBytesLength_0f7a4 1 (some .int), Cond.constant RJ2 20 (1073741823), Cond.methodLink RJ5 125 yJ1_inflate_0e8fd, Cond.static yJ1_inflate_0e8fd, Cond.initialized RJ1, Cond.code yJ1_inflate_0e8fd cJ1_inflate_0e8fd 5 none, Cond.methodLink RJ1 240 yJ2_inflate_0e8fd]
def wsJ5_inflate_da8c8_r2 : List Cond := [Cond.static yJ2_inflate_0e8fd, Cond.code yJ2_inflate_0e8fd cJ2_inflate_0e8fd 6 none, Cond.methodLink RJ2 173 yJ2_checkBoundsOffCount_d044e, Cond.static yJ2_checkBoundsOffCount_d044e, Cond.code yJ2_checkBoundsOffCount_d044e cJ2_checkBoundsOffCount_d044e 3 none, Cond.methodLink RJ2 48 yJ2_length_9d52b, Cond.static yJ2_length_9d52b, Cond.code yJ2_length_9d52b cJ2_length_9d52b 1 (some .int), Cond.methodLink RJ2 419 yJ0_checkBoundsOffCount_cabcc, Cond.static yJ0_checkBoundsOffCount_cabcc, Cond.initialized RJ0, Cond.code yJ0_checkBoundsOffCount_cabcc cJ0_checkBoundsOffCount_cabcc 3 (some .int), Cond.fieldLink RJ0 1053 "jdk/internal/util/Preconditions" "SIOOBE_FORMATTER" "Ljava/util/function/BiFunction;", Cond.methodLink RJ0 1065 yJ3_checkFromIndexSize_8c36e, Cond.static yJ3_checkFromIndexSize_8c36e, Cond.initialized RJ3, Cond.code yJ3_checkFromIndexSize_8c36e cJ3_checkFromIndexSize_8c36e 4 (some .int), Cond.methodLink RJ2 111 yJ2_putChar_b72d1, Cond.static yJ2_putChar_b72d1, Cond.code yJ2_putChar_b72d1 cJ2_putChar_b72d1 3 none, Cond.fieldLink RJ2 44 "java/lang/StringUTF16" "$assertionsDisabled" "Z", Cond.fieldLink RJ2 59 "java/lang/StringUTF16" "HI_BYTE_SHIFT" "I", Cond.fieldLink RJ2 63 "java/lang/StringUTF16" "LO_BYTE_SHIFT" "I"]
def wsJ5_inflate_da8c8 : List Cond := .code yJ5_inflate_da8c8 cJ5_inflate_da8c8 2 none :: ((wsJ5_inflate_da8c8_r1 ++ wsJ5_inflate_da8c8_r2) ++ wsJ40)
def wsJ3_checkIndex_8e157 : List Cond := .code yJ3_checkIndex_8e157 cJ3_checkIndex_8e157 3 (some .int) :: ([])
def wsJ0_checkIndex_df160 : List Cond := .code yJ0_checkIndex_df160 cJ0_checkIndex_df160 2 none :: ([.fieldLink RJ0 1053 "jdk/internal/util/Preconditions" "SIOOBE_FORMATTER" "Ljava/util/function/BiFunction;", .methodLink RJ0 1059 yJ3_checkIndex_8e157, .static yJ3_checkIndex_8e157, .initialized RJ3, .code yJ3_checkIndex_8e157 cJ3_checkIndex_8e157 3 (some .int)])
def wsJ2_checkIndex_2214a : List Cond := .code yJ2_checkIndex_2214a cJ2_checkIndex_2214a 2 none :: ([.methodLink RJ2 48 yJ2_length_9d52b, .static yJ2_length_9d52b, .initialized RJ2, .code yJ2_length_9d52b cJ2_length_9d52b 1 (some .int), .methodLink RJ2 414 yJ0_checkIndex_df160, .static yJ0_checkIndex_df160, .initialized RJ0, .code yJ0_checkIndex_df160 cJ0_checkIndex_df160 2 none, .fieldLink RJ0 1053 "jdk/internal/util/Preconditions" "SIOOBE_FORMATTER" "Ljava/util/function/BiFunction;", .methodLink RJ0 1059 yJ3_checkIndex_8e157, .static yJ3_checkIndex_8e157, .initialized RJ3, .code yJ3_checkIndex_8e157 cJ3_checkIndex_8e157 3 (some .int)])
def wsJ2_putCharSB_b72d1 : List Cond := .code yJ2_putCharSB_b72d1 cJ2_putCharSB_b72d1 3 none :: ([.methodLink RJ2 67 yJ2_checkIndex_2214a, .static yJ2_checkIndex_2214a, .initialized RJ2, .code yJ2_checkIndex_2214a cJ2_checkIndex_2214a 2 none, .methodLink RJ2 48 yJ2_length_9d52b, .static yJ2_length_9d52b, .code yJ2_length_9d52b cJ2_length_9d52b 1 (some .int), .methodLink RJ2 414 yJ0_checkIndex_df160, .static yJ0_checkIndex_df160, .initialized RJ0, .code yJ0_checkIndex_df160 cJ0_checkIndex_df160 2 none, .fieldLink RJ0 1053 "jdk/internal/util/Preconditions" "SIOOBE_FORMATTER" "Ljava/util/function/BiFunction;", .methodLink RJ0 1059 yJ3_checkIndex_8e157, .static yJ3_checkIndex_8e157, .initialized RJ3, .code yJ3_checkIndex_8e157 cJ3_checkIndex_8e157 3 (some .int), .methodLink RJ2 111 yJ2_putChar_b72d1, .static yJ2_putChar_b72d1, .code yJ2_putChar_b72d1 cJ2_putChar_b72d1 3 none, .fieldLink RJ2 44 "java/lang/StringUTF16" "$assertionsDisabled" "Z", .fieldLink RJ2 59 "java/lang/StringUTF16" "HI_BYTE_SHIFT" "I", .fieldLink RJ2 63 "java/lang/StringUTF16" "LO_BYTE_SHIFT" "I"])
def wsJ5_append_3fe6f_r1 : List Cond := [Cond.fieldLink RJ5 79 "java/lang/AbstractStringBuilder" "count" "I", Cond.fieldLink RJ5 15 "java/lang/AbstractStringBuilder" "value" "[B", Cond.methodLink RJ5 100 ⟨"java/lang/AbstractStringBuilder", "ensureCapacityInternal", "(I)V"⟩, Cond.sameMethod "java/lang/AbstractStringBuilder" "java/lang/AbstractStringBuilder" "ensureCapacityInternal" "(I)V", Cond.selects RJ4 ⟨"java/lang/AbstractStringBuilder", "ensureCapacityInternal", "(I)V"⟩ yJ5_ensureCapacityInternal_d00df, Cond.instanceMethod yJ5_ensureCapacityInternal_d00df, Cond.initialized RJ5, Cond.code yJ5_ensureCapacityInternal_d00df cJ5_ensureCapacityInternal_d00df 3 none, Cond.fieldLink RJ5 22 "java/lang/AbstractStringBuilder" "coder" "B", Cond.methodLink RJ5 104 ⟨"java/lang/AbstractStringBuilder", "newCapacity", "(I)I"⟩, Cond.sameMethod "java/lang/AbstractStringBuilder" "java/lang/AbstractStringBuilder" "newCapacity" "(I)I", Cond.selects RJ4 ⟨"java/lang/AbstractStringBuilder", "newCapacity", "(I)I"⟩ yJ5_newCapacity_0f7a4, Cond.instanceMethod yJ5_newCapacity_0f7a4, Cond.code yJ5_newCapacity_0f7a4 cJ5_newCapacity_0f7a4 6 (some .int), Cond.constant RJ5 39 (2147483647), Cond.methodLink RJ5 114 yJ8_newLength_cabcc, Cond.static yJ8_newLength_cabcc, Cond.initialized RJ8, Cond.code yJ8_newLength_cabcc cJ8_newLength_cabcc 4 (some .int), Cond.methodLink RJ8 194 Lib.Math.max.name, Cond.static Lib.Math.max.name, Cond.initialized "java/lang/Math", Cond.code Lib.Math.max.name Lib.Math.max.code 2 (some .int), Cond.constant RJ8 200 (2147483639)]
def wsJ5_append_3fe6f_r2 : List Cond := [Cond.methodLink RJ8 201 yJ8_hugeLength_7cf53, Cond.static yJ8_hugeLength_7cf53, Cond.code yJ8_hugeLength_7cf53 cJ8_hugeLength_7cf53 3 (some .int), Cond.methodLink RJ5 108 yJ7_copyOf_9075b, Cond.static yJ7_copyOf_9075b, Cond.initialized RJ7, Cond.code yJ7_copyOf_9075b cJ7_copyOf_9075b 3 (some (.array .byte)), Cond.methodLink RJ7 310 ⟨"[B", "clone", "()Ljava/lang/Object;"⟩, Cond.sameMethod "[B" "java/lang/Object" "clone" "()Ljava/lang/Object;", Cond.native ⟨"java/lang/Object", "clone", "()Ljava/lang/Object;"⟩, Cond.instanceMethod ⟨"java/lang/Object", "clone", "()Ljava/lang/Object;"⟩, Cond.selects "[B" ⟨"[B", "clone", "()Ljava/lang/Object;"⟩ ⟨"java/lang/Object", "clone", "()Ljava/lang/Object;"⟩, Cond.classLink RJ7 311 "[B", Cond.arrayClass .byte, Cond.methodLink RJ7 304 Lib.Math.min.name, Cond.static Lib.Math.min.name, Cond.code Lib.Math.min.name Lib.Math.min.code 2 (some .int), Cond.methodLink RJ7 150 arraycopyName, Cond.native arraycopyName, Cond.static arraycopyName, Cond.initialized "java/lang/System", Cond.methodLink RJ5 83 ⟨"java/lang/AbstractStringBuilder", "isLatin1", "()Z"⟩, Cond.sameMethod "java/lang/AbstractStringBuilder" "java/lang/AbstractStringBuilder" "isLatin1" "()Z", Cond.selects RJ4 ⟨"java/lang/AbstractStringBuilder", "isLatin1", "()Z"⟩ yJ5_isLatin1_aae02]
def wsJ5_append_3fe6f_r3 : List Cond := [Cond.instanceMethod yJ5_isLatin1_aae02, Cond.code yJ5_isLatin1_aae02 cJ5_isLatin1_aae02 1 (some .boolean), Cond.fieldLink RJ5 18 "java/lang/String" "COMPACT_STRINGS" "Z", Cond.methodLink RJ5 191 yJ1_canEncode_fc78d, Cond.static yJ1_canEncode_fc78d, Cond.initialized RJ1, Cond.code yJ1_canEncode_fc78d cJ1_canEncode_fc78d 1 (some .boolean), Cond.methodLink RJ5 195 ⟨"java/lang/AbstractStringBuilder", "inflate", "()V"⟩, Cond.sameMethod "java/lang/AbstractStringBuilder" "java/lang/AbstractStringBuilder" "inflate" "()V", Cond.selects RJ4 ⟨"java/lang/AbstractStringBuilder", "inflate", "()V"⟩ yJ5_inflate_da8c8, Cond.instanceMethod yJ5_inflate_da8c8, Cond.code yJ5_inflate_da8c8 cJ5_inflate_da8c8 2 none, Cond.methodLink RJ5 26 yJ2_newBytesFor_77867, Cond.static yJ2_newBytesFor_77867, Cond.initialized RJ2, Cond.code yJ2_newBytesFor_77867 cJ2_newBytesFor_77867 1 (some (.array .byte)), Cond.methodLink RJ2 11 yJ2_newBytesLength_0f7a4, Cond.static yJ2_newBytesLength_0f7a4, Cond.code yJ2_newBytesLength_0f7a4 cJ2_newBytesLength_0f7a4 1 (some .int), Cond.constant RJ2 20 (1073741823), Cond.methodLink RJ5 125 yJ1_inflate_0e8fd, Cond.static yJ1_inflate_0e8fd, Cond.code yJ1_inflate_0e8fd cJ1_inflate_0e8fd 5 none, Cond.methodLink RJ1 240 yJ2_inflate_0e8fd]
def wsJ5_append_3fe6f_r4 : List Cond := [Cond.static yJ2_inflate_0e8fd, Cond.code yJ2_inflate_0e8fd cJ2_inflate_0e8fd 6 none, Cond.methodLink RJ2 173 yJ2_checkBoundsOffCount_d044e, Cond.static yJ2_checkBoundsOffCount_d044e, Cond.code yJ2_checkBoundsOffCount_d044e cJ2_checkBoundsOffCount_d044e 3 none, Cond.methodLink RJ2 48 yJ2_length_9d52b, Cond.static yJ2_length_9d52b, Cond.code yJ2_length_9d52b cJ2_length_9d52b 1 (some .int), Cond.methodLink RJ2 419 yJ0_checkBoundsOffCount_cabcc, Cond.static yJ0_checkBoundsOffCount_cabcc, Cond.initialized RJ0, Cond.code yJ0_checkBoundsOffCount_cabcc cJ0_checkBoundsOffCount_cabcc 3 (some .int), Cond.fieldLink RJ0 1053 "jdk/internal/util/Preconditions" "SIOOBE_FORMATTER" "Ljava/util/function/BiFunction;", Cond.methodLink RJ0 1065 yJ3_checkFromIndexSize_8c36e, Cond.static yJ3_checkFromIndexSize_8c36e, Cond.initialized RJ3, Cond.code yJ3_checkFromIndexSize_8c36e cJ3_checkFromIndexSize_8c36e 4 (some .int), Cond.methodLink RJ2 111 yJ2_putChar_b72d1, Cond.static yJ2_putChar_b72d1, Cond.code yJ2_putChar_b72d1 cJ2_putChar_b72d1 3 none, Cond.fieldLink RJ2 44 "java/lang/StringUTF16" "$assertionsDisabled" "Z", Cond.fieldLink RJ2 59 "java/lang/StringUTF16" "HI_BYTE_SHIFT" "I", Cond.fieldLink RJ2 63 "java/lang/StringUTF16" "LO_BYTE_SHIFT" "I", Cond.methodLink RJ5 197 yJ2_putCharSB_b72d1]
def wsJ5_append_3fe6f_r5 : List Cond := [Cond.static yJ2_putCharSB_b72d1, Cond.code yJ2_putCharSB_b72d1 cJ2_putCharSB_b72d1 3 none, Cond.methodLink RJ2 67 yJ2_checkIndex_2214a, Cond.static yJ2_checkIndex_2214a, Cond.code yJ2_checkIndex_2214a cJ2_checkIndex_2214a 2 none, Cond.methodLink RJ2 414 yJ0_checkIndex_df160, Cond.static yJ0_checkIndex_df160, Cond.code yJ0_checkIndex_df160 cJ0_checkIndex_df160 2 none, Cond.methodLink RJ0 1059 yJ3_checkIndex_8e157, Cond.static yJ3_checkIndex_8e157, Cond.code yJ3_checkIndex_8e157 cJ3_checkIndex_8e157 3 (some .int)]
def wsJ5_append_3fe6f : List Cond := .code yJ5_append_3fe6f cJ5_append_3fe6f 2 (some (.object "java/lang/AbstractStringBuilder")) :: ((wsJ5_append_3fe6f_r1 ++ (wsJ5_append_3fe6f_r2 ++ (wsJ5_append_3fe6f_r3 ++ (wsJ5_append_3fe6f_r4 ++ wsJ5_append_3fe6f_r5)))) ++ wsJ40)
def wsJ4_append_cf468_r1 : List Cond := [Cond.methodLink RJ4 50 yJ5_append_3fe6f, Cond.sameMethod "java/lang/AbstractStringBuilder" "java/lang/AbstractStringBuilder" "append" "(C)Ljava/lang/AbstractStringBuilder;", Cond.superclass RJ4 RJ5, Cond.instanceMethod yJ5_append_3fe6f, Cond.initialized RJ5, Cond.code yJ5_append_3fe6f cJ5_append_3fe6f 2 (some (.object "java/lang/AbstractStringBuilder")), Cond.fieldLink RJ5 79 "java/lang/AbstractStringBuilder" "count" "I", Cond.fieldLink RJ5 15 "java/lang/AbstractStringBuilder" "value" "[B", Cond.methodLink RJ5 100 ⟨"java/lang/AbstractStringBuilder", "ensureCapacityInternal", "(I)V"⟩, Cond.sameMethod "java/lang/AbstractStringBuilder" "java/lang/AbstractStringBuilder" "ensureCapacityInternal" "(I)V", Cond.selects RJ4 ⟨"java/lang/AbstractStringBuilder", "ensureCapacityInternal", "(I)V"⟩ yJ5_ensureCapacityInternal_d00df, Cond.instanceMethod yJ5_ensureCapacityInternal_d00df, Cond.code yJ5_ensureCapacityInternal_d00df cJ5_ensureCapacityInternal_d00df 3 none, Cond.fieldLink RJ5 22 "java/lang/AbstractStringBuilder" "coder" "B", Cond.methodLink RJ5 104 ⟨"java/lang/AbstractStringBuilder", "newCapacity", "(I)I"⟩, Cond.sameMethod "java/lang/AbstractStringBuilder" "java/lang/AbstractStringBuilder" "newCapacity" "(I)I", Cond.selects RJ4 ⟨"java/lang/AbstractStringBuilder", "newCapacity", "(I)I"⟩ yJ5_newCapacity_0f7a4, Cond.instanceMethod yJ5_newCapacity_0f7a4, Cond.code yJ5_newCapacity_0f7a4 cJ5_newCapacity_0f7a4 6 (some .int), Cond.constant RJ5 39 (2147483647), Cond.methodLink RJ5 114 yJ8_newLength_cabcc, Cond.static yJ8_newLength_cabcc, Cond.initialized RJ8, Cond.code yJ8_newLength_cabcc cJ8_newLength_cabcc 4 (some .int)]
def wsJ4_append_cf468_r2 : List Cond := [Cond.methodLink RJ8 194 Lib.Math.max.name, Cond.static Lib.Math.max.name, Cond.initialized "java/lang/Math", Cond.code Lib.Math.max.name Lib.Math.max.code 2 (some .int), Cond.constant RJ8 200 (2147483639), Cond.methodLink RJ8 201 yJ8_hugeLength_7cf53, Cond.static yJ8_hugeLength_7cf53, Cond.code yJ8_hugeLength_7cf53 cJ8_hugeLength_7cf53 3 (some .int), Cond.methodLink RJ5 108 yJ7_copyOf_9075b, Cond.static yJ7_copyOf_9075b, Cond.initialized RJ7, Cond.code yJ7_copyOf_9075b cJ7_copyOf_9075b 3 (some (.array .byte)), Cond.methodLink RJ7 310 ⟨"[B", "clone", "()Ljava/lang/Object;"⟩, Cond.sameMethod "[B" "java/lang/Object" "clone" "()Ljava/lang/Object;", Cond.native ⟨"java/lang/Object", "clone", "()Ljava/lang/Object;"⟩, Cond.instanceMethod ⟨"java/lang/Object", "clone", "()Ljava/lang/Object;"⟩, Cond.selects "[B" ⟨"[B", "clone", "()Ljava/lang/Object;"⟩ ⟨"java/lang/Object", "clone", "()Ljava/lang/Object;"⟩, Cond.classLink RJ7 311 "[B", Cond.arrayClass .byte, Cond.methodLink RJ7 304 Lib.Math.min.name, Cond.static Lib.Math.min.name, Cond.code Lib.Math.min.name Lib.Math.min.code 2 (some .int), Cond.methodLink RJ7 150 arraycopyName, Cond.native arraycopyName]
def wsJ4_append_cf468_r3 : List Cond := [Cond.static arraycopyName, Cond.initialized "java/lang/System", Cond.methodLink RJ5 83 ⟨"java/lang/AbstractStringBuilder", "isLatin1", "()Z"⟩, Cond.sameMethod "java/lang/AbstractStringBuilder" "java/lang/AbstractStringBuilder" "isLatin1" "()Z", Cond.selects RJ4 ⟨"java/lang/AbstractStringBuilder", "isLatin1", "()Z"⟩ yJ5_isLatin1_aae02, Cond.instanceMethod yJ5_isLatin1_aae02, Cond.code yJ5_isLatin1_aae02 cJ5_isLatin1_aae02 1 (some .boolean), Cond.fieldLink RJ5 18 "java/lang/String" "COMPACT_STRINGS" "Z", Cond.methodLink RJ5 191 yJ1_canEncode_fc78d, Cond.static yJ1_canEncode_fc78d, Cond.initialized RJ1, Cond.code yJ1_canEncode_fc78d cJ1_canEncode_fc78d 1 (some .boolean), Cond.methodLink RJ5 195 ⟨"java/lang/AbstractStringBuilder", "inflate", "()V"⟩, Cond.sameMethod "java/lang/AbstractStringBuilder" "java/lang/AbstractStringBuilder" "inflate" "()V", Cond.selects RJ4 ⟨"java/lang/AbstractStringBuilder", "inflate", "()V"⟩ yJ5_inflate_da8c8, Cond.instanceMethod yJ5_inflate_da8c8, Cond.code yJ5_inflate_da8c8 cJ5_inflate_da8c8 2 none, Cond.methodLink RJ5 26 yJ2_newBytesFor_77867, Cond.static yJ2_newBytesFor_77867, Cond.initialized RJ2, Cond.code yJ2_newBytesFor_77867 cJ2_newBytesFor_77867 1 (some (.array .byte)), Cond.methodLink RJ2 11 yJ2_newBytesLength_0f7a4, Cond.static yJ2_newBytesLength_0f7a4, Cond.code yJ2_newBytesLength_0f7a4 cJ2_newBytesLength_0f7a4 1 (some .int)]
def wsJ4_append_cf468_r4 : List Cond := [Cond.constant RJ2 20 (1073741823), Cond.methodLink RJ5 125 yJ1_inflate_0e8fd, Cond.static yJ1_inflate_0e8fd, Cond.code yJ1_inflate_0e8fd cJ1_inflate_0e8fd 5 none, Cond.methodLink RJ1 240 yJ2_inflate_0e8fd, Cond.static yJ2_inflate_0e8fd, Cond.code yJ2_inflate_0e8fd cJ2_inflate_0e8fd 6 none, Cond.methodLink RJ2 173 yJ2_checkBoundsOffCount_d044e, Cond.static yJ2_checkBoundsOffCount_d044e, Cond.code yJ2_checkBoundsOffCount_d044e cJ2_checkBoundsOffCount_d044e 3 none, Cond.methodLink RJ2 48 yJ2_length_9d52b, Cond.static yJ2_length_9d52b, Cond.code yJ2_length_9d52b cJ2_length_9d52b 1 (some .int), Cond.methodLink RJ2 419 yJ0_checkBoundsOffCount_cabcc, Cond.static yJ0_checkBoundsOffCount_cabcc, Cond.initialized RJ0, Cond.code yJ0_checkBoundsOffCount_cabcc cJ0_checkBoundsOffCount_cabcc 3 (some .int), Cond.fieldLink RJ0 1053 "jdk/internal/util/Preconditions" "SIOOBE_FORMATTER" "Ljava/util/function/BiFunction;", Cond.methodLink RJ0 1065 yJ3_checkFromIndexSize_8c36e, Cond.static yJ3_checkFromIndexSize_8c36e, Cond.initialized RJ3, Cond.code yJ3_checkFromIndexSize_8c36e cJ3_checkFromIndexSize_8c36e 4 (some .int), Cond.methodLink RJ2 111 yJ2_putChar_b72d1, Cond.static yJ2_putChar_b72d1]
def wsJ4_append_cf468_r5 : List Cond := [Cond.code yJ2_putChar_b72d1 cJ2_putChar_b72d1 3 none, Cond.fieldLink RJ2 44 "java/lang/StringUTF16" "$assertionsDisabled" "Z", Cond.fieldLink RJ2 59 "java/lang/StringUTF16" "HI_BYTE_SHIFT" "I", Cond.fieldLink RJ2 63 "java/lang/StringUTF16" "LO_BYTE_SHIFT" "I", Cond.methodLink RJ5 197 yJ2_putCharSB_b72d1, Cond.static yJ2_putCharSB_b72d1, Cond.code yJ2_putCharSB_b72d1 cJ2_putCharSB_b72d1 3 none, Cond.methodLink RJ2 67 yJ2_checkIndex_2214a, Cond.static yJ2_checkIndex_2214a, Cond.code yJ2_checkIndex_2214a cJ2_checkIndex_2214a 2 none, Cond.methodLink RJ2 414 yJ0_checkIndex_df160, Cond.static yJ0_checkIndex_df160, Cond.code yJ0_checkIndex_df160 cJ0_checkIndex_df160 2 none, Cond.methodLink RJ0 1059 yJ3_checkIndex_8e157, Cond.static yJ3_checkIndex_8e157, Cond.code yJ3_checkIndex_8e157 cJ3_checkIndex_8e157 3 (some .int)]
def wsJ4_append_cf468 : List Cond := .code yJ4_append_cf468 cJ4_append_cf468 2 (some (.object "java/lang/StringBuilder")) :: ((wsJ4_append_cf468_r1 ++ (wsJ4_append_cf468_r2 ++ (wsJ4_append_cf468_r3 ++ (wsJ4_append_cf468_r4 ++ wsJ4_append_cf468_r5)))) ++ wsJ40)
def wsJ5_getValue_6d5f1 : List Cond := .code yJ5_getValue_6d5f1 cJ5_getValue_6d5f1 1 (some (.array .byte)) :: ([.fieldLink RJ5 15 "java/lang/AbstractStringBuilder" "value" "[B"] ++ wsJ40)
def wsJ5_length_8abf5 : List Cond := .code yJ5_length_8abf5 cJ5_length_8abf5 1 (some .int) :: ([.fieldLink RJ5 79 "java/lang/AbstractStringBuilder" "count" "I"] ++ wsJ40)
def wsJ4_length_8abf5 : List Cond := .code yJ4_length_8abf5 cJ4_length_8abf5 1 (some .int) :: ([.methodLink RJ4 343 yJ5_length_8abf5, .sameMethod "java/lang/AbstractStringBuilder" "java/lang/AbstractStringBuilder" "length" "()I", .superclass RJ4 RJ5, .instanceMethod yJ5_length_8abf5, .initialized RJ5, .code yJ5_length_8abf5 cJ5_length_8abf5 1 (some .int), .fieldLink RJ5 79 "java/lang/AbstractStringBuilder" "count" "I"] ++ wsJ40)
def wsJ7_checkLength_df160 : List Cond := .code yJ7_checkLength_df160 cJ7_checkLength_df160 2 none :: ([])
def wsJ7_copyOfRangeByte_39247 : List Cond := .code yJ7_copyOfRangeByte_39247 cJ7_copyOfRangeByte_39247 5 (some (.array .byte)) :: ([.arrayClass .byte, .methodLink RJ7 304 Lib.Math.min.name, .static Lib.Math.min.name, .initialized "java/lang/Math", .code Lib.Math.min.name Lib.Math.min.code 2 (some .int), .methodLink RJ7 150 arraycopyName, .native arraycopyName, .static arraycopyName, .initialized "java/lang/System", .methodLink RJ7 343 yJ7_checkLength_df160, .static yJ7_checkLength_df160, .initialized RJ7, .code yJ7_checkLength_df160 cJ7_checkLength_df160 2 none])
def wsJ7_copyOfRange_39247 : List Cond := .code yJ7_copyOfRange_39247 cJ7_copyOfRange_39247 3 (some (.array .byte)) :: ([.methodLink RJ7 310 ⟨"[B", "clone", "()Ljava/lang/Object;"⟩, .sameMethod "[B" "java/lang/Object" "clone" "()Ljava/lang/Object;", .native ⟨"java/lang/Object", "clone", "()Ljava/lang/Object;"⟩, .instanceMethod ⟨"java/lang/Object", "clone", "()Ljava/lang/Object;"⟩, .selects "[B" ⟨"[B", "clone", "()Ljava/lang/Object;"⟩ ⟨"java/lang/Object", "clone", "()Ljava/lang/Object;"⟩, .classLink RJ7 311 "[B", .methodLink RJ7 339 yJ7_copyOfRangeByte_39247, .static yJ7_copyOfRangeByte_39247, .initialized RJ7, .code yJ7_copyOfRangeByte_39247 cJ7_copyOfRangeByte_39247 5 (some (.array .byte)), .arrayClass .byte, .methodLink RJ7 304 Lib.Math.min.name, .static Lib.Math.min.name, .initialized "java/lang/Math", .code Lib.Math.min.name Lib.Math.min.code 2 (some .int), .methodLink RJ7 150 arraycopyName, .native arraycopyName, .static arraycopyName, .initialized "java/lang/System", .methodLink RJ7 343 yJ7_checkLength_df160, .static yJ7_checkLength_df160, .code yJ7_checkLength_df160 cJ7_checkLength_df160 2 none])
def wsJ2_getChar_3b067 : List Cond := .code yJ2_getChar_3b067 cJ2_getChar_3b067 2 (some .char) :: ([.fieldLink RJ2 44 "java/lang/StringUTF16" "$assertionsDisabled" "Z", .fieldLink RJ2 59 "java/lang/StringUTF16" "HI_BYTE_SHIFT" "I", .fieldLink RJ2 63 "java/lang/StringUTF16" "LO_BYTE_SHIFT" "I", .methodLink RJ2 48 yJ2_length_9d52b, .static yJ2_length_9d52b, .initialized RJ2, .code yJ2_length_9d52b cJ2_length_9d52b 1 (some .int)])
def wsJ2_compress_5af95 : List Cond := .code yJ2_compress_5af95 cJ2_compress_5af95 7 (some .int) :: ([.methodLink RJ2 173 yJ2_checkBoundsOffCount_d044e, .static yJ2_checkBoundsOffCount_d044e, .initialized RJ2, .code yJ2_checkBoundsOffCount_d044e cJ2_checkBoundsOffCount_d044e 3 none, .methodLink RJ2 48 yJ2_length_9d52b, .static yJ2_length_9d52b, .code yJ2_length_9d52b cJ2_length_9d52b 1 (some .int), .methodLink RJ2 419 yJ0_checkBoundsOffCount_cabcc, .static yJ0_checkBoundsOffCount_cabcc, .initialized RJ0, .code yJ0_checkBoundsOffCount_cabcc cJ0_checkBoundsOffCount_cabcc 3 (some .int), .fieldLink RJ0 1053 "jdk/internal/util/Preconditions" "SIOOBE_FORMATTER" "Ljava/util/function/BiFunction;", .methodLink RJ0 1065 yJ3_checkFromIndexSize_8c36e, .static yJ3_checkFromIndexSize_8c36e, .initialized RJ3, .code yJ3_checkFromIndexSize_8c36e cJ3_checkFromIndexSize_8c36e 4 (some .int), .methodLink RJ2 71 yJ2_getChar_3b067, .static yJ2_getChar_3b067, .code yJ2_getChar_3b067 cJ2_getChar_3b067 2 (some .char), .fieldLink RJ2 44 "java/lang/StringUTF16" "$assertionsDisabled" "Z", .fieldLink RJ2 59 "java/lang/StringUTF16" "HI_BYTE_SHIFT" "I", .fieldLink RJ2 63 "java/lang/StringUTF16" "LO_BYTE_SHIFT" "I"])
def wsJ2_compress_39247_r1 : List Cond := [Cond.arrayClass .byte, Cond.methodLink RJ2 123 yJ2_compress_5af95, Cond.static yJ2_compress_5af95, Cond.initialized RJ2, Cond.code yJ2_compress_5af95 cJ2_compress_5af95 7 (some .int), Cond.methodLink RJ2 173 yJ2_checkBoundsOffCount_d044e, Cond.static yJ2_checkBoundsOffCount_d044e, Cond.code yJ2_checkBoundsOffCount_d044e cJ2_checkBoundsOffCount_d044e 3 none, Cond.methodLink RJ2 48 yJ2_length_9d52b, Cond.static yJ2_length_9d52b, Cond.code yJ2_length_9d52b cJ2_length_9d52b 1 (some .int), Cond.methodLink RJ2 419 yJ0_checkBoundsOffCount_cabcc, Cond.static yJ0_checkBoundsOffCount_cabcc, Cond.initialized RJ0, Cond.code yJ0_checkBoundsOffCount_cabcc cJ0_checkBoundsOffCount_cabcc 3 (some .int), Cond.fieldLink RJ0 1053 "jdk/internal/util/Preconditions" "SIOOBE_FORMATTER" "Ljava/util/function/BiFunction;", Cond.methodLink RJ0 1065 yJ3_checkFromIndexSize_8c36e, Cond.static yJ3_checkFromIndexSize_8c36e, Cond.initialized RJ3, Cond.code yJ3_checkFromIndexSize_8c36e cJ3_checkFromIndexSize_8c36e 4 (some .int), Cond.methodLink RJ2 71 yJ2_getChar_3b067, Cond.static yJ2_getChar_3b067, Cond.code yJ2_getChar_3b067 cJ2_getChar_3b067 2 (some .char), Cond.fieldLink RJ2 44 "java/lang/StringUTF16" "$assertionsDisabled" "Z"]
def wsJ2_compress_39247_r2 : List Cond := [Cond.fieldLink RJ2 59 "java/lang/StringUTF16" "HI_BYTE_SHIFT" "I", Cond.fieldLink RJ2 63 "java/lang/StringUTF16" "LO_BYTE_SHIFT" "I", Cond.methodLink RJ2 11 yJ2_newBytesLength_0f7a4, Cond.static yJ2_newBytesLength_0f7a4, Cond.code yJ2_newBytesLength_0f7a4 cJ2_newBytesLength_0f7a4 1 (some .int), Cond.constant RJ2 20 (1073741823), Cond.methodLink RJ2 126 yJ7_copyOfRange_39247, Cond.static yJ7_copyOfRange_39247, Cond.initialized RJ7, Cond.code yJ7_copyOfRange_39247 cJ7_copyOfRange_39247 3 (some (.array .byte)), Cond.methodLink RJ7 310 ⟨"[B", "clone", "()Ljava/lang/Object;"⟩, Cond.sameMethod "[B" "java/lang/Object" "clone" "()Ljava/lang/Object;", Cond.native ⟨"java/lang/Object", "clone", "()Ljava/lang/Object;"⟩, Cond.instanceMethod ⟨"java/lang/Object", "clone", "()Ljava/lang/Object;"⟩, Cond.selects "[B" ⟨"[B", "clone", "()Ljava/lang/Object;"⟩ ⟨"java/lang/Object", "clone", "()Ljava/lang/Object;"⟩, Cond.classLink RJ7 311 "[B", Cond.methodLink RJ7 339 yJ7_copyOfRangeByte_39247, Cond.static yJ7_copyOfRangeByte_39247, Cond.code yJ7_copyOfRangeByte_39247 cJ7_copyOfRangeByte_39247 5 (some (.array .byte)), Cond.methodLink RJ7 304 Lib.Math.min.name, Cond.static Lib.Math.min.name, Cond.initialized "java/lang/Math", Cond.code Lib.Math.min.name Lib.Math.min.code 2 (some .int), Cond.methodLink RJ7 150 arraycopyName]
def wsJ2_compress_39247_r3 : List Cond := [Cond.native arraycopyName, Cond.static arraycopyName, Cond.initialized "java/lang/System", Cond.methodLink RJ7 343 yJ7_checkLength_df160, Cond.static yJ7_checkLength_df160, Cond.code yJ7_checkLength_df160 cJ7_checkLength_df160 2 none]
def wsJ2_compress_39247 : List Cond := .code yJ2_compress_39247 cJ2_compress_39247 6 (some (.array .byte)) :: ((wsJ2_compress_39247_r1 ++ (wsJ2_compress_39247_r2 ++ wsJ2_compress_39247_r3)))
def wsJ2_coderFromArrayLen_85cad : List Cond := .code yJ2_coderFromArrayLen_85cad cJ2_coderFromArrayLen_85cad 2 (some .byte) :: ([])
def wsJ0_init_db425_r1 : List Cond := [Cond.methodLink RJ0 1 objectInit, Cond.instanceMethod objectInit, Cond.code objectInit ⟨#[0xb1]⟩ 1 none, Cond.fieldLink RJ0 15 "java/lang/String" "coder" "B", Cond.fieldLink RJ0 9 "java/lang/String" "value" "[B", Cond.fieldLink RJ0 38 "java/lang/String" "COMPACT_STRINGS" "Z", Cond.fieldLink RJ0 1048 "java/lang/AbstractStringBuilder" "maybeLatin1" "Z", Cond.methodLink RJ0 552 ⟨"java/lang/AbstractStringBuilder", "getValue", "()[B"⟩, Cond.sameMethod "java/lang/AbstractStringBuilder" "java/lang/AbstractStringBuilder" "getValue" "()[B", Cond.selects RJ4 ⟨"java/lang/AbstractStringBuilder", "getValue", "()[B"⟩ yJ5_getValue_6d5f1, Cond.instanceMethod yJ5_getValue_6d5f1, Cond.initialized RJ5, Cond.code yJ5_getValue_6d5f1 cJ5_getValue_6d5f1 1 (some (.array .byte)), Cond.fieldLink RJ5 15 "java/lang/AbstractStringBuilder" "value" "[B", Cond.methodLink RJ0 549 ⟨"java/lang/AbstractStringBuilder", "length", "()I"⟩, Cond.sameMethod "java/lang/AbstractStringBuilder" "java/lang/AbstractStringBuilder" "length" "()I", Cond.instanceMethod ⟨"java/lang/AbstractStringBuilder", "length", "()I"⟩, Cond.selects RJ4 ⟨"java/lang/AbstractStringBuilder", "length", "()I"⟩ yJ4_length_8abf5, Cond.instanceMethod yJ4_length_8abf5, Cond.initialized RJ4, Cond.code yJ4_length_8abf5 cJ4_length_8abf5 1 (some .int), Cond.methodLink RJ4 343 yJ5_length_8abf5, Cond.superclass RJ4 RJ5, Cond.instanceMethod yJ5_length_8abf5]
def wsJ0_init_db425_r2 : List Cond := [Cond.code yJ5_length_8abf5 cJ5_length_8abf5 1 (some .int), Cond.fieldLink RJ5 79 "java/lang/AbstractStringBuilder" "count" "I", Cond.methodLink RJ0 1047 ⟨"java/lang/AbstractStringBuilder", "isLatin1", "()Z"⟩, Cond.sameMethod "java/lang/AbstractStringBuilder" "java/lang/AbstractStringBuilder" "isLatin1" "()Z", Cond.selects RJ4 ⟨"java/lang/AbstractStringBuilder", "isLatin1", "()Z"⟩ yJ5_isLatin1_aae02, Cond.instanceMethod yJ5_isLatin1_aae02, Cond.code yJ5_isLatin1_aae02 cJ5_isLatin1_aae02 1 (some .boolean), Cond.fieldLink RJ5 18 "java/lang/String" "COMPACT_STRINGS" "Z", Cond.fieldLink RJ5 22 "java/lang/AbstractStringBuilder" "coder" "B", Cond.methodLink RJ0 54 yJ7_copyOfRange_39247, Cond.static yJ7_copyOfRange_39247, Cond.initialized RJ7, Cond.code yJ7_copyOfRange_39247 cJ7_copyOfRange_39247 3 (some (.array .byte)), Cond.methodLink RJ7 310 ⟨"[B", "clone", "()Ljava/lang/Object;"⟩, Cond.sameMethod "[B" "java/lang/Object" "clone" "()Ljava/lang/Object;", Cond.native ⟨"java/lang/Object", "clone", "()Ljava/lang/Object;"⟩, Cond.instanceMethod ⟨"java/lang/Object", "clone", "()Ljava/lang/Object;"⟩, Cond.selects "[B" ⟨"[B", "clone", "()Ljava/lang/Object;"⟩ ⟨"java/lang/Object", "clone", "()Ljava/lang/Object;"⟩, Cond.classLink RJ7 311 "[B", Cond.methodLink RJ7 339 yJ7_copyOfRangeByte_39247, Cond.static yJ7_copyOfRangeByte_39247, Cond.code yJ7_copyOfRangeByte_39247 cJ7_copyOfRangeByte_39247 5 (some (.array .byte)), Cond.arrayClass .byte, Cond.methodLink RJ7 304 Lib.Math.min.name]
def wsJ0_init_db425_r3 : List Cond := [Cond.static Lib.Math.min.name, Cond.initialized "java/lang/Math", Cond.code Lib.Math.min.name Lib.Math.min.code 2 (some .int), Cond.methodLink RJ7 150 arraycopyName, Cond.native arraycopyName, Cond.static arraycopyName, Cond.initialized "java/lang/System", Cond.methodLink RJ7 343 yJ7_checkLength_df160, Cond.static yJ7_checkLength_df160, Cond.code yJ7_checkLength_df160 cJ7_checkLength_df160 2 none, Cond.methodLink RJ0 1051 yJ2_compress_39247, Cond.static yJ2_compress_39247, Cond.initialized RJ2, Cond.code yJ2_compress_39247 cJ2_compress_39247 6 (some (.array .byte)), Cond.methodLink RJ2 123 yJ2_compress_5af95, Cond.static yJ2_compress_5af95, Cond.code yJ2_compress_5af95 cJ2_compress_5af95 7 (some .int), Cond.methodLink RJ2 173 yJ2_checkBoundsOffCount_d044e, Cond.static yJ2_checkBoundsOffCount_d044e, Cond.code yJ2_checkBoundsOffCount_d044e cJ2_checkBoundsOffCount_d044e 3 none, Cond.methodLink RJ2 48 yJ2_length_9d52b, Cond.static yJ2_length_9d52b, Cond.code yJ2_length_9d52b cJ2_length_9d52b 1 (some .int), Cond.methodLink RJ2 419 yJ0_checkBoundsOffCount_cabcc]
def wsJ0_init_db425_r4 : List Cond := [Cond.static yJ0_checkBoundsOffCount_cabcc, Cond.initialized RJ0, Cond.code yJ0_checkBoundsOffCount_cabcc cJ0_checkBoundsOffCount_cabcc 3 (some .int), Cond.fieldLink RJ0 1053 "jdk/internal/util/Preconditions" "SIOOBE_FORMATTER" "Ljava/util/function/BiFunction;", Cond.methodLink RJ0 1065 yJ3_checkFromIndexSize_8c36e, Cond.static yJ3_checkFromIndexSize_8c36e, Cond.initialized RJ3, Cond.code yJ3_checkFromIndexSize_8c36e cJ3_checkFromIndexSize_8c36e 4 (some .int), Cond.methodLink RJ2 71 yJ2_getChar_3b067, Cond.static yJ2_getChar_3b067, Cond.code yJ2_getChar_3b067 cJ2_getChar_3b067 2 (some .char), Cond.fieldLink RJ2 44 "java/lang/StringUTF16" "$assertionsDisabled" "Z", Cond.fieldLink RJ2 59 "java/lang/StringUTF16" "HI_BYTE_SHIFT" "I", Cond.fieldLink RJ2 63 "java/lang/StringUTF16" "LO_BYTE_SHIFT" "I", Cond.methodLink RJ2 11 yJ2_newBytesLength_0f7a4, Cond.static yJ2_newBytesLength_0f7a4, Cond.code yJ2_newBytesLength_0f7a4 cJ2_newBytesLength_0f7a4 1 (some .int), Cond.constant RJ2 20 (1073741823), Cond.methodLink RJ2 126 yJ7_copyOfRange_39247, Cond.methodLink RJ0 47 yJ2_coderFromArrayLen_85cad, Cond.static yJ2_coderFromArrayLen_85cad, Cond.code yJ2_coderFromArrayLen_85cad cJ2_coderFromArrayLen_85cad 2 (some .byte)]
def wsJ0_init_db425 : List Cond := .code yJ0_init_db425 cJ0_init_db425 5 none :: ((wsJ0_init_db425_r1 ++ (wsJ0_init_db425_r2 ++ (wsJ0_init_db425_r3 ++ wsJ0_init_db425_r4))) ++ wsJ00 ++ wsJ40)
def wsJ0_init_81219_r1 : List Cond := [Cond.methodLink RJ0 489 yJ0_init_db425, Cond.instanceMethod yJ0_init_db425, Cond.initialized RJ0, Cond.code yJ0_init_db425 cJ0_init_db425 5 none, Cond.methodLink RJ0 1 objectInit, Cond.instanceMethod objectInit, Cond.code objectInit ⟨#[0xb1]⟩ 1 none, Cond.fieldLink RJ0 15 "java/lang/String" "coder" "B", Cond.fieldLink RJ0 9 "java/lang/String" "value" "[B", Cond.fieldLink RJ0 38 "java/lang/String" "COMPACT_STRINGS" "Z", Cond.fieldLink RJ0 1048 "java/lang/AbstractStringBuilder" "maybeLatin1" "Z", Cond.methodLink RJ0 552 ⟨"java/lang/AbstractStringBuilder", "getValue", "()[B"⟩, Cond.sameMethod "java/lang/AbstractStringBuilder" "java/lang/AbstractStringBuilder" "getValue" "()[B", Cond.selects RJ4 ⟨"java/lang/AbstractStringBuilder", "getValue", "()[B"⟩ yJ5_getValue_6d5f1, Cond.instanceMethod yJ5_getValue_6d5f1, Cond.initialized RJ5, Cond.code yJ5_getValue_6d5f1 cJ5_getValue_6d5f1 1 (some (.array .byte)), Cond.fieldLink RJ5 15 "java/lang/AbstractStringBuilder" "value" "[B", Cond.methodLink RJ0 549 ⟨"java/lang/AbstractStringBuilder", "length", "()I"⟩, Cond.sameMethod "java/lang/AbstractStringBuilder" "java/lang/AbstractStringBuilder" "length" "()I", Cond.instanceMethod ⟨"java/lang/AbstractStringBuilder", "length", "()I"⟩, Cond.selects RJ4 ⟨"java/lang/AbstractStringBuilder", "length", "()I"⟩ yJ4_length_8abf5, Cond.instanceMethod yJ4_length_8abf5, Cond.initialized RJ4]
def wsJ0_init_81219_r2 : List Cond := [Cond.code yJ4_length_8abf5 cJ4_length_8abf5 1 (some .int), Cond.methodLink RJ4 343 yJ5_length_8abf5, Cond.superclass RJ4 RJ5, Cond.instanceMethod yJ5_length_8abf5, Cond.code yJ5_length_8abf5 cJ5_length_8abf5 1 (some .int), Cond.fieldLink RJ5 79 "java/lang/AbstractStringBuilder" "count" "I", Cond.methodLink RJ0 1047 ⟨"java/lang/AbstractStringBuilder", "isLatin1", "()Z"⟩, Cond.sameMethod "java/lang/AbstractStringBuilder" "java/lang/AbstractStringBuilder" "isLatin1" "()Z", Cond.selects RJ4 ⟨"java/lang/AbstractStringBuilder", "isLatin1", "()Z"⟩ yJ5_isLatin1_aae02, Cond.instanceMethod yJ5_isLatin1_aae02, Cond.code yJ5_isLatin1_aae02 cJ5_isLatin1_aae02 1 (some .boolean), Cond.fieldLink RJ5 18 "java/lang/String" "COMPACT_STRINGS" "Z", Cond.fieldLink RJ5 22 "java/lang/AbstractStringBuilder" "coder" "B", Cond.methodLink RJ0 54 yJ7_copyOfRange_39247, Cond.static yJ7_copyOfRange_39247, Cond.initialized RJ7, Cond.code yJ7_copyOfRange_39247 cJ7_copyOfRange_39247 3 (some (.array .byte)), Cond.methodLink RJ7 310 ⟨"[B", "clone", "()Ljava/lang/Object;"⟩, Cond.sameMethod "[B" "java/lang/Object" "clone" "()Ljava/lang/Object;", Cond.native ⟨"java/lang/Object", "clone", "()Ljava/lang/Object;"⟩, Cond.instanceMethod ⟨"java/lang/Object", "clone", "()Ljava/lang/Object;"⟩, Cond.selects "[B" ⟨"[B", "clone", "()Ljava/lang/Object;"⟩ ⟨"java/lang/Object", "clone", "()Ljava/lang/Object;"⟩, Cond.classLink RJ7 311 "[B", Cond.methodLink RJ7 339 yJ7_copyOfRangeByte_39247]
def wsJ0_init_81219_r3 : List Cond := [Cond.static yJ7_copyOfRangeByte_39247, Cond.code yJ7_copyOfRangeByte_39247 cJ7_copyOfRangeByte_39247 5 (some (.array .byte)), Cond.arrayClass .byte, Cond.methodLink RJ7 304 Lib.Math.min.name, Cond.static Lib.Math.min.name, Cond.initialized "java/lang/Math", Cond.code Lib.Math.min.name Lib.Math.min.code 2 (some .int), Cond.methodLink RJ7 150 arraycopyName, Cond.native arraycopyName, Cond.static arraycopyName, Cond.initialized "java/lang/System", Cond.methodLink RJ7 343 yJ7_checkLength_df160, Cond.static yJ7_checkLength_df160, Cond.code yJ7_checkLength_df160 cJ7_checkLength_df160 2 none, Cond.methodLink RJ0 1051 yJ2_compress_39247, Cond.static yJ2_compress_39247, Cond.initialized RJ2, Cond.code yJ2_compress_39247 cJ2_compress_39247 6 (some (.array .byte)), Cond.methodLink RJ2 123 yJ2_compress_5af95, Cond.static yJ2_compress_5af95, Cond.code yJ2_compress_5af95 cJ2_compress_5af95 7 (some .int), Cond.methodLink RJ2 173 yJ2_checkBoundsOffCount_d044e, Cond.static yJ2_checkBoundsOffCount_d044e, Cond.code yJ2_checkBoundsOffCount_d044e cJ2_checkBoundsOffCount_d044e 3 none]
def wsJ0_init_81219_r4 : List Cond := [Cond.methodLink RJ2 48 yJ2_length_9d52b, Cond.static yJ2_length_9d52b, Cond.code yJ2_length_9d52b cJ2_length_9d52b 1 (some .int), Cond.methodLink RJ2 419 yJ0_checkBoundsOffCount_cabcc, Cond.static yJ0_checkBoundsOffCount_cabcc, Cond.code yJ0_checkBoundsOffCount_cabcc cJ0_checkBoundsOffCount_cabcc 3 (some .int), Cond.fieldLink RJ0 1053 "jdk/internal/util/Preconditions" "SIOOBE_FORMATTER" "Ljava/util/function/BiFunction;", Cond.methodLink RJ0 1065 yJ3_checkFromIndexSize_8c36e, Cond.static yJ3_checkFromIndexSize_8c36e, Cond.initialized RJ3, Cond.code yJ3_checkFromIndexSize_8c36e cJ3_checkFromIndexSize_8c36e 4 (some .int), Cond.methodLink RJ2 71 yJ2_getChar_3b067, Cond.static yJ2_getChar_3b067, Cond.code yJ2_getChar_3b067 cJ2_getChar_3b067 2 (some .char), Cond.fieldLink RJ2 44 "java/lang/StringUTF16" "$assertionsDisabled" "Z", Cond.fieldLink RJ2 59 "java/lang/StringUTF16" "HI_BYTE_SHIFT" "I", Cond.fieldLink RJ2 63 "java/lang/StringUTF16" "LO_BYTE_SHIFT" "I", Cond.methodLink RJ2 11 yJ2_newBytesLength_0f7a4, Cond.static yJ2_newBytesLength_0f7a4, Cond.code yJ2_newBytesLength_0f7a4 cJ2_newBytesLength_0f7a4 1 (some .int), Cond.constant RJ2 20 (1073741823), Cond.methodLink RJ2 126 yJ7_copyOfRange_39247, Cond.methodLink RJ0 47 yJ2_coderFromArrayLen_85cad, Cond.static yJ2_coderFromArrayLen_85cad]
def wsJ0_init_81219_r5 : List Cond := [Cond.code yJ2_coderFromArrayLen_85cad cJ2_coderFromArrayLen_85cad 2 (some .byte)]
def wsJ0_init_81219 : List Cond := .code yJ0_init_81219 cJ0_init_81219 2 none :: ((wsJ0_init_81219_r1 ++ (wsJ0_init_81219_r2 ++ (wsJ0_init_81219_r3 ++ (wsJ0_init_81219_r4 ++ wsJ0_init_81219_r5)))) ++ wsJ00 ++ wsJ40)
def wsJ4_toString_0e30d_r1 : List Cond := [Cond.classLink RJ4 18 RJ0, Cond.instantiable RJ0 4, Cond.initialized RJ0, Cond.methodLink RJ4 137 yJ0_init_81219, Cond.instanceMethod yJ0_init_81219, Cond.code yJ0_init_81219 cJ0_init_81219 2 none, Cond.methodLink RJ0 489 yJ0_init_db425, Cond.instanceMethod yJ0_init_db425, Cond.code yJ0_init_db425 cJ0_init_db425 5 none, Cond.methodLink RJ0 1 objectInit, Cond.instanceMethod objectInit, Cond.code objectInit ⟨#[0xb1]⟩ 1 none, Cond.fieldLink RJ0 15 "java/lang/String" "coder" "B", Cond.fieldLink RJ0 9 "java/lang/String" "value" "[B", Cond.fieldLink RJ0 38 "java/lang/String" "COMPACT_STRINGS" "Z", Cond.fieldLink RJ0 1048 "java/lang/AbstractStringBuilder" "maybeLatin1" "Z", Cond.methodLink RJ0 552 ⟨"java/lang/AbstractStringBuilder", "getValue", "()[B"⟩, Cond.sameMethod "java/lang/AbstractStringBuilder" "java/lang/AbstractStringBuilder" "getValue" "()[B", Cond.selects RJ4 ⟨"java/lang/AbstractStringBuilder", "getValue", "()[B"⟩ yJ5_getValue_6d5f1, Cond.instanceMethod yJ5_getValue_6d5f1, Cond.initialized RJ5, Cond.code yJ5_getValue_6d5f1 cJ5_getValue_6d5f1 1 (some (.array .byte)), Cond.fieldLink RJ5 15 "java/lang/AbstractStringBuilder" "value" "[B", Cond.methodLink RJ0 549 ⟨"java/lang/AbstractStringBuilder", "length", "()I"⟩]
def wsJ4_toString_0e30d_r2 : List Cond := [Cond.sameMethod "java/lang/AbstractStringBuilder" "java/lang/AbstractStringBuilder" "length" "()I", Cond.instanceMethod ⟨"java/lang/AbstractStringBuilder", "length", "()I"⟩, Cond.selects RJ4 ⟨"java/lang/AbstractStringBuilder", "length", "()I"⟩ yJ4_length_8abf5, Cond.instanceMethod yJ4_length_8abf5, Cond.initialized RJ4, Cond.code yJ4_length_8abf5 cJ4_length_8abf5 1 (some .int), Cond.methodLink RJ4 343 yJ5_length_8abf5, Cond.superclass RJ4 RJ5, Cond.instanceMethod yJ5_length_8abf5, Cond.code yJ5_length_8abf5 cJ5_length_8abf5 1 (some .int), Cond.fieldLink RJ5 79 "java/lang/AbstractStringBuilder" "count" "I", Cond.methodLink RJ0 1047 ⟨"java/lang/AbstractStringBuilder", "isLatin1", "()Z"⟩, Cond.sameMethod "java/lang/AbstractStringBuilder" "java/lang/AbstractStringBuilder" "isLatin1" "()Z", Cond.selects RJ4 ⟨"java/lang/AbstractStringBuilder", "isLatin1", "()Z"⟩ yJ5_isLatin1_aae02, Cond.instanceMethod yJ5_isLatin1_aae02, Cond.code yJ5_isLatin1_aae02 cJ5_isLatin1_aae02 1 (some .boolean), Cond.fieldLink RJ5 18 "java/lang/String" "COMPACT_STRINGS" "Z", Cond.fieldLink RJ5 22 "java/lang/AbstractStringBuilder" "coder" "B", Cond.methodLink RJ0 54 yJ7_copyOfRange_39247, Cond.static yJ7_copyOfRange_39247, Cond.initialized RJ7, Cond.code yJ7_copyOfRange_39247 cJ7_copyOfRange_39247 3 (some (.array .byte)), Cond.methodLink RJ7 310 ⟨"[B", "clone", "()Ljava/lang/Object;"⟩, Cond.sameMethod "[B" "java/lang/Object" "clone" "()Ljava/lang/Object;"]
def wsJ4_toString_0e30d_r3 : List Cond := [Cond.native ⟨"java/lang/Object", "clone", "()Ljava/lang/Object;"⟩, Cond.instanceMethod ⟨"java/lang/Object", "clone", "()Ljava/lang/Object;"⟩, Cond.selects "[B" ⟨"[B", "clone", "()Ljava/lang/Object;"⟩ ⟨"java/lang/Object", "clone", "()Ljava/lang/Object;"⟩, Cond.classLink RJ7 311 "[B", Cond.methodLink RJ7 339 yJ7_copyOfRangeByte_39247, Cond.static yJ7_copyOfRangeByte_39247, Cond.code yJ7_copyOfRangeByte_39247 cJ7_copyOfRangeByte_39247 5 (some (.array .byte)), Cond.arrayClass .byte, Cond.methodLink RJ7 304 Lib.Math.min.name, Cond.static Lib.Math.min.name, Cond.initialized "java/lang/Math", Cond.code Lib.Math.min.name Lib.Math.min.code 2 (some .int), Cond.methodLink RJ7 150 arraycopyName, Cond.native arraycopyName, Cond.static arraycopyName, Cond.initialized "java/lang/System", Cond.methodLink RJ7 343 yJ7_checkLength_df160, Cond.static yJ7_checkLength_df160, Cond.code yJ7_checkLength_df160 cJ7_checkLength_df160 2 none, Cond.methodLink RJ0 1051 yJ2_compress_39247, Cond.static yJ2_compress_39247, Cond.initialized RJ2, Cond.code yJ2_compress_39247 cJ2_compress_39247 6 (some (.array .byte)), Cond.methodLink RJ2 123 yJ2_compress_5af95]
def wsJ4_toString_0e30d_r4 : List Cond := [Cond.static yJ2_compress_5af95, Cond.code yJ2_compress_5af95 cJ2_compress_5af95 7 (some .int), Cond.methodLink RJ2 173 yJ2_checkBoundsOffCount_d044e, Cond.static yJ2_checkBoundsOffCount_d044e, Cond.code yJ2_checkBoundsOffCount_d044e cJ2_checkBoundsOffCount_d044e 3 none, Cond.methodLink RJ2 48 yJ2_length_9d52b, Cond.static yJ2_length_9d52b, Cond.code yJ2_length_9d52b cJ2_length_9d52b 1 (some .int), Cond.methodLink RJ2 419 yJ0_checkBoundsOffCount_cabcc, Cond.static yJ0_checkBoundsOffCount_cabcc, Cond.code yJ0_checkBoundsOffCount_cabcc cJ0_checkBoundsOffCount_cabcc 3 (some .int), Cond.fieldLink RJ0 1053 "jdk/internal/util/Preconditions" "SIOOBE_FORMATTER" "Ljava/util/function/BiFunction;", Cond.methodLink RJ0 1065 yJ3_checkFromIndexSize_8c36e, Cond.static yJ3_checkFromIndexSize_8c36e, Cond.initialized RJ3, Cond.code yJ3_checkFromIndexSize_8c36e cJ3_checkFromIndexSize_8c36e 4 (some .int), Cond.methodLink RJ2 71 yJ2_getChar_3b067, Cond.static yJ2_getChar_3b067, Cond.code yJ2_getChar_3b067 cJ2_getChar_3b067 2 (some .char), Cond.fieldLink RJ2 44 "java/lang/StringUTF16" "$assertionsDisabled" "Z", Cond.fieldLink RJ2 59 "java/lang/StringUTF16" "HI_BYTE_SHIFT" "I", Cond.fieldLink RJ2 63 "java/lang/StringUTF16" "LO_BYTE_SHIFT" "I", Cond.methodLink RJ2 11 yJ2_newBytesLength_0f7a4, Cond.static yJ2_newBytesLength_0f7a4]
def wsJ4_toString_0e30d_r5 : List Cond := [Cond.code yJ2_newBytesLength_0f7a4 cJ2_newBytesLength_0f7a4 1 (some .int), Cond.constant RJ2 20 (1073741823), Cond.methodLink RJ2 126 yJ7_copyOfRange_39247, Cond.methodLink RJ0 47 yJ2_coderFromArrayLen_85cad, Cond.static yJ2_coderFromArrayLen_85cad, Cond.code yJ2_coderFromArrayLen_85cad cJ2_coderFromArrayLen_85cad 2 (some .byte)]
def wsJ4_toString_0e30d : List Cond := .code yJ4_toString_0e30d cJ4_toString_0e30d 1 (some (.object "java/lang/String")) :: ((wsJ4_toString_0e30d_r1 ++ (wsJ4_toString_0e30d_r2 ++ (wsJ4_toString_0e30d_r3 ++ (wsJ4_toString_0e30d_r4 ++ wsJ4_toString_0e30d_r5)))) ++ wsJ00 ++ wsJ40)
def wsX5_row_r1 : List Cond := [Cond.classLink RX5 185 RJ4, Cond.instantiable RJ4 4, Cond.initialized RJ4, Cond.fieldLink RX5 27 "PinBarrel" "comb" "LPinBarrel$Comb;", Cond.fieldLink RX5 45 "PinBarrel$Comb" "count" "I", Cond.methodLink RX5 176 yX5_needPlace, Cond.static yX5_needPlace, Cond.initialized RX5, Cond.code yX5_needPlace cX5_needPlace 1 none, Cond.classLink RX5 321 "java/lang/IndexOutOfBoundsException", Cond.initialized "java/lang/IndexOutOfBoundsException", Cond.methodLink RX5 187 yJ4_init_da8c8, Cond.instanceMethod yJ4_init_da8c8, Cond.code yJ4_init_da8c8 cJ4_init_da8c8 1 none, Cond.methodLink RJ4 1 yJ5_init_d00df, Cond.instanceMethod yJ5_init_d00df, Cond.initialized RJ5, Cond.code yJ5_init_d00df cJ5_init_d00df 2 none, Cond.methodLink RJ5 3 objectInit, Cond.instanceMethod objectInit, Cond.code objectInit ⟨#[0xb1]⟩ 1 none, Cond.fieldLink RJ5 18 "java/lang/String" "COMPACT_STRINGS" "Z", Cond.arrayClass .byte, Cond.fieldLink RJ5 15 "java/lang/AbstractStringBuilder" "value" "[B"]
def wsX5_row_r2 : List Cond := [Cond.fieldLink RJ5 22 "java/lang/AbstractStringBuilder" "coder" "B", Cond.methodLink RJ5 26 yJ2_newBytesFor_77867, Cond.static yJ2_newBytesFor_77867, Cond.initialized RJ2, Cond.code yJ2_newBytesFor_77867 cJ2_newBytesFor_77867 1 (some (.array .byte)), Cond.methodLink RJ2 11 yJ2_newBytesLength_0f7a4, Cond.static yJ2_newBytesLength_0f7a4, Cond.code yJ2_newBytesLength_0f7a4 cJ2_newBytesLength_0f7a4 1 (some .int), Cond.constant RJ2 20 (1073741823), Cond.methodLink RX5 188 yX5_signOf, Cond.instanceMethod yX5_signOf, Cond.selects RX5 yX5_signOf yX5_signOf, Cond.code yX5_signOf cX5_signOf 3 (some .char), Cond.fieldLink RX5 159 "PinBarrel$Comb" "broken" "[Z", Cond.fieldLink RX5 32 "PinBarrel" "barrel" "LPinBarrel$Barrel;", Cond.fieldLink RX5 19 "PinBarrel" "works" "LPinBarrel$Works;", Cond.fieldLink RX5 112 "PinBarrel$Works" "shift" "I", Cond.methodLink RX5 179 yX0_hasPin, Cond.instanceMethod yX0_hasPin, Cond.selects RX0 yX0_hasPin yX0_hasPin, Cond.initialized RX0, Cond.code yX0_hasPin cX0_hasPin 4 (some .boolean), Cond.fieldLink RX0 9 "PinBarrel$Barrel" "places" "[J", Cond.methodLink RX0 21 yX0_lineAt]
def wsX5_row_r3 : List Cond := [Cond.static yX0_lineAt, Cond.code yX0_lineAt cX0_lineAt 2 (some .int), Cond.methodLink RX5 192 yJ4_append_cf468, Cond.instanceMethod yJ4_append_cf468, Cond.selects RJ4 yJ4_append_cf468 yJ4_append_cf468, Cond.code yJ4_append_cf468 cJ4_append_cf468 2 (some (.object "java/lang/StringBuilder")), Cond.methodLink RJ4 50 yJ5_append_3fe6f, Cond.sameMethod "java/lang/AbstractStringBuilder" "java/lang/AbstractStringBuilder" "append" "(C)Ljava/lang/AbstractStringBuilder;", Cond.superclass RJ4 RJ5, Cond.instanceMethod yJ5_append_3fe6f, Cond.code yJ5_append_3fe6f cJ5_append_3fe6f 2 (some (.object "java/lang/AbstractStringBuilder")), Cond.fieldLink RJ5 79 "java/lang/AbstractStringBuilder" "count" "I", Cond.methodLink RJ5 100 ⟨"java/lang/AbstractStringBuilder", "ensureCapacityInternal", "(I)V"⟩, Cond.sameMethod "java/lang/AbstractStringBuilder" "java/lang/AbstractStringBuilder" "ensureCapacityInternal" "(I)V", Cond.selects RJ4 ⟨"java/lang/AbstractStringBuilder", "ensureCapacityInternal", "(I)V"⟩ yJ5_ensureCapacityInternal_d00df, Cond.instanceMethod yJ5_ensureCapacityInternal_d00df, Cond.code yJ5_ensureCapacityInternal_d00df cJ5_ensureCapacityInternal_d00df 3 none, Cond.methodLink RJ5 104 ⟨"java/lang/AbstractStringBuilder", "newCapacity", "(I)I"⟩, Cond.sameMethod "java/lang/AbstractStringBuilder" "java/lang/AbstractStringBuilder" "newCapacity" "(I)I", Cond.selects RJ4 ⟨"java/lang/AbstractStringBuilder", "newCapacity", "(I)I"⟩ yJ5_newCapacity_0f7a4, Cond.instanceMethod yJ5_newCapacity_0f7a4, Cond.code yJ5_newCapacity_0f7a4 cJ5_newCapacity_0f7a4 6 (some .int), Cond.constant RJ5 39 (2147483647), Cond.methodLink RJ5 114 yJ8_newLength_cabcc]
def wsX5_row_r4 : List Cond := [Cond.static yJ8_newLength_cabcc, Cond.initialized RJ8, Cond.code yJ8_newLength_cabcc cJ8_newLength_cabcc 4 (some .int), Cond.methodLink RJ8 194 Lib.Math.max.name, Cond.static Lib.Math.max.name, Cond.initialized "java/lang/Math", Cond.code Lib.Math.max.name Lib.Math.max.code 2 (some .int), Cond.constant RJ8 200 (2147483639), Cond.methodLink RJ8 201 yJ8_hugeLength_7cf53, Cond.static yJ8_hugeLength_7cf53, Cond.code yJ8_hugeLength_7cf53 cJ8_hugeLength_7cf53 3 (some .int), Cond.methodLink RJ5 108 yJ7_copyOf_9075b, Cond.static yJ7_copyOf_9075b, Cond.initialized RJ7, Cond.code yJ7_copyOf_9075b cJ7_copyOf_9075b 3 (some (.array .byte)), Cond.methodLink RJ7 310 ⟨"[B", "clone", "()Ljava/lang/Object;"⟩, Cond.sameMethod "[B" "java/lang/Object" "clone" "()Ljava/lang/Object;", Cond.native ⟨"java/lang/Object", "clone", "()Ljava/lang/Object;"⟩, Cond.instanceMethod ⟨"java/lang/Object", "clone", "()Ljava/lang/Object;"⟩, Cond.selects "[B" ⟨"[B", "clone", "()Ljava/lang/Object;"⟩ ⟨"java/lang/Object", "clone", "()Ljava/lang/Object;"⟩, Cond.classLink RJ7 311 "[B", Cond.methodLink RJ7 304 Lib.Math.min.name, Cond.static Lib.Math.min.name, Cond.code Lib.Math.min.name Lib.Math.min.code 2 (some .int)]
def wsX5_row_r5 : List Cond := [Cond.methodLink RJ7 150 arraycopyName, Cond.native arraycopyName, Cond.static arraycopyName, Cond.initialized "java/lang/System", Cond.methodLink RJ5 83 ⟨"java/lang/AbstractStringBuilder", "isLatin1", "()Z"⟩, Cond.sameMethod "java/lang/AbstractStringBuilder" "java/lang/AbstractStringBuilder" "isLatin1" "()Z", Cond.selects RJ4 ⟨"java/lang/AbstractStringBuilder", "isLatin1", "()Z"⟩ yJ5_isLatin1_aae02, Cond.instanceMethod yJ5_isLatin1_aae02, Cond.code yJ5_isLatin1_aae02 cJ5_isLatin1_aae02 1 (some .boolean), Cond.methodLink RJ5 191 yJ1_canEncode_fc78d, Cond.static yJ1_canEncode_fc78d, Cond.initialized RJ1, Cond.code yJ1_canEncode_fc78d cJ1_canEncode_fc78d 1 (some .boolean), Cond.methodLink RJ5 195 ⟨"java/lang/AbstractStringBuilder", "inflate", "()V"⟩, Cond.sameMethod "java/lang/AbstractStringBuilder" "java/lang/AbstractStringBuilder" "inflate" "()V", Cond.selects RJ4 ⟨"java/lang/AbstractStringBuilder", "inflate", "()V"⟩ yJ5_inflate_da8c8, Cond.instanceMethod yJ5_inflate_da8c8, Cond.code yJ5_inflate_da8c8 cJ5_inflate_da8c8 2 none, Cond.methodLink RJ5 125 yJ1_inflate_0e8fd, Cond.static yJ1_inflate_0e8fd, Cond.code yJ1_inflate_0e8fd cJ1_inflate_0e8fd 5 none, Cond.methodLink RJ1 240 yJ2_inflate_0e8fd, Cond.static yJ2_inflate_0e8fd, Cond.code yJ2_inflate_0e8fd cJ2_inflate_0e8fd 6 none]
def wsX5_row_r6 : List Cond := [Cond.methodLink RJ2 173 yJ2_checkBoundsOffCount_d044e, Cond.static yJ2_checkBoundsOffCount_d044e, Cond.code yJ2_checkBoundsOffCount_d044e cJ2_checkBoundsOffCount_d044e 3 none, Cond.methodLink RJ2 48 yJ2_length_9d52b, Cond.static yJ2_length_9d52b, Cond.code yJ2_length_9d52b cJ2_length_9d52b 1 (some .int), Cond.methodLink RJ2 419 yJ0_checkBoundsOffCount_cabcc, Cond.static yJ0_checkBoundsOffCount_cabcc, Cond.initialized RJ0, Cond.code yJ0_checkBoundsOffCount_cabcc cJ0_checkBoundsOffCount_cabcc 3 (some .int), Cond.fieldLink RJ0 1053 "jdk/internal/util/Preconditions" "SIOOBE_FORMATTER" "Ljava/util/function/BiFunction;", Cond.methodLink RJ0 1065 yJ3_checkFromIndexSize_8c36e, Cond.static yJ3_checkFromIndexSize_8c36e, Cond.initialized RJ3, Cond.code yJ3_checkFromIndexSize_8c36e cJ3_checkFromIndexSize_8c36e 4 (some .int), Cond.methodLink RJ2 111 yJ2_putChar_b72d1, Cond.static yJ2_putChar_b72d1, Cond.code yJ2_putChar_b72d1 cJ2_putChar_b72d1 3 none, Cond.fieldLink RJ2 44 "java/lang/StringUTF16" "$assertionsDisabled" "Z", Cond.fieldLink RJ2 59 "java/lang/StringUTF16" "HI_BYTE_SHIFT" "I", Cond.fieldLink RJ2 63 "java/lang/StringUTF16" "LO_BYTE_SHIFT" "I", Cond.methodLink RJ5 197 yJ2_putCharSB_b72d1, Cond.static yJ2_putCharSB_b72d1, Cond.code yJ2_putCharSB_b72d1 cJ2_putCharSB_b72d1 3 none]
def wsX5_row_r7 : List Cond := [Cond.methodLink RJ2 67 yJ2_checkIndex_2214a, Cond.static yJ2_checkIndex_2214a, Cond.code yJ2_checkIndex_2214a cJ2_checkIndex_2214a 2 none, Cond.methodLink RJ2 414 yJ0_checkIndex_df160, Cond.static yJ0_checkIndex_df160, Cond.code yJ0_checkIndex_df160 cJ0_checkIndex_df160 2 none, Cond.methodLink RJ0 1059 yJ3_checkIndex_8e157, Cond.static yJ3_checkIndex_8e157, Cond.code yJ3_checkIndex_8e157 cJ3_checkIndex_8e157 3 (some .int), Cond.methodLink RX5 196 yJ4_toString_0e30d, Cond.instanceMethod yJ4_toString_0e30d, Cond.selects RJ4 yJ4_toString_0e30d yJ4_toString_0e30d, Cond.code yJ4_toString_0e30d cJ4_toString_0e30d 1 (some (.object "java/lang/String")), Cond.classLink RJ4 18 RJ0, Cond.instantiable RJ0 4, Cond.methodLink RJ4 137 yJ0_init_81219, Cond.instanceMethod yJ0_init_81219, Cond.code yJ0_init_81219 cJ0_init_81219 2 none, Cond.methodLink RJ0 489 yJ0_init_db425, Cond.instanceMethod yJ0_init_db425, Cond.code yJ0_init_db425 cJ0_init_db425 5 none, Cond.methodLink RJ0 1 objectInit, Cond.fieldLink RJ0 15 "java/lang/String" "coder" "B", Cond.fieldLink RJ0 9 "java/lang/String" "value" "[B"]
def wsX5_row_r8 : List Cond := [Cond.fieldLink RJ0 38 "java/lang/String" "COMPACT_STRINGS" "Z", Cond.fieldLink RJ0 1048 "java/lang/AbstractStringBuilder" "maybeLatin1" "Z", Cond.methodLink RJ0 552 ⟨"java/lang/AbstractStringBuilder", "getValue", "()[B"⟩, Cond.sameMethod "java/lang/AbstractStringBuilder" "java/lang/AbstractStringBuilder" "getValue" "()[B", Cond.selects RJ4 ⟨"java/lang/AbstractStringBuilder", "getValue", "()[B"⟩ yJ5_getValue_6d5f1, Cond.instanceMethod yJ5_getValue_6d5f1, Cond.code yJ5_getValue_6d5f1 cJ5_getValue_6d5f1 1 (some (.array .byte)), Cond.methodLink RJ0 549 ⟨"java/lang/AbstractStringBuilder", "length", "()I"⟩, Cond.sameMethod "java/lang/AbstractStringBuilder" "java/lang/AbstractStringBuilder" "length" "()I", Cond.instanceMethod ⟨"java/lang/AbstractStringBuilder", "length", "()I"⟩, Cond.selects RJ4 ⟨"java/lang/AbstractStringBuilder", "length", "()I"⟩ yJ4_length_8abf5, Cond.instanceMethod yJ4_length_8abf5, Cond.code yJ4_length_8abf5 cJ4_length_8abf5 1 (some .int), Cond.methodLink RJ4 343 yJ5_length_8abf5, Cond.instanceMethod yJ5_length_8abf5, Cond.code yJ5_length_8abf5 cJ5_length_8abf5 1 (some .int), Cond.methodLink RJ0 1047 ⟨"java/lang/AbstractStringBuilder", "isLatin1", "()Z"⟩, Cond.methodLink RJ0 54 yJ7_copyOfRange_39247, Cond.static yJ7_copyOfRange_39247, Cond.code yJ7_copyOfRange_39247 cJ7_copyOfRange_39247 3 (some (.array .byte)), Cond.methodLink RJ7 339 yJ7_copyOfRangeByte_39247, Cond.static yJ7_copyOfRangeByte_39247, Cond.code yJ7_copyOfRangeByte_39247 cJ7_copyOfRangeByte_39247 5 (some (.array .byte)), Cond.methodLink RJ7 343 yJ7_checkLength_df160]
def wsX5_row_r9 : List Cond := [Cond.static yJ7_checkLength_df160, Cond.code yJ7_checkLength_df160 cJ7_checkLength_df160 2 none, Cond.methodLink RJ0 1051 yJ2_compress_39247, Cond.static yJ2_compress_39247, Cond.code yJ2_compress_39247 cJ2_compress_39247 6 (some (.array .byte)), Cond.methodLink RJ2 123 yJ2_compress_5af95, Cond.static yJ2_compress_5af95, Cond.code yJ2_compress_5af95 cJ2_compress_5af95 7 (some .int), Cond.methodLink RJ2 71 yJ2_getChar_3b067, Cond.static yJ2_getChar_3b067, Cond.code yJ2_getChar_3b067 cJ2_getChar_3b067 2 (some .char), Cond.methodLink RJ2 126 yJ7_copyOfRange_39247, Cond.methodLink RJ0 47 yJ2_coderFromArrayLen_85cad, Cond.static yJ2_coderFromArrayLen_85cad, Cond.code yJ2_coderFromArrayLen_85cad cJ2_coderFromArrayLen_85cad 2 (some .byte)]
def wsX5_row : List Cond := .code yX5_row cX5_row 4 (some (.object "java/lang/String")) :: ((wsX5_row_r1 ++ (wsX5_row_r2 ++ (wsX5_row_r3 ++ (wsX5_row_r4 ++ (wsX5_row_r5 ++ (wsX5_row_r6 ++ (wsX5_row_r7 ++ (wsX5_row_r8 ++ wsX5_row_r9)))))))) ++ wsJ40 ++ wsX50 ++ wsX10 ++ wsX40 ++ wsX00 ++ wsJ00 ++ (vx_atS RX5 325 "java/lang/IndexOutOfBoundsException" ["java/lang/RuntimeException", "java/lang/Exception"]).filter goodWord)
def wsX5_ofTune_r1 : List Cond := [Cond.fieldLink RX5 10 "PinBarrel" "tunes" "LPinBarrel$Tunes;", Cond.fieldLink RX5 84 "PinBarrel$Tunes" "size" "[I", Cond.methodLink RX5 72 yX5_needTune, Cond.instanceMethod yX5_needTune, Cond.selects RX5 yX5_needTune yX5_needTune, Cond.initialized RX5, Cond.code yX5_needTune cX5_needTune 2 none, Cond.classLink RX5 321 "java/lang/IndexOutOfBoundsException", Cond.initialized "java/lang/IndexOutOfBoundsException", Cond.fieldLink RX5 69 "PinBarrel$Tunes" "count" "I", Cond.methodLink RX5 155 yX5_needQuestion, Cond.static yX5_needQuestion, Cond.code yX5_needQuestion cX5_needQuestion 2 none, Cond.classLink RX5 75 "java/lang/IllegalArgumentException", Cond.initialized "java/lang/IllegalArgumentException", Cond.methodLink RX5 200 yX3_lowest, Cond.instanceMethod yX3_lowest, Cond.selects RX3 yX3_lowest yX3_lowest, Cond.initialized RX3, Cond.code yX3_lowest cX3_lowest 5 (some .int), Cond.fieldLink RX3 9 "PinBarrel$Tunes" "size" "[I", Cond.methodLink RX3 22 yX3_pitchOf, Cond.instanceMethod yX3_pitchOf, Cond.selects RX3 yX3_pitchOf yX3_pitchOf]
def wsX5_ofTune_r2 : List Cond := [Cond.code yX3_pitchOf cX3_pitchOf 3 (some .int), Cond.fieldLink RX3 15 "PinBarrel$Tunes" "notes" "[I", Cond.methodLink RX5 203 yX3_highest, Cond.instanceMethod yX3_highest, Cond.selects RX3 yX3_highest yX3_highest, Cond.code yX3_highest cX3_highest 4 (some .int), Cond.methodLink RX3 25 Lib.Math.max.name, Cond.static Lib.Math.max.name, Cond.initialized "java/lang/Math", Cond.code Lib.Math.max.name Lib.Math.max.code 2 (some .int), Cond.methodLink RX5 206 yX3_times, Cond.instanceMethod yX3_times, Cond.selects RX3 yX3_times yX3_times, Cond.code yX3_times cX3_times 4 (some .int), Cond.methodLink RX3 30 yX3_timeOf, Cond.instanceMethod yX3_timeOf, Cond.selects RX3 yX3_timeOf yX3_timeOf, Cond.code yX3_timeOf cX3_timeOf 3 (some .int), Cond.methodLink RX5 209 yX3_mostAtOnce, Cond.instanceMethod yX3_mostAtOnce, Cond.selects RX3 yX3_mostAtOnce yX3_mostAtOnce, Cond.code yX3_mostAtOnce cX3_mostAtOnce 6 (some .int)]
def wsX5_ofTune : List Cond := .code yX5_ofTune cX5_ofTune 3 (some .int) :: ((wsX5_ofTune_r1 ++ wsX5_ofTune_r2) ++ wsX50 ++ wsX30 ++ (vx_atS RX5 325 "java/lang/IndexOutOfBoundsException" ["java/lang/RuntimeException", "java/lang/Exception"]).filter goodWord ++ (vx_atS RX5 79 "java/lang/IllegalArgumentException" ["java/lang/RuntimeException", "java/lang/Exception"]).filter goodWord)
def wsX5_likeness_r1 : List Cond := [Cond.fieldLink RX5 10 "PinBarrel" "tunes" "LPinBarrel$Tunes;", Cond.fieldLink RX5 84 "PinBarrel$Tunes" "size" "[I", Cond.methodLink RX5 212 Lib.Math.max.name, Cond.static Lib.Math.max.name, Cond.initialized "java/lang/Math", Cond.code Lib.Math.max.name Lib.Math.max.code 2 (some .int), Cond.methodLink RX5 72 yX5_needTune, Cond.instanceMethod yX5_needTune, Cond.selects RX5 yX5_needTune yX5_needTune, Cond.initialized RX5, Cond.code yX5_needTune cX5_needTune 2 none, Cond.classLink RX5 321 "java/lang/IndexOutOfBoundsException", Cond.initialized "java/lang/IndexOutOfBoundsException", Cond.fieldLink RX5 69 "PinBarrel$Tunes" "count" "I", Cond.methodLink RX5 99 yX5_needKey, Cond.static yX5_needKey, Cond.code yX5_needKey cX5_needKey 1 none, Cond.classLink RX5 75 "java/lang/IllegalArgumentException", Cond.initialized "java/lang/IllegalArgumentException", Cond.methodLink RX5 215 yX3_shared, Cond.instanceMethod yX3_shared, Cond.selects RX3 yX3_shared yX3_shared, Cond.initialized RX3, Cond.code yX3_shared cX3_shared 7 (some .int)]
def wsX5_likeness_r2 : List Cond := [Cond.fieldLink RX3 9 "PinBarrel$Tunes" "size" "[I", Cond.methodLink RX3 22 yX3_pitchOf, Cond.instanceMethod yX3_pitchOf, Cond.selects RX3 yX3_pitchOf yX3_pitchOf, Cond.code yX3_pitchOf cX3_pitchOf 3 (some .int), Cond.fieldLink RX3 15 "PinBarrel$Tunes" "notes" "[I", Cond.methodLink RX3 30 yX3_timeOf, Cond.instanceMethod yX3_timeOf, Cond.selects RX3 yX3_timeOf yX3_timeOf, Cond.code yX3_timeOf cX3_timeOf 3 (some .int), Cond.methodLink RX3 33 yX3_holds, Cond.instanceMethod yX3_holds, Cond.selects RX3 yX3_holds yX3_holds, Cond.code yX3_holds cX3_holds 6 (some .boolean), Cond.methodLink RX3 18 yX3_rankOf, Cond.instanceMethod yX3_rankOf, Cond.selects RX3 yX3_rankOf yX3_rankOf, Cond.code yX3_rankOf cX3_rankOf 4 (some .int)]
def wsX5_likeness : List Cond := .code yX5_likeness cX5_likeness 5 (some .double) :: ((wsX5_likeness_r1 ++ wsX5_likeness_r2) ++ wsX50 ++ wsX30 ++ (vx_atS RX5 325 "java/lang/IndexOutOfBoundsException" ["java/lang/RuntimeException", "java/lang/Exception"]).filter goodWord ++ (vx_atS RX5 79 "java/lang/IllegalArgumentException" ["java/lang/RuntimeException", "java/lang/Exception"]).filter goodWord)
def wsX5_needSound : List Cond := .code yX5_needSound cX5_needSound 2 none :: ([.classLink RX5 321 "java/lang/IndexOutOfBoundsException", .initialized "java/lang/IndexOutOfBoundsException", .fieldLink RX5 37 "PinBarrel" "sounds" "LPinBarrel$Sounds;", .fieldLink RX5 251 "PinBarrel$Sounds" "kept" "I"] ++ wsX50 ++ wsX20 ++ (vx_atS RX5 325 "java/lang/IndexOutOfBoundsException" ["java/lang/RuntimeException", "java/lang/Exception"]).filter goodWord)
def wsX5_heard : List Cond := .code yX5_heard cX5_heard 2 (some .int) :: ([.fieldLink RX5 37 "PinBarrel" "sounds" "LPinBarrel$Sounds;", .methodLink RX5 218 yX5_needSound, .instanceMethod yX5_needSound, .selects RX5 yX5_needSound yX5_needSound, .initialized RX5, .code yX5_needSound cX5_needSound 2 none, .classLink RX5 321 "java/lang/IndexOutOfBoundsException", .initialized "java/lang/IndexOutOfBoundsException", .fieldLink RX5 251 "PinBarrel$Sounds" "kept" "I", .methodLink RX5 221 yX2_pitchOf, .instanceMethod yX2_pitchOf, .selects RX2 yX2_pitchOf yX2_pitchOf, .initialized RX2, .code yX2_pitchOf cX2_pitchOf 2 (some .int), .fieldLink RX2 9 "PinBarrel$Sounds" "pitches" "[I", .methodLink RX2 23 yX2_roomOf, .instanceMethod yX2_roomOf, .selects RX2 yX2_roomOf yX2_roomOf, .code yX2_roomOf cX2_roomOf 2 (some .int), .fieldLink RX2 19 "PinBarrel$Sounds" "oldest" "I"] ++ wsX50 ++ wsX20 ++ (vx_atS RX5 325 "java/lang/IndexOutOfBoundsException" ["java/lang/RuntimeException", "java/lang/Exception"]).filter goodWord)
def wsX5_nearestWhole : List Cond := .code yX5_nearestWhole cX5_nearestWhole 6 (some .long) :: ([.constantDouble RX5 319 (4602678819172646912)])
def wsX5_when_r1 : List Cond := [Cond.constantDouble RX5 224 (4620693217682128896), Cond.fieldLink RX5 37 "PinBarrel" "sounds" "LPinBarrel$Sounds;", Cond.methodLink RX5 218 yX5_needSound, Cond.instanceMethod yX5_needSound, Cond.selects RX5 yX5_needSound yX5_needSound, Cond.initialized RX5, Cond.code yX5_needSound cX5_needSound 2 none, Cond.classLink RX5 321 "java/lang/IndexOutOfBoundsException", Cond.initialized "java/lang/IndexOutOfBoundsException", Cond.fieldLink RX5 251 "PinBarrel$Sounds" "kept" "I", Cond.methodLink RX5 226 yX2_clockOf, Cond.instanceMethod yX2_clockOf, Cond.selects RX2 yX2_clockOf yX2_clockOf, Cond.initialized RX2, Cond.code yX2_clockOf cX2_clockOf 2 (some .double), Cond.fieldLink RX2 15 "PinBarrel$Sounds" "clocks" "[D", Cond.methodLink RX2 23 yX2_roomOf, Cond.instanceMethod yX2_roomOf, Cond.selects RX2 yX2_roomOf yX2_roomOf, Cond.code yX2_roomOf cX2_roomOf 2 (some .int), Cond.fieldLink RX2 19 "PinBarrel$Sounds" "oldest" "I", Cond.methodLink RX5 230 yX5_nearestWhole, Cond.static yX5_nearestWhole, Cond.code yX5_nearestWhole cX5_nearestWhole 6 (some .long)]
def wsX5_when_r2 : List Cond := [Cond.constantDouble RX5 319 (4602678819172646912)]
def wsX5_when : List Cond := .code yX5_when cX5_when 2 (some .double) :: ((wsX5_when_r1 ++ wsX5_when_r2) ++ wsX50 ++ wsX20 ++ (vx_atS RX5 325 "java/lang/IndexOutOfBoundsException" ["java/lang/RuntimeException", "java/lang/Exception"]).filter goodWord)
def wsX5_allPins : List Cond := .code yX5_allPins cX5_allPins 3 (some .int) :: ([.fieldLink RX5 27 "PinBarrel" "comb" "LPinBarrel$Comb;", .fieldLink RX5 45 "PinBarrel$Comb" "count" "I", .fieldLink RX5 32 "PinBarrel" "barrel" "LPinBarrel$Barrel;", .methodLink RX5 169 yX0_pinsOfTooth, .instanceMethod yX0_pinsOfTooth, .selects RX0 yX0_pinsOfTooth yX0_pinsOfTooth, .initialized RX0, .code yX0_pinsOfTooth cX0_pinsOfTooth 4 (some .int), .methodLink RX0 29 yX0_placesOf, .instanceMethod yX0_placesOf, .selects RX0 yX0_placesOf yX0_placesOf, .code yX0_placesOf cX0_placesOf 3 (some .long), .fieldLink RX0 9 "PinBarrel$Barrel" "places" "[J", .methodLink RX0 21 yX0_lineAt, .static yX0_lineAt, .code yX0_lineAt cX0_lineAt 2 (some .int), .methodLink RX0 33 yJ13_bitCount_95d88, .static yJ13_bitCount_95d88, .initialized RJ13, .code yJ13_bitCount_95d88 cJ13_bitCount_95d88 2 (some .int), .constantLong RJ13 314 (6148914691236517205), .constantLong RJ13 316 (3689348814741910323), .constantLong RJ13 318 (1085102592571150095)] ++ wsX50 ++ wsX10 ++ wsX00)
def wsX5_many_r1 : List Cond := [Cond.fieldLink RX5 27 "PinBarrel" "comb" "LPinBarrel$Comb;", Cond.fieldLink RX5 45 "PinBarrel$Comb" "count" "I", Cond.fieldLink RX5 10 "PinBarrel" "tunes" "LPinBarrel$Tunes;", Cond.fieldLink RX5 69 "PinBarrel$Tunes" "count" "I", Cond.fieldLink RX5 19 "PinBarrel" "works" "LPinBarrel$Works;", Cond.fieldLink RX5 245 "PinBarrel$Works" "place" "I", Cond.fieldLink RX5 112 "PinBarrel$Works" "shift" "I", Cond.fieldLink RX5 117 "PinBarrel$Works" "wound" "I", Cond.fieldLink RX5 131 "PinBarrel$Works" "governor" "I", Cond.fieldLink RX5 248 "PinBarrel$Works" "steps" "I", Cond.fieldLink RX5 37 "PinBarrel" "sounds" "LPinBarrel$Sounds;", Cond.fieldLink RX5 141 "PinBarrel$Sounds" "ever" "I", Cond.fieldLink RX5 251 "PinBarrel$Sounds" "kept" "I", Cond.fieldLink RX5 254 "PinBarrel$Works" "buzzes" "I", Cond.fieldLink RX5 257 "PinBarrel$Works" "wornOut" "I", Cond.fieldLink RX5 120 "PinBarrel" "knocks" "I", Cond.fieldLink RX5 260 "PinBarrel$Works" "clock" "D", Cond.methodLink RX5 155 yX5_needQuestion, Cond.static yX5_needQuestion, Cond.initialized RX5, Cond.code yX5_needQuestion cX5_needQuestion 2 none, Cond.classLink RX5 75 "java/lang/IllegalArgumentException", Cond.initialized "java/lang/IllegalArgumentException", Cond.methodLink RX5 238 yX1_brokenTeeth]
def wsX5_many_r2 : List Cond := [Cond.instanceMethod yX1_brokenTeeth, Cond.selects RX1 yX1_brokenTeeth yX1_brokenTeeth, Cond.initialized RX1, Cond.code yX1_brokenTeeth cX1_brokenTeeth 3 (some .int), Cond.fieldLink RX1 28 "PinBarrel$Comb" "count" "I", Cond.fieldLink RX1 15 "PinBarrel$Comb" "broken" "[Z", Cond.methodLink RX5 242 yX5_allPins, Cond.instanceMethod yX5_allPins, Cond.selects RX5 yX5_allPins yX5_allPins, Cond.code yX5_allPins cX5_allPins 3 (some .int), Cond.fieldLink RX5 32 "PinBarrel" "barrel" "LPinBarrel$Barrel;", Cond.methodLink RX5 169 yX0_pinsOfTooth, Cond.instanceMethod yX0_pinsOfTooth, Cond.selects RX0 yX0_pinsOfTooth yX0_pinsOfTooth, Cond.initialized RX0, Cond.code yX0_pinsOfTooth cX0_pinsOfTooth 4 (some .int), Cond.methodLink RX0 29 yX0_placesOf, Cond.instanceMethod yX0_placesOf, Cond.selects RX0 yX0_placesOf yX0_placesOf, Cond.code yX0_placesOf cX0_placesOf 3 (some .long), Cond.fieldLink RX0 9 "PinBarrel$Barrel" "places" "[J", Cond.methodLink RX0 21 yX0_lineAt, Cond.static yX0_lineAt, Cond.code yX0_lineAt cX0_lineAt 2 (some .int)]
def wsX5_many_r3 : List Cond := [Cond.methodLink RX0 33 yJ13_bitCount_95d88, Cond.static yJ13_bitCount_95d88, Cond.initialized RJ13, Cond.code yJ13_bitCount_95d88 cJ13_bitCount_95d88 2 (some .int), Cond.constantLong RJ13 314 (6148914691236517205), Cond.constantLong RJ13 316 (3689348814741910323), Cond.constantLong RJ13 318 (1085102592571150095)]
def wsX5_many : List Cond := .code yX5_many cX5_many 2 (some .int) :: ((wsX5_many_r1 ++ (wsX5_many_r2 ++ wsX5_many_r3)) ++ wsX50 ++ wsX10 ++ wsX30 ++ wsX40 ++ wsX20 ++ wsX00 ++ (vx_atS RX5 79 "java/lang/IllegalArgumentException" ["java/lang/RuntimeException", "java/lang/Exception"]).filter goodWord)
def wsX5_wouldLose_r1 : List Cond := [Cond.fieldLink RX5 38 "PinBarrel" "trial" "LPinBarrel$Works;", Cond.fieldLink RX5 28 "PinBarrel$Works" "barrel" "LPinBarrel$Barrel;", Cond.fieldLink RX5 32 "PinBarrel" "barrel" "LPinBarrel$Barrel;", Cond.methodLink RX5 315 yX0_takePins, Cond.instanceMethod yX0_takePins, Cond.selects RX0 yX0_takePins yX0_takePins, Cond.initialized RX0, Cond.code yX0_takePins cX0_takePins 4 none, Cond.fieldLink RX0 9 "PinBarrel$Barrel" "places" "[J", Cond.methodLink RX0 65 arraycopyName, Cond.native arraycopyName, Cond.static arraycopyName, Cond.initialized "java/lang/System", Cond.methodLink RX0 21 yX0_lineAt, Cond.static yX0_lineAt, Cond.code yX0_lineAt cX0_lineAt 2 (some .int), Cond.methodLink RX5 102 yX5_pinTune, Cond.instanceMethod yX5_pinTune, Cond.selects RX5 yX5_pinTune yX5_pinTune, Cond.initialized RX5, Cond.code yX5_pinTune cX5_pinTune 10 (some .int), Cond.fieldLink RX5 10 "PinBarrel" "tunes" "LPinBarrel$Tunes;", Cond.fieldLink RX5 84 "PinBarrel$Tunes" "size" "[I", Cond.fieldLink RX5 27 "PinBarrel" "comb" "LPinBarrel$Comb;"]
def wsX5_wouldLose_r2 : List Cond := [Cond.methodLink RX5 303 yX3_timeOf, Cond.instanceMethod yX3_timeOf, Cond.selects RX3 yX3_timeOf yX3_timeOf, Cond.initialized RX3, Cond.code yX3_timeOf cX3_timeOf 3 (some .int), Cond.fieldLink RX3 15 "PinBarrel$Tunes" "notes" "[I", Cond.methodLink RX5 306 yX3_pitchOf, Cond.instanceMethod yX3_pitchOf, Cond.selects RX3 yX3_pitchOf yX3_pitchOf, Cond.code yX3_pitchOf cX3_pitchOf 3 (some .int), Cond.methodLink RX5 308 yX0_freeTooth, Cond.instanceMethod yX0_freeTooth, Cond.selects RX0 yX0_freeTooth yX0_freeTooth, Cond.code yX0_freeTooth cX0_freeTooth 13 (some .int), Cond.fieldLink RX0 43 "PinBarrel$Comb" "count" "I", Cond.fieldLink RX0 49 "PinBarrel$Comb" "pitch" "[I", Cond.fieldLink RX0 52 "PinBarrel$Comb" "broken" "[Z", Cond.methodLink RX0 39 yX0_placesNear, Cond.static yX0_placesNear, Cond.code yX0_placesNear cX0_placesNear 2 (some .long), Cond.constantLong RX0 19 (127), Cond.methodLink RX0 33 yJ13_bitCount_95d88, Cond.static yJ13_bitCount_95d88, Cond.initialized RJ13]
def wsX5_wouldLose_r3 : List Cond := [Cond.code yJ13_bitCount_95d88 cJ13_bitCount_95d88 2 (some .int), Cond.constantLong RJ13 314 (6148914691236517205), Cond.constantLong RJ13 316 (3689348814741910323), Cond.constantLong RJ13 318 (1085102592571150095), Cond.methodLink RX5 312 yX0_setPin, Cond.instanceMethod yX0_setPin, Cond.selects RX0 yX0_setPin yX0_setPin, Cond.code yX0_setPin cX0_setPin 4 none, Cond.fieldLink RX0 15 "PinBarrel$Barrel" "wears" "[I", Cond.methodLink RX0 25 yX0_pinAt, Cond.static yX0_pinAt, Cond.code yX0_pinAt cX0_pinAt 3 (some .int)]
def wsX5_wouldLose : List Cond := .code yX5_wouldLose cX5_wouldLose 4 (some .int) :: ((wsX5_wouldLose_r1 ++ (wsX5_wouldLose_r2 ++ wsX5_wouldLose_r3)) ++ wsX50 ++ wsX40 ++ wsX00 ++ wsX30 ++ wsX10)
def wsX5_bestKey_r1 : List Cond := [Cond.methodLink RX5 72 yX5_needTune, Cond.instanceMethod yX5_needTune, Cond.selects RX5 yX5_needTune yX5_needTune, Cond.initialized RX5, Cond.code yX5_needTune cX5_needTune 2 none, Cond.classLink RX5 321 "java/lang/IndexOutOfBoundsException", Cond.initialized "java/lang/IndexOutOfBoundsException", Cond.fieldLink RX5 10 "PinBarrel" "tunes" "LPinBarrel$Tunes;", Cond.fieldLink RX5 69 "PinBarrel$Tunes" "count" "I", Cond.methodLink RX5 96 yX5_needLine, Cond.static yX5_needLine, Cond.code yX5_needLine cX5_needLine 1 none, Cond.methodLink RX5 264 yX5_wouldLose, Cond.instanceMethod yX5_wouldLose, Cond.selects RX5 yX5_wouldLose yX5_wouldLose, Cond.code yX5_wouldLose cX5_wouldLose 4 (some .int), Cond.fieldLink RX5 38 "PinBarrel" "trial" "LPinBarrel$Works;", Cond.fieldLink RX5 28 "PinBarrel$Works" "barrel" "LPinBarrel$Barrel;", Cond.fieldLink RX5 32 "PinBarrel" "barrel" "LPinBarrel$Barrel;", Cond.methodLink RX5 315 yX0_takePins, Cond.instanceMethod yX0_takePins, Cond.selects RX0 yX0_takePins yX0_takePins, Cond.initialized RX0, Cond.code yX0_takePins cX0_takePins 4 none]
def wsX5_bestKey_r2 : List Cond := [Cond.fieldLink RX0 9 "PinBarrel$Barrel" "places" "[J", Cond.methodLink RX0 65 arraycopyName, Cond.native arraycopyName, Cond.static arraycopyName, Cond.initialized "java/lang/System", Cond.methodLink RX0 21 yX0_lineAt, Cond.static yX0_lineAt, Cond.code yX0_lineAt cX0_lineAt 2 (some .int), Cond.methodLink RX5 102 yX5_pinTune, Cond.instanceMethod yX5_pinTune, Cond.selects RX5 yX5_pinTune yX5_pinTune, Cond.code yX5_pinTune cX5_pinTune 10 (some .int), Cond.fieldLink RX5 84 "PinBarrel$Tunes" "size" "[I", Cond.fieldLink RX5 27 "PinBarrel" "comb" "LPinBarrel$Comb;", Cond.methodLink RX5 303 yX3_timeOf, Cond.instanceMethod yX3_timeOf, Cond.selects RX3 yX3_timeOf yX3_timeOf, Cond.initialized RX3, Cond.code yX3_timeOf cX3_timeOf 3 (some .int), Cond.fieldLink RX3 15 "PinBarrel$Tunes" "notes" "[I", Cond.methodLink RX5 306 yX3_pitchOf, Cond.instanceMethod yX3_pitchOf, Cond.selects RX3 yX3_pitchOf yX3_pitchOf, Cond.code yX3_pitchOf cX3_pitchOf 3 (some .int)]
def wsX5_bestKey_r3 : List Cond := [Cond.methodLink RX5 308 yX0_freeTooth, Cond.instanceMethod yX0_freeTooth, Cond.selects RX0 yX0_freeTooth yX0_freeTooth, Cond.code yX0_freeTooth cX0_freeTooth 13 (some .int), Cond.fieldLink RX0 43 "PinBarrel$Comb" "count" "I", Cond.fieldLink RX0 49 "PinBarrel$Comb" "pitch" "[I", Cond.fieldLink RX0 52 "PinBarrel$Comb" "broken" "[Z", Cond.methodLink RX0 39 yX0_placesNear, Cond.static yX0_placesNear, Cond.code yX0_placesNear cX0_placesNear 2 (some .long), Cond.constantLong RX0 19 (127), Cond.methodLink RX0 33 yJ13_bitCount_95d88, Cond.static yJ13_bitCount_95d88, Cond.initialized RJ13, Cond.code yJ13_bitCount_95d88 cJ13_bitCount_95d88 2 (some .int), Cond.constantLong RJ13 314 (6148914691236517205), Cond.constantLong RJ13 316 (3689348814741910323), Cond.constantLong RJ13 318 (1085102592571150095), Cond.methodLink RX5 312 yX0_setPin, Cond.instanceMethod yX0_setPin, Cond.selects RX0 yX0_setPin yX0_setPin, Cond.code yX0_setPin cX0_setPin 4 none, Cond.fieldLink RX0 15 "PinBarrel$Barrel" "wears" "[I", Cond.methodLink RX0 25 yX0_pinAt]
def wsX5_bestKey_r4 : List Cond := [Cond.static yX0_pinAt, Cond.code yX0_pinAt cX0_pinAt 3 (some .int)]
def wsX5_bestKey : List Cond := .code yX5_bestKey cX5_bestKey 8 (some .int) :: ((wsX5_bestKey_r1 ++ (wsX5_bestKey_r2 ++ (wsX5_bestKey_r3 ++ wsX5_bestKey_r4))) ++ wsX50 ++ wsX30 ++ wsX40 ++ wsX00 ++ wsX10 ++ (vx_atS RX5 325 "java/lang/IndexOutOfBoundsException" ["java/lang/RuntimeException", "java/lang/Exception"]).filter goodWord)
def wsX5_lasts_r1 : List Cond := [Cond.fieldLink RX5 38 "PinBarrel" "trial" "LPinBarrel$Works;", Cond.fieldLink RX5 19 "PinBarrel" "works" "LPinBarrel$Works;", Cond.fieldLink RX5 117 "PinBarrel$Works" "wound" "I", Cond.methodLink RX5 267 yX4_takeOver, Cond.instanceMethod yX4_takeOver, Cond.selects RX4 yX4_takeOver yX4_takeOver, Cond.initialized RX4, Cond.code yX4_takeOver cX4_takeOver 2 none, Cond.fieldLink RX4 12 "PinBarrel$Works" "comb" "LPinBarrel$Comb;", Cond.fieldLink RX4 21 "PinBarrel$Works" "barrel" "LPinBarrel$Barrel;", Cond.fieldLink RX4 67 "PinBarrel$Works" "shift" "I", Cond.fieldLink RX4 37 "PinBarrel$Works" "wound" "I", Cond.fieldLink RX4 32 "PinBarrel$Works" "governor" "I", Cond.fieldLink RX4 54 "PinBarrel$Works" "place" "I", Cond.fieldLink RX4 57 "PinBarrel$Works" "steps" "I", Cond.fieldLink RX4 88 "PinBarrel$Works" "buzzes" "I", Cond.fieldLink RX4 102 "PinBarrel$Works" "wornOut" "I", Cond.fieldLink RX4 44 "PinBarrel$Works" "clock" "D", Cond.methodLink RX4 105 yX1_takeTeeth, Cond.instanceMethod yX1_takeTeeth, Cond.selects RX1 yX1_takeTeeth yX1_takeTeeth, Cond.initialized RX1, Cond.code yX1_takeTeeth cX1_takeTeeth 3 none, Cond.fieldLink RX1 28 "PinBarrel$Comb" "count" "I"]
def wsX5_lasts_r2 : List Cond := [Cond.fieldLink RX1 9 "PinBarrel$Comb" "pitch" "[I", Cond.fieldLink RX1 15 "PinBarrel$Comb" "broken" "[Z", Cond.fieldLink RX1 19 "PinBarrel$Comb" "scratches" "[I", Cond.fieldLink RX1 22 "PinBarrel$Comb" "plucks" "[I", Cond.fieldLink RX1 25 "PinBarrel$Comb" "lastPluck" "[I", Cond.methodLink RX4 109 yX0_takePins, Cond.instanceMethod yX0_takePins, Cond.selects RX0 yX0_takePins yX0_takePins, Cond.initialized RX0, Cond.code yX0_takePins cX0_takePins 4 none, Cond.fieldLink RX0 9 "PinBarrel$Barrel" "places" "[J", Cond.methodLink RX0 65 arraycopyName, Cond.native arraycopyName, Cond.static arraycopyName, Cond.initialized "java/lang/System", Cond.methodLink RX0 21 yX0_lineAt, Cond.static yX0_lineAt, Cond.code yX0_lineAt cX0_lineAt 2 (some .int), Cond.methodLink RX4 113 yX0_takeWears, Cond.instanceMethod yX0_takeWears, Cond.selects RX0 yX0_takeWears yX0_takeWears, Cond.code yX0_takeWears cX0_takeWears 4 none, Cond.fieldLink RX0 15 "PinBarrel$Barrel" "wears" "[I", Cond.methodLink RX0 25 yX0_pinAt]
def wsX5_lasts_r3 : List Cond := [Cond.static yX0_pinAt, Cond.code yX0_pinAt cX0_pinAt 3 (some .int), Cond.methodLink RX5 271 yX4_step, Cond.instanceMethod yX4_step, Cond.selects RX4 yX4_step yX4_step, Cond.code yX4_step cX4_step 3 none, Cond.constantDouble RX4 48 (4593671619917905920), Cond.fieldLink RX4 60 "PinBarrel$Comb" "count" "I", Cond.fieldLink RX4 63 "PinBarrel$Comb" "broken" "[Z", Cond.methodLink RX4 78 Lib.Math.max.name, Cond.static Lib.Math.max.name, Cond.initialized "java/lang/Math", Cond.code Lib.Math.max.name Lib.Math.max.code 2 (some .int), Cond.methodLink RX4 50 yX4_speedNow, Cond.instanceMethod yX4_speedNow, Cond.selects RX4 yX4_speedNow yX4_speedNow, Cond.code yX4_speedNow cX4_speedNow 2 (some .float), Cond.constantFloat RX4 36 (1040187392), Cond.constantFloat RX4 40 (981467136), Cond.methodLink RX4 70 yX0_hasPin, Cond.instanceMethod yX0_hasPin, Cond.selects RX0 yX0_hasPin yX0_hasPin, Cond.code yX0_hasPin cX0_hasPin 4 (some .boolean), Cond.methodLink RX4 74 yX4_pluck]
def wsX5_lasts_r4 : List Cond := [Cond.instanceMethod yX4_pluck, Cond.selects RX4 yX4_pluck yX4_pluck, Cond.code yX4_pluck cX4_pluck 2 none, Cond.fieldLink RX4 28 "PinBarrel$Works" "sounds" "LPinBarrel$Sounds;", Cond.fieldLink RX4 91 "PinBarrel$Comb" "pitch" "[I", Cond.methodLink RX4 84 yX1_pluckTooth, Cond.instanceMethod yX1_pluckTooth, Cond.selects RX1 yX1_pluckTooth yX1_pluckTooth, Cond.code yX1_pluckTooth cX1_pluckTooth 4 (some .boolean), Cond.methodLink RX4 95 yX2_addSound, Cond.instanceMethod yX2_addSound, Cond.selects RX2 yX2_addSound yX2_addSound, Cond.initialized RX2, Cond.code yX2_addSound cX2_addSound 5 none, Cond.fieldLink RX2 27 "PinBarrel$Sounds" "kept" "I", Cond.fieldLink RX2 9 "PinBarrel$Sounds" "pitches" "[I", Cond.fieldLink RX2 15 "PinBarrel$Sounds" "clocks" "[D", Cond.fieldLink RX2 30 "PinBarrel$Sounds" "ever" "I", Cond.fieldLink RX2 19 "PinBarrel$Sounds" "oldest" "I", Cond.methodLink RX2 23 yX2_roomOf, Cond.instanceMethod yX2_roomOf, Cond.selects RX2 yX2_roomOf yX2_roomOf, Cond.code yX2_roomOf cX2_roomOf 2 (some .int), Cond.methodLink RX4 99 yX0_wearDown]
def wsX5_lasts_r5 : List Cond := [Cond.instanceMethod yX0_wearDown, Cond.selects RX0 yX0_wearDown yX0_wearDown, Cond.code yX0_wearDown cX0_wearDown 5 (some .boolean), Cond.constantLong RX0 63 (-1)]
def wsX5_lasts : List Cond := .code yX5_lasts cX5_lasts 2 (some .int) :: ((wsX5_lasts_r1 ++ (wsX5_lasts_r2 ++ (wsX5_lasts_r3 ++ (wsX5_lasts_r4 ++ wsX5_lasts_r5)))) ++ wsX50 ++ wsX40 ++ wsX10 ++ wsX00 ++ wsX20)
def wsX5_wouldBuzz_r1 : List Cond := [Cond.fieldLink RX5 38 "PinBarrel" "trial" "LPinBarrel$Works;", Cond.fieldLink RX5 19 "PinBarrel" "works" "LPinBarrel$Works;", Cond.fieldLink RX5 254 "PinBarrel$Works" "buzzes" "I", Cond.methodLink RX5 138 yX5_needSteps, Cond.static yX5_needSteps, Cond.initialized RX5, Cond.code yX5_needSteps cX5_needSteps 1 none, Cond.classLink RX5 75 "java/lang/IllegalArgumentException", Cond.initialized "java/lang/IllegalArgumentException", Cond.methodLink RX5 267 yX4_takeOver, Cond.instanceMethod yX4_takeOver, Cond.selects RX4 yX4_takeOver yX4_takeOver, Cond.initialized RX4, Cond.code yX4_takeOver cX4_takeOver 2 none, Cond.fieldLink RX4 12 "PinBarrel$Works" "comb" "LPinBarrel$Comb;", Cond.fieldLink RX4 21 "PinBarrel$Works" "barrel" "LPinBarrel$Barrel;", Cond.fieldLink RX4 67 "PinBarrel$Works" "shift" "I", Cond.fieldLink RX4 37 "PinBarrel$Works" "wound" "I", Cond.fieldLink RX4 32 "PinBarrel$Works" "governor" "I", Cond.fieldLink RX4 54 "PinBarrel$Works" "place" "I", Cond.fieldLink RX4 57 "PinBarrel$Works" "steps" "I", Cond.fieldLink RX4 88 "PinBarrel$Works" "buzzes" "I", Cond.fieldLink RX4 102 "PinBarrel$Works" "wornOut" "I", Cond.fieldLink RX4 44 "PinBarrel$Works" "clock" "D"]
def wsX5_wouldBuzz_r2 : List Cond := [Cond.methodLink RX4 105 yX1_takeTeeth, Cond.instanceMethod yX1_takeTeeth, Cond.selects RX1 yX1_takeTeeth yX1_takeTeeth, Cond.initialized RX1, Cond.code yX1_takeTeeth cX1_takeTeeth 3 none, Cond.fieldLink RX1 28 "PinBarrel$Comb" "count" "I", Cond.fieldLink RX1 9 "PinBarrel$Comb" "pitch" "[I", Cond.fieldLink RX1 15 "PinBarrel$Comb" "broken" "[Z", Cond.fieldLink RX1 19 "PinBarrel$Comb" "scratches" "[I", Cond.fieldLink RX1 22 "PinBarrel$Comb" "plucks" "[I", Cond.fieldLink RX1 25 "PinBarrel$Comb" "lastPluck" "[I", Cond.methodLink RX4 109 yX0_takePins, Cond.instanceMethod yX0_takePins, Cond.selects RX0 yX0_takePins yX0_takePins, Cond.initialized RX0, Cond.code yX0_takePins cX0_takePins 4 none, Cond.fieldLink RX0 9 "PinBarrel$Barrel" "places" "[J", Cond.methodLink RX0 65 arraycopyName, Cond.native arraycopyName, Cond.static arraycopyName, Cond.initialized "java/lang/System", Cond.methodLink RX0 21 yX0_lineAt, Cond.static yX0_lineAt, Cond.code yX0_lineAt cX0_lineAt 2 (some .int)]
def wsX5_wouldBuzz_r3 : List Cond := [Cond.methodLink RX4 113 yX0_takeWears, Cond.instanceMethod yX0_takeWears, Cond.selects RX0 yX0_takeWears yX0_takeWears, Cond.code yX0_takeWears cX0_takeWears 4 none, Cond.fieldLink RX0 15 "PinBarrel$Barrel" "wears" "[I", Cond.methodLink RX0 25 yX0_pinAt, Cond.static yX0_pinAt, Cond.code yX0_pinAt cX0_pinAt 3 (some .int), Cond.methodLink RX5 146 yX4_run, Cond.instanceMethod yX4_run, Cond.selects RX4 yX4_run yX4_run, Cond.code yX4_run cX4_run 3 none, Cond.methodLink RX4 41 yX4_step, Cond.instanceMethod yX4_step, Cond.selects RX4 yX4_step yX4_step, Cond.code yX4_step cX4_step 3 none, Cond.constantDouble RX4 48 (4593671619917905920), Cond.fieldLink RX4 60 "PinBarrel$Comb" "count" "I", Cond.fieldLink RX4 63 "PinBarrel$Comb" "broken" "[Z", Cond.methodLink RX4 78 Lib.Math.max.name, Cond.static Lib.Math.max.name, Cond.initialized "java/lang/Math", Cond.code Lib.Math.max.name Lib.Math.max.code 2 (some .int), Cond.methodLink RX4 50 yX4_speedNow]
def wsX5_wouldBuzz_r4 : List Cond := [Cond.instanceMethod yX4_speedNow, Cond.selects RX4 yX4_speedNow yX4_speedNow, Cond.code yX4_speedNow cX4_speedNow 2 (some .float), Cond.constantFloat RX4 36 (1040187392), Cond.constantFloat RX4 40 (981467136), Cond.methodLink RX4 70 yX0_hasPin, Cond.instanceMethod yX0_hasPin, Cond.selects RX0 yX0_hasPin yX0_hasPin, Cond.code yX0_hasPin cX0_hasPin 4 (some .boolean), Cond.methodLink RX4 74 yX4_pluck, Cond.instanceMethod yX4_pluck, Cond.selects RX4 yX4_pluck yX4_pluck, Cond.code yX4_pluck cX4_pluck 2 none, Cond.fieldLink RX4 28 "PinBarrel$Works" "sounds" "LPinBarrel$Sounds;", Cond.fieldLink RX4 91 "PinBarrel$Comb" "pitch" "[I", Cond.methodLink RX4 84 yX1_pluckTooth, Cond.instanceMethod yX1_pluckTooth, Cond.selects RX1 yX1_pluckTooth yX1_pluckTooth, Cond.code yX1_pluckTooth cX1_pluckTooth 4 (some .boolean), Cond.methodLink RX4 95 yX2_addSound, Cond.instanceMethod yX2_addSound, Cond.selects RX2 yX2_addSound yX2_addSound, Cond.initialized RX2, Cond.code yX2_addSound cX2_addSound 5 none]
def wsX5_wouldBuzz_r5 : List Cond := [Cond.fieldLink RX2 27 "PinBarrel$Sounds" "kept" "I", Cond.fieldLink RX2 9 "PinBarrel$Sounds" "pitches" "[I", Cond.fieldLink RX2 15 "PinBarrel$Sounds" "clocks" "[D", Cond.fieldLink RX2 30 "PinBarrel$Sounds" "ever" "I", Cond.fieldLink RX2 19 "PinBarrel$Sounds" "oldest" "I", Cond.methodLink RX2 23 yX2_roomOf, Cond.instanceMethod yX2_roomOf, Cond.selects RX2 yX2_roomOf yX2_roomOf, Cond.code yX2_roomOf cX2_roomOf 2 (some .int), Cond.methodLink RX4 99 yX0_wearDown, Cond.instanceMethod yX0_wearDown, Cond.selects RX0 yX0_wearDown yX0_wearDown, Cond.code yX0_wearDown cX0_wearDown 5 (some .boolean), Cond.constantLong RX0 63 (-1)]
def wsX5_wouldBuzz : List Cond := .code yX5_wouldBuzz cX5_wouldBuzz 2 (some .int) :: ((wsX5_wouldBuzz_r1 ++ (wsX5_wouldBuzz_r2 ++ (wsX5_wouldBuzz_r3 ++ (wsX5_wouldBuzz_r4 ++ wsX5_wouldBuzz_r5)))) ++ wsX50 ++ wsX40 ++ wsX10 ++ wsX00 ++ wsX20 ++ (vx_atS RX5 79 "java/lang/IllegalArgumentException" ["java/lang/RuntimeException", "java/lang/Exception"]).filter goodWord)
def wsX5_digestTooth_r1 : List Cond := [Cond.constantLong RX5 276 (31), Cond.fieldLink RX5 32 "PinBarrel" "barrel" "LPinBarrel$Barrel;", Cond.methodLink RX5 294 yX5_ofTooth, Cond.instanceMethod yX5_ofTooth, Cond.selects RX5 yX5_ofTooth yX5_ofTooth, Cond.initialized RX5, Cond.code yX5_ofTooth cX5_ofTooth 3 (some .int), Cond.fieldLink RX5 27 "PinBarrel" "comb" "LPinBarrel$Comb;", Cond.fieldLink RX5 65 "PinBarrel$Comb" "pitch" "[I", Cond.fieldLink RX5 159 "PinBarrel$Comb" "broken" "[Z", Cond.fieldLink RX5 163 "PinBarrel$Comb" "scratches" "[I", Cond.fieldLink RX5 166 "PinBarrel$Comb" "plucks" "[I", Cond.methodLink RX5 62 yX5_needTooth, Cond.instanceMethod yX5_needTooth, Cond.selects RX5 yX5_needTooth yX5_needTooth, Cond.code yX5_needTooth cX5_needTooth 2 none, Cond.classLink RX5 321 "java/lang/IndexOutOfBoundsException", Cond.initialized "java/lang/IndexOutOfBoundsException", Cond.fieldLink RX5 45 "PinBarrel$Comb" "count" "I", Cond.methodLink RX5 155 yX5_needQuestion, Cond.static yX5_needQuestion, Cond.code yX5_needQuestion cX5_needQuestion 2 none, Cond.classLink RX5 75 "java/lang/IllegalArgumentException", Cond.initialized "java/lang/IllegalArgumentException"]
def wsX5_digestTooth_r2 : List Cond := [Cond.methodLink RX5 169 yX0_pinsOfTooth, Cond.instanceMethod yX0_pinsOfTooth, Cond.selects RX0 yX0_pinsOfTooth yX0_pinsOfTooth, Cond.initialized RX0, Cond.code yX0_pinsOfTooth cX0_pinsOfTooth 4 (some .int), Cond.methodLink RX0 29 yX0_placesOf, Cond.instanceMethod yX0_placesOf, Cond.selects RX0 yX0_placesOf yX0_placesOf, Cond.code yX0_placesOf cX0_placesOf 3 (some .long), Cond.fieldLink RX0 9 "PinBarrel$Barrel" "places" "[J", Cond.methodLink RX0 21 yX0_lineAt, Cond.static yX0_lineAt, Cond.code yX0_lineAt cX0_lineAt 2 (some .int), Cond.methodLink RX0 33 yJ13_bitCount_95d88, Cond.static yJ13_bitCount_95d88, Cond.initialized RJ13, Cond.code yJ13_bitCount_95d88 cJ13_bitCount_95d88 2 (some .int), Cond.constantLong RJ13 314 (6148914691236517205), Cond.constantLong RJ13 316 (3689348814741910323), Cond.constantLong RJ13 318 (1085102592571150095), Cond.methodLink RX5 172 yX0_placesOf]
def wsX5_digestTooth : List Cond := .code yX5_digestTooth cX5_digestTooth 7 (some .long) :: ((wsX5_digestTooth_r1 ++ wsX5_digestTooth_r2) ++ wsX50 ++ wsX10 ++ wsX00 ++ (vx_atS RX5 325 "java/lang/IndexOutOfBoundsException" ["java/lang/RuntimeException", "java/lang/Exception"]).filter goodWord ++ (vx_atS RX5 79 "java/lang/IllegalArgumentException" ["java/lang/RuntimeException", "java/lang/Exception"]).filter goodWord)
def wsX5_digestTune_r1 : List Cond := [Cond.constantLong RX5 276 (31), Cond.methodLink RX5 297 yX5_ofTune, Cond.instanceMethod yX5_ofTune, Cond.selects RX5 yX5_ofTune yX5_ofTune, Cond.initialized RX5, Cond.code yX5_ofTune cX5_ofTune 3 (some .int), Cond.fieldLink RX5 10 "PinBarrel" "tunes" "LPinBarrel$Tunes;", Cond.fieldLink RX5 84 "PinBarrel$Tunes" "size" "[I", Cond.methodLink RX5 72 yX5_needTune, Cond.instanceMethod yX5_needTune, Cond.selects RX5 yX5_needTune yX5_needTune, Cond.code yX5_needTune cX5_needTune 2 none, Cond.classLink RX5 321 "java/lang/IndexOutOfBoundsException", Cond.initialized "java/lang/IndexOutOfBoundsException", Cond.fieldLink RX5 69 "PinBarrel$Tunes" "count" "I", Cond.methodLink RX5 155 yX5_needQuestion, Cond.static yX5_needQuestion, Cond.code yX5_needQuestion cX5_needQuestion 2 none, Cond.classLink RX5 75 "java/lang/IllegalArgumentException", Cond.initialized "java/lang/IllegalArgumentException", Cond.methodLink RX5 200 yX3_lowest, Cond.instanceMethod yX3_lowest, Cond.selects RX3 yX3_lowest yX3_lowest, Cond.initialized RX3]
def wsX5_digestTune_r2 : List Cond := [Cond.code yX3_lowest cX3_lowest 5 (some .int), Cond.fieldLink RX3 9 "PinBarrel$Tunes" "size" "[I", Cond.methodLink RX3 22 yX3_pitchOf, Cond.instanceMethod yX3_pitchOf, Cond.selects RX3 yX3_pitchOf yX3_pitchOf, Cond.code yX3_pitchOf cX3_pitchOf 3 (some .int), Cond.fieldLink RX3 15 "PinBarrel$Tunes" "notes" "[I", Cond.methodLink RX5 203 yX3_highest, Cond.instanceMethod yX3_highest, Cond.selects RX3 yX3_highest yX3_highest, Cond.code yX3_highest cX3_highest 4 (some .int), Cond.methodLink RX3 25 Lib.Math.max.name, Cond.static Lib.Math.max.name, Cond.initialized "java/lang/Math", Cond.code Lib.Math.max.name Lib.Math.max.code 2 (some .int), Cond.methodLink RX5 206 yX3_times, Cond.instanceMethod yX3_times, Cond.selects RX3 yX3_times yX3_times, Cond.code yX3_times cX3_times 4 (some .int), Cond.methodLink RX3 30 yX3_timeOf, Cond.instanceMethod yX3_timeOf, Cond.selects RX3 yX3_timeOf yX3_timeOf, Cond.code yX3_timeOf cX3_timeOf 3 (some .int), Cond.methodLink RX5 209 yX3_mostAtOnce]
def wsX5_digestTune_r3 : List Cond := [Cond.instanceMethod yX3_mostAtOnce, Cond.selects RX3 yX3_mostAtOnce yX3_mostAtOnce, Cond.code yX3_mostAtOnce cX3_mostAtOnce 6 (some .int), Cond.methodLink RX5 300 yX5_bestKey, Cond.instanceMethod yX5_bestKey, Cond.selects RX5 yX5_bestKey yX5_bestKey, Cond.code yX5_bestKey cX5_bestKey 8 (some .int), Cond.methodLink RX5 96 yX5_needLine, Cond.static yX5_needLine, Cond.code yX5_needLine cX5_needLine 1 none, Cond.methodLink RX5 264 yX5_wouldLose, Cond.instanceMethod yX5_wouldLose, Cond.selects RX5 yX5_wouldLose yX5_wouldLose, Cond.code yX5_wouldLose cX5_wouldLose 4 (some .int), Cond.fieldLink RX5 38 "PinBarrel" "trial" "LPinBarrel$Works;", Cond.fieldLink RX5 28 "PinBarrel$Works" "barrel" "LPinBarrel$Barrel;", Cond.fieldLink RX5 32 "PinBarrel" "barrel" "LPinBarrel$Barrel;", Cond.methodLink RX5 315 yX0_takePins, Cond.instanceMethod yX0_takePins, Cond.selects RX0 yX0_takePins yX0_takePins, Cond.initialized RX0, Cond.code yX0_takePins cX0_takePins 4 none, Cond.fieldLink RX0 9 "PinBarrel$Barrel" "places" "[J", Cond.methodLink RX0 65 arraycopyName]
def wsX5_digestTune_r4 : List Cond := [Cond.native arraycopyName, Cond.static arraycopyName, Cond.initialized "java/lang/System", Cond.methodLink RX0 21 yX0_lineAt, Cond.static yX0_lineAt, Cond.code yX0_lineAt cX0_lineAt 2 (some .int), Cond.methodLink RX5 102 yX5_pinTune, Cond.instanceMethod yX5_pinTune, Cond.selects RX5 yX5_pinTune yX5_pinTune, Cond.code yX5_pinTune cX5_pinTune 10 (some .int), Cond.fieldLink RX5 27 "PinBarrel" "comb" "LPinBarrel$Comb;", Cond.methodLink RX5 303 yX3_timeOf, Cond.methodLink RX5 306 yX3_pitchOf, Cond.methodLink RX5 308 yX0_freeTooth, Cond.instanceMethod yX0_freeTooth, Cond.selects RX0 yX0_freeTooth yX0_freeTooth, Cond.code yX0_freeTooth cX0_freeTooth 13 (some .int), Cond.fieldLink RX0 43 "PinBarrel$Comb" "count" "I", Cond.fieldLink RX0 49 "PinBarrel$Comb" "pitch" "[I", Cond.fieldLink RX0 52 "PinBarrel$Comb" "broken" "[Z", Cond.methodLink RX0 39 yX0_placesNear, Cond.static yX0_placesNear, Cond.code yX0_placesNear cX0_placesNear 2 (some .long), Cond.constantLong RX0 19 (127)]
def wsX5_digestTune_r5 : List Cond := [Cond.methodLink RX0 33 yJ13_bitCount_95d88, Cond.static yJ13_bitCount_95d88, Cond.initialized RJ13, Cond.code yJ13_bitCount_95d88 cJ13_bitCount_95d88 2 (some .int), Cond.constantLong RJ13 314 (6148914691236517205), Cond.constantLong RJ13 316 (3689348814741910323), Cond.constantLong RJ13 318 (1085102592571150095), Cond.methodLink RX5 312 yX0_setPin, Cond.instanceMethod yX0_setPin, Cond.selects RX0 yX0_setPin yX0_setPin, Cond.code yX0_setPin cX0_setPin 4 none, Cond.fieldLink RX0 15 "PinBarrel$Barrel" "wears" "[I", Cond.methodLink RX0 25 yX0_pinAt, Cond.static yX0_pinAt, Cond.code yX0_pinAt cX0_pinAt 3 (some .int)]
def wsX5_digestTune : List Cond := .code yX5_digestTune cX5_digestTune 7 (some .long) :: ((wsX5_digestTune_r1 ++ (wsX5_digestTune_r2 ++ (wsX5_digestTune_r3 ++ (wsX5_digestTune_r4 ++ wsX5_digestTune_r5)))) ++ wsX50 ++ wsX30 ++ wsX40 ++ wsX00 ++ wsX10 ++ (vx_atS RX5 325 "java/lang/IndexOutOfBoundsException" ["java/lang/RuntimeException", "java/lang/Exception"]).filter goodWord ++ (vx_atS RX5 79 "java/lang/IllegalArgumentException" ["java/lang/RuntimeException", "java/lang/Exception"]).filter goodWord)
def wsX5_digest_r1 : List Cond := [Cond.constantLong RX5 274 (58312), Cond.constantLong RX5 276 (31), Cond.fieldLink RX5 27 "PinBarrel" "comb" "LPinBarrel$Comb;", Cond.fieldLink RX5 45 "PinBarrel$Comb" "count" "I", Cond.fieldLink RX5 10 "PinBarrel" "tunes" "LPinBarrel$Tunes;", Cond.fieldLink RX5 69 "PinBarrel$Tunes" "count" "I", Cond.fieldLink RX5 37 "PinBarrel" "sounds" "LPinBarrel$Sounds;", Cond.fieldLink RX5 251 "PinBarrel$Sounds" "kept" "I", Cond.constantDouble RX5 224 (4620693217682128896), Cond.methodLink RX5 278 yX5_many, Cond.instanceMethod yX5_many, Cond.selects RX5 yX5_many yX5_many, Cond.initialized RX5, Cond.code yX5_many cX5_many 2 (some .int), Cond.fieldLink RX5 19 "PinBarrel" "works" "LPinBarrel$Works;", Cond.fieldLink RX5 245 "PinBarrel$Works" "place" "I", Cond.fieldLink RX5 112 "PinBarrel$Works" "shift" "I", Cond.fieldLink RX5 117 "PinBarrel$Works" "wound" "I", Cond.fieldLink RX5 131 "PinBarrel$Works" "governor" "I", Cond.fieldLink RX5 248 "PinBarrel$Works" "steps" "I", Cond.fieldLink RX5 141 "PinBarrel$Sounds" "ever" "I", Cond.fieldLink RX5 254 "PinBarrel$Works" "buzzes" "I", Cond.fieldLink RX5 257 "PinBarrel$Works" "wornOut" "I", Cond.fieldLink RX5 120 "PinBarrel" "knocks" "I"]
def wsX5_digest_r2 : List Cond := [Cond.fieldLink RX5 260 "PinBarrel$Works" "clock" "D", Cond.methodLink RX5 155 yX5_needQuestion, Cond.static yX5_needQuestion, Cond.code yX5_needQuestion cX5_needQuestion 2 none, Cond.classLink RX5 75 "java/lang/IllegalArgumentException", Cond.initialized "java/lang/IllegalArgumentException", Cond.methodLink RX5 238 yX1_brokenTeeth, Cond.instanceMethod yX1_brokenTeeth, Cond.selects RX1 yX1_brokenTeeth yX1_brokenTeeth, Cond.initialized RX1, Cond.code yX1_brokenTeeth cX1_brokenTeeth 3 (some .int), Cond.fieldLink RX1 28 "PinBarrel$Comb" "count" "I", Cond.fieldLink RX1 15 "PinBarrel$Comb" "broken" "[Z", Cond.methodLink RX5 242 yX5_allPins, Cond.instanceMethod yX5_allPins, Cond.selects RX5 yX5_allPins yX5_allPins, Cond.code yX5_allPins cX5_allPins 3 (some .int), Cond.fieldLink RX5 32 "PinBarrel" "barrel" "LPinBarrel$Barrel;", Cond.methodLink RX5 169 yX0_pinsOfTooth, Cond.instanceMethod yX0_pinsOfTooth, Cond.selects RX0 yX0_pinsOfTooth yX0_pinsOfTooth, Cond.initialized RX0, Cond.code yX0_pinsOfTooth cX0_pinsOfTooth 4 (some .int), Cond.methodLink RX0 29 yX0_placesOf]
def wsX5_digest_r3 : List Cond := [Cond.instanceMethod yX0_placesOf, Cond.selects RX0 yX0_placesOf yX0_placesOf, Cond.code yX0_placesOf cX0_placesOf 3 (some .long), Cond.fieldLink RX0 9 "PinBarrel$Barrel" "places" "[J", Cond.methodLink RX0 21 yX0_lineAt, Cond.static yX0_lineAt, Cond.code yX0_lineAt cX0_lineAt 2 (some .int), Cond.methodLink RX0 33 yJ13_bitCount_95d88, Cond.static yJ13_bitCount_95d88, Cond.initialized RJ13, Cond.code yJ13_bitCount_95d88 cJ13_bitCount_95d88 2 (some .int), Cond.constantLong RJ13 314 (6148914691236517205), Cond.constantLong RJ13 316 (3689348814741910323), Cond.constantLong RJ13 318 (1085102592571150095), Cond.methodLink RX5 281 yX5_digestTooth, Cond.instanceMethod yX5_digestTooth, Cond.selects RX5 yX5_digestTooth yX5_digestTooth, Cond.code yX5_digestTooth cX5_digestTooth 7 (some .long), Cond.methodLink RX5 294 yX5_ofTooth, Cond.instanceMethod yX5_ofTooth, Cond.selects RX5 yX5_ofTooth yX5_ofTooth, Cond.code yX5_ofTooth cX5_ofTooth 3 (some .int), Cond.fieldLink RX5 65 "PinBarrel$Comb" "pitch" "[I", Cond.fieldLink RX5 159 "PinBarrel$Comb" "broken" "[Z"]
def wsX5_digest_r4 : List Cond := [Cond.fieldLink RX5 163 "PinBarrel$Comb" "scratches" "[I", Cond.fieldLink RX5 166 "PinBarrel$Comb" "plucks" "[I", Cond.methodLink RX5 62 yX5_needTooth, Cond.instanceMethod yX5_needTooth, Cond.selects RX5 yX5_needTooth yX5_needTooth, Cond.code yX5_needTooth cX5_needTooth 2 none, Cond.classLink RX5 321 "java/lang/IndexOutOfBoundsException", Cond.initialized "java/lang/IndexOutOfBoundsException", Cond.methodLink RX5 172 yX0_placesOf, Cond.methodLink RX5 285 yX5_digestTune, Cond.instanceMethod yX5_digestTune, Cond.selects RX5 yX5_digestTune yX5_digestTune, Cond.code yX5_digestTune cX5_digestTune 7 (some .long), Cond.methodLink RX5 297 yX5_ofTune, Cond.instanceMethod yX5_ofTune, Cond.selects RX5 yX5_ofTune yX5_ofTune, Cond.code yX5_ofTune cX5_ofTune 3 (some .int), Cond.fieldLink RX5 84 "PinBarrel$Tunes" "size" "[I", Cond.methodLink RX5 72 yX5_needTune, Cond.instanceMethod yX5_needTune, Cond.selects RX5 yX5_needTune yX5_needTune, Cond.code yX5_needTune cX5_needTune 2 none, Cond.methodLink RX5 200 yX3_lowest, Cond.instanceMethod yX3_lowest]
def wsX5_digest_r5 : List Cond := [Cond.selects RX3 yX3_lowest yX3_lowest, Cond.initialized RX3, Cond.code yX3_lowest cX3_lowest 5 (some .int), Cond.fieldLink RX3 9 "PinBarrel$Tunes" "size" "[I", Cond.methodLink RX3 22 yX3_pitchOf, Cond.instanceMethod yX3_pitchOf, Cond.selects RX3 yX3_pitchOf yX3_pitchOf, Cond.code yX3_pitchOf cX3_pitchOf 3 (some .int), Cond.fieldLink RX3 15 "PinBarrel$Tunes" "notes" "[I", Cond.methodLink RX5 203 yX3_highest, Cond.instanceMethod yX3_highest, Cond.selects RX3 yX3_highest yX3_highest, Cond.code yX3_highest cX3_highest 4 (some .int), Cond.methodLink RX3 25 Lib.Math.max.name, Cond.static Lib.Math.max.name, Cond.initialized "java/lang/Math", Cond.code Lib.Math.max.name Lib.Math.max.code 2 (some .int), Cond.methodLink RX5 206 yX3_times, Cond.instanceMethod yX3_times, Cond.selects RX3 yX3_times yX3_times, Cond.code yX3_times cX3_times 4 (some .int), Cond.methodLink RX3 30 yX3_timeOf, Cond.instanceMethod yX3_timeOf, Cond.selects RX3 yX3_timeOf yX3_timeOf]
def wsX5_digest_r6 : List Cond := [Cond.code yX3_timeOf cX3_timeOf 3 (some .int), Cond.methodLink RX5 209 yX3_mostAtOnce, Cond.instanceMethod yX3_mostAtOnce, Cond.selects RX3 yX3_mostAtOnce yX3_mostAtOnce, Cond.code yX3_mostAtOnce cX3_mostAtOnce 6 (some .int), Cond.methodLink RX5 300 yX5_bestKey, Cond.instanceMethod yX5_bestKey, Cond.selects RX5 yX5_bestKey yX5_bestKey, Cond.code yX5_bestKey cX5_bestKey 8 (some .int), Cond.methodLink RX5 96 yX5_needLine, Cond.static yX5_needLine, Cond.code yX5_needLine cX5_needLine 1 none, Cond.methodLink RX5 264 yX5_wouldLose, Cond.instanceMethod yX5_wouldLose, Cond.selects RX5 yX5_wouldLose yX5_wouldLose, Cond.code yX5_wouldLose cX5_wouldLose 4 (some .int), Cond.fieldLink RX5 38 "PinBarrel" "trial" "LPinBarrel$Works;", Cond.fieldLink RX5 28 "PinBarrel$Works" "barrel" "LPinBarrel$Barrel;", Cond.methodLink RX5 315 yX0_takePins, Cond.instanceMethod yX0_takePins, Cond.selects RX0 yX0_takePins yX0_takePins, Cond.code yX0_takePins cX0_takePins 4 none, Cond.methodLink RX0 65 arraycopyName, Cond.native arraycopyName]
def wsX5_digest_r7 : List Cond := [Cond.static arraycopyName, Cond.initialized "java/lang/System", Cond.methodLink RX5 102 yX5_pinTune, Cond.instanceMethod yX5_pinTune, Cond.selects RX5 yX5_pinTune yX5_pinTune, Cond.code yX5_pinTune cX5_pinTune 10 (some .int), Cond.methodLink RX5 303 yX3_timeOf, Cond.methodLink RX5 306 yX3_pitchOf, Cond.methodLink RX5 308 yX0_freeTooth, Cond.instanceMethod yX0_freeTooth, Cond.selects RX0 yX0_freeTooth yX0_freeTooth, Cond.code yX0_freeTooth cX0_freeTooth 13 (some .int), Cond.fieldLink RX0 43 "PinBarrel$Comb" "count" "I", Cond.fieldLink RX0 49 "PinBarrel$Comb" "pitch" "[I", Cond.fieldLink RX0 52 "PinBarrel$Comb" "broken" "[Z", Cond.methodLink RX0 39 yX0_placesNear, Cond.static yX0_placesNear, Cond.code yX0_placesNear cX0_placesNear 2 (some .long), Cond.constantLong RX0 19 (127), Cond.methodLink RX5 312 yX0_setPin, Cond.instanceMethod yX0_setPin, Cond.selects RX0 yX0_setPin yX0_setPin, Cond.code yX0_setPin cX0_setPin 4 none, Cond.fieldLink RX0 15 "PinBarrel$Barrel" "wears" "[I"]
def wsX5_digest_r8 : List Cond := [Cond.methodLink RX0 25 yX0_pinAt, Cond.static yX0_pinAt, Cond.code yX0_pinAt cX0_pinAt 3 (some .int), Cond.methodLink RX5 221 yX2_pitchOf, Cond.instanceMethod yX2_pitchOf, Cond.selects RX2 yX2_pitchOf yX2_pitchOf, Cond.initialized RX2, Cond.code yX2_pitchOf cX2_pitchOf 2 (some .int), Cond.fieldLink RX2 9 "PinBarrel$Sounds" "pitches" "[I", Cond.methodLink RX2 23 yX2_roomOf, Cond.instanceMethod yX2_roomOf, Cond.selects RX2 yX2_roomOf yX2_roomOf, Cond.code yX2_roomOf cX2_roomOf 2 (some .int), Cond.fieldLink RX2 19 "PinBarrel$Sounds" "oldest" "I", Cond.methodLink RX5 226 yX2_clockOf, Cond.instanceMethod yX2_clockOf, Cond.selects RX2 yX2_clockOf yX2_clockOf, Cond.code yX2_clockOf cX2_clockOf 2 (some .double), Cond.fieldLink RX2 15 "PinBarrel$Sounds" "clocks" "[D", Cond.methodLink RX5 288 yX5_lasts, Cond.instanceMethod yX5_lasts, Cond.selects RX5 yX5_lasts yX5_lasts, Cond.code yX5_lasts cX5_lasts 2 (some .int), Cond.methodLink RX5 267 yX4_takeOver]
def wsX5_digest_r9 : List Cond := [Cond.instanceMethod yX4_takeOver, Cond.selects RX4 yX4_takeOver yX4_takeOver, Cond.initialized RX4, Cond.code yX4_takeOver cX4_takeOver 2 none, Cond.fieldLink RX4 12 "PinBarrel$Works" "comb" "LPinBarrel$Comb;", Cond.fieldLink RX4 21 "PinBarrel$Works" "barrel" "LPinBarrel$Barrel;", Cond.fieldLink RX4 67 "PinBarrel$Works" "shift" "I", Cond.fieldLink RX4 37 "PinBarrel$Works" "wound" "I", Cond.fieldLink RX4 32 "PinBarrel$Works" "governor" "I", Cond.fieldLink RX4 54 "PinBarrel$Works" "place" "I", Cond.fieldLink RX4 57 "PinBarrel$Works" "steps" "I", Cond.fieldLink RX4 88 "PinBarrel$Works" "buzzes" "I", Cond.fieldLink RX4 102 "PinBarrel$Works" "wornOut" "I", Cond.fieldLink RX4 44 "PinBarrel$Works" "clock" "D", Cond.methodLink RX4 105 yX1_takeTeeth, Cond.instanceMethod yX1_takeTeeth, Cond.selects RX1 yX1_takeTeeth yX1_takeTeeth, Cond.code yX1_takeTeeth cX1_takeTeeth 3 none, Cond.fieldLink RX1 9 "PinBarrel$Comb" "pitch" "[I", Cond.fieldLink RX1 19 "PinBarrel$Comb" "scratches" "[I", Cond.fieldLink RX1 22 "PinBarrel$Comb" "plucks" "[I", Cond.fieldLink RX1 25 "PinBarrel$Comb" "lastPluck" "[I", Cond.methodLink RX4 109 yX0_takePins, Cond.methodLink RX4 113 yX0_takeWears]
def wsX5_digest_r10 : List Cond := [Cond.instanceMethod yX0_takeWears, Cond.selects RX0 yX0_takeWears yX0_takeWears, Cond.code yX0_takeWears cX0_takeWears 4 none, Cond.methodLink RX5 271 yX4_step, Cond.instanceMethod yX4_step, Cond.selects RX4 yX4_step yX4_step, Cond.code yX4_step cX4_step 3 none, Cond.constantDouble RX4 48 (4593671619917905920), Cond.fieldLink RX4 60 "PinBarrel$Comb" "count" "I", Cond.fieldLink RX4 63 "PinBarrel$Comb" "broken" "[Z", Cond.methodLink RX4 78 Lib.Math.max.name, Cond.methodLink RX4 50 yX4_speedNow, Cond.instanceMethod yX4_speedNow, Cond.selects RX4 yX4_speedNow yX4_speedNow, Cond.code yX4_speedNow cX4_speedNow 2 (some .float), Cond.constantFloat RX4 36 (1040187392), Cond.constantFloat RX4 40 (981467136), Cond.methodLink RX4 70 yX0_hasPin, Cond.instanceMethod yX0_hasPin, Cond.selects RX0 yX0_hasPin yX0_hasPin, Cond.code yX0_hasPin cX0_hasPin 4 (some .boolean), Cond.methodLink RX4 74 yX4_pluck, Cond.instanceMethod yX4_pluck, Cond.selects RX4 yX4_pluck yX4_pluck]
def wsX5_digest_r11 : List Cond := [Cond.code yX4_pluck cX4_pluck 2 none, Cond.fieldLink RX4 28 "PinBarrel$Works" "sounds" "LPinBarrel$Sounds;", Cond.fieldLink RX4 91 "PinBarrel$Comb" "pitch" "[I", Cond.methodLink RX4 84 yX1_pluckTooth, Cond.instanceMethod yX1_pluckTooth, Cond.selects RX1 yX1_pluckTooth yX1_pluckTooth, Cond.code yX1_pluckTooth cX1_pluckTooth 4 (some .boolean), Cond.methodLink RX4 95 yX2_addSound, Cond.instanceMethod yX2_addSound, Cond.selects RX2 yX2_addSound yX2_addSound, Cond.code yX2_addSound cX2_addSound 5 none, Cond.fieldLink RX2 27 "PinBarrel$Sounds" "kept" "I", Cond.fieldLink RX2 30 "PinBarrel$Sounds" "ever" "I", Cond.methodLink RX4 99 yX0_wearDown, Cond.instanceMethod yX0_wearDown, Cond.selects RX0 yX0_wearDown yX0_wearDown, Cond.code yX0_wearDown cX0_wearDown 5 (some .boolean), Cond.constantLong RX0 63 (-1), Cond.methodLink RX5 291 yX5_wouldBuzz, Cond.instanceMethod yX5_wouldBuzz, Cond.selects RX5 yX5_wouldBuzz yX5_wouldBuzz, Cond.code yX5_wouldBuzz cX5_wouldBuzz 2 (some .int), Cond.methodLink RX5 138 yX5_needSteps, Cond.static yX5_needSteps]
def wsX5_digest_r12 : List Cond := [Cond.code yX5_needSteps cX5_needSteps 1 none, Cond.methodLink RX5 146 yX4_run, Cond.instanceMethod yX4_run, Cond.selects RX4 yX4_run yX4_run, Cond.code yX4_run cX4_run 3 none, Cond.methodLink RX4 41 yX4_step]
def wsX5_digest : List Cond := .code yX5_digest cX5_digest 4 (some .long) :: ((wsX5_digest_r1 ++ (wsX5_digest_r2 ++ (wsX5_digest_r3 ++ (wsX5_digest_r4 ++ (wsX5_digest_r5 ++ (wsX5_digest_r6 ++ (wsX5_digest_r7 ++ (wsX5_digest_r8 ++ (wsX5_digest_r9 ++ (wsX5_digest_r10 ++ (wsX5_digest_r11 ++ wsX5_digest_r12))))))))))) ++ wsX50 ++ wsX10 ++ wsX30 ++ wsX20 ++ wsX40 ++ wsX00 ++ (vx_atS RX5 79 "java/lang/IllegalArgumentException" ["java/lang/RuntimeException", "java/lang/Exception"]).filter goodWord ++ (vx_atS RX5 325 "java/lang/IndexOutOfBoundsException" ["java/lang/RuntimeException", "java/lang/Exception"]).filter goodWord)
def wsJ13_rotateLeft_b2ac5 : List Cond := .code yJ13_rotateLeft_b2ac5 cJ13_rotateLeft_b2ac5 3 (some .long) :: ([])
def wsJ9_abs_0f7a4 : List Cond := .code yJ9_abs_0f7a4 cJ9_abs_0f7a4 1 (some .int) :: ([])
def wsJ9_max_7cf53 : List Cond := .code yJ9_max_7cf53 cJ9_max_7cf53 2 (some .int) :: ([])
def wsJ9_min_7cf53 : List Cond := .code yJ9_min_7cf53 cJ9_min_7cf53 2 (some .int) :: ([])
def wsJ0_coder_7d493 : List Cond := .code yJ0_coder_7d493 cJ0_coder_7d493 1 (some .byte) :: ([.fieldLink RJ0 38 "java/lang/String" "COMPACT_STRINGS" "Z", .fieldLink RJ0 15 "java/lang/String" "coder" "B"] ++ wsJ00)
def wsJ0_length_8abf5 : List Cond := .code yJ0_length_8abf5 cJ0_length_8abf5 1 (some .int) :: ([.fieldLink RJ0 9 "java/lang/String" "value" "[B", .methodLink RJ0 335 yJ0_coder_7d493, .instanceMethod yJ0_coder_7d493, .selects RJ0 yJ0_coder_7d493 yJ0_coder_7d493, .initialized RJ0, .code yJ0_coder_7d493 cJ0_coder_7d493 1 (some .byte), .fieldLink RJ0 38 "java/lang/String" "COMPACT_STRINGS" "Z", .fieldLink RJ0 15 "java/lang/String" "coder" "B"] ++ wsJ00)
def wsJ0_isLatin1_aae02 : List Cond := .code yJ0_isLatin1_aae02 cJ0_isLatin1_aae02 1 (some .boolean) :: ([.fieldLink RJ0 38 "java/lang/String" "COMPACT_STRINGS" "Z", .fieldLink RJ0 15 "java/lang/String" "coder" "B"] ++ wsJ00)
def wsJ1_charAt_3b067 : List Cond := .code yJ1_charAt_3b067 cJ1_charAt_3b067 2 (some .char) :: ([.methodLink RJ1 9 yJ0_checkIndex_df160, .static yJ0_checkIndex_df160, .initialized RJ0, .code yJ0_checkIndex_df160 cJ0_checkIndex_df160 2 none, .fieldLink RJ0 1053 "jdk/internal/util/Preconditions" "SIOOBE_FORMATTER" "Ljava/util/function/BiFunction;", .methodLink RJ0 1059 yJ3_checkIndex_8e157, .static yJ3_checkIndex_8e157, .initialized RJ3, .code yJ3_checkIndex_8e157 cJ3_checkIndex_8e157 3 (some .int)])
def wsJ2_charAt_3b067 : List Cond := .code yJ2_charAt_3b067 cJ2_charAt_3b067 2 (some .char) :: ([.methodLink RJ2 67 yJ2_checkIndex_2214a, .static yJ2_checkIndex_2214a, .initialized RJ2, .code yJ2_checkIndex_2214a cJ2_checkIndex_2214a 2 none, .methodLink RJ2 48 yJ2_length_9d52b, .static yJ2_length_9d52b, .code yJ2_length_9d52b cJ2_length_9d52b 1 (some .int), .methodLink RJ2 414 yJ0_checkIndex_df160, .static yJ0_checkIndex_df160, .initialized RJ0, .code yJ0_checkIndex_df160 cJ0_checkIndex_df160 2 none, .fieldLink RJ0 1053 "jdk/internal/util/Preconditions" "SIOOBE_FORMATTER" "Ljava/util/function/BiFunction;", .methodLink RJ0 1059 yJ3_checkIndex_8e157, .static yJ3_checkIndex_8e157, .initialized RJ3, .code yJ3_checkIndex_8e157 cJ3_checkIndex_8e157 3 (some .int), .methodLink RJ2 71 yJ2_getChar_3b067, .static yJ2_getChar_3b067, .code yJ2_getChar_3b067 cJ2_getChar_3b067 2 (some .char), .fieldLink RJ2 44 "java/lang/StringUTF16" "$assertionsDisabled" "Z", .fieldLink RJ2 59 "java/lang/StringUTF16" "HI_BYTE_SHIFT" "I", .fieldLink RJ2 63 "java/lang/StringUTF16" "LO_BYTE_SHIFT" "I"])
def wsJ0_charAt_5068e_r1 : List Cond := [Cond.fieldLink RJ0 9 "java/lang/String" "value" "[B", Cond.methodLink RJ0 492 yJ0_isLatin1_aae02, Cond.instanceMethod yJ0_isLatin1_aae02, Cond.selects RJ0 yJ0_isLatin1_aae02 yJ0_isLatin1_aae02, Cond.initialized RJ0, Cond.code yJ0_isLatin1_aae02 cJ0_isLatin1_aae02 1 (some .boolean), Cond.fieldLink RJ0 38 "java/lang/String" "COMPACT_STRINGS" "Z", Cond.fieldLink RJ0 15 "java/lang/String" "coder" "B", Cond.methodLink RJ0 495 yJ1_charAt_3b067, Cond.static yJ1_charAt_3b067, Cond.initialized RJ1, Cond.code yJ1_charAt_3b067 cJ1_charAt_3b067 2 (some .char), Cond.methodLink RJ1 9 yJ0_checkIndex_df160, Cond.static yJ0_checkIndex_df160, Cond.code yJ0_checkIndex_df160 cJ0_checkIndex_df160 2 none, Cond.fieldLink RJ0 1053 "jdk/internal/util/Preconditions" "SIOOBE_FORMATTER" "Ljava/util/function/BiFunction;", Cond.methodLink RJ0 1059 yJ3_checkIndex_8e157, Cond.static yJ3_checkIndex_8e157, Cond.initialized RJ3, Cond.code yJ3_checkIndex_8e157 cJ3_checkIndex_8e157 3 (some .int), Cond.methodLink RJ0 498 yJ2_charAt_3b067, Cond.static yJ2_charAt_3b067, Cond.initialized RJ2, Cond.code yJ2_charAt_3b067 cJ2_charAt_3b067 2 (some .char)]
def wsJ0_charAt_5068e_r2 : List Cond := [Cond.methodLink RJ2 67 yJ2_checkIndex_2214a, Cond.static yJ2_checkIndex_2214a, Cond.code yJ2_checkIndex_2214a cJ2_checkIndex_2214a 2 none, Cond.methodLink RJ2 48 yJ2_length_9d52b, Cond.static yJ2_length_9d52b, Cond.code yJ2_length_9d52b cJ2_length_9d52b 1 (some .int), Cond.methodLink RJ2 414 yJ0_checkIndex_df160, Cond.methodLink RJ2 71 yJ2_getChar_3b067, Cond.static yJ2_getChar_3b067, Cond.code yJ2_getChar_3b067 cJ2_getChar_3b067 2 (some .char), Cond.fieldLink RJ2 44 "java/lang/StringUTF16" "$assertionsDisabled" "Z", Cond.fieldLink RJ2 59 "java/lang/StringUTF16" "HI_BYTE_SHIFT" "I", Cond.fieldLink RJ2 63 "java/lang/StringUTF16" "LO_BYTE_SHIFT" "I"]
def wsJ0_charAt_5068e : List Cond := .code yJ0_charAt_5068e cJ0_charAt_5068e 2 (some .char) :: ((wsJ0_charAt_5068e_r1 ++ wsJ0_charAt_5068e_r2) ++ wsJ00)
def wsL_below : List Cond := .code yL_below cL_below 2 (some .int) :: ([.constant RL 7 (2147483647)])
def wsL_cell : List Cond := .code yL_cell cL_cell 2 (some .int) :: ([.constant RL 8 (790386105)])
def wsL_plucks_r1 : List Cond := [Cond.methodLink RL 76 yX5_ofTooth, Cond.instanceMethod yX5_ofTooth, Cond.selects RX5 yX5_ofTooth yX5_ofTooth, Cond.initialized RX5, Cond.code yX5_ofTooth cX5_ofTooth 3 (some .int), Cond.fieldLink RX5 27 "PinBarrel" "comb" "LPinBarrel$Comb;", Cond.fieldLink RX5 65 "PinBarrel$Comb" "pitch" "[I", Cond.fieldLink RX5 159 "PinBarrel$Comb" "broken" "[Z", Cond.fieldLink RX5 163 "PinBarrel$Comb" "scratches" "[I", Cond.fieldLink RX5 166 "PinBarrel$Comb" "plucks" "[I", Cond.fieldLink RX5 32 "PinBarrel" "barrel" "LPinBarrel$Barrel;", Cond.methodLink RX5 62 yX5_needTooth, Cond.instanceMethod yX5_needTooth, Cond.selects RX5 yX5_needTooth yX5_needTooth, Cond.code yX5_needTooth cX5_needTooth 2 none, Cond.classLink RX5 321 "java/lang/IndexOutOfBoundsException", Cond.initialized "java/lang/IndexOutOfBoundsException", Cond.fieldLink RX5 45 "PinBarrel$Comb" "count" "I", Cond.methodLink RX5 155 yX5_needQuestion, Cond.static yX5_needQuestion, Cond.code yX5_needQuestion cX5_needQuestion 2 none, Cond.classLink RX5 75 "java/lang/IllegalArgumentException", Cond.initialized "java/lang/IllegalArgumentException", Cond.methodLink RX5 169 yX0_pinsOfTooth]
def wsL_plucks_r2 : List Cond := [Cond.instanceMethod yX0_pinsOfTooth, Cond.selects RX0 yX0_pinsOfTooth yX0_pinsOfTooth, Cond.initialized RX0, Cond.code yX0_pinsOfTooth cX0_pinsOfTooth 4 (some .int), Cond.methodLink RX0 29 yX0_placesOf, Cond.instanceMethod yX0_placesOf, Cond.selects RX0 yX0_placesOf yX0_placesOf, Cond.code yX0_placesOf cX0_placesOf 3 (some .long), Cond.fieldLink RX0 9 "PinBarrel$Barrel" "places" "[J", Cond.methodLink RX0 21 yX0_lineAt, Cond.static yX0_lineAt, Cond.code yX0_lineAt cX0_lineAt 2 (some .int), Cond.methodLink RX0 33 yJ13_bitCount_95d88, Cond.static yJ13_bitCount_95d88, Cond.initialized RJ13, Cond.code yJ13_bitCount_95d88 cJ13_bitCount_95d88 2 (some .int), Cond.constantLong RJ13 314 (6148914691236517205), Cond.constantLong RJ13 316 (3689348814741910323), Cond.constantLong RJ13 318 (1085102592571150095)]
def wsL_plucks : List Cond := .code yL_plucks cL_plucks 4 (some .int) :: ((wsL_plucks_r1 ++ wsL_plucks_r2) ++ wsX50 ++ wsX10 ++ wsX00 ++ (vx_atS RX5 325 "java/lang/IndexOutOfBoundsException" ["java/lang/RuntimeException", "java/lang/Exception"]).filter goodWord ++ (vx_atS RX5 79 "java/lang/IllegalArgumentException" ["java/lang/RuntimeException", "java/lang/Exception"]).filter goodWord)
def wsL_isPlayed_r1 : List Cond := [Cond.methodLink RL 58 Lib.Math.min.name, Cond.static Lib.Math.min.name, Cond.initialized "java/lang/Math", Cond.code Lib.Math.min.name Lib.Math.min.code 2 (some .int), Cond.methodLink RL 114 Lib.Math.max.name, Cond.static Lib.Math.max.name, Cond.code Lib.Math.max.name Lib.Math.max.code 2 (some .int), Cond.methodLink RL 101 yL_plucks, Cond.static yL_plucks, Cond.initialized RL, Cond.code yL_plucks cL_plucks 4 (some .int), Cond.methodLink RL 76 yX5_ofTooth, Cond.instanceMethod yX5_ofTooth, Cond.selects RX5 yX5_ofTooth yX5_ofTooth, Cond.initialized RX5, Cond.code yX5_ofTooth cX5_ofTooth 3 (some .int), Cond.fieldLink RX5 27 "PinBarrel" "comb" "LPinBarrel$Comb;", Cond.fieldLink RX5 65 "PinBarrel$Comb" "pitch" "[I", Cond.fieldLink RX5 159 "PinBarrel$Comb" "broken" "[Z", Cond.fieldLink RX5 163 "PinBarrel$Comb" "scratches" "[I", Cond.fieldLink RX5 166 "PinBarrel$Comb" "plucks" "[I", Cond.fieldLink RX5 32 "PinBarrel" "barrel" "LPinBarrel$Barrel;", Cond.methodLink RX5 62 yX5_needTooth, Cond.instanceMethod yX5_needTooth]
def wsL_isPlayed_r2 : List Cond := [Cond.selects RX5 yX5_needTooth yX5_needTooth, Cond.code yX5_needTooth cX5_needTooth 2 none, Cond.classLink RX5 321 "java/lang/IndexOutOfBoundsException", Cond.initialized "java/lang/IndexOutOfBoundsException", Cond.fieldLink RX5 45 "PinBarrel$Comb" "count" "I", Cond.methodLink RX5 155 yX5_needQuestion, Cond.static yX5_needQuestion, Cond.code yX5_needQuestion cX5_needQuestion 2 none, Cond.classLink RX5 75 "java/lang/IllegalArgumentException", Cond.initialized "java/lang/IllegalArgumentException", Cond.methodLink RX5 169 yX0_pinsOfTooth, Cond.instanceMethod yX0_pinsOfTooth, Cond.selects RX0 yX0_pinsOfTooth yX0_pinsOfTooth, Cond.initialized RX0, Cond.code yX0_pinsOfTooth cX0_pinsOfTooth 4 (some .int), Cond.methodLink RX0 29 yX0_placesOf, Cond.instanceMethod yX0_placesOf, Cond.selects RX0 yX0_placesOf yX0_placesOf, Cond.code yX0_placesOf cX0_placesOf 3 (some .long), Cond.fieldLink RX0 9 "PinBarrel$Barrel" "places" "[J", Cond.methodLink RX0 21 yX0_lineAt, Cond.static yX0_lineAt, Cond.code yX0_lineAt cX0_lineAt 2 (some .int), Cond.methodLink RX0 33 yJ13_bitCount_95d88]
def wsL_isPlayed_r3 : List Cond := [Cond.static yJ13_bitCount_95d88, Cond.initialized RJ13, Cond.code yJ13_bitCount_95d88 cJ13_bitCount_95d88 2 (some .int), Cond.constantLong RJ13 314 (6148914691236517205), Cond.constantLong RJ13 316 (3689348814741910323), Cond.constantLong RJ13 318 (1085102592571150095), Cond.methodLink RL 42 yX5_many, Cond.instanceMethod yX5_many, Cond.selects RX5 yX5_many yX5_many, Cond.code yX5_many cX5_many 2 (some .int), Cond.fieldLink RX5 10 "PinBarrel" "tunes" "LPinBarrel$Tunes;", Cond.fieldLink RX5 69 "PinBarrel$Tunes" "count" "I", Cond.fieldLink RX5 19 "PinBarrel" "works" "LPinBarrel$Works;", Cond.fieldLink RX5 245 "PinBarrel$Works" "place" "I", Cond.fieldLink RX5 112 "PinBarrel$Works" "shift" "I", Cond.fieldLink RX5 117 "PinBarrel$Works" "wound" "I", Cond.fieldLink RX5 131 "PinBarrel$Works" "governor" "I", Cond.fieldLink RX5 248 "PinBarrel$Works" "steps" "I", Cond.fieldLink RX5 37 "PinBarrel" "sounds" "LPinBarrel$Sounds;", Cond.fieldLink RX5 141 "PinBarrel$Sounds" "ever" "I", Cond.fieldLink RX5 251 "PinBarrel$Sounds" "kept" "I", Cond.fieldLink RX5 254 "PinBarrel$Works" "buzzes" "I", Cond.fieldLink RX5 257 "PinBarrel$Works" "wornOut" "I", Cond.fieldLink RX5 120 "PinBarrel" "knocks" "I"]
def wsL_isPlayed_r4 : List Cond := [Cond.fieldLink RX5 260 "PinBarrel$Works" "clock" "D", Cond.methodLink RX5 238 yX1_brokenTeeth, Cond.instanceMethod yX1_brokenTeeth, Cond.selects RX1 yX1_brokenTeeth yX1_brokenTeeth, Cond.initialized RX1, Cond.code yX1_brokenTeeth cX1_brokenTeeth 3 (some .int), Cond.fieldLink RX1 28 "PinBarrel$Comb" "count" "I", Cond.fieldLink RX1 15 "PinBarrel$Comb" "broken" "[Z", Cond.methodLink RX5 242 yX5_allPins, Cond.instanceMethod yX5_allPins, Cond.selects RX5 yX5_allPins yX5_allPins, Cond.code yX5_allPins cX5_allPins 3 (some .int), Cond.methodLink RL 105 yX5_wouldBuzz, Cond.instanceMethod yX5_wouldBuzz, Cond.selects RX5 yX5_wouldBuzz yX5_wouldBuzz, Cond.code yX5_wouldBuzz cX5_wouldBuzz 2 (some .int), Cond.fieldLink RX5 38 "PinBarrel" "trial" "LPinBarrel$Works;", Cond.methodLink RX5 138 yX5_needSteps, Cond.static yX5_needSteps, Cond.code yX5_needSteps cX5_needSteps 1 none, Cond.methodLink RX5 267 yX4_takeOver, Cond.instanceMethod yX4_takeOver, Cond.selects RX4 yX4_takeOver yX4_takeOver, Cond.initialized RX4]
def wsL_isPlayed_r5 : List Cond := [Cond.code yX4_takeOver cX4_takeOver 2 none, Cond.fieldLink RX4 12 "PinBarrel$Works" "comb" "LPinBarrel$Comb;", Cond.fieldLink RX4 21 "PinBarrel$Works" "barrel" "LPinBarrel$Barrel;", Cond.fieldLink RX4 67 "PinBarrel$Works" "shift" "I", Cond.fieldLink RX4 37 "PinBarrel$Works" "wound" "I", Cond.fieldLink RX4 32 "PinBarrel$Works" "governor" "I", Cond.fieldLink RX4 54 "PinBarrel$Works" "place" "I", Cond.fieldLink RX4 57 "PinBarrel$Works" "steps" "I", Cond.fieldLink RX4 88 "PinBarrel$Works" "buzzes" "I", Cond.fieldLink RX4 102 "PinBarrel$Works" "wornOut" "I", Cond.fieldLink RX4 44 "PinBarrel$Works" "clock" "D", Cond.methodLink RX4 105 yX1_takeTeeth, Cond.instanceMethod yX1_takeTeeth, Cond.selects RX1 yX1_takeTeeth yX1_takeTeeth, Cond.code yX1_takeTeeth cX1_takeTeeth 3 none, Cond.fieldLink RX1 9 "PinBarrel$Comb" "pitch" "[I", Cond.fieldLink RX1 19 "PinBarrel$Comb" "scratches" "[I", Cond.fieldLink RX1 22 "PinBarrel$Comb" "plucks" "[I", Cond.fieldLink RX1 25 "PinBarrel$Comb" "lastPluck" "[I", Cond.methodLink RX4 109 yX0_takePins, Cond.instanceMethod yX0_takePins, Cond.selects RX0 yX0_takePins yX0_takePins, Cond.code yX0_takePins cX0_takePins 4 none, Cond.methodLink RX0 65 arraycopyName]
def wsL_isPlayed_r6 : List Cond := [Cond.native arraycopyName, Cond.static arraycopyName, Cond.initialized "java/lang/System", Cond.methodLink RX4 113 yX0_takeWears, Cond.instanceMethod yX0_takeWears, Cond.selects RX0 yX0_takeWears yX0_takeWears, Cond.code yX0_takeWears cX0_takeWears 4 none, Cond.fieldLink RX0 15 "PinBarrel$Barrel" "wears" "[I", Cond.methodLink RX0 25 yX0_pinAt, Cond.static yX0_pinAt, Cond.code yX0_pinAt cX0_pinAt 3 (some .int), Cond.methodLink RX5 146 yX4_run, Cond.instanceMethod yX4_run, Cond.selects RX4 yX4_run yX4_run, Cond.code yX4_run cX4_run 3 none, Cond.methodLink RX4 41 yX4_step, Cond.instanceMethod yX4_step, Cond.selects RX4 yX4_step yX4_step, Cond.code yX4_step cX4_step 3 none, Cond.constantDouble RX4 48 (4593671619917905920), Cond.fieldLink RX4 60 "PinBarrel$Comb" "count" "I", Cond.fieldLink RX4 63 "PinBarrel$Comb" "broken" "[Z", Cond.methodLink RX4 78 Lib.Math.max.name, Cond.methodLink RX4 50 yX4_speedNow]
def wsL_isPlayed_r7 : List Cond := [Cond.instanceMethod yX4_speedNow, Cond.selects RX4 yX4_speedNow yX4_speedNow, Cond.code yX4_speedNow cX4_speedNow 2 (some .float), Cond.constantFloat RX4 36 (1040187392), Cond.constantFloat RX4 40 (981467136), Cond.methodLink RX4 70 yX0_hasPin, Cond.instanceMethod yX0_hasPin, Cond.selects RX0 yX0_hasPin yX0_hasPin, Cond.code yX0_hasPin cX0_hasPin 4 (some .boolean), Cond.methodLink RX4 74 yX4_pluck, Cond.instanceMethod yX4_pluck, Cond.selects RX4 yX4_pluck yX4_pluck, Cond.code yX4_pluck cX4_pluck 2 none, Cond.fieldLink RX4 28 "PinBarrel$Works" "sounds" "LPinBarrel$Sounds;", Cond.fieldLink RX4 91 "PinBarrel$Comb" "pitch" "[I", Cond.methodLink RX4 84 yX1_pluckTooth, Cond.instanceMethod yX1_pluckTooth, Cond.selects RX1 yX1_pluckTooth yX1_pluckTooth, Cond.code yX1_pluckTooth cX1_pluckTooth 4 (some .boolean), Cond.methodLink RX4 95 yX2_addSound, Cond.instanceMethod yX2_addSound, Cond.selects RX2 yX2_addSound yX2_addSound, Cond.initialized RX2, Cond.code yX2_addSound cX2_addSound 5 none]
def wsL_isPlayed_r8 : List Cond := [Cond.fieldLink RX2 27 "PinBarrel$Sounds" "kept" "I", Cond.fieldLink RX2 9 "PinBarrel$Sounds" "pitches" "[I", Cond.fieldLink RX2 15 "PinBarrel$Sounds" "clocks" "[D", Cond.fieldLink RX2 30 "PinBarrel$Sounds" "ever" "I", Cond.fieldLink RX2 19 "PinBarrel$Sounds" "oldest" "I", Cond.methodLink RX2 23 yX2_roomOf, Cond.instanceMethod yX2_roomOf, Cond.selects RX2 yX2_roomOf yX2_roomOf, Cond.code yX2_roomOf cX2_roomOf 2 (some .int), Cond.methodLink RX4 99 yX0_wearDown, Cond.instanceMethod yX0_wearDown, Cond.selects RX0 yX0_wearDown yX0_wearDown, Cond.code yX0_wearDown cX0_wearDown 5 (some .boolean), Cond.constantLong RX0 63 (-1), Cond.methodLink RL 108 yX5_lasts, Cond.instanceMethod yX5_lasts, Cond.selects RX5 yX5_lasts yX5_lasts, Cond.code yX5_lasts cX5_lasts 2 (some .int), Cond.methodLink RX5 271 yX4_step, Cond.methodLink RL 111 yX5_play, Cond.instanceMethod yX5_play, Cond.selects RX5 yX5_play yX5_play, Cond.code yX5_play cX5_play 3 (some .int)]
def wsL_isPlayed : List Cond := .code yL_isPlayed cL_isPlayed 15 (some .boolean) :: ((wsL_isPlayed_r1 ++ (wsL_isPlayed_r2 ++ (wsL_isPlayed_r3 ++ (wsL_isPlayed_r4 ++ (wsL_isPlayed_r5 ++ (wsL_isPlayed_r6 ++ (wsL_isPlayed_r7 ++ wsL_isPlayed_r8))))))) ++ wsX50 ++ wsX10 ++ wsX00 ++ wsX30 ++ wsX40 ++ wsX20 ++ (vx_atS RX5 325 "java/lang/IndexOutOfBoundsException" ["java/lang/RuntimeException", "java/lang/Exception"]).filter goodWord ++ (vx_atS RX5 79 "java/lang/IllegalArgumentException" ["java/lang/RuntimeException", "java/lang/Exception"]).filter goodWord)
def wsL_areWell_r1 : List Cond := [Cond.methodLink RL 58 Lib.Math.min.name, Cond.static Lib.Math.min.name, Cond.initialized "java/lang/Math", Cond.code Lib.Math.min.name Lib.Math.min.code 2 (some .int), Cond.methodLink RL 76 yX5_ofTooth, Cond.instanceMethod yX5_ofTooth, Cond.selects RX5 yX5_ofTooth yX5_ofTooth, Cond.initialized RX5, Cond.code yX5_ofTooth cX5_ofTooth 3 (some .int), Cond.fieldLink RX5 27 "PinBarrel" "comb" "LPinBarrel$Comb;", Cond.fieldLink RX5 65 "PinBarrel$Comb" "pitch" "[I", Cond.fieldLink RX5 159 "PinBarrel$Comb" "broken" "[Z", Cond.fieldLink RX5 163 "PinBarrel$Comb" "scratches" "[I", Cond.fieldLink RX5 166 "PinBarrel$Comb" "plucks" "[I", Cond.fieldLink RX5 32 "PinBarrel" "barrel" "LPinBarrel$Barrel;", Cond.methodLink RX5 62 yX5_needTooth, Cond.instanceMethod yX5_needTooth, Cond.selects RX5 yX5_needTooth yX5_needTooth, Cond.code yX5_needTooth cX5_needTooth 2 none, Cond.classLink RX5 321 "java/lang/IndexOutOfBoundsException", Cond.initialized "java/lang/IndexOutOfBoundsException", Cond.fieldLink RX5 45 "PinBarrel$Comb" "count" "I", Cond.methodLink RX5 155 yX5_needQuestion, Cond.static yX5_needQuestion]
def wsL_areWell_r2 : List Cond := [Cond.code yX5_needQuestion cX5_needQuestion 2 none, Cond.classLink RX5 75 "java/lang/IllegalArgumentException", Cond.initialized "java/lang/IllegalArgumentException", Cond.methodLink RX5 169 yX0_pinsOfTooth, Cond.instanceMethod yX0_pinsOfTooth, Cond.selects RX0 yX0_pinsOfTooth yX0_pinsOfTooth, Cond.initialized RX0, Cond.code yX0_pinsOfTooth cX0_pinsOfTooth 4 (some .int), Cond.methodLink RX0 29 yX0_placesOf, Cond.instanceMethod yX0_placesOf, Cond.selects RX0 yX0_placesOf yX0_placesOf, Cond.code yX0_placesOf cX0_placesOf 3 (some .long), Cond.fieldLink RX0 9 "PinBarrel$Barrel" "places" "[J", Cond.methodLink RX0 21 yX0_lineAt, Cond.static yX0_lineAt, Cond.code yX0_lineAt cX0_lineAt 2 (some .int), Cond.methodLink RX0 33 yJ13_bitCount_95d88, Cond.static yJ13_bitCount_95d88, Cond.initialized RJ13, Cond.code yJ13_bitCount_95d88 cJ13_bitCount_95d88 2 (some .int), Cond.constantLong RJ13 314 (6148914691236517205), Cond.constantLong RJ13 316 (3689348814741910323), Cond.constantLong RJ13 318 (1085102592571150095), Cond.methodLink RL 117 yX5_pins]
def wsL_areWell_r3 : List Cond := [Cond.instanceMethod yX5_pins, Cond.selects RX5 yX5_pins yX5_pins, Cond.code yX5_pins cX5_pins 3 (some .long), Cond.methodLink RX5 96 yX5_needLine, Cond.static yX5_needLine, Cond.code yX5_needLine cX5_needLine 1 none, Cond.methodLink RX5 172 yX0_placesOf, Cond.methodLink RL 121 yJ13_bitCount_95d88, Cond.methodLink RL 127 yJ13_rotateLeft_b2ac5, Cond.static yJ13_rotateLeft_b2ac5, Cond.code yJ13_rotateLeft_b2ac5 cJ13_rotateLeft_b2ac5 3 (some .long), Cond.methodLink RL 42 yX5_many, Cond.instanceMethod yX5_many, Cond.selects RX5 yX5_many yX5_many, Cond.code yX5_many cX5_many 2 (some .int), Cond.fieldLink RX5 10 "PinBarrel" "tunes" "LPinBarrel$Tunes;", Cond.fieldLink RX5 69 "PinBarrel$Tunes" "count" "I", Cond.fieldLink RX5 19 "PinBarrel" "works" "LPinBarrel$Works;", Cond.fieldLink RX5 245 "PinBarrel$Works" "place" "I", Cond.fieldLink RX5 112 "PinBarrel$Works" "shift" "I", Cond.fieldLink RX5 117 "PinBarrel$Works" "wound" "I", Cond.fieldLink RX5 131 "PinBarrel$Works" "governor" "I", Cond.fieldLink RX5 248 "PinBarrel$Works" "steps" "I", Cond.fieldLink RX5 37 "PinBarrel" "sounds" "LPinBarrel$Sounds;"]
def wsL_areWell_r4 : List Cond := [Cond.fieldLink RX5 141 "PinBarrel$Sounds" "ever" "I", Cond.fieldLink RX5 251 "PinBarrel$Sounds" "kept" "I", Cond.fieldLink RX5 254 "PinBarrel$Works" "buzzes" "I", Cond.fieldLink RX5 257 "PinBarrel$Works" "wornOut" "I", Cond.fieldLink RX5 120 "PinBarrel" "knocks" "I", Cond.fieldLink RX5 260 "PinBarrel$Works" "clock" "D", Cond.methodLink RX5 238 yX1_brokenTeeth, Cond.instanceMethod yX1_brokenTeeth, Cond.selects RX1 yX1_brokenTeeth yX1_brokenTeeth, Cond.initialized RX1, Cond.code yX1_brokenTeeth cX1_brokenTeeth 3 (some .int), Cond.fieldLink RX1 28 "PinBarrel$Comb" "count" "I", Cond.fieldLink RX1 15 "PinBarrel$Comb" "broken" "[Z", Cond.methodLink RX5 242 yX5_allPins, Cond.instanceMethod yX5_allPins, Cond.selects RX5 yX5_allPins yX5_allPins, Cond.code yX5_allPins cX5_allPins 3 (some .int), Cond.methodLink RL 131 yX5_when, Cond.instanceMethod yX5_when, Cond.selects RX5 yX5_when yX5_when, Cond.code yX5_when cX5_when 2 (some .double), Cond.constantDouble RX5 224 (4620693217682128896), Cond.methodLink RX5 218 yX5_needSound, Cond.instanceMethod yX5_needSound]
def wsL_areWell_r5 : List Cond := [Cond.selects RX5 yX5_needSound yX5_needSound, Cond.code yX5_needSound cX5_needSound 2 none, Cond.methodLink RX5 226 yX2_clockOf, Cond.instanceMethod yX2_clockOf, Cond.selects RX2 yX2_clockOf yX2_clockOf, Cond.initialized RX2, Cond.code yX2_clockOf cX2_clockOf 2 (some .double), Cond.fieldLink RX2 15 "PinBarrel$Sounds" "clocks" "[D", Cond.methodLink RX2 23 yX2_roomOf, Cond.instanceMethod yX2_roomOf, Cond.selects RX2 yX2_roomOf yX2_roomOf, Cond.code yX2_roomOf cX2_roomOf 2 (some .int), Cond.fieldLink RX2 19 "PinBarrel$Sounds" "oldest" "I", Cond.methodLink RX5 230 yX5_nearestWhole, Cond.static yX5_nearestWhole, Cond.code yX5_nearestWhole cX5_nearestWhole 6 (some .long), Cond.constantDouble RX5 319 (4602678819172646912), Cond.methodLink RL 134 yX5_heard, Cond.instanceMethod yX5_heard, Cond.selects RX5 yX5_heard yX5_heard, Cond.code yX5_heard cX5_heard 2 (some .int), Cond.methodLink RX5 221 yX2_pitchOf, Cond.instanceMethod yX2_pitchOf, Cond.selects RX2 yX2_pitchOf yX2_pitchOf]
def wsL_areWell_r6 : List Cond := [Cond.code yX2_pitchOf cX2_pitchOf 2 (some .int), Cond.fieldLink RX2 9 "PinBarrel$Sounds" "pitches" "[I", Cond.methodLink RL 137 yX5_row, Cond.instanceMethod yX5_row, Cond.selects RX5 yX5_row yX5_row, Cond.code yX5_row cX5_row 4 (some (.object "java/lang/String")), Cond.classLink RX5 185 RJ4, Cond.instantiable RJ4 4, Cond.initialized RJ4, Cond.methodLink RX5 176 yX5_needPlace, Cond.static yX5_needPlace, Cond.code yX5_needPlace cX5_needPlace 1 none, Cond.methodLink RX5 187 yJ4_init_da8c8, Cond.instanceMethod yJ4_init_da8c8, Cond.code yJ4_init_da8c8 cJ4_init_da8c8 1 none, Cond.methodLink RJ4 1 yJ5_init_d00df, Cond.instanceMethod yJ5_init_d00df, Cond.initialized RJ5, Cond.code yJ5_init_d00df cJ5_init_d00df 2 none, Cond.methodLink RJ5 3 objectInit, Cond.instanceMethod objectInit, Cond.code objectInit ⟨#[0xb1]⟩ 1 none, Cond.fieldLink RJ5 18 "java/lang/String" "COMPACT_STRINGS" "Z", Cond.arrayClass .byte]
def wsL_areWell_r7 : List Cond := [Cond.fieldLink RJ5 15 "java/lang/AbstractStringBuilder" "value" "[B", Cond.fieldLink RJ5 22 "java/lang/AbstractStringBuilder" "coder" "B", Cond.methodLink RJ5 26 yJ2_newBytesFor_77867, Cond.static yJ2_newBytesFor_77867, Cond.initialized RJ2, Cond.code yJ2_newBytesFor_77867 cJ2_newBytesFor_77867 1 (some (.array .byte)), Cond.methodLink RJ2 11 yJ2_newBytesLength_0f7a4, Cond.static yJ2_newBytesLength_0f7a4, Cond.code yJ2_newBytesLength_0f7a4 cJ2_newBytesLength_0f7a4 1 (some .int), Cond.constant RJ2 20 (1073741823), Cond.methodLink RX5 188 yX5_signOf, Cond.instanceMethod yX5_signOf, Cond.selects RX5 yX5_signOf yX5_signOf, Cond.code yX5_signOf cX5_signOf 3 (some .char), Cond.methodLink RX5 179 yX0_hasPin, Cond.instanceMethod yX0_hasPin, Cond.selects RX0 yX0_hasPin yX0_hasPin, Cond.code yX0_hasPin cX0_hasPin 4 (some .boolean), Cond.methodLink RX5 192 yJ4_append_cf468, Cond.instanceMethod yJ4_append_cf468, Cond.selects RJ4 yJ4_append_cf468 yJ4_append_cf468, Cond.code yJ4_append_cf468 cJ4_append_cf468 2 (some (.object "java/lang/StringBuilder")), Cond.methodLink RJ4 50 yJ5_append_3fe6f, Cond.sameMethod "java/lang/AbstractStringBuilder" "java/lang/AbstractStringBuilder" "append" "(C)Ljava/lang/AbstractStringBuilder;"]
def wsL_areWell_r8 : List Cond := [Cond.superclass RJ4 RJ5, Cond.instanceMethod yJ5_append_3fe6f, Cond.code yJ5_append_3fe6f cJ5_append_3fe6f 2 (some (.object "java/lang/AbstractStringBuilder")), Cond.fieldLink RJ5 79 "java/lang/AbstractStringBuilder" "count" "I", Cond.methodLink RJ5 100 ⟨"java/lang/AbstractStringBuilder", "ensureCapacityInternal", "(I)V"⟩, Cond.sameMethod "java/lang/AbstractStringBuilder" "java/lang/AbstractStringBuilder" "ensureCapacityInternal" "(I)V", Cond.selects RJ4 ⟨"java/lang/AbstractStringBuilder", "ensureCapacityInternal", "(I)V"⟩ yJ5_ensureCapacityInternal_d00df, Cond.instanceMethod yJ5_ensureCapacityInternal_d00df, Cond.code yJ5_ensureCapacityInternal_d00df cJ5_ensureCapacityInternal_d00df 3 none, Cond.methodLink RJ5 104 ⟨"java/lang/AbstractStringBuilder", "newCapacity", "(I)I"⟩, Cond.sameMethod "java/lang/AbstractStringBuilder" "java/lang/AbstractStringBuilder" "newCapacity" "(I)I", Cond.selects RJ4 ⟨"java/lang/AbstractStringBuilder", "newCapacity", "(I)I"⟩ yJ5_newCapacity_0f7a4, Cond.instanceMethod yJ5_newCapacity_0f7a4, Cond.code yJ5_newCapacity_0f7a4 cJ5_newCapacity_0f7a4 6 (some .int), Cond.constant RJ5 39 (2147483647), Cond.methodLink RJ5 114 yJ8_newLength_cabcc, Cond.static yJ8_newLength_cabcc, Cond.initialized RJ8, Cond.code yJ8_newLength_cabcc cJ8_newLength_cabcc 4 (some .int), Cond.methodLink RJ8 194 Lib.Math.max.name, Cond.static Lib.Math.max.name, Cond.code Lib.Math.max.name Lib.Math.max.code 2 (some .int), Cond.constant RJ8 200 (2147483639), Cond.methodLink RJ8 201 yJ8_hugeLength_7cf53]
def wsL_areWell_r9 : List Cond := [Cond.static yJ8_hugeLength_7cf53, Cond.code yJ8_hugeLength_7cf53 cJ8_hugeLength_7cf53 3 (some .int), Cond.methodLink RJ5 108 yJ7_copyOf_9075b, Cond.static yJ7_copyOf_9075b, Cond.initialized RJ7, Cond.code yJ7_copyOf_9075b cJ7_copyOf_9075b 3 (some (.array .byte)), Cond.methodLink RJ7 310 ⟨"[B", "clone", "()Ljava/lang/Object;"⟩, Cond.sameMethod "[B" "java/lang/Object" "clone" "()Ljava/lang/Object;", Cond.native ⟨"java/lang/Object", "clone", "()Ljava/lang/Object;"⟩, Cond.instanceMethod ⟨"java/lang/Object", "clone", "()Ljava/lang/Object;"⟩, Cond.selects "[B" ⟨"[B", "clone", "()Ljava/lang/Object;"⟩ ⟨"java/lang/Object", "clone", "()Ljava/lang/Object;"⟩, Cond.classLink RJ7 311 "[B", Cond.methodLink RJ7 304 Lib.Math.min.name, Cond.methodLink RJ7 150 arraycopyName, Cond.native arraycopyName, Cond.static arraycopyName, Cond.initialized "java/lang/System", Cond.methodLink RJ5 83 ⟨"java/lang/AbstractStringBuilder", "isLatin1", "()Z"⟩, Cond.sameMethod "java/lang/AbstractStringBuilder" "java/lang/AbstractStringBuilder" "isLatin1" "()Z", Cond.selects RJ4 ⟨"java/lang/AbstractStringBuilder", "isLatin1", "()Z"⟩ yJ5_isLatin1_aae02, Cond.instanceMethod yJ5_isLatin1_aae02, Cond.code yJ5_isLatin1_aae02 cJ5_isLatin1_aae02 1 (some .boolean), Cond.methodLink RJ5 191 yJ1_canEncode_fc78d, Cond.static yJ1_canEncode_fc78d]
def wsL_areWell_r10 : List Cond := [Cond.initialized RJ1, Cond.code yJ1_canEncode_fc78d cJ1_canEncode_fc78d 1 (some .boolean), Cond.methodLink RJ5 195 ⟨"java/lang/AbstractStringBuilder", "inflate", "()V"⟩, Cond.sameMethod "java/lang/AbstractStringBuilder" "java/lang/AbstractStringBuilder" "inflate" "()V", Cond.selects RJ4 ⟨"java/lang/AbstractStringBuilder", "inflate", "()V"⟩ yJ5_inflate_da8c8, Cond.instanceMethod yJ5_inflate_da8c8, Cond.code yJ5_inflate_da8c8 cJ5_inflate_da8c8 2 none, Cond.methodLink RJ5 125 yJ1_inflate_0e8fd, Cond.static yJ1_inflate_0e8fd, Cond.code yJ1_inflate_0e8fd cJ1_inflate_0e8fd 5 none, Cond.methodLink RJ1 240 yJ2_inflate_0e8fd, Cond.static yJ2_inflate_0e8fd, Cond.code yJ2_inflate_0e8fd cJ2_inflate_0e8fd 6 none, Cond.methodLink RJ2 173 yJ2_checkBoundsOffCount_d044e, Cond.static yJ2_checkBoundsOffCount_d044e, Cond.code yJ2_checkBoundsOffCount_d044e cJ2_checkBoundsOffCount_d044e 3 none, Cond.methodLink RJ2 48 yJ2_length_9d52b, Cond.static yJ2_length_9d52b, Cond.code yJ2_length_9d52b cJ2_length_9d52b 1 (some .int), Cond.methodLink RJ2 419 yJ0_checkBoundsOffCount_cabcc, Cond.static yJ0_checkBoundsOffCount_cabcc, Cond.initialized RJ0, Cond.code yJ0_checkBoundsOffCount_cabcc cJ0_checkBoundsOffCount_cabcc 3 (some .int), Cond.fieldLink RJ0 1053 "jdk/internal/util/Preconditions" "SIOOBE_FORMATTER" "Ljava/util/function/BiFunction;"]
def wsL_areWell_r11 : List Cond := [Cond.methodLink RJ0 1065 yJ3_checkFromIndexSize_8c36e, Cond.static yJ3_checkFromIndexSize_8c36e, Cond.initialized RJ3, Cond.code yJ3_checkFromIndexSize_8c36e cJ3_checkFromIndexSize_8c36e 4 (some .int), Cond.methodLink RJ2 111 yJ2_putChar_b72d1, Cond.static yJ2_putChar_b72d1, Cond.code yJ2_putChar_b72d1 cJ2_putChar_b72d1 3 none, Cond.fieldLink RJ2 44 "java/lang/StringUTF16" "$assertionsDisabled" "Z", Cond.fieldLink RJ2 59 "java/lang/StringUTF16" "HI_BYTE_SHIFT" "I", Cond.fieldLink RJ2 63 "java/lang/StringUTF16" "LO_BYTE_SHIFT" "I", Cond.methodLink RJ5 197 yJ2_putCharSB_b72d1, Cond.static yJ2_putCharSB_b72d1, Cond.code yJ2_putCharSB_b72d1 cJ2_putCharSB_b72d1 3 none, Cond.methodLink RJ2 67 yJ2_checkIndex_2214a, Cond.static yJ2_checkIndex_2214a, Cond.code yJ2_checkIndex_2214a cJ2_checkIndex_2214a 2 none, Cond.methodLink RJ2 414 yJ0_checkIndex_df160, Cond.static yJ0_checkIndex_df160, Cond.code yJ0_checkIndex_df160 cJ0_checkIndex_df160 2 none, Cond.methodLink RJ0 1059 yJ3_checkIndex_8e157, Cond.static yJ3_checkIndex_8e157, Cond.code yJ3_checkIndex_8e157 cJ3_checkIndex_8e157 3 (some .int), Cond.methodLink RX5 196 yJ4_toString_0e30d, Cond.instanceMethod yJ4_toString_0e30d]
def wsL_areWell_r12 : List Cond := [Cond.selects RJ4 yJ4_toString_0e30d yJ4_toString_0e30d, Cond.code yJ4_toString_0e30d cJ4_toString_0e30d 1 (some (.object "java/lang/String")), Cond.classLink RJ4 18 RJ0, Cond.instantiable RJ0 4, Cond.methodLink RJ4 137 yJ0_init_81219, Cond.instanceMethod yJ0_init_81219, Cond.code yJ0_init_81219 cJ0_init_81219 2 none, Cond.methodLink RJ0 489 yJ0_init_db425, Cond.instanceMethod yJ0_init_db425, Cond.code yJ0_init_db425 cJ0_init_db425 5 none, Cond.methodLink RJ0 1 objectInit, Cond.fieldLink RJ0 15 "java/lang/String" "coder" "B", Cond.fieldLink RJ0 9 "java/lang/String" "value" "[B", Cond.fieldLink RJ0 38 "java/lang/String" "COMPACT_STRINGS" "Z", Cond.fieldLink RJ0 1048 "java/lang/AbstractStringBuilder" "maybeLatin1" "Z", Cond.methodLink RJ0 552 ⟨"java/lang/AbstractStringBuilder", "getValue", "()[B"⟩, Cond.sameMethod "java/lang/AbstractStringBuilder" "java/lang/AbstractStringBuilder" "getValue" "()[B", Cond.selects RJ4 ⟨"java/lang/AbstractStringBuilder", "getValue", "()[B"⟩ yJ5_getValue_6d5f1, Cond.instanceMethod yJ5_getValue_6d5f1, Cond.code yJ5_getValue_6d5f1 cJ5_getValue_6d5f1 1 (some (.array .byte)), Cond.methodLink RJ0 549 ⟨"java/lang/AbstractStringBuilder", "length", "()I"⟩, Cond.sameMethod "java/lang/AbstractStringBuilder" "java/lang/AbstractStringBuilder" "length" "()I", Cond.instanceMethod ⟨"java/lang/AbstractStringBuilder", "length", "()I"⟩, Cond.selects RJ4 ⟨"java/lang/AbstractStringBuilder", "length", "()I"⟩ yJ4_length_8abf5]
def wsL_areWell_r13 : List Cond := [Cond.instanceMethod yJ4_length_8abf5, Cond.code yJ4_length_8abf5 cJ4_length_8abf5 1 (some .int), Cond.methodLink RJ4 343 yJ5_length_8abf5, Cond.instanceMethod yJ5_length_8abf5, Cond.code yJ5_length_8abf5 cJ5_length_8abf5 1 (some .int), Cond.methodLink RJ0 1047 ⟨"java/lang/AbstractStringBuilder", "isLatin1", "()Z"⟩, Cond.methodLink RJ0 54 yJ7_copyOfRange_39247, Cond.static yJ7_copyOfRange_39247, Cond.code yJ7_copyOfRange_39247 cJ7_copyOfRange_39247 3 (some (.array .byte)), Cond.methodLink RJ7 339 yJ7_copyOfRangeByte_39247, Cond.static yJ7_copyOfRangeByte_39247, Cond.code yJ7_copyOfRangeByte_39247 cJ7_copyOfRangeByte_39247 5 (some (.array .byte)), Cond.methodLink RJ7 343 yJ7_checkLength_df160, Cond.static yJ7_checkLength_df160, Cond.code yJ7_checkLength_df160 cJ7_checkLength_df160 2 none, Cond.methodLink RJ0 1051 yJ2_compress_39247, Cond.static yJ2_compress_39247, Cond.code yJ2_compress_39247 cJ2_compress_39247 6 (some (.array .byte)), Cond.methodLink RJ2 123 yJ2_compress_5af95, Cond.static yJ2_compress_5af95, Cond.code yJ2_compress_5af95 cJ2_compress_5af95 7 (some .int), Cond.methodLink RJ2 71 yJ2_getChar_3b067, Cond.static yJ2_getChar_3b067, Cond.code yJ2_getChar_3b067 cJ2_getChar_3b067 2 (some .char)]
def wsL_areWell_r14 : List Cond := [Cond.methodLink RJ2 126 yJ7_copyOfRange_39247, Cond.methodLink RJ0 47 yJ2_coderFromArrayLen_85cad, Cond.static yJ2_coderFromArrayLen_85cad, Cond.code yJ2_coderFromArrayLen_85cad cJ2_coderFromArrayLen_85cad 2 (some .byte), Cond.methodLink RL 141 yJ0_length_8abf5, Cond.instanceMethod yJ0_length_8abf5, Cond.selects RJ0 yJ0_length_8abf5 yJ0_length_8abf5, Cond.code yJ0_length_8abf5 cJ0_length_8abf5 1 (some .int), Cond.methodLink RJ0 335 yJ0_coder_7d493, Cond.instanceMethod yJ0_coder_7d493, Cond.selects RJ0 yJ0_coder_7d493 yJ0_coder_7d493, Cond.code yJ0_coder_7d493 cJ0_coder_7d493 1 (some .byte), Cond.methodLink RL 146 yX5_wear, Cond.instanceMethod yX5_wear, Cond.selects RX5 yX5_wear yX5_wear, Cond.code yX5_wear cX5_wear 4 (some .int), Cond.methodLink RX5 182 yX0_wearOf, Cond.instanceMethod yX0_wearOf, Cond.selects RX0 yX0_wearOf yX0_wearOf, Cond.code yX0_wearOf cX0_wearOf 4 (some .int), Cond.fieldLink RX0 15 "PinBarrel$Barrel" "wears" "[I", Cond.methodLink RX0 25 yX0_pinAt, Cond.static yX0_pinAt, Cond.code yX0_pinAt cX0_pinAt 3 (some .int)]
def wsL_areWell_r15 : List Cond := [Cond.methodLink RL 149 yJ0_charAt_5068e, Cond.instanceMethod yJ0_charAt_5068e, Cond.selects RJ0 yJ0_charAt_5068e yJ0_charAt_5068e, Cond.code yJ0_charAt_5068e cJ0_charAt_5068e 2 (some .char), Cond.methodLink RJ0 492 yJ0_isLatin1_aae02, Cond.instanceMethod yJ0_isLatin1_aae02, Cond.selects RJ0 yJ0_isLatin1_aae02 yJ0_isLatin1_aae02, Cond.code yJ0_isLatin1_aae02 cJ0_isLatin1_aae02 1 (some .boolean), Cond.methodLink RJ0 495 yJ1_charAt_3b067, Cond.static yJ1_charAt_3b067, Cond.code yJ1_charAt_3b067 cJ1_charAt_3b067 2 (some .char), Cond.methodLink RJ1 9 yJ0_checkIndex_df160, Cond.methodLink RJ0 498 yJ2_charAt_3b067, Cond.static yJ2_charAt_3b067, Cond.code yJ2_charAt_3b067 cJ2_charAt_3b067 2 (some .char)]
def wsL_areWell : List Cond := .code yL_areWell cL_areWell 11 (some .boolean) :: ((wsL_areWell_r1 ++ (wsL_areWell_r2 ++ (wsL_areWell_r3 ++ (wsL_areWell_r4 ++ (wsL_areWell_r5 ++ (wsL_areWell_r6 ++ (wsL_areWell_r7 ++ (wsL_areWell_r8 ++ (wsL_areWell_r9 ++ (wsL_areWell_r10 ++ (wsL_areWell_r11 ++ (wsL_areWell_r12 ++ (wsL_areWell_r13 ++ (wsL_areWell_r14 ++ wsL_areWell_r15)))))))))))))) ++ wsX50 ++ wsX10 ++ wsX00 ++ wsX30 ++ wsX40 ++ wsX20 ++ wsJ40 ++ wsJ00 ++ (vx_atS RX5 325 "java/lang/IndexOutOfBoundsException" ["java/lang/RuntimeException", "java/lang/Exception"]).filter goodWord ++ (vx_atS RX5 79 "java/lang/IllegalArgumentException" ["java/lang/RuntimeException", "java/lang/Exception"]).filter goodWord)
def wsL_law0_r1 : List Cond := [Cond.classLink RL 9 RX5, Cond.instantiable RX5 7, Cond.initialized RX5, Cond.methodLink RL 37 Lib.Math.abs.name, Cond.static Lib.Math.abs.name, Cond.initialized "java/lang/Math", Cond.code Lib.Math.abs.name Lib.Math.abs.code 1 (some .int), Cond.methodLink RL 58 Lib.Math.min.name, Cond.static Lib.Math.min.name, Cond.code Lib.Math.min.name Lib.Math.min.code 2 (some .int), Cond.constantDouble RL 69 (4611686018427387904), Cond.constantDouble RL 71 (4593671619917905920), Cond.methodLink RL 11 yX5_init, Cond.instanceMethod yX5_init, Cond.code yX5_init cX5_init 1 none, Cond.methodLink RX5 1 objectInit, Cond.instanceMethod objectInit, Cond.code objectInit ⟨#[0xb1]⟩ 1 none, Cond.classLink RX5 7 RX3, Cond.instantiable RX3 3, Cond.initialized RX3, Cond.fieldLink RX5 10 "PinBarrel" "tunes" "LPinBarrel$Tunes;", Cond.classLink RX5 16 RX4, Cond.instantiable RX4 11]
def wsL_law0_r2 : List Cond := [Cond.initialized RX4, Cond.fieldLink RX5 19 "PinBarrel" "works" "LPinBarrel$Works;", Cond.fieldLink RX5 23 "PinBarrel$Works" "comb" "LPinBarrel$Comb;", Cond.fieldLink RX5 27 "PinBarrel" "comb" "LPinBarrel$Comb;", Cond.fieldLink RX5 28 "PinBarrel$Works" "barrel" "LPinBarrel$Barrel;", Cond.fieldLink RX5 32 "PinBarrel" "barrel" "LPinBarrel$Barrel;", Cond.fieldLink RX5 33 "PinBarrel$Works" "sounds" "LPinBarrel$Sounds;", Cond.fieldLink RX5 37 "PinBarrel" "sounds" "LPinBarrel$Sounds;", Cond.fieldLink RX5 38 "PinBarrel" "trial" "LPinBarrel$Works;", Cond.methodLink RX5 9 yX3_init, Cond.instanceMethod yX3_init, Cond.code yX3_init cX3_init 1 none, Cond.methodLink RX3 3 objectInit, Cond.arrayClass .int, Cond.fieldLink RX3 9 "PinBarrel$Tunes" "size" "[I", Cond.fieldLink RX3 15 "PinBarrel$Tunes" "notes" "[I", Cond.methodLink RX5 18 yX4_init, Cond.instanceMethod yX4_init, Cond.code yX4_init cX4_init 1 none, Cond.methodLink RX4 3 objectInit, Cond.classLink RX4 9 RX1, Cond.instantiable RX1 6, Cond.initialized RX1, Cond.fieldLink RX4 12 "PinBarrel$Works" "comb" "LPinBarrel$Comb;"]
def wsL_law0_r3 : List Cond := [Cond.classLink RX4 18 RX0, Cond.instantiable RX0 2, Cond.initialized RX0, Cond.fieldLink RX4 21 "PinBarrel$Works" "barrel" "LPinBarrel$Barrel;", Cond.classLink RX4 25 RX2, Cond.instantiable RX2 5, Cond.initialized RX2, Cond.fieldLink RX4 28 "PinBarrel$Works" "sounds" "LPinBarrel$Sounds;", Cond.fieldLink RX4 32 "PinBarrel$Works" "governor" "I", Cond.methodLink RX4 11 yX1_init, Cond.instanceMethod yX1_init, Cond.code yX1_init cX1_init 1 none, Cond.methodLink RX1 3 objectInit, Cond.fieldLink RX1 9 "PinBarrel$Comb" "pitch" "[I", Cond.arrayClass .boolean, Cond.fieldLink RX1 15 "PinBarrel$Comb" "broken" "[Z", Cond.fieldLink RX1 19 "PinBarrel$Comb" "scratches" "[I", Cond.fieldLink RX1 22 "PinBarrel$Comb" "plucks" "[I", Cond.fieldLink RX1 25 "PinBarrel$Comb" "lastPluck" "[I", Cond.methodLink RX4 20 yX0_init, Cond.instanceMethod yX0_init, Cond.code yX0_init cX0_init 1 none, Cond.methodLink RX0 3 objectInit, Cond.arrayClass .long]
def wsL_law0_r4 : List Cond := [Cond.fieldLink RX0 9 "PinBarrel$Barrel" "places" "[J", Cond.fieldLink RX0 15 "PinBarrel$Barrel" "wears" "[I", Cond.methodLink RX4 27 yX2_init, Cond.instanceMethod yX2_init, Cond.code yX2_init cX2_init 1 none, Cond.methodLink RX2 3 objectInit, Cond.fieldLink RX2 9 "PinBarrel$Sounds" "pitches" "[I", Cond.arrayClass .double, Cond.fieldLink RX2 15 "PinBarrel$Sounds" "clocks" "[D", Cond.methodLink RL 12 yL_cell, Cond.static yL_cell, Cond.initialized RL, Cond.code yL_cell cL_cell 2 (some .int), Cond.constant RL 8 (790386105), Cond.methodLink RL 18 yL_below, Cond.static yL_below, Cond.code yL_below cL_below 2 (some .int), Cond.constant RL 7 (2147483647), Cond.methodLink RL 22 yX5_tooth, Cond.instanceMethod yX5_tooth, Cond.selects RX5 yX5_tooth yX5_tooth, Cond.code yX5_tooth cX5_tooth 2 (some .int), Cond.classLink RX5 51 "java/lang/IllegalStateException", Cond.initialized "java/lang/IllegalStateException"]
def wsL_law0_r5 : List Cond := [Cond.fieldLink RX5 45 "PinBarrel$Comb" "count" "I", Cond.methodLink RX5 41 yX5_needPitch, Cond.static yX5_needPitch, Cond.code yX5_needPitch cX5_needPitch 1 none, Cond.classLink RX5 75 "java/lang/IllegalArgumentException", Cond.initialized "java/lang/IllegalArgumentException", Cond.methodLink RX5 58 yX1_addTooth, Cond.instanceMethod yX1_addTooth, Cond.selects RX1 yX1_addTooth yX1_addTooth, Cond.code yX1_addTooth cX1_addTooth 2 (some .int), Cond.fieldLink RX1 28 "PinBarrel$Comb" "count" "I", Cond.methodLink RL 26 yX5_tune, Cond.instanceMethod yX5_tune, Cond.selects RX5 yX5_tune yX5_tune, Cond.code yX5_tune cX5_tune 1 (some .int), Cond.fieldLink RX5 69 "PinBarrel$Tunes" "count" "I", Cond.methodLink RL 30 yX5_ofTune, Cond.instanceMethod yX5_ofTune, Cond.selects RX5 yX5_ofTune yX5_ofTune, Cond.code yX5_ofTune cX5_ofTune 3 (some .int), Cond.fieldLink RX5 84 "PinBarrel$Tunes" "size" "[I", Cond.methodLink RX5 72 yX5_needTune, Cond.instanceMethod yX5_needTune, Cond.selects RX5 yX5_needTune yX5_needTune]
def wsL_law0_r6 : List Cond := [Cond.code yX5_needTune cX5_needTune 2 none, Cond.classLink RX5 321 "java/lang/IndexOutOfBoundsException", Cond.initialized "java/lang/IndexOutOfBoundsException", Cond.methodLink RX5 155 yX5_needQuestion, Cond.static yX5_needQuestion, Cond.code yX5_needQuestion cX5_needQuestion 2 none, Cond.methodLink RX5 200 yX3_lowest, Cond.instanceMethod yX3_lowest, Cond.selects RX3 yX3_lowest yX3_lowest, Cond.code yX3_lowest cX3_lowest 5 (some .int), Cond.methodLink RX3 22 yX3_pitchOf, Cond.instanceMethod yX3_pitchOf, Cond.selects RX3 yX3_pitchOf yX3_pitchOf, Cond.code yX3_pitchOf cX3_pitchOf 3 (some .int), Cond.methodLink RX5 203 yX3_highest, Cond.instanceMethod yX3_highest, Cond.selects RX3 yX3_highest yX3_highest, Cond.code yX3_highest cX3_highest 4 (some .int), Cond.methodLink RX3 25 Lib.Math.max.name, Cond.static Lib.Math.max.name, Cond.code Lib.Math.max.name Lib.Math.max.code 2 (some .int), Cond.methodLink RX5 206 yX3_times, Cond.instanceMethod yX3_times, Cond.selects RX3 yX3_times yX3_times]
def wsL_law0_r7 : List Cond := [Cond.code yX3_times cX3_times 4 (some .int), Cond.methodLink RX3 30 yX3_timeOf, Cond.instanceMethod yX3_timeOf, Cond.selects RX3 yX3_timeOf yX3_timeOf, Cond.code yX3_timeOf cX3_timeOf 3 (some .int), Cond.methodLink RX5 209 yX3_mostAtOnce, Cond.instanceMethod yX3_mostAtOnce, Cond.selects RX3 yX3_mostAtOnce yX3_mostAtOnce, Cond.code yX3_mostAtOnce cX3_mostAtOnce 6 (some .int), Cond.methodLink RL 33 yX5_note, Cond.instanceMethod yX5_note, Cond.selects RX5 yX5_note yX5_note, Cond.code yX5_note cX5_note 5 (some .int), Cond.methodLink RX5 80 yX3_holds, Cond.instanceMethod yX3_holds, Cond.selects RX3 yX3_holds yX3_holds, Cond.code yX3_holds cX3_holds 6 (some .boolean), Cond.methodLink RX3 18 yX3_rankOf, Cond.instanceMethod yX3_rankOf, Cond.selects RX3 yX3_rankOf yX3_rankOf, Cond.code yX3_rankOf cX3_rankOf 4 (some .int), Cond.methodLink RX5 89 yX3_strike, Cond.instanceMethod yX3_strike, Cond.selects RX3 yX3_strike yX3_strike]
def wsL_law0_r8 : List Cond := [Cond.code yX3_strike cX3_strike 6 none, Cond.methodLink RX5 93 yX3_write, Cond.instanceMethod yX3_write, Cond.selects RX3 yX3_write yX3_write, Cond.code yX3_write cX3_write 8 none, Cond.methodLink RL 42 yX5_many, Cond.instanceMethod yX5_many, Cond.selects RX5 yX5_many yX5_many, Cond.code yX5_many cX5_many 2 (some .int), Cond.fieldLink RX5 245 "PinBarrel$Works" "place" "I", Cond.fieldLink RX5 112 "PinBarrel$Works" "shift" "I", Cond.fieldLink RX5 117 "PinBarrel$Works" "wound" "I", Cond.fieldLink RX5 131 "PinBarrel$Works" "governor" "I", Cond.fieldLink RX5 248 "PinBarrel$Works" "steps" "I", Cond.fieldLink RX5 141 "PinBarrel$Sounds" "ever" "I", Cond.fieldLink RX5 251 "PinBarrel$Sounds" "kept" "I", Cond.fieldLink RX5 254 "PinBarrel$Works" "buzzes" "I", Cond.fieldLink RX5 257 "PinBarrel$Works" "wornOut" "I", Cond.fieldLink RX5 120 "PinBarrel" "knocks" "I", Cond.fieldLink RX5 260 "PinBarrel$Works" "clock" "D", Cond.methodLink RX5 238 yX1_brokenTeeth, Cond.instanceMethod yX1_brokenTeeth, Cond.selects RX1 yX1_brokenTeeth yX1_brokenTeeth, Cond.code yX1_brokenTeeth cX1_brokenTeeth 3 (some .int)]
def wsL_law0_r9 : List Cond := [Cond.methodLink RX5 242 yX5_allPins, Cond.instanceMethod yX5_allPins, Cond.selects RX5 yX5_allPins yX5_allPins, Cond.code yX5_allPins cX5_allPins 3 (some .int), Cond.methodLink RX5 169 yX0_pinsOfTooth, Cond.instanceMethod yX0_pinsOfTooth, Cond.selects RX0 yX0_pinsOfTooth yX0_pinsOfTooth, Cond.code yX0_pinsOfTooth cX0_pinsOfTooth 4 (some .int), Cond.methodLink RX0 29 yX0_placesOf, Cond.instanceMethod yX0_placesOf, Cond.selects RX0 yX0_placesOf yX0_placesOf, Cond.code yX0_placesOf cX0_placesOf 3 (some .long), Cond.methodLink RX0 21 yX0_lineAt, Cond.static yX0_lineAt, Cond.code yX0_lineAt cX0_lineAt 2 (some .int), Cond.methodLink RX0 33 yJ13_bitCount_95d88, Cond.static yJ13_bitCount_95d88, Cond.initialized RJ13, Cond.code yJ13_bitCount_95d88 cJ13_bitCount_95d88 2 (some .int), Cond.constantLong RJ13 314 (6148914691236517205), Cond.constantLong RJ13 316 (3689348814741910323), Cond.constantLong RJ13 318 (1085102592571150095), Cond.methodLink RL 45 yX5_pin, Cond.instanceMethod yX5_pin]
def wsL_law0_r10 : List Cond := [Cond.selects RX5 yX5_pin yX5_pin, Cond.code yX5_pin cX5_pin 4 (some .int), Cond.methodLink RX5 96 yX5_needLine, Cond.static yX5_needLine, Cond.code yX5_needLine cX5_needLine 1 none, Cond.methodLink RX5 99 yX5_needKey, Cond.static yX5_needKey, Cond.code yX5_needKey cX5_needKey 1 none, Cond.methodLink RX5 102 yX5_pinTune, Cond.instanceMethod yX5_pinTune, Cond.selects RX5 yX5_pinTune yX5_pinTune, Cond.code yX5_pinTune cX5_pinTune 10 (some .int), Cond.methodLink RX5 303 yX3_timeOf, Cond.methodLink RX5 306 yX3_pitchOf, Cond.methodLink RX5 308 yX0_freeTooth, Cond.instanceMethod yX0_freeTooth, Cond.selects RX0 yX0_freeTooth yX0_freeTooth, Cond.code yX0_freeTooth cX0_freeTooth 13 (some .int), Cond.fieldLink RX0 43 "PinBarrel$Comb" "count" "I", Cond.fieldLink RX0 49 "PinBarrel$Comb" "pitch" "[I", Cond.fieldLink RX0 52 "PinBarrel$Comb" "broken" "[Z", Cond.methodLink RX0 39 yX0_placesNear, Cond.static yX0_placesNear, Cond.code yX0_placesNear cX0_placesNear 2 (some .long)]
def wsL_law0_r11 : List Cond := [Cond.constantLong RX0 19 (127), Cond.methodLink RX5 312 yX0_setPin, Cond.instanceMethod yX0_setPin, Cond.selects RX0 yX0_setPin yX0_setPin, Cond.code yX0_setPin cX0_setPin 4 none, Cond.methodLink RX0 25 yX0_pinAt, Cond.static yX0_pinAt, Cond.code yX0_pinAt cX0_pinAt 3 (some .int), Cond.methodLink RL 48 yX5_pull, Cond.instanceMethod yX5_pull, Cond.selects RX5 yX5_pull yX5_pull, Cond.code yX5_pull cX5_pull 5 (some .int), Cond.methodLink RX5 106 yX0_pullFrom, Cond.instanceMethod yX0_pullFrom, Cond.selects RX0 yX0_pullFrom yX0_pullFrom, Cond.code yX0_pullFrom cX0_pullFrom 6 (some .int), Cond.constantLong RX0 63 (-1), Cond.methodLink RX0 56 yX0_hasPin, Cond.instanceMethod yX0_hasPin, Cond.selects RX0 yX0_hasPin yX0_hasPin, Cond.code yX0_hasPin cX0_hasPin 4 (some .boolean), Cond.methodLink RX0 60 yX0_wearOf, Cond.instanceMethod yX0_wearOf, Cond.selects RX0 yX0_wearOf yX0_wearOf]
def wsL_law0_r12 : List Cond := [Cond.code yX0_wearOf cX0_wearOf 4 (some .int), Cond.methodLink RL 52 yX5_shift, Cond.instanceMethod yX5_shift, Cond.selects RX5 yX5_shift yX5_shift, Cond.code yX5_shift cX5_shift 3 (some .int), Cond.methodLink RL 55 yX5_wind, Cond.instanceMethod yX5_wind, Cond.selects RX5 yX5_wind yX5_wind, Cond.code yX5_wind cX5_wind 2 (some .int), Cond.methodLink RX5 123 Lib.Math.min.name, Cond.methodLink RL 61 yX5_govern, Cond.instanceMethod yX5_govern, Cond.selects RX5 yX5_govern yX5_govern, Cond.code yX5_govern cX5_govern 2 (some .double), Cond.methodLink RX5 134 yX5_speed, Cond.instanceMethod yX5_speed, Cond.selects RX5 yX5_speed yX5_speed, Cond.code yX5_speed cX5_speed 1 (some .double), Cond.methodLink RX5 234 yX4_speedNow, Cond.instanceMethod yX4_speedNow, Cond.selects RX4 yX4_speedNow yX4_speedNow, Cond.code yX4_speedNow cX4_speedNow 2 (some .float), Cond.constantFloat RX4 36 (1040187392), Cond.fieldLink RX4 37 "PinBarrel$Works" "wound" "I"]
def wsL_law0_r13 : List Cond := [Cond.constantFloat RX4 40 (981467136), Cond.methodLink RL 65 yX5_speed, Cond.methodLink RL 73 yX5_mend, Cond.instanceMethod yX5_mend, Cond.selects RX5 yX5_mend yX5_mend, Cond.code yX5_mend cX5_mend 4 (some .int), Cond.methodLink RX5 149 yX1_mendTooth, Cond.instanceMethod yX1_mendTooth, Cond.selects RX1 yX1_mendTooth yX1_mendTooth, Cond.code yX1_mendTooth cX1_mendTooth 3 (some .int), Cond.methodLink RX5 152 yX0_renewPins, Cond.instanceMethod yX0_renewPins, Cond.selects RX0 yX0_renewPins yX0_renewPins, Cond.code yX0_renewPins cX0_renewPins 5 (some .int), Cond.methodLink RL 76 yX5_ofTooth, Cond.instanceMethod yX5_ofTooth, Cond.selects RX5 yX5_ofTooth yX5_ofTooth, Cond.code yX5_ofTooth cX5_ofTooth 3 (some .int), Cond.fieldLink RX5 65 "PinBarrel$Comb" "pitch" "[I", Cond.fieldLink RX5 159 "PinBarrel$Comb" "broken" "[Z", Cond.fieldLink RX5 163 "PinBarrel$Comb" "scratches" "[I", Cond.fieldLink RX5 166 "PinBarrel$Comb" "plucks" "[I", Cond.methodLink RX5 62 yX5_needTooth, Cond.instanceMethod yX5_needTooth]
def wsL_law0_r14 : List Cond := [Cond.selects RX5 yX5_needTooth yX5_needTooth, Cond.code yX5_needTooth cX5_needTooth 2 none, Cond.methodLink RL 79 yX5_file, Cond.instanceMethod yX5_file, Cond.selects RX5 yX5_file yX5_file, Cond.code yX5_file cX5_file 4 (some .int), Cond.methodLink RL 82 yL_isPlayed, Cond.static yL_isPlayed, Cond.code yL_isPlayed cL_isPlayed 15 (some .boolean), Cond.methodLink RL 114 Lib.Math.max.name, Cond.methodLink RL 101 yL_plucks, Cond.static yL_plucks, Cond.code yL_plucks cL_plucks 4 (some .int), Cond.methodLink RL 105 yX5_wouldBuzz, Cond.instanceMethod yX5_wouldBuzz, Cond.selects RX5 yX5_wouldBuzz yX5_wouldBuzz, Cond.code yX5_wouldBuzz cX5_wouldBuzz 2 (some .int), Cond.methodLink RX5 138 yX5_needSteps, Cond.static yX5_needSteps, Cond.code yX5_needSteps cX5_needSteps 1 none, Cond.methodLink RX5 267 yX4_takeOver, Cond.instanceMethod yX4_takeOver, Cond.selects RX4 yX4_takeOver yX4_takeOver, Cond.code yX4_takeOver cX4_takeOver 2 none]
def wsL_law0_r15 : List Cond := [Cond.fieldLink RX4 67 "PinBarrel$Works" "shift" "I", Cond.fieldLink RX4 54 "PinBarrel$Works" "place" "I", Cond.fieldLink RX4 57 "PinBarrel$Works" "steps" "I", Cond.fieldLink RX4 88 "PinBarrel$Works" "buzzes" "I", Cond.fieldLink RX4 102 "PinBarrel$Works" "wornOut" "I", Cond.fieldLink RX4 44 "PinBarrel$Works" "clock" "D", Cond.methodLink RX4 105 yX1_takeTeeth, Cond.instanceMethod yX1_takeTeeth, Cond.selects RX1 yX1_takeTeeth yX1_takeTeeth, Cond.code yX1_takeTeeth cX1_takeTeeth 3 none, Cond.methodLink RX4 109 yX0_takePins, Cond.instanceMethod yX0_takePins, Cond.selects RX0 yX0_takePins yX0_takePins, Cond.code yX0_takePins cX0_takePins 4 none, Cond.methodLink RX0 65 arraycopyName, Cond.native arraycopyName, Cond.static arraycopyName, Cond.initialized "java/lang/System", Cond.methodLink RX4 113 yX0_takeWears, Cond.instanceMethod yX0_takeWears, Cond.selects RX0 yX0_takeWears yX0_takeWears, Cond.code yX0_takeWears cX0_takeWears 4 none, Cond.methodLink RX5 146 yX4_run, Cond.instanceMethod yX4_run]
def wsL_law0_r16 : List Cond := [Cond.selects RX4 yX4_run yX4_run, Cond.code yX4_run cX4_run 3 none, Cond.methodLink RX4 41 yX4_step, Cond.instanceMethod yX4_step, Cond.selects RX4 yX4_step yX4_step, Cond.code yX4_step cX4_step 3 none, Cond.constantDouble RX4 48 (4593671619917905920), Cond.fieldLink RX4 60 "PinBarrel$Comb" "count" "I", Cond.fieldLink RX4 63 "PinBarrel$Comb" "broken" "[Z", Cond.methodLink RX4 78 Lib.Math.max.name, Cond.methodLink RX4 50 yX4_speedNow, Cond.methodLink RX4 70 yX0_hasPin, Cond.methodLink RX4 74 yX4_pluck, Cond.instanceMethod yX4_pluck, Cond.selects RX4 yX4_pluck yX4_pluck, Cond.code yX4_pluck cX4_pluck 2 none, Cond.fieldLink RX4 91 "PinBarrel$Comb" "pitch" "[I", Cond.methodLink RX4 84 yX1_pluckTooth, Cond.instanceMethod yX1_pluckTooth, Cond.selects RX1 yX1_pluckTooth yX1_pluckTooth, Cond.code yX1_pluckTooth cX1_pluckTooth 4 (some .boolean), Cond.methodLink RX4 95 yX2_addSound, Cond.instanceMethod yX2_addSound, Cond.selects RX2 yX2_addSound yX2_addSound]
def wsL_law0_r17 : List Cond := [Cond.code yX2_addSound cX2_addSound 5 none, Cond.fieldLink RX2 27 "PinBarrel$Sounds" "kept" "I", Cond.fieldLink RX2 30 "PinBarrel$Sounds" "ever" "I", Cond.fieldLink RX2 19 "PinBarrel$Sounds" "oldest" "I", Cond.methodLink RX2 23 yX2_roomOf, Cond.instanceMethod yX2_roomOf, Cond.selects RX2 yX2_roomOf yX2_roomOf, Cond.code yX2_roomOf cX2_roomOf 2 (some .int), Cond.methodLink RX4 99 yX0_wearDown, Cond.instanceMethod yX0_wearDown, Cond.selects RX0 yX0_wearDown yX0_wearDown, Cond.code yX0_wearDown cX0_wearDown 5 (some .boolean), Cond.methodLink RL 108 yX5_lasts, Cond.instanceMethod yX5_lasts, Cond.selects RX5 yX5_lasts yX5_lasts, Cond.code yX5_lasts cX5_lasts 2 (some .int), Cond.methodLink RX5 271 yX4_step, Cond.methodLink RL 111 yX5_play, Cond.instanceMethod yX5_play, Cond.selects RX5 yX5_play yX5_play, Cond.code yX5_play cX5_play 3 (some .int), Cond.methodLink RL 86 yL_areWell, Cond.static yL_areWell, Cond.code yL_areWell cL_areWell 11 (some .boolean)]
def wsL_law0_r18 : List Cond := [Cond.methodLink RL 117 yX5_pins, Cond.instanceMethod yX5_pins, Cond.selects RX5 yX5_pins yX5_pins, Cond.code yX5_pins cX5_pins 3 (some .long), Cond.methodLink RX5 172 yX0_placesOf, Cond.methodLink RL 121 yJ13_bitCount_95d88, Cond.methodLink RL 127 yJ13_rotateLeft_b2ac5, Cond.static yJ13_rotateLeft_b2ac5, Cond.code yJ13_rotateLeft_b2ac5 cJ13_rotateLeft_b2ac5 3 (some .long), Cond.methodLink RL 131 yX5_when, Cond.instanceMethod yX5_when, Cond.selects RX5 yX5_when yX5_when, Cond.code yX5_when cX5_when 2 (some .double), Cond.constantDouble RX5 224 (4620693217682128896), Cond.methodLink RX5 218 yX5_needSound, Cond.instanceMethod yX5_needSound, Cond.selects RX5 yX5_needSound yX5_needSound, Cond.code yX5_needSound cX5_needSound 2 none, Cond.methodLink RX5 226 yX2_clockOf, Cond.instanceMethod yX2_clockOf, Cond.selects RX2 yX2_clockOf yX2_clockOf, Cond.code yX2_clockOf cX2_clockOf 2 (some .double), Cond.methodLink RX5 230 yX5_nearestWhole, Cond.static yX5_nearestWhole]
def wsL_law0_r19 : List Cond := [Cond.code yX5_nearestWhole cX5_nearestWhole 6 (some .long), Cond.constantDouble RX5 319 (4602678819172646912), Cond.methodLink RL 134 yX5_heard, Cond.instanceMethod yX5_heard, Cond.selects RX5 yX5_heard yX5_heard, Cond.code yX5_heard cX5_heard 2 (some .int), Cond.methodLink RX5 221 yX2_pitchOf, Cond.instanceMethod yX2_pitchOf, Cond.selects RX2 yX2_pitchOf yX2_pitchOf, Cond.code yX2_pitchOf cX2_pitchOf 2 (some .int), Cond.methodLink RL 137 yX5_row, Cond.instanceMethod yX5_row, Cond.selects RX5 yX5_row yX5_row, Cond.code yX5_row cX5_row 4 (some (.object "java/lang/String")), Cond.classLink RX5 185 RJ4, Cond.instantiable RJ4 4, Cond.initialized RJ4, Cond.methodLink RX5 176 yX5_needPlace, Cond.static yX5_needPlace, Cond.code yX5_needPlace cX5_needPlace 1 none, Cond.methodLink RX5 187 yJ4_init_da8c8, Cond.instanceMethod yJ4_init_da8c8, Cond.code yJ4_init_da8c8 cJ4_init_da8c8 1 none, Cond.methodLink RJ4 1 yJ5_init_d00df]
def wsL_law0_r20 : List Cond := [Cond.instanceMethod yJ5_init_d00df, Cond.initialized RJ5, Cond.code yJ5_init_d00df cJ5_init_d00df 2 none, Cond.methodLink RJ5 3 objectInit, Cond.fieldLink RJ5 18 "java/lang/String" "COMPACT_STRINGS" "Z", Cond.arrayClass .byte, Cond.fieldLink RJ5 15 "java/lang/AbstractStringBuilder" "value" "[B", Cond.fieldLink RJ5 22 "java/lang/AbstractStringBuilder" "coder" "B", Cond.methodLink RJ5 26 yJ2_newBytesFor_77867, Cond.static yJ2_newBytesFor_77867, Cond.initialized RJ2, Cond.code yJ2_newBytesFor_77867 cJ2_newBytesFor_77867 1 (some (.array .byte)), Cond.methodLink RJ2 11 yJ2_newBytesLength_0f7a4, Cond.static yJ2_newBytesLength_0f7a4, Cond.code yJ2_newBytesLength_0f7a4 cJ2_newBytesLength_0f7a4 1 (some .int), Cond.constant RJ2 20 (1073741823), Cond.methodLink RX5 188 yX5_signOf, Cond.instanceMethod yX5_signOf, Cond.selects RX5 yX5_signOf yX5_signOf, Cond.code yX5_signOf cX5_signOf 3 (some .char), Cond.methodLink RX5 179 yX0_hasPin, Cond.methodLink RX5 192 yJ4_append_cf468, Cond.instanceMethod yJ4_append_cf468, Cond.selects RJ4 yJ4_append_cf468 yJ4_append_cf468]
def wsL_law0_r21 : List Cond := [Cond.code yJ4_append_cf468 cJ4_append_cf468 2 (some (.object "java/lang/StringBuilder")), Cond.methodLink RJ4 50 yJ5_append_3fe6f, Cond.sameMethod "java/lang/AbstractStringBuilder" "java/lang/AbstractStringBuilder" "append" "(C)Ljava/lang/AbstractStringBuilder;", Cond.superclass RJ4 RJ5, Cond.instanceMethod yJ5_append_3fe6f, Cond.code yJ5_append_3fe6f cJ5_append_3fe6f 2 (some (.object "java/lang/AbstractStringBuilder")), Cond.fieldLink RJ5 79 "java/lang/AbstractStringBuilder" "count" "I", Cond.methodLink RJ5 100 ⟨"java/lang/AbstractStringBuilder", "ensureCapacityInternal", "(I)V"⟩, Cond.sameMethod "java/lang/AbstractStringBuilder" "java/lang/AbstractStringBuilder" "ensureCapacityInternal" "(I)V", Cond.selects RJ4 ⟨"java/lang/AbstractStringBuilder", "ensureCapacityInternal", "(I)V"⟩ yJ5_ensureCapacityInternal_d00df, Cond.instanceMethod yJ5_ensureCapacityInternal_d00df, Cond.code yJ5_ensureCapacityInternal_d00df cJ5_ensureCapacityInternal_d00df 3 none, Cond.methodLink RJ5 104 ⟨"java/lang/AbstractStringBuilder", "newCapacity", "(I)I"⟩, Cond.sameMethod "java/lang/AbstractStringBuilder" "java/lang/AbstractStringBuilder" "newCapacity" "(I)I", Cond.selects RJ4 ⟨"java/lang/AbstractStringBuilder", "newCapacity", "(I)I"⟩ yJ5_newCapacity_0f7a4, Cond.instanceMethod yJ5_newCapacity_0f7a4, Cond.code yJ5_newCapacity_0f7a4 cJ5_newCapacity_0f7a4 6 (some .int), Cond.constant RJ5 39 (2147483647), Cond.methodLink RJ5 114 yJ8_newLength_cabcc, Cond.static yJ8_newLength_cabcc, Cond.initialized RJ8, Cond.code yJ8_newLength_cabcc cJ8_newLength_cabcc 4 (some .int), Cond.methodLink RJ8 194 Lib.Math.max.name, Cond.constant RJ8 200 (2147483639)]
def wsL_law0_r22 : List Cond := [Cond.methodLink RJ8 201 yJ8_hugeLength_7cf53, Cond.static yJ8_hugeLength_7cf53, Cond.code yJ8_hugeLength_7cf53 cJ8_hugeLength_7cf53 3 (some .int), Cond.methodLink RJ5 108 yJ7_copyOf_9075b, Cond.static yJ7_copyOf_9075b, Cond.initialized RJ7, Cond.code yJ7_copyOf_9075b cJ7_copyOf_9075b 3 (some (.array .byte)), Cond.methodLink RJ7 310 ⟨"[B", "clone", "()Ljava/lang/Object;"⟩, Cond.sameMethod "[B" "java/lang/Object" "clone" "()Ljava/lang/Object;", Cond.native ⟨"java/lang/Object", "clone", "()Ljava/lang/Object;"⟩, Cond.instanceMethod ⟨"java/lang/Object", "clone", "()Ljava/lang/Object;"⟩, Cond.selects "[B" ⟨"[B", "clone", "()Ljava/lang/Object;"⟩ ⟨"java/lang/Object", "clone", "()Ljava/lang/Object;"⟩, Cond.classLink RJ7 311 "[B", Cond.methodLink RJ7 304 Lib.Math.min.name, Cond.methodLink RJ7 150 arraycopyName, Cond.methodLink RJ5 83 ⟨"java/lang/AbstractStringBuilder", "isLatin1", "()Z"⟩, Cond.sameMethod "java/lang/AbstractStringBuilder" "java/lang/AbstractStringBuilder" "isLatin1" "()Z", Cond.selects RJ4 ⟨"java/lang/AbstractStringBuilder", "isLatin1", "()Z"⟩ yJ5_isLatin1_aae02, Cond.instanceMethod yJ5_isLatin1_aae02, Cond.code yJ5_isLatin1_aae02 cJ5_isLatin1_aae02 1 (some .boolean), Cond.methodLink RJ5 191 yJ1_canEncode_fc78d, Cond.static yJ1_canEncode_fc78d, Cond.initialized RJ1, Cond.code yJ1_canEncode_fc78d cJ1_canEncode_fc78d 1 (some .boolean)]
def wsL_law0_r23 : List Cond := [Cond.methodLink RJ5 195 ⟨"java/lang/AbstractStringBuilder", "inflate", "()V"⟩, Cond.sameMethod "java/lang/AbstractStringBuilder" "java/lang/AbstractStringBuilder" "inflate" "()V", Cond.selects RJ4 ⟨"java/lang/AbstractStringBuilder", "inflate", "()V"⟩ yJ5_inflate_da8c8, Cond.instanceMethod yJ5_inflate_da8c8, Cond.code yJ5_inflate_da8c8 cJ5_inflate_da8c8 2 none, Cond.methodLink RJ5 125 yJ1_inflate_0e8fd, Cond.static yJ1_inflate_0e8fd, Cond.code yJ1_inflate_0e8fd cJ1_inflate_0e8fd 5 none, Cond.methodLink RJ1 240 yJ2_inflate_0e8fd, Cond.static yJ2_inflate_0e8fd, Cond.code yJ2_inflate_0e8fd cJ2_inflate_0e8fd 6 none, Cond.methodLink RJ2 173 yJ2_checkBoundsOffCount_d044e, Cond.static yJ2_checkBoundsOffCount_d044e, Cond.code yJ2_checkBoundsOffCount_d044e cJ2_checkBoundsOffCount_d044e 3 none, Cond.methodLink RJ2 48 yJ2_length_9d52b, Cond.static yJ2_length_9d52b, Cond.code yJ2_length_9d52b cJ2_length_9d52b 1 (some .int), Cond.methodLink RJ2 419 yJ0_checkBoundsOffCount_cabcc, Cond.static yJ0_checkBoundsOffCount_cabcc, Cond.initialized RJ0, Cond.code yJ0_checkBoundsOffCount_cabcc cJ0_checkBoundsOffCount_cabcc 3 (some .int), Cond.fieldLink RJ0 1053 "jdk/internal/util/Preconditions" "SIOOBE_FORMATTER" "Ljava/util/function/BiFunction;", Cond.methodLink RJ0 1065 yJ3_checkFromIndexSize_8c36e, Cond.static yJ3_checkFromIndexSize_8c36e]
def wsL_law0_r24 : List Cond := [Cond.initialized RJ3, Cond.code yJ3_checkFromIndexSize_8c36e cJ3_checkFromIndexSize_8c36e 4 (some .int), Cond.methodLink RJ2 111 yJ2_putChar_b72d1, Cond.static yJ2_putChar_b72d1, Cond.code yJ2_putChar_b72d1 cJ2_putChar_b72d1 3 none, Cond.fieldLink RJ2 44 "java/lang/StringUTF16" "$assertionsDisabled" "Z", Cond.fieldLink RJ2 59 "java/lang/StringUTF16" "HI_BYTE_SHIFT" "I", Cond.fieldLink RJ2 63 "java/lang/StringUTF16" "LO_BYTE_SHIFT" "I", Cond.methodLink RJ5 197 yJ2_putCharSB_b72d1, Cond.static yJ2_putCharSB_b72d1, Cond.code yJ2_putCharSB_b72d1 cJ2_putCharSB_b72d1 3 none, Cond.methodLink RJ2 67 yJ2_checkIndex_2214a, Cond.static yJ2_checkIndex_2214a, Cond.code yJ2_checkIndex_2214a cJ2_checkIndex_2214a 2 none, Cond.methodLink RJ2 414 yJ0_checkIndex_df160, Cond.static yJ0_checkIndex_df160, Cond.code yJ0_checkIndex_df160 cJ0_checkIndex_df160 2 none, Cond.methodLink RJ0 1059 yJ3_checkIndex_8e157, Cond.static yJ3_checkIndex_8e157, Cond.code yJ3_checkIndex_8e157 cJ3_checkIndex_8e157 3 (some .int), Cond.methodLink RX5 196 yJ4_toString_0e30d, Cond.instanceMethod yJ4_toString_0e30d, Cond.selects RJ4 yJ4_toString_0e30d yJ4_toString_0e30d, Cond.code yJ4_toString_0e30d cJ4_toString_0e30d 1 (some (.object "java/lang/String"))]
def wsL_law0_r25 : List Cond := [Cond.classLink RJ4 18 RJ0, Cond.instantiable RJ0 4, Cond.methodLink RJ4 137 yJ0_init_81219, Cond.instanceMethod yJ0_init_81219, Cond.code yJ0_init_81219 cJ0_init_81219 2 none, Cond.methodLink RJ0 489 yJ0_init_db425, Cond.instanceMethod yJ0_init_db425, Cond.code yJ0_init_db425 cJ0_init_db425 5 none, Cond.methodLink RJ0 1 objectInit, Cond.fieldLink RJ0 15 "java/lang/String" "coder" "B", Cond.fieldLink RJ0 9 "java/lang/String" "value" "[B", Cond.fieldLink RJ0 38 "java/lang/String" "COMPACT_STRINGS" "Z", Cond.fieldLink RJ0 1048 "java/lang/AbstractStringBuilder" "maybeLatin1" "Z", Cond.methodLink RJ0 552 ⟨"java/lang/AbstractStringBuilder", "getValue", "()[B"⟩, Cond.sameMethod "java/lang/AbstractStringBuilder" "java/lang/AbstractStringBuilder" "getValue" "()[B", Cond.selects RJ4 ⟨"java/lang/AbstractStringBuilder", "getValue", "()[B"⟩ yJ5_getValue_6d5f1, Cond.instanceMethod yJ5_getValue_6d5f1, Cond.code yJ5_getValue_6d5f1 cJ5_getValue_6d5f1 1 (some (.array .byte)), Cond.methodLink RJ0 549 ⟨"java/lang/AbstractStringBuilder", "length", "()I"⟩, Cond.sameMethod "java/lang/AbstractStringBuilder" "java/lang/AbstractStringBuilder" "length" "()I", Cond.instanceMethod ⟨"java/lang/AbstractStringBuilder", "length", "()I"⟩, Cond.selects RJ4 ⟨"java/lang/AbstractStringBuilder", "length", "()I"⟩ yJ4_length_8abf5, Cond.instanceMethod yJ4_length_8abf5, Cond.code yJ4_length_8abf5 cJ4_length_8abf5 1 (some .int)]
def wsL_law0_r26 : List Cond := [Cond.methodLink RJ4 343 yJ5_length_8abf5, Cond.instanceMethod yJ5_length_8abf5, Cond.code yJ5_length_8abf5 cJ5_length_8abf5 1 (some .int), Cond.methodLink RJ0 1047 ⟨"java/lang/AbstractStringBuilder", "isLatin1", "()Z"⟩, Cond.methodLink RJ0 54 yJ7_copyOfRange_39247, Cond.static yJ7_copyOfRange_39247, Cond.code yJ7_copyOfRange_39247 cJ7_copyOfRange_39247 3 (some (.array .byte)), Cond.methodLink RJ7 339 yJ7_copyOfRangeByte_39247, Cond.static yJ7_copyOfRangeByte_39247, Cond.code yJ7_copyOfRangeByte_39247 cJ7_copyOfRangeByte_39247 5 (some (.array .byte)), Cond.methodLink RJ7 343 yJ7_checkLength_df160, Cond.static yJ7_checkLength_df160, Cond.code yJ7_checkLength_df160 cJ7_checkLength_df160 2 none, Cond.methodLink RJ0 1051 yJ2_compress_39247, Cond.static yJ2_compress_39247, Cond.code yJ2_compress_39247 cJ2_compress_39247 6 (some (.array .byte)), Cond.methodLink RJ2 123 yJ2_compress_5af95, Cond.static yJ2_compress_5af95, Cond.code yJ2_compress_5af95 cJ2_compress_5af95 7 (some .int), Cond.methodLink RJ2 71 yJ2_getChar_3b067, Cond.static yJ2_getChar_3b067, Cond.code yJ2_getChar_3b067 cJ2_getChar_3b067 2 (some .char), Cond.methodLink RJ2 126 yJ7_copyOfRange_39247, Cond.methodLink RJ0 47 yJ2_coderFromArrayLen_85cad]
def wsL_law0_r27 : List Cond := [Cond.static yJ2_coderFromArrayLen_85cad, Cond.code yJ2_coderFromArrayLen_85cad cJ2_coderFromArrayLen_85cad 2 (some .byte), Cond.methodLink RL 141 yJ0_length_8abf5, Cond.instanceMethod yJ0_length_8abf5, Cond.selects RJ0 yJ0_length_8abf5 yJ0_length_8abf5, Cond.code yJ0_length_8abf5 cJ0_length_8abf5 1 (some .int), Cond.methodLink RJ0 335 yJ0_coder_7d493, Cond.instanceMethod yJ0_coder_7d493, Cond.selects RJ0 yJ0_coder_7d493 yJ0_coder_7d493, Cond.code yJ0_coder_7d493 cJ0_coder_7d493 1 (some .byte), Cond.methodLink RL 146 yX5_wear, Cond.instanceMethod yX5_wear, Cond.selects RX5 yX5_wear yX5_wear, Cond.code yX5_wear cX5_wear 4 (some .int), Cond.methodLink RX5 182 yX0_wearOf, Cond.methodLink RL 149 yJ0_charAt_5068e, Cond.instanceMethod yJ0_charAt_5068e, Cond.selects RJ0 yJ0_charAt_5068e yJ0_charAt_5068e, Cond.code yJ0_charAt_5068e cJ0_charAt_5068e 2 (some .char), Cond.methodLink RJ0 492 yJ0_isLatin1_aae02, Cond.instanceMethod yJ0_isLatin1_aae02, Cond.selects RJ0 yJ0_isLatin1_aae02 yJ0_isLatin1_aae02, Cond.code yJ0_isLatin1_aae02 cJ0_isLatin1_aae02 1 (some .boolean), Cond.methodLink RJ0 495 yJ1_charAt_3b067]
def wsL_law0_r28 : List Cond := [Cond.static yJ1_charAt_3b067, Cond.code yJ1_charAt_3b067 cJ1_charAt_3b067 2 (some .char), Cond.methodLink RJ1 9 yJ0_checkIndex_df160, Cond.methodLink RJ0 498 yJ2_charAt_3b067, Cond.static yJ2_charAt_3b067, Cond.code yJ2_charAt_3b067 cJ2_charAt_3b067 2 (some .char), Cond.methodLink RL 90 yX5_digest, Cond.instanceMethod yX5_digest, Cond.selects RX5 yX5_digest yX5_digest, Cond.code yX5_digest cX5_digest 4 (some .long), Cond.constantLong RX5 274 (58312), Cond.constantLong RX5 276 (31), Cond.methodLink RX5 278 yX5_many, Cond.methodLink RX5 281 yX5_digestTooth, Cond.instanceMethod yX5_digestTooth, Cond.selects RX5 yX5_digestTooth yX5_digestTooth, Cond.code yX5_digestTooth cX5_digestTooth 7 (some .long), Cond.methodLink RX5 294 yX5_ofTooth, Cond.methodLink RX5 285 yX5_digestTune, Cond.instanceMethod yX5_digestTune, Cond.selects RX5 yX5_digestTune yX5_digestTune, Cond.code yX5_digestTune cX5_digestTune 7 (some .long), Cond.methodLink RX5 297 yX5_ofTune, Cond.methodLink RX5 300 yX5_bestKey]
def wsL_law0_r29 : List Cond := [Cond.instanceMethod yX5_bestKey, Cond.selects RX5 yX5_bestKey yX5_bestKey, Cond.code yX5_bestKey cX5_bestKey 8 (some .int), Cond.methodLink RX5 264 yX5_wouldLose, Cond.instanceMethod yX5_wouldLose, Cond.selects RX5 yX5_wouldLose yX5_wouldLose, Cond.code yX5_wouldLose cX5_wouldLose 4 (some .int), Cond.methodLink RX5 315 yX0_takePins, Cond.methodLink RX5 288 yX5_lasts, Cond.methodLink RX5 291 yX5_wouldBuzz, Cond.methodLink RL 94 yX5_bestKey, Cond.methodLink RL 97 yX5_likeness, Cond.instanceMethod yX5_likeness, Cond.selects RX5 yX5_likeness yX5_likeness, Cond.code yX5_likeness cX5_likeness 5 (some .double), Cond.methodLink RX5 212 Lib.Math.max.name, Cond.methodLink RX5 215 yX3_shared, Cond.instanceMethod yX3_shared, Cond.selects RX3 yX3_shared yX3_shared, Cond.code yX3_shared cX3_shared 7 (some .int), Cond.methodLink RX3 33 yX3_holds]
def wsL_law0 : List Cond := (wsL_law0_r1 ++ (wsL_law0_r2 ++ (wsL_law0_r3 ++ (wsL_law0_r4 ++ (wsL_law0_r5 ++ (wsL_law0_r6 ++ (wsL_law0_r7 ++ (wsL_law0_r8 ++ (wsL_law0_r9 ++ (wsL_law0_r10 ++ (wsL_law0_r11 ++ (wsL_law0_r12 ++ (wsL_law0_r13 ++ (wsL_law0_r14 ++ (wsL_law0_r15 ++ (wsL_law0_r16 ++ (wsL_law0_r17 ++ (wsL_law0_r18 ++ (wsL_law0_r19 ++ (wsL_law0_r20 ++ (wsL_law0_r21 ++ (wsL_law0_r22 ++ (wsL_law0_r23 ++ (wsL_law0_r24 ++ (wsL_law0_r25 ++ (wsL_law0_r26 ++ (wsL_law0_r27 ++ (wsL_law0_r28 ++ wsL_law0_r29)))))))))))))))))))))))))))) ++ wsX50 ++ wsX30 ++ wsX40 ++ wsX10 ++ wsX00 ++ wsX20 ++ wsJ40 ++ wsJ00 ++ ([] : List Cond)
def wsL_law : List Cond := wsL_law0 ++ (vx_atS RX5 55 "java/lang/IllegalStateException" ["java/lang/RuntimeException", "java/lang/Exception"]).filter goodWord ++ (vx_atS RX5 79 "java/lang/IllegalArgumentException" ["java/lang/RuntimeException", "java/lang/Exception"]).filter goodWord ++ (vx_atS RX5 325 "java/lang/IndexOutOfBoundsException" ["java/lang/RuntimeException", "java/lang/Exception"]).filter goodWord
set_option maxRecDepth 20000 in
theorem xk_pl (ws : List Cond) (ps : List Nat) (h : ws = ps.filterMap (fun i => lw_tbl[i]?)) : ∀ w ∈ ws, w ∈ lw_tbl := by
  intro w hw
  rw [h] at hw
  obtain ⟨i, -, hi⟩ := List.mem_filterMap.mp hw
  exact List.mem_of_getElem? hi
theorem in_wsL_law0_r1 : ∀ w ∈ wsL_law0_r1, w ∈ lw_tbl := xk_pl _ [37, 38, 14, 904, 905, 26, 906, 652, 438, 439, 907, 908, 39, 40, 41, 42, 43, 44, 45, 46, 15, 190, 63, 64] (by decide +kernel)
theorem in_wsL_law0_r2 : ∀ w ∈ wsL_law0_r2, w ∈ lw_tbl := xk_pl _ [16, 191, 146, 192, 148, 193, 150, 194, 195, 47, 48, 49, 50, 62, 51, 53, 65, 66, 67, 68, 69, 70, 17, 145] (by decide +kernel)
theorem in_wsL_law0_r3 : ∀ w ∈ wsL_law0_r3, w ∈ lw_tbl := xk_pl _ [106, 107, 18, 147, 120, 121, 19, 149, 153, 71, 72, 73, 74, 75, 105, 79, 83, 85, 87, 108, 109, 110, 111, 119] (by decide +kernel)
theorem in_wsL_law0_r4 : ∀ w ∈ wsL_law0_r4, w ∈ lw_tbl := xk_pl _ [112, 113, 122, 123, 124, 125, 126, 144, 127, 636, 637, 13, 638, 639, 632, 633, 634, 635, 212, 213, 214, 215, 287, 24] (by decide +kernel)
theorem in_wsL_law0_r5 : ∀ w ∈ wsL_law0_r5, w ∈ lw_tbl := xk_pl _ [89, 216, 217, 218, 219, 23, 303, 304, 305, 306, 88, 331, 332, 333, 334, 54, 483, 484, 485, 486, 52, 340, 342, 5] (by decide +kernel)
theorem in_wsL_law0_r6 : ∀ w ∈ wsL_law0_r6, w ∈ lw_tbl := xk_pl _ [343, 315, 25, 471, 472, 473, 487, 488, 489, 490, 491, 384, 385, 386, 492, 493, 494, 495, 496, 497, 498, 499, 500, 501] (by decide +kernel)
theorem in_wsL_law0_r7 : ∀ w ∈ wsL_law0_r7, w ∈ lw_tbl := xk_pl _ [502, 503, 380, 381, 382, 504, 505, 506, 507, 336, 337, 338, 339, 346, 347, 348, 349, 350, 351, 352, 353, 355, 356, 357] (by decide +kernel)
theorem in_wsL_law0_r8 : ∀ w ∈ wsL_law0_r8, w ∈ lw_tbl := xk_pl _ [358, 359, 360, 361, 362, 519, 520, 521, 522, 156, 158, 152, 154, 160, 132, 130, 162, 164, 196, 166, 523, 524, 525, 526] (by decide +kernel)
theorem in_wsL_law0_r9 : ∀ w ∈ wsL_law0_r9, w ∈ lw_tbl := xk_pl _ [527, 529, 7, 530, 475, 476, 477, 478, 479, 480, 481, 482, 395, 396, 397, 398, 399, 27, 400, 401, 402, 403, 363, 364] (by decide +kernel)
theorem in_wsL_law0_r10 : ∀ w ∈ wsL_law0_r10, w ∈ lw_tbl := xk_pl _ [365, 366, 367, 368, 369, 371, 372, 373, 375, 377, 6, 378, 379, 383, 387, 388, 389, 390, 91, 78, 81, 391, 392, 393] (by decide +kernel)
theorem in_wsL_law0_r11 : ∀ w ∈ wsL_law0_r11, w ∈ lw_tbl := xk_pl _ [394, 404, 405, 406, 407, 408, 409, 410, 411, 412, 413, 414, 415, 416, 417, 418, 427, 419, 420, 421, 422, 423, 424, 425] (by decide +kernel)
theorem in_wsL_law0_r12 : ∀ w ∈ wsL_law0_r12, w ∈ lw_tbl := xk_pl _ [426, 428, 429, 430, 431, 432, 433, 434, 435, 437, 440, 441, 442, 443, 445, 446, 447, 448, 449, 450, 451, 452, 453, 151] (by decide +kernel)
theorem in_wsL_law0_r13 : ∀ w ∈ wsL_law0_r13, w ∈ lw_tbl := xk_pl _ [454, 518, 455, 456, 457, 458, 459, 460, 461, 462, 463, 464, 465, 466, 467, 468, 469, 470, 76, 82, 84, 86, 311, 313] (by decide +kernel)
theorem in_wsL_law0_r14 : ∀ w ∈ wsL_law0_r14, w ∈ lw_tbl := xk_pl _ [4, 314, 307, 308, 309, 310, 640, 641, 642, 653, 643, 644, 645, 646, 620, 621, 622, 623, 624, 625, 582, 583, 584, 585] (by decide +kernel)
theorem in_wsL_law0_r15 : ∀ w ∈ wsL_law0_r15, w ∈ lw_tbl := xk_pl _ [157, 155, 159, 161, 163, 165, 586, 587, 588, 589, 590, 540, 541, 542, 543, 545, 544, 28, 591, 592, 593, 594, 627, 628] (by decide +kernel)
theorem in_wsL_law0_r16 : ∀ w ∈ wsL_law0_r16, w ∈ lw_tbl := xk_pl _ [629, 630, 631, 596, 597, 598, 599, 90, 80, 618, 600, 601, 602, 603, 604, 605, 77, 606, 607, 608, 609, 610, 611, 612] (by decide +kernel)
theorem in_wsL_law0_r17 : ∀ w ∈ wsL_law0_r17, w ∈ lw_tbl := xk_pl _ [613, 129, 131, 128, 569, 570, 571, 572, 614, 615, 616, 617, 647, 579, 580, 581, 595, 648, 649, 650, 651, 654, 655, 656] (by decide +kernel)
theorem in_wsL_law0_r18 : ∀ w ∈ wsL_law0_r18, w ∈ lw_tbl := xk_pl _ [657, 658, 659, 660, 558, 661, 662, 663, 664, 665, 666, 667, 668, 577, 669, 671, 11, 672, 573, 574, 575, 576, 674, 675] (by decide +kernel)
theorem in_wsL_law0_r19 : ∀ w ∈ wsL_law0_r19, w ∈ lw_tbl := xk_pl _ [676, 677, 678, 679, 680, 681, 565, 566, 567, 568, 682, 683, 684, 685, 690, 691, 30, 686, 687, 688, 692, 693, 694, 695] (by decide +kernel)
theorem in_wsL_law0_r20 : ∀ w ∈ wsL_law0_r20, w ∈ lw_tbl := xk_pl _ [696, 29, 697, 698, 699, 286, 708, 709, 701, 702, 32, 703, 704, 705, 706, 707, 721, 723, 12, 724, 725, 726, 727, 728] (by decide +kernel)
theorem in_wsL_law0_r21 : ∀ w ∈ wsL_law0_r21, w ∈ lw_tbl := xk_pl _ [729, 730, 910, 720, 731, 732, 711, 733, 911, 0, 735, 736, 737, 912, 1, 739, 740, 749, 741, 742, 33, 743, 744, 745] (by decide +kernel)
theorem in_wsL_law0_r22 : ∀ w ∈ wsL_law0_r22, w ∈ lw_tbl := xk_pl _ [746, 747, 748, 750, 751, 34, 752, 753, 754, 755, 756, 757, 759, 760, 761, 762, 764, 765, 763, 766, 767, 768, 35, 769] (by decide +kernel)
theorem in_wsL_law0_r23 : ∀ w ∈ wsL_law0_r23, w ∈ lw_tbl := xk_pl _ [770, 913, 2, 772, 773, 774, 775, 776, 777, 778, 779, 780, 781, 782, 783, 784, 785, 786, 787, 31, 788, 789, 791, 792] (by decide +kernel)
theorem in_wsL_law0_r24 : ∀ w ∈ wsL_law0_r24, w ∈ lw_tbl := xk_pl _ [36, 793, 794, 795, 796, 797, 799, 801, 803, 804, 805, 806, 807, 808, 809, 810, 811, 812, 813, 814, 815, 816, 817, 818] (by decide +kernel)
theorem in_wsL_law0_r25 : ∀ w ∈ wsL_law0_r25, w ∈ lw_tbl := xk_pl _ [819, 820, 821, 822, 823, 824, 825, 826, 827, 866, 865, 851, 710, 828, 830, 831, 829, 832, 833, 835, 834, 836, 837, 838] (by decide +kernel)
theorem in_wsL_law0_r26 : ∀ w ∈ wsL_law0_r26, w ∈ lw_tbl := xk_pl _ [839, 834, 840, 841, 842, 843, 844, 845, 846, 847, 848, 849, 850, 852, 853, 854, 855, 856, 857, 858, 859, 860, 861, 862] (by decide +kernel)
theorem in_wsL_law0_r27 : ∀ w ∈ wsL_law0_r27, w ∈ lw_tbl := xk_pl _ [863, 864, 876, 877, 878, 879, 880, 881, 882, 883, 884, 885, 886, 887, 888, 889, 890, 891, 892, 893, 894, 895, 896, 897] (by decide +kernel)
theorem in_wsL_law0_r28 : ∀ w ∈ wsL_law0_r28, w ∈ lw_tbl := xk_pl _ [898, 899, 900, 901, 902, 903, 546, 547, 548, 549, 550, 551, 552, 553, 555, 9, 556, 557, 559, 561, 10, 562, 563, 564] (by decide +kernel)
theorem in_wsL_law0_r29 : ∀ w ∈ wsL_law0_r29, w ∈ lw_tbl := xk_pl _ [532, 533, 534, 535, 537, 8, 538, 539, 578, 619, 531, 508, 509, 510, 511, 512, 513, 514, 515, 516, 517] (by decide +kernel)
theorem in_wsX50 : ∀ w ∈ wsX50, w ∈ lw_tbl := xk_pl _ [197, 199, 201, 203, 205, 207, 209] (by decide +kernel)
theorem in_wsX30 : ∀ w ∈ wsX30, w ∈ lw_tbl := xk_pl _ [55, 57, 59] (by decide +kernel)
theorem in_wsX40 : ∀ w ∈ wsX40, w ∈ lw_tbl := xk_pl _ [167, 169, 171, 173, 175, 177, 179, 181, 183, 185, 187] (by decide +kernel)
theorem in_wsX10 : ∀ w ∈ wsX10, w ∈ lw_tbl := xk_pl _ [92, 94, 96, 98, 100, 102] (by decide +kernel)
theorem in_wsX00 : ∀ w ∈ wsX00, w ∈ lw_tbl := xk_pl _ [114, 116] (by decide +kernel)
theorem in_wsX20 : ∀ w ∈ wsX20, w ∈ lw_tbl := xk_pl _ [133, 135, 137, 139, 141] (by decide +kernel)
theorem in_wsJ40 : ∀ w ∈ wsJ40, w ∈ lw_tbl := xk_pl _ [712, 714, 716, 718] (by decide +kernel)
theorem in_wsJ00 : ∀ w ∈ wsJ00, w ∈ lw_tbl := xk_pl _ [867, 869, 871, 873] (by decide +kernel)
theorem wsL_law_in0 : ∀ w ∈ wsL_law0, w ∈ lw_tbl := by
  intro w h
  unfold wsL_law0 at h
  simp only [List.mem_append, or_assoc] at h
  rcases h with h | h | h | h | h | h | h | h | h | h | h | h | h | h | h | h | h | h | h | h | h | h | h | h | h | h | h | h | h | h | h | h | h | h | h | h | h | h
  · exact in_wsL_law0_r1 w h
  · exact in_wsL_law0_r2 w h
  · exact in_wsL_law0_r3 w h
  · exact in_wsL_law0_r4 w h
  · exact in_wsL_law0_r5 w h
  · exact in_wsL_law0_r6 w h
  · exact in_wsL_law0_r7 w h
  · exact in_wsL_law0_r8 w h
  · exact in_wsL_law0_r9 w h
  · exact in_wsL_law0_r10 w h
  · exact in_wsL_law0_r11 w h
  · exact in_wsL_law0_r12 w h
  · exact in_wsL_law0_r13 w h
  · exact in_wsL_law0_r14 w h
  · exact in_wsL_law0_r15 w h
  · exact in_wsL_law0_r16 w h
  · exact in_wsL_law0_r17 w h
  · exact in_wsL_law0_r18 w h
  · exact in_wsL_law0_r19 w h
  · exact in_wsL_law0_r20 w h
  · exact in_wsL_law0_r21 w h
  · exact in_wsL_law0_r22 w h
  · exact in_wsL_law0_r23 w h
  · exact in_wsL_law0_r24 w h
  · exact in_wsL_law0_r25 w h
  · exact in_wsL_law0_r26 w h
  · exact in_wsL_law0_r27 w h
  · exact in_wsL_law0_r28 w h
  · exact in_wsL_law0_r29 w h
  · exact in_wsX50 w h
  · exact in_wsX30 w h
  · exact in_wsX40 w h
  · exact in_wsX10 w h
  · exact in_wsX00 w h
  · exact in_wsX20 w h
  · exact in_wsJ40 w h
  · exact in_wsJ00 w h
  · cases h
theorem wsL_law_x0 : ∀ w ∈ (vx_atS RX5 55 "java/lang/IllegalStateException" ["java/lang/RuntimeException", "java/lang/Exception"]).filter goodWord, w ∈ lw_tbl := by decide +kernel
theorem wsL_law_x1 : ∀ w ∈ (vx_atS RX5 79 "java/lang/IllegalArgumentException" ["java/lang/RuntimeException", "java/lang/Exception"]).filter goodWord, w ∈ lw_tbl := by decide +kernel
theorem wsL_law_x2 : ∀ w ∈ (vx_atS RX5 325 "java/lang/IndexOutOfBoundsException" ["java/lang/RuntimeException", "java/lang/Exception"]).filter goodWord, w ∈ lw_tbl := by decide +kernel
theorem wsL_law_in : ∀ w ∈ wsL_law, w ∈ lw_tbl := fun w h => (List.mem_append.mp h).elim (fun h => (List.mem_append.mp h).elim (fun h => (List.mem_append.mp h).elim (fun h => wsL_law_in0 w h) (fun h => wsL_law_x0 w h)) (fun h => wsL_law_x1 w h)) (fun h => wsL_law_x2 w h)
theorem inlX0 : ∀ w ∈ wsX00, w ∈ wsL_law := fun _ h => List.mem_append_left _ (List.mem_append_left _ (List.mem_append_left _ (List.mem_append_left _ (List.mem_append_left _ (List.mem_append_left _ (List.mem_append_left _ (List.mem_append_right _ h)))))))
theorem inX0 : ∀ w ∈ wsX00, w ∈ lw_tbl := fun w h => wsL_law_in w (inlX0 w h)
theorem inlX1 : ∀ w ∈ wsX10, w ∈ wsL_law := fun _ h => List.mem_append_left _ (List.mem_append_left _ (List.mem_append_left _ (List.mem_append_left _ (List.mem_append_left _ (List.mem_append_left _ (List.mem_append_left _ (List.mem_append_left _ (List.mem_append_right _ h))))))))
theorem inX1 : ∀ w ∈ wsX10, w ∈ lw_tbl := fun w h => wsL_law_in w (inlX1 w h)
theorem inlX2 : ∀ w ∈ wsX20, w ∈ wsL_law := fun _ h => List.mem_append_left _ (List.mem_append_left _ (List.mem_append_left _ (List.mem_append_left _ (List.mem_append_left _ (List.mem_append_left _ (List.mem_append_right _ h))))))
theorem inX2 : ∀ w ∈ wsX20, w ∈ lw_tbl := fun w h => wsL_law_in w (inlX2 w h)
theorem inlX3 : ∀ w ∈ wsX30, w ∈ wsL_law := fun _ h => List.mem_append_left _ (List.mem_append_left _ (List.mem_append_left _ (List.mem_append_left _ (List.mem_append_left _ (List.mem_append_left _ (List.mem_append_left _ (List.mem_append_left _ (List.mem_append_left _ (List.mem_append_left _ (List.mem_append_right _ h))))))))))
theorem inX3 : ∀ w ∈ wsX30, w ∈ lw_tbl := fun w h => wsL_law_in w (inlX3 w h)
theorem inlX4 : ∀ w ∈ wsX40, w ∈ wsL_law := fun _ h => List.mem_append_left _ (List.mem_append_left _ (List.mem_append_left _ (List.mem_append_left _ (List.mem_append_left _ (List.mem_append_left _ (List.mem_append_left _ (List.mem_append_left _ (List.mem_append_left _ (List.mem_append_right _ h)))))))))
theorem inX4 : ∀ w ∈ wsX40, w ∈ lw_tbl := fun w h => wsL_law_in w (inlX4 w h)
theorem inlX5 : ∀ w ∈ wsX50, w ∈ wsL_law := fun _ h => List.mem_append_left _ (List.mem_append_left _ (List.mem_append_left _ (List.mem_append_left _ (List.mem_append_left _ (List.mem_append_left _ (List.mem_append_left _ (List.mem_append_left _ (List.mem_append_left _ (List.mem_append_left _ (List.mem_append_left _ (List.mem_append_right _ h)))))))))))
theorem inX5 : ∀ w ∈ wsX50, w ∈ lw_tbl := fun w h => wsL_law_in w (inlX5 w h)
theorem inX6 : ∀ w ∈ wsX60, w ∈ lw_tbl := by decide +kernel
theorem inX7 : ∀ w ∈ wsX70, w ∈ lw_tbl := by decide +kernel
theorem inX8 : ∀ w ∈ wsX80, w ∈ lw_tbl := by decide +kernel
theorem inJx145de : ∀ w ∈ wsJx145de0, w ∈ lw_tbl := by decide +kernel
theorem inJ5 : ∀ w ∈ wsJ50, w ∈ lw_tbl := by decide +kernel
theorem inJx2cfe8 : ∀ w ∈ wsJx2cfe80, w ∈ lw_tbl := by decide +kernel
theorem inJx9f9b0 : ∀ w ∈ wsJx9f9b00, w ∈ lw_tbl := by decide +kernel
theorem inJx8e188 : ∀ w ∈ wsJx8e1880, w ∈ lw_tbl := by decide +kernel
theorem inJxb160c : ∀ w ∈ wsJxb160c0, w ∈ lw_tbl := by decide +kernel
theorem inJ13 : ∀ w ∈ wsJ130, w ∈ lw_tbl := by decide +kernel
theorem inJ9 : ∀ w ∈ wsJ90, w ∈ lw_tbl := by decide +kernel
theorem inlJ0 : ∀ w ∈ wsJ00, w ∈ wsL_law := fun _ h => List.mem_append_left _ (List.mem_append_left _ (List.mem_append_left _ (List.mem_append_left _ (List.mem_append_right _ h))))
theorem inJ0 : ∀ w ∈ wsJ00, w ∈ lw_tbl := fun w h => wsL_law_in w (inlJ0 w h)
theorem inlJ4 : ∀ w ∈ wsJ40, w ∈ wsL_law := fun _ h => List.mem_append_left _ (List.mem_append_left _ (List.mem_append_left _ (List.mem_append_left _ (List.mem_append_left _ (List.mem_append_right _ h)))))
theorem inJ4 : ∀ w ∈ wsJ40, w ∈ lw_tbl := fun w h => wsL_law_in w (inlJ4 w h)
theorem inJ1 : ∀ w ∈ wsJ10, w ∈ lw_tbl := by decide +kernel
theorem inJ2 : ∀ w ∈ wsJ20, w ∈ lw_tbl := by decide +kernel
theorem inJ10 : ∀ w ∈ wsJ100, w ∈ lw_tbl := by decide +kernel
theorem inJxfd54e : ∀ w ∈ wsJxfd54e0, w ∈ lw_tbl := by decide +kernel
theorem inJx3cf43 : ∀ w ∈ wsJx3cf430, w ∈ lw_tbl := by decide +kernel
theorem inJ7 : ∀ w ∈ wsJ70, w ∈ lw_tbl := by decide +kernel
theorem inJ8 : ∀ w ∈ wsJ80, w ∈ lw_tbl := by decide +kernel
theorem inJ3 : ∀ w ∈ wsJ30, w ∈ lw_tbl := by decide +kernel
theorem dX0_init_0 : decode cX0_init 0 = .ok (.aload_n 0, 1) := by decide +kernel
theorem dX0_init_1 : decode cX0_init 1 = .ok (.invokespecial 3, 3) := by decide +kernel
theorem dX0_init_4 : decode cX0_init 4 = .ok (.aload_n 0, 1) := by decide +kernel
theorem dX0_init_5 : decode cX0_init 5 = .ok (.bipush 72, 2) := by decide +kernel
theorem dX0_init_7 : decode cX0_init 7 = .ok (.newarray .long, 2) := by decide +kernel
theorem dX0_init_9 : decode cX0_init 9 = .ok (.putfield 9, 3) := by decide +kernel
theorem dX0_init_12 : decode cX0_init 12 = .ok (.aload_n 0, 1) := by decide +kernel
theorem dX0_init_13 : decode cX0_init 13 = .ok (.sipush 4608, 3) := by decide +kernel
theorem dX0_init_16 : decode cX0_init 16 = .ok (.newarray .int, 2) := by decide +kernel
theorem dX0_init_18 : decode cX0_init 18 = .ok (.putfield 15, 3) := by decide +kernel
theorem dX0_init_21 : decode cX0_init 21 = .ok (.return_, 1) := by decide +kernel
end
section
theorem dX0_lineAt_0 : decode cX0_lineAt 0 = .ok (.iload_n 1, 1) := by decide +kernel
theorem dX0_lineAt_1 : decode cX0_lineAt 1 = .ok (.bipush 24, 2) := by decide +kernel
theorem dX0_lineAt_3 : decode cX0_lineAt 3 = .ok (.imul, 1) := by decide +kernel
theorem dX0_lineAt_4 : decode cX0_lineAt 4 = .ok (.iload_n 0, 1) := by decide +kernel
theorem dX0_lineAt_5 : decode cX0_lineAt 5 = .ok (.iadd, 1) := by decide +kernel
theorem dX0_lineAt_6 : decode cX0_lineAt 6 = .ok (.ireturn, 1) := by decide +kernel
theorem dX0_pinAt_0 : decode cX0_pinAt 0 = .ok (.iload_n 1, 1) := by decide +kernel
theorem dX0_pinAt_1 : decode cX0_pinAt 1 = .ok (.bipush 24, 2) := by decide +kernel
theorem dX0_pinAt_3 : decode cX0_pinAt 3 = .ok (.imul, 1) := by decide +kernel
theorem dX0_pinAt_4 : decode cX0_pinAt 4 = .ok (.iload_n 0, 1) := by decide +kernel
theorem dX0_pinAt_5 : decode cX0_pinAt 5 = .ok (.iadd, 1) := by decide +kernel
theorem dX0_pinAt_6 : decode cX0_pinAt 6 = .ok (.bipush 64, 2) := by decide +kernel
theorem dX0_pinAt_8 : decode cX0_pinAt 8 = .ok (.imul, 1) := by decide +kernel
theorem dX0_pinAt_9 : decode cX0_pinAt 9 = .ok (.iload_n 2, 1) := by decide +kernel
theorem dX0_pinAt_10 : decode cX0_pinAt 10 = .ok (.iadd, 1) := by decide +kernel
theorem dX0_pinAt_11 : decode cX0_pinAt 11 = .ok (.ireturn, 1) := by decide +kernel
theorem dX0_placesNear_0 : decode cX0_placesNear 0 = .ok (.iload_n 0, 1) := by decide +kernel
theorem dX0_placesNear_1 : decode cX0_placesNear 1 = .ok (.iconst 3, 1) := by decide +kernel
theorem dX0_placesNear_2 : decode cX0_placesNear 2 = .ok (.isub, 1) := by decide +kernel
theorem dX0_placesNear_3 : decode cX0_placesNear 3 = .ok (.bipush 63, 2) := by decide +kernel
theorem dX0_placesNear_5 : decode cX0_placesNear 5 = .ok (.iand, 1) := by decide +kernel
theorem dX0_placesNear_6 : decode cX0_placesNear 6 = .ok (.istore_n 1, 1) := by decide +kernel
theorem dX0_placesNear_7 : decode cX0_placesNear 7 = .ok (.ldc2_w 19, 3) := by decide +kernel
theorem dX0_placesNear_10 : decode cX0_placesNear 10 = .ok (.iload_n 1, 1) := by decide +kernel
theorem dX0_placesNear_11 : decode cX0_placesNear 11 = .ok (.lshl, 1) := by decide +kernel
theorem dX0_placesNear_12 : decode cX0_placesNear 12 = .ok (.ldc2_w 19, 3) := by decide +kernel
theorem dX0_placesNear_15 : decode cX0_placesNear 15 = .ok (.iload_n 1, 1) := by decide +kernel
theorem dX0_placesNear_16 : decode cX0_placesNear 16 = .ok (.ineg, 1) := by decide +kernel
theorem dX0_placesNear_17 : decode cX0_placesNear 17 = .ok (.lushr, 1) := by decide +kernel
theorem dX0_placesNear_18 : decode cX0_placesNear 18 = .ok (.lor, 1) := by decide +kernel
theorem dX0_placesNear_19 : decode cX0_placesNear 19 = .ok (.lreturn, 1) := by decide +kernel
set_option maxRecDepth 20000 in
theorem ggX0_placesOf_X0_lineAt : GoodIn wsX0_placesOf wsX0_lineAt := goodIn_r _ [5] (by decide +kernel) (by decide +kernel)
set_option maxRecDepth 20000 in
theorem gX0_placesOf_X0_lineAt : GoodIn wsX0_placesOf (va_wsS RX0 21 yX0_lineAt wsX0_lineAt) := goodIn_app (goodIn_of _ (by decide +kernel)) ggX0_placesOf_X0_lineAt
theorem dX0_placesOf_0 : decode cX0_placesOf 0 = .ok (.aload_n 0, 1) := by decide +kernel
theorem dX0_placesOf_1 : decode cX0_placesOf 1 = .ok (.getfield 9, 3) := by decide +kernel
theorem dX0_placesOf_4 : decode cX0_placesOf 4 = .ok (.iload_n 1, 1) := by decide +kernel
theorem dX0_placesOf_5 : decode cX0_placesOf 5 = .ok (.iload_n 2, 1) := by decide +kernel
theorem dX0_placesOf_6 : decode cX0_placesOf 6 = .ok (.invokestatic 21, 3) := by decide +kernel
theorem dX0_placesOf_9 : decode cX0_placesOf 9 = .ok (.laload, 1) := by decide +kernel
theorem dX0_placesOf_10 : decode cX0_placesOf 10 = .ok (.lreturn, 1) := by decide +kernel
set_option maxRecDepth 20000 in
theorem ggX0_wearOf_X0_pinAt : GoodIn wsX0_wearOf wsX0_pinAt := goodIn_r _ [5] (by decide +kernel) (by decide +kernel)
set_option maxRecDepth 20000 in
theorem gX0_wearOf_X0_pinAt : GoodIn wsX0_wearOf (va_wsS RX0 25 yX0_pinAt wsX0_pinAt) := goodIn_app (goodIn_of _ (by decide +kernel)) ggX0_wearOf_X0_pinAt
theorem dX0_wearOf_0 : decode cX0_wearOf 0 = .ok (.aload_n 0, 1) := by decide +kernel
theorem dX0_wearOf_1 : decode cX0_wearOf 1 = .ok (.getfield 15, 3) := by decide +kernel
theorem dX0_wearOf_4 : decode cX0_wearOf 4 = .ok (.iload_n 1, 1) := by decide +kernel
theorem dX0_wearOf_5 : decode cX0_wearOf 5 = .ok (.iload_n 2, 1) := by decide +kernel
theorem dX0_wearOf_6 : decode cX0_wearOf 6 = .ok (.iload_n 3, 1) := by decide +kernel
theorem dX0_wearOf_7 : decode cX0_wearOf 7 = .ok (.invokestatic 25, 3) := by decide +kernel
theorem dX0_wearOf_10 : decode cX0_wearOf 10 = .ok (.iaload, 1) := by decide +kernel
theorem dX0_wearOf_11 : decode cX0_wearOf 11 = .ok (.ireturn, 1) := by decide +kernel
set_option maxRecDepth 20000 in
theorem ggX0_hasPin_X0_lineAt : GoodIn wsX0_hasPin wsX0_lineAt := goodIn_r _ [5] (by decide +kernel) (by decide +kernel)
set_option maxRecDepth 20000 in
theorem gX0_hasPin_X0_lineAt : GoodIn wsX0_hasPin (va_wsS RX0 21 yX0_lineAt wsX0_lineAt) := goodIn_app (goodIn_of _ (by decide +kernel)) ggX0_hasPin_X0_lineAt
theorem dX0_hasPin_0 : decode cX0_hasPin 0 = .ok (.aload_n 0, 1) := by decide +kernel
theorem dX0_hasPin_1 : decode cX0_hasPin 1 = .ok (.getfield 9, 3) := by decide +kernel
theorem dX0_hasPin_4 : decode cX0_hasPin 4 = .ok (.iload_n 1, 1) := by decide +kernel
theorem dX0_hasPin_5 : decode cX0_hasPin 5 = .ok (.iload_n 2, 1) := by decide +kernel
theorem dX0_hasPin_6 : decode cX0_hasPin 6 = .ok (.invokestatic 21, 3) := by decide +kernel
theorem dX0_hasPin_9 : decode cX0_hasPin 9 = .ok (.laload, 1) := by decide +kernel
theorem dX0_hasPin_10 : decode cX0_hasPin 10 = .ok (.iload_n 3, 1) := by decide +kernel
theorem dX0_hasPin_11 : decode cX0_hasPin 11 = .ok (.lushr, 1) := by decide +kernel
theorem dX0_hasPin_12 : decode cX0_hasPin 12 = .ok (.lconst 1, 1) := by decide +kernel
theorem dX0_hasPin_13 : decode cX0_hasPin 13 = .ok (.land, 1) := by decide +kernel
theorem dX0_hasPin_14 : decode cX0_hasPin 14 = .ok (.lconst 1, 1) := by decide +kernel
theorem dX0_hasPin_15 : decode cX0_hasPin 15 = .ok (.lcmp, 1) := by decide +kernel
theorem dX0_hasPin_16 : decode cX0_hasPin 16 = .ok (.ifCond .ne 7, 3) := by decide +kernel
theorem dX0_hasPin_19 : decode cX0_hasPin 19 = .ok (.iconst 1, 1) := by decide +kernel
theorem dX0_hasPin_20 : decode cX0_hasPin 20 = .ok (.goto 4, 3) := by decide +kernel
theorem dX0_hasPin_23 : decode cX0_hasPin 23 = .ok (.iconst 0, 1) := by decide +kernel
theorem dX0_hasPin_24 : decode cX0_hasPin 24 = .ok (.ireturn, 1) := by decide +kernel
set_option maxRecDepth 20000 in
theorem ggX0_setPin_X0_lineAt : GoodIn wsX0_setPin wsX0_lineAt := goodIn_r _ [6] (by decide +kernel) (by decide +kernel)
set_option maxRecDepth 20000 in
theorem gX0_setPin_X0_lineAt : GoodIn wsX0_setPin (va_wsS RX0 21 yX0_lineAt wsX0_lineAt) := goodIn_app (goodIn_of _ (by decide +kernel)) ggX0_setPin_X0_lineAt
set_option maxRecDepth 20000 in
theorem ggX0_setPin_X0_pinAt : GoodIn wsX0_setPin wsX0_pinAt := goodIn_r _ [9] (by decide +kernel) (by decide +kernel)
set_option maxRecDepth 20000 in
theorem gX0_setPin_X0_pinAt : GoodIn wsX0_setPin (va_wsS RX0 25 yX0_pinAt wsX0_pinAt) := goodIn_app (goodIn_of _ (by decide +kernel)) ggX0_setPin_X0_pinAt
theorem dX0_setPin_0 : decode cX0_setPin 0 = .ok (.aload_n 0, 1) := by decide +kernel
theorem dX0_setPin_1 : decode cX0_setPin 1 = .ok (.getfield 9, 3) := by decide +kernel
theorem dX0_setPin_4 : decode cX0_setPin 4 = .ok (.iload_n 1, 1) := by decide +kernel
theorem dX0_setPin_5 : decode cX0_setPin 5 = .ok (.iload_n 2, 1) := by decide +kernel
theorem dX0_setPin_6 : decode cX0_setPin 6 = .ok (.invokestatic 21, 3) := by decide +kernel
theorem dX0_setPin_9 : decode cX0_setPin 9 = .ok (.dup2, 1) := by decide +kernel
theorem dX0_setPin_10 : decode cX0_setPin 10 = .ok (.laload, 1) := by decide +kernel
theorem dX0_setPin_11 : decode cX0_setPin 11 = .ok (.lconst 1, 1) := by decide +kernel
theorem dX0_setPin_12 : decode cX0_setPin 12 = .ok (.iload_n 3, 1) := by decide +kernel
theorem dX0_setPin_13 : decode cX0_setPin 13 = .ok (.lshl, 1) := by decide +kernel
theorem dX0_setPin_14 : decode cX0_setPin 14 = .ok (.lor, 1) := by decide +kernel
theorem dX0_setPin_15 : decode cX0_setPin 15 = .ok (.lastore, 1) := by decide +kernel
theorem dX0_setPin_16 : decode cX0_setPin 16 = .ok (.aload_n 0, 1) := by decide +kernel
theorem dX0_setPin_17 : decode cX0_setPin 17 = .ok (.getfield 15, 3) := by decide +kernel
theorem dX0_setPin_20 : decode cX0_setPin 20 = .ok (.iload_n 1, 1) := by decide +kernel
theorem dX0_setPin_21 : decode cX0_setPin 21 = .ok (.iload_n 2, 1) := by decide +kernel
theorem dX0_setPin_22 : decode cX0_setPin 22 = .ok (.iload_n 3, 1) := by decide +kernel
theorem dX0_setPin_23 : decode cX0_setPin 23 = .ok (.invokestatic 25, 3) := by decide +kernel
theorem dX0_setPin_26 : decode cX0_setPin 26 = .ok (.iconst 0, 1) := by decide +kernel
theorem dX0_setPin_27 : decode cX0_setPin 27 = .ok (.iastore, 1) := by decide +kernel
theorem dX0_setPin_28 : decode cX0_setPin 28 = .ok (.return_, 1) := by decide +kernel
set_option maxRecDepth 20000 in
theorem ggX0_pinsOfTooth_X0_placesOf : GoodIn wsX0_pinsOfTooth wsX0_placesOf := goodIn_r _ [5, 6, 7, 8, 4, 9, 17, 18] (by decide +kernel) (by decide +kernel)
set_option maxRecDepth 20000 in
theorem gX0_pinsOfTooth_X0_placesOf : GoodIn wsX0_pinsOfTooth (wsV RX0 29 RX0 yX0_placesOf wsX0_placesOf) := goodIn_app (goodIn_of _ (by decide +kernel)) ggX0_pinsOfTooth_X0_placesOf
set_option maxRecDepth 20000 in
theorem ggX0_pinsOfTooth_J13_bitCount_95d88 : GoodIn wsX0_pinsOfTooth wsJ13_bitCount_95d88 := goodIn_r _ [13, 14, 15, 16] (by decide +kernel) (by decide +kernel)
set_option maxRecDepth 20000 in
theorem gX0_pinsOfTooth_J13_bitCount_95d88 : GoodIn wsX0_pinsOfTooth (va_wsS RX0 33 yJ13_bitCount_95d88 wsJ13_bitCount_95d88) := goodIn_app (goodIn_of _ (by decide +kernel)) ggX0_pinsOfTooth_J13_bitCount_95d88
theorem dX0_pinsOfTooth_0 : decode cX0_pinsOfTooth 0 = .ok (.iconst 0, 1) := by decide +kernel
theorem dX0_pinsOfTooth_1 : decode cX0_pinsOfTooth 1 = .ok (.istore_n 2, 1) := by decide +kernel
theorem dX0_pinsOfTooth_2 : decode cX0_pinsOfTooth 2 = .ok (.iconst 0, 1) := by decide +kernel
theorem dX0_pinsOfTooth_3 : decode cX0_pinsOfTooth 3 = .ok (.istore_n 3, 1) := by decide +kernel
theorem dX0_pinsOfTooth_4 : decode cX0_pinsOfTooth 4 = .ok (.iload_n 3, 1) := by decide +kernel
theorem dX0_pinsOfTooth_5 : decode cX0_pinsOfTooth 5 = .ok (.iconst 3, 1) := by decide +kernel
theorem dX0_pinsOfTooth_6 : decode cX0_pinsOfTooth 6 = .ok (.if_icmp .ge 21, 3) := by decide +kernel
theorem dX0_pinsOfTooth_9 : decode cX0_pinsOfTooth 9 = .ok (.iload_n 2, 1) := by decide +kernel
theorem dX0_pinsOfTooth_10 : decode cX0_pinsOfTooth 10 = .ok (.aload_n 0, 1) := by decide +kernel
theorem dX0_pinsOfTooth_11 : decode cX0_pinsOfTooth 11 = .ok (.iload_n 1, 1) := by decide +kernel
theorem dX0_pinsOfTooth_12 : decode cX0_pinsOfTooth 12 = .ok (.iload_n 3, 1) := by decide +kernel
theorem dX0_pinsOfTooth_13 : decode cX0_pinsOfTooth 13 = .ok (.invokevirtual 29, 3) := by decide +kernel
theorem dX0_pinsOfTooth_16 : decode cX0_pinsOfTooth 16 = .ok (.invokestatic 33, 3) := by decide +kernel
theorem dX0_pinsOfTooth_19 : decode cX0_pinsOfTooth 19 = .ok (.iadd, 1) := by decide +kernel
theorem dX0_pinsOfTooth_20 : decode cX0_pinsOfTooth 20 = .ok (.istore_n 2, 1) := by decide +kernel
theorem dX0_pinsOfTooth_21 : decode cX0_pinsOfTooth 21 = .ok (.iinc 3 1, 3) := by decide +kernel
theorem dX0_pinsOfTooth_24 : decode cX0_pinsOfTooth 24 = .ok (.goto (-20), 3) := by decide +kernel
theorem dX0_pinsOfTooth_27 : decode cX0_pinsOfTooth 27 = .ok (.iload_n 2, 1) := by decide +kernel
theorem dX0_pinsOfTooth_28 : decode cX0_pinsOfTooth 28 = .ok (.ireturn, 1) := by decide +kernel
set_option maxRecDepth 20000 in
theorem ggX0_freeTooth_X0_placesNear : GoodIn wsX0_freeTooth wsX0_placesNear := goodIn_r _ [8, 9] (by decide +kernel) (by decide +kernel)
set_option maxRecDepth 20000 in
theorem gX0_freeTooth_X0_placesNear : GoodIn wsX0_freeTooth (va_wsS RX0 39 yX0_placesNear wsX0_placesNear) := goodIn_app (goodIn_of _ (by decide +kernel)) ggX0_freeTooth_X0_placesNear
set_option maxRecDepth 20000 in
theorem ggX0_freeTooth_X0_lineAt : GoodIn wsX0_freeTooth wsX0_lineAt := goodIn_r _ [12] (by decide +kernel) (by decide +kernel)
set_option maxRecDepth 20000 in
theorem gX0_freeTooth_X0_lineAt : GoodIn wsX0_freeTooth (va_wsS RX0 21 yX0_lineAt wsX0_lineAt) := goodIn_app (goodIn_of _ (by decide +kernel)) ggX0_freeTooth_X0_lineAt
set_option maxRecDepth 20000 in
theorem ggX0_freeTooth_J13_bitCount_95d88 : GoodIn wsX0_freeTooth wsJ13_bitCount_95d88 := goodIn_r _ [16, 17, 18, 19] (by decide +kernel) (by decide +kernel)
set_option maxRecDepth 20000 in
theorem gX0_freeTooth_J13_bitCount_95d88 : GoodIn wsX0_freeTooth (va_wsS RX0 33 yJ13_bitCount_95d88 wsJ13_bitCount_95d88) := goodIn_app (goodIn_of _ (by decide +kernel)) ggX0_freeTooth_J13_bitCount_95d88
theorem dX0_freeTooth_0 : decode cX0_freeTooth 0 = .ok (.iload 4, 2) := by decide +kernel
theorem dX0_freeTooth_2 : decode cX0_freeTooth 2 = .ok (.invokestatic 39, 3) := by decide +kernel
theorem dX0_freeTooth_5 : decode cX0_freeTooth 5 = .ok (.lstore 5, 2) := by decide +kernel
theorem dX0_freeTooth_7 : decode cX0_freeTooth 7 = .ok (.iconst (-1), 1) := by decide +kernel
theorem dX0_freeTooth_8 : decode cX0_freeTooth 8 = .ok (.istore 7, 2) := by decide +kernel
theorem dX0_freeTooth_10 : decode cX0_freeTooth 10 = .ok (.bipush 64, 2) := by decide +kernel
theorem dX0_freeTooth_12 : decode cX0_freeTooth 12 = .ok (.istore 8, 2) := by decide +kernel
theorem dX0_freeTooth_14 : decode cX0_freeTooth 14 = .ok (.iconst 0, 1) := by decide +kernel
theorem dX0_freeTooth_15 : decode cX0_freeTooth 15 = .ok (.istore 9, 2) := by decide +kernel
theorem dX0_freeTooth_17 : decode cX0_freeTooth 17 = .ok (.iload 9, 2) := by decide +kernel
theorem dX0_freeTooth_19 : decode cX0_freeTooth 19 = .ok (.aload_n 1, 1) := by decide +kernel
theorem dX0_freeTooth_20 : decode cX0_freeTooth 20 = .ok (.getfield 43, 3) := by decide +kernel
theorem dX0_freeTooth_23 : decode cX0_freeTooth 23 = .ok (.if_icmp .ge 75, 3) := by decide +kernel
theorem dX0_freeTooth_26 : decode cX0_freeTooth 26 = .ok (.aload_n 1, 1) := by decide +kernel
theorem dX0_freeTooth_27 : decode cX0_freeTooth 27 = .ok (.getfield 49, 3) := by decide +kernel
theorem dX0_freeTooth_30 : decode cX0_freeTooth 30 = .ok (.iload 9, 2) := by decide +kernel
theorem dX0_freeTooth_32 : decode cX0_freeTooth 32 = .ok (.iaload, 1) := by decide +kernel
theorem dX0_freeTooth_33 : decode cX0_freeTooth 33 = .ok (.iload_n 3, 1) := by decide +kernel
theorem dX0_freeTooth_34 : decode cX0_freeTooth 34 = .ok (.if_icmp .ne 58, 3) := by decide +kernel
theorem dX0_freeTooth_37 : decode cX0_freeTooth 37 = .ok (.aload_n 1, 1) := by decide +kernel
theorem dX0_freeTooth_38 : decode cX0_freeTooth 38 = .ok (.getfield 52, 3) := by decide +kernel
theorem dX0_freeTooth_41 : decode cX0_freeTooth 41 = .ok (.iload 9, 2) := by decide +kernel
theorem dX0_freeTooth_43 : decode cX0_freeTooth 43 = .ok (.baload, 1) := by decide +kernel
theorem dX0_freeTooth_44 : decode cX0_freeTooth 44 = .ok (.ifCond .ne 48, 3) := by decide +kernel
theorem dX0_freeTooth_47 : decode cX0_freeTooth 47 = .ok (.aload_n 0, 1) := by decide +kernel
theorem dX0_freeTooth_48 : decode cX0_freeTooth 48 = .ok (.getfield 9, 3) := by decide +kernel
theorem dX0_freeTooth_51 : decode cX0_freeTooth 51 = .ok (.iload 9, 2) := by decide +kernel
theorem dX0_freeTooth_53 : decode cX0_freeTooth 53 = .ok (.iload_n 2, 1) := by decide +kernel
theorem dX0_freeTooth_54 : decode cX0_freeTooth 54 = .ok (.invokestatic 21, 3) := by decide +kernel
theorem dX0_freeTooth_57 : decode cX0_freeTooth 57 = .ok (.laload, 1) := by decide +kernel
theorem dX0_freeTooth_58 : decode cX0_freeTooth 58 = .ok (.lstore 10, 2) := by decide +kernel
theorem dX0_freeTooth_60 : decode cX0_freeTooth 60 = .ok (.lload 10, 2) := by decide +kernel
theorem dX0_freeTooth_62 : decode cX0_freeTooth 62 = .ok (.invokestatic 33, 3) := by decide +kernel
theorem dX0_freeTooth_65 : decode cX0_freeTooth 65 = .ok (.istore 12, 2) := by decide +kernel
theorem dX0_freeTooth_67 : decode cX0_freeTooth 67 = .ok (.lload 10, 2) := by decide +kernel
theorem dX0_freeTooth_69 : decode cX0_freeTooth 69 = .ok (.lload 5, 2) := by decide +kernel
theorem dX0_freeTooth_71 : decode cX0_freeTooth 71 = .ok (.land, 1) := by decide +kernel
theorem dX0_freeTooth_72 : decode cX0_freeTooth 72 = .ok (.lconst 0, 1) := by decide +kernel
theorem dX0_freeTooth_73 : decode cX0_freeTooth 73 = .ok (.lcmp, 1) := by decide +kernel
theorem dX0_freeTooth_74 : decode cX0_freeTooth 74 = .ok (.ifCond .ne 18, 3) := by decide +kernel
theorem dX0_freeTooth_77 : decode cX0_freeTooth 77 = .ok (.iload 12, 2) := by decide +kernel
theorem dX0_freeTooth_79 : decode cX0_freeTooth 79 = .ok (.iload 8, 2) := by decide +kernel
theorem dX0_freeTooth_81 : decode cX0_freeTooth 81 = .ok (.if_icmp .ge 11, 3) := by decide +kernel
theorem dX0_freeTooth_84 : decode cX0_freeTooth 84 = .ok (.iload 9, 2) := by decide +kernel
theorem dX0_freeTooth_86 : decode cX0_freeTooth 86 = .ok (.istore 7, 2) := by decide +kernel
theorem dX0_freeTooth_88 : decode cX0_freeTooth 88 = .ok (.iload 12, 2) := by decide +kernel
theorem dX0_freeTooth_90 : decode cX0_freeTooth 90 = .ok (.istore 8, 2) := by decide +kernel
theorem dX0_freeTooth_92 : decode cX0_freeTooth 92 = .ok (.iinc 9 1, 3) := by decide +kernel
theorem dX0_freeTooth_95 : decode cX0_freeTooth 95 = .ok (.goto (-78), 3) := by decide +kernel
theorem dX0_freeTooth_98 : decode cX0_freeTooth 98 = .ok (.iload 7, 2) := by decide +kernel
theorem dX0_freeTooth_100 : decode cX0_freeTooth 100 = .ok (.ireturn, 1) := by decide +kernel
set_option maxRecDepth 20000 in
theorem ggX0_pullFrom_X0_hasPin : GoodIn wsX0_pullFrom wsX0_hasPin := goodIn_r _ [7, 1, 8, 9, 6, 10, 19, 20] (by decide +kernel) (by decide +kernel)
set_option maxRecDepth 20000 in
theorem gX0_pullFrom_X0_hasPin : GoodIn wsX0_pullFrom (wsV RX0 56 RX0 yX0_hasPin wsX0_hasPin) := goodIn_app (goodIn_of _ (by decide +kernel)) ggX0_pullFrom_X0_hasPin
set_option maxRecDepth 20000 in
theorem ggX0_pullFrom_X0_wearOf : GoodIn wsX0_pullFrom wsX0_wearOf := goodIn_r _ [14, 15, 16, 17, 6, 18, 19, 20] (by decide +kernel) (by decide +kernel)
set_option maxRecDepth 20000 in
theorem gX0_pullFrom_X0_wearOf : GoodIn wsX0_pullFrom (wsV RX0 60 RX0 yX0_wearOf wsX0_wearOf) := goodIn_app (goodIn_of _ (by decide +kernel)) ggX0_pullFrom_X0_wearOf
set_option maxRecDepth 20000 in
theorem ggX0_pullFrom_X0_lineAt : GoodIn wsX0_pullFrom wsX0_lineAt := goodIn_r _ [10] (by decide +kernel) (by decide +kernel)
set_option maxRecDepth 20000 in
theorem gX0_pullFrom_X0_lineAt : GoodIn wsX0_pullFrom (va_wsS RX0 21 yX0_lineAt wsX0_lineAt) := goodIn_app (goodIn_of _ (by decide +kernel)) ggX0_pullFrom_X0_lineAt
theorem dX0_pullFrom_0 : decode cX0_pullFrom 0 = .ok (.iconst 0, 1) := by decide +kernel
theorem dX0_pullFrom_1 : decode cX0_pullFrom 1 = .ok (.istore 4, 2) := by decide +kernel
theorem dX0_pullFrom_3 : decode cX0_pullFrom 3 = .ok (.iconst 0, 1) := by decide +kernel
theorem dX0_pullFrom_4 : decode cX0_pullFrom 4 = .ok (.istore 5, 2) := by decide +kernel
theorem dX0_pullFrom_6 : decode cX0_pullFrom 6 = .ok (.iload 5, 2) := by decide +kernel
theorem dX0_pullFrom_8 : decode cX0_pullFrom 8 = .ok (.bipush 64, 2) := by decide +kernel
theorem dX0_pullFrom_10 : decode cX0_pullFrom 10 = .ok (.if_icmp .ge 56, 3) := by decide +kernel
theorem dX0_pullFrom_13 : decode cX0_pullFrom 13 = .ok (.aload_n 0, 1) := by decide +kernel
theorem dX0_pullFrom_14 : decode cX0_pullFrom 14 = .ok (.iload_n 1, 1) := by decide +kernel
theorem dX0_pullFrom_15 : decode cX0_pullFrom 15 = .ok (.iload_n 2, 1) := by decide +kernel
theorem dX0_pullFrom_16 : decode cX0_pullFrom 16 = .ok (.iload 5, 2) := by decide +kernel
theorem dX0_pullFrom_18 : decode cX0_pullFrom 18 = .ok (.invokevirtual 56, 3) := by decide +kernel
theorem dX0_pullFrom_21 : decode cX0_pullFrom 21 = .ok (.ifCond .eq 39, 3) := by decide +kernel
theorem dX0_pullFrom_24 : decode cX0_pullFrom 24 = .ok (.aload_n 0, 1) := by decide +kernel
theorem dX0_pullFrom_25 : decode cX0_pullFrom 25 = .ok (.iload_n 1, 1) := by decide +kernel
theorem dX0_pullFrom_26 : decode cX0_pullFrom 26 = .ok (.iload_n 2, 1) := by decide +kernel
theorem dX0_pullFrom_27 : decode cX0_pullFrom 27 = .ok (.iload 5, 2) := by decide +kernel
theorem dX0_pullFrom_29 : decode cX0_pullFrom 29 = .ok (.invokevirtual 60, 3) := by decide +kernel
theorem dX0_pullFrom_32 : decode cX0_pullFrom 32 = .ok (.iload_n 3, 1) := by decide +kernel
theorem dX0_pullFrom_33 : decode cX0_pullFrom 33 = .ok (.if_icmp .lt 27, 3) := by decide +kernel
theorem dX0_pullFrom_36 : decode cX0_pullFrom 36 = .ok (.aload_n 0, 1) := by decide +kernel
theorem dX0_pullFrom_37 : decode cX0_pullFrom 37 = .ok (.getfield 9, 3) := by decide +kernel
theorem dX0_pullFrom_40 : decode cX0_pullFrom 40 = .ok (.iload_n 1, 1) := by decide +kernel
theorem dX0_pullFrom_41 : decode cX0_pullFrom 41 = .ok (.iload_n 2, 1) := by decide +kernel
theorem dX0_pullFrom_42 : decode cX0_pullFrom 42 = .ok (.invokestatic 21, 3) := by decide +kernel
theorem dX0_pullFrom_45 : decode cX0_pullFrom 45 = .ok (.dup2, 1) := by decide +kernel
theorem dX0_pullFrom_46 : decode cX0_pullFrom 46 = .ok (.laload, 1) := by decide +kernel
theorem dX0_pullFrom_47 : decode cX0_pullFrom 47 = .ok (.lconst 1, 1) := by decide +kernel
theorem dX0_pullFrom_48 : decode cX0_pullFrom 48 = .ok (.iload 5, 2) := by decide +kernel
theorem dX0_pullFrom_50 : decode cX0_pullFrom 50 = .ok (.lshl, 1) := by decide +kernel
theorem dX0_pullFrom_51 : decode cX0_pullFrom 51 = .ok (.ldc2_w 63, 3) := by decide +kernel
theorem dX0_pullFrom_54 : decode cX0_pullFrom 54 = .ok (.lxor, 1) := by decide +kernel
theorem dX0_pullFrom_55 : decode cX0_pullFrom 55 = .ok (.land, 1) := by decide +kernel
theorem dX0_pullFrom_56 : decode cX0_pullFrom 56 = .ok (.lastore, 1) := by decide +kernel
theorem dX0_pullFrom_57 : decode cX0_pullFrom 57 = .ok (.iinc 4 1, 3) := by decide +kernel
theorem dX0_pullFrom_60 : decode cX0_pullFrom 60 = .ok (.iinc 5 1, 3) := by decide +kernel
theorem dX0_pullFrom_63 : decode cX0_pullFrom 63 = .ok (.goto (-57), 3) := by decide +kernel
theorem dX0_pullFrom_66 : decode cX0_pullFrom 66 = .ok (.iload 4, 2) := by decide +kernel
theorem dX0_pullFrom_68 : decode cX0_pullFrom 68 = .ok (.ireturn, 1) := by decide +kernel
set_option maxRecDepth 20000 in
theorem ggX0_renewPins_X0_hasPin : GoodIn wsX0_renewPins wsX0_hasPin := goodIn_r _ [6, 7, 8, 9, 5, 10, 18, 19] (by decide +kernel) (by decide +kernel)
set_option maxRecDepth 20000 in
theorem gX0_renewPins_X0_hasPin : GoodIn wsX0_renewPins (wsV RX0 56 RX0 yX0_hasPin wsX0_hasPin) := goodIn_app (goodIn_of _ (by decide +kernel)) ggX0_renewPins_X0_hasPin
set_option maxRecDepth 20000 in
theorem ggX0_renewPins_X0_wearOf : GoodIn wsX0_renewPins wsX0_wearOf := goodIn_r _ [14, 1, 15, 16, 5, 17, 18, 19] (by decide +kernel) (by decide +kernel)
set_option maxRecDepth 20000 in
theorem gX0_renewPins_X0_wearOf : GoodIn wsX0_renewPins (wsV RX0 60 RX0 yX0_wearOf wsX0_wearOf) := goodIn_app (goodIn_of _ (by decide +kernel)) ggX0_renewPins_X0_wearOf
set_option maxRecDepth 20000 in
theorem ggX0_renewPins_X0_pinAt : GoodIn wsX0_renewPins wsX0_pinAt := goodIn_r _ [17] (by decide +kernel) (by decide +kernel)
set_option maxRecDepth 20000 in
theorem gX0_renewPins_X0_pinAt : GoodIn wsX0_renewPins (va_wsS RX0 25 yX0_pinAt wsX0_pinAt) := goodIn_app (goodIn_of _ (by decide +kernel)) ggX0_renewPins_X0_pinAt
theorem dX0_renewPins_0 : decode cX0_renewPins 0 = .ok (.iconst 0, 1) := by decide +kernel
theorem dX0_renewPins_1 : decode cX0_renewPins 1 = .ok (.istore_n 3, 1) := by decide +kernel
theorem dX0_renewPins_2 : decode cX0_renewPins 2 = .ok (.iconst 0, 1) := by decide +kernel
theorem dX0_renewPins_3 : decode cX0_renewPins 3 = .ok (.istore 4, 2) := by decide +kernel
theorem dX0_renewPins_5 : decode cX0_renewPins 5 = .ok (.iload 4, 2) := by decide +kernel
theorem dX0_renewPins_7 : decode cX0_renewPins 7 = .ok (.bipush 64, 2) := by decide +kernel
theorem dX0_renewPins_9 : decode cX0_renewPins 9 = .ok (.if_icmp .ge 48, 3) := by decide +kernel
theorem dX0_renewPins_12 : decode cX0_renewPins 12 = .ok (.aload_n 0, 1) := by decide +kernel
theorem dX0_renewPins_13 : decode cX0_renewPins 13 = .ok (.iload_n 1, 1) := by decide +kernel
theorem dX0_renewPins_14 : decode cX0_renewPins 14 = .ok (.iload_n 2, 1) := by decide +kernel
theorem dX0_renewPins_15 : decode cX0_renewPins 15 = .ok (.iload 4, 2) := by decide +kernel
theorem dX0_renewPins_17 : decode cX0_renewPins 17 = .ok (.invokevirtual 56, 3) := by decide +kernel
theorem dX0_renewPins_20 : decode cX0_renewPins 20 = .ok (.ifCond .eq 31, 3) := by decide +kernel
theorem dX0_renewPins_23 : decode cX0_renewPins 23 = .ok (.aload_n 0, 1) := by decide +kernel
theorem dX0_renewPins_24 : decode cX0_renewPins 24 = .ok (.iload_n 1, 1) := by decide +kernel
theorem dX0_renewPins_25 : decode cX0_renewPins 25 = .ok (.iload_n 2, 1) := by decide +kernel
theorem dX0_renewPins_26 : decode cX0_renewPins 26 = .ok (.iload 4, 2) := by decide +kernel
theorem dX0_renewPins_28 : decode cX0_renewPins 28 = .ok (.invokevirtual 60, 3) := by decide +kernel
theorem dX0_renewPins_31 : decode cX0_renewPins 31 = .ok (.iconst 3, 1) := by decide +kernel
theorem dX0_renewPins_32 : decode cX0_renewPins 32 = .ok (.if_icmp .lt 19, 3) := by decide +kernel
theorem dX0_renewPins_35 : decode cX0_renewPins 35 = .ok (.aload_n 0, 1) := by decide +kernel
theorem dX0_renewPins_36 : decode cX0_renewPins 36 = .ok (.getfield 15, 3) := by decide +kernel
theorem dX0_renewPins_39 : decode cX0_renewPins 39 = .ok (.iload_n 1, 1) := by decide +kernel
theorem dX0_renewPins_40 : decode cX0_renewPins 40 = .ok (.iload_n 2, 1) := by decide +kernel
theorem dX0_renewPins_41 : decode cX0_renewPins 41 = .ok (.iload 4, 2) := by decide +kernel
theorem dX0_renewPins_43 : decode cX0_renewPins 43 = .ok (.invokestatic 25, 3) := by decide +kernel
theorem dX0_renewPins_46 : decode cX0_renewPins 46 = .ok (.iconst 0, 1) := by decide +kernel
theorem dX0_renewPins_47 : decode cX0_renewPins 47 = .ok (.iastore, 1) := by decide +kernel
theorem dX0_renewPins_48 : decode cX0_renewPins 48 = .ok (.iinc 3 1, 3) := by decide +kernel
theorem dX0_renewPins_51 : decode cX0_renewPins 51 = .ok (.iinc 4 1, 3) := by decide +kernel
theorem dX0_renewPins_54 : decode cX0_renewPins 54 = .ok (.goto (-49), 3) := by decide +kernel
theorem dX0_renewPins_57 : decode cX0_renewPins 57 = .ok (.iload_n 3, 1) := by decide +kernel
theorem dX0_renewPins_58 : decode cX0_renewPins 58 = .ok (.ireturn, 1) := by decide +kernel
set_option maxRecDepth 20000 in
theorem ggX0_wearDown_X0_pinAt : GoodIn wsX0_wearDown wsX0_pinAt := goodIn_r _ [7] (by decide +kernel) (by decide +kernel)
set_option maxRecDepth 20000 in
theorem gX0_wearDown_X0_pinAt : GoodIn wsX0_wearDown (va_wsS RX0 25 yX0_pinAt wsX0_pinAt) := goodIn_app (goodIn_of _ (by decide +kernel)) ggX0_wearDown_X0_pinAt
set_option maxRecDepth 20000 in
theorem ggX0_wearDown_X0_lineAt : GoodIn wsX0_wearDown wsX0_lineAt := goodIn_r _ [10] (by decide +kernel) (by decide +kernel)
set_option maxRecDepth 20000 in
theorem gX0_wearDown_X0_lineAt : GoodIn wsX0_wearDown (va_wsS RX0 21 yX0_lineAt wsX0_lineAt) := goodIn_app (goodIn_of _ (by decide +kernel)) ggX0_wearDown_X0_lineAt
theorem dX0_wearDown_0 : decode cX0_wearDown 0 = .ok (.iload_n 1, 1) := by decide +kernel
theorem dX0_wearDown_1 : decode cX0_wearDown 1 = .ok (.iload_n 2, 1) := by decide +kernel
theorem dX0_wearDown_2 : decode cX0_wearDown 2 = .ok (.iload_n 3, 1) := by decide +kernel
theorem dX0_wearDown_3 : decode cX0_wearDown 3 = .ok (.invokestatic 25, 3) := by decide +kernel
theorem dX0_wearDown_6 : decode cX0_wearDown 6 = .ok (.istore 4, 2) := by decide +kernel
theorem dX0_wearDown_8 : decode cX0_wearDown 8 = .ok (.aload_n 0, 1) := by decide +kernel
theorem dX0_wearDown_9 : decode cX0_wearDown 9 = .ok (.getfield 15, 3) := by decide +kernel
theorem dX0_wearDown_12 : decode cX0_wearDown 12 = .ok (.iload 4, 2) := by decide +kernel
theorem dX0_wearDown_14 : decode cX0_wearDown 14 = .ok (.dup2, 1) := by decide +kernel
theorem dX0_wearDown_15 : decode cX0_wearDown 15 = .ok (.iaload, 1) := by decide +kernel
theorem dX0_wearDown_16 : decode cX0_wearDown 16 = .ok (.iconst 1, 1) := by decide +kernel
theorem dX0_wearDown_17 : decode cX0_wearDown 17 = .ok (.iadd, 1) := by decide +kernel
theorem dX0_wearDown_18 : decode cX0_wearDown 18 = .ok (.iastore, 1) := by decide +kernel
theorem dX0_wearDown_19 : decode cX0_wearDown 19 = .ok (.aload_n 0, 1) := by decide +kernel
theorem dX0_wearDown_20 : decode cX0_wearDown 20 = .ok (.getfield 15, 3) := by decide +kernel
theorem dX0_wearDown_23 : decode cX0_wearDown 23 = .ok (.iload 4, 2) := by decide +kernel
theorem dX0_wearDown_25 : decode cX0_wearDown 25 = .ok (.iaload, 1) := by decide +kernel
theorem dX0_wearDown_26 : decode cX0_wearDown 26 = .ok (.iconst 5, 1) := by decide +kernel
theorem dX0_wearDown_27 : decode cX0_wearDown 27 = .ok (.if_icmp .ge 5, 3) := by decide +kernel
theorem dX0_wearDown_30 : decode cX0_wearDown 30 = .ok (.iconst 0, 1) := by decide +kernel
theorem dX0_wearDown_31 : decode cX0_wearDown 31 = .ok (.ireturn, 1) := by decide +kernel
theorem dX0_wearDown_32 : decode cX0_wearDown 32 = .ok (.aload_n 0, 1) := by decide +kernel
theorem dX0_wearDown_33 : decode cX0_wearDown 33 = .ok (.getfield 9, 3) := by decide +kernel
theorem dX0_wearDown_36 : decode cX0_wearDown 36 = .ok (.iload_n 1, 1) := by decide +kernel
theorem dX0_wearDown_37 : decode cX0_wearDown 37 = .ok (.iload_n 2, 1) := by decide +kernel
theorem dX0_wearDown_38 : decode cX0_wearDown 38 = .ok (.invokestatic 21, 3) := by decide +kernel
theorem dX0_wearDown_41 : decode cX0_wearDown 41 = .ok (.dup2, 1) := by decide +kernel
theorem dX0_wearDown_42 : decode cX0_wearDown 42 = .ok (.laload, 1) := by decide +kernel
theorem dX0_wearDown_43 : decode cX0_wearDown 43 = .ok (.lconst 1, 1) := by decide +kernel
theorem dX0_wearDown_44 : decode cX0_wearDown 44 = .ok (.iload_n 3, 1) := by decide +kernel
theorem dX0_wearDown_45 : decode cX0_wearDown 45 = .ok (.lshl, 1) := by decide +kernel
theorem dX0_wearDown_46 : decode cX0_wearDown 46 = .ok (.ldc2_w 63, 3) := by decide +kernel
theorem dX0_wearDown_49 : decode cX0_wearDown 49 = .ok (.lxor, 1) := by decide +kernel
theorem dX0_wearDown_50 : decode cX0_wearDown 50 = .ok (.land, 1) := by decide +kernel
theorem dX0_wearDown_51 : decode cX0_wearDown 51 = .ok (.lastore, 1) := by decide +kernel
theorem dX0_wearDown_52 : decode cX0_wearDown 52 = .ok (.iconst 1, 1) := by decide +kernel
theorem dX0_wearDown_53 : decode cX0_wearDown 53 = .ok (.ireturn, 1) := by decide +kernel
set_option maxRecDepth 20000 in
theorem ggX0_takePins_X0_lineAt : GoodIn wsX0_takePins wsX0_lineAt := goodIn_r _ [9] (by decide +kernel) (by decide +kernel)
set_option maxRecDepth 20000 in
theorem gX0_takePins_X0_lineAt : GoodIn wsX0_takePins (va_wsS RX0 21 yX0_lineAt wsX0_lineAt) := goodIn_app (goodIn_of _ (by decide +kernel)) ggX0_takePins_X0_lineAt
theorem dX0_takePins_0 : decode cX0_takePins 0 = .ok (.iconst 0, 1) := by decide +kernel
theorem dX0_takePins_1 : decode cX0_takePins 1 = .ok (.iload_n 2, 1) := by decide +kernel
theorem dX0_takePins_2 : decode cX0_takePins 2 = .ok (.invokestatic 21, 3) := by decide +kernel
theorem dX0_takePins_5 : decode cX0_takePins 5 = .ok (.istore_n 3, 1) := by decide +kernel
theorem dX0_takePins_6 : decode cX0_takePins 6 = .ok (.aload_n 1, 1) := by decide +kernel
theorem dX0_takePins_7 : decode cX0_takePins 7 = .ok (.getfield 9, 3) := by decide +kernel
theorem dX0_takePins_10 : decode cX0_takePins 10 = .ok (.iload_n 3, 1) := by decide +kernel
theorem dX0_takePins_11 : decode cX0_takePins 11 = .ok (.aload_n 0, 1) := by decide +kernel
theorem dX0_takePins_12 : decode cX0_takePins 12 = .ok (.getfield 9, 3) := by decide +kernel
theorem dX0_takePins_15 : decode cX0_takePins 15 = .ok (.iload_n 3, 1) := by decide +kernel
theorem dX0_takePins_16 : decode cX0_takePins 16 = .ok (.bipush 24, 2) := by decide +kernel
theorem dX0_takePins_18 : decode cX0_takePins 18 = .ok (.invokestatic 65, 3) := by decide +kernel
theorem dX0_takePins_21 : decode cX0_takePins 21 = .ok (.return_, 1) := by decide +kernel
set_option maxRecDepth 20000 in
theorem ggX0_takeWears_X0_pinAt : GoodIn wsX0_takeWears wsX0_pinAt := goodIn_r _ [9] (by decide +kernel) (by decide +kernel)
set_option maxRecDepth 20000 in
theorem gX0_takeWears_X0_pinAt : GoodIn wsX0_takeWears (va_wsS RX0 25 yX0_pinAt wsX0_pinAt) := goodIn_app (goodIn_of _ (by decide +kernel)) ggX0_takeWears_X0_pinAt
theorem dX0_takeWears_0 : decode cX0_takeWears 0 = .ok (.iconst 0, 1) := by decide +kernel
theorem dX0_takeWears_1 : decode cX0_takeWears 1 = .ok (.iload_n 2, 1) := by decide +kernel
theorem dX0_takeWears_2 : decode cX0_takeWears 2 = .ok (.iconst 0, 1) := by decide +kernel
theorem dX0_takeWears_3 : decode cX0_takeWears 3 = .ok (.invokestatic 25, 3) := by decide +kernel
theorem dX0_takeWears_6 : decode cX0_takeWears 6 = .ok (.istore_n 3, 1) := by decide +kernel
theorem dX0_takeWears_7 : decode cX0_takeWears 7 = .ok (.aload_n 1, 1) := by decide +kernel
theorem dX0_takeWears_8 : decode cX0_takeWears 8 = .ok (.getfield 15, 3) := by decide +kernel
theorem dX0_takeWears_11 : decode cX0_takeWears 11 = .ok (.iload_n 3, 1) := by decide +kernel
theorem dX0_takeWears_12 : decode cX0_takeWears 12 = .ok (.aload_n 0, 1) := by decide +kernel
theorem dX0_takeWears_13 : decode cX0_takeWears 13 = .ok (.getfield 15, 3) := by decide +kernel
theorem dX0_takeWears_16 : decode cX0_takeWears 16 = .ok (.iload_n 3, 1) := by decide +kernel
theorem dX0_takeWears_17 : decode cX0_takeWears 17 = .ok (.sipush 1536, 3) := by decide +kernel
theorem dX0_takeWears_20 : decode cX0_takeWears 20 = .ok (.invokestatic 65, 3) := by decide +kernel
theorem dX0_takeWears_23 : decode cX0_takeWears 23 = .ok (.return_, 1) := by decide +kernel
theorem dX1_init_0 : decode cX1_init 0 = .ok (.aload_n 0, 1) := by decide +kernel
theorem dX1_init_1 : decode cX1_init 1 = .ok (.invokespecial 3, 3) := by decide +kernel
theorem dX1_init_4 : decode cX1_init 4 = .ok (.aload_n 0, 1) := by decide +kernel
theorem dX1_init_5 : decode cX1_init 5 = .ok (.bipush 24, 2) := by decide +kernel
theorem dX1_init_7 : decode cX1_init 7 = .ok (.newarray .int, 2) := by decide +kernel
theorem dX1_init_9 : decode cX1_init 9 = .ok (.putfield 9, 3) := by decide +kernel
theorem dX1_init_12 : decode cX1_init 12 = .ok (.aload_n 0, 1) := by decide +kernel
theorem dX1_init_13 : decode cX1_init 13 = .ok (.bipush 24, 2) := by decide +kernel
theorem dX1_init_15 : decode cX1_init 15 = .ok (.newarray .boolean, 2) := by decide +kernel
theorem dX1_init_17 : decode cX1_init 17 = .ok (.putfield 15, 3) := by decide +kernel
theorem dX1_init_20 : decode cX1_init 20 = .ok (.aload_n 0, 1) := by decide +kernel
theorem dX1_init_21 : decode cX1_init 21 = .ok (.bipush 24, 2) := by decide +kernel
theorem dX1_init_23 : decode cX1_init 23 = .ok (.newarray .int, 2) := by decide +kernel
theorem dX1_init_25 : decode cX1_init 25 = .ok (.putfield 19, 3) := by decide +kernel
theorem dX1_init_28 : decode cX1_init 28 = .ok (.aload_n 0, 1) := by decide +kernel
theorem dX1_init_29 : decode cX1_init 29 = .ok (.bipush 24, 2) := by decide +kernel
theorem dX1_init_31 : decode cX1_init 31 = .ok (.newarray .int, 2) := by decide +kernel
theorem dX1_init_33 : decode cX1_init 33 = .ok (.putfield 22, 3) := by decide +kernel
theorem dX1_init_36 : decode cX1_init 36 = .ok (.aload_n 0, 1) := by decide +kernel
theorem dX1_init_37 : decode cX1_init 37 = .ok (.bipush 24, 2) := by decide +kernel
theorem dX1_init_39 : decode cX1_init 39 = .ok (.newarray .int, 2) := by decide +kernel
theorem dX1_init_41 : decode cX1_init 41 = .ok (.putfield 25, 3) := by decide +kernel
theorem dX1_init_44 : decode cX1_init 44 = .ok (.return_, 1) := by decide +kernel
theorem dX1_addTooth_0 : decode cX1_addTooth 0 = .ok (.aload_n 0, 1) := by decide +kernel
theorem dX1_addTooth_1 : decode cX1_addTooth 1 = .ok (.getfield 9, 3) := by decide +kernel
theorem dX1_addTooth_4 : decode cX1_addTooth 4 = .ok (.aload_n 0, 1) := by decide +kernel
theorem dX1_addTooth_5 : decode cX1_addTooth 5 = .ok (.getfield 28, 3) := by decide +kernel
theorem dX1_addTooth_8 : decode cX1_addTooth 8 = .ok (.iload_n 1, 1) := by decide +kernel
theorem dX1_addTooth_9 : decode cX1_addTooth 9 = .ok (.iastore, 1) := by decide +kernel
theorem dX1_addTooth_10 : decode cX1_addTooth 10 = .ok (.aload_n 0, 1) := by decide +kernel
theorem dX1_addTooth_11 : decode cX1_addTooth 11 = .ok (.dup, 1) := by decide +kernel
theorem dX1_addTooth_12 : decode cX1_addTooth 12 = .ok (.getfield 28, 3) := by decide +kernel
theorem dX1_addTooth_15 : decode cX1_addTooth 15 = .ok (.iconst 1, 1) := by decide +kernel
theorem dX1_addTooth_16 : decode cX1_addTooth 16 = .ok (.iadd, 1) := by decide +kernel
theorem dX1_addTooth_17 : decode cX1_addTooth 17 = .ok (.putfield 28, 3) := by decide +kernel
theorem dX1_addTooth_20 : decode cX1_addTooth 20 = .ok (.aload_n 0, 1) := by decide +kernel
theorem dX1_addTooth_21 : decode cX1_addTooth 21 = .ok (.getfield 28, 3) := by decide +kernel
theorem dX1_addTooth_24 : decode cX1_addTooth 24 = .ok (.iconst 1, 1) := by decide +kernel
theorem dX1_addTooth_25 : decode cX1_addTooth 25 = .ok (.isub, 1) := by decide +kernel
theorem dX1_addTooth_26 : decode cX1_addTooth 26 = .ok (.ireturn, 1) := by decide +kernel
theorem dX1_brokenTeeth_0 : decode cX1_brokenTeeth 0 = .ok (.iconst 0, 1) := by decide +kernel
theorem dX1_brokenTeeth_1 : decode cX1_brokenTeeth 1 = .ok (.istore_n 1, 1) := by decide +kernel
theorem dX1_brokenTeeth_2 : decode cX1_brokenTeeth 2 = .ok (.iconst 0, 1) := by decide +kernel
theorem dX1_brokenTeeth_3 : decode cX1_brokenTeeth 3 = .ok (.istore_n 2, 1) := by decide +kernel
theorem dX1_brokenTeeth_4 : decode cX1_brokenTeeth 4 = .ok (.iload_n 2, 1) := by decide +kernel
theorem dX1_brokenTeeth_5 : decode cX1_brokenTeeth 5 = .ok (.aload_n 0, 1) := by decide +kernel
theorem dX1_brokenTeeth_6 : decode cX1_brokenTeeth 6 = .ok (.getfield 28, 3) := by decide +kernel
theorem dX1_brokenTeeth_9 : decode cX1_brokenTeeth 9 = .ok (.if_icmp .ge 21, 3) := by decide +kernel
theorem dX1_brokenTeeth_12 : decode cX1_brokenTeeth 12 = .ok (.aload_n 0, 1) := by decide +kernel
theorem dX1_brokenTeeth_13 : decode cX1_brokenTeeth 13 = .ok (.getfield 15, 3) := by decide +kernel
theorem dX1_brokenTeeth_16 : decode cX1_brokenTeeth 16 = .ok (.iload_n 2, 1) := by decide +kernel
theorem dX1_brokenTeeth_17 : decode cX1_brokenTeeth 17 = .ok (.baload, 1) := by decide +kernel
theorem dX1_brokenTeeth_18 : decode cX1_brokenTeeth 18 = .ok (.ifCond .eq 6, 3) := by decide +kernel
theorem dX1_brokenTeeth_21 : decode cX1_brokenTeeth 21 = .ok (.iinc 1 1, 3) := by decide +kernel
theorem dX1_brokenTeeth_24 : decode cX1_brokenTeeth 24 = .ok (.iinc 2 1, 3) := by decide +kernel
theorem dX1_brokenTeeth_27 : decode cX1_brokenTeeth 27 = .ok (.goto (-23), 3) := by decide +kernel
theorem dX1_brokenTeeth_30 : decode cX1_brokenTeeth 30 = .ok (.iload_n 1, 1) := by decide +kernel
theorem dX1_brokenTeeth_31 : decode cX1_brokenTeeth 31 = .ok (.ireturn, 1) := by decide +kernel
theorem dX1_mendTooth_0 : decode cX1_mendTooth 0 = .ok (.aload_n 0, 1) := by decide +kernel
theorem dX1_mendTooth_1 : decode cX1_mendTooth 1 = .ok (.getfield 15, 3) := by decide +kernel
theorem dX1_mendTooth_4 : decode cX1_mendTooth 4 = .ok (.iload_n 1, 1) := by decide +kernel
theorem dX1_mendTooth_5 : decode cX1_mendTooth 5 = .ok (.baload, 1) := by decide +kernel
theorem dX1_mendTooth_6 : decode cX1_mendTooth 6 = .ok (.ifCond .eq 7, 3) := by decide +kernel
theorem dX1_mendTooth_9 : decode cX1_mendTooth 9 = .ok (.iconst 1, 1) := by decide +kernel
theorem dX1_mendTooth_10 : decode cX1_mendTooth 10 = .ok (.goto 4, 3) := by decide +kernel
theorem dX1_mendTooth_13 : decode cX1_mendTooth 13 = .ok (.iconst 0, 1) := by decide +kernel
theorem dX1_mendTooth_14 : decode cX1_mendTooth 14 = .ok (.istore_n 2, 1) := by decide +kernel
theorem dX1_mendTooth_15 : decode cX1_mendTooth 15 = .ok (.aload_n 0, 1) := by decide +kernel
theorem dX1_mendTooth_16 : decode cX1_mendTooth 16 = .ok (.getfield 15, 3) := by decide +kernel
theorem dX1_mendTooth_19 : decode cX1_mendTooth 19 = .ok (.iload_n 1, 1) := by decide +kernel
theorem dX1_mendTooth_20 : decode cX1_mendTooth 20 = .ok (.iconst 0, 1) := by decide +kernel
theorem dX1_mendTooth_21 : decode cX1_mendTooth 21 = .ok (.bastore, 1) := by decide +kernel
theorem dX1_mendTooth_22 : decode cX1_mendTooth 22 = .ok (.aload_n 0, 1) := by decide +kernel
theorem dX1_mendTooth_23 : decode cX1_mendTooth 23 = .ok (.getfield 19, 3) := by decide +kernel
theorem dX1_mendTooth_26 : decode cX1_mendTooth 26 = .ok (.iload_n 1, 1) := by decide +kernel
theorem dX1_mendTooth_27 : decode cX1_mendTooth 27 = .ok (.iconst 0, 1) := by decide +kernel
theorem dX1_mendTooth_28 : decode cX1_mendTooth 28 = .ok (.iastore, 1) := by decide +kernel
theorem dX1_mendTooth_29 : decode cX1_mendTooth 29 = .ok (.iload_n 2, 1) := by decide +kernel
theorem dX1_mendTooth_30 : decode cX1_mendTooth 30 = .ok (.ireturn, 1) := by decide +kernel
theorem dX1_pluckTooth_0 : decode cX1_pluckTooth 0 = .ok (.aload_n 0, 1) := by decide +kernel
theorem dX1_pluckTooth_1 : decode cX1_pluckTooth 1 = .ok (.getfield 22, 3) := by decide +kernel
theorem dX1_pluckTooth_4 : decode cX1_pluckTooth 4 = .ok (.iload_n 1, 1) := by decide +kernel
theorem dX1_pluckTooth_5 : decode cX1_pluckTooth 5 = .ok (.iaload, 1) := by decide +kernel
theorem dX1_pluckTooth_6 : decode cX1_pluckTooth 6 = .ok (.ifCond .le 20, 3) := by decide +kernel
theorem dX1_pluckTooth_9 : decode cX1_pluckTooth 9 = .ok (.iload_n 2, 1) := by decide +kernel
theorem dX1_pluckTooth_10 : decode cX1_pluckTooth 10 = .ok (.aload_n 0, 1) := by decide +kernel
theorem dX1_pluckTooth_11 : decode cX1_pluckTooth 11 = .ok (.getfield 25, 3) := by decide +kernel
theorem dX1_pluckTooth_14 : decode cX1_pluckTooth 14 = .ok (.iload_n 1, 1) := by decide +kernel
theorem dX1_pluckTooth_15 : decode cX1_pluckTooth 15 = .ok (.iaload, 1) := by decide +kernel
theorem dX1_pluckTooth_16 : decode cX1_pluckTooth 16 = .ok (.isub, 1) := by decide +kernel
theorem dX1_pluckTooth_17 : decode cX1_pluckTooth 17 = .ok (.bipush 8, 2) := by decide +kernel
theorem dX1_pluckTooth_19 : decode cX1_pluckTooth 19 = .ok (.if_icmp .ge 7, 3) := by decide +kernel
theorem dX1_pluckTooth_22 : decode cX1_pluckTooth 22 = .ok (.iconst 1, 1) := by decide +kernel
theorem dX1_pluckTooth_23 : decode cX1_pluckTooth 23 = .ok (.goto 4, 3) := by decide +kernel
theorem dX1_pluckTooth_26 : decode cX1_pluckTooth 26 = .ok (.iconst 0, 1) := by decide +kernel
theorem dX1_pluckTooth_27 : decode cX1_pluckTooth 27 = .ok (.istore_n 3, 1) := by decide +kernel
theorem dX1_pluckTooth_28 : decode cX1_pluckTooth 28 = .ok (.aload_n 0, 1) := by decide +kernel
theorem dX1_pluckTooth_29 : decode cX1_pluckTooth 29 = .ok (.getfield 22, 3) := by decide +kernel
theorem dX1_pluckTooth_32 : decode cX1_pluckTooth 32 = .ok (.iload_n 1, 1) := by decide +kernel
theorem dX1_pluckTooth_33 : decode cX1_pluckTooth 33 = .ok (.dup2, 1) := by decide +kernel
theorem dX1_pluckTooth_34 : decode cX1_pluckTooth 34 = .ok (.iaload, 1) := by decide +kernel
theorem dX1_pluckTooth_35 : decode cX1_pluckTooth 35 = .ok (.iconst 1, 1) := by decide +kernel
theorem dX1_pluckTooth_36 : decode cX1_pluckTooth 36 = .ok (.iadd, 1) := by decide +kernel
theorem dX1_pluckTooth_37 : decode cX1_pluckTooth 37 = .ok (.iastore, 1) := by decide +kernel
theorem dX1_pluckTooth_38 : decode cX1_pluckTooth 38 = .ok (.aload_n 0, 1) := by decide +kernel
theorem dX1_pluckTooth_39 : decode cX1_pluckTooth 39 = .ok (.getfield 25, 3) := by decide +kernel
theorem dX1_pluckTooth_42 : decode cX1_pluckTooth 42 = .ok (.iload_n 1, 1) := by decide +kernel
theorem dX1_pluckTooth_43 : decode cX1_pluckTooth 43 = .ok (.iload_n 2, 1) := by decide +kernel
theorem dX1_pluckTooth_44 : decode cX1_pluckTooth 44 = .ok (.iastore, 1) := by decide +kernel
theorem dX1_pluckTooth_45 : decode cX1_pluckTooth 45 = .ok (.iload_n 3, 1) := by decide +kernel
theorem dX1_pluckTooth_46 : decode cX1_pluckTooth 46 = .ok (.ifCond .eq 34, 3) := by decide +kernel
theorem dX1_pluckTooth_49 : decode cX1_pluckTooth 49 = .ok (.aload_n 0, 1) := by decide +kernel
theorem dX1_pluckTooth_50 : decode cX1_pluckTooth 50 = .ok (.getfield 19, 3) := by decide +kernel
theorem dX1_pluckTooth_53 : decode cX1_pluckTooth 53 = .ok (.iload_n 1, 1) := by decide +kernel
theorem dX1_pluckTooth_54 : decode cX1_pluckTooth 54 = .ok (.dup2, 1) := by decide +kernel
theorem dX1_pluckTooth_55 : decode cX1_pluckTooth 55 = .ok (.iaload, 1) := by decide +kernel
theorem dX1_pluckTooth_56 : decode cX1_pluckTooth 56 = .ok (.iconst 1, 1) := by decide +kernel
theorem dX1_pluckTooth_57 : decode cX1_pluckTooth 57 = .ok (.iadd, 1) := by decide +kernel
theorem dX1_pluckTooth_58 : decode cX1_pluckTooth 58 = .ok (.iastore, 1) := by decide +kernel
theorem dX1_pluckTooth_59 : decode cX1_pluckTooth 59 = .ok (.aload_n 0, 1) := by decide +kernel
theorem dX1_pluckTooth_60 : decode cX1_pluckTooth 60 = .ok (.getfield 15, 3) := by decide +kernel
theorem dX1_pluckTooth_63 : decode cX1_pluckTooth 63 = .ok (.iload_n 1, 1) := by decide +kernel
theorem dX1_pluckTooth_64 : decode cX1_pluckTooth 64 = .ok (.aload_n 0, 1) := by decide +kernel
theorem dX1_pluckTooth_65 : decode cX1_pluckTooth 65 = .ok (.getfield 19, 3) := by decide +kernel
theorem dX1_pluckTooth_68 : decode cX1_pluckTooth 68 = .ok (.iload_n 1, 1) := by decide +kernel
theorem dX1_pluckTooth_69 : decode cX1_pluckTooth 69 = .ok (.iaload, 1) := by decide +kernel
theorem dX1_pluckTooth_70 : decode cX1_pluckTooth 70 = .ok (.iconst 4, 1) := by decide +kernel
theorem dX1_pluckTooth_71 : decode cX1_pluckTooth 71 = .ok (.if_icmp .lt 7, 3) := by decide +kernel
theorem dX1_pluckTooth_74 : decode cX1_pluckTooth 74 = .ok (.iconst 1, 1) := by decide +kernel
theorem dX1_pluckTooth_75 : decode cX1_pluckTooth 75 = .ok (.goto 4, 3) := by decide +kernel
theorem dX1_pluckTooth_78 : decode cX1_pluckTooth 78 = .ok (.iconst 0, 1) := by decide +kernel
theorem dX1_pluckTooth_79 : decode cX1_pluckTooth 79 = .ok (.bastore, 1) := by decide +kernel
theorem dX1_pluckTooth_80 : decode cX1_pluckTooth 80 = .ok (.iload_n 3, 1) := by decide +kernel
theorem dX1_pluckTooth_81 : decode cX1_pluckTooth 81 = .ok (.ireturn, 1) := by decide +kernel
theorem dX1_takeTeeth_0 : decode cX1_takeTeeth 0 = .ok (.aload_n 0, 1) := by decide +kernel
theorem dX1_takeTeeth_1 : decode cX1_takeTeeth 1 = .ok (.aload_n 1, 1) := by decide +kernel
theorem dX1_takeTeeth_2 : decode cX1_takeTeeth 2 = .ok (.getfield 28, 3) := by decide +kernel
theorem dX1_takeTeeth_5 : decode cX1_takeTeeth 5 = .ok (.putfield 28, 3) := by decide +kernel
theorem dX1_takeTeeth_8 : decode cX1_takeTeeth 8 = .ok (.iconst 0, 1) := by decide +kernel
theorem dX1_takeTeeth_9 : decode cX1_takeTeeth 9 = .ok (.istore_n 2, 1) := by decide +kernel
theorem dX1_takeTeeth_10 : decode cX1_takeTeeth 10 = .ok (.iload_n 2, 1) := by decide +kernel
theorem dX1_takeTeeth_11 : decode cX1_takeTeeth 11 = .ok (.aload_n 0, 1) := by decide +kernel
theorem dX1_takeTeeth_12 : decode cX1_takeTeeth 12 = .ok (.getfield 28, 3) := by decide +kernel
theorem dX1_takeTeeth_15 : decode cX1_takeTeeth 15 = .ok (.if_icmp .ge 69, 3) := by decide +kernel
theorem dX1_takeTeeth_18 : decode cX1_takeTeeth 18 = .ok (.aload_n 0, 1) := by decide +kernel
theorem dX1_takeTeeth_19 : decode cX1_takeTeeth 19 = .ok (.getfield 9, 3) := by decide +kernel
theorem dX1_takeTeeth_22 : decode cX1_takeTeeth 22 = .ok (.iload_n 2, 1) := by decide +kernel
theorem dX1_takeTeeth_23 : decode cX1_takeTeeth 23 = .ok (.aload_n 1, 1) := by decide +kernel
theorem dX1_takeTeeth_24 : decode cX1_takeTeeth 24 = .ok (.getfield 9, 3) := by decide +kernel
theorem dX1_takeTeeth_27 : decode cX1_takeTeeth 27 = .ok (.iload_n 2, 1) := by decide +kernel
theorem dX1_takeTeeth_28 : decode cX1_takeTeeth 28 = .ok (.iaload, 1) := by decide +kernel
theorem dX1_takeTeeth_29 : decode cX1_takeTeeth 29 = .ok (.iastore, 1) := by decide +kernel
theorem dX1_takeTeeth_30 : decode cX1_takeTeeth 30 = .ok (.aload_n 0, 1) := by decide +kernel
theorem dX1_takeTeeth_31 : decode cX1_takeTeeth 31 = .ok (.getfield 15, 3) := by decide +kernel
theorem dX1_takeTeeth_34 : decode cX1_takeTeeth 34 = .ok (.iload_n 2, 1) := by decide +kernel
theorem dX1_takeTeeth_35 : decode cX1_takeTeeth 35 = .ok (.aload_n 1, 1) := by decide +kernel
theorem dX1_takeTeeth_36 : decode cX1_takeTeeth 36 = .ok (.getfield 15, 3) := by decide +kernel
theorem dX1_takeTeeth_39 : decode cX1_takeTeeth 39 = .ok (.iload_n 2, 1) := by decide +kernel
theorem dX1_takeTeeth_40 : decode cX1_takeTeeth 40 = .ok (.baload, 1) := by decide +kernel
theorem dX1_takeTeeth_41 : decode cX1_takeTeeth 41 = .ok (.bastore, 1) := by decide +kernel
theorem dX1_takeTeeth_42 : decode cX1_takeTeeth 42 = .ok (.aload_n 0, 1) := by decide +kernel
theorem dX1_takeTeeth_43 : decode cX1_takeTeeth 43 = .ok (.getfield 19, 3) := by decide +kernel
theorem dX1_takeTeeth_46 : decode cX1_takeTeeth 46 = .ok (.iload_n 2, 1) := by decide +kernel
theorem dX1_takeTeeth_47 : decode cX1_takeTeeth 47 = .ok (.aload_n 1, 1) := by decide +kernel
theorem dX1_takeTeeth_48 : decode cX1_takeTeeth 48 = .ok (.getfield 19, 3) := by decide +kernel
theorem dX1_takeTeeth_51 : decode cX1_takeTeeth 51 = .ok (.iload_n 2, 1) := by decide +kernel
theorem dX1_takeTeeth_52 : decode cX1_takeTeeth 52 = .ok (.iaload, 1) := by decide +kernel
theorem dX1_takeTeeth_53 : decode cX1_takeTeeth 53 = .ok (.iastore, 1) := by decide +kernel
theorem dX1_takeTeeth_54 : decode cX1_takeTeeth 54 = .ok (.aload_n 0, 1) := by decide +kernel
theorem dX1_takeTeeth_55 : decode cX1_takeTeeth 55 = .ok (.getfield 22, 3) := by decide +kernel
theorem dX1_takeTeeth_58 : decode cX1_takeTeeth 58 = .ok (.iload_n 2, 1) := by decide +kernel
theorem dX1_takeTeeth_59 : decode cX1_takeTeeth 59 = .ok (.aload_n 1, 1) := by decide +kernel
theorem dX1_takeTeeth_60 : decode cX1_takeTeeth 60 = .ok (.getfield 22, 3) := by decide +kernel
theorem dX1_takeTeeth_63 : decode cX1_takeTeeth 63 = .ok (.iload_n 2, 1) := by decide +kernel
theorem dX1_takeTeeth_64 : decode cX1_takeTeeth 64 = .ok (.iaload, 1) := by decide +kernel
theorem dX1_takeTeeth_65 : decode cX1_takeTeeth 65 = .ok (.iastore, 1) := by decide +kernel
theorem dX1_takeTeeth_66 : decode cX1_takeTeeth 66 = .ok (.aload_n 0, 1) := by decide +kernel
theorem dX1_takeTeeth_67 : decode cX1_takeTeeth 67 = .ok (.getfield 25, 3) := by decide +kernel
theorem dX1_takeTeeth_70 : decode cX1_takeTeeth 70 = .ok (.iload_n 2, 1) := by decide +kernel
theorem dX1_takeTeeth_71 : decode cX1_takeTeeth 71 = .ok (.aload_n 1, 1) := by decide +kernel
theorem dX1_takeTeeth_72 : decode cX1_takeTeeth 72 = .ok (.getfield 25, 3) := by decide +kernel
theorem dX1_takeTeeth_75 : decode cX1_takeTeeth 75 = .ok (.iload_n 2, 1) := by decide +kernel
theorem dX1_takeTeeth_76 : decode cX1_takeTeeth 76 = .ok (.iaload, 1) := by decide +kernel
theorem dX1_takeTeeth_77 : decode cX1_takeTeeth 77 = .ok (.iastore, 1) := by decide +kernel
theorem dX1_takeTeeth_78 : decode cX1_takeTeeth 78 = .ok (.iinc 2 1, 3) := by decide +kernel
theorem dX1_takeTeeth_81 : decode cX1_takeTeeth 81 = .ok (.goto (-71), 3) := by decide +kernel
theorem dX1_takeTeeth_84 : decode cX1_takeTeeth 84 = .ok (.return_, 1) := by decide +kernel
theorem dX2_init_0 : decode cX2_init 0 = .ok (.aload_n 0, 1) := by decide +kernel
theorem dX2_init_1 : decode cX2_init 1 = .ok (.invokespecial 3, 3) := by decide +kernel
theorem dX2_init_4 : decode cX2_init 4 = .ok (.aload_n 0, 1) := by decide +kernel
theorem dX2_init_5 : decode cX2_init 5 = .ok (.bipush 40, 2) := by decide +kernel
theorem dX2_init_7 : decode cX2_init 7 = .ok (.newarray .int, 2) := by decide +kernel
theorem dX2_init_9 : decode cX2_init 9 = .ok (.putfield 9, 3) := by decide +kernel
theorem dX2_init_12 : decode cX2_init 12 = .ok (.aload_n 0, 1) := by decide +kernel
theorem dX2_init_13 : decode cX2_init 13 = .ok (.bipush 40, 2) := by decide +kernel
theorem dX2_init_15 : decode cX2_init 15 = .ok (.newarray .double, 2) := by decide +kernel
theorem dX2_init_17 : decode cX2_init 17 = .ok (.putfield 15, 3) := by decide +kernel
theorem dX2_init_20 : decode cX2_init 20 = .ok (.return_, 1) := by decide +kernel
theorem dX2_roomOf_0 : decode cX2_roomOf 0 = .ok (.aload_n 0, 1) := by decide +kernel
theorem dX2_roomOf_1 : decode cX2_roomOf 1 = .ok (.getfield 19, 3) := by decide +kernel
theorem dX2_roomOf_4 : decode cX2_roomOf 4 = .ok (.iload_n 1, 1) := by decide +kernel
theorem dX2_roomOf_5 : decode cX2_roomOf 5 = .ok (.iadd, 1) := by decide +kernel
theorem dX2_roomOf_6 : decode cX2_roomOf 6 = .ok (.bipush 40, 2) := by decide +kernel
theorem dX2_roomOf_8 : decode cX2_roomOf 8 = .ok (.irem, 1) := by decide +kernel
theorem dX2_roomOf_9 : decode cX2_roomOf 9 = .ok (.ireturn, 1) := by decide +kernel
set_option maxRecDepth 20000 in
theorem ggX2_pitchOf_X2_roomOf : GoodIn wsX2_pitchOf wsX2_roomOf := goodIn_r _ [6, 7, 8, 9, 10, 11, 12] (by decide +kernel) (by decide +kernel)
set_option maxRecDepth 20000 in
theorem gX2_pitchOf_X2_roomOf : GoodIn wsX2_pitchOf (wsV RX2 23 RX2 yX2_roomOf wsX2_roomOf) := goodIn_app (goodIn_of _ (by decide +kernel)) ggX2_pitchOf_X2_roomOf
theorem dX2_pitchOf_0 : decode cX2_pitchOf 0 = .ok (.aload_n 0, 1) := by decide +kernel
theorem dX2_pitchOf_1 : decode cX2_pitchOf 1 = .ok (.getfield 9, 3) := by decide +kernel
theorem dX2_pitchOf_4 : decode cX2_pitchOf 4 = .ok (.aload_n 0, 1) := by decide +kernel
theorem dX2_pitchOf_5 : decode cX2_pitchOf 5 = .ok (.iload_n 1, 1) := by decide +kernel
theorem dX2_pitchOf_6 : decode cX2_pitchOf 6 = .ok (.invokevirtual 23, 3) := by decide +kernel
theorem dX2_pitchOf_9 : decode cX2_pitchOf 9 = .ok (.iaload, 1) := by decide +kernel
theorem dX2_pitchOf_10 : decode cX2_pitchOf 10 = .ok (.ireturn, 1) := by decide +kernel
set_option maxRecDepth 20000 in
theorem ggX2_clockOf_X2_roomOf : GoodIn wsX2_clockOf wsX2_roomOf := goodIn_r _ [6, 7, 8, 9, 10, 11, 12] (by decide +kernel) (by decide +kernel)
set_option maxRecDepth 20000 in
theorem gX2_clockOf_X2_roomOf : GoodIn wsX2_clockOf (wsV RX2 23 RX2 yX2_roomOf wsX2_roomOf) := goodIn_app (goodIn_of _ (by decide +kernel)) ggX2_clockOf_X2_roomOf
theorem dX2_clockOf_0 : decode cX2_clockOf 0 = .ok (.aload_n 0, 1) := by decide +kernel
theorem dX2_clockOf_1 : decode cX2_clockOf 1 = .ok (.getfield 15, 3) := by decide +kernel
theorem dX2_clockOf_4 : decode cX2_clockOf 4 = .ok (.aload_n 0, 1) := by decide +kernel
theorem dX2_clockOf_5 : decode cX2_clockOf 5 = .ok (.iload_n 1, 1) := by decide +kernel
theorem dX2_clockOf_6 : decode cX2_clockOf 6 = .ok (.invokevirtual 23, 3) := by decide +kernel
theorem dX2_clockOf_9 : decode cX2_clockOf 9 = .ok (.daload, 1) := by decide +kernel
theorem dX2_clockOf_10 : decode cX2_clockOf 10 = .ok (.dreturn, 1) := by decide +kernel
set_option maxRecDepth 20000 in
theorem ggX2_addSound_X2_roomOf : GoodIn wsX2_addSound wsX2_roomOf := goodIn_r _ [10, 5, 11, 12, 13, 14, 15] (by decide +kernel) (by decide +kernel)
set_option maxRecDepth 20000 in
theorem gX2_addSound_X2_roomOf : GoodIn wsX2_addSound (wsV RX2 23 RX2 yX2_roomOf wsX2_roomOf) := goodIn_app (goodIn_of _ (by decide +kernel)) ggX2_addSound_X2_roomOf
theorem dX2_addSound_0 : decode cX2_addSound 0 = .ok (.aload_n 0, 1) := by decide +kernel
theorem dX2_addSound_1 : decode cX2_addSound 1 = .ok (.aload_n 0, 1) := by decide +kernel
theorem dX2_addSound_2 : decode cX2_addSound 2 = .ok (.getfield 27, 3) := by decide +kernel
theorem dX2_addSound_5 : decode cX2_addSound 5 = .ok (.invokevirtual 23, 3) := by decide +kernel
theorem dX2_addSound_8 : decode cX2_addSound 8 = .ok (.istore 4, 2) := by decide +kernel
theorem dX2_addSound_10 : decode cX2_addSound 10 = .ok (.aload_n 0, 1) := by decide +kernel
theorem dX2_addSound_11 : decode cX2_addSound 11 = .ok (.getfield 9, 3) := by decide +kernel
theorem dX2_addSound_14 : decode cX2_addSound 14 = .ok (.iload 4, 2) := by decide +kernel
theorem dX2_addSound_16 : decode cX2_addSound 16 = .ok (.iload_n 1, 1) := by decide +kernel
theorem dX2_addSound_17 : decode cX2_addSound 17 = .ok (.iastore, 1) := by decide +kernel
theorem dX2_addSound_18 : decode cX2_addSound 18 = .ok (.aload_n 0, 1) := by decide +kernel
theorem dX2_addSound_19 : decode cX2_addSound 19 = .ok (.getfield 15, 3) := by decide +kernel
theorem dX2_addSound_22 : decode cX2_addSound 22 = .ok (.iload 4, 2) := by decide +kernel
theorem dX2_addSound_24 : decode cX2_addSound 24 = .ok (.dload_n 2, 1) := by decide +kernel
theorem dX2_addSound_25 : decode cX2_addSound 25 = .ok (.dastore, 1) := by decide +kernel
theorem dX2_addSound_26 : decode cX2_addSound 26 = .ok (.aload_n 0, 1) := by decide +kernel
theorem dX2_addSound_27 : decode cX2_addSound 27 = .ok (.dup, 1) := by decide +kernel
theorem dX2_addSound_28 : decode cX2_addSound 28 = .ok (.getfield 30, 3) := by decide +kernel
theorem dX2_addSound_31 : decode cX2_addSound 31 = .ok (.iconst 1, 1) := by decide +kernel
theorem dX2_addSound_32 : decode cX2_addSound 32 = .ok (.iadd, 1) := by decide +kernel
theorem dX2_addSound_33 : decode cX2_addSound 33 = .ok (.putfield 30, 3) := by decide +kernel
theorem dX2_addSound_36 : decode cX2_addSound 36 = .ok (.aload_n 0, 1) := by decide +kernel
theorem dX2_addSound_37 : decode cX2_addSound 37 = .ok (.getfield 27, 3) := by decide +kernel
theorem dX2_addSound_40 : decode cX2_addSound 40 = .ok (.bipush 40, 2) := by decide +kernel
theorem dX2_addSound_42 : decode cX2_addSound 42 = .ok (.if_icmp .ge 16, 3) := by decide +kernel
theorem dX2_addSound_45 : decode cX2_addSound 45 = .ok (.aload_n 0, 1) := by decide +kernel
theorem dX2_addSound_46 : decode cX2_addSound 46 = .ok (.dup, 1) := by decide +kernel
theorem dX2_addSound_47 : decode cX2_addSound 47 = .ok (.getfield 27, 3) := by decide +kernel
theorem dX2_addSound_50 : decode cX2_addSound 50 = .ok (.iconst 1, 1) := by decide +kernel
theorem dX2_addSound_51 : decode cX2_addSound 51 = .ok (.iadd, 1) := by decide +kernel
theorem dX2_addSound_52 : decode cX2_addSound 52 = .ok (.putfield 27, 3) := by decide +kernel
theorem dX2_addSound_55 : decode cX2_addSound 55 = .ok (.goto 12, 3) := by decide +kernel
theorem dX2_addSound_58 : decode cX2_addSound 58 = .ok (.aload_n 0, 1) := by decide +kernel
theorem dX2_addSound_59 : decode cX2_addSound 59 = .ok (.aload_n 0, 1) := by decide +kernel
theorem dX2_addSound_60 : decode cX2_addSound 60 = .ok (.iconst 1, 1) := by decide +kernel
theorem dX2_addSound_61 : decode cX2_addSound 61 = .ok (.invokevirtual 23, 3) := by decide +kernel
theorem dX2_addSound_64 : decode cX2_addSound 64 = .ok (.putfield 19, 3) := by decide +kernel
theorem dX2_addSound_67 : decode cX2_addSound 67 = .ok (.return_, 1) := by decide +kernel
theorem dX3_init_0 : decode cX3_init 0 = .ok (.aload_n 0, 1) := by decide +kernel
theorem dX3_init_1 : decode cX3_init 1 = .ok (.invokespecial 3, 3) := by decide +kernel
theorem dX3_init_4 : decode cX3_init 4 = .ok (.aload_n 0, 1) := by decide +kernel
theorem dX3_init_5 : decode cX3_init 5 = .ok (.iconst 4, 1) := by decide +kernel
theorem dX3_init_6 : decode cX3_init 6 = .ok (.newarray .int, 2) := by decide +kernel
theorem dX3_init_8 : decode cX3_init 8 = .ok (.putfield 9, 3) := by decide +kernel
theorem dX3_init_11 : decode cX3_init 11 = .ok (.aload_n 0, 1) := by decide +kernel
theorem dX3_init_12 : decode cX3_init 12 = .ok (.bipush 120, 2) := by decide +kernel
theorem dX3_init_14 : decode cX3_init 14 = .ok (.newarray .int, 2) := by decide +kernel
theorem dX3_init_16 : decode cX3_init 16 = .ok (.putfield 15, 3) := by decide +kernel
theorem dX3_init_19 : decode cX3_init 19 = .ok (.return_, 1) := by decide +kernel
theorem dX3_timeOf_0 : decode cX3_timeOf 0 = .ok (.aload_n 0, 1) := by decide +kernel
theorem dX3_timeOf_1 : decode cX3_timeOf 1 = .ok (.getfield 15, 3) := by decide +kernel
theorem dX3_timeOf_4 : decode cX3_timeOf 4 = .ok (.iload_n 1, 1) := by decide +kernel
theorem dX3_timeOf_5 : decode cX3_timeOf 5 = .ok (.bipush 30, 2) := by decide +kernel
theorem dX3_timeOf_7 : decode cX3_timeOf 7 = .ok (.imul, 1) := by decide +kernel
theorem dX3_timeOf_8 : decode cX3_timeOf 8 = .ok (.iload_n 2, 1) := by decide +kernel
theorem dX3_timeOf_9 : decode cX3_timeOf 9 = .ok (.iadd, 1) := by decide +kernel
theorem dX3_timeOf_10 : decode cX3_timeOf 10 = .ok (.iaload, 1) := by decide +kernel
theorem dX3_timeOf_11 : decode cX3_timeOf 11 = .ok (.bipush 48, 2) := by decide +kernel
theorem dX3_timeOf_13 : decode cX3_timeOf 13 = .ok (.idiv, 1) := by decide +kernel
theorem dX3_timeOf_14 : decode cX3_timeOf 14 = .ok (.ireturn, 1) := by decide +kernel
theorem dX3_pitchOf_0 : decode cX3_pitchOf 0 = .ok (.aload_n 0, 1) := by decide +kernel
theorem dX3_pitchOf_1 : decode cX3_pitchOf 1 = .ok (.getfield 15, 3) := by decide +kernel
theorem dX3_pitchOf_4 : decode cX3_pitchOf 4 = .ok (.iload_n 1, 1) := by decide +kernel
theorem dX3_pitchOf_5 : decode cX3_pitchOf 5 = .ok (.bipush 30, 2) := by decide +kernel
theorem dX3_pitchOf_7 : decode cX3_pitchOf 7 = .ok (.imul, 1) := by decide +kernel
theorem dX3_pitchOf_8 : decode cX3_pitchOf 8 = .ok (.iload_n 2, 1) := by decide +kernel
theorem dX3_pitchOf_9 : decode cX3_pitchOf 9 = .ok (.iadd, 1) := by decide +kernel
theorem dX3_pitchOf_10 : decode cX3_pitchOf 10 = .ok (.iaload, 1) := by decide +kernel
theorem dX3_pitchOf_11 : decode cX3_pitchOf 11 = .ok (.bipush 48, 2) := by decide +kernel
theorem dX3_pitchOf_13 : decode cX3_pitchOf 13 = .ok (.irem, 1) := by decide +kernel
theorem dX3_pitchOf_14 : decode cX3_pitchOf 14 = .ok (.ireturn, 1) := by decide +kernel
theorem dX3_rankOf_0 : decode cX3_rankOf 0 = .ok (.iconst 0, 1) := by decide +kernel
theorem dX3_rankOf_1 : decode cX3_rankOf 1 = .ok (.istore_n 3, 1) := by decide +kernel
theorem dX3_rankOf_2 : decode cX3_rankOf 2 = .ok (.iload_n 3, 1) := by decide +kernel
theorem dX3_rankOf_3 : decode cX3_rankOf 3 = .ok (.aload_n 0, 1) := by decide +kernel
theorem dX3_rankOf_4 : decode cX3_rankOf 4 = .ok (.getfield 9, 3) := by decide +kernel
theorem dX3_rankOf_7 : decode cX3_rankOf 7 = .ok (.iload_n 1, 1) := by decide +kernel
theorem dX3_rankOf_8 : decode cX3_rankOf 8 = .ok (.iaload, 1) := by decide +kernel
theorem dX3_rankOf_9 : decode cX3_rankOf 9 = .ok (.if_icmp .ge 24, 3) := by decide +kernel
theorem dX3_rankOf_12 : decode cX3_rankOf 12 = .ok (.aload_n 0, 1) := by decide +kernel
theorem dX3_rankOf_13 : decode cX3_rankOf 13 = .ok (.getfield 15, 3) := by decide +kernel
theorem dX3_rankOf_16 : decode cX3_rankOf 16 = .ok (.iload_n 1, 1) := by decide +kernel
theorem dX3_rankOf_17 : decode cX3_rankOf 17 = .ok (.bipush 30, 2) := by decide +kernel
theorem dX3_rankOf_19 : decode cX3_rankOf 19 = .ok (.imul, 1) := by decide +kernel
theorem dX3_rankOf_20 : decode cX3_rankOf 20 = .ok (.iload_n 3, 1) := by decide +kernel
theorem dX3_rankOf_21 : decode cX3_rankOf 21 = .ok (.iadd, 1) := by decide +kernel
theorem dX3_rankOf_22 : decode cX3_rankOf 22 = .ok (.iaload, 1) := by decide +kernel
theorem dX3_rankOf_23 : decode cX3_rankOf 23 = .ok (.iload_n 2, 1) := by decide +kernel
theorem dX3_rankOf_24 : decode cX3_rankOf 24 = .ok (.if_icmp .ge 9, 3) := by decide +kernel
theorem dX3_rankOf_27 : decode cX3_rankOf 27 = .ok (.iinc 3 1, 3) := by decide +kernel
theorem dX3_rankOf_30 : decode cX3_rankOf 30 = .ok (.goto (-28), 3) := by decide +kernel
theorem dX3_rankOf_33 : decode cX3_rankOf 33 = .ok (.iload_n 3, 1) := by decide +kernel
theorem dX3_rankOf_34 : decode cX3_rankOf 34 = .ok (.ireturn, 1) := by decide +kernel
set_option maxRecDepth 20000 in
theorem ggX3_holds_X3_rankOf : GoodIn wsX3_holds wsX3_rankOf := goodIn_r _ [7, 1, 2, 8, 9, 10] (by decide +kernel) (by decide +kernel)
set_option maxRecDepth 20000 in
theorem gX3_holds_X3_rankOf : GoodIn wsX3_holds (wsV RX3 18 RX3 yX3_rankOf wsX3_rankOf) := goodIn_app (goodIn_of _ (by decide +kernel)) ggX3_holds_X3_rankOf
theorem dX3_holds_0 : decode cX3_holds 0 = .ok (.iload_n 2, 1) := by decide +kernel
theorem dX3_holds_1 : decode cX3_holds 1 = .ok (.bipush 48, 2) := by decide +kernel
theorem dX3_holds_3 : decode cX3_holds 3 = .ok (.imul, 1) := by decide +kernel
theorem dX3_holds_4 : decode cX3_holds 4 = .ok (.iload_n 3, 1) := by decide +kernel
theorem dX3_holds_5 : decode cX3_holds 5 = .ok (.iadd, 1) := by decide +kernel
theorem dX3_holds_6 : decode cX3_holds 6 = .ok (.istore 4, 2) := by decide +kernel
theorem dX3_holds_8 : decode cX3_holds 8 = .ok (.aload_n 0, 1) := by decide +kernel
theorem dX3_holds_9 : decode cX3_holds 9 = .ok (.iload_n 1, 1) := by decide +kernel
theorem dX3_holds_10 : decode cX3_holds 10 = .ok (.iload 4, 2) := by decide +kernel
theorem dX3_holds_12 : decode cX3_holds 12 = .ok (.invokevirtual 18, 3) := by decide +kernel
theorem dX3_holds_15 : decode cX3_holds 15 = .ok (.istore 5, 2) := by decide +kernel
theorem dX3_holds_17 : decode cX3_holds 17 = .ok (.iload 5, 2) := by decide +kernel
theorem dX3_holds_19 : decode cX3_holds 19 = .ok (.aload_n 0, 1) := by decide +kernel
theorem dX3_holds_20 : decode cX3_holds 20 = .ok (.getfield 9, 3) := by decide +kernel
theorem dX3_holds_23 : decode cX3_holds 23 = .ok (.iload_n 1, 1) := by decide +kernel
theorem dX3_holds_24 : decode cX3_holds 24 = .ok (.iaload, 1) := by decide +kernel
theorem dX3_holds_25 : decode cX3_holds 25 = .ok (.if_icmp .ge 24, 3) := by decide +kernel
theorem dX3_holds_28 : decode cX3_holds 28 = .ok (.aload_n 0, 1) := by decide +kernel
theorem dX3_holds_29 : decode cX3_holds 29 = .ok (.getfield 15, 3) := by decide +kernel
theorem dX3_holds_32 : decode cX3_holds 32 = .ok (.iload_n 1, 1) := by decide +kernel
theorem dX3_holds_33 : decode cX3_holds 33 = .ok (.bipush 30, 2) := by decide +kernel
theorem dX3_holds_35 : decode cX3_holds 35 = .ok (.imul, 1) := by decide +kernel
theorem dX3_holds_36 : decode cX3_holds 36 = .ok (.iload 5, 2) := by decide +kernel
theorem dX3_holds_38 : decode cX3_holds 38 = .ok (.iadd, 1) := by decide +kernel
theorem dX3_holds_39 : decode cX3_holds 39 = .ok (.iaload, 1) := by decide +kernel
theorem dX3_holds_40 : decode cX3_holds 40 = .ok (.iload 4, 2) := by decide +kernel
theorem dX3_holds_42 : decode cX3_holds 42 = .ok (.if_icmp .ne 7, 3) := by decide +kernel
theorem dX3_holds_45 : decode cX3_holds 45 = .ok (.iconst 1, 1) := by decide +kernel
theorem dX3_holds_46 : decode cX3_holds 46 = .ok (.goto 4, 3) := by decide +kernel
theorem dX3_holds_49 : decode cX3_holds 49 = .ok (.iconst 0, 1) := by decide +kernel
theorem dX3_holds_50 : decode cX3_holds 50 = .ok (.ireturn, 1) := by decide +kernel
set_option maxRecDepth 20000 in
theorem ggX3_write_X3_rankOf : GoodIn wsX3_write wsX3_rankOf := goodIn_r _ [7, 1, 2, 8, 9, 10] (by decide +kernel) (by decide +kernel)
set_option maxRecDepth 20000 in
theorem gX3_write_X3_rankOf : GoodIn wsX3_write (wsV RX3 18 RX3 yX3_rankOf wsX3_rankOf) := goodIn_app (goodIn_of _ (by decide +kernel)) ggX3_write_X3_rankOf
theorem dX3_write_0 : decode cX3_write 0 = .ok (.iload_n 2, 1) := by decide +kernel
theorem dX3_write_1 : decode cX3_write 1 = .ok (.bipush 48, 2) := by decide +kernel
theorem dX3_write_3 : decode cX3_write 3 = .ok (.imul, 1) := by decide +kernel
theorem dX3_write_4 : decode cX3_write 4 = .ok (.iload_n 3, 1) := by decide +kernel
theorem dX3_write_5 : decode cX3_write 5 = .ok (.iadd, 1) := by decide +kernel
theorem dX3_write_6 : decode cX3_write 6 = .ok (.istore 4, 2) := by decide +kernel
theorem dX3_write_8 : decode cX3_write 8 = .ok (.iload_n 1, 1) := by decide +kernel
theorem dX3_write_9 : decode cX3_write 9 = .ok (.bipush 30, 2) := by decide +kernel
theorem dX3_write_11 : decode cX3_write 11 = .ok (.imul, 1) := by decide +kernel
theorem dX3_write_12 : decode cX3_write 12 = .ok (.istore 5, 2) := by decide +kernel
theorem dX3_write_14 : decode cX3_write 14 = .ok (.aload_n 0, 1) := by decide +kernel
theorem dX3_write_15 : decode cX3_write 15 = .ok (.iload_n 1, 1) := by decide +kernel
theorem dX3_write_16 : decode cX3_write 16 = .ok (.iload 4, 2) := by decide +kernel
theorem dX3_write_18 : decode cX3_write 18 = .ok (.invokevirtual 18, 3) := by decide +kernel
theorem dX3_write_21 : decode cX3_write 21 = .ok (.istore 6, 2) := by decide +kernel
theorem dX3_write_23 : decode cX3_write 23 = .ok (.aload_n 0, 1) := by decide +kernel
theorem dX3_write_24 : decode cX3_write 24 = .ok (.getfield 9, 3) := by decide +kernel
theorem dX3_write_27 : decode cX3_write 27 = .ok (.iload_n 1, 1) := by decide +kernel
theorem dX3_write_28 : decode cX3_write 28 = .ok (.iaload, 1) := by decide +kernel
theorem dX3_write_29 : decode cX3_write 29 = .ok (.istore 7, 2) := by decide +kernel
theorem dX3_write_31 : decode cX3_write 31 = .ok (.iload 7, 2) := by decide +kernel
theorem dX3_write_33 : decode cX3_write 33 = .ok (.iload 6, 2) := by decide +kernel
theorem dX3_write_35 : decode cX3_write 35 = .ok (.if_icmp .le 31, 3) := by decide +kernel
theorem dX3_write_38 : decode cX3_write 38 = .ok (.aload_n 0, 1) := by decide +kernel
theorem dX3_write_39 : decode cX3_write 39 = .ok (.getfield 15, 3) := by decide +kernel
theorem dX3_write_42 : decode cX3_write 42 = .ok (.iload 5, 2) := by decide +kernel
theorem dX3_write_44 : decode cX3_write 44 = .ok (.iload 7, 2) := by decide +kernel
theorem dX3_write_46 : decode cX3_write 46 = .ok (.iadd, 1) := by decide +kernel
theorem dX3_write_47 : decode cX3_write 47 = .ok (.aload_n 0, 1) := by decide +kernel
theorem dX3_write_48 : decode cX3_write 48 = .ok (.getfield 15, 3) := by decide +kernel
theorem dX3_write_51 : decode cX3_write 51 = .ok (.iload 5, 2) := by decide +kernel
theorem dX3_write_53 : decode cX3_write 53 = .ok (.iload 7, 2) := by decide +kernel
theorem dX3_write_55 : decode cX3_write 55 = .ok (.iadd, 1) := by decide +kernel
theorem dX3_write_56 : decode cX3_write 56 = .ok (.iconst 1, 1) := by decide +kernel
theorem dX3_write_57 : decode cX3_write 57 = .ok (.isub, 1) := by decide +kernel
theorem dX3_write_58 : decode cX3_write 58 = .ok (.iaload, 1) := by decide +kernel
theorem dX3_write_59 : decode cX3_write 59 = .ok (.iastore, 1) := by decide +kernel
theorem dX3_write_60 : decode cX3_write 60 = .ok (.iinc 7 (-1), 3) := by decide +kernel
theorem dX3_write_63 : decode cX3_write 63 = .ok (.goto (-32), 3) := by decide +kernel
theorem dX3_write_66 : decode cX3_write 66 = .ok (.aload_n 0, 1) := by decide +kernel
theorem dX3_write_67 : decode cX3_write 67 = .ok (.getfield 15, 3) := by decide +kernel
theorem dX3_write_70 : decode cX3_write 70 = .ok (.iload 5, 2) := by decide +kernel
theorem dX3_write_72 : decode cX3_write 72 = .ok (.iload 6, 2) := by decide +kernel
theorem dX3_write_74 : decode cX3_write 74 = .ok (.iadd, 1) := by decide +kernel
theorem dX3_write_75 : decode cX3_write 75 = .ok (.iload 4, 2) := by decide +kernel
theorem dX3_write_77 : decode cX3_write 77 = .ok (.iastore, 1) := by decide +kernel
theorem dX3_write_78 : decode cX3_write 78 = .ok (.aload_n 0, 1) := by decide +kernel
theorem dX3_write_79 : decode cX3_write 79 = .ok (.getfield 9, 3) := by decide +kernel
theorem dX3_write_82 : decode cX3_write 82 = .ok (.iload_n 1, 1) := by decide +kernel
theorem dX3_write_83 : decode cX3_write 83 = .ok (.dup2, 1) := by decide +kernel
theorem dX3_write_84 : decode cX3_write 84 = .ok (.iaload, 1) := by decide +kernel
theorem dX3_write_85 : decode cX3_write 85 = .ok (.iconst 1, 1) := by decide +kernel
theorem dX3_write_86 : decode cX3_write 86 = .ok (.iadd, 1) := by decide +kernel
theorem dX3_write_87 : decode cX3_write 87 = .ok (.iastore, 1) := by decide +kernel
theorem dX3_write_88 : decode cX3_write 88 = .ok (.return_, 1) := by decide +kernel
set_option maxRecDepth 20000 in
theorem ggX3_strike_X3_rankOf : GoodIn wsX3_strike wsX3_rankOf := goodIn_r _ [7, 1, 2, 8, 9, 10] (by decide +kernel) (by decide +kernel)
set_option maxRecDepth 20000 in
theorem gX3_strike_X3_rankOf : GoodIn wsX3_strike (wsV RX3 18 RX3 yX3_rankOf wsX3_rankOf) := goodIn_app (goodIn_of _ (by decide +kernel)) ggX3_strike_X3_rankOf
theorem dX3_strike_0 : decode cX3_strike 0 = .ok (.iload_n 1, 1) := by decide +kernel
theorem dX3_strike_1 : decode cX3_strike 1 = .ok (.bipush 30, 2) := by decide +kernel
theorem dX3_strike_3 : decode cX3_strike 3 = .ok (.imul, 1) := by decide +kernel
theorem dX3_strike_4 : decode cX3_strike 4 = .ok (.istore 4, 2) := by decide +kernel
theorem dX3_strike_6 : decode cX3_strike 6 = .ok (.aload_n 0, 1) := by decide +kernel
theorem dX3_strike_7 : decode cX3_strike 7 = .ok (.getfield 9, 3) := by decide +kernel
theorem dX3_strike_10 : decode cX3_strike 10 = .ok (.iload_n 1, 1) := by decide +kernel
theorem dX3_strike_11 : decode cX3_strike 11 = .ok (.dup2, 1) := by decide +kernel
theorem dX3_strike_12 : decode cX3_strike 12 = .ok (.iaload, 1) := by decide +kernel
theorem dX3_strike_13 : decode cX3_strike 13 = .ok (.iconst 1, 1) := by decide +kernel
theorem dX3_strike_14 : decode cX3_strike 14 = .ok (.isub, 1) := by decide +kernel
theorem dX3_strike_15 : decode cX3_strike 15 = .ok (.iastore, 1) := by decide +kernel
theorem dX3_strike_16 : decode cX3_strike 16 = .ok (.aload_n 0, 1) := by decide +kernel
theorem dX3_strike_17 : decode cX3_strike 17 = .ok (.iload_n 1, 1) := by decide +kernel
theorem dX3_strike_18 : decode cX3_strike 18 = .ok (.iload_n 2, 1) := by decide +kernel
theorem dX3_strike_19 : decode cX3_strike 19 = .ok (.bipush 48, 2) := by decide +kernel
theorem dX3_strike_21 : decode cX3_strike 21 = .ok (.imul, 1) := by decide +kernel
theorem dX3_strike_22 : decode cX3_strike 22 = .ok (.iload_n 3, 1) := by decide +kernel
theorem dX3_strike_23 : decode cX3_strike 23 = .ok (.iadd, 1) := by decide +kernel
theorem dX3_strike_24 : decode cX3_strike 24 = .ok (.invokevirtual 18, 3) := by decide +kernel
theorem dX3_strike_27 : decode cX3_strike 27 = .ok (.istore 5, 2) := by decide +kernel
theorem dX3_strike_29 : decode cX3_strike 29 = .ok (.iload 5, 2) := by decide +kernel
theorem dX3_strike_31 : decode cX3_strike 31 = .ok (.aload_n 0, 1) := by decide +kernel
theorem dX3_strike_32 : decode cX3_strike 32 = .ok (.getfield 9, 3) := by decide +kernel
theorem dX3_strike_35 : decode cX3_strike 35 = .ok (.iload_n 1, 1) := by decide +kernel
theorem dX3_strike_36 : decode cX3_strike 36 = .ok (.iaload, 1) := by decide +kernel
theorem dX3_strike_37 : decode cX3_strike 37 = .ok (.if_icmp .ge 31, 3) := by decide +kernel
theorem dX3_strike_40 : decode cX3_strike 40 = .ok (.aload_n 0, 1) := by decide +kernel
theorem dX3_strike_41 : decode cX3_strike 41 = .ok (.getfield 15, 3) := by decide +kernel
theorem dX3_strike_44 : decode cX3_strike 44 = .ok (.iload 4, 2) := by decide +kernel
theorem dX3_strike_46 : decode cX3_strike 46 = .ok (.iload 5, 2) := by decide +kernel
theorem dX3_strike_48 : decode cX3_strike 48 = .ok (.iadd, 1) := by decide +kernel
theorem dX3_strike_49 : decode cX3_strike 49 = .ok (.aload_n 0, 1) := by decide +kernel
theorem dX3_strike_50 : decode cX3_strike 50 = .ok (.getfield 15, 3) := by decide +kernel
theorem dX3_strike_53 : decode cX3_strike 53 = .ok (.iload 4, 2) := by decide +kernel
theorem dX3_strike_55 : decode cX3_strike 55 = .ok (.iload 5, 2) := by decide +kernel
theorem dX3_strike_57 : decode cX3_strike 57 = .ok (.iadd, 1) := by decide +kernel
theorem dX3_strike_58 : decode cX3_strike 58 = .ok (.iconst 1, 1) := by decide +kernel
theorem dX3_strike_59 : decode cX3_strike 59 = .ok (.iadd, 1) := by decide +kernel
theorem dX3_strike_60 : decode cX3_strike 60 = .ok (.iaload, 1) := by decide +kernel
theorem dX3_strike_61 : decode cX3_strike 61 = .ok (.iastore, 1) := by decide +kernel
theorem dX3_strike_62 : decode cX3_strike 62 = .ok (.iinc 5 1, 3) := by decide +kernel
theorem dX3_strike_65 : decode cX3_strike 65 = .ok (.goto (-36), 3) := by decide +kernel
theorem dX3_strike_68 : decode cX3_strike 68 = .ok (.return_, 1) := by decide +kernel
set_option maxRecDepth 20000 in
theorem ggX3_lowest_X3_pitchOf : GoodIn wsX3_lowest wsX3_pitchOf := goodIn_r _ [6, 7, 8, 9, 10] (by decide +kernel) (by decide +kernel)
set_option maxRecDepth 20000 in
theorem gX3_lowest_X3_pitchOf : GoodIn wsX3_lowest (wsV RX3 22 RX3 yX3_pitchOf wsX3_pitchOf) := goodIn_app (goodIn_of _ (by decide +kernel)) ggX3_lowest_X3_pitchOf
theorem dX3_lowest_0 : decode cX3_lowest 0 = .ok (.iconst (-1), 1) := by decide +kernel
theorem dX3_lowest_1 : decode cX3_lowest 1 = .ok (.istore_n 2, 1) := by decide +kernel
theorem dX3_lowest_2 : decode cX3_lowest 2 = .ok (.iconst 0, 1) := by decide +kernel
theorem dX3_lowest_3 : decode cX3_lowest 3 = .ok (.istore_n 3, 1) := by decide +kernel
theorem dX3_lowest_4 : decode cX3_lowest 4 = .ok (.iload_n 3, 1) := by decide +kernel
theorem dX3_lowest_5 : decode cX3_lowest 5 = .ok (.aload_n 0, 1) := by decide +kernel
theorem dX3_lowest_6 : decode cX3_lowest 6 = .ok (.getfield 9, 3) := by decide +kernel
theorem dX3_lowest_9 : decode cX3_lowest 9 = .ok (.iload_n 1, 1) := by decide +kernel
theorem dX3_lowest_10 : decode cX3_lowest 10 = .ok (.iaload, 1) := by decide +kernel
theorem dX3_lowest_11 : decode cX3_lowest 11 = .ok (.if_icmp .ge 31, 3) := by decide +kernel
theorem dX3_lowest_14 : decode cX3_lowest 14 = .ok (.aload_n 0, 1) := by decide +kernel
theorem dX3_lowest_15 : decode cX3_lowest 15 = .ok (.iload_n 1, 1) := by decide +kernel
theorem dX3_lowest_16 : decode cX3_lowest 16 = .ok (.iload_n 3, 1) := by decide +kernel
theorem dX3_lowest_17 : decode cX3_lowest 17 = .ok (.invokevirtual 22, 3) := by decide +kernel
theorem dX3_lowest_20 : decode cX3_lowest 20 = .ok (.istore 4, 2) := by decide +kernel
theorem dX3_lowest_22 : decode cX3_lowest 22 = .ok (.iload_n 2, 1) := by decide +kernel
theorem dX3_lowest_23 : decode cX3_lowest 23 = .ok (.iconst (-1), 1) := by decide +kernel
theorem dX3_lowest_24 : decode cX3_lowest 24 = .ok (.if_icmp .eq 9, 3) := by decide +kernel
theorem dX3_lowest_27 : decode cX3_lowest 27 = .ok (.iload 4, 2) := by decide +kernel
theorem dX3_lowest_29 : decode cX3_lowest 29 = .ok (.iload_n 2, 1) := by decide +kernel
theorem dX3_lowest_30 : decode cX3_lowest 30 = .ok (.if_icmp .ge 6, 3) := by decide +kernel
theorem dX3_lowest_33 : decode cX3_lowest 33 = .ok (.iload 4, 2) := by decide +kernel
theorem dX3_lowest_35 : decode cX3_lowest 35 = .ok (.istore_n 2, 1) := by decide +kernel
theorem dX3_lowest_36 : decode cX3_lowest 36 = .ok (.iinc 3 1, 3) := by decide +kernel
theorem dX3_lowest_39 : decode cX3_lowest 39 = .ok (.goto (-35), 3) := by decide +kernel
theorem dX3_lowest_42 : decode cX3_lowest 42 = .ok (.iload_n 2, 1) := by decide +kernel
theorem dX3_lowest_43 : decode cX3_lowest 43 = .ok (.ireturn, 1) := by decide +kernel
set_option maxRecDepth 20000 in
theorem ggX3_highest_X3_pitchOf : GoodIn wsX3_highest wsX3_pitchOf := goodIn_r _ [10, 11, 12, 13, 14] (by decide +kernel) (by decide +kernel)
set_option maxRecDepth 20000 in
theorem gX3_highest_X3_pitchOf : GoodIn wsX3_highest (wsV RX3 22 RX3 yX3_pitchOf wsX3_pitchOf) := goodIn_app (goodIn_of _ (by decide +kernel)) ggX3_highest_X3_pitchOf
theorem dX3_highest_0 : decode cX3_highest 0 = .ok (.iconst (-1), 1) := by decide +kernel
theorem dX3_highest_1 : decode cX3_highest 1 = .ok (.istore_n 2, 1) := by decide +kernel
theorem dX3_highest_2 : decode cX3_highest 2 = .ok (.iconst 0, 1) := by decide +kernel
theorem dX3_highest_3 : decode cX3_highest 3 = .ok (.istore_n 3, 1) := by decide +kernel
theorem dX3_highest_4 : decode cX3_highest 4 = .ok (.iload_n 3, 1) := by decide +kernel
theorem dX3_highest_5 : decode cX3_highest 5 = .ok (.aload_n 0, 1) := by decide +kernel
theorem dX3_highest_6 : decode cX3_highest 6 = .ok (.getfield 9, 3) := by decide +kernel
theorem dX3_highest_9 : decode cX3_highest 9 = .ok (.iload_n 1, 1) := by decide +kernel
theorem dX3_highest_10 : decode cX3_highest 10 = .ok (.iaload, 1) := by decide +kernel
theorem dX3_highest_11 : decode cX3_highest 11 = .ok (.if_icmp .ge 20, 3) := by decide +kernel
theorem dX3_highest_14 : decode cX3_highest 14 = .ok (.iload_n 2, 1) := by decide +kernel
theorem dX3_highest_15 : decode cX3_highest 15 = .ok (.aload_n 0, 1) := by decide +kernel
theorem dX3_highest_16 : decode cX3_highest 16 = .ok (.iload_n 1, 1) := by decide +kernel
theorem dX3_highest_17 : decode cX3_highest 17 = .ok (.iload_n 3, 1) := by decide +kernel
theorem dX3_highest_18 : decode cX3_highest 18 = .ok (.invokevirtual 22, 3) := by decide +kernel
theorem dX3_highest_21 : decode cX3_highest 21 = .ok (.invokestatic 25, 3) := by decide +kernel
theorem dX3_highest_24 : decode cX3_highest 24 = .ok (.istore_n 2, 1) := by decide +kernel
theorem dX3_highest_25 : decode cX3_highest 25 = .ok (.iinc 3 1, 3) := by decide +kernel
theorem dX3_highest_28 : decode cX3_highest 28 = .ok (.goto (-24), 3) := by decide +kernel
theorem dX3_highest_31 : decode cX3_highest 31 = .ok (.iload_n 2, 1) := by decide +kernel
theorem dX3_highest_32 : decode cX3_highest 32 = .ok (.ireturn, 1) := by decide +kernel
set_option maxRecDepth 20000 in
theorem ggX3_times_X3_timeOf : GoodIn wsX3_times wsX3_timeOf := goodIn_r _ [6, 7, 8, 9, 10] (by decide +kernel) (by decide +kernel)
set_option maxRecDepth 20000 in
theorem gX3_times_X3_timeOf : GoodIn wsX3_times (wsV RX3 30 RX3 yX3_timeOf wsX3_timeOf) := goodIn_app (goodIn_of _ (by decide +kernel)) ggX3_times_X3_timeOf
theorem dX3_times_0 : decode cX3_times 0 = .ok (.iconst 0, 1) := by decide +kernel
theorem dX3_times_1 : decode cX3_times 1 = .ok (.istore_n 2, 1) := by decide +kernel
theorem dX3_times_2 : decode cX3_times 2 = .ok (.iconst 0, 1) := by decide +kernel
theorem dX3_times_3 : decode cX3_times 3 = .ok (.istore_n 3, 1) := by decide +kernel
theorem dX3_times_4 : decode cX3_times 4 = .ok (.iload_n 3, 1) := by decide +kernel
theorem dX3_times_5 : decode cX3_times 5 = .ok (.aload_n 0, 1) := by decide +kernel
theorem dX3_times_6 : decode cX3_times 6 = .ok (.getfield 9, 3) := by decide +kernel
theorem dX3_times_9 : decode cX3_times 9 = .ok (.iload_n 1, 1) := by decide +kernel
theorem dX3_times_10 : decode cX3_times 10 = .ok (.iaload, 1) := by decide +kernel
theorem dX3_times_11 : decode cX3_times 11 = .ok (.if_icmp .ge 33, 3) := by decide +kernel
theorem dX3_times_14 : decode cX3_times 14 = .ok (.iload_n 3, 1) := by decide +kernel
theorem dX3_times_15 : decode cX3_times 15 = .ok (.ifCond .eq 20, 3) := by decide +kernel
theorem dX3_times_18 : decode cX3_times 18 = .ok (.aload_n 0, 1) := by decide +kernel
theorem dX3_times_19 : decode cX3_times 19 = .ok (.iload_n 1, 1) := by decide +kernel
theorem dX3_times_20 : decode cX3_times 20 = .ok (.iload_n 3, 1) := by decide +kernel
theorem dX3_times_21 : decode cX3_times 21 = .ok (.invokevirtual 30, 3) := by decide +kernel
theorem dX3_times_24 : decode cX3_times 24 = .ok (.aload_n 0, 1) := by decide +kernel
theorem dX3_times_25 : decode cX3_times 25 = .ok (.iload_n 1, 1) := by decide +kernel
theorem dX3_times_26 : decode cX3_times 26 = .ok (.iload_n 3, 1) := by decide +kernel
theorem dX3_times_27 : decode cX3_times 27 = .ok (.iconst 1, 1) := by decide +kernel
theorem dX3_times_28 : decode cX3_times 28 = .ok (.isub, 1) := by decide +kernel
theorem dX3_times_29 : decode cX3_times 29 = .ok (.invokevirtual 30, 3) := by decide +kernel
theorem dX3_times_32 : decode cX3_times 32 = .ok (.if_icmp .eq 6, 3) := by decide +kernel
theorem dX3_times_35 : decode cX3_times 35 = .ok (.iinc 2 1, 3) := by decide +kernel
theorem dX3_times_38 : decode cX3_times 38 = .ok (.iinc 3 1, 3) := by decide +kernel
theorem dX3_times_41 : decode cX3_times 41 = .ok (.goto (-37), 3) := by decide +kernel
theorem dX3_times_44 : decode cX3_times 44 = .ok (.iload_n 2, 1) := by decide +kernel
theorem dX3_times_45 : decode cX3_times 45 = .ok (.ireturn, 1) := by decide +kernel
set_option maxRecDepth 20000 in
theorem ggX3_mostAtOnce_X3_timeOf : GoodIn wsX3_mostAtOnce wsX3_timeOf := goodIn_r _ [10, 11, 12, 13, 14] (by decide +kernel) (by decide +kernel)
set_option maxRecDepth 20000 in
theorem gX3_mostAtOnce_X3_timeOf : GoodIn wsX3_mostAtOnce (wsV RX3 30 RX3 yX3_timeOf wsX3_timeOf) := goodIn_app (goodIn_of _ (by decide +kernel)) ggX3_mostAtOnce_X3_timeOf
theorem dX3_mostAtOnce_0 : decode cX3_mostAtOnce 0 = .ok (.iconst 0, 1) := by decide +kernel
theorem dX3_mostAtOnce_1 : decode cX3_mostAtOnce 1 = .ok (.istore_n 2, 1) := by decide +kernel
theorem dX3_mostAtOnce_2 : decode cX3_mostAtOnce 2 = .ok (.iconst 0, 1) := by decide +kernel
theorem dX3_mostAtOnce_3 : decode cX3_mostAtOnce 3 = .ok (.istore_n 3, 1) := by decide +kernel
theorem dX3_mostAtOnce_4 : decode cX3_mostAtOnce 4 = .ok (.iconst 0, 1) := by decide +kernel
theorem dX3_mostAtOnce_5 : decode cX3_mostAtOnce 5 = .ok (.istore 4, 2) := by decide +kernel
theorem dX3_mostAtOnce_7 : decode cX3_mostAtOnce 7 = .ok (.iload 4, 2) := by decide +kernel
theorem dX3_mostAtOnce_9 : decode cX3_mostAtOnce 9 = .ok (.aload_n 0, 1) := by decide +kernel
theorem dX3_mostAtOnce_10 : decode cX3_mostAtOnce 10 = .ok (.getfield 9, 3) := by decide +kernel
theorem dX3_mostAtOnce_13 : decode cX3_mostAtOnce 13 = .ok (.iload_n 1, 1) := by decide +kernel
theorem dX3_mostAtOnce_14 : decode cX3_mostAtOnce 14 = .ok (.iaload, 1) := by decide +kernel
theorem dX3_mostAtOnce_15 : decode cX3_mostAtOnce 15 = .ok (.if_icmp .ge 59, 3) := by decide +kernel
theorem dX3_mostAtOnce_18 : decode cX3_mostAtOnce 18 = .ok (.iload 4, 2) := by decide +kernel
theorem dX3_mostAtOnce_20 : decode cX3_mostAtOnce 20 = .ok (.ifCond .eq 22, 3) := by decide +kernel
theorem dX3_mostAtOnce_23 : decode cX3_mostAtOnce 23 = .ok (.aload_n 0, 1) := by decide +kernel
theorem dX3_mostAtOnce_24 : decode cX3_mostAtOnce 24 = .ok (.iload_n 1, 1) := by decide +kernel
theorem dX3_mostAtOnce_25 : decode cX3_mostAtOnce 25 = .ok (.iload 4, 2) := by decide +kernel
theorem dX3_mostAtOnce_27 : decode cX3_mostAtOnce 27 = .ok (.invokevirtual 30, 3) := by decide +kernel
theorem dX3_mostAtOnce_30 : decode cX3_mostAtOnce 30 = .ok (.aload_n 0, 1) := by decide +kernel
theorem dX3_mostAtOnce_31 : decode cX3_mostAtOnce 31 = .ok (.iload_n 1, 1) := by decide +kernel
theorem dX3_mostAtOnce_32 : decode cX3_mostAtOnce 32 = .ok (.iload 4, 2) := by decide +kernel
theorem dX3_mostAtOnce_34 : decode cX3_mostAtOnce 34 = .ok (.iconst 1, 1) := by decide +kernel
theorem dX3_mostAtOnce_35 : decode cX3_mostAtOnce 35 = .ok (.isub, 1) := by decide +kernel
theorem dX3_mostAtOnce_36 : decode cX3_mostAtOnce 36 = .ok (.invokevirtual 30, 3) := by decide +kernel
theorem dX3_mostAtOnce_39 : decode cX3_mostAtOnce 39 = .ok (.if_icmp .eq 7, 3) := by decide +kernel
theorem dX3_mostAtOnce_42 : decode cX3_mostAtOnce 42 = .ok (.iconst 1, 1) := by decide +kernel
theorem dX3_mostAtOnce_43 : decode cX3_mostAtOnce 43 = .ok (.goto 4, 3) := by decide +kernel
theorem dX3_mostAtOnce_46 : decode cX3_mostAtOnce 46 = .ok (.iconst 0, 1) := by decide +kernel
theorem dX3_mostAtOnce_47 : decode cX3_mostAtOnce 47 = .ok (.istore 5, 2) := by decide +kernel
theorem dX3_mostAtOnce_49 : decode cX3_mostAtOnce 49 = .ok (.iload 5, 2) := by decide +kernel
theorem dX3_mostAtOnce_51 : decode cX3_mostAtOnce 51 = .ok (.ifCond .eq 7, 3) := by decide +kernel
theorem dX3_mostAtOnce_54 : decode cX3_mostAtOnce 54 = .ok (.iconst 1, 1) := by decide +kernel
theorem dX3_mostAtOnce_55 : decode cX3_mostAtOnce 55 = .ok (.goto 6, 3) := by decide +kernel
theorem dX3_mostAtOnce_58 : decode cX3_mostAtOnce 58 = .ok (.iload_n 3, 1) := by decide +kernel
theorem dX3_mostAtOnce_59 : decode cX3_mostAtOnce 59 = .ok (.iconst 1, 1) := by decide +kernel
theorem dX3_mostAtOnce_60 : decode cX3_mostAtOnce 60 = .ok (.iadd, 1) := by decide +kernel
theorem dX3_mostAtOnce_61 : decode cX3_mostAtOnce 61 = .ok (.istore_n 3, 1) := by decide +kernel
theorem dX3_mostAtOnce_62 : decode cX3_mostAtOnce 62 = .ok (.iload_n 2, 1) := by decide +kernel
theorem dX3_mostAtOnce_63 : decode cX3_mostAtOnce 63 = .ok (.iload_n 3, 1) := by decide +kernel
theorem dX3_mostAtOnce_64 : decode cX3_mostAtOnce 64 = .ok (.invokestatic 25, 3) := by decide +kernel
theorem dX3_mostAtOnce_67 : decode cX3_mostAtOnce 67 = .ok (.istore_n 2, 1) := by decide +kernel
theorem dX3_mostAtOnce_68 : decode cX3_mostAtOnce 68 = .ok (.iinc 4 1, 3) := by decide +kernel
theorem dX3_mostAtOnce_71 : decode cX3_mostAtOnce 71 = .ok (.goto (-64), 3) := by decide +kernel
theorem dX3_mostAtOnce_74 : decode cX3_mostAtOnce 74 = .ok (.iload_n 2, 1) := by decide +kernel
theorem dX3_mostAtOnce_75 : decode cX3_mostAtOnce 75 = .ok (.ireturn, 1) := by decide +kernel
set_option maxRecDepth 20000 in
theorem ggX3_shared_X3_pitchOf : GoodIn wsX3_shared wsX3_pitchOf := goodIn_r _ [6, 7, 20, 21, 22] (by decide +kernel) (by decide +kernel)
set_option maxRecDepth 20000 in
theorem gX3_shared_X3_pitchOf : GoodIn wsX3_shared (wsV RX3 22 RX3 yX3_pitchOf wsX3_pitchOf) := goodIn_app (goodIn_of _ (by decide +kernel)) ggX3_shared_X3_pitchOf
set_option maxRecDepth 20000 in
theorem ggX3_shared_X3_timeOf : GoodIn wsX3_shared wsX3_timeOf := goodIn_r _ [11, 7, 20, 21, 22] (by decide +kernel) (by decide +kernel)
set_option maxRecDepth 20000 in
theorem gX3_shared_X3_timeOf : GoodIn wsX3_shared (wsV RX3 30 RX3 yX3_timeOf wsX3_timeOf) := goodIn_app (goodIn_of _ (by decide +kernel)) ggX3_shared_X3_timeOf
set_option maxRecDepth 20000 in
theorem ggX3_shared_X3_holds : GoodIn wsX3_shared wsX3_holds := goodIn_r _ [15, 1, 7, 16, 17, 18, 5, 19, 20, 21, 22] (by decide +kernel) (by decide +kernel)
set_option maxRecDepth 20000 in
theorem gX3_shared_X3_holds : GoodIn wsX3_shared (wsV RX3 33 RX3 yX3_holds wsX3_holds) := goodIn_app (goodIn_of _ (by decide +kernel)) ggX3_shared_X3_holds
theorem dX3_shared_0 : decode cX3_shared 0 = .ok (.iconst 0, 1) := by decide +kernel
theorem dX3_shared_1 : decode cX3_shared 1 = .ok (.istore 4, 2) := by decide +kernel
theorem dX3_shared_3 : decode cX3_shared 3 = .ok (.iconst 0, 1) := by decide +kernel
theorem dX3_shared_4 : decode cX3_shared 4 = .ok (.istore 5, 2) := by decide +kernel
theorem dX3_shared_6 : decode cX3_shared 6 = .ok (.iload 5, 2) := by decide +kernel
theorem dX3_shared_8 : decode cX3_shared 8 = .ok (.aload_n 0, 1) := by decide +kernel
theorem dX3_shared_9 : decode cX3_shared 9 = .ok (.getfield 9, 3) := by decide +kernel
theorem dX3_shared_12 : decode cX3_shared 12 = .ok (.iload_n 1, 1) := by decide +kernel
theorem dX3_shared_13 : decode cX3_shared 13 = .ok (.iaload, 1) := by decide +kernel
theorem dX3_shared_14 : decode cX3_shared 14 = .ok (.if_icmp .ge 52, 3) := by decide +kernel
theorem dX3_shared_17 : decode cX3_shared 17 = .ok (.aload_n 0, 1) := by decide +kernel
theorem dX3_shared_18 : decode cX3_shared 18 = .ok (.iload_n 1, 1) := by decide +kernel
theorem dX3_shared_19 : decode cX3_shared 19 = .ok (.iload 5, 2) := by decide +kernel
theorem dX3_shared_21 : decode cX3_shared 21 = .ok (.invokevirtual 22, 3) := by decide +kernel
theorem dX3_shared_24 : decode cX3_shared 24 = .ok (.iload_n 3, 1) := by decide +kernel
theorem dX3_shared_25 : decode cX3_shared 25 = .ok (.isub, 1) := by decide +kernel
theorem dX3_shared_26 : decode cX3_shared 26 = .ok (.istore 6, 2) := by decide +kernel
theorem dX3_shared_28 : decode cX3_shared 28 = .ok (.iload 6, 2) := by decide +kernel
theorem dX3_shared_30 : decode cX3_shared 30 = .ok (.ifCond .lt 30, 3) := by decide +kernel
theorem dX3_shared_33 : decode cX3_shared 33 = .ok (.iload 6, 2) := by decide +kernel
theorem dX3_shared_35 : decode cX3_shared 35 = .ok (.bipush 48, 2) := by decide +kernel
theorem dX3_shared_37 : decode cX3_shared 37 = .ok (.if_icmp .ge 23, 3) := by decide +kernel
theorem dX3_shared_40 : decode cX3_shared 40 = .ok (.aload_n 0, 1) := by decide +kernel
theorem dX3_shared_41 : decode cX3_shared 41 = .ok (.iload_n 2, 1) := by decide +kernel
theorem dX3_shared_42 : decode cX3_shared 42 = .ok (.aload_n 0, 1) := by decide +kernel
theorem dX3_shared_43 : decode cX3_shared 43 = .ok (.iload_n 1, 1) := by decide +kernel
theorem dX3_shared_44 : decode cX3_shared 44 = .ok (.iload 5, 2) := by decide +kernel
theorem dX3_shared_46 : decode cX3_shared 46 = .ok (.invokevirtual 30, 3) := by decide +kernel
theorem dX3_shared_49 : decode cX3_shared 49 = .ok (.iload 6, 2) := by decide +kernel
theorem dX3_shared_51 : decode cX3_shared 51 = .ok (.invokevirtual 33, 3) := by decide +kernel
theorem dX3_shared_54 : decode cX3_shared 54 = .ok (.ifCond .eq 6, 3) := by decide +kernel
theorem dX3_shared_57 : decode cX3_shared 57 = .ok (.iinc 4 1, 3) := by decide +kernel
theorem dX3_shared_60 : decode cX3_shared 60 = .ok (.iinc 5 1, 3) := by decide +kernel
theorem dX3_shared_63 : decode cX3_shared 63 = .ok (.goto (-57), 3) := by decide +kernel
theorem dX3_shared_66 : decode cX3_shared 66 = .ok (.iload 4, 2) := by decide +kernel
theorem dX3_shared_68 : decode cX3_shared 68 = .ok (.ireturn, 1) := by decide +kernel
set_option maxRecDepth 20000 in
theorem ggX4_init_X1_init : GoodIn wsX4_init wsX1_init := goodIn_r _ [19, 20, 2, 3, 21, 22, 23, 24, 25, 26, 27, 42, 43, 44, 45, 46, 47] (by decide +kernel) (by decide +kernel)
set_option maxRecDepth 20000 in
theorem gX4_init_X1_init : GoodIn wsX4_init (wsX1_init) := ggX4_init_X1_init
set_option maxRecDepth 20000 in
theorem ggX4_init_X0_init : GoodIn wsX4_init wsX0_init := goodIn_r _ [30, 31, 2, 3, 32, 33, 21, 34, 59, 60] (by decide +kernel) (by decide +kernel)
set_option maxRecDepth 20000 in
theorem gX4_init_X0_init : GoodIn wsX4_init (wsX0_init) := ggX4_init_X0_init
set_option maxRecDepth 20000 in
theorem ggX4_init_X2_init : GoodIn wsX4_init wsX2_init := goodIn_r _ [37, 38, 2, 3, 21, 39, 40, 41, 61, 62, 63, 64, 65] (by decide +kernel) (by decide +kernel)
set_option maxRecDepth 20000 in
theorem gX4_init_X2_init : GoodIn wsX4_init (wsX2_init) := ggX4_init_X2_init
theorem dX4_init_0 : decode cX4_init 0 = .ok (.aload_n 0, 1) := by decide +kernel
end
section
theorem dX4_init_1 : decode cX4_init 1 = .ok (.invokespecial 3, 3) := by decide +kernel
theorem dX4_init_4 : decode cX4_init 4 = .ok (.aload_n 0, 1) := by decide +kernel
theorem dX4_init_5 : decode cX4_init 5 = .ok (.new 9, 3) := by decide +kernel
theorem dX4_init_8 : decode cX4_init 8 = .ok (.dup, 1) := by decide +kernel
theorem dX4_init_9 : decode cX4_init 9 = .ok (.invokespecial 11, 3) := by decide +kernel
theorem dX4_init_12 : decode cX4_init 12 = .ok (.putfield 12, 3) := by decide +kernel
theorem dX4_init_15 : decode cX4_init 15 = .ok (.aload_n 0, 1) := by decide +kernel
theorem dX4_init_16 : decode cX4_init 16 = .ok (.new 18, 3) := by decide +kernel
theorem dX4_init_19 : decode cX4_init 19 = .ok (.dup, 1) := by decide +kernel
theorem dX4_init_20 : decode cX4_init 20 = .ok (.invokespecial 20, 3) := by decide +kernel
theorem dX4_init_23 : decode cX4_init 23 = .ok (.putfield 21, 3) := by decide +kernel
theorem dX4_init_26 : decode cX4_init 26 = .ok (.aload_n 0, 1) := by decide +kernel
theorem dX4_init_27 : decode cX4_init 27 = .ok (.new 25, 3) := by decide +kernel
theorem dX4_init_30 : decode cX4_init 30 = .ok (.dup, 1) := by decide +kernel
theorem dX4_init_31 : decode cX4_init 31 = .ok (.invokespecial 27, 3) := by decide +kernel
theorem dX4_init_34 : decode cX4_init 34 = .ok (.putfield 28, 3) := by decide +kernel
theorem dX4_init_37 : decode cX4_init 37 = .ok (.aload_n 0, 1) := by decide +kernel
theorem dX4_init_38 : decode cX4_init 38 = .ok (.iconst 4, 1) := by decide +kernel
theorem dX4_init_39 : decode cX4_init 39 = .ok (.putfield 32, 3) := by decide +kernel
theorem dX4_init_42 : decode cX4_init 42 = .ok (.return_, 1) := by decide +kernel
theorem dX4_speedNow_0 : decode cX4_speedNow 0 = .ok (.ldc 36, 2) := by decide +kernel
theorem dX4_speedNow_2 : decode cX4_speedNow 2 = .ok (.aload_n 0, 1) := by decide +kernel
theorem dX4_speedNow_3 : decode cX4_speedNow 3 = .ok (.getfield 32, 3) := by decide +kernel
theorem dX4_speedNow_6 : decode cX4_speedNow 6 = .ok (.i2f, 1) := by decide +kernel
theorem dX4_speedNow_7 : decode cX4_speedNow 7 = .ok (.fmul, 1) := by decide +kernel
theorem dX4_speedNow_8 : decode cX4_speedNow 8 = .ok (.aload_n 0, 1) := by decide +kernel
theorem dX4_speedNow_9 : decode cX4_speedNow 9 = .ok (.getfield 37, 3) := by decide +kernel
theorem dX4_speedNow_12 : decode cX4_speedNow 12 = .ok (.i2f, 1) := by decide +kernel
theorem dX4_speedNow_13 : decode cX4_speedNow 13 = .ok (.ldc 40, 2) := by decide +kernel
theorem dX4_speedNow_15 : decode cX4_speedNow 15 = .ok (.fmul, 1) := by decide +kernel
theorem dX4_speedNow_16 : decode cX4_speedNow 16 = .ok (.fadd, 1) := by decide +kernel
theorem dX4_speedNow_17 : decode cX4_speedNow 17 = .ok (.fstore_n 1, 1) := by decide +kernel
theorem dX4_speedNow_18 : decode cX4_speedNow 18 = .ok (.fload_n 1, 1) := by decide +kernel
theorem dX4_speedNow_19 : decode cX4_speedNow 19 = .ok (.fconst 2, 1) := by decide +kernel
theorem dX4_speedNow_20 : decode cX4_speedNow 20 = .ok (.fcmp .l, 1) := by decide +kernel
theorem dX4_speedNow_21 : decode cX4_speedNow 21 = .ok (.ifCond .le 7, 3) := by decide +kernel
theorem dX4_speedNow_24 : decode cX4_speedNow 24 = .ok (.fconst 2, 1) := by decide +kernel
theorem dX4_speedNow_25 : decode cX4_speedNow 25 = .ok (.goto 4, 3) := by decide +kernel
theorem dX4_speedNow_28 : decode cX4_speedNow 28 = .ok (.fload_n 1, 1) := by decide +kernel
theorem dX4_speedNow_29 : decode cX4_speedNow 29 = .ok (.freturn, 1) := by decide +kernel
set_option maxRecDepth 20000 in
theorem ggX4_run_X4_step : GoodIn wsX4_run wsX4_step := goodIn_r _ [6, 7, 8, 9, 10, 11, 12, 13, 14, 15, 1, 16, 17, 18, 19, 20, 21, 22, 5, 23, 24, 25, 26, 27, 28, 29, 30, 31, 32, 33, 34, 35, 36, 37, 38, 39, 40, 41, 42, 43, 44, 45, 46, 47, 48, 49, 50, 51, 52, 53, 54, 55, 56, 57, 58, 59, 60, 61, 62, 63, 64, 65, 66, 67, 68, 69, 70, 71, 72, 73, 74, 75, 76, 77, 78, 79, 80, 81, 82, 83, 84, 85, 86, 87, 88, 89, 90, 91, 92, 93, 94, 95, 96, 97, 98, 99] (by decide +kernel) (by decide +kernel)
set_option maxRecDepth 20000 in
theorem gX4_run_X4_step : GoodIn wsX4_run (wsV RX4 41 RX4 yX4_step wsX4_step) := goodIn_app (goodIn_of _ (by decide +kernel)) ggX4_run_X4_step
theorem dX4_run_0 : decode cX4_run 0 = .ok (.iconst 0, 1) := by decide +kernel
theorem dX4_run_1 : decode cX4_run 1 = .ok (.istore_n 2, 1) := by decide +kernel
theorem dX4_run_2 : decode cX4_run 2 = .ok (.iload_n 2, 1) := by decide +kernel
theorem dX4_run_3 : decode cX4_run 3 = .ok (.iload_n 1, 1) := by decide +kernel
theorem dX4_run_4 : decode cX4_run 4 = .ok (.if_icmp .ge 20, 3) := by decide +kernel
theorem dX4_run_7 : decode cX4_run 7 = .ok (.aload_n 0, 1) := by decide +kernel
theorem dX4_run_8 : decode cX4_run 8 = .ok (.getfield 37, 3) := by decide +kernel
theorem dX4_run_11 : decode cX4_run 11 = .ok (.ifCond .le 13, 3) := by decide +kernel
theorem dX4_run_14 : decode cX4_run 14 = .ok (.aload_n 0, 1) := by decide +kernel
theorem dX4_run_15 : decode cX4_run 15 = .ok (.invokevirtual 41, 3) := by decide +kernel
theorem dX4_run_18 : decode cX4_run 18 = .ok (.iinc 2 1, 3) := by decide +kernel
theorem dX4_run_21 : decode cX4_run 21 = .ok (.goto (-19), 3) := by decide +kernel
theorem dX4_run_24 : decode cX4_run 24 = .ok (.return_, 1) := by decide +kernel
set_option maxRecDepth 20000 in
theorem ggX4_step_X4_speedNow : GoodIn wsX4_step wsX4_speedNow := goodIn_r _ [19, 20, 21, 10, 22, 72, 73, 74, 75, 76, 77, 78, 79, 80, 81, 82] (by decide +kernel) (by decide +kernel)
set_option maxRecDepth 20000 in
theorem gX4_step_X4_speedNow : GoodIn wsX4_step (wsV RX4 50 RX4 yX4_speedNow wsX4_speedNow) := goodIn_app (goodIn_of _ (by decide +kernel)) ggX4_step_X4_speedNow
set_option maxRecDepth 20000 in
theorem ggX4_step_X0_hasPin : GoodIn wsX4_step wsX0_hasPin := goodIn_r _ [27, 28, 29, 30, 26, 31, 89, 90] (by decide +kernel) (by decide +kernel)
set_option maxRecDepth 20000 in
theorem gX4_step_X0_hasPin : GoodIn wsX4_step (wsV RX4 70 RX0 yX0_hasPin wsX0_hasPin) := goodIn_app (goodIn_of _ (by decide +kernel)) ggX4_step_X0_hasPin
set_option maxRecDepth 20000 in
theorem ggX4_step_X4_pluck : GoodIn wsX4_step wsX4_pluck := goodIn_r _ [35, 5, 4, 36, 37, 38, 1, 8, 9, 3, 39, 40, 41, 42, 43, 44, 45, 46, 47, 48, 49, 50, 51, 52, 53, 54, 55, 56, 57, 58, 59, 60, 61, 62, 63, 64, 65, 26, 66, 67, 28, 68, 69, 70, 71, 29, 30, 31, 72, 73, 74, 75, 76, 77, 78, 79, 80, 81, 82, 83, 84, 85, 86, 87, 88, 91, 92, 93, 94, 95, 89, 90] (by decide +kernel) (by decide +kernel)
set_option maxRecDepth 20000 in
theorem gX4_step_X4_pluck : GoodIn wsX4_step (wsV RX4 74 RX4 yX4_pluck wsX4_pluck) := goodIn_app (goodIn_of _ (by decide +kernel)) ggX4_step_X4_pluck
theorem dX4_step_0 : decode cX4_step 0 = .ok (.aload_n 0, 1) := by decide +kernel
theorem dX4_step_1 : decode cX4_step 1 = .ok (.dup, 1) := by decide +kernel
theorem dX4_step_2 : decode cX4_step 2 = .ok (.getfield 44, 3) := by decide +kernel
theorem dX4_step_5 : decode cX4_step 5 = .ok (.ldc2_w 48, 3) := by decide +kernel
theorem dX4_step_8 : decode cX4_step 8 = .ok (.aload_n 0, 1) := by decide +kernel
theorem dX4_step_9 : decode cX4_step 9 = .ok (.invokevirtual 50, 3) := by decide +kernel
theorem dX4_step_12 : decode cX4_step 12 = .ok (.f2d, 1) := by decide +kernel
theorem dX4_step_13 : decode cX4_step 13 = .ok (.ddiv, 1) := by decide +kernel
theorem dX4_step_14 : decode cX4_step 14 = .ok (.dadd, 1) := by decide +kernel
theorem dX4_step_15 : decode cX4_step 15 = .ok (.putfield 44, 3) := by decide +kernel
theorem dX4_step_18 : decode cX4_step 18 = .ok (.aload_n 0, 1) := by decide +kernel
theorem dX4_step_19 : decode cX4_step 19 = .ok (.aload_n 0, 1) := by decide +kernel
theorem dX4_step_20 : decode cX4_step 20 = .ok (.getfield 54, 3) := by decide +kernel
theorem dX4_step_23 : decode cX4_step 23 = .ok (.iconst 1, 1) := by decide +kernel
theorem dX4_step_24 : decode cX4_step 24 = .ok (.iadd, 1) := by decide +kernel
theorem dX4_step_25 : decode cX4_step 25 = .ok (.bipush 64, 2) := by decide +kernel
theorem dX4_step_27 : decode cX4_step 27 = .ok (.irem, 1) := by decide +kernel
theorem dX4_step_28 : decode cX4_step 28 = .ok (.putfield 54, 3) := by decide +kernel
theorem dX4_step_31 : decode cX4_step 31 = .ok (.aload_n 0, 1) := by decide +kernel
theorem dX4_step_32 : decode cX4_step 32 = .ok (.dup, 1) := by decide +kernel
theorem dX4_step_33 : decode cX4_step 33 = .ok (.getfield 57, 3) := by decide +kernel
theorem dX4_step_36 : decode cX4_step 36 = .ok (.iconst 1, 1) := by decide +kernel
theorem dX4_step_37 : decode cX4_step 37 = .ok (.iadd, 1) := by decide +kernel
theorem dX4_step_38 : decode cX4_step 38 = .ok (.putfield 57, 3) := by decide +kernel
theorem dX4_step_41 : decode cX4_step 41 = .ok (.iconst 0, 1) := by decide +kernel
theorem dX4_step_42 : decode cX4_step 42 = .ok (.istore_n 1, 1) := by decide +kernel
theorem dX4_step_43 : decode cX4_step 43 = .ok (.iconst 0, 1) := by decide +kernel
theorem dX4_step_44 : decode cX4_step 44 = .ok (.istore_n 2, 1) := by decide +kernel
theorem dX4_step_45 : decode cX4_step 45 = .ok (.iload_n 2, 1) := by decide +kernel
theorem dX4_step_46 : decode cX4_step 46 = .ok (.aload_n 0, 1) := by decide +kernel
theorem dX4_step_47 : decode cX4_step 47 = .ok (.getfield 12, 3) := by decide +kernel
theorem dX4_step_50 : decode cX4_step 50 = .ok (.getfield 60, 3) := by decide +kernel
theorem dX4_step_53 : decode cX4_step 53 = .ok (.if_icmp .ge 48, 3) := by decide +kernel
theorem dX4_step_56 : decode cX4_step 56 = .ok (.aload_n 0, 1) := by decide +kernel
theorem dX4_step_57 : decode cX4_step 57 = .ok (.getfield 12, 3) := by decide +kernel
theorem dX4_step_60 : decode cX4_step 60 = .ok (.getfield 63, 3) := by decide +kernel
theorem dX4_step_63 : decode cX4_step 63 = .ok (.iload_n 2, 1) := by decide +kernel
theorem dX4_step_64 : decode cX4_step 64 = .ok (.baload, 1) := by decide +kernel
theorem dX4_step_65 : decode cX4_step 65 = .ok (.ifCond .ne 30, 3) := by decide +kernel
theorem dX4_step_68 : decode cX4_step 68 = .ok (.aload_n 0, 1) := by decide +kernel
theorem dX4_step_69 : decode cX4_step 69 = .ok (.getfield 21, 3) := by decide +kernel
theorem dX4_step_72 : decode cX4_step 72 = .ok (.iload_n 2, 1) := by decide +kernel
theorem dX4_step_73 : decode cX4_step 73 = .ok (.aload_n 0, 1) := by decide +kernel
theorem dX4_step_74 : decode cX4_step 74 = .ok (.getfield 67, 3) := by decide +kernel
theorem dX4_step_77 : decode cX4_step 77 = .ok (.aload_n 0, 1) := by decide +kernel
theorem dX4_step_78 : decode cX4_step 78 = .ok (.getfield 54, 3) := by decide +kernel
theorem dX4_step_81 : decode cX4_step 81 = .ok (.invokevirtual 70, 3) := by decide +kernel
theorem dX4_step_84 : decode cX4_step 84 = .ok (.ifCond .eq 11, 3) := by decide +kernel
theorem dX4_step_87 : decode cX4_step 87 = .ok (.aload_n 0, 1) := by decide +kernel
theorem dX4_step_88 : decode cX4_step 88 = .ok (.iload_n 2, 1) := by decide +kernel
theorem dX4_step_89 : decode cX4_step 89 = .ok (.invokevirtual 74, 3) := by decide +kernel
theorem dX4_step_92 : decode cX4_step 92 = .ok (.iinc 1 1, 3) := by decide +kernel
theorem dX4_step_95 : decode cX4_step 95 = .ok (.iinc 2 1, 3) := by decide +kernel
theorem dX4_step_98 : decode cX4_step 98 = .ok (.goto (-53), 3) := by decide +kernel
theorem dX4_step_101 : decode cX4_step 101 = .ok (.aload_n 0, 1) := by decide +kernel
theorem dX4_step_102 : decode cX4_step 102 = .ok (.iconst 0, 1) := by decide +kernel
theorem dX4_step_103 : decode cX4_step 103 = .ok (.aload_n 0, 1) := by decide +kernel
theorem dX4_step_104 : decode cX4_step 104 = .ok (.getfield 37, 3) := by decide +kernel
theorem dX4_step_107 : decode cX4_step 107 = .ok (.iconst 2, 1) := by decide +kernel
theorem dX4_step_108 : decode cX4_step 108 = .ok (.isub, 1) := by decide +kernel
theorem dX4_step_109 : decode cX4_step 109 = .ok (.iload_n 1, 1) := by decide +kernel
theorem dX4_step_110 : decode cX4_step 110 = .ok (.isub, 1) := by decide +kernel
theorem dX4_step_111 : decode cX4_step 111 = .ok (.invokestatic 78, 3) := by decide +kernel
theorem dX4_step_114 : decode cX4_step 114 = .ok (.putfield 37, 3) := by decide +kernel
theorem dX4_step_117 : decode cX4_step 117 = .ok (.return_, 1) := by decide +kernel
set_option maxRecDepth 20000 in
theorem ggX4_pluck_X1_pluckTooth : GoodIn wsX4_pluck wsX1_pluckTooth := goodIn_r _ [15, 16, 17, 18, 19, 59, 60, 61, 62, 63, 64] (by decide +kernel) (by decide +kernel)
set_option maxRecDepth 20000 in
theorem gX4_pluck_X1_pluckTooth : GoodIn wsX4_pluck (wsV RX4 84 RX1 yX1_pluckTooth wsX1_pluckTooth) := goodIn_app (goodIn_of _ (by decide +kernel)) ggX4_pluck_X1_pluckTooth
set_option maxRecDepth 20000 in
theorem ggX4_pluck_X2_addSound : GoodIn wsX4_pluck wsX2_addSound := goodIn_r _ [24, 25, 26, 27, 28, 29, 30, 31, 32, 23, 33, 65, 66, 67, 68, 69] (by decide +kernel) (by decide +kernel)
set_option maxRecDepth 20000 in
theorem gX4_pluck_X2_addSound : GoodIn wsX4_pluck (wsV RX4 95 RX2 yX2_addSound wsX2_addSound) := goodIn_app (goodIn_of _ (by decide +kernel)) ggX4_pluck_X2_addSound
set_option maxRecDepth 20000 in
theorem ggX4_pluck_X0_wearDown : GoodIn wsX4_pluck wsX0_wearDown := goodIn_r _ [38, 39, 40, 41, 42, 43, 37, 44, 45, 46, 47, 70, 71] (by decide +kernel) (by decide +kernel)
set_option maxRecDepth 20000 in
theorem gX4_pluck_X0_wearDown : GoodIn wsX4_pluck (wsV RX4 99 RX0 yX0_wearDown wsX0_wearDown) := goodIn_app (goodIn_of _ (by decide +kernel)) ggX4_pluck_X0_wearDown
theorem dX4_pluck_0 : decode cX4_pluck 0 = .ok (.aload_n 0, 1) := by decide +kernel
theorem dX4_pluck_1 : decode cX4_pluck 1 = .ok (.getfield 12, 3) := by decide +kernel
theorem dX4_pluck_4 : decode cX4_pluck 4 = .ok (.iload_n 1, 1) := by decide +kernel
theorem dX4_pluck_5 : decode cX4_pluck 5 = .ok (.aload_n 0, 1) := by decide +kernel
theorem dX4_pluck_6 : decode cX4_pluck 6 = .ok (.getfield 57, 3) := by decide +kernel
theorem dX4_pluck_9 : decode cX4_pluck 9 = .ok (.invokevirtual 84, 3) := by decide +kernel
theorem dX4_pluck_12 : decode cX4_pluck 12 = .ok (.ifCond .eq 16, 3) := by decide +kernel
theorem dX4_pluck_15 : decode cX4_pluck 15 = .ok (.aload_n 0, 1) := by decide +kernel
theorem dX4_pluck_16 : decode cX4_pluck 16 = .ok (.dup, 1) := by decide +kernel
theorem dX4_pluck_17 : decode cX4_pluck 17 = .ok (.getfield 88, 3) := by decide +kernel
theorem dX4_pluck_20 : decode cX4_pluck 20 = .ok (.iconst 1, 1) := by decide +kernel
theorem dX4_pluck_21 : decode cX4_pluck 21 = .ok (.iadd, 1) := by decide +kernel
theorem dX4_pluck_22 : decode cX4_pluck 22 = .ok (.putfield 88, 3) := by decide +kernel
theorem dX4_pluck_25 : decode cX4_pluck 25 = .ok (.goto 23, 3) := by decide +kernel
theorem dX4_pluck_28 : decode cX4_pluck 28 = .ok (.aload_n 0, 1) := by decide +kernel
theorem dX4_pluck_29 : decode cX4_pluck 29 = .ok (.getfield 28, 3) := by decide +kernel
theorem dX4_pluck_32 : decode cX4_pluck 32 = .ok (.aload_n 0, 1) := by decide +kernel
theorem dX4_pluck_33 : decode cX4_pluck 33 = .ok (.getfield 12, 3) := by decide +kernel
theorem dX4_pluck_36 : decode cX4_pluck 36 = .ok (.getfield 91, 3) := by decide +kernel
theorem dX4_pluck_39 : decode cX4_pluck 39 = .ok (.iload_n 1, 1) := by decide +kernel
theorem dX4_pluck_40 : decode cX4_pluck 40 = .ok (.iaload, 1) := by decide +kernel
theorem dX4_pluck_41 : decode cX4_pluck 41 = .ok (.aload_n 0, 1) := by decide +kernel
theorem dX4_pluck_42 : decode cX4_pluck 42 = .ok (.getfield 44, 3) := by decide +kernel
theorem dX4_pluck_45 : decode cX4_pluck 45 = .ok (.invokevirtual 95, 3) := by decide +kernel
theorem dX4_pluck_48 : decode cX4_pluck 48 = .ok (.aload_n 0, 1) := by decide +kernel
theorem dX4_pluck_49 : decode cX4_pluck 49 = .ok (.getfield 21, 3) := by decide +kernel
theorem dX4_pluck_52 : decode cX4_pluck 52 = .ok (.iload_n 1, 1) := by decide +kernel
theorem dX4_pluck_53 : decode cX4_pluck 53 = .ok (.aload_n 0, 1) := by decide +kernel
theorem dX4_pluck_54 : decode cX4_pluck 54 = .ok (.getfield 67, 3) := by decide +kernel
theorem dX4_pluck_57 : decode cX4_pluck 57 = .ok (.aload_n 0, 1) := by decide +kernel
theorem dX4_pluck_58 : decode cX4_pluck 58 = .ok (.getfield 54, 3) := by decide +kernel
theorem dX4_pluck_61 : decode cX4_pluck 61 = .ok (.invokevirtual 99, 3) := by decide +kernel
theorem dX4_pluck_64 : decode cX4_pluck 64 = .ok (.ifCond .eq 13, 3) := by decide +kernel
theorem dX4_pluck_67 : decode cX4_pluck 67 = .ok (.aload_n 0, 1) := by decide +kernel
theorem dX4_pluck_68 : decode cX4_pluck 68 = .ok (.dup, 1) := by decide +kernel
theorem dX4_pluck_69 : decode cX4_pluck 69 = .ok (.getfield 102, 3) := by decide +kernel
theorem dX4_pluck_72 : decode cX4_pluck 72 = .ok (.iconst 1, 1) := by decide +kernel
theorem dX4_pluck_73 : decode cX4_pluck 73 = .ok (.iadd, 1) := by decide +kernel
theorem dX4_pluck_74 : decode cX4_pluck 74 = .ok (.putfield 102, 3) := by decide +kernel
theorem dX4_pluck_77 : decode cX4_pluck 77 = .ok (.return_, 1) := by decide +kernel
set_option maxRecDepth 20000 in
theorem ggX4_takeOver_X1_takeTeeth : GoodIn wsX4_takeOver wsX1_takeTeeth := goodIn_r _ [15, 16, 17, 18, 19, 20, 21, 54, 55, 56, 57, 58, 59] (by decide +kernel) (by decide +kernel)
set_option maxRecDepth 20000 in
theorem gX4_takeOver_X1_takeTeeth : GoodIn wsX4_takeOver (wsV RX4 105 RX1 yX1_takeTeeth wsX1_takeTeeth) := goodIn_app (goodIn_of _ (by decide +kernel)) ggX4_takeOver_X1_takeTeeth
set_option maxRecDepth 20000 in
theorem ggX4_takeOver_X0_takePins : GoodIn wsX4_takeOver wsX0_takePins := goodIn_r _ [26, 27, 28, 29, 30, 31, 32, 33, 25, 34, 60, 61] (by decide +kernel) (by decide +kernel)
set_option maxRecDepth 20000 in
theorem gX4_takeOver_X0_takePins : GoodIn wsX4_takeOver (wsV RX4 109 RX0 yX0_takePins wsX0_takePins) := goodIn_app (goodIn_of _ (by decide +kernel)) ggX4_takeOver_X0_takePins
set_option maxRecDepth 20000 in
theorem ggX4_takeOver_X0_takeWears : GoodIn wsX4_takeOver wsX0_takeWears := goodIn_r _ [38, 39, 28, 29, 30, 31, 40, 41, 25, 42, 60, 61] (by decide +kernel) (by decide +kernel)
set_option maxRecDepth 20000 in
theorem gX4_takeOver_X0_takeWears : GoodIn wsX4_takeOver (wsV RX4 113 RX0 yX0_takeWears wsX0_takeWears) := goodIn_app (goodIn_of _ (by decide +kernel)) ggX4_takeOver_X0_takeWears
theorem dX4_takeOver_0 : decode cX4_takeOver 0 = .ok (.aload_n 0, 1) := by decide +kernel
theorem dX4_takeOver_1 : decode cX4_takeOver 1 = .ok (.getfield 12, 3) := by decide +kernel
theorem dX4_takeOver_4 : decode cX4_takeOver 4 = .ok (.aload_n 1, 1) := by decide +kernel
theorem dX4_takeOver_5 : decode cX4_takeOver 5 = .ok (.getfield 12, 3) := by decide +kernel
theorem dX4_takeOver_8 : decode cX4_takeOver 8 = .ok (.invokevirtual 105, 3) := by decide +kernel
theorem dX4_takeOver_11 : decode cX4_takeOver 11 = .ok (.aload_n 0, 1) := by decide +kernel
theorem dX4_takeOver_12 : decode cX4_takeOver 12 = .ok (.getfield 21, 3) := by decide +kernel
theorem dX4_takeOver_15 : decode cX4_takeOver 15 = .ok (.aload_n 1, 1) := by decide +kernel
theorem dX4_takeOver_16 : decode cX4_takeOver 16 = .ok (.getfield 21, 3) := by decide +kernel
theorem dX4_takeOver_19 : decode cX4_takeOver 19 = .ok (.aload_n 1, 1) := by decide +kernel
theorem dX4_takeOver_20 : decode cX4_takeOver 20 = .ok (.getfield 67, 3) := by decide +kernel
theorem dX4_takeOver_23 : decode cX4_takeOver 23 = .ok (.invokevirtual 109, 3) := by decide +kernel
theorem dX4_takeOver_26 : decode cX4_takeOver 26 = .ok (.aload_n 0, 1) := by decide +kernel
theorem dX4_takeOver_27 : decode cX4_takeOver 27 = .ok (.getfield 21, 3) := by decide +kernel
theorem dX4_takeOver_30 : decode cX4_takeOver 30 = .ok (.aload_n 1, 1) := by decide +kernel
theorem dX4_takeOver_31 : decode cX4_takeOver 31 = .ok (.getfield 21, 3) := by decide +kernel
theorem dX4_takeOver_34 : decode cX4_takeOver 34 = .ok (.aload_n 1, 1) := by decide +kernel
theorem dX4_takeOver_35 : decode cX4_takeOver 35 = .ok (.getfield 67, 3) := by decide +kernel
theorem dX4_takeOver_38 : decode cX4_takeOver 38 = .ok (.invokevirtual 113, 3) := by decide +kernel
theorem dX4_takeOver_41 : decode cX4_takeOver 41 = .ok (.aload_n 0, 1) := by decide +kernel
theorem dX4_takeOver_42 : decode cX4_takeOver 42 = .ok (.aload_n 1, 1) := by decide +kernel
theorem dX4_takeOver_43 : decode cX4_takeOver 43 = .ok (.getfield 37, 3) := by decide +kernel
theorem dX4_takeOver_46 : decode cX4_takeOver 46 = .ok (.putfield 37, 3) := by decide +kernel
theorem dX4_takeOver_49 : decode cX4_takeOver 49 = .ok (.aload_n 0, 1) := by decide +kernel
theorem dX4_takeOver_50 : decode cX4_takeOver 50 = .ok (.aload_n 1, 1) := by decide +kernel
theorem dX4_takeOver_51 : decode cX4_takeOver 51 = .ok (.getfield 32, 3) := by decide +kernel
theorem dX4_takeOver_54 : decode cX4_takeOver 54 = .ok (.putfield 32, 3) := by decide +kernel
theorem dX4_takeOver_57 : decode cX4_takeOver 57 = .ok (.aload_n 0, 1) := by decide +kernel
theorem dX4_takeOver_58 : decode cX4_takeOver 58 = .ok (.aload_n 1, 1) := by decide +kernel
theorem dX4_takeOver_59 : decode cX4_takeOver 59 = .ok (.getfield 54, 3) := by decide +kernel
theorem dX4_takeOver_62 : decode cX4_takeOver 62 = .ok (.putfield 54, 3) := by decide +kernel
theorem dX4_takeOver_65 : decode cX4_takeOver 65 = .ok (.aload_n 0, 1) := by decide +kernel
theorem dX4_takeOver_66 : decode cX4_takeOver 66 = .ok (.aload_n 1, 1) := by decide +kernel
theorem dX4_takeOver_67 : decode cX4_takeOver 67 = .ok (.getfield 67, 3) := by decide +kernel
theorem dX4_takeOver_70 : decode cX4_takeOver 70 = .ok (.putfield 67, 3) := by decide +kernel
theorem dX4_takeOver_73 : decode cX4_takeOver 73 = .ok (.aload_n 0, 1) := by decide +kernel
theorem dX4_takeOver_74 : decode cX4_takeOver 74 = .ok (.aload_n 1, 1) := by decide +kernel
theorem dX4_takeOver_75 : decode cX4_takeOver 75 = .ok (.getfield 57, 3) := by decide +kernel
theorem dX4_takeOver_78 : decode cX4_takeOver 78 = .ok (.putfield 57, 3) := by decide +kernel
theorem dX4_takeOver_81 : decode cX4_takeOver 81 = .ok (.aload_n 0, 1) := by decide +kernel
theorem dX4_takeOver_82 : decode cX4_takeOver 82 = .ok (.aload_n 1, 1) := by decide +kernel
theorem dX4_takeOver_83 : decode cX4_takeOver 83 = .ok (.getfield 88, 3) := by decide +kernel
theorem dX4_takeOver_86 : decode cX4_takeOver 86 = .ok (.putfield 88, 3) := by decide +kernel
theorem dX4_takeOver_89 : decode cX4_takeOver 89 = .ok (.aload_n 0, 1) := by decide +kernel
theorem dX4_takeOver_90 : decode cX4_takeOver 90 = .ok (.aload_n 1, 1) := by decide +kernel
theorem dX4_takeOver_91 : decode cX4_takeOver 91 = .ok (.getfield 102, 3) := by decide +kernel
theorem dX4_takeOver_94 : decode cX4_takeOver 94 = .ok (.putfield 102, 3) := by decide +kernel
theorem dX4_takeOver_97 : decode cX4_takeOver 97 = .ok (.aload_n 0, 1) := by decide +kernel
theorem dX4_takeOver_98 : decode cX4_takeOver 98 = .ok (.aload_n 1, 1) := by decide +kernel
theorem dX4_takeOver_99 : decode cX4_takeOver 99 = .ok (.getfield 44, 3) := by decide +kernel
theorem dX4_takeOver_102 : decode cX4_takeOver 102 = .ok (.putfield 44, 3) := by decide +kernel
theorem dX4_takeOver_105 : decode cX4_takeOver 105 = .ok (.return_, 1) := by decide +kernel
set_option maxRecDepth 20000 in
theorem ggX5_init_X3_init : GoodIn wsX5_init wsX3_init := goodIn_r _ [21, 22, 2, 3, 23, 24, 25, 67, 68, 69] (by decide +kernel) (by decide +kernel)
set_option maxRecDepth 20000 in
theorem gX5_init_X3_init : GoodIn wsX5_init (wsX3_init) := ggX5_init_X3_init
set_option maxRecDepth 20000 in
theorem ggX5_init_X4_init : GoodIn wsX5_init wsX4_init := goodIn_r _ [28, 29, 2, 3, 30, 31, 32, 33, 34, 35, 36, 37, 38, 39, 40, 41, 42, 43, 44, 45, 46, 23, 47, 48, 49, 50, 51, 52, 53, 54, 55, 56, 57, 58, 59, 60, 61, 62, 63, 64, 65, 66, 88, 89, 90, 91, 92, 93, 77, 78, 79, 80, 81, 82, 83, 84, 85, 86, 87, 94, 95, 96, 97, 98, 99, 100] (by decide +kernel) (by decide +kernel)
set_option maxRecDepth 20000 in
theorem gX5_init_X4_init : GoodIn wsX5_init (wsX4_init) := ggX5_init_X4_init
theorem dX5_init_0 : decode cX5_init 0 = .ok (.aload_n 0, 1) := by decide +kernel
theorem dX5_init_1 : decode cX5_init 1 = .ok (.invokespecial 1, 3) := by decide +kernel
theorem dX5_init_4 : decode cX5_init 4 = .ok (.aload_n 0, 1) := by decide +kernel
theorem dX5_init_5 : decode cX5_init 5 = .ok (.new 7, 3) := by decide +kernel
theorem dX5_init_8 : decode cX5_init 8 = .ok (.dup, 1) := by decide +kernel
theorem dX5_init_9 : decode cX5_init 9 = .ok (.invokespecial 9, 3) := by decide +kernel
theorem dX5_init_12 : decode cX5_init 12 = .ok (.putfield 10, 3) := by decide +kernel
theorem dX5_init_15 : decode cX5_init 15 = .ok (.aload_n 0, 1) := by decide +kernel
theorem dX5_init_16 : decode cX5_init 16 = .ok (.new 16, 3) := by decide +kernel
theorem dX5_init_19 : decode cX5_init 19 = .ok (.dup, 1) := by decide +kernel
theorem dX5_init_20 : decode cX5_init 20 = .ok (.invokespecial 18, 3) := by decide +kernel
theorem dX5_init_23 : decode cX5_init 23 = .ok (.putfield 19, 3) := by decide +kernel
theorem dX5_init_26 : decode cX5_init 26 = .ok (.aload_n 0, 1) := by decide +kernel
theorem dX5_init_27 : decode cX5_init 27 = .ok (.aload_n 0, 1) := by decide +kernel
theorem dX5_init_28 : decode cX5_init 28 = .ok (.getfield 19, 3) := by decide +kernel
theorem dX5_init_31 : decode cX5_init 31 = .ok (.getfield 23, 3) := by decide +kernel
theorem dX5_init_34 : decode cX5_init 34 = .ok (.putfield 27, 3) := by decide +kernel
theorem dX5_init_37 : decode cX5_init 37 = .ok (.aload_n 0, 1) := by decide +kernel
theorem dX5_init_38 : decode cX5_init 38 = .ok (.aload_n 0, 1) := by decide +kernel
theorem dX5_init_39 : decode cX5_init 39 = .ok (.getfield 19, 3) := by decide +kernel
theorem dX5_init_42 : decode cX5_init 42 = .ok (.getfield 28, 3) := by decide +kernel
theorem dX5_init_45 : decode cX5_init 45 = .ok (.putfield 32, 3) := by decide +kernel
theorem dX5_init_48 : decode cX5_init 48 = .ok (.aload_n 0, 1) := by decide +kernel
theorem dX5_init_49 : decode cX5_init 49 = .ok (.aload_n 0, 1) := by decide +kernel
theorem dX5_init_50 : decode cX5_init 50 = .ok (.getfield 19, 3) := by decide +kernel
theorem dX5_init_53 : decode cX5_init 53 = .ok (.getfield 33, 3) := by decide +kernel
theorem dX5_init_56 : decode cX5_init 56 = .ok (.putfield 37, 3) := by decide +kernel
theorem dX5_init_59 : decode cX5_init 59 = .ok (.aload_n 0, 1) := by decide +kernel
theorem dX5_init_60 : decode cX5_init 60 = .ok (.new 16, 3) := by decide +kernel
theorem dX5_init_63 : decode cX5_init 63 = .ok (.dup, 1) := by decide +kernel
theorem dX5_init_64 : decode cX5_init 64 = .ok (.invokespecial 18, 3) := by decide +kernel
theorem dX5_init_67 : decode cX5_init 67 = .ok (.putfield 38, 3) := by decide +kernel
theorem dX5_init_70 : decode cX5_init 70 = .ok (.return_, 1) := by decide +kernel
set_option maxRecDepth 20000 in
theorem ggX5_tooth_X5_needPitch : GoodIn wsX5_tooth wsX5_needPitch := goodIn_ca (goodIn_r _ [8, 9, 10] (by decide +kernel) (by decide +kernel)) (goodIn_sub (fun _ h => List.mem_cons_of_mem _ (List.mem_append_right _ h)) (by decide +kernel))
set_option maxRecDepth 20000 in
theorem gX5_tooth_X5_needPitch : GoodIn wsX5_tooth (va_wsS RX5 41 yX5_needPitch wsX5_needPitch) := goodIn_app (goodIn_of _ (by decide +kernel)) ggX5_tooth_X5_needPitch
set_option maxRecDepth 20000 in
theorem ggX5_tooth_X1_addTooth : GoodIn wsX5_tooth wsX1_addTooth := goodIn_r _ [15, 16, 17, 25, 26, 27, 28, 29, 30] (by decide +kernel) (by decide +kernel)
set_option maxRecDepth 20000 in
theorem gX5_tooth_X1_addTooth : GoodIn wsX5_tooth (wsV RX5 58 RX1 yX1_addTooth wsX1_addTooth) := goodIn_app (goodIn_of _ (by decide +kernel)) ggX5_tooth_X1_addTooth
theorem dX5_tooth_0 : decode cX5_tooth 0 = .ok (.iload_n 1, 1) := by decide +kernel
theorem dX5_tooth_1 : decode cX5_tooth 1 = .ok (.invokestatic 41, 3) := by decide +kernel
theorem dX5_tooth_4 : decode cX5_tooth 4 = .ok (.aload_n 0, 1) := by decide +kernel
theorem dX5_tooth_5 : decode cX5_tooth 5 = .ok (.getfield 27, 3) := by decide +kernel
theorem dX5_tooth_8 : decode cX5_tooth 8 = .ok (.getfield 45, 3) := by decide +kernel
theorem dX5_tooth_11 : decode cX5_tooth 11 = .ok (.bipush 24, 2) := by decide +kernel
theorem dX5_tooth_13 : decode cX5_tooth 13 = .ok (.if_icmp .lt 13, 3) := by decide +kernel
theorem dX5_tooth_16 : decode cX5_tooth 16 = .ok (.new 51, 3) := by decide +kernel
theorem dX5_tooth_19 : decode cX5_tooth 19 = .ok (.dup, 1) := by decide +kernel
theorem dX5_tooth_20 : decode cX5_tooth 20 = .ok (.ldc 53, 2) := by decide +kernel
theorem dX5_tooth_22 : decode cX5_tooth 22 = .ok (.invokespecial 55, 3) := by decide +kernel
theorem dX5_tooth_25 : decode cX5_tooth 25 = .ok (.athrow, 1) := by decide +kernel
theorem dX5_tooth_26 : decode cX5_tooth 26 = .ok (.aload_n 0, 1) := by decide +kernel
theorem dX5_tooth_27 : decode cX5_tooth 27 = .ok (.getfield 27, 3) := by decide +kernel
theorem dX5_tooth_30 : decode cX5_tooth 30 = .ok (.iload_n 1, 1) := by decide +kernel
theorem dX5_tooth_31 : decode cX5_tooth 31 = .ok (.invokevirtual 58, 3) := by decide +kernel
theorem dX5_tooth_34 : decode cX5_tooth 34 = .ok (.ireturn, 1) := by decide +kernel
set_option maxRecDepth 20000 in
theorem ggX5_file_X5_needTooth : GoodIn wsX5_file wsX5_needTooth := goodIn_ca (goodIn_r _ [7, 8, 9, 1, 10, 16, 17, 18, 19, 20, 21, 22, 23, 24, 25, 26, 27, 28] (by decide +kernel) (by decide +kernel)) (goodIn_sub (fun _ h => List.mem_cons_of_mem _ (List.mem_append_left _ (List.mem_append_right _ h))) (by decide +kernel))
set_option maxRecDepth 20000 in
theorem gX5_file_X5_needTooth : GoodIn wsX5_file (wsV RX5 62 RX5 yX5_needTooth wsX5_needTooth) := goodIn_app (goodIn_of _ (by decide +kernel)) ggX5_file_X5_needTooth
set_option maxRecDepth 20000 in
theorem ggX5_file_X5_needPitch : GoodIn wsX5_file wsX5_needPitch := goodIn_ca (goodIn_r _ [13, 14, 15] (by decide +kernel) (by decide +kernel)) (goodIn_sub (fun _ h => List.mem_cons_of_mem _ (List.mem_append_right _ h)) (by decide +kernel))
set_option maxRecDepth 20000 in
theorem gX5_file_X5_needPitch : GoodIn wsX5_file (va_wsS RX5 41 yX5_needPitch wsX5_needPitch) := goodIn_app (goodIn_of _ (by decide +kernel)) ggX5_file_X5_needPitch
theorem dX5_file_0 : decode cX5_file 0 = .ok (.aload_n 0, 1) := by decide +kernel
theorem dX5_file_1 : decode cX5_file 1 = .ok (.iload_n 1, 1) := by decide +kernel
theorem dX5_file_2 : decode cX5_file 2 = .ok (.invokevirtual 62, 3) := by decide +kernel
theorem dX5_file_5 : decode cX5_file 5 = .ok (.iload_n 2, 1) := by decide +kernel
theorem dX5_file_6 : decode cX5_file 6 = .ok (.invokestatic 41, 3) := by decide +kernel
theorem dX5_file_9 : decode cX5_file 9 = .ok (.aload_n 0, 1) := by decide +kernel
theorem dX5_file_10 : decode cX5_file 10 = .ok (.getfield 27, 3) := by decide +kernel
theorem dX5_file_13 : decode cX5_file 13 = .ok (.getfield 65, 3) := by decide +kernel
theorem dX5_file_16 : decode cX5_file 16 = .ok (.iload_n 1, 1) := by decide +kernel
theorem dX5_file_17 : decode cX5_file 17 = .ok (.iaload, 1) := by decide +kernel
theorem dX5_file_18 : decode cX5_file 18 = .ok (.istore_n 3, 1) := by decide +kernel
theorem dX5_file_19 : decode cX5_file 19 = .ok (.aload_n 0, 1) := by decide +kernel
theorem dX5_file_20 : decode cX5_file 20 = .ok (.getfield 27, 3) := by decide +kernel
theorem dX5_file_23 : decode cX5_file 23 = .ok (.getfield 65, 3) := by decide +kernel
theorem dX5_file_26 : decode cX5_file 26 = .ok (.iload_n 1, 1) := by decide +kernel
theorem dX5_file_27 : decode cX5_file 27 = .ok (.iload_n 2, 1) := by decide +kernel
theorem dX5_file_28 : decode cX5_file 28 = .ok (.iastore, 1) := by decide +kernel
theorem dX5_file_29 : decode cX5_file 29 = .ok (.iload_n 3, 1) := by decide +kernel
theorem dX5_file_30 : decode cX5_file 30 = .ok (.ireturn, 1) := by decide +kernel
theorem dX5_tune_0 : decode cX5_tune 0 = .ok (.aload_n 0, 1) := by decide +kernel
theorem dX5_tune_1 : decode cX5_tune 1 = .ok (.getfield 10, 3) := by decide +kernel
theorem dX5_tune_4 : decode cX5_tune 4 = .ok (.getfield 69, 3) := by decide +kernel
theorem dX5_tune_7 : decode cX5_tune 7 = .ok (.iconst 4, 1) := by decide +kernel
theorem dX5_tune_8 : decode cX5_tune 8 = .ok (.if_icmp .lt 13, 3) := by decide +kernel
theorem dX5_tune_11 : decode cX5_tune 11 = .ok (.new 51, 3) := by decide +kernel
theorem dX5_tune_14 : decode cX5_tune 14 = .ok (.dup, 1) := by decide +kernel
theorem dX5_tune_15 : decode cX5_tune 15 = .ok (.ldc 70, 2) := by decide +kernel
theorem dX5_tune_17 : decode cX5_tune 17 = .ok (.invokespecial 55, 3) := by decide +kernel
theorem dX5_tune_20 : decode cX5_tune 20 = .ok (.athrow, 1) := by decide +kernel
theorem dX5_tune_21 : decode cX5_tune 21 = .ok (.aload_n 0, 1) := by decide +kernel
theorem dX5_tune_22 : decode cX5_tune 22 = .ok (.getfield 10, 3) := by decide +kernel
theorem dX5_tune_25 : decode cX5_tune 25 = .ok (.dup, 1) := by decide +kernel
theorem dX5_tune_26 : decode cX5_tune 26 = .ok (.getfield 69, 3) := by decide +kernel
theorem dX5_tune_29 : decode cX5_tune 29 = .ok (.iconst 1, 1) := by decide +kernel
theorem dX5_tune_30 : decode cX5_tune 30 = .ok (.iadd, 1) := by decide +kernel
theorem dX5_tune_31 : decode cX5_tune 31 = .ok (.putfield 69, 3) := by decide +kernel
theorem dX5_tune_34 : decode cX5_tune 34 = .ok (.aload_n 0, 1) := by decide +kernel
theorem dX5_tune_35 : decode cX5_tune 35 = .ok (.getfield 10, 3) := by decide +kernel
theorem dX5_tune_38 : decode cX5_tune 38 = .ok (.getfield 69, 3) := by decide +kernel
theorem dX5_tune_41 : decode cX5_tune 41 = .ok (.iconst 1, 1) := by decide +kernel
theorem dX5_tune_42 : decode cX5_tune 42 = .ok (.isub, 1) := by decide +kernel
theorem dX5_tune_43 : decode cX5_tune 43 = .ok (.ireturn, 1) := by decide +kernel
set_option maxRecDepth 20000 in
theorem ggX5_note_X5_needTune : GoodIn wsX5_note wsX5_needTune := goodIn_ca (goodIn_r _ [11, 12, 13, 5, 14, 37, 38, 39, 40, 41, 42, 43, 44, 45, 46] (by decide +kernel) (by decide +kernel)) (goodIn_sub (fun _ h => List.mem_cons_of_mem _ (List.mem_append_right _ h)) (by decide +kernel))
set_option maxRecDepth 20000 in
theorem gX5_note_X5_needTune : GoodIn wsX5_note (wsV RX5 72 RX5 yX5_needTune wsX5_needTune) := goodIn_app (goodIn_of _ (by decide +kernel)) ggX5_note_X5_needTune
set_option maxRecDepth 20000 in
theorem ggX5_note_X5_needPitch : GoodIn wsX5_note wsX5_needPitch := goodIn_ca (goodIn_r _ [17, 1, 2] (by decide +kernel) (by decide +kernel)) (goodIn_sub (fun _ h => List.mem_cons_of_mem _ (List.mem_append_left _ (List.mem_append_left _ (List.mem_append_right _ h)))) (by decide +kernel))
set_option maxRecDepth 20000 in
theorem gX5_note_X5_needPitch : GoodIn wsX5_note (va_wsS RX5 41 yX5_needPitch wsX5_needPitch) := goodIn_app (goodIn_of _ (by decide +kernel)) ggX5_note_X5_needPitch
set_option maxRecDepth 20000 in
theorem ggX5_note_X3_holds : GoodIn wsX5_note wsX3_holds := goodIn_r _ [22, 23, 24, 25, 26, 27, 21, 28, 44, 45, 46] (by decide +kernel) (by decide +kernel)
set_option maxRecDepth 20000 in
theorem gX5_note_X3_holds : GoodIn wsX5_note (wsV RX5 80 RX3 yX3_holds wsX3_holds) := goodIn_app (goodIn_of _ (by decide +kernel)) ggX5_note_X3_holds
set_option maxRecDepth 20000 in
theorem ggX5_note_X3_strike : GoodIn wsX5_note wsX3_strike := goodIn_r _ [32, 23, 24, 25, 26, 27, 21, 28, 44, 45, 46] (by decide +kernel) (by decide +kernel)
set_option maxRecDepth 20000 in
theorem gX5_note_X3_strike : GoodIn wsX5_note (wsV RX5 89 RX3 yX3_strike wsX3_strike) := goodIn_app (goodIn_of _ (by decide +kernel)) ggX5_note_X3_strike
set_option maxRecDepth 20000 in
theorem ggX5_note_X3_write : GoodIn wsX5_note wsX3_write := goodIn_r _ [36, 23, 24, 25, 26, 27, 21, 28, 44, 45, 46] (by decide +kernel) (by decide +kernel)
set_option maxRecDepth 20000 in
theorem gX5_note_X3_write : GoodIn wsX5_note (wsV RX5 93 RX3 yX3_write wsX3_write) := goodIn_app (goodIn_of _ (by decide +kernel)) ggX5_note_X3_write
theorem dX5_note_0 : decode cX5_note 0 = .ok (.aload_n 0, 1) := by decide +kernel
theorem dX5_note_1 : decode cX5_note 1 = .ok (.iload_n 1, 1) := by decide +kernel
theorem dX5_note_2 : decode cX5_note 2 = .ok (.invokevirtual 72, 3) := by decide +kernel
theorem dX5_note_5 : decode cX5_note 5 = .ok (.iload_n 2, 1) := by decide +kernel
theorem dX5_note_6 : decode cX5_note 6 = .ok (.ifCond .lt 9, 3) := by decide +kernel
theorem dX5_note_9 : decode cX5_note 9 = .ok (.iload_n 2, 1) := by decide +kernel
theorem dX5_note_10 : decode cX5_note 10 = .ok (.bipush 64, 2) := by decide +kernel
theorem dX5_note_12 : decode cX5_note 12 = .ok (.if_icmp .lt 13, 3) := by decide +kernel
theorem dX5_note_15 : decode cX5_note 15 = .ok (.new 75, 3) := by decide +kernel
theorem dX5_note_18 : decode cX5_note 18 = .ok (.dup, 1) := by decide +kernel
theorem dX5_note_19 : decode cX5_note 19 = .ok (.ldc 77, 2) := by decide +kernel
theorem dX5_note_21 : decode cX5_note 21 = .ok (.invokespecial 79, 3) := by decide +kernel
theorem dX5_note_24 : decode cX5_note 24 = .ok (.athrow, 1) := by decide +kernel
theorem dX5_note_25 : decode cX5_note 25 = .ok (.iload_n 3, 1) := by decide +kernel
theorem dX5_note_26 : decode cX5_note 26 = .ok (.invokestatic 41, 3) := by decide +kernel
theorem dX5_note_29 : decode cX5_note 29 = .ok (.aload_n 0, 1) := by decide +kernel
theorem dX5_note_30 : decode cX5_note 30 = .ok (.getfield 10, 3) := by decide +kernel
theorem dX5_note_33 : decode cX5_note 33 = .ok (.iload_n 1, 1) := by decide +kernel
theorem dX5_note_34 : decode cX5_note 34 = .ok (.iload_n 2, 1) := by decide +kernel
theorem dX5_note_35 : decode cX5_note 35 = .ok (.iload_n 3, 1) := by decide +kernel
theorem dX5_note_36 : decode cX5_note 36 = .ok (.invokevirtual 80, 3) := by decide +kernel
theorem dX5_note_39 : decode cX5_note 39 = .ok (.istore 4, 2) := by decide +kernel
theorem dX5_note_41 : decode cX5_note 41 = .ok (.iload 4, 2) := by decide +kernel
theorem dX5_note_43 : decode cX5_note 43 = .ok (.ifCond .ne 27, 3) := by decide +kernel
theorem dX5_note_46 : decode cX5_note 46 = .ok (.aload_n 0, 1) := by decide +kernel
theorem dX5_note_47 : decode cX5_note 47 = .ok (.getfield 10, 3) := by decide +kernel
theorem dX5_note_50 : decode cX5_note 50 = .ok (.getfield 84, 3) := by decide +kernel
theorem dX5_note_53 : decode cX5_note 53 = .ok (.iload_n 1, 1) := by decide +kernel
theorem dX5_note_54 : decode cX5_note 54 = .ok (.iaload, 1) := by decide +kernel
theorem dX5_note_55 : decode cX5_note 55 = .ok (.bipush 30, 2) := by decide +kernel
theorem dX5_note_57 : decode cX5_note 57 = .ok (.if_icmp .lt 13, 3) := by decide +kernel
theorem dX5_note_60 : decode cX5_note 60 = .ok (.new 51, 3) := by decide +kernel
theorem dX5_note_63 : decode cX5_note 63 = .ok (.dup, 1) := by decide +kernel
theorem dX5_note_64 : decode cX5_note 64 = .ok (.ldc 87, 2) := by decide +kernel
theorem dX5_note_66 : decode cX5_note 66 = .ok (.invokespecial 55, 3) := by decide +kernel
theorem dX5_note_69 : decode cX5_note 69 = .ok (.athrow, 1) := by decide +kernel
theorem dX5_note_70 : decode cX5_note 70 = .ok (.iload 4, 2) := by decide +kernel
theorem dX5_note_72 : decode cX5_note 72 = .ok (.ifCond .eq 16, 3) := by decide +kernel
theorem dX5_note_75 : decode cX5_note 75 = .ok (.aload_n 0, 1) := by decide +kernel
theorem dX5_note_76 : decode cX5_note 76 = .ok (.getfield 10, 3) := by decide +kernel
theorem dX5_note_79 : decode cX5_note 79 = .ok (.iload_n 1, 1) := by decide +kernel
theorem dX5_note_80 : decode cX5_note 80 = .ok (.iload_n 2, 1) := by decide +kernel
theorem dX5_note_81 : decode cX5_note 81 = .ok (.iload_n 3, 1) := by decide +kernel
theorem dX5_note_82 : decode cX5_note 82 = .ok (.invokevirtual 89, 3) := by decide +kernel
theorem dX5_note_85 : decode cX5_note 85 = .ok (.goto 13, 3) := by decide +kernel
theorem dX5_note_88 : decode cX5_note 88 = .ok (.aload_n 0, 1) := by decide +kernel
theorem dX5_note_89 : decode cX5_note 89 = .ok (.getfield 10, 3) := by decide +kernel
theorem dX5_note_92 : decode cX5_note 92 = .ok (.iload_n 1, 1) := by decide +kernel
theorem dX5_note_93 : decode cX5_note 93 = .ok (.iload_n 2, 1) := by decide +kernel
theorem dX5_note_94 : decode cX5_note 94 = .ok (.iload_n 3, 1) := by decide +kernel
theorem dX5_note_95 : decode cX5_note 95 = .ok (.invokevirtual 93, 3) := by decide +kernel
theorem dX5_note_98 : decode cX5_note 98 = .ok (.aload_n 0, 1) := by decide +kernel
theorem dX5_note_99 : decode cX5_note 99 = .ok (.getfield 10, 3) := by decide +kernel
theorem dX5_note_102 : decode cX5_note 102 = .ok (.getfield 84, 3) := by decide +kernel
theorem dX5_note_105 : decode cX5_note 105 = .ok (.iload_n 1, 1) := by decide +kernel
theorem dX5_note_106 : decode cX5_note 106 = .ok (.iaload, 1) := by decide +kernel
theorem dX5_note_107 : decode cX5_note 107 = .ok (.ireturn, 1) := by decide +kernel
set_option maxRecDepth 20000 in
theorem ggX5_pin_X5_needTune : GoodIn wsX5_pin wsX5_needTune := goodIn_ca (goodIn_r _ [6, 7, 8, 9, 10, 66, 67, 68, 69, 70, 71, 72, 73, 74, 75] (by decide +kernel) (by decide +kernel)) (goodIn_sub (fun _ h => List.mem_cons_of_mem _ (List.mem_append_left _ (List.mem_append_right _ h))) (by decide +kernel))
set_option maxRecDepth 20000 in
theorem gX5_pin_X5_needTune : GoodIn wsX5_pin (wsV RX5 72 RX5 yX5_needTune wsX5_needTune) := goodIn_app (goodIn_of _ (by decide +kernel)) ggX5_pin_X5_needTune
set_option maxRecDepth 20000 in
theorem ggX5_pin_X5_needLine : GoodIn wsX5_pin wsX5_needLine := goodIn_ca (goodIn_r _ [13, 7, 8] (by decide +kernel) (by decide +kernel)) (goodIn_sub (fun _ h => List.mem_cons_of_mem _ (List.mem_append_left _ (List.mem_append_right _ h))) (by decide +kernel))
set_option maxRecDepth 20000 in
theorem gX5_pin_X5_needLine : GoodIn wsX5_pin (va_wsS RX5 96 yX5_needLine wsX5_needLine) := goodIn_app (goodIn_of _ (by decide +kernel)) ggX5_pin_X5_needLine
set_option maxRecDepth 20000 in
theorem ggX5_pin_X5_needKey : GoodIn wsX5_pin wsX5_needKey := goodIn_ca (goodIn_r _ [16, 17, 18] (by decide +kernel) (by decide +kernel)) (goodIn_sub (fun _ h => List.mem_cons_of_mem _ (List.mem_append_right _ h)) (by decide +kernel))
set_option maxRecDepth 20000 in
theorem gX5_pin_X5_needKey : GoodIn wsX5_pin (va_wsS RX5 99 yX5_needKey wsX5_needKey) := goodIn_app (goodIn_of _ (by decide +kernel)) ggX5_pin_X5_needKey
set_option maxRecDepth 20000 in
theorem ggX5_pin_X5_pinTune : GoodIn wsX5_pin wsX5_pinTune := goodIn_r _ [22, 9, 23, 24, 25, 26, 27, 28, 29, 30, 31, 32, 33, 34, 35, 36, 37, 38, 39, 40, 41, 42, 43, 44, 45, 46, 47, 48, 49, 50, 51, 52, 53, 54, 55, 56, 57, 58, 59, 60, 61, 62, 63, 64, 65, 66, 67, 68, 69, 70, 71, 72, 73, 74, 75, 76, 77, 78, 79, 80, 81, 82, 83] (by decide +kernel) (by decide +kernel)
set_option maxRecDepth 20000 in
theorem gX5_pin_X5_pinTune : GoodIn wsX5_pin (wsV RX5 102 RX5 yX5_pinTune wsX5_pinTune) := goodIn_app (goodIn_of _ (by decide +kernel)) ggX5_pin_X5_pinTune
theorem dX5_pin_0 : decode cX5_pin 0 = .ok (.aload_n 0, 1) := by decide +kernel
theorem dX5_pin_1 : decode cX5_pin 1 = .ok (.iload_n 1, 1) := by decide +kernel
theorem dX5_pin_2 : decode cX5_pin 2 = .ok (.invokevirtual 72, 3) := by decide +kernel
theorem dX5_pin_5 : decode cX5_pin 5 = .ok (.iload_n 2, 1) := by decide +kernel
theorem dX5_pin_6 : decode cX5_pin 6 = .ok (.invokestatic 96, 3) := by decide +kernel
theorem dX5_pin_9 : decode cX5_pin 9 = .ok (.iload_n 3, 1) := by decide +kernel
theorem dX5_pin_10 : decode cX5_pin 10 = .ok (.invokestatic 99, 3) := by decide +kernel
theorem dX5_pin_13 : decode cX5_pin 13 = .ok (.aload_n 0, 1) := by decide +kernel
theorem dX5_pin_14 : decode cX5_pin 14 = .ok (.aload_n 0, 1) := by decide +kernel
theorem dX5_pin_15 : decode cX5_pin 15 = .ok (.getfield 32, 3) := by decide +kernel
theorem dX5_pin_18 : decode cX5_pin 18 = .ok (.iload_n 1, 1) := by decide +kernel
theorem dX5_pin_19 : decode cX5_pin 19 = .ok (.iload_n 2, 1) := by decide +kernel
theorem dX5_pin_20 : decode cX5_pin 20 = .ok (.iload_n 3, 1) := by decide +kernel
theorem dX5_pin_21 : decode cX5_pin 21 = .ok (.invokevirtual 102, 3) := by decide +kernel
theorem dX5_pin_24 : decode cX5_pin 24 = .ok (.ireturn, 1) := by decide +kernel
set_option maxRecDepth 20000 in
theorem ggX5_pull_X5_needLine : GoodIn wsX5_pull wsX5_needLine := goodIn_ca (goodIn_r _ [7, 8, 9] (by decide +kernel) (by decide +kernel)) (goodIn_sub (fun _ h => List.mem_cons_of_mem _ (List.mem_append_right _ h)) (by decide +kernel))
set_option maxRecDepth 20000 in
theorem gX5_pull_X5_needLine : GoodIn wsX5_pull (va_wsS RX5 96 yX5_needLine wsX5_needLine) := goodIn_app (goodIn_of _ (by decide +kernel)) ggX5_pull_X5_needLine
set_option maxRecDepth 20000 in
theorem ggX5_pull_X0_pullFrom : GoodIn wsX5_pull wsX0_pullFrom := goodIn_r _ [14, 15, 16, 17, 18, 19, 13, 20, 21, 22, 23, 24, 25, 26, 27, 28, 29, 30, 31, 45, 46] (by decide +kernel) (by decide +kernel)
set_option maxRecDepth 20000 in
theorem gX5_pull_X0_pullFrom : GoodIn wsX5_pull (wsV RX5 106 RX0 yX0_pullFrom wsX0_pullFrom) := goodIn_app (goodIn_of _ (by decide +kernel)) ggX5_pull_X0_pullFrom
theorem dX5_pull_0 : decode cX5_pull 0 = .ok (.iload_n 1, 1) := by decide +kernel
theorem dX5_pull_1 : decode cX5_pull 1 = .ok (.invokestatic 96, 3) := by decide +kernel
theorem dX5_pull_4 : decode cX5_pull 4 = .ok (.iconst 0, 1) := by decide +kernel
theorem dX5_pull_5 : decode cX5_pull 5 = .ok (.istore_n 3, 1) := by decide +kernel
theorem dX5_pull_6 : decode cX5_pull 6 = .ok (.iconst 0, 1) := by decide +kernel
theorem dX5_pull_7 : decode cX5_pull 7 = .ok (.istore 4, 2) := by decide +kernel
theorem dX5_pull_9 : decode cX5_pull 9 = .ok (.iload 4, 2) := by decide +kernel
theorem dX5_pull_11 : decode cX5_pull 11 = .ok (.aload_n 0, 1) := by decide +kernel
theorem dX5_pull_12 : decode cX5_pull 12 = .ok (.getfield 27, 3) := by decide +kernel
theorem dX5_pull_15 : decode cX5_pull 15 = .ok (.getfield 45, 3) := by decide +kernel
theorem dX5_pull_18 : decode cX5_pull 18 = .ok (.if_icmp .ge 31, 3) := by decide +kernel
theorem dX5_pull_21 : decode cX5_pull 21 = .ok (.iload_n 3, 1) := by decide +kernel
theorem dX5_pull_22 : decode cX5_pull 22 = .ok (.aload_n 0, 1) := by decide +kernel
theorem dX5_pull_23 : decode cX5_pull 23 = .ok (.getfield 32, 3) := by decide +kernel
theorem dX5_pull_26 : decode cX5_pull 26 = .ok (.iload 4, 2) := by decide +kernel
theorem dX5_pull_28 : decode cX5_pull 28 = .ok (.iload_n 1, 1) := by decide +kernel
theorem dX5_pull_29 : decode cX5_pull 29 = .ok (.iload_n 2, 1) := by decide +kernel
theorem dX5_pull_30 : decode cX5_pull 30 = .ok (.ifCond .eq 7, 3) := by decide +kernel
theorem dX5_pull_33 : decode cX5_pull 33 = .ok (.iconst 3, 1) := by decide +kernel
theorem dX5_pull_34 : decode cX5_pull 34 = .ok (.goto 4, 3) := by decide +kernel
theorem dX5_pull_37 : decode cX5_pull 37 = .ok (.iconst 0, 1) := by decide +kernel
theorem dX5_pull_38 : decode cX5_pull 38 = .ok (.invokevirtual 106, 3) := by decide +kernel
theorem dX5_pull_41 : decode cX5_pull 41 = .ok (.iadd, 1) := by decide +kernel
theorem dX5_pull_42 : decode cX5_pull 42 = .ok (.istore_n 3, 1) := by decide +kernel
theorem dX5_pull_43 : decode cX5_pull 43 = .ok (.iinc 4 1, 3) := by decide +kernel
theorem dX5_pull_46 : decode cX5_pull 46 = .ok (.goto (-37), 3) := by decide +kernel
theorem dX5_pull_49 : decode cX5_pull 49 = .ok (.iload_n 3, 1) := by decide +kernel
theorem dX5_pull_50 : decode cX5_pull 50 = .ok (.ireturn, 1) := by decide +kernel
set_option maxRecDepth 20000 in
theorem ggX5_shift_X5_needLine : GoodIn wsX5_shift wsX5_needLine := goodIn_ca (goodIn_r _ [6, 7, 8] (by decide +kernel) (by decide +kernel)) (goodIn_sub (fun _ h => List.mem_cons_of_mem _ (List.mem_append_right _ h)) (by decide +kernel))
set_option maxRecDepth 20000 in
theorem gX5_shift_X5_needLine : GoodIn wsX5_shift (va_wsS RX5 96 yX5_needLine wsX5_needLine) := goodIn_app (goodIn_of _ (by decide +kernel)) ggX5_shift_X5_needLine
theorem dX5_shift_0 : decode cX5_shift 0 = .ok (.iload_n 1, 1) := by decide +kernel
theorem dX5_shift_1 : decode cX5_shift 1 = .ok (.invokestatic 96, 3) := by decide +kernel
theorem dX5_shift_4 : decode cX5_shift 4 = .ok (.aload_n 0, 1) := by decide +kernel
theorem dX5_shift_5 : decode cX5_shift 5 = .ok (.getfield 19, 3) := by decide +kernel
theorem dX5_shift_8 : decode cX5_shift 8 = .ok (.getfield 112, 3) := by decide +kernel
theorem dX5_shift_11 : decode cX5_shift 11 = .ok (.istore_n 2, 1) := by decide +kernel
theorem dX5_shift_12 : decode cX5_shift 12 = .ok (.aload_n 0, 1) := by decide +kernel
theorem dX5_shift_13 : decode cX5_shift 13 = .ok (.getfield 19, 3) := by decide +kernel
theorem dX5_shift_16 : decode cX5_shift 16 = .ok (.iload_n 1, 1) := by decide +kernel
theorem dX5_shift_17 : decode cX5_shift 17 = .ok (.putfield 112, 3) := by decide +kernel
theorem dX5_shift_20 : decode cX5_shift 20 = .ok (.iload_n 2, 1) := by decide +kernel
theorem dX5_shift_21 : decode cX5_shift 21 = .ok (.ireturn, 1) := by decide +kernel
theorem dX5_wind_0 : decode cX5_wind 0 = .ok (.iload_n 1, 1) := by decide +kernel
theorem dX5_wind_1 : decode cX5_wind 1 = .ok (.iconst 1, 1) := by decide +kernel
theorem dX5_wind_2 : decode cX5_wind 2 = .ok (.if_icmp .lt 10, 3) := by decide +kernel
theorem dX5_wind_5 : decode cX5_wind 5 = .ok (.iload_n 1, 1) := by decide +kernel
theorem dX5_wind_6 : decode cX5_wind 6 = .ok (.sipush 500, 3) := by decide +kernel
theorem dX5_wind_9 : decode cX5_wind 9 = .ok (.if_icmp .le 13, 3) := by decide +kernel
theorem dX5_wind_12 : decode cX5_wind 12 = .ok (.new 75, 3) := by decide +kernel
theorem dX5_wind_15 : decode cX5_wind 15 = .ok (.dup, 1) := by decide +kernel
theorem dX5_wind_16 : decode cX5_wind 16 = .ok (.ldc 115, 2) := by decide +kernel
theorem dX5_wind_18 : decode cX5_wind 18 = .ok (.invokespecial 79, 3) := by decide +kernel
theorem dX5_wind_21 : decode cX5_wind 21 = .ok (.athrow, 1) := by decide +kernel
theorem dX5_wind_22 : decode cX5_wind 22 = .ok (.aload_n 0, 1) := by decide +kernel
theorem dX5_wind_23 : decode cX5_wind 23 = .ok (.getfield 19, 3) := by decide +kernel
theorem dX5_wind_26 : decode cX5_wind 26 = .ok (.getfield 117, 3) := by decide +kernel
theorem dX5_wind_29 : decode cX5_wind 29 = .ok (.sipush 2000, 3) := by decide +kernel
theorem dX5_wind_32 : decode cX5_wind 32 = .ok (.if_icmp .lt 16, 3) := by decide +kernel
theorem dX5_wind_35 : decode cX5_wind 35 = .ok (.aload_n 0, 1) := by decide +kernel
theorem dX5_wind_36 : decode cX5_wind 36 = .ok (.dup, 1) := by decide +kernel
theorem dX5_wind_37 : decode cX5_wind 37 = .ok (.getfield 120, 3) := by decide +kernel
theorem dX5_wind_40 : decode cX5_wind 40 = .ok (.iconst 1, 1) := by decide +kernel
theorem dX5_wind_41 : decode cX5_wind 41 = .ok (.iadd, 1) := by decide +kernel
theorem dX5_wind_42 : decode cX5_wind 42 = .ok (.putfield 120, 3) := by decide +kernel
theorem dX5_wind_45 : decode cX5_wind 45 = .ok (.goto 25, 3) := by decide +kernel
theorem dX5_wind_48 : decode cX5_wind 48 = .ok (.aload_n 0, 1) := by decide +kernel
theorem dX5_wind_49 : decode cX5_wind 49 = .ok (.getfield 19, 3) := by decide +kernel
theorem dX5_wind_52 : decode cX5_wind 52 = .ok (.sipush 2000, 3) := by decide +kernel
theorem dX5_wind_55 : decode cX5_wind 55 = .ok (.aload_n 0, 1) := by decide +kernel
theorem dX5_wind_56 : decode cX5_wind 56 = .ok (.getfield 19, 3) := by decide +kernel
theorem dX5_wind_59 : decode cX5_wind 59 = .ok (.getfield 117, 3) := by decide +kernel
theorem dX5_wind_62 : decode cX5_wind 62 = .ok (.iload_n 1, 1) := by decide +kernel
theorem dX5_wind_63 : decode cX5_wind 63 = .ok (.iadd, 1) := by decide +kernel
theorem dX5_wind_64 : decode cX5_wind 64 = .ok (.invokestatic 123, 3) := by decide +kernel
theorem dX5_wind_67 : decode cX5_wind 67 = .ok (.putfield 117, 3) := by decide +kernel
theorem dX5_wind_70 : decode cX5_wind 70 = .ok (.aload_n 0, 1) := by decide +kernel
theorem dX5_wind_71 : decode cX5_wind 71 = .ok (.getfield 19, 3) := by decide +kernel
theorem dX5_wind_74 : decode cX5_wind 74 = .ok (.getfield 117, 3) := by decide +kernel
theorem dX5_wind_77 : decode cX5_wind 77 = .ok (.ireturn, 1) := by decide +kernel
set_option maxRecDepth 20000 in
theorem ggX5_govern_X5_speed : GoodIn wsX5_govern wsX5_speed := goodIn_r _ [9, 3, 10, 11, 12, 13, 14, 15, 16, 17, 18, 19, 20, 21, 22, 23, 24, 25, 26, 27, 28, 29, 30, 31, 32, 33, 34, 35, 36] (by decide +kernel) (by decide +kernel)
set_option maxRecDepth 20000 in
theorem gX5_govern_X5_speed : GoodIn wsX5_govern (wsV RX5 134 RX5 yX5_speed wsX5_speed) := goodIn_app (goodIn_of _ (by decide +kernel)) ggX5_govern_X5_speed
theorem dX5_govern_0 : decode cX5_govern 0 = .ok (.iload_n 1, 1) := by decide +kernel
theorem dX5_govern_1 : decode cX5_govern 1 = .ok (.iconst 1, 1) := by decide +kernel
theorem dX5_govern_2 : decode cX5_govern 2 = .ok (.if_icmp .lt 9, 3) := by decide +kernel
theorem dX5_govern_5 : decode cX5_govern 5 = .ok (.iload_n 1, 1) := by decide +kernel
theorem dX5_govern_6 : decode cX5_govern 6 = .ok (.bipush 8, 2) := by decide +kernel
theorem dX5_govern_8 : decode cX5_govern 8 = .ok (.if_icmp .le 13, 3) := by decide +kernel
theorem dX5_govern_11 : decode cX5_govern 11 = .ok (.new 75, 3) := by decide +kernel
theorem dX5_govern_14 : decode cX5_govern 14 = .ok (.dup, 1) := by decide +kernel
theorem dX5_govern_15 : decode cX5_govern 15 = .ok (.ldc 129, 2) := by decide +kernel
theorem dX5_govern_17 : decode cX5_govern 17 = .ok (.invokespecial 79, 3) := by decide +kernel
theorem dX5_govern_20 : decode cX5_govern 20 = .ok (.athrow, 1) := by decide +kernel
theorem dX5_govern_21 : decode cX5_govern 21 = .ok (.aload_n 0, 1) := by decide +kernel
theorem dX5_govern_22 : decode cX5_govern 22 = .ok (.getfield 19, 3) := by decide +kernel
theorem dX5_govern_25 : decode cX5_govern 25 = .ok (.iload_n 1, 1) := by decide +kernel
theorem dX5_govern_26 : decode cX5_govern 26 = .ok (.putfield 131, 3) := by decide +kernel
theorem dX5_govern_29 : decode cX5_govern 29 = .ok (.aload_n 0, 1) := by decide +kernel
theorem dX5_govern_30 : decode cX5_govern 30 = .ok (.invokevirtual 134, 3) := by decide +kernel
theorem dX5_govern_33 : decode cX5_govern 33 = .ok (.dreturn, 1) := by decide +kernel
set_option maxRecDepth 20000 in
theorem ggX5_play_X5_needSteps : GoodIn wsX5_play wsX5_needSteps := goodIn_ca (goodIn_r _ [7, 8, 9] (by decide +kernel) (by decide +kernel)) (goodIn_sub (fun _ h => List.mem_cons_of_mem _ (List.mem_append_right _ h)) (by decide +kernel))
set_option maxRecDepth 20000 in
theorem gX5_play_X5_needSteps : GoodIn wsX5_play (va_wsS RX5 138 yX5_needSteps wsX5_needSteps) := goodIn_app (goodIn_of _ (by decide +kernel)) ggX5_play_X5_needSteps
set_option maxRecDepth 20000 in
theorem ggX5_play_X4_run : GoodIn wsX5_play wsX4_run := goodIn_r _ [14, 15, 16, 17, 18, 13, 19, 20, 21, 22, 23, 24, 25, 26, 27, 28, 29, 30, 31, 32, 33, 34, 35, 36, 37, 38, 39, 40, 41, 42, 43, 44, 45, 46, 47, 48, 49, 50, 51, 52, 53, 54, 55, 56, 57, 58, 59, 60, 61, 62, 63, 64, 65, 66, 67, 68, 69, 70, 71, 72, 73, 74, 75, 76, 77, 78, 79, 80, 81, 82, 83, 84, 85, 86, 87, 88, 101, 102, 103, 104, 105, 106, 107, 108, 109, 110, 111, 112, 113, 114, 115, 116, 117, 118, 119, 96, 97, 98, 99, 100] (by decide +kernel) (by decide +kernel)
set_option maxRecDepth 20000 in
theorem gX5_play_X4_run : GoodIn wsX5_play (wsV RX5 146 RX4 yX4_run wsX4_run) := goodIn_app (goodIn_of _ (by decide +kernel)) ggX5_play_X4_run
theorem dX5_play_0 : decode cX5_play 0 = .ok (.iload_n 1, 1) := by decide +kernel
theorem dX5_play_1 : decode cX5_play 1 = .ok (.invokestatic 138, 3) := by decide +kernel
theorem dX5_play_4 : decode cX5_play 4 = .ok (.aload_n 0, 1) := by decide +kernel
theorem dX5_play_5 : decode cX5_play 5 = .ok (.getfield 37, 3) := by decide +kernel
theorem dX5_play_8 : decode cX5_play 8 = .ok (.getfield 141, 3) := by decide +kernel
theorem dX5_play_11 : decode cX5_play 11 = .ok (.istore_n 2, 1) := by decide +kernel
theorem dX5_play_12 : decode cX5_play 12 = .ok (.aload_n 0, 1) := by decide +kernel
theorem dX5_play_13 : decode cX5_play 13 = .ok (.getfield 19, 3) := by decide +kernel
theorem dX5_play_16 : decode cX5_play 16 = .ok (.iload_n 1, 1) := by decide +kernel
theorem dX5_play_17 : decode cX5_play 17 = .ok (.invokevirtual 146, 3) := by decide +kernel
theorem dX5_play_20 : decode cX5_play 20 = .ok (.aload_n 0, 1) := by decide +kernel
theorem dX5_play_21 : decode cX5_play 21 = .ok (.getfield 37, 3) := by decide +kernel
theorem dX5_play_24 : decode cX5_play 24 = .ok (.getfield 141, 3) := by decide +kernel
theorem dX5_play_27 : decode cX5_play 27 = .ok (.iload_n 2, 1) := by decide +kernel
theorem dX5_play_28 : decode cX5_play 28 = .ok (.isub, 1) := by decide +kernel
theorem dX5_play_29 : decode cX5_play 29 = .ok (.ireturn, 1) := by decide +kernel
set_option maxRecDepth 20000 in
theorem ggX5_mend_X1_mendTooth : GoodIn wsX5_mend wsX1_mendTooth := goodIn_r _ [8, 9, 10, 39, 40, 41, 42, 43, 44] (by decide +kernel) (by decide +kernel)
set_option maxRecDepth 20000 in
theorem gX5_mend_X1_mendTooth : GoodIn wsX5_mend (wsV RX5 149 RX1 yX1_mendTooth wsX1_mendTooth) := goodIn_app (goodIn_of _ (by decide +kernel)) ggX5_mend_X1_mendTooth
set_option maxRecDepth 20000 in
theorem ggX5_mend_X0_renewPins : GoodIn wsX5_mend wsX0_renewPins := goodIn_r _ [15, 16, 17, 18, 19, 14, 20, 21, 22, 23, 24, 25, 26, 27, 28, 29, 30, 31, 45, 46] (by decide +kernel) (by decide +kernel)
set_option maxRecDepth 20000 in
theorem gX5_mend_X0_renewPins : GoodIn wsX5_mend (wsV RX5 152 RX0 yX0_renewPins wsX0_renewPins) := goodIn_app (goodIn_of _ (by decide +kernel)) ggX5_mend_X0_renewPins
theorem dX5_mend_0 : decode cX5_mend 0 = .ok (.iconst 0, 1) := by decide +kernel
theorem dX5_mend_1 : decode cX5_mend 1 = .ok (.istore_n 1, 1) := by decide +kernel
theorem dX5_mend_2 : decode cX5_mend 2 = .ok (.iconst 0, 1) := by decide +kernel
theorem dX5_mend_3 : decode cX5_mend 3 = .ok (.istore_n 2, 1) := by decide +kernel
theorem dX5_mend_4 : decode cX5_mend 4 = .ok (.iload_n 2, 1) := by decide +kernel
theorem dX5_mend_5 : decode cX5_mend 5 = .ok (.aload_n 0, 1) := by decide +kernel
theorem dX5_mend_6 : decode cX5_mend 6 = .ok (.getfield 27, 3) := by decide +kernel
theorem dX5_mend_9 : decode cX5_mend 9 = .ok (.getfield 45, 3) := by decide +kernel
theorem dX5_mend_12 : decode cX5_mend 12 = .ok (.if_icmp .ge 45, 3) := by decide +kernel
theorem dX5_mend_15 : decode cX5_mend 15 = .ok (.iload_n 1, 1) := by decide +kernel
theorem dX5_mend_16 : decode cX5_mend 16 = .ok (.aload_n 0, 1) := by decide +kernel
theorem dX5_mend_17 : decode cX5_mend 17 = .ok (.getfield 27, 3) := by decide +kernel
theorem dX5_mend_20 : decode cX5_mend 20 = .ok (.iload_n 2, 1) := by decide +kernel
theorem dX5_mend_21 : decode cX5_mend 21 = .ok (.invokevirtual 149, 3) := by decide +kernel
theorem dX5_mend_24 : decode cX5_mend 24 = .ok (.iadd, 1) := by decide +kernel
theorem dX5_mend_25 : decode cX5_mend 25 = .ok (.istore_n 1, 1) := by decide +kernel
theorem dX5_mend_26 : decode cX5_mend 26 = .ok (.iconst 0, 1) := by decide +kernel
theorem dX5_mend_27 : decode cX5_mend 27 = .ok (.istore_n 3, 1) := by decide +kernel
theorem dX5_mend_28 : decode cX5_mend 28 = .ok (.iload_n 3, 1) := by decide +kernel
theorem dX5_mend_29 : decode cX5_mend 29 = .ok (.iconst 3, 1) := by decide +kernel
theorem dX5_mend_30 : decode cX5_mend 30 = .ok (.if_icmp .ge 21, 3) := by decide +kernel
theorem dX5_mend_33 : decode cX5_mend 33 = .ok (.iload_n 1, 1) := by decide +kernel
theorem dX5_mend_34 : decode cX5_mend 34 = .ok (.aload_n 0, 1) := by decide +kernel
theorem dX5_mend_35 : decode cX5_mend 35 = .ok (.getfield 32, 3) := by decide +kernel
theorem dX5_mend_38 : decode cX5_mend 38 = .ok (.iload_n 2, 1) := by decide +kernel
theorem dX5_mend_39 : decode cX5_mend 39 = .ok (.iload_n 3, 1) := by decide +kernel
theorem dX5_mend_40 : decode cX5_mend 40 = .ok (.invokevirtual 152, 3) := by decide +kernel
theorem dX5_mend_43 : decode cX5_mend 43 = .ok (.iadd, 1) := by decide +kernel
theorem dX5_mend_44 : decode cX5_mend 44 = .ok (.istore_n 1, 1) := by decide +kernel
theorem dX5_mend_45 : decode cX5_mend 45 = .ok (.iinc 3 1, 3) := by decide +kernel
theorem dX5_mend_48 : decode cX5_mend 48 = .ok (.goto (-20), 3) := by decide +kernel
theorem dX5_mend_51 : decode cX5_mend 51 = .ok (.iinc 2 1, 3) := by decide +kernel
theorem dX5_mend_54 : decode cX5_mend 54 = .ok (.goto (-50), 3) := by decide +kernel
theorem dX5_mend_57 : decode cX5_mend 57 = .ok (.iload_n 1, 1) := by decide +kernel
theorem dX5_mend_58 : decode cX5_mend 58 = .ok (.ireturn, 1) := by decide +kernel
set_option maxRecDepth 20000 in
theorem ggX5_ofTooth_X5_needTooth : GoodIn wsX5_ofTooth wsX5_needTooth := goodIn_ca (goodIn_r _ [11, 12, 13, 1, 14, 40, 41, 42, 43, 44, 45, 46, 47, 48, 49, 50, 51, 52] (by decide +kernel) (by decide +kernel)) (goodIn_sub (fun _ h => List.mem_cons_of_mem _ (List.mem_append_left _ (List.mem_append_right _ h))) (by decide +kernel))
set_option maxRecDepth 20000 in
theorem gX5_ofTooth_X5_needTooth : GoodIn wsX5_ofTooth (wsV RX5 62 RX5 yX5_needTooth wsX5_needTooth) := goodIn_app (goodIn_of _ (by decide +kernel)) ggX5_ofTooth_X5_needTooth
set_option maxRecDepth 20000 in
theorem ggX5_ofTooth_X5_needQuestion : GoodIn wsX5_ofTooth wsX5_needQuestion := goodIn_ca (goodIn_r _ [17, 18, 19] (by decide +kernel) (by decide +kernel)) (goodIn_sub (fun _ h => List.mem_cons_of_mem _ (List.mem_append_right _ h)) (by decide +kernel))
set_option maxRecDepth 20000 in
theorem gX5_ofTooth_X5_needQuestion : GoodIn wsX5_ofTooth (va_wsS RX5 155 yX5_needQuestion wsX5_needQuestion) := goodIn_app (goodIn_of _ (by decide +kernel)) ggX5_ofTooth_X5_needQuestion
set_option maxRecDepth 20000 in
theorem ggX5_ofTooth_X0_pinsOfTooth : GoodIn wsX5_ofTooth wsX0_pinsOfTooth := goodIn_r _ [24, 25, 26, 27, 23, 28, 29, 30, 31, 32, 33, 34, 35, 36, 37, 38, 39, 53, 54] (by decide +kernel) (by decide +kernel)
set_option maxRecDepth 20000 in
theorem gX5_ofTooth_X0_pinsOfTooth : GoodIn wsX5_ofTooth (wsV RX5 169 RX0 yX0_pinsOfTooth wsX0_pinsOfTooth) := goodIn_app (goodIn_of _ (by decide +kernel)) ggX5_ofTooth_X0_pinsOfTooth
theorem dX5_ofTooth_0 : decode cX5_ofTooth 0 = .ok (.aload_n 0, 1) := by decide +kernel
theorem dX5_ofTooth_1 : decode cX5_ofTooth 1 = .ok (.iload_n 1, 1) := by decide +kernel
theorem dX5_ofTooth_2 : decode cX5_ofTooth 2 = .ok (.invokevirtual 62, 3) := by decide +kernel
theorem dX5_ofTooth_5 : decode cX5_ofTooth 5 = .ok (.iload_n 2, 1) := by decide +kernel
theorem dX5_ofTooth_6 : decode cX5_ofTooth 6 = .ok (.iconst 5, 1) := by decide +kernel
theorem dX5_ofTooth_7 : decode cX5_ofTooth 7 = .ok (.invokestatic 155, 3) := by decide +kernel
theorem dX5_ofTooth_10 : decode cX5_ofTooth 10 = .ok (.iload_n 2, 1) := by decide +kernel
theorem dX5_ofTooth_11 : decode cX5_ofTooth 11 = .ok (.tableswitch 77 0 3 #[29, 39, 57, 67], 29) := by decide +kernel
theorem dX5_ofTooth_40 : decode cX5_ofTooth 40 = .ok (.aload_n 0, 1) := by decide +kernel
theorem dX5_ofTooth_41 : decode cX5_ofTooth 41 = .ok (.getfield 27, 3) := by decide +kernel
theorem dX5_ofTooth_44 : decode cX5_ofTooth 44 = .ok (.getfield 65, 3) := by decide +kernel
theorem dX5_ofTooth_47 : decode cX5_ofTooth 47 = .ok (.iload_n 1, 1) := by decide +kernel
theorem dX5_ofTooth_48 : decode cX5_ofTooth 48 = .ok (.iaload, 1) := by decide +kernel
theorem dX5_ofTooth_49 : decode cX5_ofTooth 49 = .ok (.ireturn, 1) := by decide +kernel
theorem dX5_ofTooth_50 : decode cX5_ofTooth 50 = .ok (.aload_n 0, 1) := by decide +kernel
theorem dX5_ofTooth_51 : decode cX5_ofTooth 51 = .ok (.getfield 27, 3) := by decide +kernel
theorem dX5_ofTooth_54 : decode cX5_ofTooth 54 = .ok (.getfield 159, 3) := by decide +kernel
theorem dX5_ofTooth_57 : decode cX5_ofTooth 57 = .ok (.iload_n 1, 1) := by decide +kernel
theorem dX5_ofTooth_58 : decode cX5_ofTooth 58 = .ok (.baload, 1) := by decide +kernel
theorem dX5_ofTooth_59 : decode cX5_ofTooth 59 = .ok (.ifCond .eq 7, 3) := by decide +kernel
theorem dX5_ofTooth_62 : decode cX5_ofTooth 62 = .ok (.iconst 1, 1) := by decide +kernel
theorem dX5_ofTooth_63 : decode cX5_ofTooth 63 = .ok (.goto 4, 3) := by decide +kernel
theorem dX5_ofTooth_66 : decode cX5_ofTooth 66 = .ok (.iconst 0, 1) := by decide +kernel
theorem dX5_ofTooth_67 : decode cX5_ofTooth 67 = .ok (.ireturn, 1) := by decide +kernel
theorem dX5_ofTooth_68 : decode cX5_ofTooth 68 = .ok (.aload_n 0, 1) := by decide +kernel
theorem dX5_ofTooth_69 : decode cX5_ofTooth 69 = .ok (.getfield 27, 3) := by decide +kernel
theorem dX5_ofTooth_72 : decode cX5_ofTooth 72 = .ok (.getfield 163, 3) := by decide +kernel
theorem dX5_ofTooth_75 : decode cX5_ofTooth 75 = .ok (.iload_n 1, 1) := by decide +kernel
theorem dX5_ofTooth_76 : decode cX5_ofTooth 76 = .ok (.iaload, 1) := by decide +kernel
theorem dX5_ofTooth_77 : decode cX5_ofTooth 77 = .ok (.ireturn, 1) := by decide +kernel
theorem dX5_ofTooth_78 : decode cX5_ofTooth 78 = .ok (.aload_n 0, 1) := by decide +kernel
theorem dX5_ofTooth_79 : decode cX5_ofTooth 79 = .ok (.getfield 27, 3) := by decide +kernel
theorem dX5_ofTooth_82 : decode cX5_ofTooth 82 = .ok (.getfield 166, 3) := by decide +kernel
theorem dX5_ofTooth_85 : decode cX5_ofTooth 85 = .ok (.iload_n 1, 1) := by decide +kernel
theorem dX5_ofTooth_86 : decode cX5_ofTooth 86 = .ok (.iaload, 1) := by decide +kernel
theorem dX5_ofTooth_87 : decode cX5_ofTooth 87 = .ok (.ireturn, 1) := by decide +kernel
theorem dX5_ofTooth_88 : decode cX5_ofTooth 88 = .ok (.aload_n 0, 1) := by decide +kernel
theorem dX5_ofTooth_89 : decode cX5_ofTooth 89 = .ok (.getfield 32, 3) := by decide +kernel
theorem dX5_ofTooth_92 : decode cX5_ofTooth 92 = .ok (.iload_n 1, 1) := by decide +kernel
theorem dX5_ofTooth_93 : decode cX5_ofTooth 93 = .ok (.invokevirtual 169, 3) := by decide +kernel
theorem dX5_ofTooth_96 : decode cX5_ofTooth 96 = .ok (.ireturn, 1) := by decide +kernel
set_option maxRecDepth 20000 in
theorem ggX5_pins_X5_needTooth : GoodIn wsX5_pins wsX5_needTooth := goodIn_ca (goodIn_r _ [6, 7, 8, 9, 10, 23, 24, 25, 26, 27, 28, 29, 30, 31, 32, 33, 34, 35] (by decide +kernel) (by decide +kernel)) (goodIn_sub (fun _ h => List.mem_cons_of_mem _ (List.mem_append_right _ h)) (by decide +kernel))
set_option maxRecDepth 20000 in
theorem gX5_pins_X5_needTooth : GoodIn wsX5_pins (wsV RX5 62 RX5 yX5_needTooth wsX5_needTooth) := goodIn_app (goodIn_of _ (by decide +kernel)) ggX5_pins_X5_needTooth
set_option maxRecDepth 20000 in
theorem ggX5_pins_X5_needLine : GoodIn wsX5_pins wsX5_needLine := goodIn_ca (goodIn_r _ [13, 7, 8] (by decide +kernel) (by decide +kernel)) (goodIn_sub (fun _ h => List.mem_cons_of_mem _ (List.mem_append_right _ h)) (by decide +kernel))
set_option maxRecDepth 20000 in
theorem gX5_pins_X5_needLine : GoodIn wsX5_pins (va_wsS RX5 96 yX5_needLine wsX5_needLine) := goodIn_app (goodIn_of _ (by decide +kernel)) ggX5_pins_X5_needLine
set_option maxRecDepth 20000 in
theorem ggX5_pins_X0_placesOf : GoodIn wsX5_pins wsX0_placesOf := goodIn_r _ [18, 19, 20, 21, 17, 22, 36, 37] (by decide +kernel) (by decide +kernel)
set_option maxRecDepth 20000 in
theorem gX5_pins_X0_placesOf : GoodIn wsX5_pins (wsV RX5 172 RX0 yX0_placesOf wsX0_placesOf) := goodIn_app (goodIn_of _ (by decide +kernel)) ggX5_pins_X0_placesOf
theorem dX5_pins_0 : decode cX5_pins 0 = .ok (.aload_n 0, 1) := by decide +kernel
theorem dX5_pins_1 : decode cX5_pins 1 = .ok (.iload_n 1, 1) := by decide +kernel
theorem dX5_pins_2 : decode cX5_pins 2 = .ok (.invokevirtual 62, 3) := by decide +kernel
theorem dX5_pins_5 : decode cX5_pins 5 = .ok (.iload_n 2, 1) := by decide +kernel
theorem dX5_pins_6 : decode cX5_pins 6 = .ok (.invokestatic 96, 3) := by decide +kernel
theorem dX5_pins_9 : decode cX5_pins 9 = .ok (.aload_n 0, 1) := by decide +kernel
theorem dX5_pins_10 : decode cX5_pins 10 = .ok (.getfield 32, 3) := by decide +kernel
theorem dX5_pins_13 : decode cX5_pins 13 = .ok (.iload_n 1, 1) := by decide +kernel
theorem dX5_pins_14 : decode cX5_pins 14 = .ok (.iload_n 2, 1) := by decide +kernel
theorem dX5_pins_15 : decode cX5_pins 15 = .ok (.invokevirtual 172, 3) := by decide +kernel
theorem dX5_pins_18 : decode cX5_pins 18 = .ok (.lreturn, 1) := by decide +kernel
set_option maxRecDepth 20000 in
theorem ggX5_wear_X5_needTooth : GoodIn wsX5_wear wsX5_needTooth := goodIn_ca (goodIn_r _ [6, 7, 8, 9, 10, 34, 35, 36, 37, 38, 39, 40, 41, 42, 43, 44, 45, 46] (by decide +kernel) (by decide +kernel)) (goodIn_sub (fun _ h => List.mem_cons_of_mem _ (List.mem_append_right _ h)) (by decide +kernel))
set_option maxRecDepth 20000 in
theorem gX5_wear_X5_needTooth : GoodIn wsX5_wear (wsV RX5 62 RX5 yX5_needTooth wsX5_needTooth) := goodIn_app (goodIn_of _ (by decide +kernel)) ggX5_wear_X5_needTooth
set_option maxRecDepth 20000 in
theorem ggX5_wear_X5_needLine : GoodIn wsX5_wear wsX5_needLine := goodIn_ca (goodIn_r _ [13, 7, 8] (by decide +kernel) (by decide +kernel)) (goodIn_sub (fun _ h => List.mem_cons_of_mem _ (List.mem_append_right _ h)) (by decide +kernel))
set_option maxRecDepth 20000 in
theorem gX5_wear_X5_needLine : GoodIn wsX5_wear (va_wsS RX5 96 yX5_needLine wsX5_needLine) := goodIn_app (goodIn_of _ (by decide +kernel)) ggX5_wear_X5_needLine
set_option maxRecDepth 20000 in
theorem ggX5_wear_X5_needPlace : GoodIn wsX5_wear wsX5_needPlace := goodIn_ca (goodIn_r _ [16, 7, 8] (by decide +kernel) (by decide +kernel)) (goodIn_sub (fun _ h => List.mem_cons_of_mem _ (List.mem_append_right _ h)) (by decide +kernel))
set_option maxRecDepth 20000 in
theorem gX5_wear_X5_needPlace : GoodIn wsX5_wear (va_wsS RX5 176 yX5_needPlace wsX5_needPlace) := goodIn_app (goodIn_of _ (by decide +kernel)) ggX5_wear_X5_needPlace
set_option maxRecDepth 20000 in
theorem ggX5_wear_X0_hasPin : GoodIn wsX5_wear wsX0_hasPin := goodIn_r _ [21, 22, 23, 24, 20, 25, 47, 48] (by decide +kernel) (by decide +kernel)
set_option maxRecDepth 20000 in
theorem gX5_wear_X0_hasPin : GoodIn wsX5_wear (wsV RX5 179 RX0 yX0_hasPin wsX0_hasPin) := goodIn_app (goodIn_of _ (by decide +kernel)) ggX5_wear_X0_hasPin
set_option maxRecDepth 20000 in
theorem ggX5_wear_X0_wearOf : GoodIn wsX5_wear wsX0_wearOf := goodIn_r _ [29, 30, 31, 32, 20, 33, 47, 48] (by decide +kernel) (by decide +kernel)
set_option maxRecDepth 20000 in
theorem gX5_wear_X0_wearOf : GoodIn wsX5_wear (wsV RX5 182 RX0 yX0_wearOf wsX0_wearOf) := goodIn_app (goodIn_of _ (by decide +kernel)) ggX5_wear_X0_wearOf
theorem dX5_wear_0 : decode cX5_wear 0 = .ok (.aload_n 0, 1) := by decide +kernel
theorem dX5_wear_1 : decode cX5_wear 1 = .ok (.iload_n 1, 1) := by decide +kernel
theorem dX5_wear_2 : decode cX5_wear 2 = .ok (.invokevirtual 62, 3) := by decide +kernel
theorem dX5_wear_5 : decode cX5_wear 5 = .ok (.iload_n 2, 1) := by decide +kernel
theorem dX5_wear_6 : decode cX5_wear 6 = .ok (.invokestatic 96, 3) := by decide +kernel
theorem dX5_wear_9 : decode cX5_wear 9 = .ok (.iload_n 3, 1) := by decide +kernel
theorem dX5_wear_10 : decode cX5_wear 10 = .ok (.invokestatic 176, 3) := by decide +kernel
theorem dX5_wear_13 : decode cX5_wear 13 = .ok (.aload_n 0, 1) := by decide +kernel
theorem dX5_wear_14 : decode cX5_wear 14 = .ok (.getfield 32, 3) := by decide +kernel
theorem dX5_wear_17 : decode cX5_wear 17 = .ok (.iload_n 1, 1) := by decide +kernel
theorem dX5_wear_18 : decode cX5_wear 18 = .ok (.iload_n 2, 1) := by decide +kernel
theorem dX5_wear_19 : decode cX5_wear 19 = .ok (.iload_n 3, 1) := by decide +kernel
theorem dX5_wear_20 : decode cX5_wear 20 = .ok (.invokevirtual 179, 3) := by decide +kernel
theorem dX5_wear_23 : decode cX5_wear 23 = .ok (.ifCond .eq 16, 3) := by decide +kernel
theorem dX5_wear_26 : decode cX5_wear 26 = .ok (.aload_n 0, 1) := by decide +kernel
theorem dX5_wear_27 : decode cX5_wear 27 = .ok (.getfield 32, 3) := by decide +kernel
theorem dX5_wear_30 : decode cX5_wear 30 = .ok (.iload_n 1, 1) := by decide +kernel
theorem dX5_wear_31 : decode cX5_wear 31 = .ok (.iload_n 2, 1) := by decide +kernel
theorem dX5_wear_32 : decode cX5_wear 32 = .ok (.iload_n 3, 1) := by decide +kernel
theorem dX5_wear_33 : decode cX5_wear 33 = .ok (.invokevirtual 182, 3) := by decide +kernel
theorem dX5_wear_36 : decode cX5_wear 36 = .ok (.goto 4, 3) := by decide +kernel
theorem dX5_wear_39 : decode cX5_wear 39 = .ok (.iconst (-1), 1) := by decide +kernel
theorem dX5_wear_40 : decode cX5_wear 40 = .ok (.ireturn, 1) := by decide +kernel
set_option maxRecDepth 20000 in
theorem ggX5_row_X5_needPlace : GoodIn wsX5_row wsX5_needPlace := goodIn_ca (goodIn_r _ [9, 10, 11] (by decide +kernel) (by decide +kernel)) (goodIn_sub (fun _ h => List.mem_cons_of_mem _ (List.mem_append_right _ h)) (by decide +kernel))
set_option maxRecDepth 20000 in
theorem gX5_row_X5_needPlace : GoodIn wsX5_row (va_wsS RX5 176 yX5_needPlace wsX5_needPlace) := goodIn_app (goodIn_of _ (by decide +kernel)) ggX5_row_X5_needPlace
set_option maxRecDepth 20000 in
theorem ggX5_row_J4_init_da8c8 : GoodIn wsX5_row wsJ4_init_da8c8 := goodIn_r _ [14, 15, 16, 17, 18, 19, 20, 21, 22, 23, 24, 25, 26, 27, 28, 29, 30, 31, 32, 33, 208, 209, 210, 211] (by decide +kernel) (by decide +kernel)
set_option maxRecDepth 20000 in
theorem gX5_row_J4_init_da8c8 : GoodIn wsX5_row (wsJ4_init_da8c8) := ggX5_row_J4_init_da8c8
set_option maxRecDepth 20000 in
theorem ggX5_row_X5_signOf : GoodIn wsX5_row wsX5_signOf := goodIn_r _ [37, 4, 38, 39, 40, 41, 42, 43, 44, 45, 46, 47, 48, 49, 50, 212, 213, 214, 215, 216, 217, 218, 219, 220, 221, 222, 223, 224, 225, 226, 227, 228, 229, 230, 231, 232, 233, 234, 235, 236, 237] (by decide +kernel) (by decide +kernel)
set_option maxRecDepth 20000 in
theorem gX5_row_X5_signOf : GoodIn wsX5_row (wsV RX5 188 RX5 yX5_signOf wsX5_signOf) := goodIn_app (goodIn_of _ (by decide +kernel)) ggX5_row_X5_signOf
set_option maxRecDepth 20000 in
theorem ggX5_row_J4_append_cf468 : GoodIn wsX5_row wsJ4_append_cf468 := goodIn_r _ [54, 55, 56, 57, 58, 17, 59, 60, 24, 61, 62, 63, 64, 65, 25, 66, 67, 68, 69, 70, 71, 72, 73, 74, 75, 76, 77, 78, 79, 80, 81, 82, 83, 84, 85, 86, 87, 88, 89, 90, 91, 92, 93, 23, 94, 95, 96, 97, 98, 99, 100, 101, 102, 103, 104, 105, 22, 106, 107, 108, 109, 110, 111, 112, 113, 114, 26, 27, 28, 29, 30, 31, 32, 33, 115, 116, 117, 118, 119, 120, 121, 122, 123, 124, 125, 126, 127, 128, 129, 130, 131, 132, 133, 134, 135, 136, 137, 138, 139, 140, 141, 142, 143, 144, 145, 146, 147, 148, 149, 150, 151, 152, 153, 208, 209, 210, 211] (by decide +kernel) (by decide +kernel)
set_option maxRecDepth 20000 in
theorem gX5_row_J4_append_cf468 : GoodIn wsX5_row (wsV RX5 192 RJ4 yJ4_append_cf468 wsJ4_append_cf468) := goodIn_app (goodIn_of _ (by decide +kernel)) ggX5_row_J4_append_cf468
set_option maxRecDepth 20000 in
theorem ggX5_row_J4_toString_0e30d : GoodIn wsX5_row wsJ4_toString_0e30d := goodIn_r _ [157, 158, 159, 129, 160, 161, 162, 163, 164, 165, 166, 20, 21, 167, 168, 169, 170, 171, 172, 173, 174, 17, 175, 24, 176, 177, 178, 179, 180, 3, 181, 182, 57, 183, 184, 60, 185, 102, 103, 104, 105, 22, 25, 186, 187, 86, 188, 88, 89, 90, 91, 92, 93, 189, 190, 191, 23, 94, 95, 78, 96, 97, 98, 99, 100, 192, 193, 194, 195, 196, 28, 197, 198, 199, 200, 121, 122, 123, 124, 125, 126, 127, 128, 130, 131, 132, 133, 134, 135, 201, 202, 203, 139, 140, 141, 30, 31, 32, 33, 204, 205, 206, 207, 238, 239, 240, 241, 208, 209, 210, 211] (by decide +kernel) (by decide +kernel)
set_option maxRecDepth 20000 in
theorem gX5_row_J4_toString_0e30d : GoodIn wsX5_row (wsV RX5 196 RJ4 yJ4_toString_0e30d wsJ4_toString_0e30d) := goodIn_app (goodIn_of _ (by decide +kernel)) ggX5_row_J4_toString_0e30d
theorem dX5_row_0 : decode cX5_row 0 = .ok (.iload_n 1, 1) := by decide +kernel
theorem dX5_row_1 : decode cX5_row 1 = .ok (.invokestatic 176, 3) := by decide +kernel
theorem dX5_row_4 : decode cX5_row 4 = .ok (.new 185, 3) := by decide +kernel
theorem dX5_row_7 : decode cX5_row 7 = .ok (.dup, 1) := by decide +kernel
theorem dX5_row_8 : decode cX5_row 8 = .ok (.invokespecial 187, 3) := by decide +kernel
theorem dX5_row_11 : decode cX5_row 11 = .ok (.astore_n 2, 1) := by decide +kernel
theorem dX5_row_12 : decode cX5_row 12 = .ok (.iconst 0, 1) := by decide +kernel
theorem dX5_row_13 : decode cX5_row 13 = .ok (.istore_n 3, 1) := by decide +kernel
theorem dX5_row_14 : decode cX5_row 14 = .ok (.iload_n 3, 1) := by decide +kernel
theorem dX5_row_15 : decode cX5_row 15 = .ok (.aload_n 0, 1) := by decide +kernel
theorem dX5_row_16 : decode cX5_row 16 = .ok (.getfield 27, 3) := by decide +kernel
theorem dX5_row_19 : decode cX5_row 19 = .ok (.getfield 45, 3) := by decide +kernel
theorem dX5_row_22 : decode cX5_row 22 = .ok (.if_icmp .ge 20, 3) := by decide +kernel
theorem dX5_row_25 : decode cX5_row 25 = .ok (.aload_n 2, 1) := by decide +kernel
theorem dX5_row_26 : decode cX5_row 26 = .ok (.aload_n 0, 1) := by decide +kernel
theorem dX5_row_27 : decode cX5_row 27 = .ok (.iload_n 3, 1) := by decide +kernel
theorem dX5_row_28 : decode cX5_row 28 = .ok (.iload_n 1, 1) := by decide +kernel
theorem dX5_row_29 : decode cX5_row 29 = .ok (.invokevirtual 188, 3) := by decide +kernel
theorem dX5_row_32 : decode cX5_row 32 = .ok (.invokevirtual 192, 3) := by decide +kernel
theorem dX5_row_35 : decode cX5_row 35 = .ok (.pop, 1) := by decide +kernel
theorem dX5_row_36 : decode cX5_row 36 = .ok (.iinc 3 1, 3) := by decide +kernel
theorem dX5_row_39 : decode cX5_row 39 = .ok (.goto (-25), 3) := by decide +kernel
theorem dX5_row_42 : decode cX5_row 42 = .ok (.aload_n 2, 1) := by decide +kernel
theorem dX5_row_43 : decode cX5_row 43 = .ok (.invokevirtual 196, 3) := by decide +kernel
theorem dX5_row_46 : decode cX5_row 46 = .ok (.areturn, 1) := by decide +kernel
set_option maxRecDepth 20000 in
theorem ggX5_ofTune_X5_needTune : GoodIn wsX5_ofTune wsX5_needTune := goodIn_ca (goodIn_r _ [7, 8, 9, 1, 10, 47, 48, 49, 50, 51, 52, 53, 54, 55, 56] (by decide +kernel) (by decide +kernel)) (goodIn_sub (fun _ h => List.mem_cons_of_mem _ (List.mem_append_left _ (List.mem_append_right _ h))) (by decide +kernel))
set_option maxRecDepth 20000 in
theorem gX5_ofTune_X5_needTune : GoodIn wsX5_ofTune (wsV RX5 72 RX5 yX5_needTune wsX5_needTune) := goodIn_app (goodIn_of _ (by decide +kernel)) ggX5_ofTune_X5_needTune
set_option maxRecDepth 20000 in
theorem ggX5_ofTune_X5_needQuestion : GoodIn wsX5_ofTune wsX5_needQuestion := goodIn_ca (goodIn_r _ [13, 14, 15] (by decide +kernel) (by decide +kernel)) (goodIn_sub (fun _ h => List.mem_cons_of_mem _ (List.mem_append_right _ h)) (by decide +kernel))
set_option maxRecDepth 20000 in
theorem gX5_ofTune_X5_needQuestion : GoodIn wsX5_ofTune (va_wsS RX5 155 yX5_needQuestion wsX5_needQuestion) := goodIn_app (goodIn_of _ (by decide +kernel)) ggX5_ofTune_X5_needQuestion
set_option maxRecDepth 20000 in
theorem ggX5_ofTune_X3_lowest : GoodIn wsX5_ofTune wsX3_lowest := goodIn_r _ [20, 21, 22, 23, 24, 19, 25, 26, 54, 55, 56] (by decide +kernel) (by decide +kernel)
set_option maxRecDepth 20000 in
theorem gX5_ofTune_X3_lowest : GoodIn wsX5_ofTune (wsV RX5 200 RX3 yX3_lowest wsX3_lowest) := goodIn_app (goodIn_of _ (by decide +kernel)) ggX5_ofTune_X3_lowest
set_option maxRecDepth 20000 in
theorem ggX5_ofTune_X3_highest : GoodIn wsX5_ofTune wsX3_highest := goodIn_r _ [30, 21, 31, 32, 33, 34, 22, 23, 24, 19, 25, 26, 54, 55, 56] (by decide +kernel) (by decide +kernel)
set_option maxRecDepth 20000 in
theorem gX5_ofTune_X3_highest : GoodIn wsX5_ofTune (wsV RX5 203 RX3 yX3_highest wsX3_highest) := goodIn_app (goodIn_of _ (by decide +kernel)) ggX5_ofTune_X3_highest
set_option maxRecDepth 20000 in
theorem ggX5_ofTune_X3_times : GoodIn wsX5_ofTune wsX3_times := goodIn_r _ [38, 21, 39, 40, 41, 19, 42, 26, 54, 55, 56] (by decide +kernel) (by decide +kernel)
set_option maxRecDepth 20000 in
theorem gX5_ofTune_X3_times : GoodIn wsX5_ofTune (wsV RX5 206 RX3 yX3_times wsX3_times) := goodIn_app (goodIn_of _ (by decide +kernel)) ggX5_ofTune_X3_times
set_option maxRecDepth 20000 in
theorem ggX5_ofTune_X3_mostAtOnce : GoodIn wsX5_ofTune wsX3_mostAtOnce := goodIn_r _ [46, 21, 31, 32, 33, 34, 39, 40, 41, 19, 42, 26, 54, 55, 56] (by decide +kernel) (by decide +kernel)
set_option maxRecDepth 20000 in
theorem gX5_ofTune_X3_mostAtOnce : GoodIn wsX5_ofTune (wsV RX5 209 RX3 yX3_mostAtOnce wsX3_mostAtOnce) := goodIn_app (goodIn_of _ (by decide +kernel)) ggX5_ofTune_X3_mostAtOnce
theorem dX5_ofTune_0 : decode cX5_ofTune 0 = .ok (.aload_n 0, 1) := by decide +kernel
theorem dX5_ofTune_1 : decode cX5_ofTune 1 = .ok (.iload_n 1, 1) := by decide +kernel
theorem dX5_ofTune_2 : decode cX5_ofTune 2 = .ok (.invokevirtual 72, 3) := by decide +kernel
theorem dX5_ofTune_5 : decode cX5_ofTune 5 = .ok (.iload_n 2, 1) := by decide +kernel
theorem dX5_ofTune_6 : decode cX5_ofTune 6 = .ok (.iconst 5, 1) := by decide +kernel
theorem dX5_ofTune_7 : decode cX5_ofTune 7 = .ok (.invokestatic 155, 3) := by decide +kernel
theorem dX5_ofTune_10 : decode cX5_ofTune 10 = .ok (.iload_n 2, 1) := by decide +kernel
theorem dX5_ofTune_11 : decode cX5_ofTune 11 = .ok (.tableswitch 66 0 3 #[29, 39, 48, 57], 29) := by decide +kernel
theorem dX5_ofTune_40 : decode cX5_ofTune 40 = .ok (.aload_n 0, 1) := by decide +kernel
theorem dX5_ofTune_41 : decode cX5_ofTune 41 = .ok (.getfield 10, 3) := by decide +kernel
theorem dX5_ofTune_44 : decode cX5_ofTune 44 = .ok (.getfield 84, 3) := by decide +kernel
theorem dX5_ofTune_47 : decode cX5_ofTune 47 = .ok (.iload_n 1, 1) := by decide +kernel
theorem dX5_ofTune_48 : decode cX5_ofTune 48 = .ok (.iaload, 1) := by decide +kernel
theorem dX5_ofTune_49 : decode cX5_ofTune 49 = .ok (.ireturn, 1) := by decide +kernel
theorem dX5_ofTune_50 : decode cX5_ofTune 50 = .ok (.aload_n 0, 1) := by decide +kernel
theorem dX5_ofTune_51 : decode cX5_ofTune 51 = .ok (.getfield 10, 3) := by decide +kernel
theorem dX5_ofTune_54 : decode cX5_ofTune 54 = .ok (.iload_n 1, 1) := by decide +kernel
theorem dX5_ofTune_55 : decode cX5_ofTune 55 = .ok (.invokevirtual 200, 3) := by decide +kernel
theorem dX5_ofTune_58 : decode cX5_ofTune 58 = .ok (.ireturn, 1) := by decide +kernel
theorem dX5_ofTune_59 : decode cX5_ofTune 59 = .ok (.aload_n 0, 1) := by decide +kernel
theorem dX5_ofTune_60 : decode cX5_ofTune 60 = .ok (.getfield 10, 3) := by decide +kernel
theorem dX5_ofTune_63 : decode cX5_ofTune 63 = .ok (.iload_n 1, 1) := by decide +kernel
theorem dX5_ofTune_64 : decode cX5_ofTune 64 = .ok (.invokevirtual 203, 3) := by decide +kernel
theorem dX5_ofTune_67 : decode cX5_ofTune 67 = .ok (.ireturn, 1) := by decide +kernel
theorem dX5_ofTune_68 : decode cX5_ofTune 68 = .ok (.aload_n 0, 1) := by decide +kernel
theorem dX5_ofTune_69 : decode cX5_ofTune 69 = .ok (.getfield 10, 3) := by decide +kernel
theorem dX5_ofTune_72 : decode cX5_ofTune 72 = .ok (.iload_n 1, 1) := by decide +kernel
theorem dX5_ofTune_73 : decode cX5_ofTune 73 = .ok (.invokevirtual 206, 3) := by decide +kernel
theorem dX5_ofTune_76 : decode cX5_ofTune 76 = .ok (.ireturn, 1) := by decide +kernel
theorem dX5_ofTune_77 : decode cX5_ofTune 77 = .ok (.aload_n 0, 1) := by decide +kernel
theorem dX5_ofTune_78 : decode cX5_ofTune 78 = .ok (.getfield 10, 3) := by decide +kernel
theorem dX5_ofTune_81 : decode cX5_ofTune 81 = .ok (.iload_n 1, 1) := by decide +kernel
theorem dX5_ofTune_82 : decode cX5_ofTune 82 = .ok (.invokevirtual 209, 3) := by decide +kernel
theorem dX5_ofTune_85 : decode cX5_ofTune 85 = .ok (.ireturn, 1) := by decide +kernel
set_option maxRecDepth 20000 in
theorem ggX5_likeness_X5_needTune : GoodIn wsX5_likeness wsX5_needTune := goodIn_ca (goodIn_r _ [11, 12, 13, 1, 14, 43, 44, 45, 46, 47, 48, 49, 50, 51, 52] (by decide +kernel) (by decide +kernel)) (goodIn_sub (fun _ h => List.mem_cons_of_mem _ (List.mem_append_left _ (List.mem_append_right _ h))) (by decide +kernel))
set_option maxRecDepth 20000 in
theorem gX5_likeness_X5_needTune : GoodIn wsX5_likeness (wsV RX5 72 RX5 yX5_needTune wsX5_needTune) := goodIn_app (goodIn_of _ (by decide +kernel)) ggX5_likeness_X5_needTune
set_option maxRecDepth 20000 in
theorem ggX5_likeness_X5_needKey : GoodIn wsX5_likeness wsX5_needKey := goodIn_ca (goodIn_r _ [17, 18, 19] (by decide +kernel) (by decide +kernel)) (goodIn_sub (fun _ h => List.mem_cons_of_mem _ (List.mem_append_right _ h)) (by decide +kernel))
set_option maxRecDepth 20000 in
theorem gX5_likeness_X5_needKey : GoodIn wsX5_likeness (va_wsS RX5 99 yX5_needKey wsX5_needKey) := goodIn_app (goodIn_of _ (by decide +kernel)) ggX5_likeness_X5_needKey
set_option maxRecDepth 20000 in
theorem ggX5_likeness_X3_shared : GoodIn wsX5_likeness wsX3_shared := goodIn_r _ [24, 25, 26, 27, 28, 23, 29, 30, 31, 32, 33, 34, 35, 36, 37, 38, 39, 40, 41, 42, 50, 51, 52] (by decide +kernel) (by decide +kernel)
set_option maxRecDepth 20000 in
theorem gX5_likeness_X3_shared : GoodIn wsX5_likeness (wsV RX5 215 RX3 yX3_shared wsX3_shared) := goodIn_app (goodIn_of _ (by decide +kernel)) ggX5_likeness_X3_shared
end
section
theorem dX5_likeness_0 : decode cX5_likeness 0 = .ok (.aload_n 0, 1) := by decide +kernel
theorem dX5_likeness_1 : decode cX5_likeness 1 = .ok (.iload_n 1, 1) := by decide +kernel
theorem dX5_likeness_2 : decode cX5_likeness 2 = .ok (.invokevirtual 72, 3) := by decide +kernel
theorem dX5_likeness_5 : decode cX5_likeness 5 = .ok (.aload_n 0, 1) := by decide +kernel
theorem dX5_likeness_6 : decode cX5_likeness 6 = .ok (.iload_n 2, 1) := by decide +kernel
theorem dX5_likeness_7 : decode cX5_likeness 7 = .ok (.invokevirtual 72, 3) := by decide +kernel
theorem dX5_likeness_10 : decode cX5_likeness 10 = .ok (.iload_n 3, 1) := by decide +kernel
theorem dX5_likeness_11 : decode cX5_likeness 11 = .ok (.invokestatic 99, 3) := by decide +kernel
theorem dX5_likeness_14 : decode cX5_likeness 14 = .ok (.aload_n 0, 1) := by decide +kernel
theorem dX5_likeness_15 : decode cX5_likeness 15 = .ok (.getfield 10, 3) := by decide +kernel
theorem dX5_likeness_18 : decode cX5_likeness 18 = .ok (.getfield 84, 3) := by decide +kernel
theorem dX5_likeness_21 : decode cX5_likeness 21 = .ok (.iload_n 1, 1) := by decide +kernel
theorem dX5_likeness_22 : decode cX5_likeness 22 = .ok (.iaload, 1) := by decide +kernel
theorem dX5_likeness_23 : decode cX5_likeness 23 = .ok (.aload_n 0, 1) := by decide +kernel
theorem dX5_likeness_24 : decode cX5_likeness 24 = .ok (.getfield 10, 3) := by decide +kernel
theorem dX5_likeness_27 : decode cX5_likeness 27 = .ok (.getfield 84, 3) := by decide +kernel
theorem dX5_likeness_30 : decode cX5_likeness 30 = .ok (.iload_n 2, 1) := by decide +kernel
theorem dX5_likeness_31 : decode cX5_likeness 31 = .ok (.iaload, 1) := by decide +kernel
theorem dX5_likeness_32 : decode cX5_likeness 32 = .ok (.invokestatic 212, 3) := by decide +kernel
theorem dX5_likeness_35 : decode cX5_likeness 35 = .ok (.istore 4, 2) := by decide +kernel
theorem dX5_likeness_37 : decode cX5_likeness 37 = .ok (.iload 4, 2) := by decide +kernel
theorem dX5_likeness_39 : decode cX5_likeness 39 = .ok (.ifCond .ne 5, 3) := by decide +kernel
theorem dX5_likeness_42 : decode cX5_likeness 42 = .ok (.dconst 0, 1) := by decide +kernel
theorem dX5_likeness_43 : decode cX5_likeness 43 = .ok (.dreturn, 1) := by decide +kernel
theorem dX5_likeness_44 : decode cX5_likeness 44 = .ok (.aload_n 0, 1) := by decide +kernel
theorem dX5_likeness_45 : decode cX5_likeness 45 = .ok (.getfield 10, 3) := by decide +kernel
theorem dX5_likeness_48 : decode cX5_likeness 48 = .ok (.iload_n 1, 1) := by decide +kernel
theorem dX5_likeness_49 : decode cX5_likeness 49 = .ok (.iload_n 2, 1) := by decide +kernel
theorem dX5_likeness_50 : decode cX5_likeness 50 = .ok (.iload_n 3, 1) := by decide +kernel
theorem dX5_likeness_51 : decode cX5_likeness 51 = .ok (.invokevirtual 215, 3) := by decide +kernel
theorem dX5_likeness_54 : decode cX5_likeness 54 = .ok (.i2d, 1) := by decide +kernel
theorem dX5_likeness_55 : decode cX5_likeness 55 = .ok (.iload 4, 2) := by decide +kernel
theorem dX5_likeness_57 : decode cX5_likeness 57 = .ok (.i2d, 1) := by decide +kernel
theorem dX5_likeness_58 : decode cX5_likeness 58 = .ok (.ddiv, 1) := by decide +kernel
theorem dX5_likeness_59 : decode cX5_likeness 59 = .ok (.dreturn, 1) := by decide +kernel
set_option maxRecDepth 20000 in
theorem ggX5_heard_X5_needSound : GoodIn wsX5_heard wsX5_needSound := goodIn_ca (goodIn_r _ [6, 7, 8, 1, 9, 21, 22, 23, 24, 25, 26, 27, 28, 29, 30, 31, 32] (by decide +kernel) (by decide +kernel)) (goodIn_sub (fun _ h => List.mem_cons_of_mem _ (List.mem_append_right _ h)) (by decide +kernel))
set_option maxRecDepth 20000 in
theorem gX5_heard_X5_needSound : GoodIn wsX5_heard (wsV RX5 218 RX5 yX5_needSound wsX5_needSound) := goodIn_app (goodIn_of _ (by decide +kernel)) ggX5_heard_X5_needSound
set_option maxRecDepth 20000 in
theorem ggX5_heard_X2_pitchOf : GoodIn wsX5_heard wsX2_pitchOf := goodIn_r _ [14, 15, 16, 17, 18, 13, 19, 20, 28, 29, 30, 31, 32] (by decide +kernel) (by decide +kernel)
set_option maxRecDepth 20000 in
theorem gX5_heard_X2_pitchOf : GoodIn wsX5_heard (wsV RX5 221 RX2 yX2_pitchOf wsX2_pitchOf) := goodIn_app (goodIn_of _ (by decide +kernel)) ggX5_heard_X2_pitchOf
theorem dX5_heard_0 : decode cX5_heard 0 = .ok (.aload_n 0, 1) := by decide +kernel
theorem dX5_heard_1 : decode cX5_heard 1 = .ok (.iload_n 1, 1) := by decide +kernel
theorem dX5_heard_2 : decode cX5_heard 2 = .ok (.invokevirtual 218, 3) := by decide +kernel
theorem dX5_heard_5 : decode cX5_heard 5 = .ok (.aload_n 0, 1) := by decide +kernel
theorem dX5_heard_6 : decode cX5_heard 6 = .ok (.getfield 37, 3) := by decide +kernel
theorem dX5_heard_9 : decode cX5_heard 9 = .ok (.iload_n 1, 1) := by decide +kernel
theorem dX5_heard_10 : decode cX5_heard 10 = .ok (.invokevirtual 221, 3) := by decide +kernel
theorem dX5_heard_13 : decode cX5_heard 13 = .ok (.ireturn, 1) := by decide +kernel
set_option maxRecDepth 20000 in
theorem ggX5_when_X5_needSound : GoodIn wsX5_when wsX5_needSound := goodIn_ca (goodIn_r _ [7, 8, 9, 2, 10, 26, 27, 28, 29, 30, 31, 32, 33, 34, 35, 36, 37] (by decide +kernel) (by decide +kernel)) (goodIn_sub (fun _ h => List.mem_cons_of_mem _ (List.mem_append_right _ h)) (by decide +kernel))
set_option maxRecDepth 20000 in
theorem gX5_when_X5_needSound : GoodIn wsX5_when (wsV RX5 218 RX5 yX5_needSound wsX5_needSound) := goodIn_app (goodIn_of _ (by decide +kernel)) ggX5_when_X5_needSound
set_option maxRecDepth 20000 in
theorem ggX5_when_X2_clockOf : GoodIn wsX5_when wsX2_clockOf := goodIn_r _ [15, 16, 17, 18, 19, 14, 20, 21, 33, 34, 35, 36, 37] (by decide +kernel) (by decide +kernel)
set_option maxRecDepth 20000 in
theorem gX5_when_X2_clockOf : GoodIn wsX5_when (wsV RX5 226 RX2 yX2_clockOf wsX2_clockOf) := goodIn_app (goodIn_of _ (by decide +kernel)) ggX5_when_X2_clockOf
set_option maxRecDepth 20000 in
theorem ggX5_when_X5_nearestWhole : GoodIn wsX5_when wsX5_nearestWhole := goodIn_r _ [24, 25] (by decide +kernel) (by decide +kernel)
set_option maxRecDepth 20000 in
theorem gX5_when_X5_nearestWhole : GoodIn wsX5_when (va_wsS RX5 230 yX5_nearestWhole wsX5_nearestWhole) := goodIn_app (goodIn_of _ (by decide +kernel)) ggX5_when_X5_nearestWhole
theorem dX5_when_0 : decode cX5_when 0 = .ok (.aload_n 0, 1) := by decide +kernel
theorem dX5_when_1 : decode cX5_when 1 = .ok (.iload_n 1, 1) := by decide +kernel
theorem dX5_when_2 : decode cX5_when 2 = .ok (.invokevirtual 218, 3) := by decide +kernel
theorem dX5_when_5 : decode cX5_when 5 = .ok (.ldc2_w 224, 3) := by decide +kernel
theorem dX5_when_8 : decode cX5_when 8 = .ok (.aload_n 0, 1) := by decide +kernel
theorem dX5_when_9 : decode cX5_when 9 = .ok (.getfield 37, 3) := by decide +kernel
theorem dX5_when_12 : decode cX5_when 12 = .ok (.iload_n 1, 1) := by decide +kernel
theorem dX5_when_13 : decode cX5_when 13 = .ok (.invokevirtual 226, 3) := by decide +kernel
theorem dX5_when_16 : decode cX5_when 16 = .ok (.dmul, 1) := by decide +kernel
theorem dX5_when_17 : decode cX5_when 17 = .ok (.invokestatic 230, 3) := by decide +kernel
theorem dX5_when_20 : decode cX5_when 20 = .ok (.l2d, 1) := by decide +kernel
theorem dX5_when_21 : decode cX5_when 21 = .ok (.ldc2_w 224, 3) := by decide +kernel
theorem dX5_when_24 : decode cX5_when 24 = .ok (.ddiv, 1) := by decide +kernel
theorem dX5_when_25 : decode cX5_when 25 = .ok (.dreturn, 1) := by decide +kernel
set_option maxRecDepth 20000 in
theorem ggX5_speed_X4_speedNow : GoodIn wsX5_speed wsX4_speedNow := goodIn_r _ [6, 7, 8, 9, 10, 18, 19, 20, 21, 22, 23, 24, 25, 26, 27, 28] (by decide +kernel) (by decide +kernel)
set_option maxRecDepth 20000 in
theorem gX5_speed_X4_speedNow : GoodIn wsX5_speed (wsV RX5 234 RX4 yX4_speedNow wsX4_speedNow) := goodIn_app (goodIn_of _ (by decide +kernel)) ggX5_speed_X4_speedNow
theorem dX5_speed_0 : decode cX5_speed 0 = .ok (.aload_n 0, 1) := by decide +kernel
theorem dX5_speed_1 : decode cX5_speed 1 = .ok (.getfield 19, 3) := by decide +kernel
theorem dX5_speed_4 : decode cX5_speed 4 = .ok (.invokevirtual 234, 3) := by decide +kernel
theorem dX5_speed_7 : decode cX5_speed 7 = .ok (.f2d, 1) := by decide +kernel
theorem dX5_speed_8 : decode cX5_speed 8 = .ok (.dreturn, 1) := by decide +kernel
set_option maxRecDepth 20000 in
theorem ggX5_many_X5_needQuestion : GoodIn wsX5_many wsX5_needQuestion := goodIn_ca (goodIn_r _ [21, 22, 23] (by decide +kernel) (by decide +kernel)) (goodIn_sub (fun _ h => List.mem_cons_of_mem _ (List.mem_append_right _ h)) (by decide +kernel))
set_option maxRecDepth 20000 in
theorem gX5_many_X5_needQuestion : GoodIn wsX5_many (va_wsS RX5 155 yX5_needQuestion wsX5_needQuestion) := goodIn_app (goodIn_of _ (by decide +kernel)) ggX5_many_X5_needQuestion
set_option maxRecDepth 20000 in
theorem ggX5_many_X1_brokenTeeth : GoodIn wsX5_many wsX1_brokenTeeth := goodIn_r _ [28, 29, 30, 63, 64, 65, 66, 67, 68] (by decide +kernel) (by decide +kernel)
set_option maxRecDepth 20000 in
theorem gX5_many_X1_brokenTeeth : GoodIn wsX5_many (wsV RX5 238 RX1 yX1_brokenTeeth wsX1_brokenTeeth) := goodIn_app (goodIn_of _ (by decide +kernel)) ggX5_many_X1_brokenTeeth
set_option maxRecDepth 20000 in
theorem ggX5_many_X5_allPins : GoodIn wsX5_many wsX5_allPins := goodIn_r _ [34, 1, 2, 35, 36, 37, 38, 39, 40, 41, 42, 43, 44, 45, 46, 47, 48, 49, 50, 51, 52, 53, 54, 55, 56, 57, 58, 59, 60, 61, 62, 63, 64, 65, 66, 67, 68, 88, 89] (by decide +kernel) (by decide +kernel)
set_option maxRecDepth 20000 in
theorem gX5_many_X5_allPins : GoodIn wsX5_many (wsV RX5 242 RX5 yX5_allPins wsX5_allPins) := goodIn_app (goodIn_of _ (by decide +kernel)) ggX5_many_X5_allPins
theorem dX5_many_0 : decode cX5_many 0 = .ok (.iload_n 1, 1) := by decide +kernel
theorem dX5_many_1 : decode cX5_many 1 = .ok (.bipush 15, 2) := by decide +kernel
theorem dX5_many_3 : decode cX5_many 3 = .ok (.invokestatic 155, 3) := by decide +kernel
theorem dX5_many_6 : decode cX5_many 6 = .ok (.iload_n 1, 1) := by decide +kernel
theorem dX5_many_7 : decode cX5_many 7 = .ok (.tableswitch 175 0 13 #[69, 77, 85, 93, 98, 106, 114, 122, 130, 138, 146, 154, 162, 170], 69) := by decide +kernel
theorem dX5_many_76 : decode cX5_many 76 = .ok (.aload_n 0, 1) := by decide +kernel
theorem dX5_many_77 : decode cX5_many 77 = .ok (.getfield 27, 3) := by decide +kernel
theorem dX5_many_80 : decode cX5_many 80 = .ok (.getfield 45, 3) := by decide +kernel
theorem dX5_many_83 : decode cX5_many 83 = .ok (.ireturn, 1) := by decide +kernel
theorem dX5_many_84 : decode cX5_many 84 = .ok (.aload_n 0, 1) := by decide +kernel
theorem dX5_many_85 : decode cX5_many 85 = .ok (.getfield 27, 3) := by decide +kernel
theorem dX5_many_88 : decode cX5_many 88 = .ok (.invokevirtual 238, 3) := by decide +kernel
theorem dX5_many_91 : decode cX5_many 91 = .ok (.ireturn, 1) := by decide +kernel
theorem dX5_many_92 : decode cX5_many 92 = .ok (.aload_n 0, 1) := by decide +kernel
theorem dX5_many_93 : decode cX5_many 93 = .ok (.getfield 10, 3) := by decide +kernel
theorem dX5_many_96 : decode cX5_many 96 = .ok (.getfield 69, 3) := by decide +kernel
theorem dX5_many_99 : decode cX5_many 99 = .ok (.ireturn, 1) := by decide +kernel
theorem dX5_many_100 : decode cX5_many 100 = .ok (.aload_n 0, 1) := by decide +kernel
theorem dX5_many_101 : decode cX5_many 101 = .ok (.invokevirtual 242, 3) := by decide +kernel
theorem dX5_many_104 : decode cX5_many 104 = .ok (.ireturn, 1) := by decide +kernel
theorem dX5_many_105 : decode cX5_many 105 = .ok (.aload_n 0, 1) := by decide +kernel
theorem dX5_many_106 : decode cX5_many 106 = .ok (.getfield 19, 3) := by decide +kernel
theorem dX5_many_109 : decode cX5_many 109 = .ok (.getfield 245, 3) := by decide +kernel
theorem dX5_many_112 : decode cX5_many 112 = .ok (.ireturn, 1) := by decide +kernel
theorem dX5_many_113 : decode cX5_many 113 = .ok (.aload_n 0, 1) := by decide +kernel
theorem dX5_many_114 : decode cX5_many 114 = .ok (.getfield 19, 3) := by decide +kernel
theorem dX5_many_117 : decode cX5_many 117 = .ok (.getfield 112, 3) := by decide +kernel
theorem dX5_many_120 : decode cX5_many 120 = .ok (.ireturn, 1) := by decide +kernel
theorem dX5_many_121 : decode cX5_many 121 = .ok (.aload_n 0, 1) := by decide +kernel
theorem dX5_many_122 : decode cX5_many 122 = .ok (.getfield 19, 3) := by decide +kernel
theorem dX5_many_125 : decode cX5_many 125 = .ok (.getfield 117, 3) := by decide +kernel
theorem dX5_many_128 : decode cX5_many 128 = .ok (.ireturn, 1) := by decide +kernel
theorem dX5_many_129 : decode cX5_many 129 = .ok (.aload_n 0, 1) := by decide +kernel
theorem dX5_many_130 : decode cX5_many 130 = .ok (.getfield 19, 3) := by decide +kernel
theorem dX5_many_133 : decode cX5_many 133 = .ok (.getfield 131, 3) := by decide +kernel
theorem dX5_many_136 : decode cX5_many 136 = .ok (.ireturn, 1) := by decide +kernel
theorem dX5_many_137 : decode cX5_many 137 = .ok (.aload_n 0, 1) := by decide +kernel
theorem dX5_many_138 : decode cX5_many 138 = .ok (.getfield 19, 3) := by decide +kernel
theorem dX5_many_141 : decode cX5_many 141 = .ok (.getfield 248, 3) := by decide +kernel
theorem dX5_many_144 : decode cX5_many 144 = .ok (.ireturn, 1) := by decide +kernel
theorem dX5_many_145 : decode cX5_many 145 = .ok (.aload_n 0, 1) := by decide +kernel
theorem dX5_many_146 : decode cX5_many 146 = .ok (.getfield 37, 3) := by decide +kernel
theorem dX5_many_149 : decode cX5_many 149 = .ok (.getfield 141, 3) := by decide +kernel
theorem dX5_many_152 : decode cX5_many 152 = .ok (.ireturn, 1) := by decide +kernel
theorem dX5_many_153 : decode cX5_many 153 = .ok (.aload_n 0, 1) := by decide +kernel
theorem dX5_many_154 : decode cX5_many 154 = .ok (.getfield 37, 3) := by decide +kernel
theorem dX5_many_157 : decode cX5_many 157 = .ok (.getfield 251, 3) := by decide +kernel
theorem dX5_many_160 : decode cX5_many 160 = .ok (.ireturn, 1) := by decide +kernel
theorem dX5_many_161 : decode cX5_many 161 = .ok (.aload_n 0, 1) := by decide +kernel
theorem dX5_many_162 : decode cX5_many 162 = .ok (.getfield 19, 3) := by decide +kernel
theorem dX5_many_165 : decode cX5_many 165 = .ok (.getfield 254, 3) := by decide +kernel
theorem dX5_many_168 : decode cX5_many 168 = .ok (.ireturn, 1) := by decide +kernel
theorem dX5_many_169 : decode cX5_many 169 = .ok (.aload_n 0, 1) := by decide +kernel
theorem dX5_many_170 : decode cX5_many 170 = .ok (.getfield 19, 3) := by decide +kernel
theorem dX5_many_173 : decode cX5_many 173 = .ok (.getfield 257, 3) := by decide +kernel
theorem dX5_many_176 : decode cX5_many 176 = .ok (.ireturn, 1) := by decide +kernel
theorem dX5_many_177 : decode cX5_many 177 = .ok (.aload_n 0, 1) := by decide +kernel
theorem dX5_many_178 : decode cX5_many 178 = .ok (.getfield 120, 3) := by decide +kernel
theorem dX5_many_181 : decode cX5_many 181 = .ok (.ireturn, 1) := by decide +kernel
theorem dX5_many_182 : decode cX5_many 182 = .ok (.aload_n 0, 1) := by decide +kernel
theorem dX5_many_183 : decode cX5_many 183 = .ok (.getfield 19, 3) := by decide +kernel
theorem dX5_many_186 : decode cX5_many 186 = .ok (.getfield 260, 3) := by decide +kernel
theorem dX5_many_189 : decode cX5_many 189 = .ok (.d2i, 1) := by decide +kernel
theorem dX5_many_190 : decode cX5_many 190 = .ok (.ireturn, 1) := by decide +kernel
set_option maxRecDepth 20000 in
theorem ggX5_bestKey_X5_needTune : GoodIn wsX5_bestKey wsX5_needTune := goodIn_ca (goodIn_r _ [5, 6, 7, 8, 9, 75, 76, 77, 78, 79, 80, 81, 82, 83, 84] (by decide +kernel) (by decide +kernel)) (goodIn_sub (fun _ h => List.mem_cons_of_mem _ (List.mem_append_right _ h)) (by decide +kernel))
set_option maxRecDepth 20000 in
theorem gX5_bestKey_X5_needTune : GoodIn wsX5_bestKey (wsV RX5 72 RX5 yX5_needTune wsX5_needTune) := goodIn_app (goodIn_of _ (by decide +kernel)) ggX5_bestKey_X5_needTune
set_option maxRecDepth 20000 in
theorem ggX5_bestKey_X5_needLine : GoodIn wsX5_bestKey wsX5_needLine := goodIn_ca (goodIn_r _ [12, 6, 7] (by decide +kernel) (by decide +kernel)) (goodIn_sub (fun _ h => List.mem_cons_of_mem _ (List.mem_append_right _ h)) (by decide +kernel))
set_option maxRecDepth 20000 in
theorem gX5_bestKey_X5_needLine : GoodIn wsX5_bestKey (va_wsS RX5 96 yX5_needLine wsX5_needLine) := goodIn_app (goodIn_of _ (by decide +kernel)) ggX5_bestKey_X5_needLine
set_option maxRecDepth 20000 in
theorem ggX5_bestKey_X5_wouldLose : GoodIn wsX5_bestKey wsX5_wouldLose := goodIn_r _ [16, 17, 18, 19, 20, 21, 22, 23, 24, 25, 26, 27, 28, 29, 30, 31, 32, 33, 34, 35, 4, 36, 8, 37, 38, 39, 40, 41, 42, 43, 44, 45, 46, 47, 48, 49, 50, 51, 52, 53, 54, 55, 56, 57, 58, 59, 60, 61, 62, 63, 64, 65, 66, 67, 68, 69, 70, 71, 72, 73, 74, 75, 76, 77, 78, 79, 80, 81, 85, 86, 87, 88, 89, 90, 91, 92, 93, 94, 95, 96, 97, 82, 83, 84, 98, 99, 100, 101, 102, 103] (by decide +kernel) (by decide +kernel)
set_option maxRecDepth 20000 in
theorem gX5_bestKey_X5_wouldLose : GoodIn wsX5_bestKey (wsV RX5 264 RX5 yX5_wouldLose wsX5_wouldLose) := goodIn_app (goodIn_of _ (by decide +kernel)) ggX5_bestKey_X5_wouldLose
theorem dX5_bestKey_0 : decode cX5_bestKey 0 = .ok (.aload_n 0, 1) := by decide +kernel
theorem dX5_bestKey_1 : decode cX5_bestKey 1 = .ok (.iload_n 1, 1) := by decide +kernel
theorem dX5_bestKey_2 : decode cX5_bestKey 2 = .ok (.invokevirtual 72, 3) := by decide +kernel
theorem dX5_bestKey_5 : decode cX5_bestKey 5 = .ok (.iload_n 2, 1) := by decide +kernel
theorem dX5_bestKey_6 : decode cX5_bestKey 6 = .ok (.invokestatic 96, 3) := by decide +kernel
theorem dX5_bestKey_9 : decode cX5_bestKey 9 = .ok (.iconst 0, 1) := by decide +kernel
theorem dX5_bestKey_10 : decode cX5_bestKey 10 = .ok (.istore_n 3, 1) := by decide +kernel
theorem dX5_bestKey_11 : decode cX5_bestKey 11 = .ok (.aload_n 0, 1) := by decide +kernel
theorem dX5_bestKey_12 : decode cX5_bestKey 12 = .ok (.iload_n 1, 1) := by decide +kernel
theorem dX5_bestKey_13 : decode cX5_bestKey 13 = .ok (.iload_n 2, 1) := by decide +kernel
theorem dX5_bestKey_14 : decode cX5_bestKey 14 = .ok (.iconst 0, 1) := by decide +kernel
theorem dX5_bestKey_15 : decode cX5_bestKey 15 = .ok (.invokevirtual 264, 3) := by decide +kernel
theorem dX5_bestKey_18 : decode cX5_bestKey 18 = .ok (.istore 4, 2) := by decide +kernel
theorem dX5_bestKey_20 : decode cX5_bestKey 20 = .ok (.iconst 1, 1) := by decide +kernel
theorem dX5_bestKey_21 : decode cX5_bestKey 21 = .ok (.istore 5, 2) := by decide +kernel
theorem dX5_bestKey_23 : decode cX5_bestKey 23 = .ok (.iload 5, 2) := by decide +kernel
theorem dX5_bestKey_25 : decode cX5_bestKey 25 = .ok (.bipush 24, 2) := by decide +kernel
theorem dX5_bestKey_27 : decode cX5_bestKey 27 = .ok (.if_icmp .gt 64, 3) := by decide +kernel
theorem dX5_bestKey_30 : decode cX5_bestKey 30 = .ok (.iload 4, 2) := by decide +kernel
theorem dX5_bestKey_32 : decode cX5_bestKey 32 = .ok (.ifCond .le 59, 3) := by decide +kernel
theorem dX5_bestKey_35 : decode cX5_bestKey 35 = .ok (.aload_n 0, 1) := by decide +kernel
theorem dX5_bestKey_36 : decode cX5_bestKey 36 = .ok (.iload_n 1, 1) := by decide +kernel
theorem dX5_bestKey_37 : decode cX5_bestKey 37 = .ok (.iload_n 2, 1) := by decide +kernel
theorem dX5_bestKey_38 : decode cX5_bestKey 38 = .ok (.iload 5, 2) := by decide +kernel
theorem dX5_bestKey_40 : decode cX5_bestKey 40 = .ok (.invokevirtual 264, 3) := by decide +kernel
theorem dX5_bestKey_43 : decode cX5_bestKey 43 = .ok (.istore 6, 2) := by decide +kernel
theorem dX5_bestKey_45 : decode cX5_bestKey 45 = .ok (.iload 6, 2) := by decide +kernel
theorem dX5_bestKey_47 : decode cX5_bestKey 47 = .ok (.iload 4, 2) := by decide +kernel
theorem dX5_bestKey_49 : decode cX5_bestKey 49 = .ok (.if_icmp .ge 10, 3) := by decide +kernel
theorem dX5_bestKey_52 : decode cX5_bestKey 52 = .ok (.iload 6, 2) := by decide +kernel
theorem dX5_bestKey_54 : decode cX5_bestKey 54 = .ok (.istore 4, 2) := by decide +kernel
theorem dX5_bestKey_56 : decode cX5_bestKey 56 = .ok (.iload 5, 2) := by decide +kernel
theorem dX5_bestKey_58 : decode cX5_bestKey 58 = .ok (.istore_n 3, 1) := by decide +kernel
theorem dX5_bestKey_59 : decode cX5_bestKey 59 = .ok (.aload_n 0, 1) := by decide +kernel
theorem dX5_bestKey_60 : decode cX5_bestKey 60 = .ok (.iload_n 1, 1) := by decide +kernel
theorem dX5_bestKey_61 : decode cX5_bestKey 61 = .ok (.iload_n 2, 1) := by decide +kernel
theorem dX5_bestKey_62 : decode cX5_bestKey 62 = .ok (.iload 5, 2) := by decide +kernel
theorem dX5_bestKey_64 : decode cX5_bestKey 64 = .ok (.ineg, 1) := by decide +kernel
theorem dX5_bestKey_65 : decode cX5_bestKey 65 = .ok (.invokevirtual 264, 3) := by decide +kernel
theorem dX5_bestKey_68 : decode cX5_bestKey 68 = .ok (.istore 7, 2) := by decide +kernel
theorem dX5_bestKey_70 : decode cX5_bestKey 70 = .ok (.iload 7, 2) := by decide +kernel
theorem dX5_bestKey_72 : decode cX5_bestKey 72 = .ok (.iload 4, 2) := by decide +kernel
theorem dX5_bestKey_74 : decode cX5_bestKey 74 = .ok (.if_icmp .ge 11, 3) := by decide +kernel
theorem dX5_bestKey_77 : decode cX5_bestKey 77 = .ok (.iload 7, 2) := by decide +kernel
theorem dX5_bestKey_79 : decode cX5_bestKey 79 = .ok (.istore 4, 2) := by decide +kernel
theorem dX5_bestKey_81 : decode cX5_bestKey 81 = .ok (.iload 5, 2) := by decide +kernel
theorem dX5_bestKey_83 : decode cX5_bestKey 83 = .ok (.ineg, 1) := by decide +kernel
theorem dX5_bestKey_84 : decode cX5_bestKey 84 = .ok (.istore_n 3, 1) := by decide +kernel
theorem dX5_bestKey_85 : decode cX5_bestKey 85 = .ok (.iinc 5 1, 3) := by decide +kernel
theorem dX5_bestKey_88 : decode cX5_bestKey 88 = .ok (.goto (-65), 3) := by decide +kernel
theorem dX5_bestKey_91 : decode cX5_bestKey 91 = .ok (.iload_n 3, 1) := by decide +kernel
theorem dX5_bestKey_92 : decode cX5_bestKey 92 = .ok (.ireturn, 1) := by decide +kernel
set_option maxRecDepth 20000 in
theorem ggX5_lasts_X4_takeOver : GoodIn wsX5_lasts wsX4_takeOver := goodIn_r _ [8, 9, 10, 11, 12, 13, 14, 15, 16, 17, 18, 19, 20, 21, 22, 23, 24, 25, 26, 27, 28, 29, 30, 31, 32, 33, 34, 35, 36, 37, 38, 39, 40, 41, 42, 43, 44, 45, 46, 47, 48, 49, 50, 108, 109, 110, 111, 112, 113, 114, 115, 116, 117, 118, 119, 120, 121, 122, 123, 124, 125, 126] (by decide +kernel) (by decide +kernel)
set_option maxRecDepth 20000 in
theorem gX5_lasts_X4_takeOver : GoodIn wsX5_lasts (wsV RX5 267 RX4 yX4_takeOver wsX4_takeOver) := goodIn_app (goodIn_of _ (by decide +kernel)) ggX5_lasts_X4_takeOver
set_option maxRecDepth 20000 in
theorem ggX5_lasts_X4_step : GoodIn wsX5_lasts wsX4_step := goodIn_r _ [54, 18, 55, 14, 15, 9, 56, 57, 10, 11, 12, 58, 59, 60, 61, 62, 63, 64, 7, 65, 66, 13, 67, 68, 69, 70, 33, 71, 35, 40, 41, 42, 72, 73, 74, 75, 16, 76, 77, 17, 78, 79, 80, 22, 81, 28, 29, 27, 26, 82, 83, 84, 85, 86, 87, 88, 89, 90, 91, 92, 93, 94, 95, 96, 97, 98, 99, 47, 100, 48, 49, 50, 108, 109, 110, 111, 112, 113, 114, 115, 116, 117, 118, 119, 120, 121, 122, 123, 124, 125, 126, 127, 128, 129, 130, 131] (by decide +kernel) (by decide +kernel)
set_option maxRecDepth 20000 in
theorem gX5_lasts_X4_step : GoodIn wsX5_lasts (wsV RX5 271 RX4 yX4_step wsX4_step) := goodIn_app (goodIn_of _ (by decide +kernel)) ggX5_lasts_X4_step
theorem dX5_lasts_0 : decode cX5_lasts 0 = .ok (.aload_n 0, 1) := by decide +kernel
theorem dX5_lasts_1 : decode cX5_lasts 1 = .ok (.getfield 38, 3) := by decide +kernel
theorem dX5_lasts_4 : decode cX5_lasts 4 = .ok (.aload_n 0, 1) := by decide +kernel
theorem dX5_lasts_5 : decode cX5_lasts 5 = .ok (.getfield 19, 3) := by decide +kernel
theorem dX5_lasts_8 : decode cX5_lasts 8 = .ok (.invokevirtual 267, 3) := by decide +kernel
theorem dX5_lasts_11 : decode cX5_lasts 11 = .ok (.iconst 0, 1) := by decide +kernel
theorem dX5_lasts_12 : decode cX5_lasts 12 = .ok (.istore_n 1, 1) := by decide +kernel
theorem dX5_lasts_13 : decode cX5_lasts 13 = .ok (.aload_n 0, 1) := by decide +kernel
theorem dX5_lasts_14 : decode cX5_lasts 14 = .ok (.getfield 38, 3) := by decide +kernel
theorem dX5_lasts_17 : decode cX5_lasts 17 = .ok (.getfield 117, 3) := by decide +kernel
theorem dX5_lasts_20 : decode cX5_lasts 20 = .ok (.ifCond .le 23, 3) := by decide +kernel
theorem dX5_lasts_23 : decode cX5_lasts 23 = .ok (.iload_n 1, 1) := by decide +kernel
theorem dX5_lasts_24 : decode cX5_lasts 24 = .ok (.sipush 2000, 3) := by decide +kernel
theorem dX5_lasts_27 : decode cX5_lasts 27 = .ok (.if_icmp .ge 16, 3) := by decide +kernel
theorem dX5_lasts_30 : decode cX5_lasts 30 = .ok (.aload_n 0, 1) := by decide +kernel
theorem dX5_lasts_31 : decode cX5_lasts 31 = .ok (.getfield 38, 3) := by decide +kernel
theorem dX5_lasts_34 : decode cX5_lasts 34 = .ok (.invokevirtual 271, 3) := by decide +kernel
theorem dX5_lasts_37 : decode cX5_lasts 37 = .ok (.iinc 1 1, 3) := by decide +kernel
theorem dX5_lasts_40 : decode cX5_lasts 40 = .ok (.goto (-27), 3) := by decide +kernel
theorem dX5_lasts_43 : decode cX5_lasts 43 = .ok (.iload_n 1, 1) := by decide +kernel
theorem dX5_lasts_44 : decode cX5_lasts 44 = .ok (.ireturn, 1) := by decide +kernel
set_option maxRecDepth 20000 in
theorem ggX5_wouldBuzz_X5_needSteps : GoodIn wsX5_wouldBuzz wsX5_needSteps := goodIn_ca (goodIn_r _ [7, 8, 9] (by decide +kernel) (by decide +kernel)) (goodIn_sub (fun _ h => List.mem_cons_of_mem _ (List.mem_append_right _ h)) (by decide +kernel))
set_option maxRecDepth 20000 in
theorem gX5_wouldBuzz_X5_needSteps : GoodIn wsX5_wouldBuzz (va_wsS RX5 138 yX5_needSteps wsX5_needSteps) := goodIn_app (goodIn_of _ (by decide +kernel)) ggX5_wouldBuzz_X5_needSteps
set_option maxRecDepth 20000 in
theorem ggX5_wouldBuzz_X4_takeOver : GoodIn wsX5_wouldBuzz wsX4_takeOver := goodIn_r _ [14, 15, 16, 17, 18, 19, 20, 21, 22, 23, 24, 25, 26, 27, 28, 29, 30, 31, 32, 33, 34, 35, 36, 37, 38, 39, 40, 41, 42, 43, 44, 45, 46, 47, 48, 49, 50, 51, 52, 53, 54, 55, 56, 118, 119, 120, 121, 122, 123, 124, 125, 126, 127, 128, 129, 130, 131, 132, 133, 134, 135, 136] (by decide +kernel) (by decide +kernel)
set_option maxRecDepth 20000 in
theorem gX5_wouldBuzz_X4_takeOver : GoodIn wsX5_wouldBuzz (wsV RX5 267 RX4 yX4_takeOver wsX4_takeOver) := goodIn_app (goodIn_of _ (by decide +kernel)) ggX5_wouldBuzz_X4_takeOver
set_option maxRecDepth 20000 in
theorem ggX5_wouldBuzz_X4_run : GoodIn wsX5_wouldBuzz wsX4_run := goodIn_r _ [60, 18, 61, 62, 63, 13, 64, 24, 65, 20, 21, 15, 66, 67, 16, 17, 68, 69, 70, 71, 72, 73, 74, 75, 76, 19, 77, 78, 79, 80, 39, 81, 41, 46, 47, 48, 82, 83, 84, 85, 22, 86, 87, 23, 88, 89, 90, 28, 91, 34, 35, 33, 32, 92, 93, 94, 95, 96, 97, 98, 99, 100, 101, 102, 103, 104, 105, 106, 107, 108, 109, 53, 110, 54, 55, 56, 118, 119, 120, 121, 122, 123, 124, 125, 126, 127, 128, 129, 130, 131, 132, 133, 134, 135, 136, 137, 138, 139, 140, 141] (by decide +kernel) (by decide +kernel)
set_option maxRecDepth 20000 in
theorem gX5_wouldBuzz_X4_run : GoodIn wsX5_wouldBuzz (wsV RX5 146 RX4 yX4_run wsX4_run) := goodIn_app (goodIn_of _ (by decide +kernel)) ggX5_wouldBuzz_X4_run
theorem dX5_wouldBuzz_0 : decode cX5_wouldBuzz 0 = .ok (.iload_n 1, 1) := by decide +kernel
theorem dX5_wouldBuzz_1 : decode cX5_wouldBuzz 1 = .ok (.invokestatic 138, 3) := by decide +kernel
theorem dX5_wouldBuzz_4 : decode cX5_wouldBuzz 4 = .ok (.aload_n 0, 1) := by decide +kernel
theorem dX5_wouldBuzz_5 : decode cX5_wouldBuzz 5 = .ok (.getfield 38, 3) := by decide +kernel
theorem dX5_wouldBuzz_8 : decode cX5_wouldBuzz 8 = .ok (.aload_n 0, 1) := by decide +kernel
theorem dX5_wouldBuzz_9 : decode cX5_wouldBuzz 9 = .ok (.getfield 19, 3) := by decide +kernel
theorem dX5_wouldBuzz_12 : decode cX5_wouldBuzz 12 = .ok (.invokevirtual 267, 3) := by decide +kernel
theorem dX5_wouldBuzz_15 : decode cX5_wouldBuzz 15 = .ok (.aload_n 0, 1) := by decide +kernel
theorem dX5_wouldBuzz_16 : decode cX5_wouldBuzz 16 = .ok (.getfield 38, 3) := by decide +kernel
theorem dX5_wouldBuzz_19 : decode cX5_wouldBuzz 19 = .ok (.iload_n 1, 1) := by decide +kernel
theorem dX5_wouldBuzz_20 : decode cX5_wouldBuzz 20 = .ok (.invokevirtual 146, 3) := by decide +kernel
theorem dX5_wouldBuzz_23 : decode cX5_wouldBuzz 23 = .ok (.aload_n 0, 1) := by decide +kernel
theorem dX5_wouldBuzz_24 : decode cX5_wouldBuzz 24 = .ok (.getfield 38, 3) := by decide +kernel
theorem dX5_wouldBuzz_27 : decode cX5_wouldBuzz 27 = .ok (.getfield 254, 3) := by decide +kernel
theorem dX5_wouldBuzz_30 : decode cX5_wouldBuzz 30 = .ok (.aload_n 0, 1) := by decide +kernel
theorem dX5_wouldBuzz_31 : decode cX5_wouldBuzz 31 = .ok (.getfield 19, 3) := by decide +kernel
theorem dX5_wouldBuzz_34 : decode cX5_wouldBuzz 34 = .ok (.getfield 254, 3) := by decide +kernel
theorem dX5_wouldBuzz_37 : decode cX5_wouldBuzz 37 = .ok (.isub, 1) := by decide +kernel
theorem dX5_wouldBuzz_38 : decode cX5_wouldBuzz 38 = .ok (.ireturn, 1) := by decide +kernel
set_option maxRecDepth 20000 in
theorem ggX5_digest_X5_many : GoodIn wsX5_digest wsX5_many := goodIn_ca (goodIn_r _ [14, 3, 4, 5, 6, 15, 16, 17, 18, 19, 20, 7, 21, 8, 22, 23, 24, 25, 26, 27, 13, 28, 29, 30, 31, 32, 33, 34, 35, 36, 37, 38, 39, 40, 41, 42, 43, 44, 45, 46, 47, 48, 49, 50, 51, 52, 53, 54, 55, 56, 57, 58, 59, 60, 61, 62, 271, 272, 273, 274, 275, 276, 277, 278, 279, 280, 281, 282, 283, 284, 285, 286, 292, 293, 294, 295, 296, 297, 298, 299, 300, 301, 302, 287, 288, 289, 290, 291, 303, 304] (by decide +kernel) (by decide +kernel)) (goodIn_sub (fun _ h => List.mem_cons_of_mem _ (List.mem_append_left _ (List.mem_append_right _ h))) (by decide +kernel))
set_option maxRecDepth 20000 in
theorem gX5_digest_X5_many : GoodIn wsX5_digest (wsV RX5 278 RX5 yX5_many wsX5_many) := goodIn_app (goodIn_of _ (by decide +kernel)) ggX5_digest_X5_many
set_option maxRecDepth 20000 in
theorem ggX5_digest_X5_digestTooth : GoodIn wsX5_digest wsX5_digestTooth := goodIn_ca (goodIn_ca (goodIn_r _ [66, 2, 42, 67, 68, 69, 13, 70, 3, 71, 72, 73, 74, 75, 76, 77, 78, 79, 80, 4, 26, 27, 28, 29, 30, 43, 44, 45, 46, 47, 48, 49, 50, 51, 52, 53, 54, 55, 56, 57, 58, 59, 60, 61, 62, 81, 271, 272, 273, 274, 275, 276, 277, 278, 279, 280, 281, 282, 283, 303, 304] (by decide +kernel) (by decide +kernel)) (goodIn_sub (fun _ h => List.mem_cons_of_mem _ (List.mem_append_right _ h)) (by decide +kernel))) (goodIn_sub (fun _ h => List.mem_cons_of_mem _ (List.mem_append_left _ (List.mem_append_right _ h))) (by decide +kernel))
set_option maxRecDepth 20000 in
theorem gX5_digest_X5_digestTooth : GoodIn wsX5_digest (wsV RX5 281 RX5 yX5_digestTooth wsX5_digestTooth) := goodIn_app (goodIn_of _ (by decide +kernel)) ggX5_digest_X5_digestTooth
set_option maxRecDepth 20000 in
theorem ggX5_digest_X5_digestTune : GoodIn wsX5_digest wsX5_digestTune := goodIn_ca (goodIn_ca (goodIn_r _ [85, 2, 86, 87, 88, 13, 89, 5, 90, 91, 92, 93, 94, 79, 80, 6, 26, 27, 28, 29, 30, 95, 96, 97, 98, 99, 100, 101, 102, 103, 104, 105, 106, 107, 108, 109, 110, 111, 112, 113, 114, 115, 116, 117, 118, 119, 120, 121, 122, 123, 124, 125, 126, 127, 128, 129, 130, 131, 132, 133, 134, 135, 136, 137, 138, 42, 139, 140, 141, 46, 142, 52, 143, 144, 145, 146, 53, 54, 55, 147, 148, 149, 150, 3, 151, 152, 153, 154, 155, 156, 157, 158, 159, 160, 161, 162, 163, 56, 57, 58, 59, 60, 61, 62, 164, 165, 166, 167, 168, 169, 170, 171, 271, 272, 273, 274, 275, 276, 277, 284, 285, 286, 292, 293, 294, 295, 296, 297, 298, 299, 300, 301, 302, 303, 304, 278, 279, 280, 281, 282, 283] (by decide +kernel) (by decide +kernel)) (goodIn_sub (fun _ h => List.mem_cons_of_mem _ (List.mem_append_right _ h)) (by decide +kernel))) (goodIn_sub (fun _ h => List.mem_cons_of_mem _ (List.mem_append_left _ (List.mem_append_right _ h))) (by decide +kernel))
set_option maxRecDepth 20000 in
theorem gX5_digest_X5_digestTune : GoodIn wsX5_digest (wsV RX5 285 RX5 yX5_digestTune wsX5_digestTune) := goodIn_app (goodIn_of _ (by decide +kernel)) ggX5_digest_X5_digestTune
set_option maxRecDepth 20000 in
theorem ggX5_digest_X2_pitchOf : GoodIn wsX5_digest wsX2_pitchOf := goodIn_r _ [176, 177, 178, 179, 180, 175, 181, 182, 287, 288, 289, 290, 291] (by decide +kernel) (by decide +kernel)
set_option maxRecDepth 20000 in
theorem gX5_digest_X2_pitchOf : GoodIn wsX5_digest (wsV RX5 221 RX2 yX2_pitchOf wsX2_pitchOf) := goodIn_app (goodIn_of _ (by decide +kernel)) ggX5_digest_X2_pitchOf
set_option maxRecDepth 20000 in
theorem ggX5_digest_X2_clockOf : GoodIn wsX5_digest wsX2_clockOf := goodIn_r _ [186, 187, 178, 179, 180, 175, 181, 182, 287, 288, 289, 290, 291] (by decide +kernel) (by decide +kernel)
set_option maxRecDepth 20000 in
theorem gX5_digest_X2_clockOf : GoodIn wsX5_digest (wsV RX5 226 RX2 yX2_clockOf wsX2_clockOf) := goodIn_app (goodIn_of _ (by decide +kernel)) ggX5_digest_X2_clockOf
set_option maxRecDepth 20000 in
theorem ggX5_digest_X5_lasts : GoodIn wsX5_digest wsX5_lasts := goodIn_r _ [191, 137, 15, 18, 192, 193, 194, 195, 196, 197, 198, 199, 200, 201, 202, 203, 204, 205, 206, 207, 208, 209, 34, 210, 36, 211, 37, 212, 213, 214, 215, 140, 141, 46, 142, 52, 143, 144, 145, 146, 53, 54, 55, 216, 217, 218, 219, 168, 169, 170, 171, 220, 221, 222, 223, 224, 225, 226, 227, 111, 112, 113, 228, 229, 230, 231, 232, 233, 234, 235, 236, 237, 238, 239, 240, 241, 242, 243, 244, 245, 246, 247, 248, 249, 250, 175, 251, 252, 177, 187, 253, 182, 178, 179, 180, 181, 254, 255, 256, 257, 258, 271, 272, 273, 274, 275, 276, 277, 292, 293, 294, 295, 296, 297, 298, 299, 300, 301, 302, 278, 279, 280, 281, 282, 283, 303, 304, 287, 288, 289, 290, 291] (by decide +kernel) (by decide +kernel)
set_option maxRecDepth 20000 in
theorem gX5_digest_X5_lasts : GoodIn wsX5_digest (wsV RX5 288 RX5 yX5_lasts wsX5_lasts) := goodIn_app (goodIn_of _ (by decide +kernel)) ggX5_digest_X5_lasts
set_option maxRecDepth 20000 in
theorem ggX5_digest_X5_wouldBuzz : GoodIn wsX5_digest wsX5_wouldBuzz := goodIn_ca (goodIn_r _ [262, 137, 15, 22, 263, 264, 13, 265, 29, 30, 192, 193, 194, 195, 196, 197, 198, 199, 200, 201, 202, 203, 204, 205, 206, 207, 208, 209, 34, 210, 36, 211, 37, 212, 213, 214, 215, 140, 141, 46, 142, 52, 143, 144, 145, 146, 53, 54, 55, 216, 217, 218, 219, 168, 169, 170, 171, 266, 267, 268, 269, 270, 221, 222, 223, 224, 225, 226, 227, 111, 112, 113, 228, 229, 230, 231, 232, 233, 234, 235, 236, 237, 238, 239, 240, 241, 242, 243, 244, 245, 246, 247, 248, 249, 250, 175, 251, 252, 177, 187, 253, 182, 178, 179, 180, 181, 254, 255, 256, 257, 258, 271, 272, 273, 274, 275, 276, 277, 292, 293, 294, 295, 296, 297, 298, 299, 300, 301, 302, 278, 279, 280, 281, 282, 283, 303, 304, 287, 288, 289, 290, 291] (by decide +kernel) (by decide +kernel)) (goodIn_sub (fun _ h => List.mem_cons_of_mem _ (List.mem_append_left _ (List.mem_append_right _ h))) (by decide +kernel))
set_option maxRecDepth 20000 in
theorem gX5_digest_X5_wouldBuzz : GoodIn wsX5_digest (wsV RX5 291 RX5 yX5_wouldBuzz wsX5_wouldBuzz) := goodIn_app (goodIn_of _ (by decide +kernel)) ggX5_digest_X5_wouldBuzz
theorem dX5_digest_0 : decode cX5_digest 0 = .ok (.ldc2_w 274, 3) := by decide +kernel
theorem dX5_digest_3 : decode cX5_digest 3 = .ok (.lstore_n 1, 1) := by decide +kernel
theorem dX5_digest_4 : decode cX5_digest 4 = .ok (.iconst 0, 1) := by decide +kernel
theorem dX5_digest_5 : decode cX5_digest 5 = .ok (.istore_n 3, 1) := by decide +kernel
theorem dX5_digest_6 : decode cX5_digest 6 = .ok (.iload_n 3, 1) := by decide +kernel
theorem dX5_digest_7 : decode cX5_digest 7 = .ok (.bipush 15, 2) := by decide +kernel
theorem dX5_digest_9 : decode cX5_digest 9 = .ok (.if_icmp .ge 22, 3) := by decide +kernel
theorem dX5_digest_12 : decode cX5_digest 12 = .ok (.lload_n 1, 1) := by decide +kernel
theorem dX5_digest_13 : decode cX5_digest 13 = .ok (.ldc2_w 276, 3) := by decide +kernel
theorem dX5_digest_16 : decode cX5_digest 16 = .ok (.lmul, 1) := by decide +kernel
theorem dX5_digest_17 : decode cX5_digest 17 = .ok (.aload_n 0, 1) := by decide +kernel
theorem dX5_digest_18 : decode cX5_digest 18 = .ok (.iload_n 3, 1) := by decide +kernel
theorem dX5_digest_19 : decode cX5_digest 19 = .ok (.invokevirtual 278, 3) := by decide +kernel
theorem dX5_digest_22 : decode cX5_digest 22 = .ok (.i2l, 1) := by decide +kernel
theorem dX5_digest_23 : decode cX5_digest 23 = .ok (.ladd, 1) := by decide +kernel
theorem dX5_digest_24 : decode cX5_digest 24 = .ok (.lstore_n 1, 1) := by decide +kernel
theorem dX5_digest_25 : decode cX5_digest 25 = .ok (.iinc 3 1, 3) := by decide +kernel
theorem dX5_digest_28 : decode cX5_digest 28 = .ok (.goto (-22), 3) := by decide +kernel
theorem dX5_digest_31 : decode cX5_digest 31 = .ok (.iconst 0, 1) := by decide +kernel
theorem dX5_digest_32 : decode cX5_digest 32 = .ok (.istore_n 3, 1) := by decide +kernel
theorem dX5_digest_33 : decode cX5_digest 33 = .ok (.iload_n 3, 1) := by decide +kernel
theorem dX5_digest_34 : decode cX5_digest 34 = .ok (.aload_n 0, 1) := by decide +kernel
theorem dX5_digest_35 : decode cX5_digest 35 = .ok (.getfield 27, 3) := by decide +kernel
theorem dX5_digest_38 : decode cX5_digest 38 = .ok (.getfield 45, 3) := by decide +kernel
theorem dX5_digest_41 : decode cX5_digest 41 = .ok (.if_icmp .ge 16, 3) := by decide +kernel
theorem dX5_digest_44 : decode cX5_digest 44 = .ok (.aload_n 0, 1) := by decide +kernel
theorem dX5_digest_45 : decode cX5_digest 45 = .ok (.lload_n 1, 1) := by decide +kernel
theorem dX5_digest_46 : decode cX5_digest 46 = .ok (.iload_n 3, 1) := by decide +kernel
theorem dX5_digest_47 : decode cX5_digest 47 = .ok (.invokevirtual 281, 3) := by decide +kernel
theorem dX5_digest_50 : decode cX5_digest 50 = .ok (.lstore_n 1, 1) := by decide +kernel
theorem dX5_digest_51 : decode cX5_digest 51 = .ok (.iinc 3 1, 3) := by decide +kernel
theorem dX5_digest_54 : decode cX5_digest 54 = .ok (.goto (-21), 3) := by decide +kernel
theorem dX5_digest_57 : decode cX5_digest 57 = .ok (.iconst 0, 1) := by decide +kernel
theorem dX5_digest_58 : decode cX5_digest 58 = .ok (.istore_n 3, 1) := by decide +kernel
theorem dX5_digest_59 : decode cX5_digest 59 = .ok (.iload_n 3, 1) := by decide +kernel
theorem dX5_digest_60 : decode cX5_digest 60 = .ok (.aload_n 0, 1) := by decide +kernel
theorem dX5_digest_61 : decode cX5_digest 61 = .ok (.getfield 10, 3) := by decide +kernel
theorem dX5_digest_64 : decode cX5_digest 64 = .ok (.getfield 69, 3) := by decide +kernel
theorem dX5_digest_67 : decode cX5_digest 67 = .ok (.if_icmp .ge 16, 3) := by decide +kernel
theorem dX5_digest_70 : decode cX5_digest 70 = .ok (.aload_n 0, 1) := by decide +kernel
theorem dX5_digest_71 : decode cX5_digest 71 = .ok (.lload_n 1, 1) := by decide +kernel
theorem dX5_digest_72 : decode cX5_digest 72 = .ok (.iload_n 3, 1) := by decide +kernel
theorem dX5_digest_73 : decode cX5_digest 73 = .ok (.invokevirtual 285, 3) := by decide +kernel
theorem dX5_digest_76 : decode cX5_digest 76 = .ok (.lstore_n 1, 1) := by decide +kernel
theorem dX5_digest_77 : decode cX5_digest 77 = .ok (.iinc 3 1, 3) := by decide +kernel
theorem dX5_digest_80 : decode cX5_digest 80 = .ok (.goto (-21), 3) := by decide +kernel
theorem dX5_digest_83 : decode cX5_digest 83 = .ok (.iconst 0, 1) := by decide +kernel
theorem dX5_digest_84 : decode cX5_digest 84 = .ok (.istore_n 3, 1) := by decide +kernel
theorem dX5_digest_85 : decode cX5_digest 85 = .ok (.iload_n 3, 1) := by decide +kernel
theorem dX5_digest_86 : decode cX5_digest 86 = .ok (.aload_n 0, 1) := by decide +kernel
theorem dX5_digest_87 : decode cX5_digest 87 = .ok (.getfield 37, 3) := by decide +kernel
theorem dX5_digest_90 : decode cX5_digest 90 = .ok (.getfield 251, 3) := by decide +kernel
theorem dX5_digest_93 : decode cX5_digest 93 = .ok (.if_icmp .ge 45, 3) := by decide +kernel
theorem dX5_digest_96 : decode cX5_digest 96 = .ok (.lload_n 1, 1) := by decide +kernel
theorem dX5_digest_97 : decode cX5_digest 97 = .ok (.ldc2_w 276, 3) := by decide +kernel
theorem dX5_digest_100 : decode cX5_digest 100 = .ok (.lmul, 1) := by decide +kernel
theorem dX5_digest_101 : decode cX5_digest 101 = .ok (.aload_n 0, 1) := by decide +kernel
theorem dX5_digest_102 : decode cX5_digest 102 = .ok (.getfield 37, 3) := by decide +kernel
theorem dX5_digest_105 : decode cX5_digest 105 = .ok (.iload_n 3, 1) := by decide +kernel
theorem dX5_digest_106 : decode cX5_digest 106 = .ok (.invokevirtual 221, 3) := by decide +kernel
theorem dX5_digest_109 : decode cX5_digest 109 = .ok (.i2l, 1) := by decide +kernel
theorem dX5_digest_110 : decode cX5_digest 110 = .ok (.ladd, 1) := by decide +kernel
theorem dX5_digest_111 : decode cX5_digest 111 = .ok (.lstore_n 1, 1) := by decide +kernel
theorem dX5_digest_112 : decode cX5_digest 112 = .ok (.lload_n 1, 1) := by decide +kernel
theorem dX5_digest_113 : decode cX5_digest 113 = .ok (.ldc2_w 276, 3) := by decide +kernel
theorem dX5_digest_116 : decode cX5_digest 116 = .ok (.lmul, 1) := by decide +kernel
theorem dX5_digest_117 : decode cX5_digest 117 = .ok (.aload_n 0, 1) := by decide +kernel
theorem dX5_digest_118 : decode cX5_digest 118 = .ok (.getfield 37, 3) := by decide +kernel
theorem dX5_digest_121 : decode cX5_digest 121 = .ok (.iload_n 3, 1) := by decide +kernel
theorem dX5_digest_122 : decode cX5_digest 122 = .ok (.invokevirtual 226, 3) := by decide +kernel
theorem dX5_digest_125 : decode cX5_digest 125 = .ok (.ldc2_w 224, 3) := by decide +kernel
theorem dX5_digest_128 : decode cX5_digest 128 = .ok (.dmul, 1) := by decide +kernel
theorem dX5_digest_129 : decode cX5_digest 129 = .ok (.d2l, 1) := by decide +kernel
theorem dX5_digest_130 : decode cX5_digest 130 = .ok (.ladd, 1) := by decide +kernel
theorem dX5_digest_131 : decode cX5_digest 131 = .ok (.lstore_n 1, 1) := by decide +kernel
theorem dX5_digest_132 : decode cX5_digest 132 = .ok (.iinc 3 1, 3) := by decide +kernel
theorem dX5_digest_135 : decode cX5_digest 135 = .ok (.goto (-50), 3) := by decide +kernel
theorem dX5_digest_138 : decode cX5_digest 138 = .ok (.lload_n 1, 1) := by decide +kernel
theorem dX5_digest_139 : decode cX5_digest 139 = .ok (.ldc2_w 276, 3) := by decide +kernel
theorem dX5_digest_142 : decode cX5_digest 142 = .ok (.lmul, 1) := by decide +kernel
theorem dX5_digest_143 : decode cX5_digest 143 = .ok (.aload_n 0, 1) := by decide +kernel
theorem dX5_digest_144 : decode cX5_digest 144 = .ok (.invokevirtual 288, 3) := by decide +kernel
theorem dX5_digest_147 : decode cX5_digest 147 = .ok (.i2l, 1) := by decide +kernel
theorem dX5_digest_148 : decode cX5_digest 148 = .ok (.ladd, 1) := by decide +kernel
theorem dX5_digest_149 : decode cX5_digest 149 = .ok (.lstore_n 1, 1) := by decide +kernel
theorem dX5_digest_150 : decode cX5_digest 150 = .ok (.lload_n 1, 1) := by decide +kernel
theorem dX5_digest_151 : decode cX5_digest 151 = .ok (.ldc2_w 276, 3) := by decide +kernel
theorem dX5_digest_154 : decode cX5_digest 154 = .ok (.lmul, 1) := by decide +kernel
theorem dX5_digest_155 : decode cX5_digest 155 = .ok (.aload_n 0, 1) := by decide +kernel
theorem dX5_digest_156 : decode cX5_digest 156 = .ok (.bipush 16, 2) := by decide +kernel
theorem dX5_digest_158 : decode cX5_digest 158 = .ok (.invokevirtual 291, 3) := by decide +kernel
theorem dX5_digest_161 : decode cX5_digest 161 = .ok (.i2l, 1) := by decide +kernel
theorem dX5_digest_162 : decode cX5_digest 162 = .ok (.ladd, 1) := by decide +kernel
theorem dX5_digest_163 : decode cX5_digest 163 = .ok (.lreturn, 1) := by decide +kernel
set_option maxRecDepth 20000 in
theorem ggX5_digestTooth_X5_ofTooth : GoodIn wsX5_digestTooth wsX5_ofTooth := goodIn_ca (goodIn_ca (goodIn_r _ [7, 8, 9, 10, 11, 12, 2, 13, 14, 15, 6, 16, 17, 18, 19, 20, 21, 22, 23, 24, 25, 26, 27, 28, 29, 30, 31, 32, 33, 34, 35, 36, 37, 38, 39, 40, 41, 42, 43, 44, 46, 47, 48, 49, 50, 51, 52, 53, 54, 55, 56, 57, 58, 59, 60] (by decide +kernel) (by decide +kernel)) (goodIn_sub (fun _ h => List.mem_cons_of_mem _ (List.mem_append_left _ (List.mem_append_right _ h))) (by decide +kernel))) (goodIn_sub (fun _ h => List.mem_cons_of_mem _ (List.mem_append_right _ h)) (by decide +kernel))
set_option maxRecDepth 20000 in
theorem gX5_digestTooth_X5_ofTooth : GoodIn wsX5_digestTooth (wsV RX5 294 RX5 yX5_ofTooth wsX5_ofTooth) := goodIn_app (goodIn_of _ (by decide +kernel)) ggX5_digestTooth_X5_ofTooth
set_option maxRecDepth 20000 in
theorem ggX5_digestTooth_X0_placesOf : GoodIn wsX5_digestTooth wsX0_placesOf := goodIn_r _ [33, 34, 35, 36, 28, 37, 59, 60] (by decide +kernel) (by decide +kernel)
set_option maxRecDepth 20000 in
theorem gX5_digestTooth_X0_placesOf : GoodIn wsX5_digestTooth (wsV RX5 172 RX0 yX0_placesOf wsX0_placesOf) := goodIn_app (goodIn_of _ (by decide +kernel)) ggX5_digestTooth_X0_placesOf
theorem dX5_digestTooth_0 : decode cX5_digestTooth 0 = .ok (.lload_n 1, 1) := by decide +kernel
theorem dX5_digestTooth_1 : decode cX5_digestTooth 1 = .ok (.lstore 4, 2) := by decide +kernel
theorem dX5_digestTooth_3 : decode cX5_digestTooth 3 = .ok (.iconst 0, 1) := by decide +kernel
theorem dX5_digestTooth_4 : decode cX5_digestTooth 4 = .ok (.istore 6, 2) := by decide +kernel
theorem dX5_digestTooth_6 : decode cX5_digestTooth 6 = .ok (.iload 6, 2) := by decide +kernel
theorem dX5_digestTooth_8 : decode cX5_digestTooth 8 = .ok (.iconst 5, 1) := by decide +kernel
theorem dX5_digestTooth_9 : decode cX5_digestTooth 9 = .ok (.if_icmp .ge 26, 3) := by decide +kernel
theorem dX5_digestTooth_12 : decode cX5_digestTooth 12 = .ok (.lload 4, 2) := by decide +kernel
theorem dX5_digestTooth_14 : decode cX5_digestTooth 14 = .ok (.ldc2_w 276, 3) := by decide +kernel
theorem dX5_digestTooth_17 : decode cX5_digestTooth 17 = .ok (.lmul, 1) := by decide +kernel
theorem dX5_digestTooth_18 : decode cX5_digestTooth 18 = .ok (.aload_n 0, 1) := by decide +kernel
theorem dX5_digestTooth_19 : decode cX5_digestTooth 19 = .ok (.iload_n 3, 1) := by decide +kernel
theorem dX5_digestTooth_20 : decode cX5_digestTooth 20 = .ok (.iload 6, 2) := by decide +kernel
theorem dX5_digestTooth_22 : decode cX5_digestTooth 22 = .ok (.invokevirtual 294, 3) := by decide +kernel
theorem dX5_digestTooth_25 : decode cX5_digestTooth 25 = .ok (.i2l, 1) := by decide +kernel
theorem dX5_digestTooth_26 : decode cX5_digestTooth 26 = .ok (.ladd, 1) := by decide +kernel
theorem dX5_digestTooth_27 : decode cX5_digestTooth 27 = .ok (.lstore 4, 2) := by decide +kernel
theorem dX5_digestTooth_29 : decode cX5_digestTooth 29 = .ok (.iinc 6 1, 3) := by decide +kernel
theorem dX5_digestTooth_32 : decode cX5_digestTooth 32 = .ok (.goto (-26), 3) := by decide +kernel
theorem dX5_digestTooth_35 : decode cX5_digestTooth 35 = .ok (.iconst 0, 1) := by decide +kernel
theorem dX5_digestTooth_36 : decode cX5_digestTooth 36 = .ok (.istore 6, 2) := by decide +kernel
theorem dX5_digestTooth_38 : decode cX5_digestTooth 38 = .ok (.iload 6, 2) := by decide +kernel
theorem dX5_digestTooth_40 : decode cX5_digestTooth 40 = .ok (.iconst 3, 1) := by decide +kernel
theorem dX5_digestTooth_41 : decode cX5_digestTooth 41 = .ok (.if_icmp .ge 28, 3) := by decide +kernel
theorem dX5_digestTooth_44 : decode cX5_digestTooth 44 = .ok (.lload 4, 2) := by decide +kernel
theorem dX5_digestTooth_46 : decode cX5_digestTooth 46 = .ok (.ldc2_w 276, 3) := by decide +kernel
theorem dX5_digestTooth_49 : decode cX5_digestTooth 49 = .ok (.lmul, 1) := by decide +kernel
theorem dX5_digestTooth_50 : decode cX5_digestTooth 50 = .ok (.aload_n 0, 1) := by decide +kernel
theorem dX5_digestTooth_51 : decode cX5_digestTooth 51 = .ok (.getfield 32, 3) := by decide +kernel
theorem dX5_digestTooth_54 : decode cX5_digestTooth 54 = .ok (.iload_n 3, 1) := by decide +kernel
theorem dX5_digestTooth_55 : decode cX5_digestTooth 55 = .ok (.iload 6, 2) := by decide +kernel
theorem dX5_digestTooth_57 : decode cX5_digestTooth 57 = .ok (.invokevirtual 172, 3) := by decide +kernel
theorem dX5_digestTooth_60 : decode cX5_digestTooth 60 = .ok (.ladd, 1) := by decide +kernel
theorem dX5_digestTooth_61 : decode cX5_digestTooth 61 = .ok (.lstore 4, 2) := by decide +kernel
theorem dX5_digestTooth_63 : decode cX5_digestTooth 63 = .ok (.iinc 6 1, 3) := by decide +kernel
theorem dX5_digestTooth_66 : decode cX5_digestTooth 66 = .ok (.goto (-28), 3) := by decide +kernel
theorem dX5_digestTooth_69 : decode cX5_digestTooth 69 = .ok (.lload 4, 2) := by decide +kernel
theorem dX5_digestTooth_71 : decode cX5_digestTooth 71 = .ok (.lreturn, 1) := by decide +kernel
set_option maxRecDepth 20000 in
theorem ggX5_digestTune_X5_ofTune : GoodIn wsX5_digestTune wsX5_ofTune := goodIn_ca (goodIn_ca (goodIn_r _ [6, 7, 8, 9, 10, 11, 5, 12, 13, 14, 15, 16, 17, 18, 19, 20, 21, 22, 23, 24, 25, 26, 27, 28, 29, 30, 31, 32, 33, 34, 35, 36, 37, 38, 39, 40, 41, 42, 43, 44, 45, 46, 47, 48, 49, 50, 51, 112, 113, 114, 115, 116, 117, 118, 119, 120, 121] (by decide +kernel) (by decide +kernel)) (goodIn_sub (fun _ h => List.mem_cons_of_mem _ (List.mem_append_left _ (List.mem_append_right _ h))) (by decide +kernel))) (goodIn_sub (fun _ h => List.mem_cons_of_mem _ (List.mem_append_right _ h)) (by decide +kernel))
set_option maxRecDepth 20000 in
theorem gX5_digestTune_X5_ofTune : GoodIn wsX5_digestTune (wsV RX5 297 RX5 yX5_ofTune wsX5_ofTune) := goodIn_app (goodIn_of _ (by decide +kernel)) ggX5_digestTune_X5_ofTune
set_option maxRecDepth 20000 in
theorem ggX5_digestTune_X5_bestKey : GoodIn wsX5_digestTune wsX5_bestKey := goodIn_ca (goodIn_r _ [55, 9, 10, 11, 5, 12, 13, 14, 7, 15, 56, 57, 58, 59, 60, 61, 62, 63, 64, 65, 66, 67, 68, 69, 70, 71, 72, 73, 74, 75, 76, 77, 78, 79, 80, 81, 82, 8, 83, 84, 45, 46, 24, 47, 31, 85, 28, 29, 30, 86, 87, 88, 89, 90, 91, 92, 93, 94, 95, 96, 97, 98, 99, 100, 101, 102, 103, 104, 105, 106, 107, 108, 109, 110, 111, 112, 113, 114, 115, 116, 117, 118, 119, 120, 121, 122, 123, 124, 125, 126, 127, 128, 129, 130, 131, 132, 133, 134, 135, 136, 137, 138, 139, 140] (by decide +kernel) (by decide +kernel)) (goodIn_sub (fun _ h => List.mem_cons_of_mem _ (List.mem_append_left _ (List.mem_append_right _ h))) (by decide +kernel))
set_option maxRecDepth 20000 in
theorem gX5_digestTune_X5_bestKey : GoodIn wsX5_digestTune (wsV RX5 300 RX5 yX5_bestKey wsX5_bestKey) := goodIn_app (goodIn_of _ (by decide +kernel)) ggX5_digestTune_X5_bestKey
theorem dX5_digestTune_0 : decode cX5_digestTune 0 = .ok (.lload_n 1, 1) := by decide +kernel
theorem dX5_digestTune_1 : decode cX5_digestTune 1 = .ok (.lstore 4, 2) := by decide +kernel
theorem dX5_digestTune_3 : decode cX5_digestTune 3 = .ok (.iconst 0, 1) := by decide +kernel
theorem dX5_digestTune_4 : decode cX5_digestTune 4 = .ok (.istore 6, 2) := by decide +kernel
theorem dX5_digestTune_6 : decode cX5_digestTune 6 = .ok (.iload 6, 2) := by decide +kernel
theorem dX5_digestTune_8 : decode cX5_digestTune 8 = .ok (.iconst 5, 1) := by decide +kernel
theorem dX5_digestTune_9 : decode cX5_digestTune 9 = .ok (.if_icmp .ge 26, 3) := by decide +kernel
theorem dX5_digestTune_12 : decode cX5_digestTune 12 = .ok (.lload 4, 2) := by decide +kernel
theorem dX5_digestTune_14 : decode cX5_digestTune 14 = .ok (.ldc2_w 276, 3) := by decide +kernel
theorem dX5_digestTune_17 : decode cX5_digestTune 17 = .ok (.lmul, 1) := by decide +kernel
theorem dX5_digestTune_18 : decode cX5_digestTune 18 = .ok (.aload_n 0, 1) := by decide +kernel
theorem dX5_digestTune_19 : decode cX5_digestTune 19 = .ok (.iload_n 3, 1) := by decide +kernel
theorem dX5_digestTune_20 : decode cX5_digestTune 20 = .ok (.iload 6, 2) := by decide +kernel
theorem dX5_digestTune_22 : decode cX5_digestTune 22 = .ok (.invokevirtual 297, 3) := by decide +kernel
theorem dX5_digestTune_25 : decode cX5_digestTune 25 = .ok (.i2l, 1) := by decide +kernel
theorem dX5_digestTune_26 : decode cX5_digestTune 26 = .ok (.ladd, 1) := by decide +kernel
theorem dX5_digestTune_27 : decode cX5_digestTune 27 = .ok (.lstore 4, 2) := by decide +kernel
theorem dX5_digestTune_29 : decode cX5_digestTune 29 = .ok (.iinc 6 1, 3) := by decide +kernel
theorem dX5_digestTune_32 : decode cX5_digestTune 32 = .ok (.goto (-26), 3) := by decide +kernel
theorem dX5_digestTune_35 : decode cX5_digestTune 35 = .ok (.lload 4, 2) := by decide +kernel
theorem dX5_digestTune_37 : decode cX5_digestTune 37 = .ok (.ldc2_w 276, 3) := by decide +kernel
theorem dX5_digestTune_40 : decode cX5_digestTune 40 = .ok (.lmul, 1) := by decide +kernel
theorem dX5_digestTune_41 : decode cX5_digestTune 41 = .ok (.aload_n 0, 1) := by decide +kernel
theorem dX5_digestTune_42 : decode cX5_digestTune 42 = .ok (.iload_n 3, 1) := by decide +kernel
theorem dX5_digestTune_43 : decode cX5_digestTune 43 = .ok (.iconst 0, 1) := by decide +kernel
theorem dX5_digestTune_44 : decode cX5_digestTune 44 = .ok (.invokevirtual 300, 3) := by decide +kernel
theorem dX5_digestTune_47 : decode cX5_digestTune 47 = .ok (.i2l, 1) := by decide +kernel
theorem dX5_digestTune_48 : decode cX5_digestTune 48 = .ok (.ladd, 1) := by decide +kernel
theorem dX5_digestTune_49 : decode cX5_digestTune 49 = .ok (.lreturn, 1) := by decide +kernel
set_option maxRecDepth 20000 in
theorem ggX5_pinTune_X3_timeOf : GoodIn wsX5_pinTune wsX3_timeOf := goodIn_r _ [8, 9, 52, 53, 54] (by decide +kernel) (by decide +kernel)
set_option maxRecDepth 20000 in
theorem gX5_pinTune_X3_timeOf : GoodIn wsX5_pinTune (wsV RX5 303 RX3 yX3_timeOf wsX3_timeOf) := goodIn_app (goodIn_of _ (by decide +kernel)) ggX5_pinTune_X3_timeOf
set_option maxRecDepth 20000 in
theorem ggX5_pinTune_X3_pitchOf : GoodIn wsX5_pinTune wsX3_pitchOf := goodIn_r _ [13, 9, 52, 53, 54] (by decide +kernel) (by decide +kernel)
set_option maxRecDepth 20000 in
theorem gX5_pinTune_X3_pitchOf : GoodIn wsX5_pinTune (wsV RX5 306 RX3 yX3_pitchOf wsX3_pitchOf) := goodIn_app (goodIn_of _ (by decide +kernel)) ggX5_pinTune_X3_pitchOf
set_option maxRecDepth 20000 in
theorem ggX5_pinTune_X0_freeTooth : GoodIn wsX5_pinTune wsX0_freeTooth := goodIn_r _ [18, 19, 20, 21, 22, 23, 24, 17, 25, 26, 27, 28, 29, 30, 31, 32, 33, 34, 35, 36, 55, 56, 57, 58, 59, 60, 61, 62] (by decide +kernel) (by decide +kernel)
set_option maxRecDepth 20000 in
theorem gX5_pinTune_X0_freeTooth : GoodIn wsX5_pinTune (wsV RX5 308 RX0 yX0_freeTooth wsX0_freeTooth) := goodIn_app (goodIn_of _ (by decide +kernel)) ggX5_pinTune_X0_freeTooth
set_option maxRecDepth 20000 in
theorem ggX5_pinTune_X0_setPin : GoodIn wsX5_pinTune wsX0_setPin := goodIn_r _ [40, 22, 41, 27, 28, 17, 29, 42, 43, 44, 61, 62] (by decide +kernel) (by decide +kernel)
set_option maxRecDepth 20000 in
theorem gX5_pinTune_X0_setPin : GoodIn wsX5_pinTune (wsV RX5 312 RX0 yX0_setPin wsX0_setPin) := goodIn_app (goodIn_of _ (by decide +kernel)) ggX5_pinTune_X0_setPin
theorem dX5_pinTune_0 : decode cX5_pinTune 0 = .ok (.iconst 0, 1) := by decide +kernel
theorem dX5_pinTune_1 : decode cX5_pinTune 1 = .ok (.istore 5, 2) := by decide +kernel
theorem dX5_pinTune_3 : decode cX5_pinTune 3 = .ok (.aload_n 0, 1) := by decide +kernel
theorem dX5_pinTune_4 : decode cX5_pinTune 4 = .ok (.getfield 10, 3) := by decide +kernel
theorem dX5_pinTune_7 : decode cX5_pinTune 7 = .ok (.getfield 84, 3) := by decide +kernel
theorem dX5_pinTune_10 : decode cX5_pinTune 10 = .ok (.iload_n 2, 1) := by decide +kernel
theorem dX5_pinTune_11 : decode cX5_pinTune 11 = .ok (.iaload, 1) := by decide +kernel
theorem dX5_pinTune_12 : decode cX5_pinTune 12 = .ok (.istore 6, 2) := by decide +kernel
theorem dX5_pinTune_14 : decode cX5_pinTune 14 = .ok (.iconst 0, 1) := by decide +kernel
theorem dX5_pinTune_15 : decode cX5_pinTune 15 = .ok (.istore 7, 2) := by decide +kernel
theorem dX5_pinTune_17 : decode cX5_pinTune 17 = .ok (.iload 7, 2) := by decide +kernel
theorem dX5_pinTune_19 : decode cX5_pinTune 19 = .ok (.iload 6, 2) := by decide +kernel
theorem dX5_pinTune_21 : decode cX5_pinTune 21 = .ok (.if_icmp .ge 68, 3) := by decide +kernel
theorem dX5_pinTune_24 : decode cX5_pinTune 24 = .ok (.aload_n 0, 1) := by decide +kernel
theorem dX5_pinTune_25 : decode cX5_pinTune 25 = .ok (.getfield 10, 3) := by decide +kernel
theorem dX5_pinTune_28 : decode cX5_pinTune 28 = .ok (.iload_n 2, 1) := by decide +kernel
theorem dX5_pinTune_29 : decode cX5_pinTune 29 = .ok (.iload 7, 2) := by decide +kernel
theorem dX5_pinTune_31 : decode cX5_pinTune 31 = .ok (.invokevirtual 303, 3) := by decide +kernel
theorem dX5_pinTune_34 : decode cX5_pinTune 34 = .ok (.istore 8, 2) := by decide +kernel
theorem dX5_pinTune_36 : decode cX5_pinTune 36 = .ok (.aload_n 1, 1) := by decide +kernel
theorem dX5_pinTune_37 : decode cX5_pinTune 37 = .ok (.aload_n 0, 1) := by decide +kernel
theorem dX5_pinTune_38 : decode cX5_pinTune 38 = .ok (.getfield 27, 3) := by decide +kernel
theorem dX5_pinTune_41 : decode cX5_pinTune 41 = .ok (.iload_n 3, 1) := by decide +kernel
theorem dX5_pinTune_42 : decode cX5_pinTune 42 = .ok (.aload_n 0, 1) := by decide +kernel
theorem dX5_pinTune_43 : decode cX5_pinTune 43 = .ok (.getfield 10, 3) := by decide +kernel
theorem dX5_pinTune_46 : decode cX5_pinTune 46 = .ok (.iload_n 2, 1) := by decide +kernel
theorem dX5_pinTune_47 : decode cX5_pinTune 47 = .ok (.iload 7, 2) := by decide +kernel
theorem dX5_pinTune_49 : decode cX5_pinTune 49 = .ok (.invokevirtual 306, 3) := by decide +kernel
theorem dX5_pinTune_52 : decode cX5_pinTune 52 = .ok (.iload 4, 2) := by decide +kernel
theorem dX5_pinTune_54 : decode cX5_pinTune 54 = .ok (.iadd, 1) := by decide +kernel
theorem dX5_pinTune_55 : decode cX5_pinTune 55 = .ok (.iload 8, 2) := by decide +kernel
theorem dX5_pinTune_57 : decode cX5_pinTune 57 = .ok (.invokevirtual 308, 3) := by decide +kernel
theorem dX5_pinTune_60 : decode cX5_pinTune 60 = .ok (.istore 9, 2) := by decide +kernel
theorem dX5_pinTune_62 : decode cX5_pinTune 62 = .ok (.iload 9, 2) := by decide +kernel
theorem dX5_pinTune_64 : decode cX5_pinTune 64 = .ok (.iconst (-1), 1) := by decide +kernel
theorem dX5_pinTune_65 : decode cX5_pinTune 65 = .ok (.if_icmp .ne 9, 3) := by decide +kernel
theorem dX5_pinTune_68 : decode cX5_pinTune 68 = .ok (.iinc 5 1, 3) := by decide +kernel
theorem dX5_pinTune_71 : decode cX5_pinTune 71 = .ok (.goto 12, 3) := by decide +kernel
theorem dX5_pinTune_74 : decode cX5_pinTune 74 = .ok (.aload_n 1, 1) := by decide +kernel
theorem dX5_pinTune_75 : decode cX5_pinTune 75 = .ok (.iload 9, 2) := by decide +kernel
theorem dX5_pinTune_77 : decode cX5_pinTune 77 = .ok (.iload_n 3, 1) := by decide +kernel
theorem dX5_pinTune_78 : decode cX5_pinTune 78 = .ok (.iload 8, 2) := by decide +kernel
theorem dX5_pinTune_80 : decode cX5_pinTune 80 = .ok (.invokevirtual 312, 3) := by decide +kernel
theorem dX5_pinTune_83 : decode cX5_pinTune 83 = .ok (.iinc 7 1, 3) := by decide +kernel
theorem dX5_pinTune_86 : decode cX5_pinTune 86 = .ok (.goto (-69), 3) := by decide +kernel
theorem dX5_pinTune_89 : decode cX5_pinTune 89 = .ok (.iload 5, 2) := by decide +kernel
theorem dX5_pinTune_91 : decode cX5_pinTune 91 = .ok (.ireturn, 1) := by decide +kernel
set_option maxRecDepth 20000 in
theorem ggX5_wouldLose_X0_takePins : GoodIn wsX5_wouldLose wsX0_takePins := goodIn_r _ [8, 9, 10, 11, 12, 13, 14, 15, 7, 16, 79, 80] (by decide +kernel) (by decide +kernel)
set_option maxRecDepth 20000 in
theorem gX5_wouldLose_X0_takePins : GoodIn wsX5_wouldLose (wsV RX5 315 RX0 yX0_takePins wsX0_takePins) := goodIn_app (goodIn_of _ (by decide +kernel)) ggX5_wouldLose_X0_takePins
set_option maxRecDepth 20000 in
theorem ggX5_wouldLose_X5_pinTune : GoodIn wsX5_wouldLose wsX5_pinTune := goodIn_r _ [21, 22, 23, 24, 25, 26, 27, 28, 29, 30, 31, 32, 33, 34, 35, 36, 37, 7, 38, 39, 40, 41, 9, 42, 43, 44, 45, 14, 15, 16, 46, 47, 48, 49, 50, 51, 52, 53, 54, 55, 56, 57, 58, 59, 60, 61, 62, 63, 64, 65, 66, 67, 81, 82, 83, 84, 85, 86, 87, 88, 89, 79, 80] (by decide +kernel) (by decide +kernel)
set_option maxRecDepth 20000 in
theorem gX5_wouldLose_X5_pinTune : GoodIn wsX5_wouldLose (wsV RX5 102 RX5 yX5_pinTune wsX5_pinTune) := goodIn_app (goodIn_of _ (by decide +kernel)) ggX5_wouldLose_X5_pinTune
theorem dX5_wouldLose_0 : decode cX5_wouldLose 0 = .ok (.aload_n 0, 1) := by decide +kernel
theorem dX5_wouldLose_1 : decode cX5_wouldLose 1 = .ok (.getfield 38, 3) := by decide +kernel
theorem dX5_wouldLose_4 : decode cX5_wouldLose 4 = .ok (.getfield 28, 3) := by decide +kernel
theorem dX5_wouldLose_7 : decode cX5_wouldLose 7 = .ok (.aload_n 0, 1) := by decide +kernel
theorem dX5_wouldLose_8 : decode cX5_wouldLose 8 = .ok (.getfield 32, 3) := by decide +kernel
theorem dX5_wouldLose_11 : decode cX5_wouldLose 11 = .ok (.iload_n 2, 1) := by decide +kernel
theorem dX5_wouldLose_12 : decode cX5_wouldLose 12 = .ok (.invokevirtual 315, 3) := by decide +kernel
theorem dX5_wouldLose_15 : decode cX5_wouldLose 15 = .ok (.aload_n 0, 1) := by decide +kernel
theorem dX5_wouldLose_16 : decode cX5_wouldLose 16 = .ok (.aload_n 0, 1) := by decide +kernel
theorem dX5_wouldLose_17 : decode cX5_wouldLose 17 = .ok (.getfield 38, 3) := by decide +kernel
theorem dX5_wouldLose_20 : decode cX5_wouldLose 20 = .ok (.getfield 28, 3) := by decide +kernel
theorem dX5_wouldLose_23 : decode cX5_wouldLose 23 = .ok (.iload_n 1, 1) := by decide +kernel
theorem dX5_wouldLose_24 : decode cX5_wouldLose 24 = .ok (.iload_n 2, 1) := by decide +kernel
theorem dX5_wouldLose_25 : decode cX5_wouldLose 25 = .ok (.iload_n 3, 1) := by decide +kernel
theorem dX5_wouldLose_26 : decode cX5_wouldLose 26 = .ok (.invokevirtual 102, 3) := by decide +kernel
theorem dX5_wouldLose_29 : decode cX5_wouldLose 29 = .ok (.ireturn, 1) := by decide +kernel
set_option maxRecDepth 20000 in
theorem ggX5_allPins_X0_pinsOfTooth : GoodIn wsX5_allPins wsX0_pinsOfTooth := goodIn_r _ [8, 9, 10, 11, 7, 12, 13, 14, 15, 16, 17, 18, 19, 20, 21, 22, 23, 37, 38] (by decide +kernel) (by decide +kernel)
set_option maxRecDepth 20000 in
theorem gX5_allPins_X0_pinsOfTooth : GoodIn wsX5_allPins (wsV RX5 169 RX0 yX0_pinsOfTooth wsX0_pinsOfTooth) := goodIn_app (goodIn_of _ (by decide +kernel)) ggX5_allPins_X0_pinsOfTooth
theorem dX5_allPins_0 : decode cX5_allPins 0 = .ok (.iconst 0, 1) := by decide +kernel
theorem dX5_allPins_1 : decode cX5_allPins 1 = .ok (.istore_n 1, 1) := by decide +kernel
theorem dX5_allPins_2 : decode cX5_allPins 2 = .ok (.iconst 0, 1) := by decide +kernel
theorem dX5_allPins_3 : decode cX5_allPins 3 = .ok (.istore_n 2, 1) := by decide +kernel
theorem dX5_allPins_4 : decode cX5_allPins 4 = .ok (.iload_n 2, 1) := by decide +kernel
theorem dX5_allPins_5 : decode cX5_allPins 5 = .ok (.aload_n 0, 1) := by decide +kernel
theorem dX5_allPins_6 : decode cX5_allPins 6 = .ok (.getfield 27, 3) := by decide +kernel
theorem dX5_allPins_9 : decode cX5_allPins 9 = .ok (.getfield 45, 3) := by decide +kernel
theorem dX5_allPins_12 : decode cX5_allPins 12 = .ok (.if_icmp .ge 20, 3) := by decide +kernel
theorem dX5_allPins_15 : decode cX5_allPins 15 = .ok (.iload_n 1, 1) := by decide +kernel
theorem dX5_allPins_16 : decode cX5_allPins 16 = .ok (.aload_n 0, 1) := by decide +kernel
theorem dX5_allPins_17 : decode cX5_allPins 17 = .ok (.getfield 32, 3) := by decide +kernel
theorem dX5_allPins_20 : decode cX5_allPins 20 = .ok (.iload_n 2, 1) := by decide +kernel
theorem dX5_allPins_21 : decode cX5_allPins 21 = .ok (.invokevirtual 169, 3) := by decide +kernel
theorem dX5_allPins_24 : decode cX5_allPins 24 = .ok (.iadd, 1) := by decide +kernel
theorem dX5_allPins_25 : decode cX5_allPins 25 = .ok (.istore_n 1, 1) := by decide +kernel
theorem dX5_allPins_26 : decode cX5_allPins 26 = .ok (.iinc 2 1, 3) := by decide +kernel
theorem dX5_allPins_29 : decode cX5_allPins 29 = .ok (.goto (-25), 3) := by decide +kernel
theorem dX5_allPins_32 : decode cX5_allPins 32 = .ok (.iload_n 1, 1) := by decide +kernel
theorem dX5_allPins_33 : decode cX5_allPins 33 = .ok (.ireturn, 1) := by decide +kernel
set_option maxRecDepth 20000 in
theorem ggX5_signOf_X0_hasPin : GoodIn wsX5_signOf wsX0_hasPin := goodIn_r _ [10, 11, 12, 13, 9, 14, 39, 40] (by decide +kernel) (by decide +kernel)
set_option maxRecDepth 20000 in
theorem gX5_signOf_X0_hasPin : GoodIn wsX5_signOf (wsV RX5 179 RX0 yX0_hasPin wsX0_hasPin) := goodIn_app (goodIn_of _ (by decide +kernel)) ggX5_signOf_X0_hasPin
theorem dX5_signOf_0 : decode cX5_signOf 0 = .ok (.aload_n 0, 1) := by decide +kernel
theorem dX5_signOf_1 : decode cX5_signOf 1 = .ok (.getfield 27, 3) := by decide +kernel
theorem dX5_signOf_4 : decode cX5_signOf 4 = .ok (.getfield 159, 3) := by decide +kernel
theorem dX5_signOf_7 : decode cX5_signOf 7 = .ok (.iload_n 1, 1) := by decide +kernel
theorem dX5_signOf_8 : decode cX5_signOf 8 = .ok (.baload, 1) := by decide +kernel
theorem dX5_signOf_9 : decode cX5_signOf 9 = .ok (.ifCond .eq 6, 3) := by decide +kernel
theorem dX5_signOf_12 : decode cX5_signOf 12 = .ok (.bipush 120, 2) := by decide +kernel
theorem dX5_signOf_14 : decode cX5_signOf 14 = .ok (.ireturn, 1) := by decide +kernel
theorem dX5_signOf_15 : decode cX5_signOf 15 = .ok (.aload_n 0, 1) := by decide +kernel
theorem dX5_signOf_16 : decode cX5_signOf 16 = .ok (.getfield 32, 3) := by decide +kernel
theorem dX5_signOf_19 : decode cX5_signOf 19 = .ok (.iload_n 1, 1) := by decide +kernel
theorem dX5_signOf_20 : decode cX5_signOf 20 = .ok (.aload_n 0, 1) := by decide +kernel
theorem dX5_signOf_21 : decode cX5_signOf 21 = .ok (.getfield 19, 3) := by decide +kernel
theorem dX5_signOf_24 : decode cX5_signOf 24 = .ok (.getfield 112, 3) := by decide +kernel
theorem dX5_signOf_27 : decode cX5_signOf 27 = .ok (.iload_n 2, 1) := by decide +kernel
theorem dX5_signOf_28 : decode cX5_signOf 28 = .ok (.invokevirtual 179, 3) := by decide +kernel
theorem dX5_signOf_31 : decode cX5_signOf 31 = .ok (.ifCond .eq 8, 3) := by decide +kernel
theorem dX5_signOf_34 : decode cX5_signOf 34 = .ok (.bipush 124, 2) := by decide +kernel
theorem dX5_signOf_36 : decode cX5_signOf 36 = .ok (.goto 5, 3) := by decide +kernel
theorem dX5_signOf_39 : decode cX5_signOf 39 = .ok (.bipush 46, 2) := by decide +kernel
theorem dX5_signOf_41 : decode cX5_signOf 41 = .ok (.ireturn, 1) := by decide +kernel
theorem dX5_nearestWhole_0 : decode cX5_nearestWhole 0 = .ok (.dload_n 0, 1) := by decide +kernel
theorem dX5_nearestWhole_1 : decode cX5_nearestWhole 1 = .ok (.d2l, 1) := by decide +kernel
theorem dX5_nearestWhole_2 : decode cX5_nearestWhole 2 = .ok (.lstore_n 2, 1) := by decide +kernel
theorem dX5_nearestWhole_3 : decode cX5_nearestWhole 3 = .ok (.dload_n 0, 1) := by decide +kernel
theorem dX5_nearestWhole_4 : decode cX5_nearestWhole 4 = .ok (.lload_n 2, 1) := by decide +kernel
theorem dX5_nearestWhole_5 : decode cX5_nearestWhole 5 = .ok (.l2d, 1) := by decide +kernel
theorem dX5_nearestWhole_6 : decode cX5_nearestWhole 6 = .ok (.dsub, 1) := by decide +kernel
theorem dX5_nearestWhole_7 : decode cX5_nearestWhole 7 = .ok (.dstore 4, 2) := by decide +kernel
theorem dX5_nearestWhole_9 : decode cX5_nearestWhole 9 = .ok (.dload 4, 2) := by decide +kernel
theorem dX5_nearestWhole_11 : decode cX5_nearestWhole 11 = .ok (.ldc2_w 319, 3) := by decide +kernel
theorem dX5_nearestWhole_14 : decode cX5_nearestWhole 14 = .ok (.dcmp .l, 1) := by decide +kernel
theorem dX5_nearestWhole_15 : decode cX5_nearestWhole 15 = .ok (.ifCond .gt 20, 3) := by decide +kernel
theorem dX5_nearestWhole_18 : decode cX5_nearestWhole 18 = .ok (.dload 4, 2) := by decide +kernel
theorem dX5_nearestWhole_20 : decode cX5_nearestWhole 20 = .ok (.ldc2_w 319, 3) := by decide +kernel
theorem dX5_nearestWhole_23 : decode cX5_nearestWhole 23 = .ok (.dcmp .l, 1) := by decide +kernel
theorem dX5_nearestWhole_24 : decode cX5_nearestWhole 24 = .ok (.ifCond .ne 15, 3) := by decide +kernel
theorem dX5_nearestWhole_27 : decode cX5_nearestWhole 27 = .ok (.lload_n 2, 1) := by decide +kernel
theorem dX5_nearestWhole_28 : decode cX5_nearestWhole 28 = .ok (.lconst 1, 1) := by decide +kernel
theorem dX5_nearestWhole_29 : decode cX5_nearestWhole 29 = .ok (.land, 1) := by decide +kernel
theorem dX5_nearestWhole_30 : decode cX5_nearestWhole 30 = .ok (.lconst 1, 1) := by decide +kernel
theorem dX5_nearestWhole_31 : decode cX5_nearestWhole 31 = .ok (.lcmp, 1) := by decide +kernel
theorem dX5_nearestWhole_32 : decode cX5_nearestWhole 32 = .ok (.ifCond .ne 7, 3) := by decide +kernel
theorem dX5_nearestWhole_35 : decode cX5_nearestWhole 35 = .ok (.lload_n 2, 1) := by decide +kernel
theorem dX5_nearestWhole_36 : decode cX5_nearestWhole 36 = .ok (.lconst 1, 1) := by decide +kernel
theorem dX5_nearestWhole_37 : decode cX5_nearestWhole 37 = .ok (.ladd, 1) := by decide +kernel
theorem dX5_nearestWhole_38 : decode cX5_nearestWhole 38 = .ok (.lreturn, 1) := by decide +kernel
theorem dX5_nearestWhole_39 : decode cX5_nearestWhole 39 = .ok (.lload_n 2, 1) := by decide +kernel
theorem dX5_nearestWhole_40 : decode cX5_nearestWhole 40 = .ok (.lreturn, 1) := by decide +kernel
theorem dX5_needTooth_0 : decode cX5_needTooth 0 = .ok (.iload_n 1, 1) := by decide +kernel
theorem dX5_needTooth_1 : decode cX5_needTooth 1 = .ok (.ifCond .lt 14, 3) := by decide +kernel
theorem dX5_needTooth_4 : decode cX5_needTooth 4 = .ok (.iload_n 1, 1) := by decide +kernel
theorem dX5_needTooth_5 : decode cX5_needTooth 5 = .ok (.aload_n 0, 1) := by decide +kernel
theorem dX5_needTooth_6 : decode cX5_needTooth 6 = .ok (.getfield 27, 3) := by decide +kernel
theorem dX5_needTooth_9 : decode cX5_needTooth 9 = .ok (.getfield 45, 3) := by decide +kernel
theorem dX5_needTooth_12 : decode cX5_needTooth 12 = .ok (.if_icmp .lt 14, 3) := by decide +kernel
theorem dX5_needTooth_15 : decode cX5_needTooth 15 = .ok (.new 321, 3) := by decide +kernel
theorem dX5_needTooth_18 : decode cX5_needTooth 18 = .ok (.dup, 1) := by decide +kernel
theorem dX5_needTooth_19 : decode cX5_needTooth 19 = .ok (.ldc_w 323, 3) := by decide +kernel
theorem dX5_needTooth_22 : decode cX5_needTooth 22 = .ok (.invokespecial 325, 3) := by decide +kernel
theorem dX5_needTooth_25 : decode cX5_needTooth 25 = .ok (.athrow, 1) := by decide +kernel
theorem dX5_needTooth_26 : decode cX5_needTooth 26 = .ok (.return_, 1) := by decide +kernel
theorem dX5_needTune_0 : decode cX5_needTune 0 = .ok (.iload_n 1, 1) := by decide +kernel
theorem dX5_needTune_1 : decode cX5_needTune 1 = .ok (.ifCond .lt 14, 3) := by decide +kernel
theorem dX5_needTune_4 : decode cX5_needTune 4 = .ok (.iload_n 1, 1) := by decide +kernel
theorem dX5_needTune_5 : decode cX5_needTune 5 = .ok (.aload_n 0, 1) := by decide +kernel
theorem dX5_needTune_6 : decode cX5_needTune 6 = .ok (.getfield 10, 3) := by decide +kernel
theorem dX5_needTune_9 : decode cX5_needTune 9 = .ok (.getfield 69, 3) := by decide +kernel
theorem dX5_needTune_12 : decode cX5_needTune 12 = .ok (.if_icmp .lt 14, 3) := by decide +kernel
theorem dX5_needTune_15 : decode cX5_needTune 15 = .ok (.new 321, 3) := by decide +kernel
theorem dX5_needTune_18 : decode cX5_needTune 18 = .ok (.dup, 1) := by decide +kernel
theorem dX5_needTune_19 : decode cX5_needTune 19 = .ok (.ldc_w 326, 3) := by decide +kernel
theorem dX5_needTune_22 : decode cX5_needTune 22 = .ok (.invokespecial 325, 3) := by decide +kernel
theorem dX5_needTune_25 : decode cX5_needTune 25 = .ok (.athrow, 1) := by decide +kernel
theorem dX5_needTune_26 : decode cX5_needTune 26 = .ok (.return_, 1) := by decide +kernel
theorem dX5_needSound_0 : decode cX5_needSound 0 = .ok (.iload_n 1, 1) := by decide +kernel
theorem dX5_needSound_1 : decode cX5_needSound 1 = .ok (.ifCond .lt 14, 3) := by decide +kernel
theorem dX5_needSound_4 : decode cX5_needSound 4 = .ok (.iload_n 1, 1) := by decide +kernel
theorem dX5_needSound_5 : decode cX5_needSound 5 = .ok (.aload_n 0, 1) := by decide +kernel
theorem dX5_needSound_6 : decode cX5_needSound 6 = .ok (.getfield 37, 3) := by decide +kernel
theorem dX5_needSound_9 : decode cX5_needSound 9 = .ok (.getfield 251, 3) := by decide +kernel
theorem dX5_needSound_12 : decode cX5_needSound 12 = .ok (.if_icmp .lt 14, 3) := by decide +kernel
theorem dX5_needSound_15 : decode cX5_needSound 15 = .ok (.new 321, 3) := by decide +kernel
theorem dX5_needSound_18 : decode cX5_needSound 18 = .ok (.dup, 1) := by decide +kernel
theorem dX5_needSound_19 : decode cX5_needSound 19 = .ok (.ldc_w 328, 3) := by decide +kernel
theorem dX5_needSound_22 : decode cX5_needSound 22 = .ok (.invokespecial 325, 3) := by decide +kernel
theorem dX5_needSound_25 : decode cX5_needSound 25 = .ok (.athrow, 1) := by decide +kernel
theorem dX5_needSound_26 : decode cX5_needSound 26 = .ok (.return_, 1) := by decide +kernel
theorem dX5_needLine_0 : decode cX5_needLine 0 = .ok (.iload_n 0, 1) := by decide +kernel
theorem dX5_needLine_1 : decode cX5_needLine 1 = .ok (.ifCond .lt 8, 3) := by decide +kernel
theorem dX5_needLine_4 : decode cX5_needLine 4 = .ok (.iload_n 0, 1) := by decide +kernel
theorem dX5_needLine_5 : decode cX5_needLine 5 = .ok (.iconst 3, 1) := by decide +kernel
theorem dX5_needLine_6 : decode cX5_needLine 6 = .ok (.if_icmp .lt 14, 3) := by decide +kernel
theorem dX5_needLine_9 : decode cX5_needLine 9 = .ok (.new 321, 3) := by decide +kernel
theorem dX5_needLine_12 : decode cX5_needLine 12 = .ok (.dup, 1) := by decide +kernel
theorem dX5_needLine_13 : decode cX5_needLine 13 = .ok (.ldc_w 330, 3) := by decide +kernel
theorem dX5_needLine_16 : decode cX5_needLine 16 = .ok (.invokespecial 325, 3) := by decide +kernel
theorem dX5_needLine_19 : decode cX5_needLine 19 = .ok (.athrow, 1) := by decide +kernel
theorem dX5_needLine_20 : decode cX5_needLine 20 = .ok (.return_, 1) := by decide +kernel
theorem dX5_needPlace_0 : decode cX5_needPlace 0 = .ok (.iload_n 0, 1) := by decide +kernel
theorem dX5_needPlace_1 : decode cX5_needPlace 1 = .ok (.ifCond .lt 9, 3) := by decide +kernel
theorem dX5_needPlace_4 : decode cX5_needPlace 4 = .ok (.iload_n 0, 1) := by decide +kernel
theorem dX5_needPlace_5 : decode cX5_needPlace 5 = .ok (.bipush 64, 2) := by decide +kernel
theorem dX5_needPlace_7 : decode cX5_needPlace 7 = .ok (.if_icmp .lt 14, 3) := by decide +kernel
theorem dX5_needPlace_10 : decode cX5_needPlace 10 = .ok (.new 321, 3) := by decide +kernel
theorem dX5_needPlace_13 : decode cX5_needPlace 13 = .ok (.dup, 1) := by decide +kernel
theorem dX5_needPlace_14 : decode cX5_needPlace 14 = .ok (.ldc_w 332, 3) := by decide +kernel
theorem dX5_needPlace_17 : decode cX5_needPlace 17 = .ok (.invokespecial 325, 3) := by decide +kernel
theorem dX5_needPlace_20 : decode cX5_needPlace 20 = .ok (.athrow, 1) := by decide +kernel
theorem dX5_needPlace_21 : decode cX5_needPlace 21 = .ok (.return_, 1) := by decide +kernel
theorem dX5_needPitch_0 : decode cX5_needPitch 0 = .ok (.iload_n 0, 1) := by decide +kernel
theorem dX5_needPitch_1 : decode cX5_needPitch 1 = .ok (.ifCond .lt 9, 3) := by decide +kernel
theorem dX5_needPitch_4 : decode cX5_needPitch 4 = .ok (.iload_n 0, 1) := by decide +kernel
theorem dX5_needPitch_5 : decode cX5_needPitch 5 = .ok (.bipush 48, 2) := by decide +kernel
theorem dX5_needPitch_7 : decode cX5_needPitch 7 = .ok (.if_icmp .lt 14, 3) := by decide +kernel
theorem dX5_needPitch_10 : decode cX5_needPitch 10 = .ok (.new 75, 3) := by decide +kernel
theorem dX5_needPitch_13 : decode cX5_needPitch 13 = .ok (.dup, 1) := by decide +kernel
theorem dX5_needPitch_14 : decode cX5_needPitch 14 = .ok (.ldc_w 334, 3) := by decide +kernel
theorem dX5_needPitch_17 : decode cX5_needPitch 17 = .ok (.invokespecial 79, 3) := by decide +kernel
theorem dX5_needPitch_20 : decode cX5_needPitch 20 = .ok (.athrow, 1) := by decide +kernel
theorem dX5_needPitch_21 : decode cX5_needPitch 21 = .ok (.return_, 1) := by decide +kernel
theorem dX5_needKey_0 : decode cX5_needKey 0 = .ok (.iload_n 0, 1) := by decide +kernel
theorem dX5_needKey_1 : decode cX5_needKey 1 = .ok (.bipush (-24), 2) := by decide +kernel
theorem dX5_needKey_3 : decode cX5_needKey 3 = .ok (.if_icmp .lt 9, 3) := by decide +kernel
theorem dX5_needKey_6 : decode cX5_needKey 6 = .ok (.iload_n 0, 1) := by decide +kernel
theorem dX5_needKey_7 : decode cX5_needKey 7 = .ok (.bipush 24, 2) := by decide +kernel
theorem dX5_needKey_9 : decode cX5_needKey 9 = .ok (.if_icmp .le 14, 3) := by decide +kernel
theorem dX5_needKey_12 : decode cX5_needKey 12 = .ok (.new 75, 3) := by decide +kernel
theorem dX5_needKey_15 : decode cX5_needKey 15 = .ok (.dup, 1) := by decide +kernel
theorem dX5_needKey_16 : decode cX5_needKey 16 = .ok (.ldc_w 336, 3) := by decide +kernel
theorem dX5_needKey_19 : decode cX5_needKey 19 = .ok (.invokespecial 79, 3) := by decide +kernel
theorem dX5_needKey_22 : decode cX5_needKey 22 = .ok (.athrow, 1) := by decide +kernel
theorem dX5_needKey_23 : decode cX5_needKey 23 = .ok (.return_, 1) := by decide +kernel
theorem dX5_needSteps_0 : decode cX5_needSteps 0 = .ok (.iload_n 0, 1) := by decide +kernel
theorem dX5_needSteps_1 : decode cX5_needSteps 1 = .ok (.iconst 1, 1) := by decide +kernel
theorem dX5_needSteps_2 : decode cX5_needSteps 2 = .ok (.if_icmp .lt 10, 3) := by decide +kernel
theorem dX5_needSteps_5 : decode cX5_needSteps 5 = .ok (.iload_n 0, 1) := by decide +kernel
theorem dX5_needSteps_6 : decode cX5_needSteps 6 = .ok (.sipush 128, 3) := by decide +kernel
theorem dX5_needSteps_9 : decode cX5_needSteps 9 = .ok (.if_icmp .le 14, 3) := by decide +kernel
theorem dX5_needSteps_12 : decode cX5_needSteps 12 = .ok (.new 75, 3) := by decide +kernel
theorem dX5_needSteps_15 : decode cX5_needSteps 15 = .ok (.dup, 1) := by decide +kernel
theorem dX5_needSteps_16 : decode cX5_needSteps 16 = .ok (.ldc_w 338, 3) := by decide +kernel
theorem dX5_needSteps_19 : decode cX5_needSteps 19 = .ok (.invokespecial 79, 3) := by decide +kernel
theorem dX5_needSteps_22 : decode cX5_needSteps 22 = .ok (.athrow, 1) := by decide +kernel
theorem dX5_needSteps_23 : decode cX5_needSteps 23 = .ok (.return_, 1) := by decide +kernel
theorem dX5_needQuestion_0 : decode cX5_needQuestion 0 = .ok (.iload_n 0, 1) := by decide +kernel
theorem dX5_needQuestion_1 : decode cX5_needQuestion 1 = .ok (.ifCond .lt 8, 3) := by decide +kernel
theorem dX5_needQuestion_4 : decode cX5_needQuestion 4 = .ok (.iload_n 0, 1) := by decide +kernel
theorem dX5_needQuestion_5 : decode cX5_needQuestion 5 = .ok (.iload_n 1, 1) := by decide +kernel
theorem dX5_needQuestion_6 : decode cX5_needQuestion 6 = .ok (.if_icmp .lt 14, 3) := by decide +kernel
theorem dX5_needQuestion_9 : decode cX5_needQuestion 9 = .ok (.new 75, 3) := by decide +kernel
theorem dX5_needQuestion_12 : decode cX5_needQuestion 12 = .ok (.dup, 1) := by decide +kernel
theorem dX5_needQuestion_13 : decode cX5_needQuestion 13 = .ok (.ldc_w 340, 3) := by decide +kernel
theorem dX5_needQuestion_16 : decode cX5_needQuestion 16 = .ok (.invokespecial 79, 3) := by decide +kernel
theorem dX5_needQuestion_19 : decode cX5_needQuestion 19 = .ok (.athrow, 1) := by decide +kernel
theorem dX5_needQuestion_20 : decode cX5_needQuestion 20 = .ok (.return_, 1) := by decide +kernel
set_option maxRecDepth 20000 in
theorem ggJ5_init_d00df_J2_newBytesFor_77867 : GoodIn wsJ5_init_d00df wsJ2_newBytesFor_77867 := goodIn_r _ [11, 5, 12, 13, 10, 14, 15] (by decide +kernel) (by decide +kernel)
set_option maxRecDepth 20000 in
theorem gJ5_init_d00df_J2_newBytesFor_77867 : GoodIn wsJ5_init_d00df (va_wsS RJ5 26 yJ2_newBytesFor_77867 wsJ2_newBytesFor_77867) := goodIn_app (goodIn_of _ (by decide +kernel)) ggJ5_init_d00df_J2_newBytesFor_77867
theorem dJ5_init_d00df_0 : decode cJ5_init_d00df 0 = .ok (.aload_n 0, 1) := by decide +kernel
theorem dJ5_init_d00df_1 : decode cJ5_init_d00df 1 = .ok (.invokespecial 3, 3) := by decide +kernel
theorem dJ5_init_d00df_4 : decode cJ5_init_d00df 4 = .ok (.getstatic 18, 3) := by decide +kernel
theorem dJ5_init_d00df_7 : decode cJ5_init_d00df 7 = .ok (.ifCond .eq 18, 3) := by decide +kernel
theorem dJ5_init_d00df_10 : decode cJ5_init_d00df 10 = .ok (.aload_n 0, 1) := by decide +kernel
theorem dJ5_init_d00df_11 : decode cJ5_init_d00df 11 = .ok (.iload_n 1, 1) := by decide +kernel
theorem dJ5_init_d00df_12 : decode cJ5_init_d00df 12 = .ok (.newarray .byte, 2) := by decide +kernel
theorem dJ5_init_d00df_14 : decode cJ5_init_d00df 14 = .ok (.putfield 15, 3) := by decide +kernel
theorem dJ5_init_d00df_17 : decode cJ5_init_d00df 17 = .ok (.aload_n 0, 1) := by decide +kernel
theorem dJ5_init_d00df_18 : decode cJ5_init_d00df 18 = .ok (.iconst 0, 1) := by decide +kernel
theorem dJ5_init_d00df_19 : decode cJ5_init_d00df 19 = .ok (.putfield 22, 3) := by decide +kernel
theorem dJ5_init_d00df_22 : decode cJ5_init_d00df 22 = .ok (.goto 16, 3) := by decide +kernel
theorem dJ5_init_d00df_25 : decode cJ5_init_d00df 25 = .ok (.aload_n 0, 1) := by decide +kernel
theorem dJ5_init_d00df_26 : decode cJ5_init_d00df 26 = .ok (.iload_n 1, 1) := by decide +kernel
theorem dJ5_init_d00df_27 : decode cJ5_init_d00df 27 = .ok (.invokestatic 26, 3) := by decide +kernel
theorem dJ5_init_d00df_30 : decode cJ5_init_d00df 30 = .ok (.putfield 15, 3) := by decide +kernel
theorem dJ5_init_d00df_33 : decode cJ5_init_d00df 33 = .ok (.aload_n 0, 1) := by decide +kernel
theorem dJ5_init_d00df_34 : decode cJ5_init_d00df 34 = .ok (.iconst 1, 1) := by decide +kernel
theorem dJ5_init_d00df_35 : decode cJ5_init_d00df 35 = .ok (.putfield 22, 3) := by decide +kernel
theorem dJ5_init_d00df_38 : decode cJ5_init_d00df 38 = .ok (.return_, 1) := by decide +kernel
theorem dJ5_length_8abf5_0 : decode cJ5_length_8abf5 0 = .ok (.aload_n 0, 1) := by decide +kernel
theorem dJ5_length_8abf5_1 : decode cJ5_length_8abf5 1 = .ok (.getfield 79, 3) := by decide +kernel
theorem dJ5_length_8abf5_4 : decode cJ5_length_8abf5 4 = .ok (.ireturn, 1) := by decide +kernel
set_option maxRecDepth 20000 in
theorem ggJ5_ensureCapacityInternal_d00df_J5_newCapacity_0f7a4 : GoodIn wsJ5_ensureCapacityInternal_d00df wsJ5_newCapacity_0f7a4 := goodIn_r _ [8, 1, 2, 9, 10, 11, 12, 13, 14, 15, 16, 17, 18, 19, 20, 21, 40, 41, 42, 43] (by decide +kernel) (by decide +kernel)
set_option maxRecDepth 20000 in
theorem gJ5_ensureCapacityInternal_d00df_J5_newCapacity_0f7a4_u104J4 : GoodIn wsJ5_ensureCapacityInternal_d00df (va_wsU RJ5 104 RJ4 "java/lang/AbstractStringBuilder" ⟨"java/lang/AbstractStringBuilder", "newCapacity", "(I)I"⟩ yJ5_newCapacity_0f7a4 wsJ5_newCapacity_0f7a4) := goodIn_app (goodIn_of _ (by decide +kernel)) ggJ5_ensureCapacityInternal_d00df_J5_newCapacity_0f7a4
set_option maxRecDepth 20000 in
theorem ggJ5_ensureCapacityInternal_d00df_J7_copyOf_9075b : GoodIn wsJ5_ensureCapacityInternal_d00df wsJ7_copyOf_9075b := goodIn_r _ [25, 26, 27, 28, 29, 30, 31, 32, 33, 34, 16, 35, 36, 37, 38, 39] (by decide +kernel) (by decide +kernel)
set_option maxRecDepth 20000 in
theorem gJ5_ensureCapacityInternal_d00df_J7_copyOf_9075b : GoodIn wsJ5_ensureCapacityInternal_d00df (va_wsS RJ5 108 yJ7_copyOf_9075b wsJ7_copyOf_9075b) := goodIn_app (goodIn_of _ (by decide +kernel)) ggJ5_ensureCapacityInternal_d00df_J7_copyOf_9075b
theorem dJ5_ensureCapacityInternal_d00df_0 : decode cJ5_ensureCapacityInternal_d00df 0 = .ok (.aload_n 0, 1) := by decide +kernel
theorem dJ5_ensureCapacityInternal_d00df_1 : decode cJ5_ensureCapacityInternal_d00df 1 = .ok (.getfield 15, 3) := by decide +kernel
theorem dJ5_ensureCapacityInternal_d00df_4 : decode cJ5_ensureCapacityInternal_d00df 4 = .ok (.arraylength, 1) := by decide +kernel
theorem dJ5_ensureCapacityInternal_d00df_5 : decode cJ5_ensureCapacityInternal_d00df 5 = .ok (.aload_n 0, 1) := by decide +kernel
theorem dJ5_ensureCapacityInternal_d00df_6 : decode cJ5_ensureCapacityInternal_d00df 6 = .ok (.getfield 22, 3) := by decide +kernel
theorem dJ5_ensureCapacityInternal_d00df_9 : decode cJ5_ensureCapacityInternal_d00df 9 = .ok (.ishr, 1) := by decide +kernel
theorem dJ5_ensureCapacityInternal_d00df_10 : decode cJ5_ensureCapacityInternal_d00df 10 = .ok (.istore_n 2, 1) := by decide +kernel
theorem dJ5_ensureCapacityInternal_d00df_11 : decode cJ5_ensureCapacityInternal_d00df 11 = .ok (.iload_n 1, 1) := by decide +kernel
theorem dJ5_ensureCapacityInternal_d00df_12 : decode cJ5_ensureCapacityInternal_d00df 12 = .ok (.iload_n 2, 1) := by decide +kernel
theorem dJ5_ensureCapacityInternal_d00df_13 : decode cJ5_ensureCapacityInternal_d00df 13 = .ok (.isub, 1) := by decide +kernel
theorem dJ5_ensureCapacityInternal_d00df_14 : decode cJ5_ensureCapacityInternal_d00df 14 = .ok (.ifCond .le 24, 3) := by decide +kernel
theorem dJ5_ensureCapacityInternal_d00df_17 : decode cJ5_ensureCapacityInternal_d00df 17 = .ok (.aload_n 0, 1) := by decide +kernel
theorem dJ5_ensureCapacityInternal_d00df_18 : decode cJ5_ensureCapacityInternal_d00df 18 = .ok (.aload_n 0, 1) := by decide +kernel
theorem dJ5_ensureCapacityInternal_d00df_19 : decode cJ5_ensureCapacityInternal_d00df 19 = .ok (.getfield 15, 3) := by decide +kernel
theorem dJ5_ensureCapacityInternal_d00df_22 : decode cJ5_ensureCapacityInternal_d00df 22 = .ok (.aload_n 0, 1) := by decide +kernel
theorem dJ5_ensureCapacityInternal_d00df_23 : decode cJ5_ensureCapacityInternal_d00df 23 = .ok (.iload_n 1, 1) := by decide +kernel
theorem dJ5_ensureCapacityInternal_d00df_24 : decode cJ5_ensureCapacityInternal_d00df 24 = .ok (.invokevirtual 104, 3) := by decide +kernel
theorem dJ5_ensureCapacityInternal_d00df_27 : decode cJ5_ensureCapacityInternal_d00df 27 = .ok (.aload_n 0, 1) := by decide +kernel
theorem dJ5_ensureCapacityInternal_d00df_28 : decode cJ5_ensureCapacityInternal_d00df 28 = .ok (.getfield 22, 3) := by decide +kernel
theorem dJ5_ensureCapacityInternal_d00df_31 : decode cJ5_ensureCapacityInternal_d00df 31 = .ok (.ishl, 1) := by decide +kernel
theorem dJ5_ensureCapacityInternal_d00df_32 : decode cJ5_ensureCapacityInternal_d00df 32 = .ok (.invokestatic 108, 3) := by decide +kernel
theorem dJ5_ensureCapacityInternal_d00df_35 : decode cJ5_ensureCapacityInternal_d00df 35 = .ok (.putfield 15, 3) := by decide +kernel
theorem dJ5_ensureCapacityInternal_d00df_38 : decode cJ5_ensureCapacityInternal_d00df 38 = .ok (.return_, 1) := by decide +kernel
set_option maxRecDepth 20000 in
theorem ggJ5_newCapacity_0f7a4_J8_newLength_cabcc : GoodIn wsJ5_newCapacity_0f7a4 wsJ8_newLength_cabcc := goodIn_r _ [7, 8, 9, 10, 11, 12, 13, 14, 6, 15] (by decide +kernel) (by decide +kernel)
set_option maxRecDepth 20000 in
theorem gJ5_newCapacity_0f7a4_J8_newLength_cabcc : GoodIn wsJ5_newCapacity_0f7a4 (va_wsS RJ5 114 yJ8_newLength_cabcc wsJ8_newLength_cabcc) := goodIn_app (goodIn_of _ (by decide +kernel)) ggJ5_newCapacity_0f7a4_J8_newLength_cabcc
theorem dJ5_newCapacity_0f7a4_0 : decode cJ5_newCapacity_0f7a4 0 = .ok (.aload_n 0, 1) := by decide +kernel
theorem dJ5_newCapacity_0f7a4_1 : decode cJ5_newCapacity_0f7a4 1 = .ok (.getfield 15, 3) := by decide +kernel
theorem dJ5_newCapacity_0f7a4_4 : decode cJ5_newCapacity_0f7a4 4 = .ok (.arraylength, 1) := by decide +kernel
theorem dJ5_newCapacity_0f7a4_5 : decode cJ5_newCapacity_0f7a4 5 = .ok (.istore_n 2, 1) := by decide +kernel
theorem dJ5_newCapacity_0f7a4_6 : decode cJ5_newCapacity_0f7a4 6 = .ok (.iload_n 1, 1) := by decide +kernel
theorem dJ5_newCapacity_0f7a4_7 : decode cJ5_newCapacity_0f7a4 7 = .ok (.aload_n 0, 1) := by decide +kernel
theorem dJ5_newCapacity_0f7a4_8 : decode cJ5_newCapacity_0f7a4 8 = .ok (.getfield 22, 3) := by decide +kernel
theorem dJ5_newCapacity_0f7a4_11 : decode cJ5_newCapacity_0f7a4 11 = .ok (.ishl, 1) := by decide +kernel
theorem dJ5_newCapacity_0f7a4_12 : decode cJ5_newCapacity_0f7a4 12 = .ok (.istore_n 3, 1) := by decide +kernel
theorem dJ5_newCapacity_0f7a4_13 : decode cJ5_newCapacity_0f7a4 13 = .ok (.iload_n 3, 1) := by decide +kernel
theorem dJ5_newCapacity_0f7a4_14 : decode cJ5_newCapacity_0f7a4 14 = .ok (.iload_n 2, 1) := by decide +kernel
theorem dJ5_newCapacity_0f7a4_15 : decode cJ5_newCapacity_0f7a4 15 = .ok (.isub, 1) := by decide +kernel
theorem dJ5_newCapacity_0f7a4_16 : decode cJ5_newCapacity_0f7a4 16 = .ok (.istore 4, 2) := by decide +kernel
theorem dJ5_newCapacity_0f7a4_18 : decode cJ5_newCapacity_0f7a4 18 = .ok (.iload_n 2, 1) := by decide +kernel
theorem dJ5_newCapacity_0f7a4_19 : decode cJ5_newCapacity_0f7a4 19 = .ok (.iload 4, 2) := by decide +kernel
theorem dJ5_newCapacity_0f7a4_21 : decode cJ5_newCapacity_0f7a4 21 = .ok (.iload_n 2, 1) := by decide +kernel
theorem dJ5_newCapacity_0f7a4_22 : decode cJ5_newCapacity_0f7a4 22 = .ok (.iconst 2, 1) := by decide +kernel
theorem dJ5_newCapacity_0f7a4_23 : decode cJ5_newCapacity_0f7a4 23 = .ok (.aload_n 0, 1) := by decide +kernel
theorem dJ5_newCapacity_0f7a4_24 : decode cJ5_newCapacity_0f7a4 24 = .ok (.getfield 22, 3) := by decide +kernel
theorem dJ5_newCapacity_0f7a4_27 : decode cJ5_newCapacity_0f7a4 27 = .ok (.ishl, 1) := by decide +kernel
theorem dJ5_newCapacity_0f7a4_28 : decode cJ5_newCapacity_0f7a4 28 = .ok (.iadd, 1) := by decide +kernel
theorem dJ5_newCapacity_0f7a4_29 : decode cJ5_newCapacity_0f7a4 29 = .ok (.invokestatic 114, 3) := by decide +kernel
theorem dJ5_newCapacity_0f7a4_32 : decode cJ5_newCapacity_0f7a4 32 = .ok (.istore 5, 2) := by decide +kernel
theorem dJ5_newCapacity_0f7a4_34 : decode cJ5_newCapacity_0f7a4 34 = .ok (.iload 5, 2) := by decide +kernel
theorem dJ5_newCapacity_0f7a4_36 : decode cJ5_newCapacity_0f7a4 36 = .ok (.ldc 39, 2) := by decide +kernel
theorem dJ5_newCapacity_0f7a4_38 : decode cJ5_newCapacity_0f7a4 38 = .ok (.if_icmp .ne 13, 3) := by decide +kernel
theorem dJ5_newCapacity_0f7a4_41 : decode cJ5_newCapacity_0f7a4 41 = .ok (.new 120, 3) := by decide +kernel
theorem dJ5_newCapacity_0f7a4_44 : decode cJ5_newCapacity_0f7a4 44 = .ok (.dup, 1) := by decide +kernel
theorem dJ5_newCapacity_0f7a4_45 : decode cJ5_newCapacity_0f7a4 45 = .ok (.ldc 122, 2) := by decide +kernel
theorem dJ5_newCapacity_0f7a4_47 : decode cJ5_newCapacity_0f7a4 47 = .ok (.invokespecial 124, 3) := by decide +kernel
theorem dJ5_newCapacity_0f7a4_50 : decode cJ5_newCapacity_0f7a4 50 = .ok (.athrow, 1) := by decide +kernel
theorem dJ5_newCapacity_0f7a4_51 : decode cJ5_newCapacity_0f7a4 51 = .ok (.iload 5, 2) := by decide +kernel
theorem dJ5_newCapacity_0f7a4_53 : decode cJ5_newCapacity_0f7a4 53 = .ok (.aload_n 0, 1) := by decide +kernel
theorem dJ5_newCapacity_0f7a4_54 : decode cJ5_newCapacity_0f7a4 54 = .ok (.getfield 22, 3) := by decide +kernel
theorem dJ5_newCapacity_0f7a4_57 : decode cJ5_newCapacity_0f7a4 57 = .ok (.ishr, 1) := by decide +kernel
theorem dJ5_newCapacity_0f7a4_58 : decode cJ5_newCapacity_0f7a4 58 = .ok (.ireturn, 1) := by decide +kernel
set_option maxRecDepth 20000 in
theorem ggJ5_inflate_da8c8_J5_isLatin1_aae02 : GoodIn wsJ5_inflate_da8c8 wsJ5_isLatin1_aae02 := goodIn_r _ [9, 10, 3, 48, 49, 50, 51] (by decide +kernel) (by decide +kernel)
set_option maxRecDepth 20000 in
theorem gJ5_inflate_da8c8_J5_isLatin1_aae02_u83J4 : GoodIn wsJ5_inflate_da8c8 (va_wsU RJ5 83 RJ4 "java/lang/AbstractStringBuilder" ⟨"java/lang/AbstractStringBuilder", "isLatin1", "()Z"⟩ yJ5_isLatin1_aae02 wsJ5_isLatin1_aae02) := goodIn_app (goodIn_of _ (by decide +kernel)) ggJ5_inflate_da8c8_J5_isLatin1_aae02
set_option maxRecDepth 20000 in
theorem ggJ5_inflate_da8c8_J2_newBytesFor_77867 : GoodIn wsJ5_inflate_da8c8 wsJ2_newBytesFor_77867 := goodIn_r _ [14, 15, 16, 17, 13, 18, 19] (by decide +kernel) (by decide +kernel)
set_option maxRecDepth 20000 in
theorem gJ5_inflate_da8c8_J2_newBytesFor_77867 : GoodIn wsJ5_inflate_da8c8 (va_wsS RJ5 26 yJ2_newBytesFor_77867 wsJ2_newBytesFor_77867) := goodIn_app (goodIn_of _ (by decide +kernel)) ggJ5_inflate_da8c8_J2_newBytesFor_77867
set_option maxRecDepth 20000 in
theorem ggJ5_inflate_da8c8_J1_inflate_0e8fd : GoodIn wsJ5_inflate_da8c8 wsJ1_inflate_0e8fd := goodIn_r _ [23, 24, 25, 13, 26, 27, 28, 29, 30, 31, 32, 33, 34, 35, 36, 37, 38, 39, 40, 41, 42, 43, 44, 45, 46, 47] (by decide +kernel) (by decide +kernel)
set_option maxRecDepth 20000 in
theorem gJ5_inflate_da8c8_J1_inflate_0e8fd : GoodIn wsJ5_inflate_da8c8 (va_wsS RJ5 125 yJ1_inflate_0e8fd wsJ1_inflate_0e8fd) := goodIn_app (goodIn_of _ (by decide +kernel)) ggJ5_inflate_da8c8_J1_inflate_0e8fd
theorem dJ5_inflate_da8c8_0 : decode cJ5_inflate_da8c8 0 = .ok (.aload_n 0, 1) := by decide +kernel
theorem dJ5_inflate_da8c8_1 : decode cJ5_inflate_da8c8 1 = .ok (.invokevirtual 83, 3) := by decide +kernel
theorem dJ5_inflate_da8c8_4 : decode cJ5_inflate_da8c8 4 = .ok (.ifCond .ne 4, 3) := by decide +kernel
theorem dJ5_inflate_da8c8_7 : decode cJ5_inflate_da8c8 7 = .ok (.return_, 1) := by decide +kernel
theorem dJ5_inflate_da8c8_8 : decode cJ5_inflate_da8c8 8 = .ok (.aload_n 0, 1) := by decide +kernel
theorem dJ5_inflate_da8c8_9 : decode cJ5_inflate_da8c8 9 = .ok (.getfield 15, 3) := by decide +kernel
theorem dJ5_inflate_da8c8_12 : decode cJ5_inflate_da8c8 12 = .ok (.arraylength, 1) := by decide +kernel
theorem dJ5_inflate_da8c8_13 : decode cJ5_inflate_da8c8 13 = .ok (.invokestatic 26, 3) := by decide +kernel
theorem dJ5_inflate_da8c8_16 : decode cJ5_inflate_da8c8 16 = .ok (.astore_n 1, 1) := by decide +kernel
theorem dJ5_inflate_da8c8_17 : decode cJ5_inflate_da8c8 17 = .ok (.aload_n 0, 1) := by decide +kernel
end
section
theorem dJ5_inflate_da8c8_18 : decode cJ5_inflate_da8c8 18 = .ok (.getfield 15, 3) := by decide +kernel
theorem dJ5_inflate_da8c8_21 : decode cJ5_inflate_da8c8 21 = .ok (.iconst 0, 1) := by decide +kernel
theorem dJ5_inflate_da8c8_22 : decode cJ5_inflate_da8c8 22 = .ok (.aload_n 1, 1) := by decide +kernel
theorem dJ5_inflate_da8c8_23 : decode cJ5_inflate_da8c8 23 = .ok (.iconst 0, 1) := by decide +kernel
theorem dJ5_inflate_da8c8_24 : decode cJ5_inflate_da8c8 24 = .ok (.aload_n 0, 1) := by decide +kernel
theorem dJ5_inflate_da8c8_25 : decode cJ5_inflate_da8c8 25 = .ok (.getfield 79, 3) := by decide +kernel
theorem dJ5_inflate_da8c8_28 : decode cJ5_inflate_da8c8 28 = .ok (.invokestatic 125, 3) := by decide +kernel
theorem dJ5_inflate_da8c8_31 : decode cJ5_inflate_da8c8 31 = .ok (.aload_n 0, 1) := by decide +kernel
theorem dJ5_inflate_da8c8_32 : decode cJ5_inflate_da8c8 32 = .ok (.aload_n 1, 1) := by decide +kernel
theorem dJ5_inflate_da8c8_33 : decode cJ5_inflate_da8c8 33 = .ok (.putfield 15, 3) := by decide +kernel
theorem dJ5_inflate_da8c8_36 : decode cJ5_inflate_da8c8 36 = .ok (.aload_n 0, 1) := by decide +kernel
theorem dJ5_inflate_da8c8_37 : decode cJ5_inflate_da8c8 37 = .ok (.iconst 1, 1) := by decide +kernel
theorem dJ5_inflate_da8c8_38 : decode cJ5_inflate_da8c8 38 = .ok (.putfield 22, 3) := by decide +kernel
theorem dJ5_inflate_da8c8_41 : decode cJ5_inflate_da8c8 41 = .ok (.return_, 1) := by decide +kernel
set_option maxRecDepth 20000 in
theorem ggJ5_append_3fe6f_J5_ensureCapacityInternal_d00df : GoodIn wsJ5_append_3fe6f wsJ5_ensureCapacityInternal_d00df := goodIn_r _ [8, 2, 9, 10, 11, 12, 13, 7, 14, 15, 16, 17, 18, 19, 20, 21, 22, 23, 24, 25, 26, 27, 28, 29, 30, 31, 32, 33, 34, 35, 36, 37, 38, 39, 40, 41, 42, 43, 44, 45, 108, 109, 110, 111] (by decide +kernel) (by decide +kernel)
set_option maxRecDepth 20000 in
theorem gJ5_append_3fe6f_J5_ensureCapacityInternal_d00df_u100J4 : GoodIn wsJ5_append_3fe6f (va_wsU RJ5 100 RJ4 "java/lang/AbstractStringBuilder" ⟨"java/lang/AbstractStringBuilder", "ensureCapacityInternal", "(I)V"⟩ yJ5_ensureCapacityInternal_d00df wsJ5_ensureCapacityInternal_d00df) := goodIn_app (goodIn_of _ (by decide +kernel)) ggJ5_append_3fe6f_J5_ensureCapacityInternal_d00df
set_option maxRecDepth 20000 in
theorem ggJ5_append_3fe6f_J5_isLatin1_aae02 : GoodIn wsJ5_append_3fe6f wsJ5_isLatin1_aae02 := goodIn_r _ [50, 51, 9, 108, 109, 110, 111] (by decide +kernel) (by decide +kernel)
set_option maxRecDepth 20000 in
theorem gJ5_append_3fe6f_J5_isLatin1_aae02_u83J4 : GoodIn wsJ5_append_3fe6f (va_wsU RJ5 83 RJ4 "java/lang/AbstractStringBuilder" ⟨"java/lang/AbstractStringBuilder", "isLatin1", "()Z"⟩ yJ5_isLatin1_aae02 wsJ5_isLatin1_aae02) := goodIn_app (goodIn_of _ (by decide +kernel)) ggJ5_append_3fe6f_J5_isLatin1_aae02
set_option maxRecDepth 20000 in
theorem ggJ5_append_3fe6f_J1_canEncode_fc78d : GoodIn wsJ5_append_3fe6f wsJ1_canEncode_fc78d := goodIn_r _ [55] (by decide +kernel) (by decide +kernel)
set_option maxRecDepth 20000 in
theorem gJ5_append_3fe6f_J1_canEncode_fc78d : GoodIn wsJ5_append_3fe6f (va_wsS RJ5 191 yJ1_canEncode_fc78d wsJ1_canEncode_fc78d) := goodIn_app (goodIn_of _ (by decide +kernel)) ggJ5_append_3fe6f_J1_canEncode_fc78d
set_option maxRecDepth 20000 in
theorem ggJ5_append_3fe6f_J5_inflate_da8c8 : GoodIn wsJ5_append_3fe6f wsJ5_inflate_da8c8 := goodIn_r _ [60, 2, 1, 9, 46, 47, 48, 49, 7, 50, 51, 61, 62, 63, 64, 38, 65, 66, 67, 68, 69, 70, 54, 71, 72, 73, 74, 75, 76, 77, 78, 79, 80, 81, 82, 83, 84, 85, 86, 87, 88, 89, 90, 91, 92, 93, 94, 95, 108, 109, 110, 111] (by decide +kernel) (by decide +kernel)
set_option maxRecDepth 20000 in
theorem gJ5_append_3fe6f_J5_inflate_da8c8_u195J4 : GoodIn wsJ5_append_3fe6f (va_wsU RJ5 195 RJ4 "java/lang/AbstractStringBuilder" ⟨"java/lang/AbstractStringBuilder", "inflate", "()V"⟩ yJ5_inflate_da8c8 wsJ5_inflate_da8c8) := goodIn_app (goodIn_of _ (by decide +kernel)) ggJ5_append_3fe6f_J5_inflate_da8c8
set_option maxRecDepth 20000 in
theorem ggJ5_append_3fe6f_J2_putCharSB_b72d1 : GoodIn wsJ5_append_3fe6f wsJ2_putCharSB_b72d1 := goodIn_r _ [98, 99, 100, 63, 101, 78, 79, 80, 102, 103, 83, 104, 85, 105, 106, 88, 107, 90, 91, 92, 93, 94, 95] (by decide +kernel) (by decide +kernel)
set_option maxRecDepth 20000 in
theorem gJ5_append_3fe6f_J2_putCharSB_b72d1 : GoodIn wsJ5_append_3fe6f (va_wsS RJ5 197 yJ2_putCharSB_b72d1 wsJ2_putCharSB_b72d1) := goodIn_app (goodIn_of _ (by decide +kernel)) ggJ5_append_3fe6f_J2_putCharSB_b72d1
theorem dJ5_append_3fe6f_0 : decode cJ5_append_3fe6f 0 = .ok (.aload_n 0, 1) := by decide +kernel
theorem dJ5_append_3fe6f_1 : decode cJ5_append_3fe6f 1 = .ok (.aload_n 0, 1) := by decide +kernel
theorem dJ5_append_3fe6f_2 : decode cJ5_append_3fe6f 2 = .ok (.getfield 79, 3) := by decide +kernel
theorem dJ5_append_3fe6f_5 : decode cJ5_append_3fe6f 5 = .ok (.iconst 1, 1) := by decide +kernel
theorem dJ5_append_3fe6f_6 : decode cJ5_append_3fe6f 6 = .ok (.iadd, 1) := by decide +kernel
theorem dJ5_append_3fe6f_7 : decode cJ5_append_3fe6f 7 = .ok (.invokevirtual 100, 3) := by decide +kernel
theorem dJ5_append_3fe6f_10 : decode cJ5_append_3fe6f 10 = .ok (.aload_n 0, 1) := by decide +kernel
theorem dJ5_append_3fe6f_11 : decode cJ5_append_3fe6f 11 = .ok (.invokevirtual 83, 3) := by decide +kernel
theorem dJ5_append_3fe6f_14 : decode cJ5_append_3fe6f 14 = .ok (.ifCond .eq 31, 3) := by decide +kernel
theorem dJ5_append_3fe6f_17 : decode cJ5_append_3fe6f 17 = .ok (.iload_n 1, 1) := by decide +kernel
theorem dJ5_append_3fe6f_18 : decode cJ5_append_3fe6f 18 = .ok (.invokestatic 191, 3) := by decide +kernel
theorem dJ5_append_3fe6f_21 : decode cJ5_append_3fe6f 21 = .ok (.ifCond .eq 24, 3) := by decide +kernel
theorem dJ5_append_3fe6f_24 : decode cJ5_append_3fe6f 24 = .ok (.aload_n 0, 1) := by decide +kernel
theorem dJ5_append_3fe6f_25 : decode cJ5_append_3fe6f 25 = .ok (.getfield 15, 3) := by decide +kernel
theorem dJ5_append_3fe6f_28 : decode cJ5_append_3fe6f 28 = .ok (.aload_n 0, 1) := by decide +kernel
theorem dJ5_append_3fe6f_29 : decode cJ5_append_3fe6f 29 = .ok (.dup, 1) := by decide +kernel
theorem dJ5_append_3fe6f_30 : decode cJ5_append_3fe6f 30 = .ok (.getfield 79, 3) := by decide +kernel
theorem dJ5_append_3fe6f_33 : decode cJ5_append_3fe6f 33 = .ok (.dup_x1, 1) := by decide +kernel
theorem dJ5_append_3fe6f_34 : decode cJ5_append_3fe6f 34 = .ok (.iconst 1, 1) := by decide +kernel
theorem dJ5_append_3fe6f_35 : decode cJ5_append_3fe6f 35 = .ok (.iadd, 1) := by decide +kernel
theorem dJ5_append_3fe6f_36 : decode cJ5_append_3fe6f 36 = .ok (.putfield 79, 3) := by decide +kernel
theorem dJ5_append_3fe6f_39 : decode cJ5_append_3fe6f 39 = .ok (.iload_n 1, 1) := by decide +kernel
theorem dJ5_append_3fe6f_40 : decode cJ5_append_3fe6f 40 = .ok (.i2b, 1) := by decide +kernel
theorem dJ5_append_3fe6f_41 : decode cJ5_append_3fe6f 41 = .ok (.bastore, 1) := by decide +kernel
theorem dJ5_append_3fe6f_42 : decode cJ5_append_3fe6f 42 = .ok (.goto 33, 3) := by decide +kernel
theorem dJ5_append_3fe6f_45 : decode cJ5_append_3fe6f 45 = .ok (.aload_n 0, 1) := by decide +kernel
theorem dJ5_append_3fe6f_46 : decode cJ5_append_3fe6f 46 = .ok (.invokevirtual 83, 3) := by decide +kernel
theorem dJ5_append_3fe6f_49 : decode cJ5_append_3fe6f 49 = .ok (.ifCond .eq 7, 3) := by decide +kernel
theorem dJ5_append_3fe6f_52 : decode cJ5_append_3fe6f 52 = .ok (.aload_n 0, 1) := by decide +kernel
theorem dJ5_append_3fe6f_53 : decode cJ5_append_3fe6f 53 = .ok (.invokevirtual 195, 3) := by decide +kernel
theorem dJ5_append_3fe6f_56 : decode cJ5_append_3fe6f 56 = .ok (.aload_n 0, 1) := by decide +kernel
theorem dJ5_append_3fe6f_57 : decode cJ5_append_3fe6f 57 = .ok (.getfield 15, 3) := by decide +kernel
theorem dJ5_append_3fe6f_60 : decode cJ5_append_3fe6f 60 = .ok (.aload_n 0, 1) := by decide +kernel
theorem dJ5_append_3fe6f_61 : decode cJ5_append_3fe6f 61 = .ok (.dup, 1) := by decide +kernel
theorem dJ5_append_3fe6f_62 : decode cJ5_append_3fe6f 62 = .ok (.getfield 79, 3) := by decide +kernel
theorem dJ5_append_3fe6f_65 : decode cJ5_append_3fe6f 65 = .ok (.dup_x1, 1) := by decide +kernel
theorem dJ5_append_3fe6f_66 : decode cJ5_append_3fe6f 66 = .ok (.iconst 1, 1) := by decide +kernel
theorem dJ5_append_3fe6f_67 : decode cJ5_append_3fe6f 67 = .ok (.iadd, 1) := by decide +kernel
theorem dJ5_append_3fe6f_68 : decode cJ5_append_3fe6f 68 = .ok (.putfield 79, 3) := by decide +kernel
theorem dJ5_append_3fe6f_71 : decode cJ5_append_3fe6f 71 = .ok (.iload_n 1, 1) := by decide +kernel
theorem dJ5_append_3fe6f_72 : decode cJ5_append_3fe6f 72 = .ok (.invokestatic 197, 3) := by decide +kernel
theorem dJ5_append_3fe6f_75 : decode cJ5_append_3fe6f 75 = .ok (.aload_n 0, 1) := by decide +kernel
theorem dJ5_append_3fe6f_76 : decode cJ5_append_3fe6f 76 = .ok (.areturn, 1) := by decide +kernel
theorem dJ5_getValue_6d5f1_0 : decode cJ5_getValue_6d5f1 0 = .ok (.aload_n 0, 1) := by decide +kernel
theorem dJ5_getValue_6d5f1_1 : decode cJ5_getValue_6d5f1 1 = .ok (.getfield 15, 3) := by decide +kernel
theorem dJ5_getValue_6d5f1_4 : decode cJ5_getValue_6d5f1 4 = .ok (.areturn, 1) := by decide +kernel
theorem dJ5_isLatin1_aae02_0 : decode cJ5_isLatin1_aae02 0 = .ok (.getstatic 18, 3) := by decide +kernel
theorem dJ5_isLatin1_aae02_3 : decode cJ5_isLatin1_aae02 3 = .ok (.ifCond .eq 14, 3) := by decide +kernel
theorem dJ5_isLatin1_aae02_6 : decode cJ5_isLatin1_aae02 6 = .ok (.aload_n 0, 1) := by decide +kernel
theorem dJ5_isLatin1_aae02_7 : decode cJ5_isLatin1_aae02 7 = .ok (.getfield 22, 3) := by decide +kernel
theorem dJ5_isLatin1_aae02_10 : decode cJ5_isLatin1_aae02 10 = .ok (.ifCond .ne 7, 3) := by decide +kernel
theorem dJ5_isLatin1_aae02_13 : decode cJ5_isLatin1_aae02 13 = .ok (.iconst 1, 1) := by decide +kernel
theorem dJ5_isLatin1_aae02_14 : decode cJ5_isLatin1_aae02 14 = .ok (.goto 4, 3) := by decide +kernel
theorem dJ5_isLatin1_aae02_17 : decode cJ5_isLatin1_aae02 17 = .ok (.iconst 0, 1) := by decide +kernel
theorem dJ5_isLatin1_aae02_18 : decode cJ5_isLatin1_aae02 18 = .ok (.ireturn, 1) := by decide +kernel
theorem dJ13_bitCount_95d88_0 : decode cJ13_bitCount_95d88 0 = .ok (.lload_n 0, 1) := by decide +kernel
theorem dJ13_bitCount_95d88_1 : decode cJ13_bitCount_95d88 1 = .ok (.lload_n 0, 1) := by decide +kernel
theorem dJ13_bitCount_95d88_2 : decode cJ13_bitCount_95d88 2 = .ok (.iconst 1, 1) := by decide +kernel
theorem dJ13_bitCount_95d88_3 : decode cJ13_bitCount_95d88 3 = .ok (.lushr, 1) := by decide +kernel
theorem dJ13_bitCount_95d88_4 : decode cJ13_bitCount_95d88 4 = .ok (.ldc2_w 314, 3) := by decide +kernel
theorem dJ13_bitCount_95d88_7 : decode cJ13_bitCount_95d88 7 = .ok (.land, 1) := by decide +kernel
theorem dJ13_bitCount_95d88_8 : decode cJ13_bitCount_95d88 8 = .ok (.lsub, 1) := by decide +kernel
theorem dJ13_bitCount_95d88_9 : decode cJ13_bitCount_95d88 9 = .ok (.lstore_n 0, 1) := by decide +kernel
theorem dJ13_bitCount_95d88_10 : decode cJ13_bitCount_95d88 10 = .ok (.lload_n 0, 1) := by decide +kernel
theorem dJ13_bitCount_95d88_11 : decode cJ13_bitCount_95d88 11 = .ok (.ldc2_w 316, 3) := by decide +kernel
theorem dJ13_bitCount_95d88_14 : decode cJ13_bitCount_95d88 14 = .ok (.land, 1) := by decide +kernel
theorem dJ13_bitCount_95d88_15 : decode cJ13_bitCount_95d88 15 = .ok (.lload_n 0, 1) := by decide +kernel
theorem dJ13_bitCount_95d88_16 : decode cJ13_bitCount_95d88 16 = .ok (.iconst 2, 1) := by decide +kernel
theorem dJ13_bitCount_95d88_17 : decode cJ13_bitCount_95d88 17 = .ok (.lushr, 1) := by decide +kernel
theorem dJ13_bitCount_95d88_18 : decode cJ13_bitCount_95d88 18 = .ok (.ldc2_w 316, 3) := by decide +kernel
theorem dJ13_bitCount_95d88_21 : decode cJ13_bitCount_95d88 21 = .ok (.land, 1) := by decide +kernel
theorem dJ13_bitCount_95d88_22 : decode cJ13_bitCount_95d88 22 = .ok (.ladd, 1) := by decide +kernel
theorem dJ13_bitCount_95d88_23 : decode cJ13_bitCount_95d88 23 = .ok (.lstore_n 0, 1) := by decide +kernel
theorem dJ13_bitCount_95d88_24 : decode cJ13_bitCount_95d88 24 = .ok (.lload_n 0, 1) := by decide +kernel
theorem dJ13_bitCount_95d88_25 : decode cJ13_bitCount_95d88 25 = .ok (.lload_n 0, 1) := by decide +kernel
theorem dJ13_bitCount_95d88_26 : decode cJ13_bitCount_95d88 26 = .ok (.iconst 4, 1) := by decide +kernel
theorem dJ13_bitCount_95d88_27 : decode cJ13_bitCount_95d88 27 = .ok (.lushr, 1) := by decide +kernel
theorem dJ13_bitCount_95d88_28 : decode cJ13_bitCount_95d88 28 = .ok (.ladd, 1) := by decide +kernel
theorem dJ13_bitCount_95d88_29 : decode cJ13_bitCount_95d88 29 = .ok (.ldc2_w 318, 3) := by decide +kernel
theorem dJ13_bitCount_95d88_32 : decode cJ13_bitCount_95d88 32 = .ok (.land, 1) := by decide +kernel
theorem dJ13_bitCount_95d88_33 : decode cJ13_bitCount_95d88 33 = .ok (.lstore_n 0, 1) := by decide +kernel
theorem dJ13_bitCount_95d88_34 : decode cJ13_bitCount_95d88 34 = .ok (.lload_n 0, 1) := by decide +kernel
theorem dJ13_bitCount_95d88_35 : decode cJ13_bitCount_95d88 35 = .ok (.lload_n 0, 1) := by decide +kernel
theorem dJ13_bitCount_95d88_36 : decode cJ13_bitCount_95d88 36 = .ok (.bipush 8, 2) := by decide +kernel
theorem dJ13_bitCount_95d88_38 : decode cJ13_bitCount_95d88 38 = .ok (.lushr, 1) := by decide +kernel
theorem dJ13_bitCount_95d88_39 : decode cJ13_bitCount_95d88 39 = .ok (.ladd, 1) := by decide +kernel
theorem dJ13_bitCount_95d88_40 : decode cJ13_bitCount_95d88 40 = .ok (.lstore_n 0, 1) := by decide +kernel
theorem dJ13_bitCount_95d88_41 : decode cJ13_bitCount_95d88 41 = .ok (.lload_n 0, 1) := by decide +kernel
theorem dJ13_bitCount_95d88_42 : decode cJ13_bitCount_95d88 42 = .ok (.lload_n 0, 1) := by decide +kernel
theorem dJ13_bitCount_95d88_43 : decode cJ13_bitCount_95d88 43 = .ok (.bipush 16, 2) := by decide +kernel
theorem dJ13_bitCount_95d88_45 : decode cJ13_bitCount_95d88 45 = .ok (.lushr, 1) := by decide +kernel
theorem dJ13_bitCount_95d88_46 : decode cJ13_bitCount_95d88 46 = .ok (.ladd, 1) := by decide +kernel
theorem dJ13_bitCount_95d88_47 : decode cJ13_bitCount_95d88 47 = .ok (.lstore_n 0, 1) := by decide +kernel
theorem dJ13_bitCount_95d88_48 : decode cJ13_bitCount_95d88 48 = .ok (.lload_n 0, 1) := by decide +kernel
theorem dJ13_bitCount_95d88_49 : decode cJ13_bitCount_95d88 49 = .ok (.lload_n 0, 1) := by decide +kernel
theorem dJ13_bitCount_95d88_50 : decode cJ13_bitCount_95d88 50 = .ok (.bipush 32, 2) := by decide +kernel
theorem dJ13_bitCount_95d88_52 : decode cJ13_bitCount_95d88 52 = .ok (.lushr, 1) := by decide +kernel
theorem dJ13_bitCount_95d88_53 : decode cJ13_bitCount_95d88 53 = .ok (.ladd, 1) := by decide +kernel
theorem dJ13_bitCount_95d88_54 : decode cJ13_bitCount_95d88 54 = .ok (.lstore_n 0, 1) := by decide +kernel
theorem dJ13_bitCount_95d88_55 : decode cJ13_bitCount_95d88 55 = .ok (.lload_n 0, 1) := by decide +kernel
theorem dJ13_bitCount_95d88_56 : decode cJ13_bitCount_95d88 56 = .ok (.l2i, 1) := by decide +kernel
theorem dJ13_bitCount_95d88_57 : decode cJ13_bitCount_95d88 57 = .ok (.bipush 127, 2) := by decide +kernel
theorem dJ13_bitCount_95d88_59 : decode cJ13_bitCount_95d88 59 = .ok (.iand, 1) := by decide +kernel
theorem dJ13_bitCount_95d88_60 : decode cJ13_bitCount_95d88 60 = .ok (.ireturn, 1) := by decide +kernel
theorem dJ13_rotateLeft_b2ac5_0 : decode cJ13_rotateLeft_b2ac5 0 = .ok (.lload_n 0, 1) := by decide +kernel
theorem dJ13_rotateLeft_b2ac5_1 : decode cJ13_rotateLeft_b2ac5 1 = .ok (.iload_n 2, 1) := by decide +kernel
theorem dJ13_rotateLeft_b2ac5_2 : decode cJ13_rotateLeft_b2ac5 2 = .ok (.lshl, 1) := by decide +kernel
theorem dJ13_rotateLeft_b2ac5_3 : decode cJ13_rotateLeft_b2ac5 3 = .ok (.lload_n 0, 1) := by decide +kernel
theorem dJ13_rotateLeft_b2ac5_4 : decode cJ13_rotateLeft_b2ac5 4 = .ok (.iload_n 2, 1) := by decide +kernel
theorem dJ13_rotateLeft_b2ac5_5 : decode cJ13_rotateLeft_b2ac5 5 = .ok (.ineg, 1) := by decide +kernel
theorem dJ13_rotateLeft_b2ac5_6 : decode cJ13_rotateLeft_b2ac5 6 = .ok (.lushr, 1) := by decide +kernel
theorem dJ13_rotateLeft_b2ac5_7 : decode cJ13_rotateLeft_b2ac5 7 = .ok (.lor, 1) := by decide +kernel
theorem dJ13_rotateLeft_b2ac5_8 : decode cJ13_rotateLeft_b2ac5 8 = .ok (.lreturn, 1) := by decide +kernel
theorem dJ9_abs_0f7a4_0 : decode cJ9_abs_0f7a4 0 = .ok (.iload_n 0, 1) := by decide +kernel
theorem dJ9_abs_0f7a4_1 : decode cJ9_abs_0f7a4 1 = .ok (.ifCond .ge 8, 3) := by decide +kernel
theorem dJ9_abs_0f7a4_4 : decode cJ9_abs_0f7a4 4 = .ok (.iload_n 0, 1) := by decide +kernel
theorem dJ9_abs_0f7a4_5 : decode cJ9_abs_0f7a4 5 = .ok (.ineg, 1) := by decide +kernel
theorem dJ9_abs_0f7a4_6 : decode cJ9_abs_0f7a4 6 = .ok (.goto 4, 3) := by decide +kernel
theorem dJ9_abs_0f7a4_9 : decode cJ9_abs_0f7a4 9 = .ok (.iload_n 0, 1) := by decide +kernel
theorem dJ9_abs_0f7a4_10 : decode cJ9_abs_0f7a4 10 = .ok (.ireturn, 1) := by decide +kernel
theorem dJ9_max_7cf53_0 : decode cJ9_max_7cf53 0 = .ok (.iload_n 0, 1) := by decide +kernel
theorem dJ9_max_7cf53_1 : decode cJ9_max_7cf53 1 = .ok (.iload_n 1, 1) := by decide +kernel
theorem dJ9_max_7cf53_2 : decode cJ9_max_7cf53 2 = .ok (.if_icmp .lt 7, 3) := by decide +kernel
theorem dJ9_max_7cf53_5 : decode cJ9_max_7cf53 5 = .ok (.iload_n 0, 1) := by decide +kernel
theorem dJ9_max_7cf53_6 : decode cJ9_max_7cf53 6 = .ok (.goto 4, 3) := by decide +kernel
theorem dJ9_max_7cf53_9 : decode cJ9_max_7cf53 9 = .ok (.iload_n 1, 1) := by decide +kernel
theorem dJ9_max_7cf53_10 : decode cJ9_max_7cf53 10 = .ok (.ireturn, 1) := by decide +kernel
theorem dJ9_min_7cf53_0 : decode cJ9_min_7cf53 0 = .ok (.iload_n 0, 1) := by decide +kernel
theorem dJ9_min_7cf53_1 : decode cJ9_min_7cf53 1 = .ok (.iload_n 1, 1) := by decide +kernel
theorem dJ9_min_7cf53_2 : decode cJ9_min_7cf53 2 = .ok (.if_icmp .gt 7, 3) := by decide +kernel
theorem dJ9_min_7cf53_5 : decode cJ9_min_7cf53 5 = .ok (.iload_n 0, 1) := by decide +kernel
theorem dJ9_min_7cf53_6 : decode cJ9_min_7cf53 6 = .ok (.goto 4, 3) := by decide +kernel
theorem dJ9_min_7cf53_9 : decode cJ9_min_7cf53 9 = .ok (.iload_n 1, 1) := by decide +kernel
theorem dJ9_min_7cf53_10 : decode cJ9_min_7cf53 10 = .ok (.ireturn, 1) := by decide +kernel
set_option maxRecDepth 20000 in
theorem ggJ0_init_81219_J0_init_db425 : GoodIn wsJ0_init_81219 wsJ0_init_db425 := goodIn_r _ [4, 5, 6, 7, 8, 9, 10, 11, 12, 13, 14, 15, 16, 17, 18, 19, 20, 21, 22, 23, 24, 25, 26, 27, 28, 29, 30, 31, 32, 33, 34, 35, 36, 37, 38, 39, 40, 41, 42, 43, 44, 45, 46, 47, 48, 49, 50, 51, 52, 53, 54, 55, 56, 57, 58, 59, 60, 61, 62, 63, 64, 65, 66, 67, 68, 69, 70, 71, 72, 73, 74, 75, 76, 77, 3, 78, 79, 80, 81, 82, 83, 84, 85, 86, 87, 88, 89, 90, 91, 92, 93, 94, 95, 96, 97, 98, 99, 100, 101, 102, 103, 104, 105] (by decide +kernel) (by decide +kernel)
set_option maxRecDepth 20000 in
theorem gJ0_init_81219_J0_init_db425 : GoodIn wsJ0_init_81219 (wsJ0_init_db425) := ggJ0_init_81219_J0_init_db425
theorem dJ0_init_81219_0 : decode cJ0_init_81219 0 = .ok (.aload_n 0, 1) := by decide +kernel
theorem dJ0_init_81219_1 : decode cJ0_init_81219 1 = .ok (.aload_n 1, 1) := by decide +kernel
theorem dJ0_init_81219_2 : decode cJ0_init_81219 2 = .ok (.aconst_null, 1) := by decide +kernel
theorem dJ0_init_81219_3 : decode cJ0_init_81219 3 = .ok (.invokespecial 489, 3) := by decide +kernel
theorem dJ0_init_81219_6 : decode cJ0_init_81219 6 = .ok (.return_, 1) := by decide +kernel
set_option maxRecDepth 20000 in
theorem ggJ0_length_8abf5_J0_coder_7d493 : GoodIn wsJ0_length_8abf5 wsJ0_coder_7d493 := goodIn_r _ [6, 7, 8, 9, 10, 11, 12] (by decide +kernel) (by decide +kernel)
set_option maxRecDepth 20000 in
theorem gJ0_length_8abf5_J0_coder_7d493 : GoodIn wsJ0_length_8abf5 (wsV RJ0 335 RJ0 yJ0_coder_7d493 wsJ0_coder_7d493) := goodIn_app (goodIn_of _ (by decide +kernel)) ggJ0_length_8abf5_J0_coder_7d493
theorem dJ0_length_8abf5_0 : decode cJ0_length_8abf5 0 = .ok (.aload_n 0, 1) := by decide +kernel
theorem dJ0_length_8abf5_1 : decode cJ0_length_8abf5 1 = .ok (.getfield 9, 3) := by decide +kernel
theorem dJ0_length_8abf5_4 : decode cJ0_length_8abf5 4 = .ok (.arraylength, 1) := by decide +kernel
theorem dJ0_length_8abf5_5 : decode cJ0_length_8abf5 5 = .ok (.aload_n 0, 1) := by decide +kernel
theorem dJ0_length_8abf5_6 : decode cJ0_length_8abf5 6 = .ok (.invokevirtual 335, 3) := by decide +kernel
theorem dJ0_length_8abf5_9 : decode cJ0_length_8abf5 9 = .ok (.ishr, 1) := by decide +kernel
theorem dJ0_length_8abf5_10 : decode cJ0_length_8abf5 10 = .ok (.ireturn, 1) := by decide +kernel
set_option maxRecDepth 20000 in
theorem ggJ0_charAt_5068e_J0_isLatin1_aae02 : GoodIn wsJ0_charAt_5068e wsJ0_isLatin1_aae02 := goodIn_r _ [6, 7, 8, 38, 39, 40, 41] (by decide +kernel) (by decide +kernel)
set_option maxRecDepth 20000 in
theorem gJ0_charAt_5068e_J0_isLatin1_aae02 : GoodIn wsJ0_charAt_5068e (wsV RJ0 492 RJ0 yJ0_isLatin1_aae02 wsJ0_isLatin1_aae02) := goodIn_app (goodIn_of _ (by decide +kernel)) ggJ0_charAt_5068e_J0_isLatin1_aae02
set_option maxRecDepth 20000 in
theorem ggJ0_charAt_5068e_J1_charAt_3b067 : GoodIn wsJ0_charAt_5068e wsJ1_charAt_3b067 := goodIn_r _ [12, 13, 14, 5, 15, 16, 17, 18, 19, 20] (by decide +kernel) (by decide +kernel)
set_option maxRecDepth 20000 in
theorem gJ0_charAt_5068e_J1_charAt_3b067 : GoodIn wsJ0_charAt_5068e (va_wsS RJ0 495 yJ1_charAt_3b067 wsJ1_charAt_3b067) := goodIn_app (goodIn_of _ (by decide +kernel)) ggJ0_charAt_5068e_J1_charAt_3b067
set_option maxRecDepth 20000 in
theorem ggJ0_charAt_5068e_J2_charAt_3b067 : GoodIn wsJ0_charAt_5068e wsJ2_charAt_3b067 := goodIn_r _ [24, 25, 26, 23, 27, 28, 29, 30, 31, 14, 5, 15, 16, 17, 18, 19, 20, 32, 33, 34, 35, 36, 37] (by decide +kernel) (by decide +kernel)
set_option maxRecDepth 20000 in
theorem gJ0_charAt_5068e_J2_charAt_3b067 : GoodIn wsJ0_charAt_5068e (va_wsS RJ0 498 yJ2_charAt_3b067 wsJ2_charAt_3b067) := goodIn_app (goodIn_of _ (by decide +kernel)) ggJ0_charAt_5068e_J2_charAt_3b067
theorem dJ0_charAt_5068e_0 : decode cJ0_charAt_5068e 0 = .ok (.aload_n 0, 1) := by decide +kernel
theorem dJ0_charAt_5068e_1 : decode cJ0_charAt_5068e 1 = .ok (.invokevirtual 492, 3) := by decide +kernel
theorem dJ0_charAt_5068e_4 : decode cJ0_charAt_5068e 4 = .ok (.ifCond .eq 12, 3) := by decide +kernel
theorem dJ0_charAt_5068e_7 : decode cJ0_charAt_5068e 7 = .ok (.aload_n 0, 1) := by decide +kernel
theorem dJ0_charAt_5068e_8 : decode cJ0_charAt_5068e 8 = .ok (.getfield 9, 3) := by decide +kernel
theorem dJ0_charAt_5068e_11 : decode cJ0_charAt_5068e 11 = .ok (.iload_n 1, 1) := by decide +kernel
theorem dJ0_charAt_5068e_12 : decode cJ0_charAt_5068e 12 = .ok (.invokestatic 495, 3) := by decide +kernel
theorem dJ0_charAt_5068e_15 : decode cJ0_charAt_5068e 15 = .ok (.ireturn, 1) := by decide +kernel
theorem dJ0_charAt_5068e_16 : decode cJ0_charAt_5068e 16 = .ok (.aload_n 0, 1) := by decide +kernel
theorem dJ0_charAt_5068e_17 : decode cJ0_charAt_5068e 17 = .ok (.getfield 9, 3) := by decide +kernel
theorem dJ0_charAt_5068e_20 : decode cJ0_charAt_5068e 20 = .ok (.iload_n 1, 1) := by decide +kernel
theorem dJ0_charAt_5068e_21 : decode cJ0_charAt_5068e 21 = .ok (.invokestatic 498, 3) := by decide +kernel
theorem dJ0_charAt_5068e_24 : decode cJ0_charAt_5068e 24 = .ok (.ireturn, 1) := by decide +kernel
set_option maxRecDepth 20000 in
theorem ggJ0_init_db425_J5_getValue_6d5f1 : GoodIn wsJ0_init_db425 wsJ5_getValue_6d5f1 := goodIn_r _ [13, 14, 99, 100, 101, 102] (by decide +kernel) (by decide +kernel)
set_option maxRecDepth 20000 in
theorem gJ0_init_db425_J5_getValue_6d5f1_u552J4 : GoodIn wsJ0_init_db425 (va_wsU RJ0 552 RJ4 "java/lang/AbstractStringBuilder" ⟨"java/lang/AbstractStringBuilder", "getValue", "()[B"⟩ yJ5_getValue_6d5f1 wsJ5_getValue_6d5f1) := goodIn_app (goodIn_of _ (by decide +kernel)) ggJ0_init_db425_J5_getValue_6d5f1
set_option maxRecDepth 20000 in
theorem ggJ0_init_db425_J4_length_8abf5 : GoodIn wsJ0_init_db425 wsJ4_length_8abf5 := goodIn_r _ [21, 22, 16, 23, 24, 12, 25, 26, 99, 100, 101, 102] (by decide +kernel) (by decide +kernel)
set_option maxRecDepth 20000 in
theorem gJ0_init_db425_J4_length_8abf5_u549J4 : GoodIn wsJ0_init_db425 (va_wsO RJ0 549 RJ4 "java/lang/AbstractStringBuilder" ⟨"java/lang/AbstractStringBuilder", "length", "()I"⟩ yJ4_length_8abf5 wsJ4_length_8abf5) := goodIn_app (goodIn_of _ (by decide +kernel)) ggJ0_init_db425_J4_length_8abf5
set_option maxRecDepth 20000 in
theorem ggJ0_init_db425_J5_isLatin1_aae02 : GoodIn wsJ0_init_db425 wsJ5_isLatin1_aae02 := goodIn_r _ [31, 32, 33, 99, 100, 101, 102] (by decide +kernel) (by decide +kernel)
set_option maxRecDepth 20000 in
theorem gJ0_init_db425_J5_isLatin1_aae02_u1047J4 : GoodIn wsJ0_init_db425 (va_wsU RJ0 1047 RJ4 "java/lang/AbstractStringBuilder" ⟨"java/lang/AbstractStringBuilder", "isLatin1", "()Z"⟩ yJ5_isLatin1_aae02 wsJ5_isLatin1_aae02) := goodIn_app (goodIn_of _ (by decide +kernel)) ggJ0_init_db425_J5_isLatin1_aae02
set_option maxRecDepth 20000 in
theorem ggJ0_init_db425_J7_copyOfRange_39247 : GoodIn wsJ0_init_db425 wsJ7_copyOfRange_39247 := goodIn_r _ [37, 38, 39, 40, 41, 42, 43, 44, 45, 36, 46, 47, 48, 49, 50, 51, 52, 53, 54, 55, 56, 57, 58] (by decide +kernel) (by decide +kernel)
set_option maxRecDepth 20000 in
theorem gJ0_init_db425_J7_copyOfRange_39247 : GoodIn wsJ0_init_db425 (va_wsS RJ0 54 yJ7_copyOfRange_39247 wsJ7_copyOfRange_39247) := goodIn_app (goodIn_of _ (by decide +kernel)) ggJ0_init_db425_J7_copyOfRange_39247
set_option maxRecDepth 20000 in
theorem ggJ0_init_db425_J2_compress_39247 : GoodIn wsJ0_init_db425 wsJ2_compress_39247 := goodIn_r _ [62, 47, 63, 64, 61, 65, 66, 67, 68, 69, 70, 71, 72, 73, 74, 75, 76, 77, 78, 79, 80, 81, 82, 83, 84, 85, 86, 87, 88, 89, 90, 91, 35, 36, 37, 38, 39, 40, 41, 42, 43, 44, 45, 46, 48, 49, 50, 51, 52, 53, 54, 55, 56, 57, 58] (by decide +kernel) (by decide +kernel)
set_option maxRecDepth 20000 in
theorem gJ0_init_db425_J2_compress_39247 : GoodIn wsJ0_init_db425 (va_wsS RJ0 1051 yJ2_compress_39247 wsJ2_compress_39247) := goodIn_app (goodIn_of _ (by decide +kernel)) ggJ0_init_db425_J2_compress_39247
set_option maxRecDepth 20000 in
theorem ggJ0_init_db425_J2_coderFromArrayLen_85cad : GoodIn wsJ0_init_db425 wsJ2_coderFromArrayLen_85cad := goodIn_r _ [94] (by decide +kernel) (by decide +kernel)
set_option maxRecDepth 20000 in
theorem gJ0_init_db425_J2_coderFromArrayLen_85cad : GoodIn wsJ0_init_db425 (va_wsS RJ0 47 yJ2_coderFromArrayLen_85cad wsJ2_coderFromArrayLen_85cad) := goodIn_app (goodIn_of _ (by decide +kernel)) ggJ0_init_db425_J2_coderFromArrayLen_85cad
theorem dJ0_init_db425_0 : decode cJ0_init_db425 0 = .ok (.aload_n 0, 1) := by decide +kernel
theorem dJ0_init_db425_1 : decode cJ0_init_db425 1 = .ok (.invokespecial 1, 3) := by decide +kernel
theorem dJ0_init_db425_4 : decode cJ0_init_db425 4 = .ok (.aload_n 1, 1) := by decide +kernel
theorem dJ0_init_db425_5 : decode cJ0_init_db425 5 = .ok (.invokevirtual 552, 3) := by decide +kernel
theorem dJ0_init_db425_8 : decode cJ0_init_db425 8 = .ok (.astore_n 3, 1) := by decide +kernel
theorem dJ0_init_db425_9 : decode cJ0_init_db425 9 = .ok (.aload_n 1, 1) := by decide +kernel
theorem dJ0_init_db425_10 : decode cJ0_init_db425 10 = .ok (.invokevirtual 549, 3) := by decide +kernel
theorem dJ0_init_db425_13 : decode cJ0_init_db425 13 = .ok (.istore 4, 2) := by decide +kernel
theorem dJ0_init_db425_15 : decode cJ0_init_db425 15 = .ok (.aload_n 1, 1) := by decide +kernel
theorem dJ0_init_db425_16 : decode cJ0_init_db425 16 = .ok (.invokevirtual 1047, 3) := by decide +kernel
theorem dJ0_init_db425_19 : decode cJ0_init_db425 19 = .ok (.ifCond .eq 22, 3) := by decide +kernel
theorem dJ0_init_db425_22 : decode cJ0_init_db425 22 = .ok (.aload_n 0, 1) := by decide +kernel
theorem dJ0_init_db425_23 : decode cJ0_init_db425 23 = .ok (.iconst 0, 1) := by decide +kernel
theorem dJ0_init_db425_24 : decode cJ0_init_db425 24 = .ok (.putfield 15, 3) := by decide +kernel
theorem dJ0_init_db425_27 : decode cJ0_init_db425 27 = .ok (.aload_n 0, 1) := by decide +kernel
theorem dJ0_init_db425_28 : decode cJ0_init_db425 28 = .ok (.aload_n 3, 1) := by decide +kernel
theorem dJ0_init_db425_29 : decode cJ0_init_db425 29 = .ok (.iconst 0, 1) := by decide +kernel
theorem dJ0_init_db425_30 : decode cJ0_init_db425 30 = .ok (.iload 4, 2) := by decide +kernel
theorem dJ0_init_db425_32 : decode cJ0_init_db425 32 = .ok (.invokestatic 54, 3) := by decide +kernel
theorem dJ0_init_db425_35 : decode cJ0_init_db425 35 = .ok (.putfield 9, 3) := by decide +kernel
theorem dJ0_init_db425_38 : decode cJ0_init_db425 38 = .ok (.goto 59, 3) := by decide +kernel
theorem dJ0_init_db425_41 : decode cJ0_init_db425 41 = .ok (.getstatic 38, 3) := by decide +kernel
theorem dJ0_init_db425_44 : decode cJ0_init_db425 44 = .ok (.ifCond .eq 35, 3) := by decide +kernel
theorem dJ0_init_db425_47 : decode cJ0_init_db425 47 = .ok (.aload_n 1, 1) := by decide +kernel
theorem dJ0_init_db425_48 : decode cJ0_init_db425 48 = .ok (.getfield 1048, 3) := by decide +kernel
theorem dJ0_init_db425_51 : decode cJ0_init_db425 51 = .ok (.ifCond .eq 28, 3) := by decide +kernel
theorem dJ0_init_db425_54 : decode cJ0_init_db425 54 = .ok (.aload_n 0, 1) := by decide +kernel
theorem dJ0_init_db425_55 : decode cJ0_init_db425 55 = .ok (.aload_n 3, 1) := by decide +kernel
theorem dJ0_init_db425_56 : decode cJ0_init_db425 56 = .ok (.iconst 0, 1) := by decide +kernel
theorem dJ0_init_db425_57 : decode cJ0_init_db425 57 = .ok (.iload 4, 2) := by decide +kernel
theorem dJ0_init_db425_59 : decode cJ0_init_db425 59 = .ok (.invokestatic 1051, 3) := by decide +kernel
theorem dJ0_init_db425_62 : decode cJ0_init_db425 62 = .ok (.putfield 9, 3) := by decide +kernel
theorem dJ0_init_db425_65 : decode cJ0_init_db425 65 = .ok (.aload_n 0, 1) := by decide +kernel
theorem dJ0_init_db425_66 : decode cJ0_init_db425 66 = .ok (.aload_n 0, 1) := by decide +kernel
theorem dJ0_init_db425_67 : decode cJ0_init_db425 67 = .ok (.getfield 9, 3) := by decide +kernel
theorem dJ0_init_db425_70 : decode cJ0_init_db425 70 = .ok (.iload 4, 2) := by decide +kernel
theorem dJ0_init_db425_72 : decode cJ0_init_db425 72 = .ok (.invokestatic 47, 3) := by decide +kernel
theorem dJ0_init_db425_75 : decode cJ0_init_db425 75 = .ok (.putfield 15, 3) := by decide +kernel
theorem dJ0_init_db425_78 : decode cJ0_init_db425 78 = .ok (.return_, 1) := by decide +kernel
theorem dJ0_init_db425_79 : decode cJ0_init_db425 79 = .ok (.aload_n 0, 1) := by decide +kernel
theorem dJ0_init_db425_80 : decode cJ0_init_db425 80 = .ok (.iconst 1, 1) := by decide +kernel
theorem dJ0_init_db425_81 : decode cJ0_init_db425 81 = .ok (.putfield 15, 3) := by decide +kernel
theorem dJ0_init_db425_84 : decode cJ0_init_db425 84 = .ok (.aload_n 0, 1) := by decide +kernel
theorem dJ0_init_db425_85 : decode cJ0_init_db425 85 = .ok (.aload_n 3, 1) := by decide +kernel
theorem dJ0_init_db425_86 : decode cJ0_init_db425 86 = .ok (.iconst 0, 1) := by decide +kernel
theorem dJ0_init_db425_87 : decode cJ0_init_db425 87 = .ok (.iload 4, 2) := by decide +kernel
theorem dJ0_init_db425_89 : decode cJ0_init_db425 89 = .ok (.iconst 1, 1) := by decide +kernel
theorem dJ0_init_db425_90 : decode cJ0_init_db425 90 = .ok (.ishl, 1) := by decide +kernel
theorem dJ0_init_db425_91 : decode cJ0_init_db425 91 = .ok (.invokestatic 54, 3) := by decide +kernel
theorem dJ0_init_db425_94 : decode cJ0_init_db425 94 = .ok (.putfield 9, 3) := by decide +kernel
theorem dJ0_init_db425_97 : decode cJ0_init_db425 97 = .ok (.return_, 1) := by decide +kernel
theorem dJ0_coder_7d493_0 : decode cJ0_coder_7d493 0 = .ok (.getstatic 38, 3) := by decide +kernel
theorem dJ0_coder_7d493_3 : decode cJ0_coder_7d493 3 = .ok (.ifCond .eq 10, 3) := by decide +kernel
theorem dJ0_coder_7d493_6 : decode cJ0_coder_7d493 6 = .ok (.aload_n 0, 1) := by decide +kernel
theorem dJ0_coder_7d493_7 : decode cJ0_coder_7d493 7 = .ok (.getfield 15, 3) := by decide +kernel
theorem dJ0_coder_7d493_10 : decode cJ0_coder_7d493 10 = .ok (.goto 4, 3) := by decide +kernel
theorem dJ0_coder_7d493_13 : decode cJ0_coder_7d493 13 = .ok (.iconst 1, 1) := by decide +kernel
theorem dJ0_coder_7d493_14 : decode cJ0_coder_7d493 14 = .ok (.ireturn, 1) := by decide +kernel
theorem dJ0_isLatin1_aae02_0 : decode cJ0_isLatin1_aae02 0 = .ok (.getstatic 38, 3) := by decide +kernel
theorem dJ0_isLatin1_aae02_3 : decode cJ0_isLatin1_aae02 3 = .ok (.ifCond .eq 14, 3) := by decide +kernel
theorem dJ0_isLatin1_aae02_6 : decode cJ0_isLatin1_aae02 6 = .ok (.aload_n 0, 1) := by decide +kernel
theorem dJ0_isLatin1_aae02_7 : decode cJ0_isLatin1_aae02 7 = .ok (.getfield 15, 3) := by decide +kernel
theorem dJ0_isLatin1_aae02_10 : decode cJ0_isLatin1_aae02 10 = .ok (.ifCond .ne 7, 3) := by decide +kernel
theorem dJ0_isLatin1_aae02_13 : decode cJ0_isLatin1_aae02 13 = .ok (.iconst 1, 1) := by decide +kernel
theorem dJ0_isLatin1_aae02_14 : decode cJ0_isLatin1_aae02 14 = .ok (.goto 4, 3) := by decide +kernel
theorem dJ0_isLatin1_aae02_17 : decode cJ0_isLatin1_aae02 17 = .ok (.iconst 0, 1) := by decide +kernel
theorem dJ0_isLatin1_aae02_18 : decode cJ0_isLatin1_aae02 18 = .ok (.ireturn, 1) := by decide +kernel
set_option maxRecDepth 20000 in
theorem ggJ0_checkIndex_df160_J3_checkIndex_8e157 : GoodIn wsJ0_checkIndex_df160 wsJ3_checkIndex_8e157 := goodIn_r _ [5] (by decide +kernel) (by decide +kernel)
set_option maxRecDepth 20000 in
theorem gJ0_checkIndex_df160_J3_checkIndex_8e157 : GoodIn wsJ0_checkIndex_df160 (va_wsS RJ0 1059 yJ3_checkIndex_8e157 wsJ3_checkIndex_8e157) := goodIn_app (goodIn_of _ (by decide +kernel)) ggJ0_checkIndex_df160_J3_checkIndex_8e157
theorem dJ0_checkIndex_df160_0 : decode cJ0_checkIndex_df160 0 = .ok (.iload_n 0, 1) := by decide +kernel
theorem dJ0_checkIndex_df160_1 : decode cJ0_checkIndex_df160 1 = .ok (.iload_n 1, 1) := by decide +kernel
theorem dJ0_checkIndex_df160_2 : decode cJ0_checkIndex_df160 2 = .ok (.getstatic 1053, 3) := by decide +kernel
theorem dJ0_checkIndex_df160_5 : decode cJ0_checkIndex_df160 5 = .ok (.invokestatic 1059, 3) := by decide +kernel
theorem dJ0_checkIndex_df160_8 : decode cJ0_checkIndex_df160 8 = .ok (.pop, 1) := by decide +kernel
theorem dJ0_checkIndex_df160_9 : decode cJ0_checkIndex_df160 9 = .ok (.return_, 1) := by decide +kernel
set_option maxRecDepth 20000 in
theorem ggJ0_checkBoundsOffCount_cabcc_J3_checkFromIndexSize_8c36e : GoodIn wsJ0_checkBoundsOffCount_cabcc wsJ3_checkFromIndexSize_8c36e := goodIn_r _ [5] (by decide +kernel) (by decide +kernel)
set_option maxRecDepth 20000 in
theorem gJ0_checkBoundsOffCount_cabcc_J3_checkFromIndexSize_8c36e : GoodIn wsJ0_checkBoundsOffCount_cabcc (va_wsS RJ0 1065 yJ3_checkFromIndexSize_8c36e wsJ3_checkFromIndexSize_8c36e) := goodIn_app (goodIn_of _ (by decide +kernel)) ggJ0_checkBoundsOffCount_cabcc_J3_checkFromIndexSize_8c36e
theorem dJ0_checkBoundsOffCount_cabcc_0 : decode cJ0_checkBoundsOffCount_cabcc 0 = .ok (.iload_n 0, 1) := by decide +kernel
theorem dJ0_checkBoundsOffCount_cabcc_1 : decode cJ0_checkBoundsOffCount_cabcc 1 = .ok (.iload_n 1, 1) := by decide +kernel
theorem dJ0_checkBoundsOffCount_cabcc_2 : decode cJ0_checkBoundsOffCount_cabcc 2 = .ok (.iload_n 2, 1) := by decide +kernel
theorem dJ0_checkBoundsOffCount_cabcc_3 : decode cJ0_checkBoundsOffCount_cabcc 3 = .ok (.getstatic 1053, 3) := by decide +kernel
theorem dJ0_checkBoundsOffCount_cabcc_6 : decode cJ0_checkBoundsOffCount_cabcc 6 = .ok (.invokestatic 1065, 3) := by decide +kernel
theorem dJ0_checkBoundsOffCount_cabcc_9 : decode cJ0_checkBoundsOffCount_cabcc 9 = .ok (.ireturn, 1) := by decide +kernel
set_option maxRecDepth 20000 in
theorem ggJ4_init_da8c8_J5_init_d00df : GoodIn wsJ4_init_da8c8 wsJ5_init_d00df := goodIn_r _ [4, 5, 6, 7, 8, 9, 10, 11, 12, 13, 14, 15, 16, 17, 18, 19, 20, 21, 22, 23] (by decide +kernel) (by decide +kernel)
set_option maxRecDepth 20000 in
theorem gJ4_init_da8c8_J5_init_d00df : GoodIn wsJ4_init_da8c8 (wsJ5_init_d00df) := ggJ4_init_da8c8_J5_init_d00df
theorem dJ4_init_da8c8_0 : decode cJ4_init_da8c8 0 = .ok (.aload_n 0, 1) := by decide +kernel
theorem dJ4_init_da8c8_1 : decode cJ4_init_da8c8 1 = .ok (.bipush 16, 2) := by decide +kernel
theorem dJ4_init_da8c8_3 : decode cJ4_init_da8c8 3 = .ok (.invokespecial 1, 3) := by decide +kernel
theorem dJ4_init_da8c8_6 : decode cJ4_init_da8c8 6 = .ok (.return_, 1) := by decide +kernel
set_option maxRecDepth 20000 in
theorem ggJ4_append_cf468_J5_append_3fe6f : GoodIn wsJ4_append_cf468 wsJ5_append_3fe6f := goodIn_r _ [6, 7, 8, 9, 10, 11, 12, 5, 13, 14, 15, 16, 17, 18, 19, 20, 21, 22, 23, 24, 25, 26, 27, 28, 29, 30, 31, 32, 33, 34, 35, 36, 37, 38, 39, 40, 41, 42, 43, 44, 45, 46, 47, 48, 49, 50, 51, 52, 53, 54, 55, 56, 57, 58, 59, 60, 61, 62, 63, 64, 65, 66, 67, 68, 69, 70, 71, 72, 73, 74, 75, 76, 77, 78, 79, 80, 81, 82, 83, 84, 85, 86, 87, 88, 89, 90, 91, 92, 93, 94, 95, 96, 97, 98, 99, 100, 101, 102, 103, 104, 105, 106, 107, 108, 109, 110, 111, 112, 113, 114, 115, 116] (by decide +kernel) (by decide +kernel)
set_option maxRecDepth 20000 in
theorem gJ4_append_cf468_J5_append_3fe6f_s50 : GoodIn wsJ4_append_cf468 (va_wsSU RJ4 50 yJ5_append_3fe6f wsJ5_append_3fe6f) := goodIn_app (goodIn_of _ (by decide +kernel)) ggJ4_append_cf468_J5_append_3fe6f
theorem dJ4_append_cf468_0 : decode cJ4_append_cf468 0 = .ok (.aload_n 0, 1) := by decide +kernel
theorem dJ4_append_cf468_1 : decode cJ4_append_cf468 1 = .ok (.iload_n 1, 1) := by decide +kernel
theorem dJ4_append_cf468_2 : decode cJ4_append_cf468 2 = .ok (.invokespecial 50, 3) := by decide +kernel
theorem dJ4_append_cf468_5 : decode cJ4_append_cf468 5 = .ok (.pop, 1) := by decide +kernel
theorem dJ4_append_cf468_6 : decode cJ4_append_cf468 6 = .ok (.aload_n 0, 1) := by decide +kernel
theorem dJ4_append_cf468_7 : decode cJ4_append_cf468 7 = .ok (.areturn, 1) := by decide +kernel
set_option maxRecDepth 20000 in
theorem ggJ4_toString_0e30d_J0_init_81219 : GoodIn wsJ4_toString_0e30d wsJ0_init_81219 := goodIn_r _ [6, 7, 8, 3, 9, 10, 11, 12, 13, 14, 15, 16, 17, 18, 19, 20, 21, 22, 23, 24, 25, 26, 27, 28, 29, 30, 31, 32, 33, 34, 35, 36, 37, 38, 39, 40, 41, 42, 43, 44, 45, 46, 47, 48, 49, 50, 51, 52, 53, 54, 55, 56, 57, 58, 59, 60, 61, 62, 63, 64, 65, 66, 67, 68, 69, 70, 71, 72, 73, 74, 75, 76, 77, 78, 79, 80, 81, 82, 83, 84, 85, 86, 87, 88, 89, 90, 91, 92, 93, 94, 95, 96, 97, 98, 99, 100, 101, 102, 103, 104, 105, 106, 107, 108, 109, 110] (by decide +kernel) (by decide +kernel)
set_option maxRecDepth 20000 in
theorem gJ4_toString_0e30d_J0_init_81219 : GoodIn wsJ4_toString_0e30d (wsJ0_init_81219) := ggJ4_toString_0e30d_J0_init_81219
theorem dJ4_toString_0e30d_0 : decode cJ4_toString_0e30d 0 = .ok (.new 18, 3) := by decide +kernel
theorem dJ4_toString_0e30d_3 : decode cJ4_toString_0e30d 3 = .ok (.dup, 1) := by decide +kernel
theorem dJ4_toString_0e30d_4 : decode cJ4_toString_0e30d 4 = .ok (.aload_n 0, 1) := by decide +kernel
theorem dJ4_toString_0e30d_5 : decode cJ4_toString_0e30d 5 = .ok (.invokespecial 137, 3) := by decide +kernel
theorem dJ4_toString_0e30d_8 : decode cJ4_toString_0e30d 8 = .ok (.areturn, 1) := by decide +kernel
set_option maxRecDepth 20000 in
theorem ggJ4_length_8abf5_J5_length_8abf5 : GoodIn wsJ4_length_8abf5 wsJ5_length_8abf5 := goodIn_r _ [6, 7, 8, 9, 10, 11] (by decide +kernel) (by decide +kernel)
set_option maxRecDepth 20000 in
theorem gJ4_length_8abf5_J5_length_8abf5_s343 : GoodIn wsJ4_length_8abf5 (va_wsSU RJ4 343 yJ5_length_8abf5 wsJ5_length_8abf5) := goodIn_app (goodIn_of _ (by decide +kernel)) ggJ4_length_8abf5_J5_length_8abf5
theorem dJ4_length_8abf5_0 : decode cJ4_length_8abf5 0 = .ok (.aload_n 0, 1) := by decide +kernel
theorem dJ4_length_8abf5_1 : decode cJ4_length_8abf5 1 = .ok (.invokespecial 343, 3) := by decide +kernel
theorem dJ4_length_8abf5_4 : decode cJ4_length_8abf5 4 = .ok (.ireturn, 1) := by decide +kernel
set_option maxRecDepth 20000 in
theorem ggJ1_charAt_3b067_J0_checkIndex_df160 : GoodIn wsJ1_charAt_3b067 wsJ0_checkIndex_df160 := goodIn_r _ [4, 5, 6, 7, 8, 9] (by decide +kernel) (by decide +kernel)
set_option maxRecDepth 20000 in
theorem gJ1_charAt_3b067_J0_checkIndex_df160 : GoodIn wsJ1_charAt_3b067 (va_wsS RJ1 9 yJ0_checkIndex_df160 wsJ0_checkIndex_df160) := goodIn_app (goodIn_of _ (by decide +kernel)) ggJ1_charAt_3b067_J0_checkIndex_df160
theorem dJ1_charAt_3b067_0 : decode cJ1_charAt_3b067 0 = .ok (.iload_n 1, 1) := by decide +kernel
theorem dJ1_charAt_3b067_1 : decode cJ1_charAt_3b067 1 = .ok (.aload_n 0, 1) := by decide +kernel
theorem dJ1_charAt_3b067_2 : decode cJ1_charAt_3b067 2 = .ok (.arraylength, 1) := by decide +kernel
theorem dJ1_charAt_3b067_3 : decode cJ1_charAt_3b067 3 = .ok (.invokestatic 9, 3) := by decide +kernel
theorem dJ1_charAt_3b067_6 : decode cJ1_charAt_3b067 6 = .ok (.aload_n 0, 1) := by decide +kernel
theorem dJ1_charAt_3b067_7 : decode cJ1_charAt_3b067 7 = .ok (.iload_n 1, 1) := by decide +kernel
theorem dJ1_charAt_3b067_8 : decode cJ1_charAt_3b067 8 = .ok (.baload, 1) := by decide +kernel
theorem dJ1_charAt_3b067_9 : decode cJ1_charAt_3b067 9 = .ok (.sipush 255, 3) := by decide +kernel
theorem dJ1_charAt_3b067_12 : decode cJ1_charAt_3b067 12 = .ok (.iand, 1) := by decide +kernel
theorem dJ1_charAt_3b067_13 : decode cJ1_charAt_3b067 13 = .ok (.i2c, 1) := by decide +kernel
theorem dJ1_charAt_3b067_14 : decode cJ1_charAt_3b067 14 = .ok (.ireturn, 1) := by decide +kernel
theorem dJ1_canEncode_fc78d_0 : decode cJ1_canEncode_fc78d 0 = .ok (.iload_n 0, 1) := by decide +kernel
theorem dJ1_canEncode_fc78d_1 : decode cJ1_canEncode_fc78d 1 = .ok (.sipush 255, 3) := by decide +kernel
theorem dJ1_canEncode_fc78d_4 : decode cJ1_canEncode_fc78d 4 = .ok (.if_icmp .gt 7, 3) := by decide +kernel
theorem dJ1_canEncode_fc78d_7 : decode cJ1_canEncode_fc78d 7 = .ok (.iconst 1, 1) := by decide +kernel
theorem dJ1_canEncode_fc78d_8 : decode cJ1_canEncode_fc78d 8 = .ok (.goto 4, 3) := by decide +kernel
theorem dJ1_canEncode_fc78d_11 : decode cJ1_canEncode_fc78d 11 = .ok (.iconst 0, 1) := by decide +kernel
theorem dJ1_canEncode_fc78d_12 : decode cJ1_canEncode_fc78d 12 = .ok (.ireturn, 1) := by decide +kernel
set_option maxRecDepth 20000 in
theorem ggJ1_inflate_0e8fd_J2_inflate_0e8fd : GoodIn wsJ1_inflate_0e8fd wsJ2_inflate_0e8fd := goodIn_r _ [4, 5, 6, 3, 7, 8, 9, 10, 11, 12, 13, 14, 15, 16, 17, 18, 19, 20, 21, 22, 23, 24, 25] (by decide +kernel) (by decide +kernel)
set_option maxRecDepth 20000 in
theorem gJ1_inflate_0e8fd_J2_inflate_0e8fd : GoodIn wsJ1_inflate_0e8fd (va_wsS RJ1 240 yJ2_inflate_0e8fd wsJ2_inflate_0e8fd) := goodIn_app (goodIn_of _ (by decide +kernel)) ggJ1_inflate_0e8fd_J2_inflate_0e8fd
theorem dJ1_inflate_0e8fd_0 : decode cJ1_inflate_0e8fd 0 = .ok (.aload_n 0, 1) := by decide +kernel
theorem dJ1_inflate_0e8fd_1 : decode cJ1_inflate_0e8fd 1 = .ok (.iload_n 1, 1) := by decide +kernel
theorem dJ1_inflate_0e8fd_2 : decode cJ1_inflate_0e8fd 2 = .ok (.aload_n 2, 1) := by decide +kernel
theorem dJ1_inflate_0e8fd_3 : decode cJ1_inflate_0e8fd 3 = .ok (.iload_n 3, 1) := by decide +kernel
theorem dJ1_inflate_0e8fd_4 : decode cJ1_inflate_0e8fd 4 = .ok (.iload 4, 2) := by decide +kernel
theorem dJ1_inflate_0e8fd_6 : decode cJ1_inflate_0e8fd 6 = .ok (.invokestatic 240, 3) := by decide +kernel
theorem dJ1_inflate_0e8fd_9 : decode cJ1_inflate_0e8fd 9 = .ok (.return_, 1) := by decide +kernel
set_option maxRecDepth 20000 in
theorem ggJ2_newBytesFor_77867_J2_newBytesLength_0f7a4 : GoodIn wsJ2_newBytesFor_77867 wsJ2_newBytesLength_0f7a4 := goodIn_r _ [5, 6] (by decide +kernel) (by decide +kernel)
set_option maxRecDepth 20000 in
theorem gJ2_newBytesFor_77867_J2_newBytesLength_0f7a4 : GoodIn wsJ2_newBytesFor_77867 (va_wsS RJ2 11 yJ2_newBytesLength_0f7a4 wsJ2_newBytesLength_0f7a4) := goodIn_app (goodIn_of _ (by decide +kernel)) ggJ2_newBytesFor_77867_J2_newBytesLength_0f7a4
theorem dJ2_newBytesFor_77867_0 : decode cJ2_newBytesFor_77867 0 = .ok (.iload_n 0, 1) := by decide +kernel
theorem dJ2_newBytesFor_77867_1 : decode cJ2_newBytesFor_77867 1 = .ok (.invokestatic 11, 3) := by decide +kernel
theorem dJ2_newBytesFor_77867_4 : decode cJ2_newBytesFor_77867 4 = .ok (.newarray .byte, 2) := by decide +kernel
theorem dJ2_newBytesFor_77867_6 : decode cJ2_newBytesFor_77867 6 = .ok (.areturn, 1) := by decide +kernel
theorem dJ2_newBytesLength_0f7a4_0 : decode cJ2_newBytesLength_0f7a4 0 = .ok (.iload_n 0, 1) := by decide +kernel
theorem dJ2_newBytesLength_0f7a4_1 : decode cJ2_newBytesLength_0f7a4 1 = .ok (.ifCond .ge 11, 3) := by decide +kernel
theorem dJ2_newBytesLength_0f7a4_4 : decode cJ2_newBytesLength_0f7a4 4 = .ok (.new 17, 3) := by decide +kernel
theorem dJ2_newBytesLength_0f7a4_7 : decode cJ2_newBytesLength_0f7a4 7 = .ok (.dup, 1) := by decide +kernel
theorem dJ2_newBytesLength_0f7a4_8 : decode cJ2_newBytesLength_0f7a4 8 = .ok (.invokespecial 19, 3) := by decide +kernel
theorem dJ2_newBytesLength_0f7a4_11 : decode cJ2_newBytesLength_0f7a4 11 = .ok (.athrow, 1) := by decide +kernel
theorem dJ2_newBytesLength_0f7a4_12 : decode cJ2_newBytesLength_0f7a4 12 = .ok (.iload_n 0, 1) := by decide +kernel
theorem dJ2_newBytesLength_0f7a4_13 : decode cJ2_newBytesLength_0f7a4 13 = .ok (.ldc 20, 2) := by decide +kernel
theorem dJ2_newBytesLength_0f7a4_15 : decode cJ2_newBytesLength_0f7a4 15 = .ok (.if_icmp .lt 40, 3) := by decide +kernel
theorem dJ2_newBytesLength_0f7a4_18 : decode cJ2_newBytesLength_0f7a4 18 = .ok (.new 21, 3) := by decide +kernel
theorem dJ2_newBytesLength_0f7a4_21 : decode cJ2_newBytesLength_0f7a4 21 = .ok (.dup, 1) := by decide +kernel
theorem dJ2_newBytesLength_0f7a4_22 : decode cJ2_newBytesLength_0f7a4 22 = .ok (.new 23, 3) := by decide +kernel
theorem dJ2_newBytesLength_0f7a4_25 : decode cJ2_newBytesLength_0f7a4 25 = .ok (.dup, 1) := by decide +kernel
theorem dJ2_newBytesLength_0f7a4_26 : decode cJ2_newBytesLength_0f7a4 26 = .ok (.invokespecial 25, 3) := by decide +kernel
theorem dJ2_newBytesLength_0f7a4_29 : decode cJ2_newBytesLength_0f7a4 29 = .ok (.ldc 26, 2) := by decide +kernel
theorem dJ2_newBytesLength_0f7a4_31 : decode cJ2_newBytesLength_0f7a4 31 = .ok (.invokevirtual 28, 3) := by decide +kernel
theorem dJ2_newBytesLength_0f7a4_34 : decode cJ2_newBytesLength_0f7a4 34 = .ok (.iload_n 0, 1) := by decide +kernel
theorem dJ2_newBytesLength_0f7a4_35 : decode cJ2_newBytesLength_0f7a4 35 = .ok (.invokevirtual 32, 3) := by decide +kernel
theorem dJ2_newBytesLength_0f7a4_38 : decode cJ2_newBytesLength_0f7a4 38 = .ok (.ldc 35, 2) := by decide +kernel
theorem dJ2_newBytesLength_0f7a4_40 : decode cJ2_newBytesLength_0f7a4 40 = .ok (.invokevirtual 28, 3) := by decide +kernel
theorem dJ2_newBytesLength_0f7a4_43 : decode cJ2_newBytesLength_0f7a4 43 = .ok (.ldc 20, 2) := by decide +kernel
theorem dJ2_newBytesLength_0f7a4_45 : decode cJ2_newBytesLength_0f7a4 45 = .ok (.invokevirtual 32, 3) := by decide +kernel
theorem dJ2_newBytesLength_0f7a4_48 : decode cJ2_newBytesLength_0f7a4 48 = .ok (.invokevirtual 37, 3) := by decide +kernel
theorem dJ2_newBytesLength_0f7a4_51 : decode cJ2_newBytesLength_0f7a4 51 = .ok (.invokespecial 41, 3) := by decide +kernel
theorem dJ2_newBytesLength_0f7a4_54 : decode cJ2_newBytesLength_0f7a4 54 = .ok (.athrow, 1) := by decide +kernel
theorem dJ2_newBytesLength_0f7a4_55 : decode cJ2_newBytesLength_0f7a4 55 = .ok (.iload_n 0, 1) := by decide +kernel
theorem dJ2_newBytesLength_0f7a4_56 : decode cJ2_newBytesLength_0f7a4 56 = .ok (.iconst 1, 1) := by decide +kernel
theorem dJ2_newBytesLength_0f7a4_57 : decode cJ2_newBytesLength_0f7a4 57 = .ok (.ishl, 1) := by decide +kernel
theorem dJ2_newBytesLength_0f7a4_58 : decode cJ2_newBytesLength_0f7a4 58 = .ok (.ireturn, 1) := by decide +kernel
set_option maxRecDepth 20000 in
theorem ggJ2_putChar_b72d1_J2_length_9d52b : GoodIn wsJ2_putChar_b72d1 wsJ2_length_9d52b := goodIn_r _ [7] (by decide +kernel) (by decide +kernel)
set_option maxRecDepth 20000 in
theorem gJ2_putChar_b72d1_J2_length_9d52b : GoodIn wsJ2_putChar_b72d1 (va_wsS RJ2 48 yJ2_length_9d52b wsJ2_length_9d52b) := goodIn_app (goodIn_of _ (by decide +kernel)) ggJ2_putChar_b72d1_J2_length_9d52b
theorem dJ2_putChar_b72d1_0 : decode cJ2_putChar_b72d1 0 = .ok (.getstatic 44, 3) := by decide +kernel
theorem dJ2_putChar_b72d1_3 : decode cJ2_putChar_b72d1 3 = .ok (.ifCond .ne 25, 3) := by decide +kernel
theorem dJ2_putChar_b72d1_6 : decode cJ2_putChar_b72d1 6 = .ok (.iload_n 1, 1) := by decide +kernel
theorem dJ2_putChar_b72d1_7 : decode cJ2_putChar_b72d1 7 = .ok (.ifCond .lt 11, 3) := by decide +kernel
theorem dJ2_putChar_b72d1_10 : decode cJ2_putChar_b72d1 10 = .ok (.iload_n 1, 1) := by decide +kernel
theorem dJ2_putChar_b72d1_11 : decode cJ2_putChar_b72d1 11 = .ok (.aload_n 0, 1) := by decide +kernel
theorem dJ2_putChar_b72d1_12 : decode cJ2_putChar_b72d1 12 = .ok (.invokestatic 48, 3) := by decide +kernel
theorem dJ2_putChar_b72d1_15 : decode cJ2_putChar_b72d1 15 = .ok (.if_icmp .lt 13, 3) := by decide +kernel
theorem dJ2_putChar_b72d1_18 : decode cJ2_putChar_b72d1 18 = .ok (.new 52, 3) := by decide +kernel
theorem dJ2_putChar_b72d1_21 : decode cJ2_putChar_b72d1 21 = .ok (.dup, 1) := by decide +kernel
theorem dJ2_putChar_b72d1_22 : decode cJ2_putChar_b72d1 22 = .ok (.ldc 54, 2) := by decide +kernel
theorem dJ2_putChar_b72d1_24 : decode cJ2_putChar_b72d1 24 = .ok (.invokespecial 56, 3) := by decide +kernel
theorem dJ2_putChar_b72d1_27 : decode cJ2_putChar_b72d1 27 = .ok (.athrow, 1) := by decide +kernel
theorem dJ2_putChar_b72d1_28 : decode cJ2_putChar_b72d1 28 = .ok (.iload_n 1, 1) := by decide +kernel
theorem dJ2_putChar_b72d1_29 : decode cJ2_putChar_b72d1 29 = .ok (.iconst 1, 1) := by decide +kernel
theorem dJ2_putChar_b72d1_30 : decode cJ2_putChar_b72d1 30 = .ok (.ishl, 1) := by decide +kernel
theorem dJ2_putChar_b72d1_31 : decode cJ2_putChar_b72d1 31 = .ok (.istore_n 1, 1) := by decide +kernel
theorem dJ2_putChar_b72d1_32 : decode cJ2_putChar_b72d1 32 = .ok (.aload_n 0, 1) := by decide +kernel
theorem dJ2_putChar_b72d1_33 : decode cJ2_putChar_b72d1 33 = .ok (.iload_n 1, 1) := by decide +kernel
theorem dJ2_putChar_b72d1_34 : decode cJ2_putChar_b72d1 34 = .ok (.iinc 1 1, 3) := by decide +kernel
theorem dJ2_putChar_b72d1_37 : decode cJ2_putChar_b72d1 37 = .ok (.iload_n 2, 1) := by decide +kernel
theorem dJ2_putChar_b72d1_38 : decode cJ2_putChar_b72d1 38 = .ok (.getstatic 59, 3) := by decide +kernel
theorem dJ2_putChar_b72d1_41 : decode cJ2_putChar_b72d1 41 = .ok (.ishr, 1) := by decide +kernel
theorem dJ2_putChar_b72d1_42 : decode cJ2_putChar_b72d1 42 = .ok (.i2b, 1) := by decide +kernel
theorem dJ2_putChar_b72d1_43 : decode cJ2_putChar_b72d1 43 = .ok (.bastore, 1) := by decide +kernel
theorem dJ2_putChar_b72d1_44 : decode cJ2_putChar_b72d1 44 = .ok (.aload_n 0, 1) := by decide +kernel
theorem dJ2_putChar_b72d1_45 : decode cJ2_putChar_b72d1 45 = .ok (.iload_n 1, 1) := by decide +kernel
theorem dJ2_putChar_b72d1_46 : decode cJ2_putChar_b72d1 46 = .ok (.iload_n 2, 1) := by decide +kernel
theorem dJ2_putChar_b72d1_47 : decode cJ2_putChar_b72d1 47 = .ok (.getstatic 63, 3) := by decide +kernel
theorem dJ2_putChar_b72d1_50 : decode cJ2_putChar_b72d1 50 = .ok (.ishr, 1) := by decide +kernel
theorem dJ2_putChar_b72d1_51 : decode cJ2_putChar_b72d1 51 = .ok (.i2b, 1) := by decide +kernel
theorem dJ2_putChar_b72d1_52 : decode cJ2_putChar_b72d1 52 = .ok (.bastore, 1) := by decide +kernel
theorem dJ2_putChar_b72d1_53 : decode cJ2_putChar_b72d1 53 = .ok (.return_, 1) := by decide +kernel
set_option maxRecDepth 20000 in
theorem ggJ2_getChar_3b067_J2_length_9d52b : GoodIn wsJ2_getChar_3b067 wsJ2_length_9d52b := goodIn_r _ [7] (by decide +kernel) (by decide +kernel)
set_option maxRecDepth 20000 in
theorem gJ2_getChar_3b067_J2_length_9d52b : GoodIn wsJ2_getChar_3b067 (va_wsS RJ2 48 yJ2_length_9d52b wsJ2_length_9d52b) := goodIn_app (goodIn_of _ (by decide +kernel)) ggJ2_getChar_3b067_J2_length_9d52b
theorem dJ2_getChar_3b067_0 : decode cJ2_getChar_3b067 0 = .ok (.getstatic 44, 3) := by decide +kernel
theorem dJ2_getChar_3b067_3 : decode cJ2_getChar_3b067 3 = .ok (.ifCond .ne 25, 3) := by decide +kernel
theorem dJ2_getChar_3b067_6 : decode cJ2_getChar_3b067 6 = .ok (.iload_n 1, 1) := by decide +kernel
theorem dJ2_getChar_3b067_7 : decode cJ2_getChar_3b067 7 = .ok (.ifCond .lt 11, 3) := by decide +kernel
theorem dJ2_getChar_3b067_10 : decode cJ2_getChar_3b067 10 = .ok (.iload_n 1, 1) := by decide +kernel
theorem dJ2_getChar_3b067_11 : decode cJ2_getChar_3b067 11 = .ok (.aload_n 0, 1) := by decide +kernel
theorem dJ2_getChar_3b067_12 : decode cJ2_getChar_3b067 12 = .ok (.invokestatic 48, 3) := by decide +kernel
theorem dJ2_getChar_3b067_15 : decode cJ2_getChar_3b067 15 = .ok (.if_icmp .lt 13, 3) := by decide +kernel
theorem dJ2_getChar_3b067_18 : decode cJ2_getChar_3b067 18 = .ok (.new 52, 3) := by decide +kernel
theorem dJ2_getChar_3b067_21 : decode cJ2_getChar_3b067 21 = .ok (.dup, 1) := by decide +kernel
theorem dJ2_getChar_3b067_22 : decode cJ2_getChar_3b067 22 = .ok (.ldc 54, 2) := by decide +kernel
theorem dJ2_getChar_3b067_24 : decode cJ2_getChar_3b067 24 = .ok (.invokespecial 56, 3) := by decide +kernel
theorem dJ2_getChar_3b067_27 : decode cJ2_getChar_3b067 27 = .ok (.athrow, 1) := by decide +kernel
theorem dJ2_getChar_3b067_28 : decode cJ2_getChar_3b067 28 = .ok (.iload_n 1, 1) := by decide +kernel
theorem dJ2_getChar_3b067_29 : decode cJ2_getChar_3b067 29 = .ok (.iconst 1, 1) := by decide +kernel
theorem dJ2_getChar_3b067_30 : decode cJ2_getChar_3b067 30 = .ok (.ishl, 1) := by decide +kernel
theorem dJ2_getChar_3b067_31 : decode cJ2_getChar_3b067 31 = .ok (.istore_n 1, 1) := by decide +kernel
theorem dJ2_getChar_3b067_32 : decode cJ2_getChar_3b067 32 = .ok (.aload_n 0, 1) := by decide +kernel
theorem dJ2_getChar_3b067_33 : decode cJ2_getChar_3b067 33 = .ok (.iload_n 1, 1) := by decide +kernel
theorem dJ2_getChar_3b067_34 : decode cJ2_getChar_3b067 34 = .ok (.iinc 1 1, 3) := by decide +kernel
theorem dJ2_getChar_3b067_37 : decode cJ2_getChar_3b067 37 = .ok (.baload, 1) := by decide +kernel
theorem dJ2_getChar_3b067_38 : decode cJ2_getChar_3b067 38 = .ok (.sipush 255, 3) := by decide +kernel
theorem dJ2_getChar_3b067_41 : decode cJ2_getChar_3b067 41 = .ok (.iand, 1) := by decide +kernel
theorem dJ2_getChar_3b067_42 : decode cJ2_getChar_3b067 42 = .ok (.getstatic 59, 3) := by decide +kernel
theorem dJ2_getChar_3b067_45 : decode cJ2_getChar_3b067 45 = .ok (.ishl, 1) := by decide +kernel
theorem dJ2_getChar_3b067_46 : decode cJ2_getChar_3b067 46 = .ok (.aload_n 0, 1) := by decide +kernel
theorem dJ2_getChar_3b067_47 : decode cJ2_getChar_3b067 47 = .ok (.iload_n 1, 1) := by decide +kernel
theorem dJ2_getChar_3b067_48 : decode cJ2_getChar_3b067 48 = .ok (.baload, 1) := by decide +kernel
theorem dJ2_getChar_3b067_49 : decode cJ2_getChar_3b067 49 = .ok (.sipush 255, 3) := by decide +kernel
theorem dJ2_getChar_3b067_52 : decode cJ2_getChar_3b067 52 = .ok (.iand, 1) := by decide +kernel
theorem dJ2_getChar_3b067_53 : decode cJ2_getChar_3b067 53 = .ok (.getstatic 63, 3) := by decide +kernel
theorem dJ2_getChar_3b067_56 : decode cJ2_getChar_3b067 56 = .ok (.ishl, 1) := by decide +kernel
theorem dJ2_getChar_3b067_57 : decode cJ2_getChar_3b067 57 = .ok (.ior, 1) := by decide +kernel
theorem dJ2_getChar_3b067_58 : decode cJ2_getChar_3b067 58 = .ok (.i2c, 1) := by decide +kernel
theorem dJ2_getChar_3b067_59 : decode cJ2_getChar_3b067 59 = .ok (.ireturn, 1) := by decide +kernel
theorem dJ2_length_9d52b_0 : decode cJ2_length_9d52b 0 = .ok (.aload_n 0, 1) := by decide +kernel
theorem dJ2_length_9d52b_1 : decode cJ2_length_9d52b 1 = .ok (.arraylength, 1) := by decide +kernel
theorem dJ2_length_9d52b_2 : decode cJ2_length_9d52b 2 = .ok (.iconst 1, 1) := by decide +kernel
theorem dJ2_length_9d52b_3 : decode cJ2_length_9d52b 3 = .ok (.ishr, 1) := by decide +kernel
theorem dJ2_length_9d52b_4 : decode cJ2_length_9d52b 4 = .ok (.ireturn, 1) := by decide +kernel
theorem dJ2_coderFromArrayLen_85cad_0 : decode cJ2_coderFromArrayLen_85cad 0 = .ok (.iload_n 1, 1) := by decide +kernel
theorem dJ2_coderFromArrayLen_85cad_1 : decode cJ2_coderFromArrayLen_85cad 1 = .ok (.aload_n 0, 1) := by decide +kernel
theorem dJ2_coderFromArrayLen_85cad_2 : decode cJ2_coderFromArrayLen_85cad 2 = .ok (.arraylength, 1) := by decide +kernel
theorem dJ2_coderFromArrayLen_85cad_3 : decode cJ2_coderFromArrayLen_85cad 3 = .ok (.isub, 1) := by decide +kernel
theorem dJ2_coderFromArrayLen_85cad_4 : decode cJ2_coderFromArrayLen_85cad 4 = .ok (.bipush 31, 2) := by decide +kernel
theorem dJ2_coderFromArrayLen_85cad_6 : decode cJ2_coderFromArrayLen_85cad 6 = .ok (.iushr, 1) := by decide +kernel
theorem dJ2_coderFromArrayLen_85cad_7 : decode cJ2_coderFromArrayLen_85cad 7 = .ok (.i2b, 1) := by decide +kernel
theorem dJ2_coderFromArrayLen_85cad_8 : decode cJ2_coderFromArrayLen_85cad 8 = .ok (.ireturn, 1) := by decide +kernel
set_option maxRecDepth 20000 in
theorem ggJ2_compress_39247_J2_compress_5af95 : GoodIn wsJ2_compress_39247 wsJ2_compress_5af95 := goodIn_r _ [5, 6, 7, 4, 8, 9, 10, 11, 12, 13, 14, 15, 16, 17, 18, 19, 20, 21, 22, 23, 24, 25, 26] (by decide +kernel) (by decide +kernel)
set_option maxRecDepth 20000 in
theorem gJ2_compress_39247_J2_compress_5af95 : GoodIn wsJ2_compress_39247 (va_wsS RJ2 123 yJ2_compress_5af95 wsJ2_compress_5af95) := goodIn_app (goodIn_of _ (by decide +kernel)) ggJ2_compress_39247_J2_compress_5af95
set_option maxRecDepth 20000 in
theorem ggJ2_compress_39247_J2_newBytesLength_0f7a4 : GoodIn wsJ2_compress_39247 wsJ2_newBytesLength_0f7a4 := goodIn_r _ [29, 30] (by decide +kernel) (by decide +kernel)
set_option maxRecDepth 20000 in
theorem gJ2_compress_39247_J2_newBytesLength_0f7a4 : GoodIn wsJ2_compress_39247 (va_wsS RJ2 11 yJ2_newBytesLength_0f7a4 wsJ2_newBytesLength_0f7a4) := goodIn_app (goodIn_of _ (by decide +kernel)) ggJ2_compress_39247_J2_newBytesLength_0f7a4
set_option maxRecDepth 20000 in
theorem ggJ2_compress_39247_J7_copyOfRange_39247 : GoodIn wsJ2_compress_39247 wsJ7_copyOfRange_39247 := goodIn_r _ [34, 35, 36, 37, 38, 39, 40, 41, 42, 33, 43, 1, 44, 45, 46, 47, 48, 49, 50, 51, 52, 53, 54] (by decide +kernel) (by decide +kernel)
set_option maxRecDepth 20000 in
theorem gJ2_compress_39247_J7_copyOfRange_39247 : GoodIn wsJ2_compress_39247 (va_wsS RJ2 126 yJ7_copyOfRange_39247 wsJ7_copyOfRange_39247) := goodIn_app (goodIn_of _ (by decide +kernel)) ggJ2_compress_39247_J7_copyOfRange_39247
set_option maxRecDepth 20000 in
theorem ggJ2_compress_39247_J2_getChar_3b067 : GoodIn wsJ2_compress_39247 wsJ2_getChar_3b067 := goodIn_r _ [23, 24, 25, 26, 9, 10, 4, 11] (by decide +kernel) (by decide +kernel)
set_option maxRecDepth 20000 in
theorem gJ2_compress_39247_J2_getChar_3b067 : GoodIn wsJ2_compress_39247 (va_wsS RJ2 71 yJ2_getChar_3b067 wsJ2_getChar_3b067) := goodIn_app (goodIn_of _ (by decide +kernel)) ggJ2_compress_39247_J2_getChar_3b067
theorem dJ2_compress_39247_0 : decode cJ2_compress_39247 0 = .ok (.iload_n 2, 1) := by decide +kernel
theorem dJ2_compress_39247_1 : decode cJ2_compress_39247 1 = .ok (.newarray .byte, 2) := by decide +kernel
theorem dJ2_compress_39247_3 : decode cJ2_compress_39247 3 = .ok (.astore_n 3, 1) := by decide +kernel
theorem dJ2_compress_39247_4 : decode cJ2_compress_39247 4 = .ok (.aload_n 0, 1) := by decide +kernel
theorem dJ2_compress_39247_5 : decode cJ2_compress_39247 5 = .ok (.iload_n 1, 1) := by decide +kernel
theorem dJ2_compress_39247_6 : decode cJ2_compress_39247 6 = .ok (.aload_n 3, 1) := by decide +kernel
theorem dJ2_compress_39247_7 : decode cJ2_compress_39247 7 = .ok (.iconst 0, 1) := by decide +kernel
theorem dJ2_compress_39247_8 : decode cJ2_compress_39247 8 = .ok (.iload_n 2, 1) := by decide +kernel
theorem dJ2_compress_39247_9 : decode cJ2_compress_39247 9 = .ok (.invokestatic 123, 3) := by decide +kernel
theorem dJ2_compress_39247_12 : decode cJ2_compress_39247 12 = .ok (.istore 4, 2) := by decide +kernel
theorem dJ2_compress_39247_14 : decode cJ2_compress_39247 14 = .ok (.iload 4, 2) := by decide +kernel
theorem dJ2_compress_39247_16 : decode cJ2_compress_39247 16 = .ok (.iload_n 2, 1) := by decide +kernel
theorem dJ2_compress_39247_17 : decode cJ2_compress_39247 17 = .ok (.if_icmp .eq 47, 3) := by decide +kernel
theorem dJ2_compress_39247_20 : decode cJ2_compress_39247 20 = .ok (.aload_n 0, 1) := by decide +kernel
theorem dJ2_compress_39247_21 : decode cJ2_compress_39247 21 = .ok (.iload_n 1, 1) := by decide +kernel
theorem dJ2_compress_39247_22 : decode cJ2_compress_39247 22 = .ok (.iconst 1, 1) := by decide +kernel
theorem dJ2_compress_39247_23 : decode cJ2_compress_39247 23 = .ok (.ishl, 1) := by decide +kernel
theorem dJ2_compress_39247_24 : decode cJ2_compress_39247 24 = .ok (.iload_n 1, 1) := by decide +kernel
theorem dJ2_compress_39247_25 : decode cJ2_compress_39247 25 = .ok (.iload_n 2, 1) := by decide +kernel
theorem dJ2_compress_39247_26 : decode cJ2_compress_39247 26 = .ok (.iadd, 1) := by decide +kernel
theorem dJ2_compress_39247_27 : decode cJ2_compress_39247 27 = .ok (.invokestatic 11, 3) := by decide +kernel
theorem dJ2_compress_39247_30 : decode cJ2_compress_39247 30 = .ok (.invokestatic 126, 3) := by decide +kernel
theorem dJ2_compress_39247_33 : decode cJ2_compress_39247 33 = .ok (.astore 5, 2) := by decide +kernel
theorem dJ2_compress_39247_35 : decode cJ2_compress_39247 35 = .ok (.aload 5, 2) := by decide +kernel
theorem dJ2_compress_39247_37 : decode cJ2_compress_39247 37 = .ok (.iload 4, 2) := by decide +kernel
theorem dJ2_compress_39247_39 : decode cJ2_compress_39247 39 = .ok (.invokestatic 71, 3) := by decide +kernel
theorem dJ2_compress_39247_42 : decode cJ2_compress_39247 42 = .ok (.sipush 255, 3) := by decide +kernel
theorem dJ2_compress_39247_45 : decode cJ2_compress_39247 45 = .ok (.if_icmp .gt 16, 3) := by decide +kernel
theorem dJ2_compress_39247_48 : decode cJ2_compress_39247 48 = .ok (.aload 5, 2) := by decide +kernel
theorem dJ2_compress_39247_50 : decode cJ2_compress_39247 50 = .ok (.iconst 0, 1) := by decide +kernel
theorem dJ2_compress_39247_51 : decode cJ2_compress_39247 51 = .ok (.aload_n 3, 1) := by decide +kernel
theorem dJ2_compress_39247_52 : decode cJ2_compress_39247 52 = .ok (.iconst 0, 1) := by decide +kernel
theorem dJ2_compress_39247_53 : decode cJ2_compress_39247 53 = .ok (.iload_n 2, 1) := by decide +kernel
theorem dJ2_compress_39247_54 : decode cJ2_compress_39247 54 = .ok (.invokestatic 123, 3) := by decide +kernel
theorem dJ2_compress_39247_57 : decode cJ2_compress_39247 57 = .ok (.iload_n 2, 1) := by decide +kernel
theorem dJ2_compress_39247_58 : decode cJ2_compress_39247 58 = .ok (.if_icmp .eq 6, 3) := by decide +kernel
theorem dJ2_compress_39247_61 : decode cJ2_compress_39247 61 = .ok (.aload 5, 2) := by decide +kernel
theorem dJ2_compress_39247_63 : decode cJ2_compress_39247 63 = .ok (.areturn, 1) := by decide +kernel
theorem dJ2_compress_39247_64 : decode cJ2_compress_39247 64 = .ok (.aload_n 3, 1) := by decide +kernel
theorem dJ2_compress_39247_65 : decode cJ2_compress_39247 65 = .ok (.areturn, 1) := by decide +kernel
set_option maxRecDepth 20000 in
theorem ggJ2_compress_5af95_J2_checkBoundsOffCount_d044e : GoodIn wsJ2_compress_5af95 wsJ2_checkBoundsOffCount_d044e := goodIn_r _ [4, 5, 6, 3, 7, 8, 9, 10, 11, 12, 13, 14, 15, 16] (by decide +kernel) (by decide +kernel)
set_option maxRecDepth 20000 in
theorem gJ2_compress_5af95_J2_checkBoundsOffCount_d044e : GoodIn wsJ2_compress_5af95 (va_wsS RJ2 173 yJ2_checkBoundsOffCount_d044e wsJ2_checkBoundsOffCount_d044e) := goodIn_app (goodIn_of _ (by decide +kernel)) ggJ2_compress_5af95_J2_checkBoundsOffCount_d044e
set_option maxRecDepth 20000 in
theorem ggJ2_compress_5af95_J2_getChar_3b067 : GoodIn wsJ2_compress_5af95 wsJ2_getChar_3b067 := goodIn_r _ [19, 20, 21, 22, 5, 6, 3, 7] (by decide +kernel) (by decide +kernel)
set_option maxRecDepth 20000 in
theorem gJ2_compress_5af95_J2_getChar_3b067 : GoodIn wsJ2_compress_5af95 (va_wsS RJ2 71 yJ2_getChar_3b067 wsJ2_getChar_3b067) := goodIn_app (goodIn_of _ (by decide +kernel)) ggJ2_compress_5af95_J2_getChar_3b067
theorem dJ2_compress_5af95_0 : decode cJ2_compress_5af95 0 = .ok (.iload_n 1, 1) := by decide +kernel
theorem dJ2_compress_5af95_1 : decode cJ2_compress_5af95 1 = .ok (.iload 4, 2) := by decide +kernel
theorem dJ2_compress_5af95_3 : decode cJ2_compress_5af95 3 = .ok (.aload_n 0, 1) := by decide +kernel
theorem dJ2_compress_5af95_4 : decode cJ2_compress_5af95 4 = .ok (.invokestatic 173, 3) := by decide +kernel
theorem dJ2_compress_5af95_7 : decode cJ2_compress_5af95 7 = .ok (.iconst 0, 1) := by decide +kernel
theorem dJ2_compress_5af95_8 : decode cJ2_compress_5af95 8 = .ok (.istore 5, 2) := by decide +kernel
theorem dJ2_compress_5af95_10 : decode cJ2_compress_5af95 10 = .ok (.iload 5, 2) := by decide +kernel
theorem dJ2_compress_5af95_12 : decode cJ2_compress_5af95 12 = .ok (.iload 4, 2) := by decide +kernel
theorem dJ2_compress_5af95_14 : decode cJ2_compress_5af95 14 = .ok (.if_icmp .ge 39, 3) := by decide +kernel
theorem dJ2_compress_5af95_17 : decode cJ2_compress_5af95 17 = .ok (.aload_n 0, 1) := by decide +kernel
theorem dJ2_compress_5af95_18 : decode cJ2_compress_5af95 18 = .ok (.iload_n 1, 1) := by decide +kernel
theorem dJ2_compress_5af95_19 : decode cJ2_compress_5af95 19 = .ok (.invokestatic 71, 3) := by decide +kernel
theorem dJ2_compress_5af95_22 : decode cJ2_compress_5af95 22 = .ok (.istore 6, 2) := by decide +kernel
theorem dJ2_compress_5af95_24 : decode cJ2_compress_5af95 24 = .ok (.iload 6, 2) := by decide +kernel
theorem dJ2_compress_5af95_26 : decode cJ2_compress_5af95 26 = .ok (.sipush 255, 3) := by decide +kernel
theorem dJ2_compress_5af95_29 : decode cJ2_compress_5af95 29 = .ok (.if_icmp .le 6, 3) := by decide +kernel
theorem dJ2_compress_5af95_32 : decode cJ2_compress_5af95 32 = .ok (.iload 5, 2) := by decide +kernel
theorem dJ2_compress_5af95_34 : decode cJ2_compress_5af95 34 = .ok (.ireturn, 1) := by decide +kernel
theorem dJ2_compress_5af95_35 : decode cJ2_compress_5af95 35 = .ok (.aload_n 2, 1) := by decide +kernel
theorem dJ2_compress_5af95_36 : decode cJ2_compress_5af95 36 = .ok (.iload_n 3, 1) := by decide +kernel
theorem dJ2_compress_5af95_37 : decode cJ2_compress_5af95 37 = .ok (.iload 6, 2) := by decide +kernel
theorem dJ2_compress_5af95_39 : decode cJ2_compress_5af95 39 = .ok (.i2b, 1) := by decide +kernel
theorem dJ2_compress_5af95_40 : decode cJ2_compress_5af95 40 = .ok (.bastore, 1) := by decide +kernel
theorem dJ2_compress_5af95_41 : decode cJ2_compress_5af95 41 = .ok (.iinc 1 1, 3) := by decide +kernel
theorem dJ2_compress_5af95_44 : decode cJ2_compress_5af95 44 = .ok (.iinc 3 1, 3) := by decide +kernel
theorem dJ2_compress_5af95_47 : decode cJ2_compress_5af95 47 = .ok (.iinc 5 1, 3) := by decide +kernel
theorem dJ2_compress_5af95_50 : decode cJ2_compress_5af95 50 = .ok (.goto (-40), 3) := by decide +kernel
theorem dJ2_compress_5af95_53 : decode cJ2_compress_5af95 53 = .ok (.iload 4, 2) := by decide +kernel
theorem dJ2_compress_5af95_55 : decode cJ2_compress_5af95 55 = .ok (.ireturn, 1) := by decide +kernel
set_option maxRecDepth 20000 in
theorem ggJ2_putCharSB_b72d1_J2_checkIndex_2214a : GoodIn wsJ2_putCharSB_b72d1 wsJ2_checkIndex_2214a := goodIn_r _ [4, 5, 6, 3, 7, 8, 9, 10, 11, 12, 13, 14, 15, 16] (by decide +kernel) (by decide +kernel)
set_option maxRecDepth 20000 in
theorem gJ2_putCharSB_b72d1_J2_checkIndex_2214a : GoodIn wsJ2_putCharSB_b72d1 (va_wsS RJ2 67 yJ2_checkIndex_2214a wsJ2_checkIndex_2214a) := goodIn_app (goodIn_of _ (by decide +kernel)) ggJ2_putCharSB_b72d1_J2_checkIndex_2214a
set_option maxRecDepth 20000 in
theorem ggJ2_putCharSB_b72d1_J2_putChar_b72d1 : GoodIn wsJ2_putCharSB_b72d1 wsJ2_putChar_b72d1 := goodIn_r _ [19, 20, 21, 22, 5, 6, 3, 7] (by decide +kernel) (by decide +kernel)
set_option maxRecDepth 20000 in
theorem gJ2_putCharSB_b72d1_J2_putChar_b72d1 : GoodIn wsJ2_putCharSB_b72d1 (va_wsS RJ2 111 yJ2_putChar_b72d1 wsJ2_putChar_b72d1) := goodIn_app (goodIn_of _ (by decide +kernel)) ggJ2_putCharSB_b72d1_J2_putChar_b72d1
theorem dJ2_putCharSB_b72d1_0 : decode cJ2_putCharSB_b72d1 0 = .ok (.iload_n 1, 1) := by decide +kernel
theorem dJ2_putCharSB_b72d1_1 : decode cJ2_putCharSB_b72d1 1 = .ok (.aload_n 0, 1) := by decide +kernel
theorem dJ2_putCharSB_b72d1_2 : decode cJ2_putCharSB_b72d1 2 = .ok (.invokestatic 67, 3) := by decide +kernel
theorem dJ2_putCharSB_b72d1_5 : decode cJ2_putCharSB_b72d1 5 = .ok (.aload_n 0, 1) := by decide +kernel
theorem dJ2_putCharSB_b72d1_6 : decode cJ2_putCharSB_b72d1 6 = .ok (.iload_n 1, 1) := by decide +kernel
theorem dJ2_putCharSB_b72d1_7 : decode cJ2_putCharSB_b72d1 7 = .ok (.iload_n 2, 1) := by decide +kernel
theorem dJ2_putCharSB_b72d1_8 : decode cJ2_putCharSB_b72d1 8 = .ok (.invokestatic 111, 3) := by decide +kernel
theorem dJ2_putCharSB_b72d1_11 : decode cJ2_putCharSB_b72d1 11 = .ok (.return_, 1) := by decide +kernel
set_option maxRecDepth 20000 in
theorem ggJ2_charAt_3b067_J2_checkIndex_2214a : GoodIn wsJ2_charAt_3b067 wsJ2_checkIndex_2214a := goodIn_r _ [4, 5, 6, 3, 7, 8, 9, 10, 11, 12, 13, 14, 15, 16] (by decide +kernel) (by decide +kernel)
set_option maxRecDepth 20000 in
theorem gJ2_charAt_3b067_J2_checkIndex_2214a : GoodIn wsJ2_charAt_3b067 (va_wsS RJ2 67 yJ2_checkIndex_2214a wsJ2_checkIndex_2214a) := goodIn_app (goodIn_of _ (by decide +kernel)) ggJ2_charAt_3b067_J2_checkIndex_2214a
set_option maxRecDepth 20000 in
theorem ggJ2_charAt_3b067_J2_getChar_3b067 : GoodIn wsJ2_charAt_3b067 wsJ2_getChar_3b067 := goodIn_r _ [19, 20, 21, 22, 5, 6, 3, 7] (by decide +kernel) (by decide +kernel)
set_option maxRecDepth 20000 in
theorem gJ2_charAt_3b067_J2_getChar_3b067 : GoodIn wsJ2_charAt_3b067 (va_wsS RJ2 71 yJ2_getChar_3b067 wsJ2_getChar_3b067) := goodIn_app (goodIn_of _ (by decide +kernel)) ggJ2_charAt_3b067_J2_getChar_3b067
theorem dJ2_charAt_3b067_0 : decode cJ2_charAt_3b067 0 = .ok (.iload_n 1, 1) := by decide +kernel
theorem dJ2_charAt_3b067_1 : decode cJ2_charAt_3b067 1 = .ok (.aload_n 0, 1) := by decide +kernel
theorem dJ2_charAt_3b067_2 : decode cJ2_charAt_3b067 2 = .ok (.invokestatic 67, 3) := by decide +kernel
theorem dJ2_charAt_3b067_5 : decode cJ2_charAt_3b067 5 = .ok (.aload_n 0, 1) := by decide +kernel
theorem dJ2_charAt_3b067_6 : decode cJ2_charAt_3b067 6 = .ok (.iload_n 1, 1) := by decide +kernel
theorem dJ2_charAt_3b067_7 : decode cJ2_charAt_3b067 7 = .ok (.invokestatic 71, 3) := by decide +kernel
theorem dJ2_charAt_3b067_10 : decode cJ2_charAt_3b067 10 = .ok (.ireturn, 1) := by decide +kernel
set_option maxRecDepth 20000 in
theorem ggJ2_inflate_0e8fd_J2_checkBoundsOffCount_d044e : GoodIn wsJ2_inflate_0e8fd wsJ2_checkBoundsOffCount_d044e := goodIn_r _ [4, 5, 6, 3, 7, 8, 9, 10, 11, 12, 13, 14, 15, 16] (by decide +kernel) (by decide +kernel)
set_option maxRecDepth 20000 in
theorem gJ2_inflate_0e8fd_J2_checkBoundsOffCount_d044e : GoodIn wsJ2_inflate_0e8fd (va_wsS RJ2 173 yJ2_checkBoundsOffCount_d044e wsJ2_checkBoundsOffCount_d044e) := goodIn_app (goodIn_of _ (by decide +kernel)) ggJ2_inflate_0e8fd_J2_checkBoundsOffCount_d044e
set_option maxRecDepth 20000 in
theorem ggJ2_inflate_0e8fd_J2_putChar_b72d1 : GoodIn wsJ2_inflate_0e8fd wsJ2_putChar_b72d1 := goodIn_r _ [19, 20, 21, 22, 5, 6, 3, 7] (by decide +kernel) (by decide +kernel)
set_option maxRecDepth 20000 in
theorem gJ2_inflate_0e8fd_J2_putChar_b72d1 : GoodIn wsJ2_inflate_0e8fd (va_wsS RJ2 111 yJ2_putChar_b72d1 wsJ2_putChar_b72d1) := goodIn_app (goodIn_of _ (by decide +kernel)) ggJ2_inflate_0e8fd_J2_putChar_b72d1
theorem dJ2_inflate_0e8fd_0 : decode cJ2_inflate_0e8fd 0 = .ok (.iload_n 3, 1) := by decide +kernel
theorem dJ2_inflate_0e8fd_1 : decode cJ2_inflate_0e8fd 1 = .ok (.iload 4, 2) := by decide +kernel
theorem dJ2_inflate_0e8fd_3 : decode cJ2_inflate_0e8fd 3 = .ok (.aload_n 2, 1) := by decide +kernel
theorem dJ2_inflate_0e8fd_4 : decode cJ2_inflate_0e8fd 4 = .ok (.invokestatic 173, 3) := by decide +kernel
theorem dJ2_inflate_0e8fd_7 : decode cJ2_inflate_0e8fd 7 = .ok (.iconst 0, 1) := by decide +kernel
theorem dJ2_inflate_0e8fd_8 : decode cJ2_inflate_0e8fd 8 = .ok (.istore 5, 2) := by decide +kernel
theorem dJ2_inflate_0e8fd_10 : decode cJ2_inflate_0e8fd 10 = .ok (.iload 5, 2) := by decide +kernel
theorem dJ2_inflate_0e8fd_12 : decode cJ2_inflate_0e8fd 12 = .ok (.iload 4, 2) := by decide +kernel
theorem dJ2_inflate_0e8fd_14 : decode cJ2_inflate_0e8fd 14 = .ok (.if_icmp .ge 27, 3) := by decide +kernel
theorem dJ2_inflate_0e8fd_17 : decode cJ2_inflate_0e8fd 17 = .ok (.aload_n 2, 1) := by decide +kernel
theorem dJ2_inflate_0e8fd_18 : decode cJ2_inflate_0e8fd 18 = .ok (.iload_n 3, 1) := by decide +kernel
theorem dJ2_inflate_0e8fd_19 : decode cJ2_inflate_0e8fd 19 = .ok (.iinc 3 1, 3) := by decide +kernel
theorem dJ2_inflate_0e8fd_22 : decode cJ2_inflate_0e8fd 22 = .ok (.aload_n 0, 1) := by decide +kernel
theorem dJ2_inflate_0e8fd_23 : decode cJ2_inflate_0e8fd 23 = .ok (.iload_n 1, 1) := by decide +kernel
theorem dJ2_inflate_0e8fd_24 : decode cJ2_inflate_0e8fd 24 = .ok (.iinc 1 1, 3) := by decide +kernel
theorem dJ2_inflate_0e8fd_27 : decode cJ2_inflate_0e8fd 27 = .ok (.baload, 1) := by decide +kernel
theorem dJ2_inflate_0e8fd_28 : decode cJ2_inflate_0e8fd 28 = .ok (.sipush 255, 3) := by decide +kernel
theorem dJ2_inflate_0e8fd_31 : decode cJ2_inflate_0e8fd 31 = .ok (.iand, 1) := by decide +kernel
theorem dJ2_inflate_0e8fd_32 : decode cJ2_inflate_0e8fd 32 = .ok (.invokestatic 111, 3) := by decide +kernel
theorem dJ2_inflate_0e8fd_35 : decode cJ2_inflate_0e8fd 35 = .ok (.iinc 5 1, 3) := by decide +kernel
theorem dJ2_inflate_0e8fd_38 : decode cJ2_inflate_0e8fd 38 = .ok (.goto (-28), 3) := by decide +kernel
theorem dJ2_inflate_0e8fd_41 : decode cJ2_inflate_0e8fd 41 = .ok (.return_, 1) := by decide +kernel
set_option maxRecDepth 20000 in
theorem ggJ2_checkIndex_2214a_J2_length_9d52b : GoodIn wsJ2_checkIndex_2214a wsJ2_length_9d52b := goodIn_r _ [4] (by decide +kernel) (by decide +kernel)
set_option maxRecDepth 20000 in
theorem gJ2_checkIndex_2214a_J2_length_9d52b : GoodIn wsJ2_checkIndex_2214a (va_wsS RJ2 48 yJ2_length_9d52b wsJ2_length_9d52b) := goodIn_app (goodIn_of _ (by decide +kernel)) ggJ2_checkIndex_2214a_J2_length_9d52b
set_option maxRecDepth 20000 in
theorem ggJ2_checkIndex_2214a_J0_checkIndex_df160 : GoodIn wsJ2_checkIndex_2214a wsJ0_checkIndex_df160 := goodIn_r _ [8, 9, 10, 11, 12, 13] (by decide +kernel) (by decide +kernel)
set_option maxRecDepth 20000 in
theorem gJ2_checkIndex_2214a_J0_checkIndex_df160 : GoodIn wsJ2_checkIndex_2214a (va_wsS RJ2 414 yJ0_checkIndex_df160 wsJ0_checkIndex_df160) := goodIn_app (goodIn_of _ (by decide +kernel)) ggJ2_checkIndex_2214a_J0_checkIndex_df160
theorem dJ2_checkIndex_2214a_0 : decode cJ2_checkIndex_2214a 0 = .ok (.iload_n 0, 1) := by decide +kernel
theorem dJ2_checkIndex_2214a_1 : decode cJ2_checkIndex_2214a 1 = .ok (.aload_n 1, 1) := by decide +kernel
theorem dJ2_checkIndex_2214a_2 : decode cJ2_checkIndex_2214a 2 = .ok (.invokestatic 48, 3) := by decide +kernel
theorem dJ2_checkIndex_2214a_5 : decode cJ2_checkIndex_2214a 5 = .ok (.invokestatic 414, 3) := by decide +kernel
theorem dJ2_checkIndex_2214a_8 : decode cJ2_checkIndex_2214a 8 = .ok (.return_, 1) := by decide +kernel
set_option maxRecDepth 20000 in
theorem ggJ2_checkBoundsOffCount_d044e_J2_length_9d52b : GoodIn wsJ2_checkBoundsOffCount_d044e wsJ2_length_9d52b := goodIn_r _ [4] (by decide +kernel) (by decide +kernel)
set_option maxRecDepth 20000 in
theorem gJ2_checkBoundsOffCount_d044e_J2_length_9d52b : GoodIn wsJ2_checkBoundsOffCount_d044e (va_wsS RJ2 48 yJ2_length_9d52b wsJ2_length_9d52b) := goodIn_app (goodIn_of _ (by decide +kernel)) ggJ2_checkBoundsOffCount_d044e_J2_length_9d52b
set_option maxRecDepth 20000 in
theorem ggJ2_checkBoundsOffCount_d044e_J0_checkBoundsOffCount_cabcc : GoodIn wsJ2_checkBoundsOffCount_d044e wsJ0_checkBoundsOffCount_cabcc := goodIn_r _ [8, 9, 10, 11, 12, 13] (by decide +kernel) (by decide +kernel)
set_option maxRecDepth 20000 in
theorem gJ2_checkBoundsOffCount_d044e_J0_checkBoundsOffCount_cabcc : GoodIn wsJ2_checkBoundsOffCount_d044e (va_wsS RJ2 419 yJ0_checkBoundsOffCount_cabcc wsJ0_checkBoundsOffCount_cabcc) := goodIn_app (goodIn_of _ (by decide +kernel)) ggJ2_checkBoundsOffCount_d044e_J0_checkBoundsOffCount_cabcc
theorem dJ2_checkBoundsOffCount_d044e_0 : decode cJ2_checkBoundsOffCount_d044e 0 = .ok (.iload_n 0, 1) := by decide +kernel
theorem dJ2_checkBoundsOffCount_d044e_1 : decode cJ2_checkBoundsOffCount_d044e 1 = .ok (.iload_n 1, 1) := by decide +kernel
theorem dJ2_checkBoundsOffCount_d044e_2 : decode cJ2_checkBoundsOffCount_d044e 2 = .ok (.aload_n 2, 1) := by decide +kernel
theorem dJ2_checkBoundsOffCount_d044e_3 : decode cJ2_checkBoundsOffCount_d044e 3 = .ok (.invokestatic 48, 3) := by decide +kernel
theorem dJ2_checkBoundsOffCount_d044e_6 : decode cJ2_checkBoundsOffCount_d044e 6 = .ok (.invokestatic 419, 3) := by decide +kernel
theorem dJ2_checkBoundsOffCount_d044e_9 : decode cJ2_checkBoundsOffCount_d044e 9 = .ok (.pop, 1) := by decide +kernel
theorem dJ2_checkBoundsOffCount_d044e_10 : decode cJ2_checkBoundsOffCount_d044e 10 = .ok (.return_, 1) := by decide +kernel
theorem dJ7_copyOf_9075b_0 : decode cJ7_copyOf_9075b 0 = .ok (.iload_n 1, 1) := by decide +kernel
theorem dJ7_copyOf_9075b_1 : decode cJ7_copyOf_9075b 1 = .ok (.aload_n 0, 1) := by decide +kernel
theorem dJ7_copyOf_9075b_2 : decode cJ7_copyOf_9075b 2 = .ok (.arraylength, 1) := by decide +kernel
theorem dJ7_copyOf_9075b_3 : decode cJ7_copyOf_9075b 3 = .ok (.if_icmp .ne 11, 3) := by decide +kernel
theorem dJ7_copyOf_9075b_6 : decode cJ7_copyOf_9075b 6 = .ok (.aload_n 0, 1) := by decide +kernel
theorem dJ7_copyOf_9075b_7 : decode cJ7_copyOf_9075b 7 = .ok (.invokevirtual 310, 3) := by decide +kernel
theorem dJ7_copyOf_9075b_10 : decode cJ7_copyOf_9075b 10 = .ok (.checkcast 311, 3) := by decide +kernel
theorem dJ7_copyOf_9075b_13 : decode cJ7_copyOf_9075b 13 = .ok (.areturn, 1) := by decide +kernel
theorem dJ7_copyOf_9075b_14 : decode cJ7_copyOf_9075b 14 = .ok (.iload_n 1, 1) := by decide +kernel
theorem dJ7_copyOf_9075b_15 : decode cJ7_copyOf_9075b 15 = .ok (.newarray .byte, 2) := by decide +kernel
theorem dJ7_copyOf_9075b_17 : decode cJ7_copyOf_9075b 17 = .ok (.astore_n 2, 1) := by decide +kernel
theorem dJ7_copyOf_9075b_18 : decode cJ7_copyOf_9075b 18 = .ok (.aload_n 0, 1) := by decide +kernel
theorem dJ7_copyOf_9075b_19 : decode cJ7_copyOf_9075b 19 = .ok (.iconst 0, 1) := by decide +kernel
theorem dJ7_copyOf_9075b_20 : decode cJ7_copyOf_9075b 20 = .ok (.aload_n 2, 1) := by decide +kernel
theorem dJ7_copyOf_9075b_21 : decode cJ7_copyOf_9075b 21 = .ok (.iconst 0, 1) := by decide +kernel
theorem dJ7_copyOf_9075b_22 : decode cJ7_copyOf_9075b 22 = .ok (.aload_n 0, 1) := by decide +kernel
theorem dJ7_copyOf_9075b_23 : decode cJ7_copyOf_9075b 23 = .ok (.arraylength, 1) := by decide +kernel
theorem dJ7_copyOf_9075b_24 : decode cJ7_copyOf_9075b 24 = .ok (.iload_n 1, 1) := by decide +kernel
theorem dJ7_copyOf_9075b_25 : decode cJ7_copyOf_9075b 25 = .ok (.invokestatic 304, 3) := by decide +kernel
theorem dJ7_copyOf_9075b_28 : decode cJ7_copyOf_9075b 28 = .ok (.invokestatic 150, 3) := by decide +kernel
theorem dJ7_copyOf_9075b_31 : decode cJ7_copyOf_9075b 31 = .ok (.aload_n 2, 1) := by decide +kernel
theorem dJ7_copyOf_9075b_32 : decode cJ7_copyOf_9075b 32 = .ok (.areturn, 1) := by decide +kernel
theorem dJ7_checkLength_df160_0 : decode cJ7_checkLength_df160 0 = .ok (.iload_n 1, 1) := by decide +kernel
theorem dJ7_checkLength_df160_1 : decode cJ7_checkLength_df160 1 = .ok (.iload_n 0, 1) := by decide +kernel
theorem dJ7_checkLength_df160_2 : decode cJ7_checkLength_df160 2 = .ok (.if_icmp .ge 35, 3) := by decide +kernel
theorem dJ7_checkLength_df160_5 : decode cJ7_checkLength_df160 5 = .ok (.new 43, 3) := by decide +kernel
theorem dJ7_checkLength_df160_8 : decode cJ7_checkLength_df160 8 = .ok (.dup, 1) := by decide +kernel
theorem dJ7_checkLength_df160_9 : decode cJ7_checkLength_df160 9 = .ok (.new 45, 3) := by decide +kernel
theorem dJ7_checkLength_df160_12 : decode cJ7_checkLength_df160 12 = .ok (.dup, 1) := by decide +kernel
theorem dJ7_checkLength_df160_13 : decode cJ7_checkLength_df160 13 = .ok (.invokespecial 47, 3) := by decide +kernel
theorem dJ7_checkLength_df160_16 : decode cJ7_checkLength_df160 16 = .ok (.iload_n 0, 1) := by decide +kernel
theorem dJ7_checkLength_df160_17 : decode cJ7_checkLength_df160 17 = .ok (.invokevirtual 54, 3) := by decide +kernel
theorem dJ7_checkLength_df160_20 : decode cJ7_checkLength_df160 20 = .ok (.ldc_w 337, 3) := by decide +kernel
theorem dJ7_checkLength_df160_23 : decode cJ7_checkLength_df160 23 = .ok (.invokevirtual 50, 3) := by decide +kernel
theorem dJ7_checkLength_df160_26 : decode cJ7_checkLength_df160 26 = .ok (.iload_n 1, 1) := by decide +kernel
theorem dJ7_checkLength_df160_27 : decode cJ7_checkLength_df160 27 = .ok (.invokevirtual 54, 3) := by decide +kernel
theorem dJ7_checkLength_df160_30 : decode cJ7_checkLength_df160 30 = .ok (.invokevirtual 61, 3) := by decide +kernel
theorem dJ7_checkLength_df160_33 : decode cJ7_checkLength_df160 33 = .ok (.invokespecial 65, 3) := by decide +kernel
theorem dJ7_checkLength_df160_36 : decode cJ7_checkLength_df160 36 = .ok (.athrow, 1) := by decide +kernel
theorem dJ7_checkLength_df160_37 : decode cJ7_checkLength_df160 37 = .ok (.return_, 1) := by decide +kernel
set_option maxRecDepth 20000 in
theorem ggJ7_copyOfRange_39247_J7_copyOfRangeByte_39247 : GoodIn wsJ7_copyOfRange_39247 wsJ7_copyOfRangeByte_39247 := goodIn_r _ [10, 11, 12, 13, 14, 15, 16, 17, 18, 19, 20, 21, 9, 22] (by decide +kernel) (by decide +kernel)
set_option maxRecDepth 20000 in
theorem gJ7_copyOfRange_39247_J7_copyOfRangeByte_39247 : GoodIn wsJ7_copyOfRange_39247 (va_wsS RJ7 339 yJ7_copyOfRangeByte_39247 wsJ7_copyOfRangeByte_39247) := goodIn_app (goodIn_of _ (by decide +kernel)) ggJ7_copyOfRange_39247_J7_copyOfRangeByte_39247
theorem dJ7_copyOfRange_39247_0 : decode cJ7_copyOfRange_39247 0 = .ok (.iload_n 1, 1) := by decide +kernel
theorem dJ7_copyOfRange_39247_1 : decode cJ7_copyOfRange_39247 1 = .ok (.ifCond .ne 9, 3) := by decide +kernel
theorem dJ7_copyOfRange_39247_4 : decode cJ7_copyOfRange_39247 4 = .ok (.iload_n 2, 1) := by decide +kernel
theorem dJ7_copyOfRange_39247_5 : decode cJ7_copyOfRange_39247 5 = .ok (.aload_n 0, 1) := by decide +kernel
theorem dJ7_copyOfRange_39247_6 : decode cJ7_copyOfRange_39247 6 = .ok (.arraylength, 1) := by decide +kernel
theorem dJ7_copyOfRange_39247_7 : decode cJ7_copyOfRange_39247 7 = .ok (.if_icmp .eq 10, 3) := by decide +kernel
theorem dJ7_copyOfRange_39247_10 : decode cJ7_copyOfRange_39247 10 = .ok (.aload_n 0, 1) := by decide +kernel
theorem dJ7_copyOfRange_39247_11 : decode cJ7_copyOfRange_39247 11 = .ok (.iload_n 1, 1) := by decide +kernel
theorem dJ7_copyOfRange_39247_12 : decode cJ7_copyOfRange_39247 12 = .ok (.iload_n 2, 1) := by decide +kernel
theorem dJ7_copyOfRange_39247_13 : decode cJ7_copyOfRange_39247 13 = .ok (.invokestatic 339, 3) := by decide +kernel
theorem dJ7_copyOfRange_39247_16 : decode cJ7_copyOfRange_39247 16 = .ok (.areturn, 1) := by decide +kernel
theorem dJ7_copyOfRange_39247_17 : decode cJ7_copyOfRange_39247 17 = .ok (.aload_n 0, 1) := by decide +kernel
theorem dJ7_copyOfRange_39247_18 : decode cJ7_copyOfRange_39247 18 = .ok (.invokevirtual 310, 3) := by decide +kernel
theorem dJ7_copyOfRange_39247_21 : decode cJ7_copyOfRange_39247 21 = .ok (.checkcast 311, 3) := by decide +kernel
theorem dJ7_copyOfRange_39247_24 : decode cJ7_copyOfRange_39247 24 = .ok (.areturn, 1) := by decide +kernel
set_option maxRecDepth 20000 in
theorem ggJ7_copyOfRangeByte_39247_J7_checkLength_df160 : GoodIn wsJ7_copyOfRangeByte_39247 wsJ7_checkLength_df160 := goodIn_r _ [13] (by decide +kernel) (by decide +kernel)
set_option maxRecDepth 20000 in
theorem gJ7_copyOfRangeByte_39247_J7_checkLength_df160 : GoodIn wsJ7_copyOfRangeByte_39247 (va_wsS RJ7 343 yJ7_checkLength_df160 wsJ7_checkLength_df160) := goodIn_app (goodIn_of _ (by decide +kernel)) ggJ7_copyOfRangeByte_39247_J7_checkLength_df160
theorem dJ7_copyOfRangeByte_39247_0 : decode cJ7_copyOfRangeByte_39247 0 = .ok (.iload_n 1, 1) := by decide +kernel
theorem dJ7_copyOfRangeByte_39247_1 : decode cJ7_copyOfRangeByte_39247 1 = .ok (.iload_n 2, 1) := by decide +kernel
theorem dJ7_copyOfRangeByte_39247_2 : decode cJ7_copyOfRangeByte_39247 2 = .ok (.invokestatic 343, 3) := by decide +kernel
theorem dJ7_copyOfRangeByte_39247_5 : decode cJ7_copyOfRangeByte_39247 5 = .ok (.iload_n 2, 1) := by decide +kernel
theorem dJ7_copyOfRangeByte_39247_6 : decode cJ7_copyOfRangeByte_39247 6 = .ok (.iload_n 1, 1) := by decide +kernel
theorem dJ7_copyOfRangeByte_39247_7 : decode cJ7_copyOfRangeByte_39247 7 = .ok (.isub, 1) := by decide +kernel
theorem dJ7_copyOfRangeByte_39247_8 : decode cJ7_copyOfRangeByte_39247 8 = .ok (.istore_n 3, 1) := by decide +kernel
theorem dJ7_copyOfRangeByte_39247_9 : decode cJ7_copyOfRangeByte_39247 9 = .ok (.iload_n 3, 1) := by decide +kernel
theorem dJ7_copyOfRangeByte_39247_10 : decode cJ7_copyOfRangeByte_39247 10 = .ok (.newarray .byte, 2) := by decide +kernel
theorem dJ7_copyOfRangeByte_39247_12 : decode cJ7_copyOfRangeByte_39247 12 = .ok (.astore 4, 2) := by decide +kernel
theorem dJ7_copyOfRangeByte_39247_14 : decode cJ7_copyOfRangeByte_39247 14 = .ok (.aload_n 0, 1) := by decide +kernel
theorem dJ7_copyOfRangeByte_39247_15 : decode cJ7_copyOfRangeByte_39247 15 = .ok (.iload_n 1, 1) := by decide +kernel
theorem dJ7_copyOfRangeByte_39247_16 : decode cJ7_copyOfRangeByte_39247 16 = .ok (.aload 4, 2) := by decide +kernel
theorem dJ7_copyOfRangeByte_39247_18 : decode cJ7_copyOfRangeByte_39247 18 = .ok (.iconst 0, 1) := by decide +kernel
theorem dJ7_copyOfRangeByte_39247_19 : decode cJ7_copyOfRangeByte_39247 19 = .ok (.aload_n 0, 1) := by decide +kernel
theorem dJ7_copyOfRangeByte_39247_20 : decode cJ7_copyOfRangeByte_39247 20 = .ok (.arraylength, 1) := by decide +kernel
theorem dJ7_copyOfRangeByte_39247_21 : decode cJ7_copyOfRangeByte_39247 21 = .ok (.iload_n 1, 1) := by decide +kernel
theorem dJ7_copyOfRangeByte_39247_22 : decode cJ7_copyOfRangeByte_39247 22 = .ok (.isub, 1) := by decide +kernel
theorem dJ7_copyOfRangeByte_39247_23 : decode cJ7_copyOfRangeByte_39247 23 = .ok (.iload_n 3, 1) := by decide +kernel
theorem dJ7_copyOfRangeByte_39247_24 : decode cJ7_copyOfRangeByte_39247 24 = .ok (.invokestatic 304, 3) := by decide +kernel
theorem dJ7_copyOfRangeByte_39247_27 : decode cJ7_copyOfRangeByte_39247 27 = .ok (.invokestatic 150, 3) := by decide +kernel
theorem dJ7_copyOfRangeByte_39247_30 : decode cJ7_copyOfRangeByte_39247 30 = .ok (.aload 4, 2) := by decide +kernel
theorem dJ7_copyOfRangeByte_39247_32 : decode cJ7_copyOfRangeByte_39247 32 = .ok (.areturn, 1) := by decide +kernel
set_option maxRecDepth 20000 in
theorem ggJ8_newLength_cabcc_J8_hugeLength_7cf53 : GoodIn wsJ8_newLength_cabcc wsJ8_hugeLength_7cf53 := goodIn_r _ [9, 5] (by decide +kernel) (by decide +kernel)
set_option maxRecDepth 20000 in
theorem gJ8_newLength_cabcc_J8_hugeLength_7cf53 : GoodIn wsJ8_newLength_cabcc (va_wsS RJ8 201 yJ8_hugeLength_7cf53 wsJ8_hugeLength_7cf53) := goodIn_app (goodIn_of _ (by decide +kernel)) ggJ8_newLength_cabcc_J8_hugeLength_7cf53
theorem dJ8_newLength_cabcc_0 : decode cJ8_newLength_cabcc 0 = .ok (.iload_n 0, 1) := by decide +kernel
theorem dJ8_newLength_cabcc_1 : decode cJ8_newLength_cabcc 1 = .ok (.iload_n 1, 1) := by decide +kernel
theorem dJ8_newLength_cabcc_2 : decode cJ8_newLength_cabcc 2 = .ok (.iload_n 2, 1) := by decide +kernel
theorem dJ8_newLength_cabcc_3 : decode cJ8_newLength_cabcc 3 = .ok (.invokestatic 194, 3) := by decide +kernel
theorem dJ8_newLength_cabcc_6 : decode cJ8_newLength_cabcc 6 = .ok (.iadd, 1) := by decide +kernel
theorem dJ8_newLength_cabcc_7 : decode cJ8_newLength_cabcc 7 = .ok (.istore_n 3, 1) := by decide +kernel
theorem dJ8_newLength_cabcc_8 : decode cJ8_newLength_cabcc 8 = .ok (.iconst 0, 1) := by decide +kernel
theorem dJ8_newLength_cabcc_9 : decode cJ8_newLength_cabcc 9 = .ok (.iload_n 3, 1) := by decide +kernel
theorem dJ8_newLength_cabcc_10 : decode cJ8_newLength_cabcc 10 = .ok (.if_icmp .ge 11, 3) := by decide +kernel
theorem dJ8_newLength_cabcc_13 : decode cJ8_newLength_cabcc 13 = .ok (.iload_n 3, 1) := by decide +kernel
theorem dJ8_newLength_cabcc_14 : decode cJ8_newLength_cabcc 14 = .ok (.ldc 200, 2) := by decide +kernel
theorem dJ8_newLength_cabcc_16 : decode cJ8_newLength_cabcc 16 = .ok (.if_icmp .gt 5, 3) := by decide +kernel
theorem dJ8_newLength_cabcc_19 : decode cJ8_newLength_cabcc 19 = .ok (.iload_n 3, 1) := by decide +kernel
theorem dJ8_newLength_cabcc_20 : decode cJ8_newLength_cabcc 20 = .ok (.ireturn, 1) := by decide +kernel
theorem dJ8_newLength_cabcc_21 : decode cJ8_newLength_cabcc 21 = .ok (.iload_n 0, 1) := by decide +kernel
theorem dJ8_newLength_cabcc_22 : decode cJ8_newLength_cabcc 22 = .ok (.iload_n 1, 1) := by decide +kernel
theorem dJ8_newLength_cabcc_23 : decode cJ8_newLength_cabcc 23 = .ok (.invokestatic 201, 3) := by decide +kernel
theorem dJ8_newLength_cabcc_26 : decode cJ8_newLength_cabcc 26 = .ok (.ireturn, 1) := by decide +kernel
theorem dJ8_hugeLength_7cf53_0 : decode cJ8_hugeLength_7cf53 0 = .ok (.iload_n 0, 1) := by decide +kernel
theorem dJ8_hugeLength_7cf53_1 : decode cJ8_hugeLength_7cf53 1 = .ok (.iload_n 1, 1) := by decide +kernel
theorem dJ8_hugeLength_7cf53_2 : decode cJ8_hugeLength_7cf53 2 = .ok (.iadd, 1) := by decide +kernel
theorem dJ8_hugeLength_7cf53_3 : decode cJ8_hugeLength_7cf53 3 = .ok (.istore_n 2, 1) := by decide +kernel
theorem dJ8_hugeLength_7cf53_4 : decode cJ8_hugeLength_7cf53 4 = .ok (.iload_n 2, 1) := by decide +kernel
theorem dJ8_hugeLength_7cf53_5 : decode cJ8_hugeLength_7cf53 5 = .ok (.ifCond .ge 44, 3) := by decide +kernel
theorem dJ8_hugeLength_7cf53_8 : decode cJ8_hugeLength_7cf53 8 = .ok (.new 204, 3) := by decide +kernel
theorem dJ8_hugeLength_7cf53_11 : decode cJ8_hugeLength_7cf53 11 = .ok (.dup, 1) := by decide +kernel
theorem dJ8_hugeLength_7cf53_12 : decode cJ8_hugeLength_7cf53 12 = .ok (.new 89, 3) := by decide +kernel
theorem dJ8_hugeLength_7cf53_15 : decode cJ8_hugeLength_7cf53 15 = .ok (.dup, 1) := by decide +kernel
theorem dJ8_hugeLength_7cf53_16 : decode cJ8_hugeLength_7cf53 16 = .ok (.invokespecial 91, 3) := by decide +kernel
theorem dJ8_hugeLength_7cf53_19 : decode cJ8_hugeLength_7cf53 19 = .ok (.ldc 206, 2) := by decide +kernel
theorem dJ8_hugeLength_7cf53_21 : decode cJ8_hugeLength_7cf53 21 = .ok (.invokevirtual 94, 3) := by decide +kernel
theorem dJ8_hugeLength_7cf53_24 : decode cJ8_hugeLength_7cf53 24 = .ok (.iload_n 0, 1) := by decide +kernel
theorem dJ8_hugeLength_7cf53_25 : decode cJ8_hugeLength_7cf53 25 = .ok (.invokevirtual 98, 3) := by decide +kernel
theorem dJ8_hugeLength_7cf53_28 : decode cJ8_hugeLength_7cf53 28 = .ok (.ldc 208, 2) := by decide +kernel
theorem dJ8_hugeLength_7cf53_30 : decode cJ8_hugeLength_7cf53 30 = .ok (.invokevirtual 94, 3) := by decide +kernel
theorem dJ8_hugeLength_7cf53_33 : decode cJ8_hugeLength_7cf53 33 = .ok (.iload_n 1, 1) := by decide +kernel
theorem dJ8_hugeLength_7cf53_34 : decode cJ8_hugeLength_7cf53 34 = .ok (.invokevirtual 98, 3) := by decide +kernel
theorem dJ8_hugeLength_7cf53_37 : decode cJ8_hugeLength_7cf53 37 = .ok (.ldc 210, 2) := by decide +kernel
theorem dJ8_hugeLength_7cf53_39 : decode cJ8_hugeLength_7cf53 39 = .ok (.invokevirtual 94, 3) := by decide +kernel
theorem dJ8_hugeLength_7cf53_42 : decode cJ8_hugeLength_7cf53 42 = .ok (.invokevirtual 101, 3) := by decide +kernel
theorem dJ8_hugeLength_7cf53_45 : decode cJ8_hugeLength_7cf53 45 = .ok (.invokespecial 212, 3) := by decide +kernel
theorem dJ8_hugeLength_7cf53_48 : decode cJ8_hugeLength_7cf53 48 = .ok (.athrow, 1) := by decide +kernel
theorem dJ8_hugeLength_7cf53_49 : decode cJ8_hugeLength_7cf53 49 = .ok (.iload_n 2, 1) := by decide +kernel
theorem dJ8_hugeLength_7cf53_50 : decode cJ8_hugeLength_7cf53 50 = .ok (.ldc 200, 2) := by decide +kernel
theorem dJ8_hugeLength_7cf53_52 : decode cJ8_hugeLength_7cf53 52 = .ok (.if_icmp .gt 6, 3) := by decide +kernel
theorem dJ8_hugeLength_7cf53_55 : decode cJ8_hugeLength_7cf53 55 = .ok (.ldc 200, 2) := by decide +kernel
theorem dJ8_hugeLength_7cf53_57 : decode cJ8_hugeLength_7cf53 57 = .ok (.ireturn, 1) := by decide +kernel
theorem dJ8_hugeLength_7cf53_58 : decode cJ8_hugeLength_7cf53 58 = .ok (.iload_n 2, 1) := by decide +kernel
theorem dJ8_hugeLength_7cf53_59 : decode cJ8_hugeLength_7cf53 59 = .ok (.ireturn, 1) := by decide +kernel
theorem dJ3_checkIndex_8e157_0 : decode cJ3_checkIndex_8e157 0 = .ok (.iload_n 0, 1) := by decide +kernel
theorem dJ3_checkIndex_8e157_1 : decode cJ3_checkIndex_8e157 1 = .ok (.ifCond .lt 8, 3) := by decide +kernel
theorem dJ3_checkIndex_8e157_4 : decode cJ3_checkIndex_8e157 4 = .ok (.iload_n 0, 1) := by decide +kernel
theorem dJ3_checkIndex_8e157_5 : decode cJ3_checkIndex_8e157 5 = .ok (.iload_n 1, 1) := by decide +kernel
theorem dJ3_checkIndex_8e157_6 : decode cJ3_checkIndex_8e157 6 = .ok (.if_icmp .lt 10, 3) := by decide +kernel
theorem dJ3_checkIndex_8e157_9 : decode cJ3_checkIndex_8e157 9 = .ok (.aload_n 2, 1) := by decide +kernel
theorem dJ3_checkIndex_8e157_10 : decode cJ3_checkIndex_8e157 10 = .ok (.iload_n 0, 1) := by decide +kernel
theorem dJ3_checkIndex_8e157_11 : decode cJ3_checkIndex_8e157 11 = .ok (.iload_n 1, 1) := by decide +kernel
theorem dJ3_checkIndex_8e157_12 : decode cJ3_checkIndex_8e157 12 = .ok (.invokestatic 95, 3) := by decide +kernel
theorem dJ3_checkIndex_8e157_15 : decode cJ3_checkIndex_8e157 15 = .ok (.athrow, 1) := by decide +kernel
theorem dJ3_checkIndex_8e157_16 : decode cJ3_checkIndex_8e157 16 = .ok (.iload_n 0, 1) := by decide +kernel
theorem dJ3_checkIndex_8e157_17 : decode cJ3_checkIndex_8e157 17 = .ok (.ireturn, 1) := by decide +kernel
theorem dJ3_checkFromIndexSize_8c36e_0 : decode cJ3_checkFromIndexSize_8c36e 0 = .ok (.iload_n 2, 1) := by decide +kernel
theorem dJ3_checkFromIndexSize_8c36e_1 : decode cJ3_checkFromIndexSize_8c36e 1 = .ok (.iload_n 0, 1) := by decide +kernel
theorem dJ3_checkFromIndexSize_8c36e_2 : decode cJ3_checkFromIndexSize_8c36e 2 = .ok (.ior, 1) := by decide +kernel
theorem dJ3_checkFromIndexSize_8c36e_3 : decode cJ3_checkFromIndexSize_8c36e 3 = .ok (.iload_n 1, 1) := by decide +kernel
theorem dJ3_checkFromIndexSize_8c36e_4 : decode cJ3_checkFromIndexSize_8c36e 4 = .ok (.ior, 1) := by decide +kernel
theorem dJ3_checkFromIndexSize_8c36e_5 : decode cJ3_checkFromIndexSize_8c36e 5 = .ok (.ifCond .lt 10, 3) := by decide +kernel
theorem dJ3_checkFromIndexSize_8c36e_8 : decode cJ3_checkFromIndexSize_8c36e 8 = .ok (.iload_n 1, 1) := by decide +kernel
theorem dJ3_checkFromIndexSize_8c36e_9 : decode cJ3_checkFromIndexSize_8c36e 9 = .ok (.iload_n 2, 1) := by decide +kernel
theorem dJ3_checkFromIndexSize_8c36e_10 : decode cJ3_checkFromIndexSize_8c36e 10 = .ok (.iload_n 0, 1) := by decide +kernel
theorem dJ3_checkFromIndexSize_8c36e_11 : decode cJ3_checkFromIndexSize_8c36e 11 = .ok (.isub, 1) := by decide +kernel
theorem dJ3_checkFromIndexSize_8c36e_12 : decode cJ3_checkFromIndexSize_8c36e 12 = .ok (.if_icmp .le 11, 3) := by decide +kernel
theorem dJ3_checkFromIndexSize_8c36e_15 : decode cJ3_checkFromIndexSize_8c36e 15 = .ok (.aload_n 3, 1) := by decide +kernel
theorem dJ3_checkFromIndexSize_8c36e_16 : decode cJ3_checkFromIndexSize_8c36e 16 = .ok (.iload_n 0, 1) := by decide +kernel
theorem dJ3_checkFromIndexSize_8c36e_17 : decode cJ3_checkFromIndexSize_8c36e 17 = .ok (.iload_n 1, 1) := by decide +kernel
theorem dJ3_checkFromIndexSize_8c36e_18 : decode cJ3_checkFromIndexSize_8c36e 18 = .ok (.iload_n 2, 1) := by decide +kernel
theorem dJ3_checkFromIndexSize_8c36e_19 : decode cJ3_checkFromIndexSize_8c36e 19 = .ok (.invokestatic 103, 3) := by decide +kernel
theorem dJ3_checkFromIndexSize_8c36e_22 : decode cJ3_checkFromIndexSize_8c36e 22 = .ok (.athrow, 1) := by decide +kernel
theorem dJ3_checkFromIndexSize_8c36e_23 : decode cJ3_checkFromIndexSize_8c36e 23 = .ok (.iload_n 0, 1) := by decide +kernel
theorem dJ3_checkFromIndexSize_8c36e_24 : decode cJ3_checkFromIndexSize_8c36e 24 = .ok (.ireturn, 1) := by decide +kernel
theorem dL_below_0 : decode cL_below 0 = .ok (.iload_n 0, 1) := by decide +kernel
theorem dL_below_1 : decode cL_below 1 = .ok (.ldc 7, 2) := by decide +kernel
theorem dL_below_3 : decode cL_below 3 = .ok (.iand, 1) := by decide +kernel
theorem dL_below_4 : decode cL_below 4 = .ok (.iload_n 1, 1) := by decide +kernel
theorem dL_below_5 : decode cL_below 5 = .ok (.irem, 1) := by decide +kernel
theorem dL_below_6 : decode cL_below 6 = .ok (.ireturn, 1) := by decide +kernel
theorem dL_cell_0 : decode cL_cell 0 = .ok (.iload_n 1, 1) := by decide +kernel
theorem dL_cell_1 : decode cL_cell 1 = .ok (.aload_n 0, 1) := by decide +kernel
theorem dL_cell_2 : decode cL_cell 2 = .ok (.arraylength, 1) := by decide +kernel
theorem dL_cell_3 : decode cL_cell 3 = .ok (.if_icmp .ge 9, 3) := by decide +kernel
theorem dL_cell_6 : decode cL_cell 6 = .ok (.aload_n 0, 1) := by decide +kernel
theorem dL_cell_7 : decode cL_cell 7 = .ok (.iload_n 1, 1) := by decide +kernel
theorem dL_cell_8 : decode cL_cell 8 = .ok (.iaload, 1) := by decide +kernel
theorem dL_cell_9 : decode cL_cell 9 = .ok (.goto 9, 3) := by decide +kernel
theorem dL_cell_12 : decode cL_cell 12 = .ok (.ldc 8, 2) := by decide +kernel
theorem dL_cell_14 : decode cL_cell 14 = .ok (.iload_n 1, 1) := by decide +kernel
end
section
theorem dL_cell_15 : decode cL_cell 15 = .ok (.iconst 3, 1) := by decide +kernel
theorem dL_cell_16 : decode cL_cell 16 = .ok (.iadd, 1) := by decide +kernel
theorem dL_cell_17 : decode cL_cell 17 = .ok (.imul, 1) := by decide +kernel
theorem dL_cell_18 : decode cL_cell 18 = .ok (.ireturn, 1) := by decide +kernel
set_option maxRecDepth 20000 in
theorem ggL_law_X5_init : GoodIn wsL_law wsX5_init := goodIn_r _ [14, 15, 16, 17, 18, 19, 20, 21, 22, 23, 24, 25, 26, 27, 28, 29, 30, 31, 32, 33, 34, 35, 36, 37, 38, 39, 40, 41, 42, 43, 44, 45, 46, 47, 48, 49, 50, 51, 52, 53, 54, 55, 56, 57, 58, 59, 60, 61, 62, 63, 64, 65, 66, 67, 68, 69, 70, 71, 72, 73, 74, 75, 76, 77, 78, 79, 80, 700, 701, 702, 693, 694, 695, 696, 697, 698, 699, 703, 704, 705, 706, 707, 708, 709, 710, 711, 712, 713, 714, 715, 716, 717, 718, 719, 720, 721, 722, 723, 724, 725, 726] (by decide +kernel) (by decide +kernel)
set_option maxRecDepth 20000 in
theorem gL_law_X5_init : GoodIn wsL_law (wsX5_init) := ggL_law_X5_init
set_option maxRecDepth 20000 in
theorem ggL_law_L_cell : GoodIn wsL_law wsL_cell := goodIn_r _ [84, 85] (by decide +kernel) (by decide +kernel)
set_option maxRecDepth 20000 in
theorem gL_law_L_cell : GoodIn wsL_law (va_wsS RL 12 yL_cell wsL_cell) := goodIn_app (goodIn_of _ (by decide +kernel)) ggL_law_L_cell
set_option maxRecDepth 20000 in
theorem ggL_law_L_below : GoodIn wsL_law wsL_below := goodIn_r _ [88, 89] (by decide +kernel) (by decide +kernel)
set_option maxRecDepth 20000 in
theorem gL_law_L_below : GoodIn wsL_law (va_wsS RL 18 yL_below wsL_below) := goodIn_app (goodIn_of _ (by decide +kernel)) ggL_law_L_below
set_option maxRecDepth 20000 in
theorem ggL_law_X5_tooth : GoodIn wsL_law wsX5_tooth := goodIn_ca (goodIn_ca (goodIn_r _ [93, 94, 95, 27, 96, 97, 98, 2, 99, 100, 101, 102, 103, 104, 46, 105, 61, 106, 693, 694, 695, 696, 697, 698, 699, 714, 715, 716, 717, 718, 719] (by decide +kernel) (by decide +kernel)) (goodIn_sub (fun _ h => List.mem_append_left _ (List.mem_append_left _ (List.mem_append_right _ h))) (by decide +kernel))) (goodIn_sub (fun _ h => List.mem_append_left _ (List.mem_append_right _ h)) (by decide +kernel))
set_option maxRecDepth 20000 in
theorem gL_law_X5_tooth : GoodIn wsL_law (wsV RL 22 RX5 yX5_tooth wsX5_tooth) := goodIn_app (goodIn_of _ (by decide +kernel)) ggL_law_X5_tooth
set_option maxRecDepth 20000 in
theorem ggL_law_X5_tune : GoodIn wsL_law wsX5_tune := goodIn_ca (goodIn_r _ [110, 94, 95, 21, 111, 693, 694, 695, 696, 697, 698, 699, 700, 701, 702] (by decide +kernel) (by decide +kernel)) (goodIn_sub (fun _ h => List.mem_append_left _ (List.mem_append_left _ (List.mem_append_right _ h))) (by decide +kernel))
set_option maxRecDepth 20000 in
theorem gL_law_X5_tune : GoodIn wsL_law (wsV RL 26 RX5 yX5_tune wsX5_tune) := goodIn_app (goodIn_of _ (by decide +kernel)) ggL_law_X5_tune
set_option maxRecDepth 20000 in
theorem ggL_law_X5_ofTune : GoodIn wsL_law wsX5_ofTune := goodIn_ca (goodIn_ca (goodIn_r _ [115, 21, 116, 117, 118, 119, 2, 120, 121, 122, 111, 123, 124, 125, 100, 101, 126, 127, 128, 20, 129, 38, 130, 131, 132, 133, 39, 134, 135, 136, 137, 138, 139, 5, 140, 141, 142, 143, 144, 145, 146, 147, 148, 149, 150, 151, 152, 693, 694, 695, 696, 697, 698, 699, 700, 701, 702] (by decide +kernel) (by decide +kernel)) (goodIn_sub (fun _ h => List.mem_append_right _ h) (by decide +kernel))) (goodIn_sub (fun _ h => List.mem_append_left _ (List.mem_append_right _ h)) (by decide +kernel))
set_option maxRecDepth 20000 in
theorem gL_law_X5_ofTune : GoodIn wsL_law (wsV RL 30 RX5 yX5_ofTune wsX5_ofTune) := goodIn_app (goodIn_of _ (by decide +kernel)) ggL_law_X5_ofTune
set_option maxRecDepth 20000 in
theorem ggL_law_X5_note : GoodIn wsL_law wsX5_note := goodIn_ca (goodIn_ca (goodIn_ca (goodIn_r _ [156, 100, 101, 94, 95, 21, 116, 117, 118, 119, 2, 120, 121, 122, 111, 97, 98, 99, 157, 158, 159, 20, 160, 38, 39, 161, 162, 163, 164, 165, 166, 167, 168, 169, 170, 171, 172, 693, 694, 695, 696, 697, 698, 699, 700, 701, 702] (by decide +kernel) (by decide +kernel)) (goodIn_sub (fun _ h => List.mem_append_left _ (List.mem_append_right _ h)) (by decide +kernel))) (goodIn_sub (fun _ h => List.mem_append_left _ (List.mem_append_left _ (List.mem_append_right _ h))) (by decide +kernel))) (goodIn_sub (fun _ h => List.mem_append_right _ h) (by decide +kernel))
set_option maxRecDepth 20000 in
theorem gL_law_X5_note : GoodIn wsL_law (wsV RL 33 RX5 yX5_note wsX5_note) := goodIn_app (goodIn_of _ (by decide +kernel)) ggL_law_X5_note
set_option maxRecDepth 20000 in
theorem ggL_law_X5_many : GoodIn wsL_law wsX5_many := goodIn_ca (goodIn_r _ [176, 27, 96, 21, 111, 25, 177, 178, 179, 180, 181, 31, 182, 183, 184, 185, 186, 187, 123, 124, 2, 125, 100, 101, 188, 189, 190, 46, 191, 106, 63, 192, 193, 194, 195, 29, 196, 197, 198, 50, 199, 200, 201, 202, 203, 72, 204, 205, 206, 207, 208, 209, 210, 211, 212, 213, 693, 694, 695, 696, 697, 698, 699, 714, 715, 716, 717, 718, 719, 700, 701, 702, 703, 704, 705, 706, 707, 708, 709, 710, 711, 712, 713, 722, 723, 724, 725, 726, 720, 721] (by decide +kernel) (by decide +kernel)) (goodIn_sub (fun _ h => List.mem_append_left _ (List.mem_append_right _ h)) (by decide +kernel))
set_option maxRecDepth 20000 in
theorem gL_law_X5_many : GoodIn wsL_law (wsV RL 42 RX5 yX5_many wsX5_many) := goodIn_app (goodIn_of _ (by decide +kernel)) ggL_law_X5_many
set_option maxRecDepth 20000 in
theorem ggL_law_X5_pin : GoodIn wsL_law wsX5_pin := goodIn_ca (goodIn_ca (goodIn_r _ [217, 29, 117, 118, 119, 2, 120, 121, 122, 21, 111, 218, 219, 220, 221, 222, 223, 100, 101, 224, 225, 226, 227, 116, 27, 228, 146, 147, 20, 148, 39, 229, 131, 132, 133, 230, 231, 232, 50, 233, 234, 235, 236, 72, 237, 238, 239, 240, 204, 205, 206, 207, 208, 209, 210, 211, 212, 213, 241, 242, 243, 244, 73, 245, 246, 247, 693, 694, 695, 696, 697, 698, 699, 700, 701, 702, 714, 715, 716, 717, 718, 719, 720, 721] (by decide +kernel) (by decide +kernel)) (goodIn_sub (fun _ h => List.mem_append_right _ h) (by decide +kernel))) (goodIn_sub (fun _ h => List.mem_append_left _ (List.mem_append_right _ h)) (by decide +kernel))
set_option maxRecDepth 20000 in
theorem gL_law_X5_pin : GoodIn wsL_law (wsV RL 45 RX5 yX5_pin wsX5_pin) := goodIn_app (goodIn_of _ (by decide +kernel)) ggL_law_X5_pin
set_option maxRecDepth 20000 in
theorem ggL_law_X5_pull : GoodIn wsL_law wsX5_pull := goodIn_ca (goodIn_r _ [251, 27, 96, 29, 218, 219, 2, 220, 121, 122, 252, 253, 254, 50, 255, 72, 256, 257, 258, 259, 260, 204, 205, 206, 261, 262, 263, 264, 73, 245, 246, 247, 693, 694, 695, 696, 697, 698, 699, 714, 715, 716, 717, 718, 719, 720, 721] (by decide +kernel) (by decide +kernel)) (goodIn_sub (fun _ h => List.mem_append_right _ h) (by decide +kernel))
set_option maxRecDepth 20000 in
theorem gL_law_X5_pull : GoodIn wsL_law (wsV RL 48 RX5 yX5_pull wsX5_pull) := goodIn_app (goodIn_of _ (by decide +kernel)) ggL_law_X5_pull
set_option maxRecDepth 20000 in
theorem ggL_law_X5_shift : GoodIn wsL_law wsX5_shift := goodIn_ca (goodIn_r _ [268, 25, 178, 218, 219, 2, 220, 121, 122, 693, 694, 695, 696, 697, 698, 699, 703, 704, 705, 706, 707, 708, 709, 710, 711, 712, 713] (by decide +kernel) (by decide +kernel)) (goodIn_sub (fun _ h => List.mem_append_right _ h) (by decide +kernel))
set_option maxRecDepth 20000 in
theorem gL_law_X5_shift : GoodIn wsL_law (wsV RL 52 RX5 yX5_shift wsX5_shift) := goodIn_app (goodIn_of _ (by decide +kernel)) ggL_law_X5_shift
set_option maxRecDepth 20000 in
theorem ggL_law_X5_wind : GoodIn wsL_law wsX5_wind := goodIn_ca (goodIn_r _ [272, 100, 101, 25, 179, 186, 273, 8, 5, 9, 693, 694, 695, 696, 697, 698, 699, 703, 704, 705, 706, 707, 708, 709, 710, 711, 712, 713] (by decide +kernel) (by decide +kernel)) (goodIn_sub (fun _ h => List.mem_append_left _ (List.mem_append_right _ h)) (by decide +kernel))
set_option maxRecDepth 20000 in
theorem gL_law_X5_wind : GoodIn wsL_law (wsV RL 55 RX5 yX5_wind wsX5_wind) := goodIn_app (goodIn_of _ (by decide +kernel)) ggL_law_X5_wind
set_option maxRecDepth 20000 in
theorem ggL_law_X5_govern : GoodIn wsL_law wsX5_govern := goodIn_ca (goodIn_r _ [277, 100, 101, 25, 180, 278, 279, 280, 2, 281, 282, 283, 284, 24, 285, 286, 56, 287, 288, 693, 694, 695, 696, 697, 698, 699, 703, 704, 705, 706, 707, 708, 709, 710, 711, 712, 713] (by decide +kernel) (by decide +kernel)) (goodIn_sub (fun _ h => List.mem_append_left _ (List.mem_append_right _ h)) (by decide +kernel))
set_option maxRecDepth 20000 in
theorem gL_law_X5_govern : GoodIn wsL_law (wsV RL 61 RX5 yX5_govern wsX5_govern) := goodIn_app (goodIn_of _ (by decide +kernel)) ggL_law_X5_govern
set_option maxRecDepth 20000 in
theorem ggL_law_X5_speed : GoodIn wsL_law wsX5_speed := goodIn_r _ [281, 25, 282, 283, 284, 24, 285, 286, 56, 287, 288, 693, 694, 695, 696, 697, 698, 699, 703, 704, 705, 706, 707, 708, 709, 710, 711, 712, 713] (by decide +kernel) (by decide +kernel)
set_option maxRecDepth 20000 in
theorem gL_law_X5_speed : GoodIn wsL_law (wsV RL 65 RX5 yX5_speed wsX5_speed) := goodIn_app (goodIn_of _ (by decide +kernel)) ggL_law_X5_speed
set_option maxRecDepth 20000 in
theorem ggL_law_X5_mend : GoodIn wsL_law wsX5_mend := goodIn_r _ [293, 27, 96, 29, 294, 295, 296, 46, 297, 63, 64, 298, 299, 300, 50, 301, 73, 257, 258, 259, 260, 72, 204, 205, 206, 261, 262, 263, 264, 245, 246, 247, 693, 694, 695, 696, 697, 698, 699, 714, 715, 716, 717, 718, 719, 720, 721] (by decide +kernel) (by decide +kernel)
set_option maxRecDepth 20000 in
theorem gL_law_X5_mend : GoodIn wsL_law (wsV RL 73 RX5 yX5_mend wsX5_mend) := goodIn_app (goodIn_of _ (by decide +kernel)) ggL_law_X5_mend
set_option maxRecDepth 20000 in
theorem ggL_law_X5_ofTooth : GoodIn wsL_law wsX5_ofTooth := goodIn_ca (goodIn_ca (goodIn_r _ [305, 27, 306, 307, 308, 309, 29, 310, 311, 312, 2, 313, 121, 122, 96, 123, 124, 125, 100, 101, 196, 197, 198, 50, 199, 200, 201, 202, 203, 72, 204, 205, 206, 207, 208, 209, 210, 211, 212, 213, 693, 694, 695, 696, 697, 698, 699, 714, 715, 716, 717, 718, 719, 720, 721] (by decide +kernel) (by decide +kernel)) (goodIn_sub (fun _ h => List.mem_append_right _ h) (by decide +kernel))) (goodIn_sub (fun _ h => List.mem_append_left _ (List.mem_append_right _ h)) (by decide +kernel))
set_option maxRecDepth 20000 in
theorem gL_law_X5_ofTooth : GoodIn wsL_law (wsV RL 76 RX5 yX5_ofTooth wsX5_ofTooth) := goodIn_app (goodIn_of _ (by decide +kernel)) ggL_law_X5_ofTooth
set_option maxRecDepth 20000 in
theorem ggL_law_X5_file : GoodIn wsL_law wsX5_file := goodIn_ca (goodIn_ca (goodIn_r _ [317, 27, 306, 310, 311, 312, 2, 313, 121, 122, 96, 97, 98, 99, 100, 101, 693, 694, 695, 696, 697, 698, 699, 714, 715, 716, 717, 718, 719] (by decide +kernel) (by decide +kernel)) (goodIn_sub (fun _ h => List.mem_append_right _ h) (by decide +kernel))) (goodIn_sub (fun _ h => List.mem_append_left _ (List.mem_append_right _ h)) (by decide +kernel))
set_option maxRecDepth 20000 in
theorem gL_law_X5_file : GoodIn wsL_law (wsV RL 79 RX5 yX5_file wsX5_file) := goodIn_app (goodIn_of _ (by decide +kernel)) ggL_law_X5_file
end
section
theorem xk_td {big ws : List Cond} (n : Nat) (h1 : GoodIn big (ws.take n)) (h2 : GoodIn big (ws.drop n)) : GoodIn big ws := by
  have h := goodIn_app h1 h2
  rw [List.take_append_drop] at h
  exact h
def wsL_isPlayed_core : List Cond := .code yL_isPlayed cL_isPlayed 15 (some .boolean) :: ((wsL_isPlayed_r1 ++ (wsL_isPlayed_r2 ++ (wsL_isPlayed_r3 ++ (wsL_isPlayed_r4 ++ (wsL_isPlayed_r5 ++ (wsL_isPlayed_r6 ++ (wsL_isPlayed_r7 ++ wsL_isPlayed_r8))))))) ++ wsX50 ++ wsX10 ++ wsX00 ++ wsX30 ++ wsX40 ++ wsX20)
set_option maxRecDepth 20000 in
theorem ggL_law_L_isPlayed_p0 : GoodIn wsL_law ((wsL_isPlayed_core.drop 0).take 90) := goodIn_r _ [320, 7, 8, 5, 9, 321, 139, 140, 322, 323, 83, 324, 302, 303, 304, 2, 305, 27, 306, 307, 308, 309, 29, 310, 311, 312, 313, 121, 122, 96, 123, 124, 125, 100, 101, 196, 197, 198, 50, 199, 200, 201, 202, 203, 72, 204, 205, 206, 207, 208, 209, 210, 211, 212, 213, 173, 174, 175, 176, 21, 111, 25, 177, 178, 179, 180, 181, 31, 182, 183, 184, 185, 186, 187, 188, 189, 190, 46, 191, 106, 63, 192, 193, 194, 195, 325, 326, 327, 328, 32] (by decide +kernel) (by decide +kernel)
set_option maxRecDepth 20000 in
theorem ggL_law_L_isPlayed_p90 : GoodIn wsL_law ((wsL_isPlayed_core.drop 90).take 90) := goodIn_r _ [329, 330, 331, 332, 333, 334, 24, 335, 47, 51, 336, 287, 56, 337, 338, 339, 340, 341, 342, 343, 344, 345, 61, 64, 65, 66, 346, 347, 348, 349, 350, 351, 352, 353, 354, 355, 356, 357, 73, 245, 246, 247, 358, 359, 360, 361, 362, 363, 364, 365, 366, 367, 368, 369, 370, 283, 284, 285, 286, 288, 371, 258, 259, 260, 372, 373, 374, 375, 55, 376, 377, 378, 379, 380, 381, 382, 383, 54, 384, 385, 78, 80, 386, 387, 388, 389, 390, 391, 392, 393] (by decide +kernel) (by decide +kernel)
set_option maxRecDepth 20000 in
theorem ggL_law_L_isPlayed_p180 : GoodIn wsL_law ((wsL_isPlayed_core.drop 180).take 90) := goodIn_r _ [394, 395, 256, 396, 397, 398, 399, 400, 401, 402, 403, 404, 693, 694, 695, 696, 697, 698, 699, 714, 715, 716, 717, 718, 719, 720, 721, 700, 701, 702, 703, 704, 705, 706, 707, 708, 709, 710, 711, 712, 713, 722, 723, 724, 725, 726] (by decide +kernel) (by decide +kernel)
theorem ggL_law_L_isPlayed_z : GoodIn wsL_law (wsL_isPlayed_core.drop 270) := by rw [show wsL_isPlayed_core.drop 270 = [] from by decide +kernel]; exact fun _ h => absurd h List.not_mem_nil
theorem ggL_law_L_isPlayed_c180 : GoodIn wsL_law (wsL_isPlayed_core.drop 180) := xk_td 90 ggL_law_L_isPlayed_p180 (by rw [List.drop_drop]; exact ggL_law_L_isPlayed_z)
theorem ggL_law_L_isPlayed_c90 : GoodIn wsL_law (wsL_isPlayed_core.drop 90) := xk_td 90 ggL_law_L_isPlayed_p90 (by rw [List.drop_drop]; exact ggL_law_L_isPlayed_c180)
theorem ggL_law_L_isPlayed_c0 : GoodIn wsL_law (wsL_isPlayed_core.drop 0) := xk_td 90 ggL_law_L_isPlayed_p0 (by rw [List.drop_drop]; exact ggL_law_L_isPlayed_c90)
theorem ggL_law_L_isPlayed_core : GoodIn wsL_law wsL_isPlayed_core := ggL_law_L_isPlayed_c0
theorem ggL_law_L_isPlayed : GoodIn wsL_law wsL_isPlayed := goodIn_ca (goodIn_ca ggL_law_L_isPlayed_core (goodIn_sub (fun _ h => List.mem_append_right _ h) (by decide +kernel))) (goodIn_sub (fun _ h => List.mem_append_left _ (List.mem_append_right _ h)) (by decide +kernel))
set_option maxRecDepth 20000 in
theorem gL_law_L_isPlayed : GoodIn wsL_law (va_wsS RL 82 yL_isPlayed wsL_isPlayed) := goodIn_app (goodIn_of _ (by decide +kernel)) ggL_law_L_isPlayed
def wsL_areWell_core : List Cond := .code yL_areWell cL_areWell 11 (some .boolean) :: ((wsL_areWell_r1 ++ (wsL_areWell_r2 ++ (wsL_areWell_r3 ++ (wsL_areWell_r4 ++ (wsL_areWell_r5 ++ (wsL_areWell_r6 ++ (wsL_areWell_r7 ++ (wsL_areWell_r8 ++ (wsL_areWell_r9 ++ (wsL_areWell_r10 ++ (wsL_areWell_r11 ++ (wsL_areWell_r12 ++ (wsL_areWell_r13 ++ (wsL_areWell_r14 ++ wsL_areWell_r15)))))))))))))) ++ wsX50 ++ wsX10 ++ wsX00 ++ wsX30 ++ wsX40 ++ wsX20 ++ wsJ40 ++ wsJ00)
set_option maxRecDepth 20000 in
theorem ggL_law_L_areWell_p0 : GoodIn wsL_law ((wsL_areWell_core.drop 0).take 90) := goodIn_r _ [407, 7, 8, 5, 9, 302, 303, 304, 2, 305, 27, 306, 307, 308, 309, 29, 310, 311, 312, 313, 121, 122, 96, 123, 124, 125, 100, 101, 196, 197, 198, 50, 199, 200, 201, 202, 203, 72, 204, 205, 206, 207, 208, 209, 210, 211, 212, 213, 408, 409, 410, 411, 218, 219, 220, 412, 413, 414, 415, 416, 173, 174, 175, 176, 21, 111, 25, 177, 178, 179, 180, 181, 31, 182, 183, 184, 185, 186, 187, 188, 189, 190, 46, 191, 106, 63, 192, 193, 194, 195] (by decide +kernel) (by decide +kernel)
set_option maxRecDepth 20000 in
theorem ggL_law_L_areWell_p90 : GoodIn wsL_law ((wsL_areWell_core.drop 90).take 90) := goodIn_r _ [417, 418, 419, 420, 421, 422, 423, 424, 425, 426, 427, 428, 54, 429, 80, 388, 389, 390, 391, 387, 430, 431, 432, 433, 434, 435, 436, 437, 438, 439, 440, 441, 78, 442, 443, 444, 445, 446, 447, 448, 449, 450, 451, 452, 453, 454, 455, 456, 457, 458, 459, 16, 17, 460, 461, 462, 463, 464, 465, 466, 467, 468, 469, 470, 471, 472, 473, 474, 475, 476, 258, 259, 260, 477, 478, 479, 480, 481, 482, 483, 484, 485, 486, 487, 488, 489, 490, 491, 492, 493] (by decide +kernel) (by decide +kernel)
set_option maxRecDepth 20000 in
theorem ggL_law_L_areWell_p180 : GoodIn wsL_law ((wsL_areWell_core.drop 180).take 90) := goodIn_r _ [494, 495, 496, 497, 498, 499, 500, 501, 502, 139, 140, 503, 504, 505, 506, 507, 508, 509, 510, 511, 512, 513, 514, 515, 516, 517, 518, 351, 352, 353, 519, 520, 521, 522, 523, 524, 525, 526, 527, 528, 529, 530, 531, 532, 533, 534, 535, 536, 537, 538, 539, 540, 541, 542, 543, 544, 545, 546, 547, 548, 549, 550, 551, 552, 553, 554, 555, 556, 557, 558, 559, 560, 561, 562, 563, 564, 565, 566, 567, 568, 569, 570, 571, 572, 573, 574, 575, 576, 577, 578] (by decide +kernel) (by decide +kernel)
set_option maxRecDepth 20000 in
theorem ggL_law_L_areWell_p270 : GoodIn wsL_law ((wsL_areWell_core.drop 270).take 90) := goodIn_r _ [579, 580, 581, 582, 583, 584, 585, 586, 587, 588, 589, 590, 591, 592, 593, 594, 595, 596, 597, 598, 599, 600, 601, 602, 603, 604, 605, 606, 607, 608, 609, 610, 611, 612, 613, 614, 615, 616, 617, 618, 619, 620, 621, 622, 623, 624, 625, 626, 627, 628, 629, 630, 631, 632, 633, 634, 635, 636, 637, 638, 262, 263, 264, 73, 245, 246, 247, 639, 640, 641, 642, 643, 644, 645, 646, 647, 648, 649, 650, 651, 652, 653, 693, 694, 695, 696, 697, 698, 699, 714] (by decide +kernel) (by decide +kernel)
set_option maxRecDepth 20000 in
theorem ggL_law_L_areWell_p360 : GoodIn wsL_law ((wsL_areWell_core.drop 360).take 90) := goodIn_r _ [715, 716, 717, 718, 719, 720, 721, 700, 701, 702, 703, 704, 705, 706, 707, 708, 709, 710, 711, 712, 713, 722, 723, 724, 725, 726, 727, 728, 729, 730, 731, 732, 733, 734] (by decide +kernel) (by decide +kernel)
theorem ggL_law_L_areWell_z : GoodIn wsL_law (wsL_areWell_core.drop 450) := by rw [show wsL_areWell_core.drop 450 = [] from by decide +kernel]; exact fun _ h => absurd h List.not_mem_nil
theorem ggL_law_L_areWell_c360 : GoodIn wsL_law (wsL_areWell_core.drop 360) := xk_td 90 ggL_law_L_areWell_p360 (by rw [List.drop_drop]; exact ggL_law_L_areWell_z)
theorem ggL_law_L_areWell_c270 : GoodIn wsL_law (wsL_areWell_core.drop 270) := xk_td 90 ggL_law_L_areWell_p270 (by rw [List.drop_drop]; exact ggL_law_L_areWell_c360)
theorem ggL_law_L_areWell_c180 : GoodIn wsL_law (wsL_areWell_core.drop 180) := xk_td 90 ggL_law_L_areWell_p180 (by rw [List.drop_drop]; exact ggL_law_L_areWell_c270)
theorem ggL_law_L_areWell_c90 : GoodIn wsL_law (wsL_areWell_core.drop 90) := xk_td 90 ggL_law_L_areWell_p90 (by rw [List.drop_drop]; exact ggL_law_L_areWell_c180)
theorem ggL_law_L_areWell_c0 : GoodIn wsL_law (wsL_areWell_core.drop 0) := xk_td 90 ggL_law_L_areWell_p0 (by rw [List.drop_drop]; exact ggL_law_L_areWell_c90)
theorem ggL_law_L_areWell_core : GoodIn wsL_law wsL_areWell_core := ggL_law_L_areWell_c0
theorem ggL_law_L_areWell : GoodIn wsL_law wsL_areWell := goodIn_ca (goodIn_ca ggL_law_L_areWell_core (goodIn_sub (fun _ h => List.mem_append_right _ h) (by decide +kernel))) (goodIn_sub (fun _ h => List.mem_append_left _ (List.mem_append_right _ h)) (by decide +kernel))
set_option maxRecDepth 20000 in
theorem gL_law_L_areWell : GoodIn wsL_law (va_wsS RL 86 yL_areWell wsL_areWell) := goodIn_app (goodIn_of _ (by decide +kernel)) ggL_law_L_areWell
def wsX5_digest_core : List Cond := .code yX5_digest cX5_digest 4 (some .long) :: ((wsX5_digest_r1 ++ (wsX5_digest_r2 ++ (wsX5_digest_r3 ++ (wsX5_digest_r4 ++ (wsX5_digest_r5 ++ (wsX5_digest_r6 ++ (wsX5_digest_r7 ++ (wsX5_digest_r8 ++ (wsX5_digest_r9 ++ (wsX5_digest_r10 ++ (wsX5_digest_r11 ++ wsX5_digest_r12))))))))))) ++ wsX50 ++ wsX10 ++ wsX30 ++ wsX20 ++ wsX40 ++ wsX00)
set_option maxRecDepth 20000 in
theorem ggL_law_X5_digest_p0 : GoodIn wsL_law ((wsX5_digest_core.drop 0).take 90) := goodIn_r _ [657, 658, 659, 27, 96, 21, 111, 31, 183, 421, 660, 174, 175, 2, 176, 25, 177, 178, 179, 180, 181, 182, 184, 185, 186, 187, 123, 124, 125, 100, 101, 188, 189, 190, 46, 191, 106, 63, 192, 193, 194, 195, 29, 196, 197, 198, 50, 199, 200, 201, 202, 203, 72, 204, 205, 206, 207, 208, 209, 210, 211, 212, 213, 661, 662, 663, 664, 665, 303, 304, 305, 306, 307, 308, 309, 310, 311, 312, 313, 121, 122, 412, 666, 667, 668, 669, 670, 113, 114, 115] (by decide +kernel) (by decide +kernel)
set_option maxRecDepth 20000 in
theorem ggL_law_X5_digest_p90 : GoodIn wsL_law ((wsX5_digest_core.drop 90).take 90) := goodIn_r _ [116, 117, 118, 119, 120, 126, 127, 128, 20, 129, 38, 130, 131, 132, 133, 39, 134, 135, 136, 137, 138, 139, 5, 140, 141, 142, 143, 144, 145, 146, 147, 148, 149, 150, 151, 152, 671, 672, 673, 674, 218, 219, 220, 675, 676, 677, 678, 32, 28, 679, 347, 348, 349, 350, 351, 352, 353, 224, 225, 226, 227, 228, 229, 230, 231, 232, 233, 234, 235, 236, 237, 238, 239, 240, 241, 242, 243, 244, 73, 245, 246, 247, 438, 439, 440, 54, 441, 78, 388, 389] (by decide +kernel) (by decide +kernel)
set_option maxRecDepth 20000 in
theorem ggL_law_X5_digest_p180 : GoodIn wsL_law ((wsX5_digest_core.drop 180).take 90) := goodIn_r _ [390, 391, 387, 426, 427, 428, 429, 80, 680, 397, 398, 399, 332, 333, 334, 24, 335, 47, 51, 336, 287, 56, 337, 338, 339, 340, 341, 342, 343, 344, 345, 61, 64, 65, 66, 346, 354, 355, 356, 357, 400, 363, 364, 365, 366, 367, 368, 369, 370, 283, 284, 285, 286, 288, 371, 258, 259, 260, 372, 373, 374, 375, 55, 376, 377, 378, 379, 380, 381, 382, 383, 384, 385, 386, 392, 393, 394, 395, 256, 681, 326, 327, 328, 329, 330, 331, 358, 359, 360, 361] (by decide +kernel) (by decide +kernel)
set_option maxRecDepth 20000 in
theorem ggL_law_X5_digest_p270 : GoodIn wsL_law ((wsX5_digest_core.drop 270).take 90) := goodIn_r _ [362, 693, 694, 695, 696, 697, 698, 699, 714, 715, 716, 717, 718, 719, 700, 701, 702, 722, 723, 724, 725, 726, 703, 704, 705, 706, 707, 708, 709, 710, 711, 712, 713, 720, 721] (by decide +kernel) (by decide +kernel)
theorem ggL_law_X5_digest_z : GoodIn wsL_law (wsX5_digest_core.drop 360) := by rw [show wsX5_digest_core.drop 360 = [] from by decide +kernel]; exact fun _ h => absurd h List.not_mem_nil
theorem ggL_law_X5_digest_c270 : GoodIn wsL_law (wsX5_digest_core.drop 270) := xk_td 90 ggL_law_X5_digest_p270 (by rw [List.drop_drop]; exact ggL_law_X5_digest_z)
theorem ggL_law_X5_digest_c180 : GoodIn wsL_law (wsX5_digest_core.drop 180) := xk_td 90 ggL_law_X5_digest_p180 (by rw [List.drop_drop]; exact ggL_law_X5_digest_c270)
theorem ggL_law_X5_digest_c90 : GoodIn wsL_law (wsX5_digest_core.drop 90) := xk_td 90 ggL_law_X5_digest_p90 (by rw [List.drop_drop]; exact ggL_law_X5_digest_c180)
theorem ggL_law_X5_digest_c0 : GoodIn wsL_law (wsX5_digest_core.drop 0) := xk_td 90 ggL_law_X5_digest_p0 (by rw [List.drop_drop]; exact ggL_law_X5_digest_c90)
theorem ggL_law_X5_digest_core : GoodIn wsL_law wsX5_digest_core := ggL_law_X5_digest_c0
end
section
theorem ggL_law_X5_digest : GoodIn wsL_law wsX5_digest := goodIn_ca (goodIn_ca ggL_law_X5_digest_core (goodIn_sub (fun _ h => List.mem_append_left _ (List.mem_append_right _ h)) (by decide +kernel))) (goodIn_sub (fun _ h => List.mem_append_right _ h) (by decide +kernel))
set_option maxRecDepth 20000 in
theorem gL_law_X5_digest : GoodIn wsL_law (wsV RL 90 RX5 yX5_digest wsX5_digest) := goodIn_app (goodIn_of _ (by decide +kernel)) ggL_law_X5_digest
set_option maxRecDepth 20000 in
theorem ggL_law_X5_bestKey : GoodIn wsL_law wsX5_bestKey := goodIn_ca (goodIn_r _ [674, 117, 118, 119, 2, 120, 121, 122, 21, 111, 218, 219, 220, 675, 676, 677, 678, 32, 28, 29, 679, 347, 348, 50, 349, 72, 350, 351, 352, 353, 204, 205, 206, 224, 225, 226, 227, 116, 27, 228, 146, 147, 20, 148, 39, 229, 131, 132, 133, 230, 231, 232, 233, 234, 235, 236, 237, 238, 239, 240, 207, 208, 209, 210, 211, 212, 213, 241, 242, 243, 244, 73, 245, 246, 247, 693, 694, 695, 696, 697, 698, 699, 700, 701, 702, 703, 704, 705, 706, 707, 708, 709, 710, 711, 712, 713, 720, 721, 714, 715, 716, 717, 718, 719] (by decide +kernel) (by decide +kernel)) (goodIn_sub (fun _ h => List.mem_append_right _ h) (by decide +kernel))
set_option maxRecDepth 20000 in
theorem gL_law_X5_bestKey : GoodIn wsL_law (wsV RL 94 RX5 yX5_bestKey wsX5_bestKey) := goodIn_app (goodIn_of _ (by decide +kernel)) ggL_law_X5_bestKey
set_option maxRecDepth 20000 in
theorem ggL_law_X5_likeness : GoodIn wsL_law wsX5_likeness := goodIn_ca (goodIn_ca (goodIn_r _ [686, 21, 116, 687, 139, 5, 140, 117, 118, 119, 2, 120, 121, 122, 111, 221, 222, 223, 100, 101, 688, 689, 690, 20, 691, 38, 130, 131, 132, 133, 39, 145, 146, 147, 148, 692, 158, 159, 160, 161, 162, 163, 164, 693, 694, 695, 696, 697, 698, 699, 700, 701, 702] (by decide +kernel) (by decide +kernel)) (goodIn_sub (fun _ h => List.mem_append_right _ h) (by decide +kernel))) (goodIn_sub (fun _ h => List.mem_append_left _ (List.mem_append_right _ h)) (by decide +kernel))
set_option maxRecDepth 20000 in
theorem gL_law_X5_likeness : GoodIn wsL_law (wsV RL 97 RX5 yX5_likeness wsX5_likeness) := goodIn_app (goodIn_of _ (by decide +kernel)) ggL_law_X5_likeness
theorem dL_law_0 : decode cL_law 0 = .ok (.new 9, 3) := by decide +kernel
theorem dL_law_3 : decode cL_law 3 = .ok (.dup, 1) := by decide +kernel
theorem dL_law_4 : decode cL_law 4 = .ok (.invokespecial 11, 3) := by decide +kernel
theorem dL_law_7 : decode cL_law 7 = .ok (.astore_n 1, 1) := by decide +kernel
theorem dL_law_8 : decode cL_law 8 = .ok (.iconst 3, 1) := by decide +kernel
theorem dL_law_9 : decode cL_law 9 = .ok (.aload_n 0, 1) := by decide +kernel
theorem dL_law_10 : decode cL_law 10 = .ok (.iconst 0, 1) := by decide +kernel
theorem dL_law_11 : decode cL_law 11 = .ok (.invokestatic 12, 3) := by decide +kernel
theorem dL_law_14 : decode cL_law 14 = .ok (.bipush 10, 2) := by decide +kernel
theorem dL_law_16 : decode cL_law 16 = .ok (.invokestatic 18, 3) := by decide +kernel
theorem dL_law_19 : decode cL_law 19 = .ok (.iadd, 1) := by decide +kernel
theorem dL_law_20 : decode cL_law 20 = .ok (.istore_n 2, 1) := by decide +kernel
theorem dL_law_21 : decode cL_law 21 = .ok (.iconst 0, 1) := by decide +kernel
theorem dL_law_22 : decode cL_law 22 = .ok (.istore_n 3, 1) := by decide +kernel
theorem dL_law_23 : decode cL_law 23 = .ok (.iload_n 3, 1) := by decide +kernel
theorem dL_law_24 : decode cL_law 24 = .ok (.iload_n 2, 1) := by decide +kernel
theorem dL_law_25 : decode cL_law 25 = .ok (.if_icmp .ge 34, 3) := by decide +kernel
theorem dL_law_28 : decode cL_law 28 = .ok (.aload_n 1, 1) := by decide +kernel
theorem dL_law_29 : decode cL_law 29 = .ok (.bipush 20, 2) := by decide +kernel
theorem dL_law_31 : decode cL_law 31 = .ok (.aload_n 0, 1) := by decide +kernel
theorem dL_law_32 : decode cL_law 32 = .ok (.iload_n 3, 1) := by decide +kernel
theorem dL_law_33 : decode cL_law 33 = .ok (.invokestatic 12, 3) := by decide +kernel
theorem dL_law_36 : decode cL_law 36 = .ok (.iload_n 3, 1) := by decide +kernel
theorem dL_law_37 : decode cL_law 37 = .ok (.iadd, 1) := by decide +kernel
theorem dL_law_38 : decode cL_law 38 = .ok (.bipush 8, 2) := by decide +kernel
theorem dL_law_40 : decode cL_law 40 = .ok (.invokestatic 18, 3) := by decide +kernel
theorem dL_law_43 : decode cL_law 43 = .ok (.iadd, 1) := by decide +kernel
theorem dL_law_44 : decode cL_law 44 = .ok (.invokevirtual 22, 3) := by decide +kernel
theorem dL_law_47 : decode cL_law 47 = .ok (.iload_n 3, 1) := by decide +kernel
theorem dL_law_48 : decode cL_law 48 = .ok (.if_icmp .eq 5, 3) := by decide +kernel
theorem dL_law_51 : decode cL_law 51 = .ok (.iconst 0, 1) := by decide +kernel
theorem dL_law_52 : decode cL_law 52 = .ok (.ireturn, 1) := by decide +kernel
theorem dL_law_53 : decode cL_law 53 = .ok (.iinc 3 1, 3) := by decide +kernel
theorem dL_law_56 : decode cL_law 56 = .ok (.goto (-33), 3) := by decide +kernel
theorem dL_law_59 : decode cL_law 59 = .ok (.aload_n 1, 1) := by decide +kernel
theorem dL_law_60 : decode cL_law 60 = .ok (.invokevirtual 26, 3) := by decide +kernel
theorem dL_law_63 : decode cL_law 63 = .ok (.ifCond .ne 11, 3) := by decide +kernel
theorem dL_law_66 : decode cL_law 66 = .ok (.aload_n 1, 1) := by decide +kernel
theorem dL_law_67 : decode cL_law 67 = .ok (.invokevirtual 26, 3) := by decide +kernel
theorem dL_law_70 : decode cL_law 70 = .ok (.iconst 1, 1) := by decide +kernel
theorem dL_law_71 : decode cL_law 71 = .ok (.if_icmp .eq 5, 3) := by decide +kernel
theorem dL_law_74 : decode cL_law 74 = .ok (.iconst 0, 1) := by decide +kernel
theorem dL_law_75 : decode cL_law 75 = .ok (.ireturn, 1) := by decide +kernel
theorem dL_law_76 : decode cL_law 76 = .ok (.iconst 0, 1) := by decide +kernel
theorem dL_law_77 : decode cL_law 77 = .ok (.istore_n 3, 1) := by decide +kernel
theorem dL_law_78 : decode cL_law 78 = .ok (.iload_n 3, 1) := by decide +kernel
theorem dL_law_79 : decode cL_law 79 = .ok (.bipush 50, 2) := by decide +kernel
theorem dL_law_81 : decode cL_law 81 = .ok (.if_icmp .ge 560, 3) := by decide +kernel
theorem dL_law_84 : decode cL_law 84 = .ok (.aload_n 0, 1) := by decide +kernel
theorem dL_law_85 : decode cL_law 85 = .ok (.iload_n 3, 1) := by decide +kernel
theorem dL_law_86 : decode cL_law 86 = .ok (.bipush 16, 2) := by decide +kernel
theorem dL_law_88 : decode cL_law 88 = .ok (.irem, 1) := by decide +kernel
theorem dL_law_89 : decode cL_law 89 = .ok (.invokestatic 12, 3) := by decide +kernel
theorem dL_law_92 : decode cL_law 92 = .ok (.bipush 31, 2) := by decide +kernel
theorem dL_law_94 : decode cL_law 94 = .ok (.iload_n 3, 1) := by decide +kernel
theorem dL_law_95 : decode cL_law 95 = .ok (.imul, 1) := by decide +kernel
theorem dL_law_96 : decode cL_law 96 = .ok (.iadd, 1) := by decide +kernel
theorem dL_law_97 : decode cL_law 97 = .ok (.istore 4, 2) := by decide +kernel
theorem dL_law_99 : decode cL_law 99 = .ok (.aload_n 0, 1) := by decide +kernel
theorem dL_law_100 : decode cL_law 100 = .ok (.bipush 7, 2) := by decide +kernel
theorem dL_law_102 : decode cL_law 102 = .ok (.iload_n 3, 1) := by decide +kernel
theorem dL_law_103 : decode cL_law 103 = .ok (.imul, 1) := by decide +kernel
theorem dL_law_104 : decode cL_law 104 = .ok (.iconst 3, 1) := by decide +kernel
theorem dL_law_105 : decode cL_law 105 = .ok (.iadd, 1) := by decide +kernel
theorem dL_law_106 : decode cL_law 106 = .ok (.bipush 16, 2) := by decide +kernel
theorem dL_law_108 : decode cL_law 108 = .ok (.irem, 1) := by decide +kernel
theorem dL_law_109 : decode cL_law 109 = .ok (.invokestatic 12, 3) := by decide +kernel
theorem dL_law_112 : decode cL_law 112 = .ok (.iconst 5, 1) := by decide +kernel
theorem dL_law_113 : decode cL_law 113 = .ok (.iload_n 3, 1) := by decide +kernel
theorem dL_law_114 : decode cL_law 114 = .ok (.imul, 1) := by decide +kernel
theorem dL_law_115 : decode cL_law 115 = .ok (.iadd, 1) := by decide +kernel
theorem dL_law_116 : decode cL_law 116 = .ok (.istore 5, 2) := by decide +kernel
theorem dL_law_118 : decode cL_law 118 = .ok (.iload 5, 2) := by decide +kernel
theorem dL_law_120 : decode cL_law 120 = .ok (.iconst 2, 1) := by decide +kernel
theorem dL_law_121 : decode cL_law 121 = .ok (.invokestatic 18, 3) := by decide +kernel
theorem dL_law_124 : decode cL_law 124 = .ok (.istore 6, 2) := by decide +kernel
theorem dL_law_126 : decode cL_law 126 = .ok (.iload 4, 2) := by decide +kernel
theorem dL_law_128 : decode cL_law 128 = .ok (.bipush 17, 2) := by decide +kernel
theorem dL_law_130 : decode cL_law 130 = .ok (.idiv, 1) := by decide +kernel
theorem dL_law_131 : decode cL_law 131 = .ok (.iconst 3, 1) := by decide +kernel
theorem dL_law_132 : decode cL_law 132 = .ok (.invokestatic 18, 3) := by decide +kernel
theorem dL_law_135 : decode cL_law 135 = .ok (.istore 7, 2) := by decide +kernel
theorem dL_law_137 : decode cL_law 137 = .ok (.iload 4, 2) := by decide +kernel
theorem dL_law_139 : decode cL_law 139 = .ok (.bipush 17, 2) := by decide +kernel
theorem dL_law_141 : decode cL_law 141 = .ok (.invokestatic 18, 3) := by decide +kernel
theorem dL_law_144 : decode cL_law 144 = .ok (.tableswitch 461 0 12 #[68, 68, 68, 172, 172, 172, 223, 267, 289, 289, 335, 380, 397], 68) := by decide +kernel
theorem dL_law_212 : decode cL_law 212 = .ok (.iconst 0, 1) := by decide +kernel
theorem dL_law_213 : decode cL_law 213 = .ok (.istore 8, 2) := by decide +kernel
theorem dL_law_215 : decode cL_law 215 = .ok (.iload 8, 2) := by decide +kernel
theorem dL_law_217 : decode cL_law 217 = .ok (.iconst 5, 1) := by decide +kernel
theorem dL_law_218 : decode cL_law 218 = .ok (.if_icmp .ge 95, 3) := by decide +kernel
theorem dL_law_221 : decode cL_law 221 = .ok (.aload_n 1, 1) := by decide +kernel
theorem dL_law_222 : decode cL_law 222 = .ok (.iload 6, 2) := by decide +kernel
theorem dL_law_224 : decode cL_law 224 = .ok (.iconst 0, 1) := by decide +kernel
theorem dL_law_225 : decode cL_law 225 = .ok (.invokevirtual 30, 3) := by decide +kernel
theorem dL_law_228 : decode cL_law 228 = .ok (.istore 9, 2) := by decide +kernel
theorem dL_law_230 : decode cL_law 230 = .ok (.iload 9, 2) := by decide +kernel
theorem dL_law_232 : decode cL_law 232 = .ok (.bipush 30, 2) := by decide +kernel
theorem dL_law_234 : decode cL_law 234 = .ok (.if_icmp .ne 6, 3) := by decide +kernel
theorem dL_law_237 : decode cL_law 237 = .ok (.goto 76, 3) := by decide +kernel
theorem dL_law_240 : decode cL_law 240 = .ok (.aload_n 1, 1) := by decide +kernel
theorem dL_law_241 : decode cL_law 241 = .ok (.iload 6, 2) := by decide +kernel
theorem dL_law_243 : decode cL_law 243 = .ok (.iload 5, 2) := by decide +kernel
theorem dL_law_245 : decode cL_law 245 = .ok (.iconst 3, 1) := by decide +kernel
theorem dL_law_246 : decode cL_law 246 = .ok (.idiv, 1) := by decide +kernel
theorem dL_law_247 : decode cL_law 247 = .ok (.bipush 13, 2) := by decide +kernel
theorem dL_law_249 : decode cL_law 249 = .ok (.iload 8, 2) := by decide +kernel
theorem dL_law_251 : decode cL_law 251 = .ok (.imul, 1) := by decide +kernel
theorem dL_law_252 : decode cL_law 252 = .ok (.iadd, 1) := by decide +kernel
theorem dL_law_253 : decode cL_law 253 = .ok (.bipush 64, 2) := by decide +kernel
theorem dL_law_255 : decode cL_law 255 = .ok (.invokestatic 18, 3) := by decide +kernel
theorem dL_law_258 : decode cL_law 258 = .ok (.bipush 19, 2) := by decide +kernel
theorem dL_law_260 : decode cL_law 260 = .ok (.iload 4, 2) := by decide +kernel
theorem dL_law_262 : decode cL_law 262 = .ok (.iconst 3, 1) := by decide +kernel
theorem dL_law_263 : decode cL_law 263 = .ok (.idiv, 1) := by decide +kernel
theorem dL_law_264 : decode cL_law 264 = .ok (.bipush 7, 2) := by decide +kernel
theorem dL_law_266 : decode cL_law 266 = .ok (.iload 8, 2) := by decide +kernel
theorem dL_law_268 : decode cL_law 268 = .ok (.imul, 1) := by decide +kernel
theorem dL_law_269 : decode cL_law 269 = .ok (.iadd, 1) := by decide +kernel
theorem dL_law_270 : decode cL_law 270 = .ok (.bipush 10, 2) := by decide +kernel
theorem dL_law_272 : decode cL_law 272 = .ok (.invokestatic 18, 3) := by decide +kernel
theorem dL_law_275 : decode cL_law 275 = .ok (.iadd, 1) := by decide +kernel
theorem dL_law_276 : decode cL_law 276 = .ok (.invokevirtual 33, 3) := by decide +kernel
theorem dL_law_279 : decode cL_law 279 = .ok (.istore 10, 2) := by decide +kernel
theorem dL_law_281 : decode cL_law 281 = .ok (.iload 10, 2) := by decide +kernel
theorem dL_law_283 : decode cL_law 283 = .ok (.iload 9, 2) := by decide +kernel
theorem dL_law_285 : decode cL_law 285 = .ok (.isub, 1) := by decide +kernel
theorem dL_law_286 : decode cL_law 286 = .ok (.invokestatic 37, 3) := by decide +kernel
theorem dL_law_289 : decode cL_law 289 = .ok (.iconst 1, 1) := by decide +kernel
theorem dL_law_290 : decode cL_law 290 = .ok (.if_icmp .ne 15, 3) := by decide +kernel
theorem dL_law_293 : decode cL_law 293 = .ok (.aload_n 1, 1) := by decide +kernel
theorem dL_law_294 : decode cL_law 294 = .ok (.iload 6, 2) := by decide +kernel
theorem dL_law_296 : decode cL_law 296 = .ok (.iconst 0, 1) := by decide +kernel
theorem dL_law_297 : decode cL_law 297 = .ok (.invokevirtual 30, 3) := by decide +kernel
theorem dL_law_300 : decode cL_law 300 = .ok (.iload 10, 2) := by decide +kernel
theorem dL_law_302 : decode cL_law 302 = .ok (.if_icmp .eq 5, 3) := by decide +kernel
theorem dL_law_305 : decode cL_law 305 = .ok (.iconst 0, 1) := by decide +kernel
theorem dL_law_306 : decode cL_law 306 = .ok (.ireturn, 1) := by decide +kernel
theorem dL_law_307 : decode cL_law 307 = .ok (.iinc 8 1, 3) := by decide +kernel
theorem dL_law_310 : decode cL_law 310 = .ok (.goto (-95), 3) := by decide +kernel
theorem dL_law_313 : decode cL_law 313 = .ok (.goto 312, 3) := by decide +kernel
theorem dL_law_316 : decode cL_law 316 = .ok (.aload_n 1, 1) := by decide +kernel
theorem dL_law_317 : decode cL_law 317 = .ok (.iconst 3, 1) := by decide +kernel
theorem dL_law_318 : decode cL_law 318 = .ok (.invokevirtual 42, 3) := by decide +kernel
theorem dL_law_321 : decode cL_law 321 = .ok (.istore 8, 2) := by decide +kernel
theorem dL_law_323 : decode cL_law 323 = .ok (.aload_n 1, 1) := by decide +kernel
theorem dL_law_324 : decode cL_law 324 = .ok (.iload 6, 2) := by decide +kernel
theorem dL_law_326 : decode cL_law 326 = .ok (.iload 7, 2) := by decide +kernel
theorem dL_law_328 : decode cL_law 328 = .ok (.iload 5, 2) := by decide +kernel
theorem dL_law_330 : decode cL_law 330 = .ok (.iconst 3, 1) := by decide +kernel
theorem dL_law_331 : decode cL_law 331 = .ok (.idiv, 1) := by decide +kernel
theorem dL_law_332 : decode cL_law 332 = .ok (.bipush 7, 2) := by decide +kernel
theorem dL_law_334 : decode cL_law 334 = .ok (.invokestatic 18, 3) := by decide +kernel
theorem dL_law_337 : decode cL_law 337 = .ok (.iconst 3, 1) := by decide +kernel
theorem dL_law_338 : decode cL_law 338 = .ok (.isub, 1) := by decide +kernel
theorem dL_law_339 : decode cL_law 339 = .ok (.invokevirtual 45, 3) := by decide +kernel
theorem dL_law_342 : decode cL_law 342 = .ok (.istore 9, 2) := by decide +kernel
theorem dL_law_344 : decode cL_law 344 = .ok (.aload_n 1, 1) := by decide +kernel
theorem dL_law_345 : decode cL_law 345 = .ok (.iconst 3, 1) := by decide +kernel
theorem dL_law_346 : decode cL_law 346 = .ok (.invokevirtual 42, 3) := by decide +kernel
theorem dL_law_349 : decode cL_law 349 = .ok (.iload 8, 2) := by decide +kernel
theorem dL_law_351 : decode cL_law 351 = .ok (.isub, 1) := by decide +kernel
theorem dL_law_352 : decode cL_law 352 = .ok (.iload 9, 2) := by decide +kernel
theorem dL_law_354 : decode cL_law 354 = .ok (.iadd, 1) := by decide +kernel
theorem dL_law_355 : decode cL_law 355 = .ok (.aload_n 1, 1) := by decide +kernel
theorem dL_law_356 : decode cL_law 356 = .ok (.iload 6, 2) := by decide +kernel
theorem dL_law_358 : decode cL_law 358 = .ok (.iconst 0, 1) := by decide +kernel
theorem dL_law_359 : decode cL_law 359 = .ok (.invokevirtual 30, 3) := by decide +kernel
theorem dL_law_362 : decode cL_law 362 = .ok (.if_icmp .eq 263, 3) := by decide +kernel
theorem dL_law_365 : decode cL_law 365 = .ok (.iconst 0, 1) := by decide +kernel
theorem dL_law_366 : decode cL_law 366 = .ok (.ireturn, 1) := by decide +kernel
theorem dL_law_367 : decode cL_law 367 = .ok (.aload_n 1, 1) := by decide +kernel
theorem dL_law_368 : decode cL_law 368 = .ok (.iconst 3, 1) := by decide +kernel
theorem dL_law_369 : decode cL_law 369 = .ok (.invokevirtual 42, 3) := by decide +kernel
theorem dL_law_372 : decode cL_law 372 = .ok (.istore 10, 2) := by decide +kernel
theorem dL_law_374 : decode cL_law 374 = .ok (.aload_n 1, 1) := by decide +kernel
theorem dL_law_375 : decode cL_law 375 = .ok (.iload 7, 2) := by decide +kernel
theorem dL_law_377 : decode cL_law 377 = .ok (.iload 5, 2) := by decide +kernel
theorem dL_law_379 : decode cL_law 379 = .ok (.iconst 3, 1) := by decide +kernel
theorem dL_law_380 : decode cL_law 380 = .ok (.invokestatic 18, 3) := by decide +kernel
theorem dL_law_383 : decode cL_law 383 = .ok (.ifCond .le 7, 3) := by decide +kernel
theorem dL_law_386 : decode cL_law 386 = .ok (.iconst 1, 1) := by decide +kernel
theorem dL_law_387 : decode cL_law 387 = .ok (.goto 4, 3) := by decide +kernel
theorem dL_law_390 : decode cL_law 390 = .ok (.iconst 0, 1) := by decide +kernel
theorem dL_law_391 : decode cL_law 391 = .ok (.invokevirtual 48, 3) := by decide +kernel
theorem dL_law_394 : decode cL_law 394 = .ok (.istore 11, 2) := by decide +kernel
theorem dL_law_396 : decode cL_law 396 = .ok (.aload_n 1, 1) := by decide +kernel
theorem dL_law_397 : decode cL_law 397 = .ok (.iconst 3, 1) := by decide +kernel
theorem dL_law_398 : decode cL_law 398 = .ok (.invokevirtual 42, 3) := by decide +kernel
theorem dL_law_401 : decode cL_law 401 = .ok (.iload 10, 2) := by decide +kernel
theorem dL_law_403 : decode cL_law 403 = .ok (.iload 11, 2) := by decide +kernel
theorem dL_law_405 : decode cL_law 405 = .ok (.isub, 1) := by decide +kernel
theorem dL_law_406 : decode cL_law 406 = .ok (.if_icmp .eq 219, 3) := by decide +kernel
theorem dL_law_409 : decode cL_law 409 = .ok (.iconst 0, 1) := by decide +kernel
theorem dL_law_410 : decode cL_law 410 = .ok (.ireturn, 1) := by decide +kernel
theorem dL_law_411 : decode cL_law 411 = .ok (.aload_n 1, 1) := by decide +kernel
theorem dL_law_412 : decode cL_law 412 = .ok (.iload 7, 2) := by decide +kernel
theorem dL_law_414 : decode cL_law 414 = .ok (.invokevirtual 52, 3) := by decide +kernel
theorem dL_law_417 : decode cL_law 417 = .ok (.iconst 2, 1) := by decide +kernel
theorem dL_law_418 : decode cL_law 418 = .ok (.if_icmp .gt 13, 3) := by decide +kernel
theorem dL_law_421 : decode cL_law 421 = .ok (.aload_n 1, 1) := by decide +kernel
theorem dL_law_422 : decode cL_law 422 = .ok (.iconst 5, 1) := by decide +kernel
theorem dL_law_423 : decode cL_law 423 = .ok (.invokevirtual 42, 3) := by decide +kernel
theorem dL_law_426 : decode cL_law 426 = .ok (.iload 7, 2) := by decide +kernel
theorem dL_law_428 : decode cL_law 428 = .ok (.if_icmp .eq 197, 3) := by decide +kernel
theorem dL_law_431 : decode cL_law 431 = .ok (.iconst 0, 1) := by decide +kernel
theorem dL_law_432 : decode cL_law 432 = .ok (.ireturn, 1) := by decide +kernel
theorem dL_law_433 : decode cL_law 433 = .ok (.aload_n 1, 1) := by decide +kernel
theorem dL_law_434 : decode cL_law 434 = .ok (.bipush 6, 2) := by decide +kernel
theorem dL_law_436 : decode cL_law 436 = .ok (.invokevirtual 42, 3) := by decide +kernel
theorem dL_law_439 : decode cL_law 439 = .ok (.istore 12, 2) := by decide +kernel
theorem dL_law_441 : decode cL_law 441 = .ok (.aload_n 1, 1) := by decide +kernel
theorem dL_law_442 : decode cL_law 442 = .ok (.iconst 1, 1) := by decide +kernel
theorem dL_law_443 : decode cL_law 443 = .ok (.iload 5, 2) := by decide +kernel
theorem dL_law_445 : decode cL_law 445 = .ok (.sipush 500, 3) := by decide +kernel
theorem dL_law_448 : decode cL_law 448 = .ok (.invokestatic 18, 3) := by decide +kernel
theorem dL_law_451 : decode cL_law 451 = .ok (.iadd, 1) := by decide +kernel
theorem dL_law_452 : decode cL_law 452 = .ok (.invokevirtual 55, 3) := by decide +kernel
theorem dL_law_455 : decode cL_law 455 = .ok (.sipush 2000, 3) := by decide +kernel
theorem dL_law_458 : decode cL_law 458 = .ok (.iload 12, 2) := by decide +kernel
theorem dL_law_460 : decode cL_law 460 = .ok (.iconst 1, 1) := by decide +kernel
theorem dL_law_461 : decode cL_law 461 = .ok (.iadd, 1) := by decide +kernel
theorem dL_law_462 : decode cL_law 462 = .ok (.iload 5, 2) := by decide +kernel
theorem dL_law_464 : decode cL_law 464 = .ok (.sipush 500, 3) := by decide +kernel
theorem dL_law_467 : decode cL_law 467 = .ok (.invokestatic 18, 3) := by decide +kernel
theorem dL_law_470 : decode cL_law 470 = .ok (.iadd, 1) := by decide +kernel
theorem dL_law_471 : decode cL_law 471 = .ok (.invokestatic 58, 3) := by decide +kernel
theorem dL_law_474 : decode cL_law 474 = .ok (.if_icmp .eq 151, 3) := by decide +kernel
theorem dL_law_477 : decode cL_law 477 = .ok (.iconst 0, 1) := by decide +kernel
theorem dL_law_478 : decode cL_law 478 = .ok (.ireturn, 1) := by decide +kernel
theorem dL_law_479 : decode cL_law 479 = .ok (.aload_n 1, 1) := by decide +kernel
theorem dL_law_480 : decode cL_law 480 = .ok (.iconst 1, 1) := by decide +kernel
theorem dL_law_481 : decode cL_law 481 = .ok (.iload 5, 2) := by decide +kernel
theorem dL_law_483 : decode cL_law 483 = .ok (.bipush 8, 2) := by decide +kernel
theorem dL_law_485 : decode cL_law 485 = .ok (.invokestatic 18, 3) := by decide +kernel
theorem dL_law_488 : decode cL_law 488 = .ok (.iadd, 1) := by decide +kernel
theorem dL_law_489 : decode cL_law 489 = .ok (.invokevirtual 61, 3) := by decide +kernel
theorem dL_law_492 : decode cL_law 492 = .ok (.aload_n 1, 1) := by decide +kernel
theorem dL_law_493 : decode cL_law 493 = .ok (.invokevirtual 65, 3) := by decide +kernel
theorem dL_law_496 : decode cL_law 496 = .ok (.dcmp .l, 1) := by decide +kernel
theorem dL_law_497 : decode cL_law 497 = .ok (.ifCond .ne 25, 3) := by decide +kernel
theorem dL_law_500 : decode cL_law 500 = .ok (.aload_n 1, 1) := by decide +kernel
theorem dL_law_501 : decode cL_law 501 = .ok (.invokevirtual 65, 3) := by decide +kernel
theorem dL_law_504 : decode cL_law 504 = .ok (.ldc2_w 69, 3) := by decide +kernel
theorem dL_law_507 : decode cL_law 507 = .ok (.dcmp .l, 1) := by decide +kernel
theorem dL_law_508 : decode cL_law 508 = .ok (.ifCond .gt 14, 3) := by decide +kernel
theorem dL_law_511 : decode cL_law 511 = .ok (.aload_n 1, 1) := by decide +kernel
theorem dL_law_512 : decode cL_law 512 = .ok (.invokevirtual 65, 3) := by decide +kernel
theorem dL_law_515 : decode cL_law 515 = .ok (.ldc2_w 71, 3) := by decide +kernel
theorem dL_law_518 : decode cL_law 518 = .ok (.dcmp .g, 1) := by decide +kernel
theorem dL_law_519 : decode cL_law 519 = .ok (.ifCond .ge 106, 3) := by decide +kernel
theorem dL_law_522 : decode cL_law 522 = .ok (.iconst 0, 1) := by decide +kernel
theorem dL_law_523 : decode cL_law 523 = .ok (.ireturn, 1) := by decide +kernel
theorem dL_law_524 : decode cL_law 524 = .ok (.aload_n 1, 1) := by decide +kernel
theorem dL_law_525 : decode cL_law 525 = .ok (.invokevirtual 73, 3) := by decide +kernel
theorem dL_law_528 : decode cL_law 528 = .ok (.ifCond .lt 11, 3) := by decide +kernel
theorem dL_law_531 : decode cL_law 531 = .ok (.aload_n 1, 1) := by decide +kernel
theorem dL_law_532 : decode cL_law 532 = .ok (.iconst 1, 1) := by decide +kernel
theorem dL_law_533 : decode cL_law 533 = .ok (.invokevirtual 42, 3) := by decide +kernel
theorem dL_law_536 : decode cL_law 536 = .ok (.ifCond .eq 89, 3) := by decide +kernel
theorem dL_law_539 : decode cL_law 539 = .ok (.iconst 0, 1) := by decide +kernel
theorem dL_law_540 : decode cL_law 540 = .ok (.ireturn, 1) := by decide +kernel
theorem dL_law_541 : decode cL_law 541 = .ok (.iload 5, 2) := by decide +kernel
theorem dL_law_543 : decode cL_law 543 = .ok (.iload_n 2, 1) := by decide +kernel
theorem dL_law_544 : decode cL_law 544 = .ok (.invokestatic 18, 3) := by decide +kernel
theorem dL_law_547 : decode cL_law 547 = .ok (.istore 13, 2) := by decide +kernel
theorem dL_law_549 : decode cL_law 549 = .ok (.aload_n 1, 1) := by decide +kernel
theorem dL_law_550 : decode cL_law 550 = .ok (.iload 13, 2) := by decide +kernel
theorem dL_law_552 : decode cL_law 552 = .ok (.iconst 0, 1) := by decide +kernel
theorem dL_law_553 : decode cL_law 553 = .ok (.invokevirtual 76, 3) := by decide +kernel
theorem dL_law_556 : decode cL_law 556 = .ok (.istore 14, 2) := by decide +kernel
theorem dL_law_558 : decode cL_law 558 = .ok (.aload_n 1, 1) := by decide +kernel
theorem dL_law_559 : decode cL_law 559 = .ok (.iload 13, 2) := by decide +kernel
theorem dL_law_561 : decode cL_law 561 = .ok (.bipush 20, 2) := by decide +kernel
theorem dL_law_563 : decode cL_law 563 = .ok (.iload 4, 2) := by decide +kernel
theorem dL_law_565 : decode cL_law 565 = .ok (.iconst 3, 1) := by decide +kernel
theorem dL_law_566 : decode cL_law 566 = .ok (.idiv, 1) := by decide +kernel
theorem dL_law_567 : decode cL_law 567 = .ok (.bipush 8, 2) := by decide +kernel
theorem dL_law_569 : decode cL_law 569 = .ok (.invokestatic 18, 3) := by decide +kernel
theorem dL_law_572 : decode cL_law 572 = .ok (.iadd, 1) := by decide +kernel
theorem dL_law_573 : decode cL_law 573 = .ok (.invokevirtual 79, 3) := by decide +kernel
theorem dL_law_576 : decode cL_law 576 = .ok (.iload 14, 2) := by decide +kernel
theorem dL_law_578 : decode cL_law 578 = .ok (.if_icmp .ne 25, 3) := by decide +kernel
theorem dL_law_581 : decode cL_law 581 = .ok (.aload_n 1, 1) := by decide +kernel
theorem dL_law_582 : decode cL_law 582 = .ok (.iload 13, 2) := by decide +kernel
theorem dL_law_584 : decode cL_law 584 = .ok (.iconst 0, 1) := by decide +kernel
theorem dL_law_585 : decode cL_law 585 = .ok (.invokevirtual 76, 3) := by decide +kernel
theorem dL_law_588 : decode cL_law 588 = .ok (.bipush 20, 2) := by decide +kernel
theorem dL_law_590 : decode cL_law 590 = .ok (.iload 4, 2) := by decide +kernel
theorem dL_law_592 : decode cL_law 592 = .ok (.iconst 3, 1) := by decide +kernel
theorem dL_law_593 : decode cL_law 593 = .ok (.idiv, 1) := by decide +kernel
theorem dL_law_594 : decode cL_law 594 = .ok (.bipush 8, 2) := by decide +kernel
theorem dL_law_596 : decode cL_law 596 = .ok (.invokestatic 18, 3) := by decide +kernel
theorem dL_law_599 : decode cL_law 599 = .ok (.iadd, 1) := by decide +kernel
theorem dL_law_600 : decode cL_law 600 = .ok (.if_icmp .eq 25, 3) := by decide +kernel
theorem dL_law_603 : decode cL_law 603 = .ok (.iconst 0, 1) := by decide +kernel
theorem dL_law_604 : decode cL_law 604 = .ok (.ireturn, 1) := by decide +kernel
theorem dL_law_605 : decode cL_law 605 = .ok (.aload_n 1, 1) := by decide +kernel
theorem dL_law_606 : decode cL_law 606 = .ok (.iconst 1, 1) := by decide +kernel
theorem dL_law_607 : decode cL_law 607 = .ok (.iload 5, 2) := by decide +kernel
theorem dL_law_609 : decode cL_law 609 = .ok (.sipush 128, 3) := by decide +kernel
theorem dL_law_612 : decode cL_law 612 = .ok (.invokestatic 18, 3) := by decide +kernel
theorem dL_law_615 : decode cL_law 615 = .ok (.iadd, 1) := by decide +kernel
theorem dL_law_616 : decode cL_law 616 = .ok (.iload_n 2, 1) := by decide +kernel
theorem dL_law_617 : decode cL_law 617 = .ok (.invokestatic 82, 3) := by decide +kernel
theorem dL_law_620 : decode cL_law 620 = .ok (.ifCond .ne 5, 3) := by decide +kernel
theorem dL_law_623 : decode cL_law 623 = .ok (.iconst 0, 1) := by decide +kernel
theorem dL_law_624 : decode cL_law 624 = .ok (.ireturn, 1) := by decide +kernel
theorem dL_law_625 : decode cL_law 625 = .ok (.aload_n 1, 1) := by decide +kernel
theorem dL_law_626 : decode cL_law 626 = .ok (.iload_n 2, 1) := by decide +kernel
theorem dL_law_627 : decode cL_law 627 = .ok (.invokestatic 86, 3) := by decide +kernel
theorem dL_law_630 : decode cL_law 630 = .ok (.ifCond .ne 5, 3) := by decide +kernel
theorem dL_law_633 : decode cL_law 633 = .ok (.iconst 0, 1) := by decide +kernel
theorem dL_law_634 : decode cL_law 634 = .ok (.ireturn, 1) := by decide +kernel
theorem dL_law_635 : decode cL_law 635 = .ok (.iinc 3 1, 3) := by decide +kernel
theorem dL_law_638 : decode cL_law 638 = .ok (.goto (-560), 3) := by decide +kernel
theorem dL_law_641 : decode cL_law 641 = .ok (.aload_n 1, 1) := by decide +kernel
theorem dL_law_642 : decode cL_law 642 = .ok (.invokevirtual 90, 3) := by decide +kernel
theorem dL_law_645 : decode cL_law 645 = .ok (.lstore_n 3, 1) := by decide +kernel
theorem dL_law_646 : decode cL_law 646 = .ok (.iconst 0, 1) := by decide +kernel
theorem dL_law_647 : decode cL_law 647 = .ok (.istore 5, 2) := by decide +kernel
theorem dL_law_649 : decode cL_law 649 = .ok (.iload 5, 2) := by decide +kernel
theorem dL_law_651 : decode cL_law 651 = .ok (.iconst 2, 1) := by decide +kernel
theorem dL_law_652 : decode cL_law 652 = .ok (.if_icmp .ge 83, 3) := by decide +kernel
theorem dL_law_655 : decode cL_law 655 = .ok (.aload_n 1, 1) := by decide +kernel
theorem dL_law_656 : decode cL_law 656 = .ok (.iload 5, 2) := by decide +kernel
theorem dL_law_658 : decode cL_law 658 = .ok (.iconst 0, 1) := by decide +kernel
theorem dL_law_659 : decode cL_law 659 = .ok (.invokevirtual 94, 3) := by decide +kernel
theorem dL_law_662 : decode cL_law 662 = .ok (.istore 6, 2) := by decide +kernel
theorem dL_law_664 : decode cL_law 664 = .ok (.iload 6, 2) := by decide +kernel
theorem dL_law_666 : decode cL_law 666 = .ok (.bipush (-24), 2) := by decide +kernel
theorem dL_law_668 : decode cL_law 668 = .ok (.if_icmp .lt 59, 3) := by decide +kernel
theorem dL_law_671 : decode cL_law 671 = .ok (.iload 6, 2) := by decide +kernel
theorem dL_law_673 : decode cL_law 673 = .ok (.bipush 24, 2) := by decide +kernel
theorem dL_law_675 : decode cL_law 675 = .ok (.if_icmp .gt 52, 3) := by decide +kernel
theorem dL_law_678 : decode cL_law 678 = .ok (.aload_n 1, 1) := by decide +kernel
theorem dL_law_679 : decode cL_law 679 = .ok (.iload 5, 2) := by decide +kernel
theorem dL_law_681 : decode cL_law 681 = .ok (.iload 5, 2) := by decide +kernel
theorem dL_law_683 : decode cL_law 683 = .ok (.iconst 0, 1) := by decide +kernel
theorem dL_law_684 : decode cL_law 684 = .ok (.invokevirtual 97, 3) := by decide +kernel
theorem dL_law_687 : decode cL_law 687 = .ok (.aload_n 1, 1) := by decide +kernel
theorem dL_law_688 : decode cL_law 688 = .ok (.iload 5, 2) := by decide +kernel
theorem dL_law_690 : decode cL_law 690 = .ok (.iconst 0, 1) := by decide +kernel
theorem dL_law_691 : decode cL_law 691 = .ok (.invokevirtual 30, 3) := by decide +kernel
theorem dL_law_694 : decode cL_law 694 = .ok (.ifCond .ne 7, 3) := by decide +kernel
theorem dL_law_697 : decode cL_law 697 = .ok (.dconst 0, 1) := by decide +kernel
theorem dL_law_698 : decode cL_law 698 = .ok (.goto 4, 3) := by decide +kernel
theorem dL_law_701 : decode cL_law 701 = .ok (.dconst 1, 1) := by decide +kernel
theorem dL_law_702 : decode cL_law 702 = .ok (.dcmp .l, 1) := by decide +kernel
theorem dL_law_703 : decode cL_law 703 = .ok (.ifCond .ne 24, 3) := by decide +kernel
theorem dL_law_706 : decode cL_law 706 = .ok (.aload_n 1, 1) := by decide +kernel
theorem dL_law_707 : decode cL_law 707 = .ok (.iconst 0, 1) := by decide +kernel
theorem dL_law_708 : decode cL_law 708 = .ok (.iconst 1, 1) := by decide +kernel
theorem dL_law_709 : decode cL_law 709 = .ok (.iload 6, 2) := by decide +kernel
theorem dL_law_711 : decode cL_law 711 = .ok (.invokevirtual 97, 3) := by decide +kernel
theorem dL_law_714 : decode cL_law 714 = .ok (.aload_n 1, 1) := by decide +kernel
theorem dL_law_715 : decode cL_law 715 = .ok (.iconst 1, 1) := by decide +kernel
theorem dL_law_716 : decode cL_law 716 = .ok (.iconst 0, 1) := by decide +kernel
theorem dL_law_717 : decode cL_law 717 = .ok (.iload 6, 2) := by decide +kernel
theorem dL_law_719 : decode cL_law 719 = .ok (.ineg, 1) := by decide +kernel
theorem dL_law_720 : decode cL_law 720 = .ok (.invokevirtual 97, 3) := by decide +kernel
theorem dL_law_723 : decode cL_law 723 = .ok (.dcmp .l, 1) := by decide +kernel
theorem dL_law_724 : decode cL_law 724 = .ok (.ifCond .eq 5, 3) := by decide +kernel
theorem dL_law_727 : decode cL_law 727 = .ok (.iconst 0, 1) := by decide +kernel
theorem dL_law_728 : decode cL_law 728 = .ok (.ireturn, 1) := by decide +kernel
theorem dL_law_729 : decode cL_law 729 = .ok (.iinc 5 1, 3) := by decide +kernel
theorem dL_law_732 : decode cL_law 732 = .ok (.goto (-83), 3) := by decide +kernel
theorem dL_law_735 : decode cL_law 735 = .ok (.aload_n 1, 1) := by decide +kernel
theorem dL_law_736 : decode cL_law 736 = .ok (.invokevirtual 90, 3) := by decide +kernel
theorem dL_law_739 : decode cL_law 739 = .ok (.lload_n 3, 1) := by decide +kernel
theorem dL_law_740 : decode cL_law 740 = .ok (.lcmp, 1) := by decide +kernel
theorem dL_law_741 : decode cL_law 741 = .ok (.ifCond .ne 7, 3) := by decide +kernel
theorem dL_law_744 : decode cL_law 744 = .ok (.iconst 1, 1) := by decide +kernel
theorem dL_law_745 : decode cL_law 745 = .ok (.goto 4, 3) := by decide +kernel
theorem dL_law_748 : decode cL_law 748 = .ok (.iconst 0, 1) := by decide +kernel
theorem dL_law_749 : decode cL_law 749 = .ok (.ireturn, 1) := by decide +kernel
set_option maxRecDepth 20000 in
theorem ggL_plucks_X5_ofTooth : GoodIn wsL_plucks wsX5_ofTooth := goodIn_ca (goodIn_ca (goodIn_r _ [5, 6, 7, 8, 9, 10, 11, 12, 13, 14, 4, 15, 16, 17, 18, 19, 20, 21, 22, 23, 24, 25, 26, 27, 28, 29, 30, 31, 32, 33, 34, 35, 36, 37, 38, 39, 40, 41, 42, 43, 44, 45, 46, 47, 48, 49, 50, 51, 52, 53, 54, 55, 56, 57, 58] (by decide +kernel) (by decide +kernel)) (goodIn_sub (fun _ h => List.mem_cons_of_mem _ (List.mem_append_left _ (List.mem_append_right _ h))) (by decide +kernel))) (goodIn_sub (fun _ h => List.mem_cons_of_mem _ (List.mem_append_right _ h)) (by decide +kernel))
set_option maxRecDepth 20000 in
theorem gL_plucks_X5_ofTooth : GoodIn wsL_plucks (wsV RL 76 RX5 yX5_ofTooth wsX5_ofTooth) := goodIn_app (goodIn_of _ (by decide +kernel)) ggL_plucks_X5_ofTooth
theorem dL_plucks_0 : decode cL_plucks 0 = .ok (.iconst 0, 1) := by decide +kernel
theorem dL_plucks_1 : decode cL_plucks 1 = .ok (.istore_n 2, 1) := by decide +kernel
theorem dL_plucks_2 : decode cL_plucks 2 = .ok (.iconst 0, 1) := by decide +kernel
theorem dL_plucks_3 : decode cL_plucks 3 = .ok (.istore_n 3, 1) := by decide +kernel
theorem dL_plucks_4 : decode cL_plucks 4 = .ok (.iload_n 3, 1) := by decide +kernel
theorem dL_plucks_5 : decode cL_plucks 5 = .ok (.iload_n 1, 1) := by decide +kernel
theorem dL_plucks_6 : decode cL_plucks 6 = .ok (.if_icmp .ge 18, 3) := by decide +kernel
theorem dL_plucks_9 : decode cL_plucks 9 = .ok (.iload_n 2, 1) := by decide +kernel
theorem dL_plucks_10 : decode cL_plucks 10 = .ok (.aload_n 0, 1) := by decide +kernel
theorem dL_plucks_11 : decode cL_plucks 11 = .ok (.iload_n 3, 1) := by decide +kernel
theorem dL_plucks_12 : decode cL_plucks 12 = .ok (.iconst 3, 1) := by decide +kernel
theorem dL_plucks_13 : decode cL_plucks 13 = .ok (.invokevirtual 76, 3) := by decide +kernel
theorem dL_plucks_16 : decode cL_plucks 16 = .ok (.iadd, 1) := by decide +kernel
theorem dL_plucks_17 : decode cL_plucks 17 = .ok (.istore_n 2, 1) := by decide +kernel
theorem dL_plucks_18 : decode cL_plucks 18 = .ok (.iinc 3 1, 3) := by decide +kernel
theorem dL_plucks_21 : decode cL_plucks 21 = .ok (.goto (-17), 3) := by decide +kernel
theorem dL_plucks_24 : decode cL_plucks 24 = .ok (.iload_n 2, 1) := by decide +kernel
theorem dL_plucks_25 : decode cL_plucks 25 = .ok (.ireturn, 1) := by decide +kernel
set_option maxRecDepth 20000 in
theorem ggL_isPlayed_L_plucks : GoodIn wsL_isPlayed wsL_plucks := goodIn_ca (goodIn_ca (goodIn_r _ [11, 12, 13, 14, 15, 16, 17, 18, 19, 20, 21, 22, 23, 24, 25, 26, 27, 28, 29, 30, 31, 32, 33, 34, 35, 36, 37, 38, 39, 40, 41, 42, 43, 44, 45, 46, 47, 48, 49, 50, 51, 52, 53, 54, 192, 193, 194, 195, 196, 197, 198, 199, 200, 201, 202, 203, 204, 205, 206] (by decide +kernel) (by decide +kernel)) (goodIn_sub (fun _ h => List.mem_cons_of_mem _ (List.mem_append_left _ (List.mem_append_right _ h))) (by decide +kernel))) (goodIn_sub (fun _ h => List.mem_cons_of_mem _ (List.mem_append_right _ h)) (by decide +kernel))
set_option maxRecDepth 20000 in
theorem gL_isPlayed_L_plucks : GoodIn wsL_isPlayed (va_wsS RL 101 yL_plucks wsL_plucks) := goodIn_app (goodIn_of _ (by decide +kernel)) ggL_isPlayed_L_plucks
set_option maxRecDepth 20000 in
theorem ggL_isPlayed_X5_many : GoodIn wsL_isPlayed wsX5_many := goodIn_ca (goodIn_r _ [58, 17, 29, 59, 60, 61, 62, 63, 64, 65, 66, 67, 68, 69, 70, 71, 72, 73, 30, 31, 15, 32, 33, 34, 74, 75, 76, 77, 78, 79, 80, 81, 82, 83, 84, 22, 35, 36, 37, 38, 39, 40, 41, 42, 43, 44, 45, 46, 47, 48, 49, 50, 51, 52, 53, 54, 192, 193, 194, 195, 196, 197, 198, 199, 200, 201, 202, 203, 204, 207, 208, 209, 210, 211, 212, 213, 214, 215, 216, 217, 218, 219, 220, 221, 222, 223, 224, 225, 205, 206] (by decide +kernel) (by decide +kernel)) (goodIn_sub (fun _ h => List.mem_cons_of_mem _ (List.mem_append_right _ h)) (by decide +kernel))
set_option maxRecDepth 20000 in
theorem gL_isPlayed_X5_many : GoodIn wsL_isPlayed (wsV RL 42 RX5 yX5_many wsX5_many) := goodIn_app (goodIn_of _ (by decide +kernel)) ggL_isPlayed_X5_many
set_option maxRecDepth 20000 in
theorem ggL_isPlayed_X5_wouldBuzz : GoodIn wsL_isPlayed wsX5_wouldBuzz := goodIn_ca (goodIn_r _ [88, 89, 61, 70, 90, 91, 15, 92, 33, 34, 93, 94, 95, 96, 97, 98, 99, 100, 101, 102, 103, 104, 105, 106, 107, 108, 109, 110, 77, 111, 79, 112, 80, 113, 114, 115, 116, 117, 118, 38, 119, 44, 120, 121, 122, 123, 45, 46, 47, 124, 125, 126, 127, 128, 129, 130, 131, 132, 133, 134, 135, 136, 137, 138, 139, 140, 141, 142, 143, 6, 3, 7, 144, 145, 146, 147, 148, 149, 150, 151, 152, 153, 154, 155, 156, 157, 158, 159, 160, 161, 162, 163, 164, 165, 166, 167, 168, 169, 170, 171, 172, 173, 174, 175, 176, 177, 178, 179, 180, 181, 182, 192, 193, 194, 195, 196, 197, 198, 210, 211, 212, 213, 214, 215, 216, 217, 218, 219, 220, 199, 200, 201, 202, 203, 204, 205, 206, 221, 222, 223, 224, 225] (by decide +kernel) (by decide +kernel)) (goodIn_sub (fun _ h => List.mem_cons_of_mem _ (List.mem_append_right _ h)) (by decide +kernel))
set_option maxRecDepth 20000 in
theorem gL_isPlayed_X5_wouldBuzz : GoodIn wsL_isPlayed (wsV RL 105 RX5 yX5_wouldBuzz wsX5_wouldBuzz) := goodIn_app (goodIn_of _ (by decide +kernel)) ggL_isPlayed_X5_wouldBuzz
set_option maxRecDepth 20000 in
theorem ggL_isPlayed_X5_lasts : GoodIn wsL_isPlayed wsX5_lasts := goodIn_r _ [186, 89, 61, 64, 93, 94, 95, 96, 97, 98, 99, 100, 101, 102, 103, 104, 105, 106, 107, 108, 109, 110, 77, 111, 79, 112, 80, 113, 114, 115, 116, 117, 118, 38, 119, 44, 120, 121, 122, 123, 45, 46, 47, 124, 125, 126, 127, 128, 129, 130, 131, 187, 137, 138, 139, 140, 141, 142, 143, 6, 3, 7, 144, 145, 146, 147, 148, 149, 150, 151, 152, 153, 154, 155, 156, 157, 158, 159, 160, 161, 162, 163, 164, 165, 166, 167, 168, 169, 170, 171, 172, 173, 174, 175, 176, 177, 178, 179, 180, 181, 182, 192, 193, 194, 195, 196, 197, 198, 210, 211, 212, 213, 214, 215, 216, 217, 218, 219, 220, 199, 200, 201, 202, 203, 204, 205, 206, 221, 222, 223, 224, 225] (by decide +kernel) (by decide +kernel)
set_option maxRecDepth 20000 in
theorem gL_isPlayed_X5_lasts : GoodIn wsL_isPlayed (wsV RL 108 RX5 yX5_lasts wsX5_lasts) := goodIn_app (goodIn_of _ (by decide +kernel)) ggL_isPlayed_X5_lasts
set_option maxRecDepth 20000 in
theorem ggL_isPlayed_X5_play : GoodIn wsL_isPlayed wsX5_play := goodIn_ca (goodIn_r _ [191, 67, 68, 61, 90, 91, 15, 92, 33, 34, 132, 133, 134, 96, 135, 101, 136, 137, 138, 139, 107, 140, 103, 104, 98, 141, 142, 99, 100, 143, 6, 3, 7, 144, 145, 146, 147, 148, 102, 149, 150, 151, 152, 38, 153, 44, 45, 46, 47, 154, 155, 156, 157, 105, 158, 159, 106, 160, 161, 162, 77, 163, 114, 115, 113, 80, 164, 165, 166, 167, 168, 169, 170, 171, 172, 173, 174, 175, 176, 177, 178, 179, 180, 181, 128, 182, 129, 130, 131, 192, 193, 194, 195, 196, 197, 198, 221, 222, 223, 224, 225, 210, 211, 212, 213, 214, 215, 216, 217, 218, 219, 220, 199, 200, 201, 202, 203, 204, 205, 206] (by decide +kernel) (by decide +kernel)) (goodIn_sub (fun _ h => List.mem_cons_of_mem _ (List.mem_append_right _ h)) (by decide +kernel))
set_option maxRecDepth 20000 in
theorem gL_isPlayed_X5_play : GoodIn wsL_isPlayed (wsV RL 111 RX5 yX5_play wsX5_play) := goodIn_app (goodIn_of _ (by decide +kernel)) ggL_isPlayed_X5_play
theorem dL_isPlayed_0 : decode cL_isPlayed 0 = .ok (.aload_n 0, 1) := by decide +kernel
theorem dL_isPlayed_1 : decode cL_isPlayed 1 = .ok (.iload_n 2, 1) := by decide +kernel
theorem dL_isPlayed_2 : decode cL_isPlayed 2 = .ok (.invokestatic 101, 3) := by decide +kernel
theorem dL_isPlayed_5 : decode cL_isPlayed 5 = .ok (.istore_n 3, 1) := by decide +kernel
theorem dL_isPlayed_6 : decode cL_isPlayed 6 = .ok (.aload_n 0, 1) := by decide +kernel
theorem dL_isPlayed_7 : decode cL_isPlayed 7 = .ok (.bipush 9, 2) := by decide +kernel
theorem dL_isPlayed_9 : decode cL_isPlayed 9 = .ok (.invokevirtual 42, 3) := by decide +kernel
theorem dL_isPlayed_12 : decode cL_isPlayed 12 = .ok (.istore 4, 2) := by decide +kernel
theorem dL_isPlayed_14 : decode cL_isPlayed 14 = .ok (.aload_n 0, 1) := by decide +kernel
theorem dL_isPlayed_15 : decode cL_isPlayed 15 = .ok (.bipush 11, 2) := by decide +kernel
theorem dL_isPlayed_17 : decode cL_isPlayed 17 = .ok (.invokevirtual 42, 3) := by decide +kernel
theorem dL_isPlayed_20 : decode cL_isPlayed 20 = .ok (.istore 5, 2) := by decide +kernel
theorem dL_isPlayed_22 : decode cL_isPlayed 22 = .ok (.aload_n 0, 1) := by decide +kernel
theorem dL_isPlayed_23 : decode cL_isPlayed 23 = .ok (.bipush 6, 2) := by decide +kernel
theorem dL_isPlayed_25 : decode cL_isPlayed 25 = .ok (.invokevirtual 42, 3) := by decide +kernel
theorem dL_isPlayed_28 : decode cL_isPlayed 28 = .ok (.istore 6, 2) := by decide +kernel
theorem dL_isPlayed_30 : decode cL_isPlayed 30 = .ok (.aload_n 0, 1) := by decide +kernel
theorem dL_isPlayed_31 : decode cL_isPlayed 31 = .ok (.bipush 8, 2) := by decide +kernel
theorem dL_isPlayed_33 : decode cL_isPlayed 33 = .ok (.invokevirtual 42, 3) := by decide +kernel
theorem dL_isPlayed_36 : decode cL_isPlayed 36 = .ok (.istore 7, 2) := by decide +kernel
theorem dL_isPlayed_38 : decode cL_isPlayed 38 = .ok (.aload_n 0, 1) := by decide +kernel
theorem dL_isPlayed_39 : decode cL_isPlayed 39 = .ok (.bipush 14, 2) := by decide +kernel
theorem dL_isPlayed_41 : decode cL_isPlayed 41 = .ok (.invokevirtual 42, 3) := by decide +kernel
theorem dL_isPlayed_44 : decode cL_isPlayed 44 = .ok (.istore 8, 2) := by decide +kernel
theorem dL_isPlayed_46 : decode cL_isPlayed 46 = .ok (.aload_n 0, 1) := by decide +kernel
theorem dL_isPlayed_47 : decode cL_isPlayed 47 = .ok (.iload_n 1, 1) := by decide +kernel
theorem dL_isPlayed_48 : decode cL_isPlayed 48 = .ok (.invokevirtual 105, 3) := by decide +kernel
theorem dL_isPlayed_51 : decode cL_isPlayed 51 = .ok (.istore 9, 2) := by decide +kernel
theorem dL_isPlayed_53 : decode cL_isPlayed 53 = .ok (.aload_n 0, 1) := by decide +kernel
theorem dL_isPlayed_54 : decode cL_isPlayed 54 = .ok (.invokevirtual 108, 3) := by decide +kernel
theorem dL_isPlayed_57 : decode cL_isPlayed 57 = .ok (.istore 10, 2) := by decide +kernel
theorem dL_isPlayed_59 : decode cL_isPlayed 59 = .ok (.aload_n 0, 1) := by decide +kernel
theorem dL_isPlayed_60 : decode cL_isPlayed 60 = .ok (.iload_n 1, 1) := by decide +kernel
theorem dL_isPlayed_61 : decode cL_isPlayed 61 = .ok (.invokevirtual 111, 3) := by decide +kernel
theorem dL_isPlayed_64 : decode cL_isPlayed 64 = .ok (.istore 11, 2) := by decide +kernel
theorem dL_isPlayed_66 : decode cL_isPlayed 66 = .ok (.aload_n 0, 1) := by decide +kernel
theorem dL_isPlayed_67 : decode cL_isPlayed 67 = .ok (.bipush 8, 2) := by decide +kernel
theorem dL_isPlayed_69 : decode cL_isPlayed 69 = .ok (.invokevirtual 42, 3) := by decide +kernel
theorem dL_isPlayed_72 : decode cL_isPlayed 72 = .ok (.iload 7, 2) := by decide +kernel
theorem dL_isPlayed_74 : decode cL_isPlayed 74 = .ok (.isub, 1) := by decide +kernel
theorem dL_isPlayed_75 : decode cL_isPlayed 75 = .ok (.istore 12, 2) := by decide +kernel
theorem dL_isPlayed_77 : decode cL_isPlayed 77 = .ok (.aload_n 0, 1) := by decide +kernel
theorem dL_isPlayed_78 : decode cL_isPlayed 78 = .ok (.iload_n 2, 1) := by decide +kernel
theorem dL_isPlayed_79 : decode cL_isPlayed 79 = .ok (.invokestatic 101, 3) := by decide +kernel
theorem dL_isPlayed_82 : decode cL_isPlayed 82 = .ok (.iload_n 3, 1) := by decide +kernel
theorem dL_isPlayed_83 : decode cL_isPlayed 83 = .ok (.isub, 1) := by decide +kernel
theorem dL_isPlayed_84 : decode cL_isPlayed 84 = .ok (.istore 13, 2) := by decide +kernel
theorem dL_isPlayed_86 : decode cL_isPlayed 86 = .ok (.aload_n 0, 1) := by decide +kernel
theorem dL_isPlayed_87 : decode cL_isPlayed 87 = .ok (.bipush 9, 2) := by decide +kernel
theorem dL_isPlayed_89 : decode cL_isPlayed 89 = .ok (.invokevirtual 42, 3) := by decide +kernel
theorem dL_isPlayed_92 : decode cL_isPlayed 92 = .ok (.iload 4, 2) := by decide +kernel
theorem dL_isPlayed_94 : decode cL_isPlayed 94 = .ok (.isub, 1) := by decide +kernel
theorem dL_isPlayed_95 : decode cL_isPlayed 95 = .ok (.iload 11, 2) := by decide +kernel
theorem dL_isPlayed_97 : decode cL_isPlayed 97 = .ok (.if_icmp .ne 49, 3) := by decide +kernel
theorem dL_isPlayed_100 : decode cL_isPlayed 100 = .ok (.aload_n 0, 1) := by decide +kernel
theorem dL_isPlayed_101 : decode cL_isPlayed 101 = .ok (.bipush 11, 2) := by decide +kernel
theorem dL_isPlayed_103 : decode cL_isPlayed 103 = .ok (.invokevirtual 42, 3) := by decide +kernel
theorem dL_isPlayed_106 : decode cL_isPlayed 106 = .ok (.iload 5, 2) := by decide +kernel
theorem dL_isPlayed_108 : decode cL_isPlayed 108 = .ok (.isub, 1) := by decide +kernel
theorem dL_isPlayed_109 : decode cL_isPlayed 109 = .ok (.iload 9, 2) := by decide +kernel
theorem dL_isPlayed_111 : decode cL_isPlayed 111 = .ok (.if_icmp .ne 35, 3) := by decide +kernel
theorem dL_isPlayed_114 : decode cL_isPlayed 114 = .ok (.iload 13, 2) := by decide +kernel
theorem dL_isPlayed_116 : decode cL_isPlayed 116 = .ok (.iload 11, 2) := by decide +kernel
theorem dL_isPlayed_118 : decode cL_isPlayed 118 = .ok (.iload 9, 2) := by decide +kernel
theorem dL_isPlayed_120 : decode cL_isPlayed 120 = .ok (.iadd, 1) := by decide +kernel
theorem dL_isPlayed_121 : decode cL_isPlayed 121 = .ok (.if_icmp .ne 25, 3) := by decide +kernel
theorem dL_isPlayed_124 : decode cL_isPlayed 124 = .ok (.iload 12, 2) := by decide +kernel
theorem dL_isPlayed_126 : decode cL_isPlayed 126 = .ok (.iload_n 1, 1) := by decide +kernel
theorem dL_isPlayed_127 : decode cL_isPlayed 127 = .ok (.iload 10, 2) := by decide +kernel
theorem dL_isPlayed_129 : decode cL_isPlayed 129 = .ok (.invokestatic 58, 3) := by decide +kernel
theorem dL_isPlayed_132 : decode cL_isPlayed 132 = .ok (.if_icmp .ne 14, 3) := by decide +kernel
theorem dL_isPlayed_135 : decode cL_isPlayed 135 = .ok (.aload_n 0, 1) := by decide +kernel
theorem dL_isPlayed_136 : decode cL_isPlayed 136 = .ok (.bipush 14, 2) := by decide +kernel
theorem dL_isPlayed_138 : decode cL_isPlayed 138 = .ok (.invokevirtual 42, 3) := by decide +kernel
theorem dL_isPlayed_141 : decode cL_isPlayed 141 = .ok (.iload 8, 2) := by decide +kernel
theorem dL_isPlayed_143 : decode cL_isPlayed 143 = .ok (.if_icmp .ge 5, 3) := by decide +kernel
theorem dL_isPlayed_146 : decode cL_isPlayed 146 = .ok (.iconst 0, 1) := by decide +kernel
theorem dL_isPlayed_147 : decode cL_isPlayed 147 = .ok (.ireturn, 1) := by decide +kernel
theorem dL_isPlayed_148 : decode cL_isPlayed 148 = .ok (.iload 6, 2) := by decide +kernel
theorem dL_isPlayed_150 : decode cL_isPlayed 150 = .ok (.iconst 2, 1) := by decide +kernel
theorem dL_isPlayed_151 : decode cL_isPlayed 151 = .ok (.iload 12, 2) := by decide +kernel
theorem dL_isPlayed_153 : decode cL_isPlayed 153 = .ok (.imul, 1) := by decide +kernel
theorem dL_isPlayed_154 : decode cL_isPlayed 154 = .ok (.isub, 1) := by decide +kernel
theorem dL_isPlayed_155 : decode cL_isPlayed 155 = .ok (.iload 13, 2) := by decide +kernel
theorem dL_isPlayed_157 : decode cL_isPlayed 157 = .ok (.isub, 1) := by decide +kernel
theorem dL_isPlayed_158 : decode cL_isPlayed 158 = .ok (.istore 14, 2) := by decide +kernel
theorem dL_isPlayed_160 : decode cL_isPlayed 160 = .ok (.aload_n 0, 1) := by decide +kernel
theorem dL_isPlayed_161 : decode cL_isPlayed 161 = .ok (.bipush 6, 2) := by decide +kernel
theorem dL_isPlayed_163 : decode cL_isPlayed 163 = .ok (.invokevirtual 42, 3) := by decide +kernel
theorem dL_isPlayed_166 : decode cL_isPlayed 166 = .ok (.iconst 0, 1) := by decide +kernel
theorem dL_isPlayed_167 : decode cL_isPlayed 167 = .ok (.iload 14, 2) := by decide +kernel
theorem dL_isPlayed_169 : decode cL_isPlayed 169 = .ok (.invokestatic 114, 3) := by decide +kernel
theorem dL_isPlayed_172 : decode cL_isPlayed 172 = .ok (.if_icmp .ne 64, 3) := by decide +kernel
theorem dL_isPlayed_175 : decode cL_isPlayed 175 = .ok (.aload_n 0, 1) := by decide +kernel
theorem dL_isPlayed_176 : decode cL_isPlayed 176 = .ok (.bipush 6, 2) := by decide +kernel
theorem dL_isPlayed_178 : decode cL_isPlayed 178 = .ok (.invokevirtual 42, 3) := by decide +kernel
theorem dL_isPlayed_181 : decode cL_isPlayed 181 = .ok (.ifCond .le 7, 3) := by decide +kernel
theorem dL_isPlayed_184 : decode cL_isPlayed 184 = .ok (.iconst 1, 1) := by decide +kernel
theorem dL_isPlayed_185 : decode cL_isPlayed 185 = .ok (.goto 4, 3) := by decide +kernel
theorem dL_isPlayed_188 : decode cL_isPlayed 188 = .ok (.iconst 0, 1) := by decide +kernel
theorem dL_isPlayed_189 : decode cL_isPlayed 189 = .ok (.iload 10, 2) := by decide +kernel
theorem dL_isPlayed_191 : decode cL_isPlayed 191 = .ok (.iload_n 1, 1) := by decide +kernel
theorem dL_isPlayed_192 : decode cL_isPlayed 192 = .ok (.if_icmp .le 7, 3) := by decide +kernel
theorem dL_isPlayed_195 : decode cL_isPlayed 195 = .ok (.iconst 1, 1) := by decide +kernel
theorem dL_isPlayed_196 : decode cL_isPlayed 196 = .ok (.goto 4, 3) := by decide +kernel
theorem dL_isPlayed_199 : decode cL_isPlayed 199 = .ok (.iconst 0, 1) := by decide +kernel
theorem dL_isPlayed_200 : decode cL_isPlayed 200 = .ok (.if_icmp .ne 36, 3) := by decide +kernel
theorem dL_isPlayed_203 : decode cL_isPlayed 203 = .ok (.aload_n 0, 1) := by decide +kernel
theorem dL_isPlayed_204 : decode cL_isPlayed 204 = .ok (.invokevirtual 108, 3) := by decide +kernel
theorem dL_isPlayed_207 : decode cL_isPlayed 207 = .ok (.iload 10, 2) := by decide +kernel
theorem dL_isPlayed_209 : decode cL_isPlayed 209 = .ok (.iload 12, 2) := by decide +kernel
theorem dL_isPlayed_211 : decode cL_isPlayed 211 = .ok (.isub, 1) := by decide +kernel
theorem dL_isPlayed_212 : decode cL_isPlayed 212 = .ok (.if_icmp .ne 24, 3) := by decide +kernel
theorem dL_isPlayed_215 : decode cL_isPlayed 215 = .ok (.aload_n 0, 1) := by decide +kernel
theorem dL_isPlayed_216 : decode cL_isPlayed 216 = .ok (.iconst 4, 1) := by decide +kernel
theorem dL_isPlayed_217 : decode cL_isPlayed 217 = .ok (.invokevirtual 42, 3) := by decide +kernel
theorem dL_isPlayed_220 : decode cL_isPlayed 220 = .ok (.aload_n 0, 1) := by decide +kernel
theorem dL_isPlayed_221 : decode cL_isPlayed 221 = .ok (.bipush 8, 2) := by decide +kernel
theorem dL_isPlayed_223 : decode cL_isPlayed 223 = .ok (.invokevirtual 42, 3) := by decide +kernel
theorem dL_isPlayed_226 : decode cL_isPlayed 226 = .ok (.bipush 64, 2) := by decide +kernel
theorem dL_isPlayed_228 : decode cL_isPlayed 228 = .ok (.irem, 1) := by decide +kernel
theorem dL_isPlayed_229 : decode cL_isPlayed 229 = .ok (.if_icmp .ne 7, 3) := by decide +kernel
theorem dL_isPlayed_232 : decode cL_isPlayed 232 = .ok (.iconst 1, 1) := by decide +kernel
theorem dL_isPlayed_233 : decode cL_isPlayed 233 = .ok (.goto 4, 3) := by decide +kernel
theorem dL_isPlayed_236 : decode cL_isPlayed 236 = .ok (.iconst 0, 1) := by decide +kernel
theorem dL_isPlayed_237 : decode cL_isPlayed 237 = .ok (.ireturn, 1) := by decide +kernel
set_option maxRecDepth 20000 in
theorem ggL_areWell_X5_ofTooth : GoodIn wsL_areWell wsX5_ofTooth := goodIn_ca (goodIn_ca (goodIn_r _ [9, 10, 11, 12, 13, 14, 15, 16, 17, 18, 8, 19, 20, 21, 22, 23, 24, 25, 26, 27, 28, 29, 30, 31, 32, 33, 34, 35, 36, 37, 38, 39, 40, 41, 42, 43, 44, 45, 46, 47, 352, 353, 354, 355, 356, 357, 358, 359, 360, 361, 362, 363, 364, 365, 366] (by decide +kernel) (by decide +kernel)) (goodIn_sub (fun _ h => List.mem_cons_of_mem _ (List.mem_append_left _ (List.mem_append_right _ h))) (by decide +kernel))) (goodIn_sub (fun _ h => List.mem_cons_of_mem _ (List.mem_append_right _ h)) (by decide +kernel))
set_option maxRecDepth 20000 in
theorem gL_areWell_X5_ofTooth : GoodIn wsL_areWell (wsV RL 76 RX5 yX5_ofTooth wsX5_ofTooth) := goodIn_app (goodIn_of _ (by decide +kernel)) ggL_areWell_X5_ofTooth
set_option maxRecDepth 20000 in
theorem ggL_areWell_X5_pins : GoodIn wsL_areWell wsX5_pins := goodIn_ca (goodIn_r _ [51, 15, 16, 17, 18, 8, 19, 20, 21, 10, 22, 52, 53, 54, 55, 34, 35, 31, 36, 37, 38, 39, 40, 352, 353, 354, 355, 356, 357, 358, 359, 360, 361, 362, 363, 364, 365, 366] (by decide +kernel) (by decide +kernel)) (goodIn_sub (fun _ h => List.mem_cons_of_mem _ (List.mem_append_left _ (List.mem_append_right _ h))) (by decide +kernel))
set_option maxRecDepth 20000 in
theorem gL_areWell_X5_pins : GoodIn wsL_areWell (wsV RL 117 RX5 yX5_pins wsX5_pins) := goodIn_app (goodIn_of _ (by decide +kernel)) ggL_areWell_X5_pins
set_option maxRecDepth 20000 in
theorem ggL_areWell_J13_bitCount_95d88 : GoodIn wsL_areWell wsJ13_bitCount_95d88 := goodIn_r _ [44, 45, 46, 47] (by decide +kernel) (by decide +kernel)
set_option maxRecDepth 20000 in
theorem gL_areWell_J13_bitCount_95d88 : GoodIn wsL_areWell (va_wsS RL 121 yJ13_bitCount_95d88 wsJ13_bitCount_95d88) := goodIn_app (goodIn_of _ (by decide +kernel)) ggL_areWell_J13_bitCount_95d88
set_option maxRecDepth 20000 in
theorem ggL_areWell_J13_rotateLeft_b2ac5 : GoodIn wsL_areWell wsJ13_rotateLeft_b2ac5 := goodIn_r _ [59] (by decide +kernel) (by decide +kernel)
set_option maxRecDepth 20000 in
theorem gL_areWell_J13_rotateLeft_b2ac5 : GoodIn wsL_areWell (va_wsS RL 127 yJ13_rotateLeft_b2ac5 wsJ13_rotateLeft_b2ac5) := goodIn_app (goodIn_of _ (by decide +kernel)) ggL_areWell_J13_rotateLeft_b2ac5
set_option maxRecDepth 20000 in
theorem ggL_areWell_X5_many : GoodIn wsL_areWell wsX5_many := goodIn_ca (goodIn_r _ [63, 10, 22, 64, 65, 66, 67, 68, 69, 70, 71, 72, 73, 74, 75, 76, 77, 78, 23, 24, 8, 25, 26, 27, 79, 80, 81, 82, 83, 84, 85, 86, 87, 88, 89, 15, 28, 29, 30, 31, 32, 33, 34, 35, 36, 37, 38, 39, 40, 41, 42, 43, 44, 45, 46, 47, 352, 353, 354, 355, 356, 357, 358, 359, 360, 361, 362, 363, 364, 367, 368, 369, 370, 371, 372, 373, 374, 375, 376, 377, 378, 379, 380, 381, 382, 383, 384, 385, 365, 366] (by decide +kernel) (by decide +kernel)) (goodIn_sub (fun _ h => List.mem_cons_of_mem _ (List.mem_append_right _ h)) (by decide +kernel))
set_option maxRecDepth 20000 in
theorem gL_areWell_X5_many : GoodIn wsL_areWell (wsV RL 42 RX5 yX5_many wsX5_many) := goodIn_app (goodIn_of _ (by decide +kernel)) ggL_areWell_X5_many
set_option maxRecDepth 20000 in
theorem ggL_areWell_X5_when : GoodIn wsL_areWell wsX5_when := goodIn_ca (goodIn_r _ [93, 94, 72, 95, 96, 97, 8, 98, 20, 21, 74, 99, 100, 101, 102, 103, 104, 105, 106, 107, 108, 109, 110, 111, 112, 113, 352, 353, 354, 355, 356, 357, 358, 381, 382, 383, 384, 385] (by decide +kernel) (by decide +kernel)) (goodIn_sub (fun _ h => List.mem_cons_of_mem _ (List.mem_append_left _ (List.mem_append_right _ h))) (by decide +kernel))
set_option maxRecDepth 20000 in
theorem gL_areWell_X5_when : GoodIn wsL_areWell (wsV RL 131 RX5 yX5_when wsX5_when) := goodIn_app (goodIn_of _ (by decide +kernel)) ggL_areWell_X5_when
set_option maxRecDepth 20000 in
theorem ggL_areWell_X5_heard : GoodIn wsL_areWell wsX5_heard := goodIn_ca (goodIn_r _ [117, 72, 95, 96, 97, 8, 98, 20, 21, 74, 118, 119, 120, 102, 121, 122, 105, 106, 107, 108, 109, 352, 353, 354, 355, 356, 357, 358, 381, 382, 383, 384, 385] (by decide +kernel) (by decide +kernel)) (goodIn_sub (fun _ h => List.mem_cons_of_mem _ (List.mem_append_left _ (List.mem_append_right _ h))) (by decide +kernel))
set_option maxRecDepth 20000 in
theorem gL_areWell_X5_heard : GoodIn wsL_areWell (wsV RL 134 RX5 yX5_heard wsX5_heard) := goodIn_app (goodIn_of _ (by decide +kernel)) ggL_areWell_X5_heard
set_option maxRecDepth 20000 in
theorem ggL_areWell_X5_row : GoodIn wsL_areWell wsX5_row := goodIn_ca (goodIn_r _ [126, 127, 128, 129, 10, 22, 130, 131, 8, 132, 20, 21, 133, 134, 135, 136, 137, 138, 139, 140, 141, 142, 143, 144, 145, 146, 147, 148, 149, 150, 151, 152, 153, 154, 155, 156, 157, 158, 12, 15, 66, 68, 159, 160, 161, 31, 162, 37, 38, 39, 40, 163, 164, 165, 166, 167, 168, 169, 170, 171, 172, 173, 174, 175, 176, 177, 178, 179, 180, 181, 182, 183, 184, 185, 186, 187, 188, 189, 3, 190, 191, 192, 193, 194, 195, 196, 197, 198, 199, 200, 201, 202, 203, 204, 205, 2, 4, 206, 207, 208, 209, 210, 211, 212, 213, 214, 215, 216, 217, 218, 219, 220, 221, 222, 223, 224, 225, 226, 227, 228, 229, 230, 231, 232, 233, 234, 235, 236, 237, 238, 239, 240, 241, 242, 243, 244, 245, 246, 247, 248, 249, 250, 251, 252, 253, 254, 255, 256, 257, 258, 259, 260, 261, 262, 263, 264, 265, 266, 267, 268, 269, 270, 271, 272, 273, 274, 275, 276, 277, 278, 279, 280, 281, 282, 283, 284, 285, 286, 287, 288, 289, 290, 291, 292, 293, 294, 295, 296, 297, 298, 299, 300, 301, 302, 303, 304, 305, 306, 307, 308, 309, 310, 311, 312, 313, 314, 315, 316, 386, 387, 388, 389, 352, 353, 354, 355, 356, 357, 358, 359, 360, 361, 362, 363, 364, 370, 371, 372, 373, 374, 375, 376, 377, 378, 379, 380, 365, 366, 390, 391, 392, 393] (by decide +kernel) (by decide +kernel)) (goodIn_sub (fun _ h => List.mem_cons_of_mem _ (List.mem_append_left _ (List.mem_append_right _ h))) (by decide +kernel))
set_option maxRecDepth 20000 in
theorem gL_areWell_X5_row : GoodIn wsL_areWell (wsV RL 137 RX5 yX5_row wsX5_row) := goodIn_app (goodIn_of _ (by decide +kernel)) ggL_areWell_X5_row
set_option maxRecDepth 20000 in
theorem ggL_areWell_J0_length_8abf5 : GoodIn wsL_areWell wsJ0_length_8abf5 := goodIn_r _ [320, 277, 321, 322, 323, 238, 324, 278, 276, 390, 391, 392, 393] (by decide +kernel) (by decide +kernel)
set_option maxRecDepth 20000 in
theorem gL_areWell_J0_length_8abf5 : GoodIn wsL_areWell (wsV RL 141 RJ0 yJ0_length_8abf5 wsJ0_length_8abf5) := goodIn_app (goodIn_of _ (by decide +kernel)) ggL_areWell_J0_length_8abf5
set_option maxRecDepth 20000 in
theorem ggL_areWell_X5_wear : GoodIn wsL_areWell wsX5_wear := goodIn_ca (goodIn_r _ [328, 15, 16, 17, 18, 8, 19, 20, 21, 10, 22, 52, 53, 54, 130, 131, 132, 159, 160, 161, 31, 162, 37, 38, 39, 40, 329, 330, 331, 332, 333, 334, 335, 336, 352, 353, 354, 355, 356, 357, 358, 359, 360, 361, 362, 363, 364, 365, 366] (by decide +kernel) (by decide +kernel)) (goodIn_sub (fun _ h => List.mem_cons_of_mem _ (List.mem_append_left _ (List.mem_append_right _ h))) (by decide +kernel))
set_option maxRecDepth 20000 in
theorem gL_areWell_X5_wear : GoodIn wsL_areWell (wsV RL 146 RX5 yX5_wear wsX5_wear) := goodIn_app (goodIn_of _ (by decide +kernel)) ggL_areWell_X5_wear
set_option maxRecDepth 20000 in
theorem ggL_areWell_J0_charAt_5068e : GoodIn wsL_areWell wsJ0_charAt_5068e := goodIn_r _ [340, 277, 341, 342, 343, 238, 344, 278, 276, 345, 346, 217, 347, 348, 258, 259, 240, 260, 261, 243, 262, 349, 350, 149, 351, 254, 255, 256, 233, 234, 235, 257, 310, 311, 312, 248, 249, 250, 390, 391, 392, 393] (by decide +kernel) (by decide +kernel)
set_option maxRecDepth 20000 in
theorem gL_areWell_J0_charAt_5068e : GoodIn wsL_areWell (wsV RL 149 RJ0 yJ0_charAt_5068e wsJ0_charAt_5068e) := goodIn_app (goodIn_of _ (by decide +kernel)) ggL_areWell_J0_charAt_5068e
theorem dL_areWell_0 : decode cL_areWell 0 = .ok (.iconst 0, 1) := by decide +kernel
theorem dL_areWell_1 : decode cL_areWell 1 = .ok (.istore_n 2, 1) := by decide +kernel
theorem dL_areWell_2 : decode cL_areWell 2 = .ok (.iconst 0, 1) := by decide +kernel
theorem dL_areWell_3 : decode cL_areWell 3 = .ok (.istore_n 3, 1) := by decide +kernel
theorem dL_areWell_4 : decode cL_areWell 4 = .ok (.iconst 0, 1) := by decide +kernel
theorem dL_areWell_5 : decode cL_areWell 5 = .ok (.istore 4, 2) := by decide +kernel
theorem dL_areWell_7 : decode cL_areWell 7 = .ok (.iload 4, 2) := by decide +kernel
theorem dL_areWell_9 : decode cL_areWell 9 = .ok (.iload_n 1, 1) := by decide +kernel
theorem dL_areWell_10 : decode cL_areWell 10 = .ok (.if_icmp .ge 163, 3) := by decide +kernel
theorem dL_areWell_13 : decode cL_areWell 13 = .ok (.aload_n 0, 1) := by decide +kernel
theorem dL_areWell_14 : decode cL_areWell 14 = .ok (.iload 4, 2) := by decide +kernel
theorem dL_areWell_16 : decode cL_areWell 16 = .ok (.iconst 1, 1) := by decide +kernel
theorem dL_areWell_17 : decode cL_areWell 17 = .ok (.invokevirtual 76, 3) := by decide +kernel
theorem dL_areWell_20 : decode cL_areWell 20 = .ok (.iconst 1, 1) := by decide +kernel
theorem dL_areWell_21 : decode cL_areWell 21 = .ok (.if_icmp .ne 7, 3) := by decide +kernel
theorem dL_areWell_24 : decode cL_areWell 24 = .ok (.iconst 1, 1) := by decide +kernel
theorem dL_areWell_25 : decode cL_areWell 25 = .ok (.goto 4, 3) := by decide +kernel
theorem dL_areWell_28 : decode cL_areWell 28 = .ok (.iconst 0, 1) := by decide +kernel
theorem dL_areWell_29 : decode cL_areWell 29 = .ok (.istore 5, 2) := by decide +kernel
theorem dL_areWell_31 : decode cL_areWell 31 = .ok (.iload_n 3, 1) := by decide +kernel
theorem dL_areWell_32 : decode cL_areWell 32 = .ok (.iload 5, 2) := by decide +kernel
theorem dL_areWell_34 : decode cL_areWell 34 = .ok (.ifCond .eq 7, 3) := by decide +kernel
theorem dL_areWell_37 : decode cL_areWell 37 = .ok (.iconst 1, 1) := by decide +kernel
theorem dL_areWell_38 : decode cL_areWell 38 = .ok (.goto 4, 3) := by decide +kernel
theorem dL_areWell_41 : decode cL_areWell 41 = .ok (.iconst 0, 1) := by decide +kernel
theorem dL_areWell_42 : decode cL_areWell 42 = .ok (.iadd, 1) := by decide +kernel
theorem dL_areWell_43 : decode cL_areWell 43 = .ok (.istore_n 3, 1) := by decide +kernel
theorem dL_areWell_44 : decode cL_areWell 44 = .ok (.iload 5, 2) := by decide +kernel
theorem dL_areWell_46 : decode cL_areWell 46 = .ok (.aload_n 0, 1) := by decide +kernel
theorem dL_areWell_47 : decode cL_areWell 47 = .ok (.iload 4, 2) := by decide +kernel
theorem dL_areWell_49 : decode cL_areWell 49 = .ok (.iconst 2, 1) := by decide +kernel
theorem dL_areWell_50 : decode cL_areWell 50 = .ok (.invokevirtual 76, 3) := by decide +kernel
theorem dL_areWell_53 : decode cL_areWell 53 = .ok (.iconst 4, 1) := by decide +kernel
theorem dL_areWell_54 : decode cL_areWell 54 = .ok (.if_icmp .ne 7, 3) := by decide +kernel
theorem dL_areWell_57 : decode cL_areWell 57 = .ok (.iconst 1, 1) := by decide +kernel
theorem dL_areWell_58 : decode cL_areWell 58 = .ok (.goto 4, 3) := by decide +kernel
theorem dL_areWell_61 : decode cL_areWell 61 = .ok (.iconst 0, 1) := by decide +kernel
theorem dL_areWell_62 : decode cL_areWell 62 = .ok (.if_icmp .ne 14, 3) := by decide +kernel
theorem dL_areWell_65 : decode cL_areWell 65 = .ok (.aload_n 0, 1) := by decide +kernel
theorem dL_areWell_66 : decode cL_areWell 66 = .ok (.iload 4, 2) := by decide +kernel
theorem dL_areWell_68 : decode cL_areWell 68 = .ok (.iconst 2, 1) := by decide +kernel
theorem dL_areWell_69 : decode cL_areWell 69 = .ok (.invokevirtual 76, 3) := by decide +kernel
theorem dL_areWell_72 : decode cL_areWell 72 = .ok (.iconst 4, 1) := by decide +kernel
theorem dL_areWell_73 : decode cL_areWell 73 = .ok (.if_icmp .le 5, 3) := by decide +kernel
theorem dL_areWell_76 : decode cL_areWell 76 = .ok (.iconst 0, 1) := by decide +kernel
theorem dL_areWell_77 : decode cL_areWell 77 = .ok (.ireturn, 1) := by decide +kernel
theorem dL_areWell_78 : decode cL_areWell 78 = .ok (.iconst 0, 1) := by decide +kernel
theorem dL_areWell_79 : decode cL_areWell 79 = .ok (.istore 6, 2) := by decide +kernel
theorem dL_areWell_81 : decode cL_areWell 81 = .ok (.iconst 0, 1) := by decide +kernel
theorem dL_areWell_82 : decode cL_areWell 82 = .ok (.istore 7, 2) := by decide +kernel
theorem dL_areWell_84 : decode cL_areWell 84 = .ok (.iload 7, 2) := by decide +kernel
theorem dL_areWell_86 : decode cL_areWell 86 = .ok (.iconst 3, 1) := by decide +kernel
theorem dL_areWell_87 : decode cL_areWell 87 = .ok (.if_icmp .ge 61, 3) := by decide +kernel
theorem dL_areWell_90 : decode cL_areWell 90 = .ok (.aload_n 0, 1) := by decide +kernel
theorem dL_areWell_91 : decode cL_areWell 91 = .ok (.iload 4, 2) := by decide +kernel
theorem dL_areWell_93 : decode cL_areWell 93 = .ok (.iload 7, 2) := by decide +kernel
theorem dL_areWell_95 : decode cL_areWell 95 = .ok (.invokevirtual 117, 3) := by decide +kernel
theorem dL_areWell_98 : decode cL_areWell 98 = .ok (.lstore 8, 2) := by decide +kernel
theorem dL_areWell_100 : decode cL_areWell 100 = .ok (.iload 6, 2) := by decide +kernel
theorem dL_areWell_102 : decode cL_areWell 102 = .ok (.lload 8, 2) := by decide +kernel
theorem dL_areWell_104 : decode cL_areWell 104 = .ok (.invokestatic 121, 3) := by decide +kernel
theorem dL_areWell_107 : decode cL_areWell 107 = .ok (.iadd, 1) := by decide +kernel
theorem dL_areWell_108 : decode cL_areWell 108 = .ok (.istore 6, 2) := by decide +kernel
theorem dL_areWell_110 : decode cL_areWell 110 = .ok (.iconst 1, 1) := by decide +kernel
theorem dL_areWell_111 : decode cL_areWell 111 = .ok (.istore 10, 2) := by decide +kernel
theorem dL_areWell_113 : decode cL_areWell 113 = .ok (.iload 10, 2) := by decide +kernel
theorem dL_areWell_115 : decode cL_areWell 115 = .ok (.iconst 4, 1) := by decide +kernel
theorem dL_areWell_116 : decode cL_areWell 116 = .ok (.if_icmp .ge 26, 3) := by decide +kernel
theorem dL_areWell_119 : decode cL_areWell 119 = .ok (.lload 8, 2) := by decide +kernel
theorem dL_areWell_121 : decode cL_areWell 121 = .ok (.lload 8, 2) := by decide +kernel
theorem dL_areWell_123 : decode cL_areWell 123 = .ok (.iload 10, 2) := by decide +kernel
theorem dL_areWell_125 : decode cL_areWell 125 = .ok (.invokestatic 127, 3) := by decide +kernel
theorem dL_areWell_128 : decode cL_areWell 128 = .ok (.land, 1) := by decide +kernel
theorem dL_areWell_129 : decode cL_areWell 129 = .ok (.lconst 0, 1) := by decide +kernel
theorem dL_areWell_130 : decode cL_areWell 130 = .ok (.lcmp, 1) := by decide +kernel
theorem dL_areWell_131 : decode cL_areWell 131 = .ok (.ifCond .eq 5, 3) := by decide +kernel
theorem dL_areWell_134 : decode cL_areWell 134 = .ok (.iconst 0, 1) := by decide +kernel
theorem dL_areWell_135 : decode cL_areWell 135 = .ok (.ireturn, 1) := by decide +kernel
theorem dL_areWell_136 : decode cL_areWell 136 = .ok (.iinc 10 1, 3) := by decide +kernel
theorem dL_areWell_139 : decode cL_areWell 139 = .ok (.goto (-26), 3) := by decide +kernel
theorem dL_areWell_142 : decode cL_areWell 142 = .ok (.iinc 7 1, 3) := by decide +kernel
theorem dL_areWell_145 : decode cL_areWell 145 = .ok (.goto (-61), 3) := by decide +kernel
theorem dL_areWell_148 : decode cL_areWell 148 = .ok (.aload_n 0, 1) := by decide +kernel
theorem dL_areWell_149 : decode cL_areWell 149 = .ok (.iload 4, 2) := by decide +kernel
theorem dL_areWell_151 : decode cL_areWell 151 = .ok (.iconst 4, 1) := by decide +kernel
theorem dL_areWell_152 : decode cL_areWell 152 = .ok (.invokevirtual 76, 3) := by decide +kernel
theorem dL_areWell_155 : decode cL_areWell 155 = .ok (.iload 6, 2) := by decide +kernel
theorem dL_areWell_157 : decode cL_areWell 157 = .ok (.if_icmp .eq 5, 3) := by decide +kernel
theorem dL_areWell_160 : decode cL_areWell 160 = .ok (.iconst 0, 1) := by decide +kernel
theorem dL_areWell_161 : decode cL_areWell 161 = .ok (.ireturn, 1) := by decide +kernel
theorem dL_areWell_162 : decode cL_areWell 162 = .ok (.iload_n 2, 1) := by decide +kernel
theorem dL_areWell_163 : decode cL_areWell 163 = .ok (.iload 6, 2) := by decide +kernel
theorem dL_areWell_165 : decode cL_areWell 165 = .ok (.iadd, 1) := by decide +kernel
theorem dL_areWell_166 : decode cL_areWell 166 = .ok (.istore_n 2, 1) := by decide +kernel
theorem dL_areWell_167 : decode cL_areWell 167 = .ok (.iinc 4 1, 3) := by decide +kernel
theorem dL_areWell_170 : decode cL_areWell 170 = .ok (.goto (-163), 3) := by decide +kernel
theorem dL_areWell_173 : decode cL_areWell 173 = .ok (.aload_n 0, 1) := by decide +kernel
theorem dL_areWell_174 : decode cL_areWell 174 = .ok (.bipush 10, 2) := by decide +kernel
theorem dL_areWell_176 : decode cL_areWell 176 = .ok (.invokevirtual 42, 3) := by decide +kernel
theorem dL_areWell_179 : decode cL_areWell 179 = .ok (.istore 4, 2) := by decide +kernel
theorem dL_areWell_181 : decode cL_areWell 181 = .ok (.iload 4, 2) := by decide +kernel
theorem dL_areWell_183 : decode cL_areWell 183 = .ok (.bipush 40, 2) := by decide +kernel
theorem dL_areWell_185 : decode cL_areWell 185 = .ok (.aload_n 0, 1) := by decide +kernel
theorem dL_areWell_186 : decode cL_areWell 186 = .ok (.bipush 9, 2) := by decide +kernel
theorem dL_areWell_188 : decode cL_areWell 188 = .ok (.invokevirtual 42, 3) := by decide +kernel
theorem dL_areWell_191 : decode cL_areWell 191 = .ok (.invokestatic 58, 3) := by decide +kernel
theorem dL_areWell_194 : decode cL_areWell 194 = .ok (.if_icmp .ne 21, 3) := by decide +kernel
theorem dL_areWell_197 : decode cL_areWell 197 = .ok (.aload_n 0, 1) := by decide +kernel
theorem dL_areWell_198 : decode cL_areWell 198 = .ok (.iconst 3, 1) := by decide +kernel
theorem dL_areWell_199 : decode cL_areWell 199 = .ok (.invokevirtual 42, 3) := by decide +kernel
theorem dL_areWell_202 : decode cL_areWell 202 = .ok (.iload_n 2, 1) := by decide +kernel
theorem dL_areWell_203 : decode cL_areWell 203 = .ok (.if_icmp .ne 12, 3) := by decide +kernel
theorem dL_areWell_206 : decode cL_areWell 206 = .ok (.aload_n 0, 1) := by decide +kernel
theorem dL_areWell_207 : decode cL_areWell 207 = .ok (.iconst 1, 1) := by decide +kernel
theorem dL_areWell_208 : decode cL_areWell 208 = .ok (.invokevirtual 42, 3) := by decide +kernel
theorem dL_areWell_211 : decode cL_areWell 211 = .ok (.iload_n 3, 1) := by decide +kernel
theorem dL_areWell_212 : decode cL_areWell 212 = .ok (.if_icmp .eq 5, 3) := by decide +kernel
theorem dL_areWell_215 : decode cL_areWell 215 = .ok (.iconst 0, 1) := by decide +kernel
theorem dL_areWell_216 : decode cL_areWell 216 = .ok (.ireturn, 1) := by decide +kernel
theorem dL_areWell_217 : decode cL_areWell 217 = .ok (.iconst 1, 1) := by decide +kernel
theorem dL_areWell_218 : decode cL_areWell 218 = .ok (.istore 5, 2) := by decide +kernel
theorem dL_areWell_220 : decode cL_areWell 220 = .ok (.iload 5, 2) := by decide +kernel
theorem dL_areWell_222 : decode cL_areWell 222 = .ok (.iload 4, 2) := by decide +kernel
theorem dL_areWell_224 : decode cL_areWell 224 = .ok (.if_icmp .ge 38, 3) := by decide +kernel
theorem dL_areWell_227 : decode cL_areWell 227 = .ok (.aload_n 0, 1) := by decide +kernel
theorem dL_areWell_228 : decode cL_areWell 228 = .ok (.iload 5, 2) := by decide +kernel
theorem dL_areWell_230 : decode cL_areWell 230 = .ok (.invokevirtual 131, 3) := by decide +kernel
theorem dL_areWell_233 : decode cL_areWell 233 = .ok (.aload_n 0, 1) := by decide +kernel
theorem dL_areWell_234 : decode cL_areWell 234 = .ok (.iload 5, 2) := by decide +kernel
theorem dL_areWell_236 : decode cL_areWell 236 = .ok (.iconst 1, 1) := by decide +kernel
theorem dL_areWell_237 : decode cL_areWell 237 = .ok (.isub, 1) := by decide +kernel
theorem dL_areWell_238 : decode cL_areWell 238 = .ok (.invokevirtual 131, 3) := by decide +kernel
theorem dL_areWell_241 : decode cL_areWell 241 = .ok (.dcmp .g, 1) := by decide +kernel
theorem dL_areWell_242 : decode cL_areWell 242 = .ok (.ifCond .lt 12, 3) := by decide +kernel
theorem dL_areWell_245 : decode cL_areWell 245 = .ok (.aload_n 0, 1) := by decide +kernel
theorem dL_areWell_246 : decode cL_areWell 246 = .ok (.iload 5, 2) := by decide +kernel
theorem dL_areWell_248 : decode cL_areWell 248 = .ok (.invokevirtual 134, 3) := by decide +kernel
theorem dL_areWell_251 : decode cL_areWell 251 = .ok (.ifCond .ge 5, 3) := by decide +kernel
theorem dL_areWell_254 : decode cL_areWell 254 = .ok (.iconst 0, 1) := by decide +kernel
theorem dL_areWell_255 : decode cL_areWell 255 = .ok (.ireturn, 1) := by decide +kernel
theorem dL_areWell_256 : decode cL_areWell 256 = .ok (.iinc 5 1, 3) := by decide +kernel
theorem dL_areWell_259 : decode cL_areWell 259 = .ok (.goto (-39), 3) := by decide +kernel
theorem dL_areWell_262 : decode cL_areWell 262 = .ok (.aload_n 0, 1) := by decide +kernel
theorem dL_areWell_263 : decode cL_areWell 263 = .ok (.iconst 4, 1) := by decide +kernel
theorem dL_areWell_264 : decode cL_areWell 264 = .ok (.invokevirtual 42, 3) := by decide +kernel
theorem dL_areWell_267 : decode cL_areWell 267 = .ok (.istore 5, 2) := by decide +kernel
theorem dL_areWell_269 : decode cL_areWell 269 = .ok (.aload_n 0, 1) := by decide +kernel
theorem dL_areWell_270 : decode cL_areWell 270 = .ok (.iload 5, 2) := by decide +kernel
theorem dL_areWell_272 : decode cL_areWell 272 = .ok (.invokevirtual 137, 3) := by decide +kernel
theorem dL_areWell_275 : decode cL_areWell 275 = .ok (.astore 6, 2) := by decide +kernel
theorem dL_areWell_277 : decode cL_areWell 277 = .ok (.aload 6, 2) := by decide +kernel
theorem dL_areWell_279 : decode cL_areWell 279 = .ok (.invokevirtual 141, 3) := by decide +kernel
theorem dL_areWell_282 : decode cL_areWell 282 = .ok (.iload_n 1, 1) := by decide +kernel
theorem dL_areWell_283 : decode cL_areWell 283 = .ok (.if_icmp .eq 5, 3) := by decide +kernel
theorem dL_areWell_286 : decode cL_areWell 286 = .ok (.iconst 0, 1) := by decide +kernel
theorem dL_areWell_287 : decode cL_areWell 287 = .ok (.ireturn, 1) := by decide +kernel
theorem dL_areWell_288 : decode cL_areWell 288 = .ok (.iconst 0, 1) := by decide +kernel
theorem dL_areWell_289 : decode cL_areWell 289 = .ok (.istore 7, 2) := by decide +kernel
theorem dL_areWell_291 : decode cL_areWell 291 = .ok (.iload 7, 2) := by decide +kernel
theorem dL_areWell_293 : decode cL_areWell 293 = .ok (.iload_n 1, 1) := by decide +kernel
theorem dL_areWell_294 : decode cL_areWell 294 = .ok (.if_icmp .ge 85, 3) := by decide +kernel
theorem dL_areWell_297 : decode cL_areWell 297 = .ok (.aload_n 0, 1) := by decide +kernel
theorem dL_areWell_298 : decode cL_areWell 298 = .ok (.iload 7, 2) := by decide +kernel
theorem dL_areWell_300 : decode cL_areWell 300 = .ok (.aload_n 0, 1) := by decide +kernel
theorem dL_areWell_301 : decode cL_areWell 301 = .ok (.iconst 5, 1) := by decide +kernel
theorem dL_areWell_302 : decode cL_areWell 302 = .ok (.invokevirtual 42, 3) := by decide +kernel
theorem dL_areWell_305 : decode cL_areWell 305 = .ok (.iload 5, 2) := by decide +kernel
theorem dL_areWell_307 : decode cL_areWell 307 = .ok (.invokevirtual 146, 3) := by decide +kernel
theorem dL_areWell_310 : decode cL_areWell 310 = .ok (.ifCond .lt 7, 3) := by decide +kernel
theorem dL_areWell_313 : decode cL_areWell 313 = .ok (.iconst 1, 1) := by decide +kernel
theorem dL_areWell_314 : decode cL_areWell 314 = .ok (.goto 4, 3) := by decide +kernel
theorem dL_areWell_317 : decode cL_areWell 317 = .ok (.iconst 0, 1) := by decide +kernel
theorem dL_areWell_318 : decode cL_areWell 318 = .ok (.istore 8, 2) := by decide +kernel
theorem dL_areWell_320 : decode cL_areWell 320 = .ok (.aload 6, 2) := by decide +kernel
theorem dL_areWell_322 : decode cL_areWell 322 = .ok (.iload 7, 2) := by decide +kernel
theorem dL_areWell_324 : decode cL_areWell 324 = .ok (.invokevirtual 149, 3) := by decide +kernel
theorem dL_areWell_327 : decode cL_areWell 327 = .ok (.aload_n 0, 1) := by decide +kernel
theorem dL_areWell_328 : decode cL_areWell 328 = .ok (.iload 7, 2) := by decide +kernel
theorem dL_areWell_330 : decode cL_areWell 330 = .ok (.iconst 1, 1) := by decide +kernel
theorem dL_areWell_331 : decode cL_areWell 331 = .ok (.invokevirtual 76, 3) := by decide +kernel
theorem dL_areWell_334 : decode cL_areWell 334 = .ok (.iconst 1, 1) := by decide +kernel
theorem dL_areWell_335 : decode cL_areWell 335 = .ok (.if_icmp .ne 8, 3) := by decide +kernel
theorem dL_areWell_338 : decode cL_areWell 338 = .ok (.bipush 120, 2) := by decide +kernel
theorem dL_areWell_340 : decode cL_areWell 340 = .ok (.goto 15, 3) := by decide +kernel
theorem dL_areWell_343 : decode cL_areWell 343 = .ok (.iload 8, 2) := by decide +kernel
theorem dL_areWell_345 : decode cL_areWell 345 = .ok (.ifCond .eq 8, 3) := by decide +kernel
theorem dL_areWell_348 : decode cL_areWell 348 = .ok (.bipush 124, 2) := by decide +kernel
theorem dL_areWell_350 : decode cL_areWell 350 = .ok (.goto 5, 3) := by decide +kernel
theorem dL_areWell_353 : decode cL_areWell 353 = .ok (.bipush 46, 2) := by decide +kernel
theorem dL_areWell_355 : decode cL_areWell 355 = .ok (.if_icmp .ne 16, 3) := by decide +kernel
theorem dL_areWell_358 : decode cL_areWell 358 = .ok (.aload_n 0, 1) := by decide +kernel
theorem dL_areWell_359 : decode cL_areWell 359 = .ok (.iload 7, 2) := by decide +kernel
theorem dL_areWell_361 : decode cL_areWell 361 = .ok (.iconst 0, 1) := by decide +kernel
theorem dL_areWell_362 : decode cL_areWell 362 = .ok (.iload 5, 2) := by decide +kernel
theorem dL_areWell_364 : decode cL_areWell 364 = .ok (.invokevirtual 146, 3) := by decide +kernel
theorem dL_areWell_367 : decode cL_areWell 367 = .ok (.iconst 4, 1) := by decide +kernel
theorem dL_areWell_368 : decode cL_areWell 368 = .ok (.if_icmp .le 5, 3) := by decide +kernel
theorem dL_areWell_371 : decode cL_areWell 371 = .ok (.iconst 0, 1) := by decide +kernel
theorem dL_areWell_372 : decode cL_areWell 372 = .ok (.ireturn, 1) := by decide +kernel
theorem dL_areWell_373 : decode cL_areWell 373 = .ok (.iinc 7 1, 3) := by decide +kernel
theorem dL_areWell_376 : decode cL_areWell 376 = .ok (.goto (-85), 3) := by decide +kernel
theorem dL_areWell_379 : decode cL_areWell 379 = .ok (.iconst 1, 1) := by decide +kernel
theorem dL_areWell_380 : decode cL_areWell 380 = .ok (.ireturn, 1) := by decide +kernel
abbrev vwCl : List vw_C := [(RJ0, TJ0, 4), (RJ4, TJ4, 4), (RX0, TX0, 2), (RX1, TX1, 6), (RX2, TX2, 5), (RX3, TX3, 3), (RX4, TX4, 11), (RX5, TX5, 7)]
end
section
section XB
variable {p : Program} {l : Launch} {e : Env} {R : Room} {s : State} {m : MethodId} {args : Array Value} {below : List Frame} {meth : Method} {c : Code} {H : Heap} {locs : List Loc} {cells slots : Nat} {Q : State → Prop}
variable {cc : ByteArray} {pc : Nat} {ls : Array Slot} {rest : List Value} {D : va_G} {cl : List vw_C} {A : Nat → Prop} {a : Nat} {tys : List (ClassId × FieldType)} {ws : va_W} {H0 : Heap}
/-- a boolean as the machine has it -/
def xb (b : Bool) : Int32 := if b then 1 else 0
theorem xb_t {b : Bool} (h : b = true) : xb b = nI 1 := by subst h; rfl
theorem xb_f {b : Bool} (h : b = false) : xb b = nI 0 := by subst h; rfl
theorem xb_z {b : Bool} : xb b = 0 ↔ b = false := by cases b <;> decide
theorem xb_n {b : Bool} : xb b = nI 1 ↔ b = true := by cases b <;> decide
theorem xi_add (hx : p.tables.exec = Jvm.exec) (hb : c.code = cc) {x y : Nat} (hdg : decode cc pc = .ok (.iadd, 1)) (k : W p l e R s m args below meth c H locs cells slots Q (F0 m (pc + 1) ls (.int (nI (x + y)) :: rest))) : W p l e R s m args below meth c H locs cells slots Q (F0 m pc ls (.int (nI y) :: .int (nI x) :: rest)) := lv_iadd hx hb hdg (by rw [nI_add]; exact k)
theorem xi_sub (hx : p.tables.exec = Jvm.exec) (hb : c.code = cc) {x y : Nat} (hdg : decode cc pc = .ok (.isub, 1)) (h : y ≤ x) (k : W p l e R s m args below meth c H locs cells slots Q (F0 m (pc + 1) ls (.int (nI (x - y)) :: rest))) : W p l e R s m args below meth c H locs cells slots Q (F0 m pc ls (.int (nI y) :: .int (nI x) :: rest)) := lv_isub hx hb hdg (by rw [pk_sub h]; exact k)
theorem xi_mul (hx : p.tables.exec = Jvm.exec) (hb : c.code = cc) {x y : Nat} (hdg : decode cc pc = .ok (.imul, 1)) (k : W p l e R s m args below meth c H locs cells slots Q (F0 m (pc + 1) ls (.int (nI (x * y)) :: rest))) : W p l e R s m args below meth c H locs cells slots Q (F0 m pc ls (.int (nI y) :: .int (nI x) :: rest)) := lv_imul hx hb hdg (by rw [pk_mul]; exact k)
theorem xi_div (hx : p.tables.exec = Jvm.exec) (hb : c.code = cc) {x y : Nat} (hdg : decode cc pc = .ok (.idiv, 1)) (h1 : x < 2 ^ 31) (h0 : 0 < y) (h2 : y < 2 ^ 31) (k : W p l e R s m args below meth c H locs cells slots Q (F0 m (pc + 1) ls (.int (nI (x / y)) :: rest))) : W p l e R s m args below meth c H locs cells slots Q (F0 m pc ls (.int (nI y) :: .int (nI x) :: rest)) := lv_idiv hx hb hdg (nI_ne0 h0 h2) (by rw [pk_div h1 h0 h2]; exact k)
theorem xi_rem (hx : p.tables.exec = Jvm.exec) (hb : c.code = cc) {x y : Nat} (hdg : decode cc pc = .ok (.irem, 1)) (h1 : x < 2 ^ 31) (h0 : 0 < y) (h2 : y < 2 ^ 31) (k : W p l e R s m args below meth c H locs cells slots Q (F0 m (pc + 1) ls (.int (nI (x % y)) :: rest))) : W p l e R s m args below meth c H locs cells slots Q (F0 m pc ls (.int (nI y) :: .int (nI x) :: rest)) := lv_irem hx hb hdg (nI_ne0 h0 h2) (by rw [pk_rem h1 h0 h2]; exact k)
theorem xc_eq (hx : p.tables.exec = Jvm.exec) (hb : c.code = cc) {x y : Nat} {off : Int} {tgt : Nat} (hdg : decode cc pc = .ok (.if_icmp .eq off, 3)) (ht : (pc : Int) + off = (tgt : Int)) (h1 : x < 2 ^ 31) (h2 : y < 2 ^ 31) (kt : x = y → W p l e R s m args below meth c H locs cells slots Q (F0 m tgt ls (rest))) (kf : x ≠ y → W p l e R s m args below meth c H locs cells slots Q (F0 m (pc + 3) ls (rest))) : W p l e R s m args below meth c H locs cells slots Q (F0 m pc ls (.int (nI y) :: .int (nI x) :: rest)) :=
  lv_icmp_eq hx hb hdg ht (fun h => kt (by first | (rw [nI_eq h1 h2] at h; omega) | (rw [nI_ltI h1 h2] at h; omega) | (rw [nI_ltI h2 h1] at h; omega) | (rw [nI_leI h1 h2] at h; omega) | (rw [nI_leI h2 h1] at h; omega))) (fun h => kf (by first | (rw [nI_eq h1 h2] at h; omega) | (rw [nI_ltI h1 h2] at h; omega) | (rw [nI_ltI h2 h1] at h; omega) | (rw [nI_leI h1 h2] at h; omega) | (rw [nI_leI h2 h1] at h; omega)))
theorem xc_ne (hx : p.tables.exec = Jvm.exec) (hb : c.code = cc) {x y : Nat} {off : Int} {tgt : Nat} (hdg : decode cc pc = .ok (.if_icmp .ne off, 3)) (ht : (pc : Int) + off = (tgt : Int)) (h1 : x < 2 ^ 31) (h2 : y < 2 ^ 31) (kt : x ≠ y → W p l e R s m args below meth c H locs cells slots Q (F0 m tgt ls (rest))) (kf : x = y → W p l e R s m args below meth c H locs cells slots Q (F0 m (pc + 3) ls (rest))) : W p l e R s m args below meth c H locs cells slots Q (F0 m pc ls (.int (nI y) :: .int (nI x) :: rest)) :=
  lv_icmp_ne hx hb hdg ht (fun h => kt (by first | (rw [nI_eq h1 h2] at h; omega) | (rw [nI_ltI h1 h2] at h; omega) | (rw [nI_ltI h2 h1] at h; omega) | (rw [nI_leI h1 h2] at h; omega) | (rw [nI_leI h2 h1] at h; omega))) (fun h => kf (by first | (rw [nI_eq h1 h2] at h; omega) | (rw [nI_ltI h1 h2] at h; omega) | (rw [nI_ltI h2 h1] at h; omega) | (rw [nI_leI h1 h2] at h; omega) | (rw [nI_leI h2 h1] at h; omega)))
theorem xc_lt (hx : p.tables.exec = Jvm.exec) (hb : c.code = cc) {x y : Nat} {off : Int} {tgt : Nat} (hdg : decode cc pc = .ok (.if_icmp .lt off, 3)) (ht : (pc : Int) + off = (tgt : Int)) (h1 : x < 2 ^ 31) (h2 : y < 2 ^ 31) (kt : x < y → W p l e R s m args below meth c H locs cells slots Q (F0 m tgt ls (rest))) (kf : y ≤ x → W p l e R s m args below meth c H locs cells slots Q (F0 m (pc + 3) ls (rest))) : W p l e R s m args below meth c H locs cells slots Q (F0 m pc ls (.int (nI y) :: .int (nI x) :: rest)) :=
  lv_icmp_lt hx hb hdg ht (fun h => kt (by first | (rw [nI_eq h1 h2] at h; omega) | (rw [nI_ltI h1 h2] at h; omega) | (rw [nI_ltI h2 h1] at h; omega) | (rw [nI_leI h1 h2] at h; omega) | (rw [nI_leI h2 h1] at h; omega))) (fun h => kf (by first | (rw [nI_eq h1 h2] at h; omega) | (rw [nI_ltI h1 h2] at h; omega) | (rw [nI_ltI h2 h1] at h; omega) | (rw [nI_leI h1 h2] at h; omega) | (rw [nI_leI h2 h1] at h; omega)))
theorem xc_ge (hx : p.tables.exec = Jvm.exec) (hb : c.code = cc) {x y : Nat} {off : Int} {tgt : Nat} (hdg : decode cc pc = .ok (.if_icmp .ge off, 3)) (ht : (pc : Int) + off = (tgt : Int)) (h1 : x < 2 ^ 31) (h2 : y < 2 ^ 31) (kt : y ≤ x → W p l e R s m args below meth c H locs cells slots Q (F0 m tgt ls (rest))) (kf : x < y → W p l e R s m args below meth c H locs cells slots Q (F0 m (pc + 3) ls (rest))) : W p l e R s m args below meth c H locs cells slots Q (F0 m pc ls (.int (nI y) :: .int (nI x) :: rest)) :=
  lv_icmp_ge hx hb hdg ht (fun h => kt (by first | (rw [nI_eq h1 h2] at h; omega) | (rw [nI_ltI h1 h2] at h; omega) | (rw [nI_ltI h2 h1] at h; omega) | (rw [nI_leI h1 h2] at h; omega) | (rw [nI_leI h2 h1] at h; omega))) (fun h => kf (by first | (rw [nI_eq h1 h2] at h; omega) | (rw [nI_ltI h1 h2] at h; omega) | (rw [nI_ltI h2 h1] at h; omega) | (rw [nI_leI h1 h2] at h; omega) | (rw [nI_leI h2 h1] at h; omega)))
theorem xc_gt (hx : p.tables.exec = Jvm.exec) (hb : c.code = cc) {x y : Nat} {off : Int} {tgt : Nat} (hdg : decode cc pc = .ok (.if_icmp .gt off, 3)) (ht : (pc : Int) + off = (tgt : Int)) (h1 : x < 2 ^ 31) (h2 : y < 2 ^ 31) (kt : y < x → W p l e R s m args below meth c H locs cells slots Q (F0 m tgt ls (rest))) (kf : x ≤ y → W p l e R s m args below meth c H locs cells slots Q (F0 m (pc + 3) ls (rest))) : W p l e R s m args below meth c H locs cells slots Q (F0 m pc ls (.int (nI y) :: .int (nI x) :: rest)) :=
  lv_icmp_gt hx hb hdg ht (fun h => kt (by first | (rw [nI_eq h1 h2] at h; omega) | (rw [nI_ltI h1 h2] at h; omega) | (rw [nI_ltI h2 h1] at h; omega) | (rw [nI_leI h1 h2] at h; omega) | (rw [nI_leI h2 h1] at h; omega))) (fun h => kf (by first | (rw [nI_eq h1 h2] at h; omega) | (rw [nI_ltI h1 h2] at h; omega) | (rw [nI_ltI h2 h1] at h; omega) | (rw [nI_leI h1 h2] at h; omega) | (rw [nI_leI h2 h1] at h; omega)))
theorem xc_le (hx : p.tables.exec = Jvm.exec) (hb : c.code = cc) {x y : Nat} {off : Int} {tgt : Nat} (hdg : decode cc pc = .ok (.if_icmp .le off, 3)) (ht : (pc : Int) + off = (tgt : Int)) (h1 : x < 2 ^ 31) (h2 : y < 2 ^ 31) (kt : x ≤ y → W p l e R s m args below meth c H locs cells slots Q (F0 m tgt ls (rest))) (kf : y < x → W p l e R s m args below meth c H locs cells slots Q (F0 m (pc + 3) ls (rest))) : W p l e R s m args below meth c H locs cells slots Q (F0 m pc ls (.int (nI y) :: .int (nI x) :: rest)) :=
  lv_icmp_le hx hb hdg ht (fun h => kt (by first | (rw [nI_eq h1 h2] at h; omega) | (rw [nI_ltI h1 h2] at h; omega) | (rw [nI_ltI h2 h1] at h; omega) | (rw [nI_leI h1 h2] at h; omega) | (rw [nI_leI h2 h1] at h; omega))) (fun h => kf (by first | (rw [nI_eq h1 h2] at h; omega) | (rw [nI_ltI h1 h2] at h; omega) | (rw [nI_ltI h2 h1] at h; omega) | (rw [nI_leI h1 h2] at h; omega) | (rw [nI_leI h2 h1] at h; omega)))
theorem xz_eq (hx : p.tables.exec = Jvm.exec) (hb : c.code = cc) {x : Nat} {off : Int} {tgt : Nat} (hdg : decode cc pc = .ok (.ifCond .eq off, 3)) (ht : (pc : Int) + off = (tgt : Int)) (h1 : x < 2 ^ 31) (kt : x = 0 → W p l e R s m args below meth c H locs cells slots Q (F0 m tgt ls (rest))) (kf : x ≠ 0 → W p l e R s m args below meth c H locs cells slots Q (F0 m (pc + 3) ls (rest))) : W p l e R s m args below meth c H locs cells slots Q (F0 m pc ls (.int (nI x) :: rest)) :=
  have h2 : (0 : Nat) < 2 ^ 31 := by decide
  lv_if_eq hx hb hdg ht (fun h => kt (by rw [← nI_0] at h; first | (rw [nI_eq h1 h2] at h; omega) | (rw [nI_ltI h2 h1] at h; omega) | (rw [nI_leI h1 h2] at h; omega))) (fun h => kf (by rw [← nI_0] at h; first | (rw [nI_eq h1 h2] at h; omega) | (rw [nI_ltI h2 h1] at h; omega) | (rw [nI_leI h1 h2] at h; omega)))
theorem xz_ne (hx : p.tables.exec = Jvm.exec) (hb : c.code = cc) {x : Nat} {off : Int} {tgt : Nat} (hdg : decode cc pc = .ok (.ifCond .ne off, 3)) (ht : (pc : Int) + off = (tgt : Int)) (h1 : x < 2 ^ 31) (kt : x ≠ 0 → W p l e R s m args below meth c H locs cells slots Q (F0 m tgt ls (rest))) (kf : x = 0 → W p l e R s m args below meth c H locs cells slots Q (F0 m (pc + 3) ls (rest))) : W p l e R s m args below meth c H locs cells slots Q (F0 m pc ls (.int (nI x) :: rest)) :=
  have h2 : (0 : Nat) < 2 ^ 31 := by decide
  lv_if_ne hx hb hdg ht (fun h => kt (by rw [← nI_0] at h; first | (rw [nI_eq h1 h2] at h; omega) | (rw [nI_ltI h2 h1] at h; omega) | (rw [nI_leI h1 h2] at h; omega))) (fun h => kf (by rw [← nI_0] at h; first | (rw [nI_eq h1 h2] at h; omega) | (rw [nI_ltI h2 h1] at h; omega) | (rw [nI_leI h1 h2] at h; omega)))
theorem xz_gt (hx : p.tables.exec = Jvm.exec) (hb : c.code = cc) {x : Nat} {off : Int} {tgt : Nat} (hdg : decode cc pc = .ok (.ifCond .gt off, 3)) (ht : (pc : Int) + off = (tgt : Int)) (h1 : x < 2 ^ 31) (kt : 0 < x → W p l e R s m args below meth c H locs cells slots Q (F0 m tgt ls (rest))) (kf : x = 0 → W p l e R s m args below meth c H locs cells slots Q (F0 m (pc + 3) ls (rest))) : W p l e R s m args below meth c H locs cells slots Q (F0 m pc ls (.int (nI x) :: rest)) :=
  have h2 : (0 : Nat) < 2 ^ 31 := by decide
  lv_if_gt hx hb hdg ht (fun h => kt (by rw [← nI_0] at h; first | (rw [nI_eq h1 h2] at h; omega) | (rw [nI_ltI h2 h1] at h; omega) | (rw [nI_leI h1 h2] at h; omega))) (fun h => kf (by rw [← nI_0] at h; first | (rw [nI_eq h1 h2] at h; omega) | (rw [nI_ltI h2 h1] at h; omega) | (rw [nI_leI h1 h2] at h; omega)))
theorem xz_le (hx : p.tables.exec = Jvm.exec) (hb : c.code = cc) {x : Nat} {off : Int} {tgt : Nat} (hdg : decode cc pc = .ok (.ifCond .le off, 3)) (ht : (pc : Int) + off = (tgt : Int)) (h1 : x < 2 ^ 31) (kt : x = 0 → W p l e R s m args below meth c H locs cells slots Q (F0 m tgt ls (rest))) (kf : 0 < x → W p l e R s m args below meth c H locs cells slots Q (F0 m (pc + 3) ls (rest))) : W p l e R s m args below meth c H locs cells slots Q (F0 m pc ls (.int (nI x) :: rest)) :=
  have h2 : (0 : Nat) < 2 ^ 31 := by decide
  lv_if_le hx hb hdg ht (fun h => kt (by rw [← nI_0] at h; first | (rw [nI_eq h1 h2] at h; omega) | (rw [nI_ltI h2 h1] at h; omega) | (rw [nI_leI h1 h2] at h; omega))) (fun h => kf (by rw [← nI_0] at h; first | (rw [nI_eq h1 h2] at h; omega) | (rw [nI_ltI h2 h1] at h; omega) | (rw [nI_leI h1 h2] at h; omega)))
theorem xz_lt (hx : p.tables.exec = Jvm.exec) (hb : c.code = cc) {x : Nat} {off : Int} {tgt : Nat} (hdg : decode cc pc = .ok (.ifCond .lt off, 3)) (ht : (pc : Int) + off = (tgt : Int)) (h1 : x < 2 ^ 31) (kf : W p l e R s m args below meth c H locs cells slots Q (F0 m (pc + 3) ls (rest))) : W p l e R s m args below meth c H locs cells slots Q (F0 m pc ls (.int (nI x) :: rest)) :=
  lv_if_lt hx hb hdg ht (fun h => absurd h (nI_pos h1)) (fun _ => kf)
theorem xz_ge (hx : p.tables.exec = Jvm.exec) (hb : c.code = cc) {x : Nat} {off : Int} {tgt : Nat} (hdg : decode cc pc = .ok (.ifCond .ge off, 3)) (ht : (pc : Int) + off = (tgt : Int)) (h1 : x < 2 ^ 31) (kt : W p l e R s m args below meth c H locs cells slots Q (F0 m tgt ls (rest))) : W p l e R s m args below meth c H locs cells slots Q (F0 m pc ls (.int (nI x) :: rest)) :=
  lv_if_ge hx hb hdg ht (fun _ => kt) (fun h => absurd (nI_pos' h1) h)
theorem xb_eq (hx : p.tables.exec = Jvm.exec) (hb : c.code = cc) {x : Bool} {off : Int} {tgt : Nat} (hdg : decode cc pc = .ok (.ifCond .eq off, 3)) (ht : (pc : Int) + off = (tgt : Int)) (kt : x = false → W p l e R s m args below meth c H locs cells slots Q (F0 m tgt ls (rest))) (kf : x = true → W p l e R s m args below meth c H locs cells slots Q (F0 m (pc + 3) ls (rest))) : W p l e R s m args below meth c H locs cells slots Q (F0 m pc ls (.int (xb x) :: rest)) :=
  lv_if_eq hx hb hdg ht (fun h => kt (xb_z.mp h)) (fun h => kf (by cases x with | false => exact absurd rfl h | true => rfl))
theorem xb_ne (hx : p.tables.exec = Jvm.exec) (hb : c.code = cc) {x : Bool} {off : Int} {tgt : Nat} (hdg : decode cc pc = .ok (.ifCond .ne off, 3)) (ht : (pc : Int) + off = (tgt : Int)) (kt : x = true → W p l e R s m args below meth c H locs cells slots Q (F0 m tgt ls (rest))) (kf : x = false → W p l e R s m args below meth c H locs cells slots Q (F0 m (pc + 3) ls (rest))) : W p l e R s m args below meth c H locs cells slots Q (F0 m pc ls (.int (xb x) :: rest)) :=
  lv_if_ne hx hb hdg ht (fun h => kt (by cases x with | false => exact absurd rfl h | true => rfl)) (fun h => kf (xb_z.mp h))
theorem xi_inc (hx : p.tables.exec = Jvm.exec) (hb : c.code = cc) {i nL k : Nat} {x : Nat} {lv lv' : List (Nat × Value)} (hdg : decode cc pc = .ok (.iinc i 1, 3)) (h : lv_has ls nL lv) (hk : lv[k]? = some (i, .int (nI x))) (hn : i < nL) (hl : (i, Value.int (nI (x + 1))) :: lv.filter (fun q => !(q.1 == i) && !(q.1 + 1 == i && q.2.category == 2)) = lv') (kk : ∀ ls' : Array Slot, lv_has ls' nL lv' → W p l e R s m args below meth c H locs cells slots Q (F0 m (pc + 3) ls' (rest))) : W p l e R s m args below meth c H locs cells slots Q (F0 m pc ls (rest)) := lv_iinc hx hb hdg h hk (nI_1 x) hn hl kk
theorem xi_dec (hx : p.tables.exec = Jvm.exec) (hb : c.code = cc) {i nL k : Nat} {x : Nat} {lv lv' : List (Nat × Value)} (hdg : decode cc pc = .ok (.iinc i (-1), 3)) (h : lv_has ls nL lv) (hk : lv[k]? = some (i, .int (nI x))) (h0 : 0 < x) (hn : i < nL) (hl : (i, Value.int (nI (x - 1))) :: lv.filter (fun q => !(q.1 == i) && !(q.1 + 1 == i && q.2.category == 2)) = lv') (kk : ∀ ls' : Array Slot, lv_has ls' nL lv' → W p l e R s m args below meth c H locs cells slots Q (F0 m (pc + 3) ls' (rest))) : W p l e R s m args below meth c H locs cells slots Q (F0 m pc ls (rest)) := lv_iinc hx hb hdg h hk (sb_m1 h0) hn hl kk
theorem xl_I (hx : p.tables.exec = Jvm.exec) (hb : c.code = cc) (hK : va_K D cl tys s) (hP : va_P D cl ws H) (q0 t0 : Nat) {cA : ClassId} {n : Nat} {f : Nat → Nat} (ha : ws[q0]? = some (a, .inl (cA, n, (.inl (fun k => nI (f k)))))) (ht : tys[t0]? = some (cA, .int)) {i : Nat} (hi : i < n) (hn : n < 2 ^ 31) (hdg : decode cc pc = .ok (.iaload, 1)) (kk : W p l e R s m args below meth c H locs cells slots Q (F0 m (pc + 1) ls (.int (nI (f i)) :: rest))) : W p l e R s m args below meth c H locs cells slots Q (F0 m pc ls (.int (nI i) :: .ref a :: rest)) := va_iald hx hb hK hP q0 t0 ha ht (vp_in_nI hi hn) hdg (by rw [nI_clamp (Nat.lt_trans hi hn)]; exact kk)
theorem xl_Z (hx : p.tables.exec = Jvm.exec) (hb : c.code = cc) (hK : va_K D cl tys s) (hP : va_P D cl ws H) (q0 t0 : Nat) {cA : ClassId} {n : Nat} {f : Nat → Bool} (ha : ws[q0]? = some (a, .inl (cA, n, (.inl (fun k => xb (f k)))))) (ht : tys[t0]? = some (cA, .boolean)) {i : Nat} (hi : i < n) (hn : n < 2 ^ 31) (hdg : decode cc pc = .ok (.baload, 1)) (kk : W p l e R s m args below meth c H locs cells slots Q (F0 m (pc + 1) ls (.int (xb (f i)) :: rest))) : W p l e R s m args below meth c H locs cells slots Q (F0 m pc ls (.int (nI i) :: .ref a :: rest)) := va_zald hx hb hK hP q0 t0 ha ht (vp_in_nI hi hn) hdg (by rw [nI_clamp (Nat.lt_trans hi hn)]; exact kk)
theorem xl_J (hx : p.tables.exec = Jvm.exec) (hb : c.code = cc) (hK : va_K D cl tys s) (hP : va_P D cl ws H) (q0 t0 : Nat) {cA : ClassId} {n : Nat} {f : Nat → Int64} (ha : ws[q0]? = some (a, .inl (cA, n, (.inr (.inl f))))) (ht : tys[t0]? = some (cA, .long)) {i : Nat} (hi : i < n) (hn : n < 2 ^ 31) (hdg : decode cc pc = .ok (.laload, 1)) (kk : W p l e R s m args below meth c H locs cells slots Q (F0 m (pc + 1) ls (.long (f i) :: rest))) : W p l e R s m args below meth c H locs cells slots Q (F0 m pc ls (.int (nI i) :: .ref a :: rest)) := va_lald hx hb hK hP q0 t0 ha ht (vp_in_nI hi hn) hdg (by rw [nI_clamp (Nat.lt_trans hi hn)]; exact kk)
theorem xl_D (hx : p.tables.exec = Jvm.exec) (hb : c.code = cc) (hK : va_K D cl tys s) (hP : va_P D cl ws H) (q0 t0 : Nat) {cA : ClassId} {n : Nat} {f : Nat → UInt64} (ha : ws[q0]? = some (a, .inl (cA, n, (.inr (.inr (.inr (.inl f))))))) (ht : tys[t0]? = some (cA, .double)) {i : Nat} (hi : i < n) (hn : n < 2 ^ 31) (hdg : decode cc pc = .ok (.daload, 1)) (kk : W p l e R s m args below meth c H locs cells slots Q (F0 m (pc + 1) ls (.double (f i) :: rest))) : W p l e R s m args below meth c H locs cells slots Q (F0 m pc ls (.int (nI i) :: .ref a :: rest)) := va_dald hx hb hK hP q0 t0 ha ht (vp_in_nI hi hn) hdg (by rw [nI_clamp (Nat.lt_trans hi hn)]; exact kk)
theorem xu_I (f : Nat → Nat) (i x : Nat) : upd (fun k => nI (f k)) i (nI x) = fun k => nI (va_up f i x k) := by funext k; unfold upd va_up; split <;> rfl
theorem xu_Z (f : Nat → Bool) (i : Nat) (x : Bool) : upd (fun k => xb (f k)) i (vp_nar .boolean (xb x)) = fun k => xb (va_up f i x k) := by funext k; unfold upd va_up; split <;> (cases x <;> rfl)
theorem xu_J (f : Nat → Int64) (i : Nat) (x : Int64) : vp_updL f i x = va_up f i x := rfl
theorem xu_D (f : Nat → UInt64) (i : Nat) (x : UInt64) : vf_upd f i x = va_up f i x := rfl
theorem xt_I (hx : p.tables.exec = Jvm.exec) (hb : c.code = cc) (hK : va_K D cl tys s) (hP : va_P D cl ws H) (hD : va_D A ws) (hS : va_S A H0 H locs) (q0 t0 : Nat) {cA : ClassId} {n : Nat} {f : Nat → Nat} (ha : ws[q0]? = some (a, .inl (cA, n, (.inl (fun k => nI (f k)))))) (ht : tys[t0]? = some (cA, .int)) {i : Nat} (hi : i < n) (hn : n < 2 ^ 31) {x : Nat} (hdg : decode cc pc = .ok (.iastore, 1)) (kk : ∀ (H1 : Heap) (locs1 : List Loc), va_P D cl (ws.set q0 (a, .inl (cA, n, (.inl (fun k => nI (va_up f i x k)))))) H1 → va_D A (ws.set q0 (a, .inl (cA, n, (.inl (fun k => nI (va_up f i x k)))))) → va_S A H0 H1 locs1 → W p l e R s m args below meth c H1 locs1 cells slots Q (F0 m (pc + 1) ls (rest))) : W p l e R s m args below meth c H locs cells slots Q (F0 m pc ls (.int (nI x) :: .int (nI i) :: .ref a :: rest)) :=
  va_iast hx hb hK hP hD hS q0 t0 ha ht (vp_in_nI hi hn) hdg (fun H1 locs1 h1 h2 h3 => kk H1 locs1 (by rw [nI_clamp (Nat.lt_trans hi hn), xu_I] at h1; exact h1) (by rw [nI_clamp (Nat.lt_trans hi hn), xu_I] at h2; exact h2) h3)
theorem xt_Z (hx : p.tables.exec = Jvm.exec) (hb : c.code = cc) (hK : va_K D cl tys s) (hP : va_P D cl ws H) (hD : va_D A ws) (hS : va_S A H0 H locs) (q0 t0 : Nat) {cA : ClassId} {n : Nat} {f : Nat → Bool} (ha : ws[q0]? = some (a, .inl (cA, n, (.inl (fun k => xb (f k)))))) (ht : tys[t0]? = some (cA, .boolean)) {i : Nat} (hi : i < n) (hn : n < 2 ^ 31) {x : Bool} (hdg : decode cc pc = .ok (.bastore, 1)) (kk : ∀ (H1 : Heap) (locs1 : List Loc), va_P D cl (ws.set q0 (a, .inl (cA, n, (.inl (fun k => xb (va_up f i x k)))))) H1 → va_D A (ws.set q0 (a, .inl (cA, n, (.inl (fun k => xb (va_up f i x k)))))) → va_S A H0 H1 locs1 → W p l e R s m args below meth c H1 locs1 cells slots Q (F0 m (pc + 1) ls (rest))) : W p l e R s m args below meth c H locs cells slots Q (F0 m pc ls (.int (xb x) :: .int (nI i) :: .ref a :: rest)) :=
  va_zast hx hb hK hP hD hS q0 t0 ha ht (vp_in_nI hi hn) hdg (fun H1 locs1 h1 h2 h3 => kk H1 locs1 (by rw [nI_clamp (Nat.lt_trans hi hn), xu_Z] at h1; exact h1) (by rw [nI_clamp (Nat.lt_trans hi hn), xu_Z] at h2; exact h2) h3)
theorem xt_J (hx : p.tables.exec = Jvm.exec) (hb : c.code = cc) (hK : va_K D cl tys s) (hP : va_P D cl ws H) (hD : va_D A ws) (hS : va_S A H0 H locs) (q0 t0 : Nat) {cA : ClassId} {n : Nat} {f : Nat → Int64} (ha : ws[q0]? = some (a, .inl (cA, n, (.inr (.inl f))))) (ht : tys[t0]? = some (cA, .long)) {i : Nat} (hi : i < n) (hn : n < 2 ^ 31) {x : Int64} (hdg : decode cc pc = .ok (.lastore, 1)) (kk : ∀ (H1 : Heap) (locs1 : List Loc), va_P D cl (ws.set q0 (a, .inl (cA, n, (.inr (.inl (va_up f i x)))))) H1 → va_D A (ws.set q0 (a, .inl (cA, n, (.inr (.inl (va_up f i x)))))) → va_S A H0 H1 locs1 → W p l e R s m args below meth c H1 locs1 cells slots Q (F0 m (pc + 1) ls (rest))) : W p l e R s m args below meth c H locs cells slots Q (F0 m pc ls (.long x :: .int (nI i) :: .ref a :: rest)) :=
  va_last hx hb hK hP hD hS q0 t0 ha ht (vp_in_nI hi hn) hdg (fun H1 locs1 h1 h2 h3 => kk H1 locs1 (by rw [nI_clamp (Nat.lt_trans hi hn), xu_J] at h1; exact h1) (by rw [nI_clamp (Nat.lt_trans hi hn), xu_J] at h2; exact h2) h3)
theorem xt_D (hx : p.tables.exec = Jvm.exec) (hb : c.code = cc) (hK : va_K D cl tys s) (hP : va_P D cl ws H) (hD : va_D A ws) (hS : va_S A H0 H locs) (q0 t0 : Nat) {cA : ClassId} {n : Nat} {f : Nat → UInt64} (ha : ws[q0]? = some (a, .inl (cA, n, (.inr (.inr (.inr (.inl f))))))) (ht : tys[t0]? = some (cA, .double)) {i : Nat} (hi : i < n) (hn : n < 2 ^ 31) {x : UInt64} (hdg : decode cc pc = .ok (.dastore, 1)) (kk : ∀ (H1 : Heap) (locs1 : List Loc), va_P D cl (ws.set q0 (a, .inl (cA, n, (.inr (.inr (.inr (.inl (va_up f i x)))))))) H1 → va_D A (ws.set q0 (a, .inl (cA, n, (.inr (.inr (.inr (.inl (va_up f i x)))))))) → va_S A H0 H1 locs1 → W p l e R s m args below meth c H1 locs1 cells slots Q (F0 m (pc + 1) ls (rest))) : W p l e R s m args below meth c H locs cells slots Q (F0 m pc ls (.double x :: .int (nI i) :: .ref a :: rest)) :=
  va_dast hx hb hK hP hD hS q0 t0 ha ht (vp_in_nI hi hn) hdg (fun H1 locs1 h1 h2 h3 => kk H1 locs1 (by rw [nI_clamp (Nat.lt_trans hi hn), xu_D] at h1; exact h1) (by rw [nI_clamp (Nat.lt_trans hi hn), xu_D] at h2; exact h2) h3)
/-- the cells of a world: what a method that makes nothing may change -/
def xA (ws : va_W) : Nat → Prop := fun q => ∃ (k : Nat) (e : va_E), ws[k]? = some (q, e)
theorem xA_self {B : Nat → Prop} (h : va_D B ws) : va_D (xA ws) ws := ⟨h.1, fun k q hk => ⟨k, q.2, hk⟩⟩
theorem xA_in {wc : va_W} (hD : va_D A ws) (isC : List Nat) (hC : isC.map (fun i => ws[i]?) = wc.map some) : ∀ q, xA wc q → A q := by
  intro q h
  obtain ⟨k, e, h⟩ := h
  have h1 : (isC.map (fun i => ws[i]?))[k]? = some (some (q, e)) := by rw [hC, List.getElem?_map, h]; rfl
  rw [List.getElem?_map] at h1
  cases hi : isC[k]? with
  | none => rw [hi] at h1; cases h1
  | some i => rw [hi] at h1; exact hD.2 i (q, e) (Option.some.inj h1)
theorem xW_sub {w1 : va_W} (hP : va_P D cl ws H) (is : List Nat) (hs : is.map (fun i => ws[i]?) = w1.map some) : va_P D cl w1 H := by
  intro k q hk
  have h1 : (is.map (fun i => ws[i]?))[k]? = some (some q) := by rw [hs, List.getElem?_map, hk]; rfl
  rw [List.getElem?_map] at h1
  cases hi : is[k]? with
  | none => rw [hi] at h1; cases h1
  | some i => rw [hi] at h1; exact hP i q (Option.some.inj h1)
theorem xW_eqP {w1 : va_W} (h : va_P D cl ws H) (e : ws = w1) : va_P D cl w1 H := e ▸ h
theorem xW_eqD {w1 : va_W} (h : va_D A ws) (e : ws = w1) : va_D A w1 := e ▸ h
def xP (D : va_G) (cl : List vw_C) (tys : List (ClassId × FieldType)) (wc : va_W) (U : State) : Prop := va_P D cl wc U.heap ∧ va_K D cl tys U
def xM (D : va_G) (cl : List vw_C) (tys : List (ClassId × FieldType)) (wc : va_W) (U : State) : Prop := va_P D cl wc U.heap ∧ va_K D cl tys U ∧ va_D (fun _ => True) wc
theorem xP_blind {av : List Value} {wc : va_W} : FrameBlind (va_Pc av (xP D cl tys wc)) := fun a U g mk q => ⟨q.1, q.2.1, va_K.moved (u := U) (U := U.calling g mk a) (Vm.Alike.refl U.vm) q.2.2⟩
theorem xM_blind {av : List Value} {wc : va_W} : FrameBlind (va_Pc av (xM D cl tys wc)) := fun a U g mk q => ⟨q.1, q.2.1, va_K.moved (u := U) (U := U.calling g mk a) (Vm.Alike.refl U.vm) q.2.2.1, q.2.2.2⟩
/-- behind a call of a changing method: the rest, and what came back, in the order that is wanted -/
theorem xW_join {wc wr w1 wN : va_W} {H1 : Heap} (hP : va_P D cl ws H) (hD : va_D A ws) (isC isR isN : List Nat) (hC : isC.map (fun i => ws[i]?) = wc.map some) (hR : isR.map (fun i => ws[i]?) = wr.map some) (hn : va_nd isR = true) (hdis : ∀ i ∈ isR, i ∉ isC) (hk : ∀ q : Nat, q < H.size → ¬ xA wc q → H1[q]? = H[q]?) (hP1 : va_P D cl w1 H1) (hD1 : va_D (xA wc) w1) (hm : va_nd isN = true) (hN : isN.map (fun i => (wr ++ w1)[i]?) = wN.map some) : va_P D cl wN H1 ∧ va_D A wN := by
  have hF : ∀ q, va_A wc H.size q → (fun q => A q ∨ H.size ≤ q) q := fun q h => h.elim (fun h => Or.inl (xA_in hD isC hC q h)) Or.inr
  obtain ⟨j1, j2⟩ := va_join (wr := wr) (w1 := w1) hP (hD.weaken (B := fun q => A q ∨ H.size ≤ q) (fun _ _ _ h => Or.inl h)) isC isR hC hR hn hdis (fun q h1 h2 => hk q h1 (fun h => h2 (Or.inl h))) hF hP1 (hD1.weaken (fun _ _ _ h => Or.inl h))
  have j3 : va_D A (wr ++ w1) := ⟨j2.1, fun k q hq => by
    rcases List.mem_append.mp (List.mem_of_getElem? hq) with h | h
    · obtain ⟨i, hi⟩ := List.getElem?_of_mem h
      have h1 : (isR.map (fun i => ws[i]?))[i]? = some (some q) := by rw [hR, List.getElem?_map, hi]; rfl
      rw [List.getElem?_map] at h1
      cases hz : isR[i]? with
      | none => rw [hz] at h1; cases h1
      | some z => rw [hz] at h1; exact hD.2 z q (Option.some.inj h1)
    · obtain ⟨i, hi⟩ := List.getElem?_of_mem h
      exact xA_in hD isC hC q.1 (hD1.2 i q hi)⟩
  exact ⟨xW_sub j1 isN hN, j3.sub isN hm hN⟩
def xN (D : va_G) (cl : List vw_C) (tys : List (ClassId × FieldType)) (wc : va_W) (sz : Nat) (U : State) : Prop := U.heap.size = sz ∧ va_P D cl wc U.heap ∧ va_K D cl tys U ∧ va_D (fun _ => True) wc
theorem xN_blind {av : List Value} {wc : va_W} {sz : Nat} : FrameBlind (va_Pc av (xN D cl tys wc sz)) := fun a U g mk q => ⟨q.1, q.2.1, q.2.2.1, va_K.moved (u := U) (U := U.calling g mk a) (Vm.Alike.refl U.vm) q.2.2.2.1, q.2.2.2.2⟩
theorem va_RA_eq {U : State} {a b : ClassId} {ty : FieldType} (h1 : va_RA U a ty) (h2 : va_RA U b ty) : a = b := by
  cases ty with
  | object C =>
    obtain ⟨_, _, _, _, _, h3⟩ := h1
    obtain ⟨_, _, _, _, _, h4⟩ := h2
    exact Option.some.inj (h3.symm.trans h4)
  | _ => exact Option.some.inj (Eq.trans (Eq.symm h1) h2)
theorem xi_newa (hx : p.tables.exec = Jvm.exec) (hb : c.code = cc) {atype : ArrayType} (harr : (Cond.arrayClass (newarray.typeOf atype)).before args s = true) {ty : FieldType} (hty : newarray.typeOf atype = ty) (hK : va_K D cl tys s) (hP : va_P D cl ws H) (hD : va_D A ws) (hS : va_S A H0 H locs) (hA : ∀ q, H0.size ≤ q → A q) (t0 : Nat) {cy : ClassId} (ht : tys[t0]? = some (cy, ty)) {n N' : Nat} {a0 : vp_A} (ha : ∀ cA : ClassId, vp_cell cA a0 = arrV cA N' (fun _ => defaultValue ty)) (hn : n < 2 ^ 31) (hN : n = N') (hbytes : N' * componentBytes ty ≤ 536870912) (hcells : cells + 1 ≤ R.cells) (hslots : slots + N' ≤ R.slots) (hdg : decode cc pc = .ok (.newarray atype, 2))
    (kk : ∀ (q : Nat) (H1 : Heap), va_P D cl (ws ++ [(q, .inl (cy, a0))]) H1 → va_D A (ws ++ [(q, .inl (cy, a0))]) → va_S A H0 H1 locs → W p l e R s m args below meth c H1 locs (cells + 1) (slots + N') Q (F0 m (pc + 2) ls (.ref q :: rest))) : W p l e R s m args below meth c H locs cells slots Q (F0 m pc ls (.int (nI n) :: rest)) := by
  refine va_newa hx hb harr hty hK hP hD hS hA ha (nI_pos hn) ((nI_clamp hn).trans hN) hbytes hcells hslots hdg (fun q cA H1 hK1 hP1 hD1 hS1 => ?_)
  have h1 := (hK1.2 tys.length (cA, ty) (by rw [List.getElem?_append_right (Nat.le_refl _), Nat.sub_self]; rfl)).2
  have h2 := (hK.2 t0 _ ht).2
  obtain rfl := va_RA_eq h1 h2
  exact kk q H1 hP1 hD1 hS1
variable {nL n index maxL : Nat} {y : MethodName} {bytes : ByteArray} {ret : Option FieldType} {wsy : List Cond} {rm : Room} {As st : List Value} {Ts : List Cond} {own : String} {b : Nat}
theorem xs_i {post : Int32 → Unit → Prop} (S : CallFix p m c cc nL s args Ts own) (hM : Met l y wsy rm (va_Pc As (fun _ => True)) (va_Qi post (fun _ _ => True) (fun _ => False)) 0 0 (fun _ => False)) (cw : CallB R s args own index y bytes maxL ret wsy rm 0 0 n ∧ (Cond.static y).before args s = true) (hP : va_P D cl ws H) (hS : va_S A H0 H locs) (hn : As.length = n) (hsize : ls.size = nL) (hstack : st = As.reverse ++ rest) (hW : (rest.map fun v => v.category).sum ≤ 8) (hdg : decode cc pc = .ok (.invokestatic index, 3)) (hf : cells ≤ R.cells ∧ slots ≤ R.slots) (kk : ∀ (r : Int32) (H1 : Heap) (locs1 : List Loc), post r () → va_P D cl ws H1 → va_S A H0 H1 locs1 → W p l e R s m args below meth c H1 locs1 cells slots Q (F0 m (pc + 3) ls (.int r :: rest))) : W p l e R s m args below meth c H locs cells slots Q (F0 m pc ls (st)) :=
  va_calli (va_runS (As := As) (rest := rest) S hM cw ⟨fun a U g mk q => q, fun U hU hW => ⟨rfl, trivial⟩⟩ rfl hn hsize hstack (lv_room hW) hdg hf) hS (fun q _ h => h.elim) (fun q h => h.elim) (fun r u t H1 locs1 ht hvm hw hB hz hk hS1 => kk r H1 locs1 hw (hP.kept (fun k x hx => hk x.1 ((hP k x hx).lt) (fun h => h))) hS1)
theorem xv_i {post : Int32 → Unit → Prop} {q : vw_C} {wc : va_W} {fs : List Value} (S : CallFix p m c cc nL s args Ts own) (hM : Met l y wsy rm (va_Pc (.ref b :: As) (xP D cl tys wc)) (va_Qi post (fun _ _ => True) (fun _ => False)) 0 0 (fun _ => False)) (cw : CallW R s args own q.1 index y bytes maxL ret wsy rm 0 0 n) (hK : va_K D cl tys s) (hP : va_P D cl ws H) (hS : va_S A H0 H locs) (isC : List Nat) (hC : isC.map (fun i => ws[i]?) = wc.map some) (q0 ci : Nat) (hc : cl[ci]? = some q) (he : ws[q0]? = some (b, .inr (ci, fs))) (hn : As.length = n) (hsize : ls.size = nL) (hstack : st = As.reverse ++ .ref b :: rest) (hW : (rest.map fun v => v.category).sum ≤ 8) (hdg : decode cc pc = .ok (.invokevirtual index, 3)) (hf : cells ≤ R.cells ∧ slots ≤ R.slots) (kk : ∀ (r : Int32) (H1 : Heap) (locs1 : List Loc), post r () → va_P D cl ws H1 → va_S A H0 H1 locs1 → W p l e R s m args below meth c H1 locs1 cells slots Q (F0 m (pc + 3) ls (.int r :: rest))) : W p l e R s m args below meth c H locs cells slots Q (F0 m pc ls (st)) :=
  va_calli (va_runV (As := As) (rest := rest) S hM cw ⟨xP_blind, va_recv hK hP hc he, fun U hU hW => ⟨rfl, by rw [hU]; exact xW_sub hP isC hC, va_K.moved hW.alike hK⟩⟩ rfl hn hsize hstack (lv_room hW) hdg hf) hS (fun q _ h => h.elim) (fun q h => h.elim) (fun r u t H1 locs1 ht hvm hw hB hz hk hS1 => kk r H1 locs1 hw (hP.kept (fun k x hx => hk x.1 ((hP k x hx).lt) (fun h => h))) hS1)
theorem xm_i {U : Type} {post : Int32 → U → Prop} {w1 : U → va_W} {q : vw_C} {wc : va_W} {fs : List Value} (S : CallFix p m c cc nL s args Ts own) (hM : Met l y wsy rm (va_Pc (.ref b :: As) (xM D cl tys wc)) (va_Qi post (fun u t => va_P D cl (w1 u) t.heap ∧ va_D (xA wc) (w1 u)) (xA wc)) 0 0 (xA wc)) (cw : CallW R s args own q.1 index y bytes maxL ret wsy rm 0 0 n) (hK : va_K D cl tys s) (hP : va_P D cl ws H) (hD : va_D A ws) (hS : va_S A H0 H locs) (isC : List Nat) (hC : isC.map (fun i => ws[i]?) = wc.map some) (hCn : va_nd isC = true) (q0 ci : Nat) (hc : cl[ci]? = some q) (he : ws[q0]? = some (b, .inr (ci, fs))) (hn : As.length = n) (hsize : ls.size = nL) (hstack : st = As.reverse ++ .ref b :: rest) (hW : (rest.map fun v => v.category).sum ≤ 8) (hdg : decode cc pc = .ok (.invokevirtual index, 3)) (hf : cells ≤ R.cells ∧ slots ≤ R.slots) (kk : ∀ (r : Int32) (u : U) (H1 : Heap) (locs1 : List Loc), post r u → va_P D cl (w1 u) H1 → va_D (xA wc) (w1 u) → (∀ q : Nat, q < H.size → ¬ xA wc q → H1[q]? = H[q]?) → va_S A H0 H1 locs1 → W p l e R s m args below meth c H1 locs1 cells slots Q (F0 m (pc + 3) ls (.int r :: rest))) : W p l e R s m args below meth c H locs cells slots Q (F0 m pc ls (st)) :=
  va_calli (va_runV (As := As) (rest := rest) S hM cw ⟨xM_blind, va_recv hK hP hc he, fun U hU hW => ⟨rfl, by rw [hU]; exact xW_sub hP isC hC, va_K.moved hW.alike hK, (hD.sub isC hCn hC).weaken (fun _ _ _ _ => trivial)⟩⟩ rfl hn hsize hstack (lv_room hW) hdg hf) hS (fun q _ h => xA_in hD isC hC q h) (xA_in hD isC hC) (fun r u t H1 locs1 ht hvm hw hB hz hk hS1 => kk r u H1 locs1 hw (ht ▸ hB.1) hB.2 hk hS1)
theorem xs_l {post : Int64 → Unit → Prop} (S : CallFix p m c cc nL s args Ts own) (hM : Met l y wsy rm (va_Pc As (fun _ => True)) (va_Ql post (fun _ _ => True) (fun _ => False)) 0 0 (fun _ => False)) (cw : CallB R s args own index y bytes maxL ret wsy rm 0 0 n ∧ (Cond.static y).before args s = true) (hP : va_P D cl ws H) (hS : va_S A H0 H locs) (hn : As.length = n) (hsize : ls.size = nL) (hstack : st = As.reverse ++ rest) (hW : (rest.map fun v => v.category).sum ≤ 8) (hdg : decode cc pc = .ok (.invokestatic index, 3)) (hf : cells ≤ R.cells ∧ slots ≤ R.slots) (kk : ∀ (r : Int64) (H1 : Heap) (locs1 : List Loc), post r () → va_P D cl ws H1 → va_S A H0 H1 locs1 → W p l e R s m args below meth c H1 locs1 cells slots Q (F0 m (pc + 3) ls (.long r :: rest))) : W p l e R s m args below meth c H locs cells slots Q (F0 m pc ls (st)) :=
  va_calll (va_runS (As := As) (rest := rest) S hM cw ⟨fun a U g mk q => q, fun U hU hW => ⟨rfl, trivial⟩⟩ rfl hn hsize hstack (lv_room hW) hdg hf) hS (fun q _ h => h.elim) (fun q h => h.elim) (fun r u t H1 locs1 ht hvm hw hB hz hk hS1 => kk r H1 locs1 hw (hP.kept (fun k x hx => hk x.1 ((hP k x hx).lt) (fun h => h))) hS1)
theorem xv_l {post : Int64 → Unit → Prop} {q : vw_C} {wc : va_W} {fs : List Value} (S : CallFix p m c cc nL s args Ts own) (hM : Met l y wsy rm (va_Pc (.ref b :: As) (xP D cl tys wc)) (va_Ql post (fun _ _ => True) (fun _ => False)) 0 0 (fun _ => False)) (cw : CallW R s args own q.1 index y bytes maxL ret wsy rm 0 0 n) (hK : va_K D cl tys s) (hP : va_P D cl ws H) (hS : va_S A H0 H locs) (isC : List Nat) (hC : isC.map (fun i => ws[i]?) = wc.map some) (q0 ci : Nat) (hc : cl[ci]? = some q) (he : ws[q0]? = some (b, .inr (ci, fs))) (hn : As.length = n) (hsize : ls.size = nL) (hstack : st = As.reverse ++ .ref b :: rest) (hW : (rest.map fun v => v.category).sum ≤ 8) (hdg : decode cc pc = .ok (.invokevirtual index, 3)) (hf : cells ≤ R.cells ∧ slots ≤ R.slots) (kk : ∀ (r : Int64) (H1 : Heap) (locs1 : List Loc), post r () → va_P D cl ws H1 → va_S A H0 H1 locs1 → W p l e R s m args below meth c H1 locs1 cells slots Q (F0 m (pc + 3) ls (.long r :: rest))) : W p l e R s m args below meth c H locs cells slots Q (F0 m pc ls (st)) :=
  va_calll (va_runV (As := As) (rest := rest) S hM cw ⟨xP_blind, va_recv hK hP hc he, fun U hU hW => ⟨rfl, by rw [hU]; exact xW_sub hP isC hC, va_K.moved hW.alike hK⟩⟩ rfl hn hsize hstack (lv_room hW) hdg hf) hS (fun q _ h => h.elim) (fun q h => h.elim) (fun r u t H1 locs1 ht hvm hw hB hz hk hS1 => kk r H1 locs1 hw (hP.kept (fun k x hx => hk x.1 ((hP k x hx).lt) (fun h => h))) hS1)
theorem xm_l {U : Type} {post : Int64 → U → Prop} {w1 : U → va_W} {q : vw_C} {wc : va_W} {fs : List Value} (S : CallFix p m c cc nL s args Ts own) (hM : Met l y wsy rm (va_Pc (.ref b :: As) (xM D cl tys wc)) (va_Ql post (fun u t => va_P D cl (w1 u) t.heap ∧ va_D (xA wc) (w1 u)) (xA wc)) 0 0 (xA wc)) (cw : CallW R s args own q.1 index y bytes maxL ret wsy rm 0 0 n) (hK : va_K D cl tys s) (hP : va_P D cl ws H) (hD : va_D A ws) (hS : va_S A H0 H locs) (isC : List Nat) (hC : isC.map (fun i => ws[i]?) = wc.map some) (hCn : va_nd isC = true) (q0 ci : Nat) (hc : cl[ci]? = some q) (he : ws[q0]? = some (b, .inr (ci, fs))) (hn : As.length = n) (hsize : ls.size = nL) (hstack : st = As.reverse ++ .ref b :: rest) (hW : (rest.map fun v => v.category).sum ≤ 8) (hdg : decode cc pc = .ok (.invokevirtual index, 3)) (hf : cells ≤ R.cells ∧ slots ≤ R.slots) (kk : ∀ (r : Int64) (u : U) (H1 : Heap) (locs1 : List Loc), post r u → va_P D cl (w1 u) H1 → va_D (xA wc) (w1 u) → (∀ q : Nat, q < H.size → ¬ xA wc q → H1[q]? = H[q]?) → va_S A H0 H1 locs1 → W p l e R s m args below meth c H1 locs1 cells slots Q (F0 m (pc + 3) ls (.long r :: rest))) : W p l e R s m args below meth c H locs cells slots Q (F0 m pc ls (st)) :=
  va_calll (va_runV (As := As) (rest := rest) S hM cw ⟨xM_blind, va_recv hK hP hc he, fun U hU hW => ⟨rfl, by rw [hU]; exact xW_sub hP isC hC, va_K.moved hW.alike hK, (hD.sub isC hCn hC).weaken (fun _ _ _ _ => trivial)⟩⟩ rfl hn hsize hstack (lv_room hW) hdg hf) hS (fun q _ h => xA_in hD isC hC q h) (xA_in hD isC hC) (fun r u t H1 locs1 ht hvm hw hB hz hk hS1 => kk r u H1 locs1 hw (ht ▸ hB.1) hB.2 hk hS1)
theorem xs_f {post : UInt32 → Unit → Prop} (S : CallFix p m c cc nL s args Ts own) (hM : Met l y wsy rm (va_Pc As (fun _ => True)) (va_Qf post (fun _ _ => True) (fun _ => False)) 0 0 (fun _ => False)) (cw : CallB R s args own index y bytes maxL ret wsy rm 0 0 n ∧ (Cond.static y).before args s = true) (hP : va_P D cl ws H) (hS : va_S A H0 H locs) (hn : As.length = n) (hsize : ls.size = nL) (hstack : st = As.reverse ++ rest) (hW : (rest.map fun v => v.category).sum ≤ 8) (hdg : decode cc pc = .ok (.invokestatic index, 3)) (hf : cells ≤ R.cells ∧ slots ≤ R.slots) (kk : ∀ (r : UInt32) (H1 : Heap) (locs1 : List Loc), post r () → va_P D cl ws H1 → va_S A H0 H1 locs1 → W p l e R s m args below meth c H1 locs1 cells slots Q (F0 m (pc + 3) ls (.float r :: rest))) : W p l e R s m args below meth c H locs cells slots Q (F0 m pc ls (st)) :=
  va_callf (va_runS (As := As) (rest := rest) S hM cw ⟨fun a U g mk q => q, fun U hU hW => ⟨rfl, trivial⟩⟩ rfl hn hsize hstack (lv_room hW) hdg hf) hS (fun q _ h => h.elim) (fun q h => h.elim) (fun r u t H1 locs1 ht hvm hw hB hz hk hS1 => kk r H1 locs1 hw (hP.kept (fun k x hx => hk x.1 ((hP k x hx).lt) (fun h => h))) hS1)
theorem xv_f {post : UInt32 → Unit → Prop} {q : vw_C} {wc : va_W} {fs : List Value} (S : CallFix p m c cc nL s args Ts own) (hM : Met l y wsy rm (va_Pc (.ref b :: As) (xP D cl tys wc)) (va_Qf post (fun _ _ => True) (fun _ => False)) 0 0 (fun _ => False)) (cw : CallW R s args own q.1 index y bytes maxL ret wsy rm 0 0 n) (hK : va_K D cl tys s) (hP : va_P D cl ws H) (hS : va_S A H0 H locs) (isC : List Nat) (hC : isC.map (fun i => ws[i]?) = wc.map some) (q0 ci : Nat) (hc : cl[ci]? = some q) (he : ws[q0]? = some (b, .inr (ci, fs))) (hn : As.length = n) (hsize : ls.size = nL) (hstack : st = As.reverse ++ .ref b :: rest) (hW : (rest.map fun v => v.category).sum ≤ 8) (hdg : decode cc pc = .ok (.invokevirtual index, 3)) (hf : cells ≤ R.cells ∧ slots ≤ R.slots) (kk : ∀ (r : UInt32) (H1 : Heap) (locs1 : List Loc), post r () → va_P D cl ws H1 → va_S A H0 H1 locs1 → W p l e R s m args below meth c H1 locs1 cells slots Q (F0 m (pc + 3) ls (.float r :: rest))) : W p l e R s m args below meth c H locs cells slots Q (F0 m pc ls (st)) :=
  va_callf (va_runV (As := As) (rest := rest) S hM cw ⟨xP_blind, va_recv hK hP hc he, fun U hU hW => ⟨rfl, by rw [hU]; exact xW_sub hP isC hC, va_K.moved hW.alike hK⟩⟩ rfl hn hsize hstack (lv_room hW) hdg hf) hS (fun q _ h => h.elim) (fun q h => h.elim) (fun r u t H1 locs1 ht hvm hw hB hz hk hS1 => kk r H1 locs1 hw (hP.kept (fun k x hx => hk x.1 ((hP k x hx).lt) (fun h => h))) hS1)
theorem xm_f {U : Type} {post : UInt32 → U → Prop} {w1 : U → va_W} {q : vw_C} {wc : va_W} {fs : List Value} (S : CallFix p m c cc nL s args Ts own) (hM : Met l y wsy rm (va_Pc (.ref b :: As) (xM D cl tys wc)) (va_Qf post (fun u t => va_P D cl (w1 u) t.heap ∧ va_D (xA wc) (w1 u)) (xA wc)) 0 0 (xA wc)) (cw : CallW R s args own q.1 index y bytes maxL ret wsy rm 0 0 n) (hK : va_K D cl tys s) (hP : va_P D cl ws H) (hD : va_D A ws) (hS : va_S A H0 H locs) (isC : List Nat) (hC : isC.map (fun i => ws[i]?) = wc.map some) (hCn : va_nd isC = true) (q0 ci : Nat) (hc : cl[ci]? = some q) (he : ws[q0]? = some (b, .inr (ci, fs))) (hn : As.length = n) (hsize : ls.size = nL) (hstack : st = As.reverse ++ .ref b :: rest) (hW : (rest.map fun v => v.category).sum ≤ 8) (hdg : decode cc pc = .ok (.invokevirtual index, 3)) (hf : cells ≤ R.cells ∧ slots ≤ R.slots) (kk : ∀ (r : UInt32) (u : U) (H1 : Heap) (locs1 : List Loc), post r u → va_P D cl (w1 u) H1 → va_D (xA wc) (w1 u) → (∀ q : Nat, q < H.size → ¬ xA wc q → H1[q]? = H[q]?) → va_S A H0 H1 locs1 → W p l e R s m args below meth c H1 locs1 cells slots Q (F0 m (pc + 3) ls (.float r :: rest))) : W p l e R s m args below meth c H locs cells slots Q (F0 m pc ls (st)) :=
  va_callf (va_runV (As := As) (rest := rest) S hM cw ⟨xM_blind, va_recv hK hP hc he, fun U hU hW => ⟨rfl, by rw [hU]; exact xW_sub hP isC hC, va_K.moved hW.alike hK, (hD.sub isC hCn hC).weaken (fun _ _ _ _ => trivial)⟩⟩ rfl hn hsize hstack (lv_room hW) hdg hf) hS (fun q _ h => xA_in hD isC hC q h) (xA_in hD isC hC) (fun r u t H1 locs1 ht hvm hw hB hz hk hS1 => kk r u H1 locs1 hw (ht ▸ hB.1) hB.2 hk hS1)
theorem xs_d {post : UInt64 → Unit → Prop} (S : CallFix p m c cc nL s args Ts own) (hM : Met l y wsy rm (va_Pc As (fun _ => True)) (va_Qd post (fun _ _ => True) (fun _ => False)) 0 0 (fun _ => False)) (cw : CallB R s args own index y bytes maxL ret wsy rm 0 0 n ∧ (Cond.static y).before args s = true) (hP : va_P D cl ws H) (hS : va_S A H0 H locs) (hn : As.length = n) (hsize : ls.size = nL) (hstack : st = As.reverse ++ rest) (hW : (rest.map fun v => v.category).sum ≤ 8) (hdg : decode cc pc = .ok (.invokestatic index, 3)) (hf : cells ≤ R.cells ∧ slots ≤ R.slots) (kk : ∀ (r : UInt64) (H1 : Heap) (locs1 : List Loc), post r () → va_P D cl ws H1 → va_S A H0 H1 locs1 → W p l e R s m args below meth c H1 locs1 cells slots Q (F0 m (pc + 3) ls (.double r :: rest))) : W p l e R s m args below meth c H locs cells slots Q (F0 m pc ls (st)) :=
  va_calld (va_runS (As := As) (rest := rest) S hM cw ⟨fun a U g mk q => q, fun U hU hW => ⟨rfl, trivial⟩⟩ rfl hn hsize hstack (lv_room hW) hdg hf) hS (fun q _ h => h.elim) (fun q h => h.elim) (fun r u t H1 locs1 ht hvm hw hB hz hk hS1 => kk r H1 locs1 hw (hP.kept (fun k x hx => hk x.1 ((hP k x hx).lt) (fun h => h))) hS1)
theorem xv_d {post : UInt64 → Unit → Prop} {q : vw_C} {wc : va_W} {fs : List Value} (S : CallFix p m c cc nL s args Ts own) (hM : Met l y wsy rm (va_Pc (.ref b :: As) (xP D cl tys wc)) (va_Qd post (fun _ _ => True) (fun _ => False)) 0 0 (fun _ => False)) (cw : CallW R s args own q.1 index y bytes maxL ret wsy rm 0 0 n) (hK : va_K D cl tys s) (hP : va_P D cl ws H) (hS : va_S A H0 H locs) (isC : List Nat) (hC : isC.map (fun i => ws[i]?) = wc.map some) (q0 ci : Nat) (hc : cl[ci]? = some q) (he : ws[q0]? = some (b, .inr (ci, fs))) (hn : As.length = n) (hsize : ls.size = nL) (hstack : st = As.reverse ++ .ref b :: rest) (hW : (rest.map fun v => v.category).sum ≤ 8) (hdg : decode cc pc = .ok (.invokevirtual index, 3)) (hf : cells ≤ R.cells ∧ slots ≤ R.slots) (kk : ∀ (r : UInt64) (H1 : Heap) (locs1 : List Loc), post r () → va_P D cl ws H1 → va_S A H0 H1 locs1 → W p l e R s m args below meth c H1 locs1 cells slots Q (F0 m (pc + 3) ls (.double r :: rest))) : W p l e R s m args below meth c H locs cells slots Q (F0 m pc ls (st)) :=
  va_calld (va_runV (As := As) (rest := rest) S hM cw ⟨xP_blind, va_recv hK hP hc he, fun U hU hW => ⟨rfl, by rw [hU]; exact xW_sub hP isC hC, va_K.moved hW.alike hK⟩⟩ rfl hn hsize hstack (lv_room hW) hdg hf) hS (fun q _ h => h.elim) (fun q h => h.elim) (fun r u t H1 locs1 ht hvm hw hB hz hk hS1 => kk r H1 locs1 hw (hP.kept (fun k x hx => hk x.1 ((hP k x hx).lt) (fun h => h))) hS1)
theorem xm_d {U : Type} {post : UInt64 → U → Prop} {w1 : U → va_W} {q : vw_C} {wc : va_W} {fs : List Value} (S : CallFix p m c cc nL s args Ts own) (hM : Met l y wsy rm (va_Pc (.ref b :: As) (xM D cl tys wc)) (va_Qd post (fun u t => va_P D cl (w1 u) t.heap ∧ va_D (xA wc) (w1 u)) (xA wc)) 0 0 (xA wc)) (cw : CallW R s args own q.1 index y bytes maxL ret wsy rm 0 0 n) (hK : va_K D cl tys s) (hP : va_P D cl ws H) (hD : va_D A ws) (hS : va_S A H0 H locs) (isC : List Nat) (hC : isC.map (fun i => ws[i]?) = wc.map some) (hCn : va_nd isC = true) (q0 ci : Nat) (hc : cl[ci]? = some q) (he : ws[q0]? = some (b, .inr (ci, fs))) (hn : As.length = n) (hsize : ls.size = nL) (hstack : st = As.reverse ++ .ref b :: rest) (hW : (rest.map fun v => v.category).sum ≤ 8) (hdg : decode cc pc = .ok (.invokevirtual index, 3)) (hf : cells ≤ R.cells ∧ slots ≤ R.slots) (kk : ∀ (r : UInt64) (u : U) (H1 : Heap) (locs1 : List Loc), post r u → va_P D cl (w1 u) H1 → va_D (xA wc) (w1 u) → (∀ q : Nat, q < H.size → ¬ xA wc q → H1[q]? = H[q]?) → va_S A H0 H1 locs1 → W p l e R s m args below meth c H1 locs1 cells slots Q (F0 m (pc + 3) ls (.double r :: rest))) : W p l e R s m args below meth c H locs cells slots Q (F0 m pc ls (st)) :=
  va_calld (va_runV (As := As) (rest := rest) S hM cw ⟨xM_blind, va_recv hK hP hc he, fun U hU hW => ⟨rfl, by rw [hU]; exact xW_sub hP isC hC, va_K.moved hW.alike hK, (hD.sub isC hCn hC).weaken (fun _ _ _ _ => trivial)⟩⟩ rfl hn hsize hstack (lv_room hW) hdg hf) hS (fun q _ h => xA_in hD isC hC q h) (xA_in hD isC hC) (fun r u t H1 locs1 ht hvm hw hB hz hk hS1 => kk r u H1 locs1 hw (ht ▸ hB.1) hB.2 hk hS1)
theorem xs_v {post : Unit → Prop} (S : CallFix p m c cc nL s args Ts own) (hM : Met l y wsy rm (va_Pc As (fun _ => True)) (va_Qv post (fun _ _ => True) (fun _ => False)) 0 0 (fun _ => False)) (cw : CallB R s args own index y bytes maxL ret wsy rm 0 0 n ∧ (Cond.static y).before args s = true) (hP : va_P D cl ws H) (hS : va_S A H0 H locs) (hn : As.length = n) (hsize : ls.size = nL) (hstack : st = As.reverse ++ rest) (hW : (rest.map fun v => v.category).sum ≤ 8) (hdg : decode cc pc = .ok (.invokestatic index, 3)) (hf : cells ≤ R.cells ∧ slots ≤ R.slots) (kk : ∀ (H1 : Heap) (locs1 : List Loc), va_P D cl ws H1 → va_S A H0 H1 locs1 → W p l e R s m args below meth c H1 locs1 cells slots Q (F0 m (pc + 3) ls (rest))) : W p l e R s m args below meth c H locs cells slots Q (F0 m pc ls (st)) :=
  va_callv (va_runS (As := As) (rest := rest) S hM cw ⟨fun a U g mk q => q, fun U hU hW => ⟨rfl, trivial⟩⟩ rfl hn hsize hstack (lv_room hW) hdg hf) hS (fun q _ h => h.elim) (fun q h => h.elim) (fun u t H1 locs1 ht hvm hw hB hz hk hS1 => kk H1 locs1 (hP.kept (fun k x hx => hk x.1 ((hP k x hx).lt) (fun h => h))) hS1)
theorem xv_v {post : Unit → Prop} {q : vw_C} {wc : va_W} {fs : List Value} (S : CallFix p m c cc nL s args Ts own) (hM : Met l y wsy rm (va_Pc (.ref b :: As) (xP D cl tys wc)) (va_Qv post (fun _ _ => True) (fun _ => False)) 0 0 (fun _ => False)) (cw : CallW R s args own q.1 index y bytes maxL ret wsy rm 0 0 n) (hK : va_K D cl tys s) (hP : va_P D cl ws H) (hS : va_S A H0 H locs) (isC : List Nat) (hC : isC.map (fun i => ws[i]?) = wc.map some) (q0 ci : Nat) (hc : cl[ci]? = some q) (he : ws[q0]? = some (b, .inr (ci, fs))) (hn : As.length = n) (hsize : ls.size = nL) (hstack : st = As.reverse ++ .ref b :: rest) (hW : (rest.map fun v => v.category).sum ≤ 8) (hdg : decode cc pc = .ok (.invokevirtual index, 3)) (hf : cells ≤ R.cells ∧ slots ≤ R.slots) (kk : ∀ (H1 : Heap) (locs1 : List Loc), va_P D cl ws H1 → va_S A H0 H1 locs1 → W p l e R s m args below meth c H1 locs1 cells slots Q (F0 m (pc + 3) ls (rest))) : W p l e R s m args below meth c H locs cells slots Q (F0 m pc ls (st)) :=
  va_callv (va_runV (As := As) (rest := rest) S hM cw ⟨xP_blind, va_recv hK hP hc he, fun U hU hW => ⟨rfl, by rw [hU]; exact xW_sub hP isC hC, va_K.moved hW.alike hK⟩⟩ rfl hn hsize hstack (lv_room hW) hdg hf) hS (fun q _ h => h.elim) (fun q h => h.elim) (fun u t H1 locs1 ht hvm hw hB hz hk hS1 => kk H1 locs1 (hP.kept (fun k x hx => hk x.1 ((hP k x hx).lt) (fun h => h))) hS1)
theorem xm_v {U : Type} {post : U → Prop} {w1 : U → va_W} {q : vw_C} {wc : va_W} {fs : List Value} (S : CallFix p m c cc nL s args Ts own) (hM : Met l y wsy rm (va_Pc (.ref b :: As) (xM D cl tys wc)) (va_Qv post (fun u t => va_P D cl (w1 u) t.heap ∧ va_D (xA wc) (w1 u)) (xA wc)) 0 0 (xA wc)) (cw : CallW R s args own q.1 index y bytes maxL ret wsy rm 0 0 n) (hK : va_K D cl tys s) (hP : va_P D cl ws H) (hD : va_D A ws) (hS : va_S A H0 H locs) (isC : List Nat) (hC : isC.map (fun i => ws[i]?) = wc.map some) (hCn : va_nd isC = true) (q0 ci : Nat) (hc : cl[ci]? = some q) (he : ws[q0]? = some (b, .inr (ci, fs))) (hn : As.length = n) (hsize : ls.size = nL) (hstack : st = As.reverse ++ .ref b :: rest) (hW : (rest.map fun v => v.category).sum ≤ 8) (hdg : decode cc pc = .ok (.invokevirtual index, 3)) (hf : cells ≤ R.cells ∧ slots ≤ R.slots) (kk : ∀ (u : U) (H1 : Heap) (locs1 : List Loc), post u → va_P D cl (w1 u) H1 → va_D (xA wc) (w1 u) → (∀ q : Nat, q < H.size → ¬ xA wc q → H1[q]? = H[q]?) → va_S A H0 H1 locs1 → W p l e R s m args below meth c H1 locs1 cells slots Q (F0 m (pc + 3) ls (rest))) : W p l e R s m args below meth c H locs cells slots Q (F0 m pc ls (st)) :=
  va_callv (va_runV (As := As) (rest := rest) S hM cw ⟨xM_blind, va_recv hK hP hc he, fun U hU hW => ⟨rfl, by rw [hU]; exact xW_sub hP isC hC, va_K.moved hW.alike hK, (hD.sub isC hCn hC).weaken (fun _ _ _ _ => trivial)⟩⟩ rfl hn hsize hstack (lv_room hW) hdg hf) hS (fun q _ h => xA_in hD isC hC q h) (xA_in hD isC hC) (fun u t H1 locs1 ht hvm hw hB hz hk hS1 => kk u H1 locs1 hw (ht ▸ hB.1) hB.2 hk hS1)
theorem xn_v {U : Type} {post : U → Prop} {w1 : U → va_W} {wc : va_W} {mc ms : Nat} (S : CallFix p m c cc nL s args Ts own) (hM : Met l y wsy rm (va_Pc (.ref b :: As) (xN D cl tys wc H.size)) (va_Qv post (fun u t => va_P D cl (w1 u) t.heap ∧ va_D (va_A wc H.size) (w1 u)) (va_A wc H.size)) mc ms (va_A wc H.size)) (cw : CallB R s args own index y bytes maxL none wsy rm mc ms n ∧ y.name = "<init>" ∧ (Cond.instanceMethod y).before args s = true) (hK : va_K D cl tys s) (hP : va_P D cl ws H) (hD : va_D A ws) (hS : va_S A H0 H locs) (hA : ∀ q, H0.size ≤ q → A q) (isC : List Nat) (hC : isC.map (fun i => ws[i]?) = wc.map some) (hCn : va_nd isC = true) (hn : As.length = n) (hsize : ls.size = nL) (hstack : st = As.reverse ++ .ref b :: rest) (hW : (rest.map fun v => v.category).sum ≤ 8) (hdg : decode cc pc = .ok (.invokespecial index, 3)) (hf : cells + mc ≤ R.cells ∧ slots + ms ≤ R.slots) (kk : ∀ (u : U) (H1 : Heap) (locs1 : List Loc), post u → va_P D cl (w1 u) H1 → va_D (va_A wc H.size) (w1 u) → (∀ q : Nat, q < H.size → ¬ va_A wc H.size q → H1[q]? = H[q]?) → va_S A H0 H1 locs1 → W p l e R s m args below meth c H1 locs1 (cells + mc) (slots + ms) Q (F0 m (pc + 3) ls rest)) : W p l e R s m args below meth c H locs cells slots Q (F0 m pc ls (st)) :=
  va_callv (va_runI (As := As) (rest := rest) S hM cw ⟨xN_blind, fun U hU hW => ⟨rfl, by rw [hU], by rw [hU]; exact xW_sub hP isC hC, va_K.moved hW.alike hK, (hD.sub isC hCn hC).weaken (fun _ _ _ _ => trivial)⟩⟩ rfl hn hsize hstack (lv_room hW) hdg hf) hS (fun q _ h => va_free hD hS hA isC hC q h) (va_free hD hS hA isC hC) (fun u t H1 locs1 ht hvm hw hB hz hk hS1 => kk u H1 locs1 hw (ht ▸ hB.1) hB.2 hk hS1)
theorem xsp_i {post : Int32 → Unit → Prop} {wc : va_W} (S : CallFix p m c cc nL s args Ts own) (hM : Met l y wsy rm (va_Pc As (xP D cl tys wc)) (va_Qi post (fun _ _ => True) (fun _ => False)) 0 0 (fun _ => False)) (cw : CallB R s args own index y bytes maxL ret wsy rm 0 0 n ∧ (Cond.static y).before args s = true) (hK : va_K D cl tys s) (hP : va_P D cl ws H) (hS : va_S A H0 H locs) (isC : List Nat) (hC : isC.map (fun i => ws[i]?) = wc.map some) (hn : As.length = n) (hsize : ls.size = nL) (hstack : st = As.reverse ++ rest) (hW : (rest.map fun v => v.category).sum ≤ 8) (hdg : decode cc pc = .ok (.invokestatic index, 3)) (hf : cells ≤ R.cells ∧ slots ≤ R.slots) (kk : ∀ (r : Int32) (H1 : Heap) (locs1 : List Loc), post r () → va_P D cl ws H1 → va_S A H0 H1 locs1 → W p l e R s m args below meth c H1 locs1 cells slots Q (F0 m (pc + 3) ls (.int r :: rest))) : W p l e R s m args below meth c H locs cells slots Q (F0 m pc ls (st)) :=
  va_calli (va_runS (As := As) (rest := rest) S hM cw ⟨xP_blind, fun U hU hW => ⟨rfl, by rw [hU]; exact xW_sub hP isC hC, va_K.moved hW.alike hK⟩⟩ rfl hn hsize hstack (lv_room hW) hdg hf) hS (fun q _ h => h.elim) (fun q h => h.elim) (fun r u t H1 locs1 ht hvm hw hB hz hk hS1 => kk r H1 locs1 hw (hP.kept (fun k x hx => hk x.1 ((hP k x hx).lt) (fun h => h))) hS1)
theorem xsm_i {U : Type} {post : Int32 → U → Prop} {w1 : U → va_W} {wc : va_W} (S : CallFix p m c cc nL s args Ts own) (hM : Met l y wsy rm (va_Pc As (xM D cl tys wc)) (va_Qi post (fun u t => va_P D cl (w1 u) t.heap ∧ va_D (xA wc) (w1 u)) (xA wc)) 0 0 (xA wc)) (cw : CallB R s args own index y bytes maxL ret wsy rm 0 0 n ∧ (Cond.static y).before args s = true) (hK : va_K D cl tys s) (hP : va_P D cl ws H) (hD : va_D A ws) (hS : va_S A H0 H locs) (isC : List Nat) (hC : isC.map (fun i => ws[i]?) = wc.map some) (hCn : va_nd isC = true) (hn : As.length = n) (hsize : ls.size = nL) (hstack : st = As.reverse ++ rest) (hW : (rest.map fun v => v.category).sum ≤ 8) (hdg : decode cc pc = .ok (.invokestatic index, 3)) (hf : cells ≤ R.cells ∧ slots ≤ R.slots) (kk : ∀ (r : Int32) (u : U) (H1 : Heap) (locs1 : List Loc), post r u → va_P D cl (w1 u) H1 → va_D (xA wc) (w1 u) → (∀ q : Nat, q < H.size → ¬ xA wc q → H1[q]? = H[q]?) → va_S A H0 H1 locs1 → W p l e R s m args below meth c H1 locs1 cells slots Q (F0 m (pc + 3) ls (.int r :: rest))) : W p l e R s m args below meth c H locs cells slots Q (F0 m pc ls (st)) :=
  va_calli (va_runS (As := As) (rest := rest) S hM cw ⟨xM_blind, fun U hU hW => ⟨rfl, by rw [hU]; exact xW_sub hP isC hC, va_K.moved hW.alike hK, (hD.sub isC hCn hC).weaken (fun _ _ _ _ => trivial)⟩⟩ rfl hn hsize hstack (lv_room hW) hdg hf) hS (fun q _ h => xA_in hD isC hC q h) (xA_in hD isC hC) (fun r u t H1 locs1 ht hvm hw hB hz hk hS1 => kk r u H1 locs1 hw (ht ▸ hB.1) hB.2 hk hS1)
theorem xsp_l {post : Int64 → Unit → Prop} {wc : va_W} (S : CallFix p m c cc nL s args Ts own) (hM : Met l y wsy rm (va_Pc As (xP D cl tys wc)) (va_Ql post (fun _ _ => True) (fun _ => False)) 0 0 (fun _ => False)) (cw : CallB R s args own index y bytes maxL ret wsy rm 0 0 n ∧ (Cond.static y).before args s = true) (hK : va_K D cl tys s) (hP : va_P D cl ws H) (hS : va_S A H0 H locs) (isC : List Nat) (hC : isC.map (fun i => ws[i]?) = wc.map some) (hn : As.length = n) (hsize : ls.size = nL) (hstack : st = As.reverse ++ rest) (hW : (rest.map fun v => v.category).sum ≤ 8) (hdg : decode cc pc = .ok (.invokestatic index, 3)) (hf : cells ≤ R.cells ∧ slots ≤ R.slots) (kk : ∀ (r : Int64) (H1 : Heap) (locs1 : List Loc), post r () → va_P D cl ws H1 → va_S A H0 H1 locs1 → W p l e R s m args below meth c H1 locs1 cells slots Q (F0 m (pc + 3) ls (.long r :: rest))) : W p l e R s m args below meth c H locs cells slots Q (F0 m pc ls (st)) :=
  va_calll (va_runS (As := As) (rest := rest) S hM cw ⟨xP_blind, fun U hU hW => ⟨rfl, by rw [hU]; exact xW_sub hP isC hC, va_K.moved hW.alike hK⟩⟩ rfl hn hsize hstack (lv_room hW) hdg hf) hS (fun q _ h => h.elim) (fun q h => h.elim) (fun r u t H1 locs1 ht hvm hw hB hz hk hS1 => kk r H1 locs1 hw (hP.kept (fun k x hx => hk x.1 ((hP k x hx).lt) (fun h => h))) hS1)
theorem xsm_l {U : Type} {post : Int64 → U → Prop} {w1 : U → va_W} {wc : va_W} (S : CallFix p m c cc nL s args Ts own) (hM : Met l y wsy rm (va_Pc As (xM D cl tys wc)) (va_Ql post (fun u t => va_P D cl (w1 u) t.heap ∧ va_D (xA wc) (w1 u)) (xA wc)) 0 0 (xA wc)) (cw : CallB R s args own index y bytes maxL ret wsy rm 0 0 n ∧ (Cond.static y).before args s = true) (hK : va_K D cl tys s) (hP : va_P D cl ws H) (hD : va_D A ws) (hS : va_S A H0 H locs) (isC : List Nat) (hC : isC.map (fun i => ws[i]?) = wc.map some) (hCn : va_nd isC = true) (hn : As.length = n) (hsize : ls.size = nL) (hstack : st = As.reverse ++ rest) (hW : (rest.map fun v => v.category).sum ≤ 8) (hdg : decode cc pc = .ok (.invokestatic index, 3)) (hf : cells ≤ R.cells ∧ slots ≤ R.slots) (kk : ∀ (r : Int64) (u : U) (H1 : Heap) (locs1 : List Loc), post r u → va_P D cl (w1 u) H1 → va_D (xA wc) (w1 u) → (∀ q : Nat, q < H.size → ¬ xA wc q → H1[q]? = H[q]?) → va_S A H0 H1 locs1 → W p l e R s m args below meth c H1 locs1 cells slots Q (F0 m (pc + 3) ls (.long r :: rest))) : W p l e R s m args below meth c H locs cells slots Q (F0 m pc ls (st)) :=
  va_calll (va_runS (As := As) (rest := rest) S hM cw ⟨xM_blind, fun U hU hW => ⟨rfl, by rw [hU]; exact xW_sub hP isC hC, va_K.moved hW.alike hK, (hD.sub isC hCn hC).weaken (fun _ _ _ _ => trivial)⟩⟩ rfl hn hsize hstack (lv_room hW) hdg hf) hS (fun q _ h => xA_in hD isC hC q h) (xA_in hD isC hC) (fun r u t H1 locs1 ht hvm hw hB hz hk hS1 => kk r u H1 locs1 hw (ht ▸ hB.1) hB.2 hk hS1)
abbrev xCS (A : Nat → Prop) (U : State) (H : Heap) : Prop := va_Z "java/lang/String" "COMPACT_STRINGS" "Z" (.int 1) A U H
def xZ (A : Nat → Prop) (B : State → Prop) (U : State) : Prop := B U ∧ xCS A U U.heap
theorem xZ_blind {av : List Value} {A : Nat → Prop} {B : State → Prop} (hB : FrameBlind (va_Pc av B)) : FrameBlind (va_Pc av (xZ A B)) := fun a U g mk q => ⟨q.1, (hB a U g mk ⟨q.1, q.2.1⟩).2, va_Z.moved (u := U) (U := U.calling g mk a) (Vm.Alike.refl U.vm) q.2.2⟩
theorem xZ_go {A1 : Nat → Prop} {U : State} (hZ : xCS A s s.heap) (hS : va_S A s.heap H locs) (hU : U.heap = H) (hW : s.WarmedH U.vm) (hA : ∀ q, q < H.size → A1 q → A q) : xCS A1 U U.heap := by
  rw [hU]
  obtain ⟨cf, kf, fi, f, a, cell, h1, h2, h3, h4, h5, h6, h7, h8⟩ := (hZ.kept (fun a h1 h2 => hS.2.1 a h1 h2)).moved hW.alike
  exact ⟨cf, kf, fi, f, a, cell, h1, h2, h3, h4, h5, h6, h7, fun z => h8 (hA a (Array.getElem?_eq_some_iff.mp h5).1 z)⟩
end XB
end
