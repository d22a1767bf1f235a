/-! NAMES: classes, fields, methods, words. Written by wip/whole/gen.py out of javap's listing -/
def F_Firm : u_T := fun k => match k with
  | 0 => ("FirmStore", "memory", "LFirmStore$Memory;", true)
  | 1 => ("FirmStore", "blocks", "LFirmStore$Blocks;", true)
  | 2 => ("FirmStore", "tree", "LFirmStore$Tree;", true)
  | _ => ("FirmStore", "table", "LFirmStore$Table;", true)
def t_Firm : Nat → FieldType := fun k => match k with
  | 0 => .object "FirmStore$Memory"
  | 1 => .object "FirmStore$Blocks"
  | 2 => .object "FirmStore$Tree"
  | _ => .object "FirmStore$Table"
theorem n_Firm : ∀ a, a < 4 → ∀ b, b < 4 → a ≠ b → (F_Firm a).2.1 ≠ (F_Firm b).2.1 := by decide +kernel
theorem t_Firm_ok : ∀ k, k < 4 → parseFieldDescriptor (F_Firm k).2.2.1 = some (t_Firm k) := by decide +kernel
def F_Memory : u_T := fun k => match k with
  | 0 => ("FirmStore$Memory", "words", "[J", true)
  | 1 => ("FirmStore$Memory", "looseAt", "[I", true)
  | 2 => ("FirmStore$Memory", "firmWas", "[J", true)
  | 3 => ("FirmStore$Memory", "looseCount", "I", false)
  | 4 => ("FirmStore$Memory", "storesBeforeCut", "I", false)
  | 5 => ("FirmStore$Memory", "cutMask", "I", false)
  | 6 => ("FirmStore$Memory", "storeCount", "I", false)
  | _ => ("FirmStore$Memory", "isDown", "Z", false)
def t_Memory : Nat → FieldType := fun k => match k with
  | 0 => .array .long
  | 1 => .array .int
  | 2 => .array .long
  | 3 => .int
  | 4 => .int
  | 5 => .int
  | 6 => .int
  | _ => .boolean
theorem n_Memory : ∀ a, a < 8 → ∀ b, b < 8 → a ≠ b → (F_Memory a).2.1 ≠ (F_Memory b).2.1 := by decide +kernel
theorem t_Memory_ok : ∀ k, k < 8 → parseFieldDescriptor (F_Memory k).2.2.1 = some (t_Memory k) := by decide +kernel
def F_Blocks : u_T := fun k => match k with
  | _ => ("FirmStore$Blocks", "memory", "LFirmStore$Memory;", true)
def t_Blocks : Nat → FieldType := fun k => match k with
  | _ => .object "FirmStore$Memory"
theorem n_Blocks : ∀ a, a < 1 → ∀ b, b < 1 → a ≠ b → (F_Blocks a).2.1 ≠ (F_Blocks b).2.1 := by decide +kernel
theorem t_Blocks_ok : ∀ k, k < 1 → parseFieldDescriptor (F_Blocks k).2.2.1 = some (t_Blocks k) := by decide +kernel
def F_Tree : u_T := fun k => match k with
  | 0 => ("FirmStore$Tree", "memory", "LFirmStore$Memory;", true)
  | _ => ("FirmStore$Tree", "blocks", "LFirmStore$Blocks;", true)
def t_Tree : Nat → FieldType := fun k => match k with
  | 0 => .object "FirmStore$Memory"
  | _ => .object "FirmStore$Blocks"
theorem n_Tree : ∀ a, a < 2 → ∀ b, b < 2 → a ≠ b → (F_Tree a).2.1 ≠ (F_Tree b).2.1 := by decide +kernel
theorem t_Tree_ok : ∀ k, k < 2 → parseFieldDescriptor (F_Tree k).2.2.1 = some (t_Tree k) := by decide +kernel
def F_Table : u_T := fun k => match k with
  | 0 => ("FirmStore$Table", "memory", "LFirmStore$Memory;", true)
  | _ => ("FirmStore$Table", "blocks", "LFirmStore$Blocks;", true)
def t_Table : Nat → FieldType := fun k => match k with
  | 0 => .object "FirmStore$Memory"
  | _ => .object "FirmStore$Blocks"
theorem n_Table : ∀ a, a < 2 → ∀ b, b < 2 → a ≠ b → (F_Table a).2.1 ≠ (F_Table b).2.1 := by decide +kernel
theorem t_Table_ok : ∀ k, k < 2 → parseFieldDescriptor (F_Table k).2.2.1 = some (t_Table k) := by decide +kernel
def F_Ref : u_T := fun k => match k with
  | 0 => ("FirmStoreModel", "memory", "[J", true)
  | 1 => ("FirmStoreModel", "loose", "I", false)
  | 2 => ("FirmStoreModel", "looseAt", "[I", true)
  | 3 => ("FirmStoreModel", "looseOld", "[J", true)
  | 4 => ("FirmStoreModel", "cutAfter", "I", false)
  | 5 => ("FirmStoreModel", "cutMask", "I", false)
  | 6 => ("FirmStoreModel", "stores", "I", false)
  | 7 => ("FirmStoreModel", "down", "Z", false)
  | 8 => ("FirmStoreModel", "broken", "Z", false)
  | 9 => ("FirmStoreModel", "code", "I", false)
  | 10 => ("FirmStoreModel", "reached", "[Z", true)
  | _ => ("FirmStoreModel", "rising", "[I", true)
def t_Ref : Nat → FieldType := fun k => match k with
  | 0 => .array .long
  | 1 => .int
  | 2 => .array .int
  | 3 => .array .long
  | 4 => .int
  | 5 => .int
  | 6 => .int
  | 7 => .boolean
  | 8 => .boolean
  | 9 => .int
  | 10 => .array .boolean
  | _ => .array .int
theorem n_Ref : ∀ a, a < 12 → ∀ b, b < 12 → a ≠ b → (F_Ref a).2.1 ≠ (F_Ref b).2.1 := by decide +kernel
theorem t_Ref_ok : ∀ k, k < 12 → parseFieldDescriptor (F_Ref k).2.2.1 = some (t_Ref k) := by decide +kernel

abbrev b_Memory_wordAt : ByteArray := prog_3_method_2_code
def y_Memory_wordAt : MethodName := ⟨"FirmStore$Memory", "wordAt", "(I)J"⟩
theorem e_Memory_wordAt : y_Memory_wordAt.cls ≠ "java/lang/invoke/MethodHandle" ∧ y_Memory_wordAt.cls ≠ "java/lang/invoke/VarHandle" ∧ (parseMethodDescriptor y_Memory_wordAt.desc).map (fun d => d.parameters.length) = some 1 := by decide +kernel
abbrev b_Memory_orderCut : ByteArray := prog_3_method_3_code
def y_Memory_orderCut : MethodName := ⟨"FirmStore$Memory", "orderCut", "(II)V"⟩
theorem e_Memory_orderCut : y_Memory_orderCut.cls ≠ "java/lang/invoke/MethodHandle" ∧ y_Memory_orderCut.cls ≠ "java/lang/invoke/VarHandle" ∧ (parseMethodDescriptor y_Memory_orderCut.desc).map (fun d => d.parameters.length) = some 2 := by decide +kernel
abbrev b_Memory_cutPower : ByteArray := prog_3_method_7_code
def y_Memory_cutPower : MethodName := ⟨"FirmStore$Memory", "cutPower", "()V"⟩
theorem e_Memory_cutPower : y_Memory_cutPower.cls ≠ "java/lang/invoke/MethodHandle" ∧ y_Memory_cutPower.cls ≠ "java/lang/invoke/VarHandle" ∧ (parseMethodDescriptor y_Memory_cutPower.desc).map (fun d => d.parameters.length) = some 0 := by decide +kernel
abbrev b_Memory_store : ByteArray := prog_3_method_4_code
def y_Memory_store : MethodName := ⟨"FirmStore$Memory", "store", "(IJ)Z"⟩
theorem e_Memory_store : y_Memory_store.cls ≠ "java/lang/invoke/MethodHandle" ∧ y_Memory_store.cls ≠ "java/lang/invoke/VarHandle" ∧ (parseMethodDescriptor y_Memory_store.desc).map (fun d => d.parameters.length) = some 2 := by decide +kernel
abbrev b_Memory_fence : ByteArray := prog_3_method_5_code
def y_Memory_fence : MethodName := ⟨"FirmStore$Memory", "fence", "()V"⟩
theorem e_Memory_fence : y_Memory_fence.cls ≠ "java/lang/invoke/MethodHandle" ∧ y_Memory_fence.cls ≠ "java/lang/invoke/VarHandle" ∧ (parseMethodDescriptor y_Memory_fence.desc).map (fun d => d.parameters.length) = some 0 := by decide +kernel
abbrev b_Memory_firmStore : ByteArray := prog_3_method_6_code
def y_Memory_firmStore : MethodName := ⟨"FirmStore$Memory", "firmStore", "(IJ)Z"⟩
theorem e_Memory_firmStore : y_Memory_firmStore.cls ≠ "java/lang/invoke/MethodHandle" ∧ y_Memory_firmStore.cls ≠ "java/lang/invoke/VarHandle" ∧ (parseMethodDescriptor y_Memory_firmStore.desc).map (fun d => d.parameters.length) = some 2 := by decide +kernel
abbrev b_Firm_isPart : ByteArray := prog_1_method_15_code
def y_Firm_isPart : MethodName := ⟨"FirmStore", "isPart", "(I)Z"⟩
theorem e_Firm_isPart : y_Firm_isPart.cls ≠ "java/lang/invoke/MethodHandle" ∧ y_Firm_isPart.cls ≠ "java/lang/invoke/VarHandle" ∧ (parseMethodDescriptor y_Firm_isPart.desc).map (fun d => d.parameters.length) = some 1 := by decide +kernel
abbrev b_Firm_isKey : ByteArray := prog_1_method_16_code
def y_Firm_isKey : MethodName := ⟨"FirmStore", "isKey", "(I)Z"⟩
theorem e_Firm_isKey : y_Firm_isKey.cls ≠ "java/lang/invoke/MethodHandle" ∧ y_Firm_isKey.cls ≠ "java/lang/invoke/VarHandle" ∧ (parseMethodDescriptor y_Firm_isKey.desc).map (fun d => d.parameters.length) = some 1 := by decide +kernel
abbrev b_Firm_entryOf : ByteArray := prog_1_method_17_code
def y_Firm_entryOf : MethodName := ⟨"FirmStore", "entryOf", "(II)J"⟩
theorem e_Firm_entryOf : y_Firm_entryOf.cls ≠ "java/lang/invoke/MethodHandle" ∧ y_Firm_entryOf.cls ≠ "java/lang/invoke/VarHandle" ∧ (parseMethodDescriptor y_Firm_entryOf.desc).map (fun d => d.parameters.length) = some 2 := by decide +kernel
abbrev b_Firm_keyOf : ByteArray := prog_1_method_18_code
def y_Firm_keyOf : MethodName := ⟨"FirmStore", "keyOf", "(J)I"⟩
theorem e_Firm_keyOf : y_Firm_keyOf.cls ≠ "java/lang/invoke/MethodHandle" ∧ y_Firm_keyOf.cls ≠ "java/lang/invoke/VarHandle" ∧ (parseMethodDescriptor y_Firm_keyOf.desc).map (fun d => d.parameters.length) = some 1 := by decide +kernel
abbrev b_Firm_valueOf : ByteArray := prog_1_method_19_code
def y_Firm_valueOf : MethodName := ⟨"FirmStore", "valueOf", "(J)I"⟩
theorem e_Firm_valueOf : y_Firm_valueOf.cls ≠ "java/lang/invoke/MethodHandle" ∧ y_Firm_valueOf.cls ≠ "java/lang/invoke/VarHandle" ∧ (parseMethodDescriptor y_Firm_valueOf.desc).map (fun d => d.parameters.length) = some 1 := by decide +kernel
abbrev b_Int_bitCount : ByteArray := prog_11_method_49_code
def y_Int_bitCount : MethodName := ⟨"java/lang/Integer", "bitCount", "(I)I"⟩
theorem e_Int_bitCount : y_Int_bitCount.cls ≠ "java/lang/invoke/MethodHandle" ∧ y_Int_bitCount.cls ≠ "java/lang/invoke/VarHandle" ∧ (parseMethodDescriptor y_Int_bitCount.desc).map (fun d => d.parameters.length) = some 1 := by decide +kernel
abbrev b_Int_numberOfTrailingZeros : ByteArray := prog_11_method_48_code
def y_Int_numberOfTrailingZeros : MethodName := ⟨"java/lang/Integer", "numberOfTrailingZeros", "(I)I"⟩
theorem e_Int_numberOfTrailingZeros : y_Int_numberOfTrailingZeros.cls ≠ "java/lang/invoke/MethodHandle" ∧ y_Int_numberOfTrailingZeros.cls ≠ "java/lang/invoke/VarHandle" ∧ (parseMethodDescriptor y_Int_numberOfTrailingZeros.desc).map (fun d => d.parameters.length) = some 1 := by decide +kernel
abbrev b_Blocks_blockOf : ByteArray := prog_2_method_2_code
def y_Blocks_blockOf : MethodName := ⟨"FirmStore$Blocks", "blockOf", "(J)I"⟩
theorem e_Blocks_blockOf : y_Blocks_blockOf.cls ≠ "java/lang/invoke/MethodHandle" ∧ y_Blocks_blockOf.cls ≠ "java/lang/invoke/VarHandle" ∧ (parseMethodDescriptor y_Blocks_blockOf.desc).map (fun d => d.parameters.length) = some 1 := by decide +kernel
abbrev b_Blocks_blockIn : ByteArray := prog_2_method_3_code
def y_Blocks_blockIn : MethodName := ⟨"FirmStore$Blocks", "blockIn", "(I)I"⟩
theorem e_Blocks_blockIn : y_Blocks_blockIn.cls ≠ "java/lang/invoke/MethodHandle" ∧ y_Blocks_blockIn.cls ≠ "java/lang/invoke/VarHandle" ∧ (parseMethodDescriptor y_Blocks_blockIn.desc).map (fun d => d.parameters.length) = some 1 := by decide +kernel
abbrev b_Blocks_levelOf : ByteArray := prog_2_method_4_code
def y_Blocks_levelOf : MethodName := ⟨"FirmStore$Blocks", "levelOf", "(I)I"⟩
theorem e_Blocks_levelOf : y_Blocks_levelOf.cls ≠ "java/lang/invoke/MethodHandle" ∧ y_Blocks_levelOf.cls ≠ "java/lang/invoke/VarHandle" ∧ (parseMethodDescriptor y_Blocks_levelOf.desc).map (fun d => d.parameters.length) = some 1 := by decide +kernel
abbrev b_Blocks_nextOf : ByteArray := prog_2_method_5_code
def y_Blocks_nextOf : MethodName := ⟨"FirmStore$Blocks", "nextOf", "(I)I"⟩
theorem e_Blocks_nextOf : y_Blocks_nextOf.cls ≠ "java/lang/invoke/MethodHandle" ∧ y_Blocks_nextOf.cls ≠ "java/lang/invoke/VarHandle" ∧ (parseMethodDescriptor y_Blocks_nextOf.desc).map (fun d => d.parameters.length) = some 1 := by decide +kernel
abbrev b_Blocks_lowOf : ByteArray := prog_2_method_6_code
def y_Blocks_lowOf : MethodName := ⟨"FirmStore$Blocks", "lowOf", "(I)I"⟩
theorem e_Blocks_lowOf : y_Blocks_lowOf.cls ≠ "java/lang/invoke/MethodHandle" ∧ y_Blocks_lowOf.cls ≠ "java/lang/invoke/VarHandle" ∧ (parseMethodDescriptor y_Blocks_lowOf.desc).map (fun d => d.parameters.length) = some 1 := by decide +kernel
abbrev b_Blocks_addressOfPlace : ByteArray := prog_2_method_7_code
def y_Blocks_addressOfPlace : MethodName := ⟨"FirmStore$Blocks", "addressOfPlace", "(II)I"⟩
theorem e_Blocks_addressOfPlace : y_Blocks_addressOfPlace.cls ≠ "java/lang/invoke/MethodHandle" ∧ y_Blocks_addressOfPlace.cls ≠ "java/lang/invoke/VarHandle" ∧ (parseMethodDescriptor y_Blocks_addressOfPlace.desc).map (fun d => d.parameters.length) = some 2 := by decide +kernel
abbrev b_Blocks_entryAt : ByteArray := prog_2_method_8_code
def y_Blocks_entryAt : MethodName := ⟨"FirmStore$Blocks", "entryAt", "(II)J"⟩
theorem e_Blocks_entryAt : y_Blocks_entryAt.cls ≠ "java/lang/invoke/MethodHandle" ∧ y_Blocks_entryAt.cls ≠ "java/lang/invoke/VarHandle" ∧ (parseMethodDescriptor y_Blocks_entryAt.desc).map (fun d => d.parameters.length) = some 2 := by decide +kernel
abbrev b_Blocks_childAt : ByteArray := prog_2_method_9_code
def y_Blocks_childAt : MethodName := ⟨"FirmStore$Blocks", "childAt", "(II)I"⟩
theorem e_Blocks_childAt : y_Blocks_childAt.cls ≠ "java/lang/invoke/MethodHandle" ∧ y_Blocks_childAt.cls ≠ "java/lang/invoke/VarHandle" ∧ (parseMethodDescriptor y_Blocks_childAt.desc).map (fun d => d.parameters.length) = some 2 := by decide +kernel
abbrev b_Blocks_rowLength : ByteArray := prog_2_method_10_code
def y_Blocks_rowLength : MethodName := ⟨"FirmStore$Blocks", "rowLength", "(I)I"⟩
theorem e_Blocks_rowLength : y_Blocks_rowLength.cls ≠ "java/lang/invoke/MethodHandle" ∧ y_Blocks_rowLength.cls ≠ "java/lang/invoke/VarHandle" ∧ (parseMethodDescriptor y_Blocks_rowLength.desc).map (fun d => d.parameters.length) = some 1 := by decide +kernel
abbrev b_Blocks_isFull : ByteArray := prog_2_method_11_code
def y_Blocks_isFull : MethodName := ⟨"FirmStore$Blocks", "isFull", "(I)Z"⟩
theorem e_Blocks_isFull : y_Blocks_isFull.cls ≠ "java/lang/invoke/MethodHandle" ∧ y_Blocks_isFull.cls ≠ "java/lang/invoke/VarHandle" ∧ (parseMethodDescriptor y_Blocks_isFull.desc).map (fun d => d.parameters.length) = some 1 := by decide +kernel
abbrev b_Blocks_linkNext : ByteArray := prog_2_method_12_code
def y_Blocks_linkNext : MethodName := ⟨"FirmStore$Blocks", "linkNext", "(II)Z"⟩
theorem e_Blocks_linkNext : y_Blocks_linkNext.cls ≠ "java/lang/invoke/MethodHandle" ∧ y_Blocks_linkNext.cls ≠ "java/lang/invoke/VarHandle" ∧ (parseMethodDescriptor y_Blocks_linkNext.desc).map (fun d => d.parameters.length) = some 2 := by decide +kernel
abbrev b_Blocks_freeSet : ByteArray := prog_2_method_15_code
def y_Blocks_freeSet : MethodName := ⟨"FirmStore$Blocks", "freeSet", "()I"⟩
theorem e_Blocks_freeSet : y_Blocks_freeSet.cls ≠ "java/lang/invoke/MethodHandle" ∧ y_Blocks_freeSet.cls ≠ "java/lang/invoke/VarHandle" ∧ (parseMethodDescriptor y_Blocks_freeSet.desc).map (fun d => d.parameters.length) = some 0 := by decide +kernel
abbrev b_Blocks_countFree : ByteArray := prog_2_method_14_code
def y_Blocks_countFree : MethodName := ⟨"FirmStore$Blocks", "countFree", "()I"⟩
theorem e_Blocks_countFree : y_Blocks_countFree.cls ≠ "java/lang/invoke/MethodHandle" ∧ y_Blocks_countFree.cls ≠ "java/lang/invoke/VarHandle" ∧ (parseMethodDescriptor y_Blocks_countFree.desc).map (fun d => d.parameters.length) = some 0 := by decide +kernel
abbrev b_Blocks_make : ByteArray := prog_2_method_13_code
def y_Blocks_make : MethodName := ⟨"FirmStore$Blocks", "make", "(IIIJJJ)I"⟩
theorem e_Blocks_make : y_Blocks_make.cls ≠ "java/lang/invoke/MethodHandle" ∧ y_Blocks_make.cls ≠ "java/lang/invoke/VarHandle" ∧ (parseMethodDescriptor y_Blocks_make.desc).map (fun d => d.parameters.length) = some 6 := by decide +kernel
abbrev b_Table_headOf : ByteArray := prog_4_method_5_code
def y_Table_headOf : MethodName := ⟨"FirmStore$Table", "headOf", "(I)I"⟩
theorem e_Table_headOf : y_Table_headOf.cls ≠ "java/lang/invoke/MethodHandle" ∧ y_Table_headOf.cls ≠ "java/lang/invoke/VarHandle" ∧ (parseMethodDescriptor y_Table_headOf.desc).map (fun d => d.parameters.length) = some 1 := by decide +kernel
abbrev b_Table_countEntries : ByteArray := prog_4_method_7_code
def y_Table_countEntries : MethodName := ⟨"FirmStore$Table", "countEntries", "(I)I"⟩
theorem e_Table_countEntries : y_Table_countEntries.cls ≠ "java/lang/invoke/MethodHandle" ∧ y_Table_countEntries.cls ≠ "java/lang/invoke/VarHandle" ∧ (parseMethodDescriptor y_Table_countEntries.desc).map (fun d => d.parameters.length) = some 1 := by decide +kernel
abbrev b_Table_seekInChain : ByteArray := prog_4_method_6_code
def y_Table_seekInChain : MethodName := ⟨"FirmStore$Table", "seekInChain", "(II)I"⟩
theorem e_Table_seekInChain : y_Table_seekInChain.cls ≠ "java/lang/invoke/MethodHandle" ∧ y_Table_seekInChain.cls ≠ "java/lang/invoke/VarHandle" ∧ (parseMethodDescriptor y_Table_seekInChain.desc).map (fun d => d.parameters.length) = some 2 := by decide +kernel
abbrev b_Table_seek : ByteArray := prog_4_method_2_code
def y_Table_seek : MethodName := ⟨"FirmStore$Table", "seek", "(I)I"⟩
theorem e_Table_seek : y_Table_seek.cls ≠ "java/lang/invoke/MethodHandle" ∧ y_Table_seek.cls ≠ "java/lang/invoke/VarHandle" ∧ (parseMethodDescriptor y_Table_seek.desc).map (fun d => d.parameters.length) = some 1 := by decide +kernel
abbrev b_Table_countKeys : ByteArray := prog_4_method_3_code
def y_Table_countKeys : MethodName := ⟨"FirmStore$Table", "countKeys", "()I"⟩
theorem e_Table_countKeys : y_Table_countKeys.cls ≠ "java/lang/invoke/MethodHandle" ∧ y_Table_countKeys.cls ≠ "java/lang/invoke/VarHandle" ∧ (parseMethodDescriptor y_Table_countKeys.desc).map (fun d => d.parameters.length) = some 0 := by decide +kernel
abbrev b_Table_enter : ByteArray := prog_4_method_4_code
def y_Table_enter : MethodName := ⟨"FirmStore$Table", "enter", "(II)I"⟩
theorem e_Table_enter : y_Table_enter.cls ≠ "java/lang/invoke/MethodHandle" ∧ y_Table_enter.cls ≠ "java/lang/invoke/VarHandle" ∧ (parseMethodDescriptor y_Table_enter.desc).map (fun d => d.parameters.length) = some 2 := by decide +kernel
abbrev b_Tree_topLevel : ByteArray := prog_5_method_2_code
def y_Tree_topLevel : MethodName := ⟨"FirmStore$Tree", "topLevel", "()I"⟩
theorem e_Tree_topLevel : y_Tree_topLevel.cls ≠ "java/lang/invoke/MethodHandle" ∧ y_Tree_topLevel.cls ≠ "java/lang/invoke/VarHandle" ∧ (parseMethodDescriptor y_Tree_topLevel.desc).map (fun d => d.parameters.length) = some 0 := by decide +kernel
abbrev b_Tree_keyAt : ByteArray := prog_5_method_15_code
def y_Tree_keyAt : MethodName := ⟨"FirmStore$Tree", "keyAt", "(II)I"⟩
theorem e_Tree_keyAt : y_Tree_keyAt.cls ≠ "java/lang/invoke/MethodHandle" ∧ y_Tree_keyAt.cls ≠ "java/lang/invoke/VarHandle" ∧ (parseMethodDescriptor y_Tree_keyAt.desc).map (fun d => d.parameters.length) = some 2 := by decide +kernel
abbrev b_Tree_endOf : ByteArray := prog_5_method_16_code
def y_Tree_endOf : MethodName := ⟨"FirmStore$Tree", "endOf", "(I)I"⟩
theorem e_Tree_endOf : y_Tree_endOf.cls ≠ "java/lang/invoke/MethodHandle" ∧ y_Tree_endOf.cls ≠ "java/lang/invoke/VarHandle" ∧ (parseMethodDescriptor y_Tree_endOf.desc).map (fun d => d.parameters.length) = some 1 := by decide +kernel
abbrev b_Tree_firstOf : ByteArray := prog_5_method_13_code
def y_Tree_firstOf : MethodName := ⟨"FirmStore$Tree", "firstOf", "(I)I"⟩
theorem e_Tree_firstOf : y_Tree_firstOf.cls ≠ "java/lang/invoke/MethodHandle" ∧ y_Tree_firstOf.cls ≠ "java/lang/invoke/VarHandle" ∧ (parseMethodDescriptor y_Tree_firstOf.desc).map (fun d => d.parameters.length) = some 1 := by decide +kernel
abbrev b_Tree_countLesser : ByteArray := prog_5_method_14_code
def y_Tree_countLesser : MethodName := ⟨"FirmStore$Tree", "countLesser", "(II)I"⟩
theorem e_Tree_countLesser : y_Tree_countLesser.cls ≠ "java/lang/invoke/MethodHandle" ∧ y_Tree_countLesser.cls ≠ "java/lang/invoke/VarHandle" ∧ (parseMethodDescriptor y_Tree_countLesser.desc).map (fun d => d.parameters.length) = some 2 := by decide +kernel
abbrev b_Tree_childFor : ByteArray := prog_5_method_12_code
def y_Tree_childFor : MethodName := ⟨"FirmStore$Tree", "childFor", "(II)I"⟩
theorem e_Tree_childFor : y_Tree_childFor.cls ≠ "java/lang/invoke/MethodHandle" ∧ y_Tree_childFor.cls ≠ "java/lang/invoke/VarHandle" ∧ (parseMethodDescriptor y_Tree_childFor.desc).map (fun d => d.parameters.length) = some 2 := by decide +kernel
abbrev b_Tree_find : ByteArray := prog_5_method_11_code
def y_Tree_find : MethodName := ⟨"FirmStore$Tree", "find", "(II)I"⟩
theorem e_Tree_find : y_Tree_find.cls ≠ "java/lang/invoke/MethodHandle" ∧ y_Tree_find.cls ≠ "java/lang/invoke/VarHandle" ∧ (parseMethodDescriptor y_Tree_find.desc).map (fun d => d.parameters.length) = some 2 := by decide +kernel
abbrev b_Tree_seek : ByteArray := prog_5_method_3_code
def y_Tree_seek : MethodName := ⟨"FirmStore$Tree", "seek", "(I)I"⟩
theorem e_Tree_seek : y_Tree_seek.cls ≠ "java/lang/invoke/MethodHandle" ∧ y_Tree_seek.cls ≠ "java/lang/invoke/VarHandle" ∧ (parseMethodDescriptor y_Tree_seek.desc).map (fun d => d.parameters.length) = some 1 := by decide +kernel
abbrev b_Tree_leastKeyFrom : ByteArray := prog_5_method_4_code
def y_Tree_leastKeyFrom : MethodName := ⟨"FirmStore$Tree", "leastKeyFrom", "(I)I"⟩
theorem e_Tree_leastKeyFrom : y_Tree_leastKeyFrom.cls ≠ "java/lang/invoke/MethodHandle" ∧ y_Tree_leastKeyFrom.cls ≠ "java/lang/invoke/VarHandle" ∧ (parseMethodDescriptor y_Tree_leastKeyFrom.desc).map (fun d => d.parameters.length) = some 1 := by decide +kernel
abbrev b_Tree_countKeys : ByteArray := prog_5_method_5_code
def y_Tree_countKeys : MethodName := ⟨"FirmStore$Tree", "countKeys", "()I"⟩
theorem e_Tree_countKeys : y_Tree_countKeys.cls ≠ "java/lang/invoke/MethodHandle" ∧ y_Tree_countKeys.cls ≠ "java/lang/invoke/VarHandle" ∧ (parseMethodDescriptor y_Tree_countKeys.desc).map (fun d => d.parameters.length) = some 0 := by decide +kernel
abbrev b_Tree_dropPlace : ByteArray := prog_5_method_23_code
def y_Tree_dropPlace : MethodName := ⟨"FirmStore$Tree", "dropPlace", "(II)Z"⟩
theorem e_Tree_dropPlace : y_Tree_dropPlace.cls ≠ "java/lang/invoke/MethodHandle" ∧ y_Tree_dropPlace.cls ≠ "java/lang/invoke/VarHandle" ∧ (parseMethodDescriptor y_Tree_dropPlace.desc).map (fun d => d.parameters.length) = some 2 := by decide +kernel
abbrev b_Tree_dropAt : ByteArray := prog_5_method_7_code
def y_Tree_dropAt : MethodName := ⟨"FirmStore$Tree", "dropAt", "(I)Z"⟩
theorem e_Tree_dropAt : y_Tree_dropAt.cls ≠ "java/lang/invoke/MethodHandle" ∧ y_Tree_dropAt.cls ≠ "java/lang/invoke/VarHandle" ∧ (parseMethodDescriptor y_Tree_dropAt.desc).map (fun d => d.parameters.length) = some 1 := by decide +kernel
abbrev b_Tree_insert : ByteArray := prog_5_method_22_code
def y_Tree_insert : MethodName := ⟨"FirmStore$Tree", "insert", "(IJ)Z"⟩
theorem e_Tree_insert : y_Tree_insert.cls ≠ "java/lang/invoke/MethodHandle" ∧ y_Tree_insert.cls ≠ "java/lang/invoke/VarHandle" ∧ (parseMethodDescriptor y_Tree_insert.desc).map (fun d => d.parameters.length) = some 2 := by decide +kernel
abbrev b_Tree_raise : ByteArray := prog_5_method_21_code
def y_Tree_raise : MethodName := ⟨"FirmStore$Tree", "raise", "(II)Z"⟩
theorem e_Tree_raise : y_Tree_raise.cls ≠ "java/lang/invoke/MethodHandle" ∧ y_Tree_raise.cls ≠ "java/lang/invoke/VarHandle" ∧ (parseMethodDescriptor y_Tree_raise.desc).map (fun d => d.parameters.length) = some 2 := by decide +kernel
abbrev b_Tree_split : ByteArray := prog_5_method_19_code
def y_Tree_split : MethodName := ⟨"FirmStore$Tree", "split", "(I)I"⟩
theorem e_Tree_split : y_Tree_split.cls ≠ "java/lang/invoke/MethodHandle" ∧ y_Tree_split.cls ≠ "java/lang/invoke/VarHandle" ∧ (parseMethodDescriptor y_Tree_split.desc).map (fun d => d.parameters.length) = some 1 := by decide +kernel
abbrev b_Tree_hang : ByteArray := prog_5_method_20_code
def y_Tree_hang : MethodName := ⟨"FirmStore$Tree", "hang", "(II)Z"⟩
theorem e_Tree_hang : y_Tree_hang.cls ≠ "java/lang/invoke/MethodHandle" ∧ y_Tree_hang.cls ≠ "java/lang/invoke/VarHandle" ∧ (parseMethodDescriptor y_Tree_hang.desc).map (fun d => d.parameters.length) = some 2 := by decide +kernel
abbrev b_Tree_isHung : ByteArray := prog_5_method_17_code
def y_Tree_isHung : MethodName := ⟨"FirmStore$Tree", "isHung", "(II)Z"⟩
theorem e_Tree_isHung : y_Tree_isHung.cls ≠ "java/lang/invoke/MethodHandle" ∧ y_Tree_isHung.cls ≠ "java/lang/invoke/VarHandle" ∧ (parseMethodDescriptor y_Tree_isHung.desc).map (fun d => d.parameters.length) = some 2 := by decide +kernel
abbrev b_Tree_blocksToSplit : ByteArray := prog_5_method_18_code
def y_Tree_blocksToSplit : MethodName := ⟨"FirmStore$Tree", "blocksToSplit", "(I)I"⟩
theorem e_Tree_blocksToSplit : y_Tree_blocksToSplit.cls ≠ "java/lang/invoke/MethodHandle" ∧ y_Tree_blocksToSplit.cls ≠ "java/lang/invoke/VarHandle" ∧ (parseMethodDescriptor y_Tree_blocksToSplit.desc).map (fun d => d.parameters.length) = some 1 := by decide +kernel
abbrev b_Tree_plant : ByteArray := prog_5_method_10_code
def y_Tree_plant : MethodName := ⟨"FirmStore$Tree", "plant", "(J)I"⟩
theorem e_Tree_plant : y_Tree_plant.cls ≠ "java/lang/invoke/MethodHandle" ∧ y_Tree_plant.cls ≠ "java/lang/invoke/VarHandle" ∧ (parseMethodDescriptor y_Tree_plant.desc).map (fun d => d.parameters.length) = some 1 := by decide +kernel
abbrev b_Tree_enter : ByteArray := prog_5_method_6_code
def y_Tree_enter : MethodName := ⟨"FirmStore$Tree", "enter", "(II)I"⟩
theorem e_Tree_enter : y_Tree_enter.cls ≠ "java/lang/invoke/MethodHandle" ∧ y_Tree_enter.cls ≠ "java/lang/invoke/VarHandle" ∧ (parseMethodDescriptor y_Tree_enter.desc).map (fun d => d.parameters.length) = some 2 := by decide +kernel
abbrev b_Tree_secondTwin : ByteArray := prog_5_method_27_code
def y_Tree_secondTwin : MethodName := ⟨"FirmStore$Tree", "secondTwin", "(I)I"⟩
theorem e_Tree_secondTwin : y_Tree_secondTwin.cls ≠ "java/lang/invoke/MethodHandle" ∧ y_Tree_secondTwin.cls ≠ "java/lang/invoke/VarHandle" ∧ (parseMethodDescriptor y_Tree_secondTwin.desc).map (fun d => d.parameters.length) = some 1 := by decide +kernel
abbrev b_Tree_dropTwins : ByteArray := prog_5_method_26_code
def y_Tree_dropTwins : MethodName := ⟨"FirmStore$Tree", "dropTwins", "(I)Z"⟩
theorem e_Tree_dropTwins : y_Tree_dropTwins.cls ≠ "java/lang/invoke/MethodHandle" ∧ y_Tree_dropTwins.cls ≠ "java/lang/invoke/VarHandle" ∧ (parseMethodDescriptor y_Tree_dropTwins.desc).map (fun d => d.parameters.length) = some 1 := by decide +kernel
abbrev b_Tree_isWrong : ByteArray := prog_5_method_25_code
def y_Tree_isWrong : MethodName := ⟨"FirmStore$Tree", "isWrong", "(II)Z"⟩
theorem e_Tree_isWrong : y_Tree_isWrong.cls ≠ "java/lang/invoke/MethodHandle" ∧ y_Tree_isWrong.cls ≠ "java/lang/invoke/VarHandle" ∧ (parseMethodDescriptor y_Tree_isWrong.desc).map (fun d => d.parameters.length) = some 2 := by decide +kernel
abbrev b_Tree_clearWrong : ByteArray := prog_5_method_24_code
def y_Tree_clearWrong : MethodName := ⟨"FirmStore$Tree", "clearWrong", "(I)Z"⟩
theorem e_Tree_clearWrong : y_Tree_clearWrong.cls ≠ "java/lang/invoke/MethodHandle" ∧ y_Tree_clearWrong.cls ≠ "java/lang/invoke/VarHandle" ∧ (parseMethodDescriptor y_Tree_clearWrong.desc).map (fun d => d.parameters.length) = some 1 := by decide +kernel
abbrev b_Tree_putRight : ByteArray := prog_5_method_8_code
def y_Tree_putRight : MethodName := ⟨"FirmStore$Tree", "putRight", "()Z"⟩
theorem e_Tree_putRight : y_Tree_putRight.cls ≠ "java/lang/invoke/MethodHandle" ∧ y_Tree_putRight.cls ≠ "java/lang/invoke/VarHandle" ∧ (parseMethodDescriptor y_Tree_putRight.desc).map (fun d => d.parameters.length) = some 0 := by decide +kernel
abbrev b_Tree_hangStrays : ByteArray := prog_5_method_9_code
def y_Tree_hangStrays : MethodName := ⟨"FirmStore$Tree", "hangStrays", "()Z"⟩
theorem e_Tree_hangStrays : y_Tree_hangStrays.cls ≠ "java/lang/invoke/MethodHandle" ∧ y_Tree_hangStrays.cls ≠ "java/lang/invoke/VarHandle" ∧ (parseMethodDescriptor y_Tree_hangStrays.desc).map (fun d => d.parameters.length) = some 0 := by decide +kernel
abbrev b_Firm_addressOf : ByteArray := prog_1_method_14_code
def y_Firm_addressOf : MethodName := ⟨"FirmStore", "addressOf", "(II)I"⟩
theorem e_Firm_addressOf : y_Firm_addressOf.cls ≠ "java/lang/invoke/MethodHandle" ∧ y_Firm_addressOf.cls ≠ "java/lang/invoke/VarHandle" ∧ (parseMethodDescriptor y_Firm_addressOf.desc).map (fun d => d.parameters.length) = some 2 := by decide +kernel
abbrev b_Firm_order : ByteArray := prog_1_method_6_code
def y_Firm_order : MethodName := ⟨"FirmStore", "order", "(II)Z"⟩
theorem e_Firm_order : y_Firm_order.cls ≠ "java/lang/invoke/MethodHandle" ∧ y_Firm_order.cls ≠ "java/lang/invoke/VarHandle" ∧ (parseMethodDescriptor y_Firm_order.desc).map (fun d => d.parameters.length) = some 2 := by decide +kernel
abbrev b_Firm_size : ByteArray := prog_1_method_8_code
def y_Firm_size : MethodName := ⟨"FirmStore", "size", "(I)I"⟩
theorem e_Firm_size : y_Firm_size.cls ≠ "java/lang/invoke/MethodHandle" ∧ y_Firm_size.cls ≠ "java/lang/invoke/VarHandle" ∧ (parseMethodDescriptor y_Firm_size.desc).map (fun d => d.parameters.length) = some 1 := by decide +kernel
abbrev b_Firm_free : ByteArray := prog_1_method_9_code
def y_Firm_free : MethodName := ⟨"FirmStore", "free", "()I"⟩
theorem e_Firm_free : y_Firm_free.cls ≠ "java/lang/invoke/MethodHandle" ∧ y_Firm_free.cls ≠ "java/lang/invoke/VarHandle" ∧ (parseMethodDescriptor y_Firm_free.desc).map (fun d => d.parameters.length) = some 0 := by decide +kernel
abbrev b_Firm_height : ByteArray := prog_1_method_10_code
def y_Firm_height : MethodName := ⟨"FirmStore", "height", "()I"⟩
theorem e_Firm_height : y_Firm_height.cls ≠ "java/lang/invoke/MethodHandle" ∧ y_Firm_height.cls ≠ "java/lang/invoke/VarHandle" ∧ (parseMethodDescriptor y_Firm_height.desc).map (fun d => d.parameters.length) = some 0 := by decide +kernel
abbrev b_Firm_word : ByteArray := prog_1_method_11_code
def y_Firm_word : MethodName := ⟨"FirmStore", "word", "(I)J"⟩
theorem e_Firm_word : y_Firm_word.cls ≠ "java/lang/invoke/MethodHandle" ∧ y_Firm_word.cls ≠ "java/lang/invoke/VarHandle" ∧ (parseMethodDescriptor y_Firm_word.desc).map (fun d => d.parameters.length) = some 1 := by decide +kernel
abbrev b_Firm_stores : ByteArray := prog_1_method_12_code
def y_Firm_stores : MethodName := ⟨"FirmStore", "stores", "()I"⟩
theorem e_Firm_stores : y_Firm_stores.cls ≠ "java/lang/invoke/MethodHandle" ∧ y_Firm_stores.cls ≠ "java/lang/invoke/VarHandle" ∧ (parseMethodDescriptor y_Firm_stores.desc).map (fun d => d.parameters.length) = some 0 := by decide +kernel
abbrev b_Firm_down : ByteArray := prog_1_method_13_code
def y_Firm_down : MethodName := ⟨"FirmStore", "down", "()Z"⟩
theorem e_Firm_down : y_Firm_down.cls ≠ "java/lang/invoke/MethodHandle" ∧ y_Firm_down.cls ≠ "java/lang/invoke/VarHandle" ∧ (parseMethodDescriptor y_Firm_down.desc).map (fun d => d.parameters.length) = some 0 := by decide +kernel
abbrev b_Ref_thrown : ByteArray := prog_7_method_2_code
def y_Ref_thrown : MethodName := ⟨"FirmStoreModel", "thrown", "()I"⟩
theorem e_Ref_thrown : y_Ref_thrown.cls ≠ "java/lang/invoke/MethodHandle" ∧ y_Ref_thrown.cls ≠ "java/lang/invoke/VarHandle" ∧ (parseMethodDescriptor y_Ref_thrown.desc).map (fun d => d.parameters.length) = some 0 := by decide +kernel
abbrev b_Ref_cutNow : ByteArray := prog_7_method_3_code
def y_Ref_cutNow : MethodName := ⟨"FirmStoreModel", "cutNow", "()V"⟩
theorem e_Ref_cutNow : y_Ref_cutNow.cls ≠ "java/lang/invoke/MethodHandle" ∧ y_Ref_cutNow.cls ≠ "java/lang/invoke/VarHandle" ∧ (parseMethodDescriptor y_Ref_cutNow.desc).map (fun d => d.parameters.length) = some 0 := by decide +kernel
abbrev b_Ref_store : ByteArray := prog_7_method_4_code
def y_Ref_store : MethodName := ⟨"FirmStoreModel", "store", "(IJ)V"⟩
theorem e_Ref_store : y_Ref_store.cls ≠ "java/lang/invoke/MethodHandle" ∧ y_Ref_store.cls ≠ "java/lang/invoke/VarHandle" ∧ (parseMethodDescriptor y_Ref_store.desc).map (fun d => d.parameters.length) = some 2 := by decide +kernel
abbrev b_Ref_fence : ByteArray := prog_7_method_5_code
def y_Ref_fence : MethodName := ⟨"FirmStoreModel", "fence", "()V"⟩
theorem e_Ref_fence : y_Ref_fence.cls ≠ "java/lang/invoke/MethodHandle" ∧ y_Ref_fence.cls ≠ "java/lang/invoke/VarHandle" ∧ (parseMethodDescriptor y_Ref_fence.desc).map (fun d => d.parameters.length) = some 0 := by decide +kernel
abbrev b_Ref_firm : ByteArray := prog_7_method_6_code
def y_Ref_firm : MethodName := ⟨"FirmStoreModel", "firm", "(IJ)V"⟩
theorem e_Ref_firm : y_Ref_firm.cls ≠ "java/lang/invoke/MethodHandle" ∧ y_Ref_firm.cls ≠ "java/lang/invoke/VarHandle" ∧ (parseMethodDescriptor y_Ref_firm.desc).map (fun d => d.parameters.length) = some 2 := by decide +kernel
abbrev b_Ref_entry : ByteArray := prog_7_method_7_code
def y_Ref_entry : MethodName := ⟨"FirmStoreModel", "entry", "(II)J"⟩
theorem e_Ref_entry : y_Ref_entry.cls ≠ "java/lang/invoke/MethodHandle" ∧ y_Ref_entry.cls ≠ "java/lang/invoke/VarHandle" ∧ (parseMethodDescriptor y_Ref_entry.desc).map (fun d => d.parameters.length) = some 2 := by decide +kernel
abbrev b_Ref_keyOf : ByteArray := prog_7_method_8_code
def y_Ref_keyOf : MethodName := ⟨"FirmStoreModel", "keyOf", "(J)I"⟩
theorem e_Ref_keyOf : y_Ref_keyOf.cls ≠ "java/lang/invoke/MethodHandle" ∧ y_Ref_keyOf.cls ≠ "java/lang/invoke/VarHandle" ∧ (parseMethodDescriptor y_Ref_keyOf.desc).map (fun d => d.parameters.length) = some 1 := by decide +kernel
abbrev b_Ref_root : ByteArray := prog_7_method_9_code
def y_Ref_root : MethodName := ⟨"FirmStoreModel", "root", "()I"⟩
theorem e_Ref_root : y_Ref_root.cls ≠ "java/lang/invoke/MethodHandle" ∧ y_Ref_root.cls ≠ "java/lang/invoke/VarHandle" ∧ (parseMethodDescriptor y_Ref_root.desc).map (fun d => d.parameters.length) = some 0 := by decide +kernel
abbrev b_Ref_level : ByteArray := prog_7_method_10_code
def y_Ref_level : MethodName := ⟨"FirmStoreModel", "level", "(I)I"⟩
theorem e_Ref_level : y_Ref_level.cls ≠ "java/lang/invoke/MethodHandle" ∧ y_Ref_level.cls ≠ "java/lang/invoke/VarHandle" ∧ (parseMethodDescriptor y_Ref_level.desc).map (fun d => d.parameters.length) = some 1 := by decide +kernel
abbrev b_Ref_next : ByteArray := prog_7_method_11_code
def y_Ref_next : MethodName := ⟨"FirmStoreModel", "next", "(I)I"⟩
theorem e_Ref_next : y_Ref_next.cls ≠ "java/lang/invoke/MethodHandle" ∧ y_Ref_next.cls ≠ "java/lang/invoke/VarHandle" ∧ (parseMethodDescriptor y_Ref_next.desc).map (fun d => d.parameters.length) = some 1 := by decide +kernel
abbrev b_Ref_low : ByteArray := prog_7_method_12_code
def y_Ref_low : MethodName := ⟨"FirmStoreModel", "low", "(I)I"⟩
theorem e_Ref_low : y_Ref_low.cls ≠ "java/lang/invoke/MethodHandle" ∧ y_Ref_low.cls ≠ "java/lang/invoke/VarHandle" ∧ (parseMethodDescriptor y_Ref_low.desc).map (fun d => d.parameters.length) = some 1 := by decide +kernel
abbrev b_Ref_at : ByteArray := prog_7_method_13_code
def y_Ref_at : MethodName := ⟨"FirmStoreModel", "at", "(II)J"⟩
theorem e_Ref_at : y_Ref_at.cls ≠ "java/lang/invoke/MethodHandle" ∧ y_Ref_at.cls ≠ "java/lang/invoke/VarHandle" ∧ (parseMethodDescriptor y_Ref_at.desc).map (fun d => d.parameters.length) = some 2 := by decide +kernel
abbrev b_Ref_keyAt : ByteArray := prog_7_method_14_code
def y_Ref_keyAt : MethodName := ⟨"FirmStoreModel", "keyAt", "(II)I"⟩
theorem e_Ref_keyAt : y_Ref_keyAt.cls ≠ "java/lang/invoke/MethodHandle" ∧ y_Ref_keyAt.cls ≠ "java/lang/invoke/VarHandle" ∧ (parseMethodDescriptor y_Ref_keyAt.desc).map (fun d => d.parameters.length) = some 2 := by decide +kernel
abbrev b_Ref_blockAt : ByteArray := prog_7_method_15_code
def y_Ref_blockAt : MethodName := ⟨"FirmStoreModel", "blockAt", "(II)I"⟩
theorem e_Ref_blockAt : y_Ref_blockAt.cls ≠ "java/lang/invoke/MethodHandle" ∧ y_Ref_blockAt.cls ≠ "java/lang/invoke/VarHandle" ∧ (parseMethodDescriptor y_Ref_blockAt.desc).map (fun d => d.parameters.length) = some 2 := by decide +kernel
abbrev b_Ref_length : ByteArray := prog_7_method_16_code
def y_Ref_length : MethodName := ⟨"FirmStoreModel", "length", "(I)I"⟩
theorem e_Ref_length : y_Ref_length.cls ≠ "java/lang/invoke/MethodHandle" ∧ y_Ref_length.cls ≠ "java/lang/invoke/VarHandle" ∧ (parseMethodDescriptor y_Ref_length.desc).map (fun d => d.parameters.length) = some 1 := by decide +kernel
abbrev b_Ref_reach : ByteArray := prog_7_method_17_code
def y_Ref_reach : MethodName := ⟨"FirmStoreModel", "reach", "(I)Z"⟩
theorem e_Ref_reach : y_Ref_reach.cls ≠ "java/lang/invoke/MethodHandle" ∧ y_Ref_reach.cls ≠ "java/lang/invoke/VarHandle" ∧ (parseMethodDescriptor y_Ref_reach.desc).map (fun d => d.parameters.length) = some 1 := by decide +kernel
abbrev b_Ref_mark : ByteArray := prog_7_method_18_code
def y_Ref_mark : MethodName := ⟨"FirmStoreModel", "mark", "()V"⟩
theorem e_Ref_mark : y_Ref_mark.cls ≠ "java/lang/invoke/MethodHandle" ∧ y_Ref_mark.cls ≠ "java/lang/invoke/VarHandle" ∧ (parseMethodDescriptor y_Ref_mark.desc).map (fun d => d.parameters.length) = some 0 := by decide +kernel
abbrev b_Ref_countFree : ByteArray := prog_7_method_19_code
def y_Ref_countFree : MethodName := ⟨"FirmStoreModel", "countFree", "()I"⟩
theorem e_Ref_countFree : y_Ref_countFree.cls ≠ "java/lang/invoke/MethodHandle" ∧ y_Ref_countFree.cls ≠ "java/lang/invoke/VarHandle" ∧ (parseMethodDescriptor y_Ref_countFree.desc).map (fun d => d.parameters.length) = some 0 := by decide +kernel
abbrev b_Ref_make : ByteArray := prog_7_method_20_code
def y_Ref_make : MethodName := ⟨"FirmStoreModel", "make", "(IIIJJJ)I"⟩
theorem e_Ref_make : y_Ref_make.cls ≠ "java/lang/invoke/MethodHandle" ∧ y_Ref_make.cls ≠ "java/lang/invoke/VarHandle" ∧ (parseMethodDescriptor y_Ref_make.desc).map (fun d => d.parameters.length) = some 6 := by decide +kernel
abbrev b_Ref_below : ByteArray := prog_7_method_22_code
def y_Ref_below : MethodName := ⟨"FirmStoreModel", "below", "(II)I"⟩
theorem e_Ref_below : y_Ref_below.cls ≠ "java/lang/invoke/MethodHandle" ∧ y_Ref_below.cls ≠ "java/lang/invoke/VarHandle" ∧ (parseMethodDescriptor y_Ref_below.desc).map (fun d => d.parameters.length) = some 2 := by decide +kernel
abbrev b_Ref_find : ByteArray := prog_7_method_21_code
def y_Ref_find : MethodName := ⟨"FirmStoreModel", "find", "(II)I"⟩
theorem e_Ref_find : y_Ref_find.cls ≠ "java/lang/invoke/MethodHandle" ∧ y_Ref_find.cls ≠ "java/lang/invoke/VarHandle" ∧ (parseMethodDescriptor y_Ref_find.desc).map (fun d => d.parameters.length) = some 2 := by decide +kernel
abbrev b_Ref_placeIn : ByteArray := prog_7_method_23_code
def y_Ref_placeIn : MethodName := ⟨"FirmStoreModel", "placeIn", "(II)I"⟩
theorem e_Ref_placeIn : y_Ref_placeIn.cls ≠ "java/lang/invoke/MethodHandle" ∧ y_Ref_placeIn.cls ≠ "java/lang/invoke/VarHandle" ∧ (parseMethodDescriptor y_Ref_placeIn.desc).map (fun d => d.parameters.length) = some 2 := by decide +kernel
abbrev b_Ref_insert : ByteArray := prog_7_method_24_code
def y_Ref_insert : MethodName := ⟨"FirmStoreModel", "insert", "(IJ)V"⟩
theorem e_Ref_insert : y_Ref_insert.cls ≠ "java/lang/invoke/MethodHandle" ∧ y_Ref_insert.cls ≠ "java/lang/invoke/VarHandle" ∧ (parseMethodDescriptor y_Ref_insert.desc).map (fun d => d.parameters.length) = some 2 := by decide +kernel
abbrev b_Ref_drop : ByteArray := prog_7_method_25_code
def y_Ref_drop : MethodName := ⟨"FirmStoreModel", "drop", "(II)V"⟩
theorem e_Ref_drop : y_Ref_drop.cls ≠ "java/lang/invoke/MethodHandle" ∧ y_Ref_drop.cls ≠ "java/lang/invoke/VarHandle" ∧ (parseMethodDescriptor y_Ref_drop.desc).map (fun d => d.parameters.length) = some 2 := by decide +kernel
abbrev b_Ref_split : ByteArray := prog_7_method_26_code
def y_Ref_split : MethodName := ⟨"FirmStoreModel", "split", "(I)I"⟩
theorem e_Ref_split : y_Ref_split.cls ≠ "java/lang/invoke/MethodHandle" ∧ y_Ref_split.cls ≠ "java/lang/invoke/VarHandle" ∧ (parseMethodDescriptor y_Ref_split.desc).map (fun d => d.parameters.length) = some 1 := by decide +kernel
abbrev b_Ref_entryOf : ByteArray := prog_7_method_27_code
def y_Ref_entryOf : MethodName := ⟨"FirmStoreModel", "entryOf", "(I)J"⟩
theorem e_Ref_entryOf : y_Ref_entryOf.cls ≠ "java/lang/invoke/MethodHandle" ∧ y_Ref_entryOf.cls ≠ "java/lang/invoke/VarHandle" ∧ (parseMethodDescriptor y_Ref_entryOf.desc).map (fun d => d.parameters.length) = some 1 := by decide +kernel
abbrev b_Ref_hang : ByteArray := prog_7_method_28_code
def y_Ref_hang : MethodName := ⟨"FirmStoreModel", "hang", "(II)V"⟩
theorem e_Ref_hang : y_Ref_hang.cls ≠ "java/lang/invoke/MethodHandle" ∧ y_Ref_hang.cls ≠ "java/lang/invoke/VarHandle" ∧ (parseMethodDescriptor y_Ref_hang.desc).map (fun d => d.parameters.length) = some 2 := by decide +kernel
abbrev b_Ref_needed : ByteArray := prog_7_method_29_code
def y_Ref_needed : MethodName := ⟨"FirmStoreModel", "needed", "(I)I"⟩
theorem e_Ref_needed : y_Ref_needed.cls ≠ "java/lang/invoke/MethodHandle" ∧ y_Ref_needed.cls ≠ "java/lang/invoke/VarHandle" ∧ (parseMethodDescriptor y_Ref_needed.desc).map (fun d => d.parameters.length) = some 1 := by decide +kernel
abbrev b_Ref_putTree : ByteArray := prog_7_method_30_code
def y_Ref_putTree : MethodName := ⟨"FirmStoreModel", "putTree", "(II)I"⟩
theorem e_Ref_putTree : y_Ref_putTree.cls ≠ "java/lang/invoke/MethodHandle" ∧ y_Ref_putTree.cls ≠ "java/lang/invoke/VarHandle" ∧ (parseMethodDescriptor y_Ref_putTree.desc).map (fun d => d.parameters.length) = some 2 := by decide +kernel
abbrev b_Ref_placeOf : ByteArray := prog_7_method_31_code
def y_Ref_placeOf : MethodName := ⟨"FirmStoreModel", "placeOf", "(I)I"⟩
theorem e_Ref_placeOf : y_Ref_placeOf.cls ≠ "java/lang/invoke/MethodHandle" ∧ y_Ref_placeOf.cls ≠ "java/lang/invoke/VarHandle" ∧ (parseMethodDescriptor y_Ref_placeOf.desc).map (fun d => d.parameters.length) = some 1 := by decide +kernel
abbrev b_Ref_gapOf : ByteArray := prog_7_method_32_code
def y_Ref_gapOf : MethodName := ⟨"FirmStoreModel", "gapOf", "(I)I"⟩
theorem e_Ref_gapOf : y_Ref_gapOf.cls ≠ "java/lang/invoke/MethodHandle" ∧ y_Ref_gapOf.cls ≠ "java/lang/invoke/VarHandle" ∧ (parseMethodDescriptor y_Ref_gapOf.desc).map (fun d => d.parameters.length) = some 1 := by decide +kernel
abbrev b_Ref_putTable : ByteArray := prog_7_method_33_code
def y_Ref_putTable : MethodName := ⟨"FirmStoreModel", "putTable", "(II)I"⟩
theorem e_Ref_putTable : y_Ref_putTable.cls ≠ "java/lang/invoke/MethodHandle" ∧ y_Ref_putTable.cls ≠ "java/lang/invoke/VarHandle" ∧ (parseMethodDescriptor y_Ref_putTable.desc).map (fun d => d.parameters.length) = some 2 := by decide +kernel
abbrev b_Ref_isGood : ByteArray := prog_7_method_34_code
def y_Ref_isGood : MethodName := ⟨"FirmStoreModel", "isGood", "(II)Z"⟩
theorem e_Ref_isGood : y_Ref_isGood.cls ≠ "java/lang/invoke/MethodHandle" ∧ y_Ref_isGood.cls ≠ "java/lang/invoke/VarHandle" ∧ (parseMethodDescriptor y_Ref_isGood.desc).map (fun d => d.parameters.length) = some 2 := by decide +kernel
abbrev b_Ref_put : ByteArray := prog_7_method_35_code
def y_Ref_put : MethodName := ⟨"FirmStoreModel", "put", "(III)I"⟩
theorem e_Ref_put : y_Ref_put.cls ≠ "java/lang/invoke/MethodHandle" ∧ y_Ref_put.cls ≠ "java/lang/invoke/VarHandle" ∧ (parseMethodDescriptor y_Ref_put.desc).map (fun d => d.parameters.length) = some 3 := by decide +kernel
abbrev b_Ref_read : ByteArray := prog_7_method_36_code
def y_Ref_read : MethodName := ⟨"FirmStoreModel", "read", "(II)I"⟩
theorem e_Ref_read : y_Ref_read.cls ≠ "java/lang/invoke/MethodHandle" ∧ y_Ref_read.cls ≠ "java/lang/invoke/VarHandle" ∧ (parseMethodDescriptor y_Ref_read.desc).map (fun d => d.parameters.length) = some 2 := by decide +kernel
abbrev b_Ref_remove : ByteArray := prog_7_method_37_code
def y_Ref_remove : MethodName := ⟨"FirmStoreModel", "remove", "(II)I"⟩
theorem e_Ref_remove : y_Ref_remove.cls ≠ "java/lang/invoke/MethodHandle" ∧ y_Ref_remove.cls ≠ "java/lang/invoke/VarHandle" ∧ (parseMethodDescriptor y_Ref_remove.desc).map (fun d => d.parameters.length) = some 2 := by decide +kernel
abbrev b_Ref_get : ByteArray := prog_7_method_38_code
def y_Ref_get : MethodName := ⟨"FirmStoreModel", "get", "(II)I"⟩
theorem e_Ref_get : y_Ref_get.cls ≠ "java/lang/invoke/MethodHandle" ∧ y_Ref_get.cls ≠ "java/lang/invoke/VarHandle" ∧ (parseMethodDescriptor y_Ref_get.desc).map (fun d => d.parameters.length) = some 2 := by decide +kernel
abbrev b_Ref_isRead : ByteArray := prog_7_method_39_code
def y_Ref_isRead : MethodName := ⟨"FirmStoreModel", "isRead", "(II)Z"⟩
theorem e_Ref_isRead : y_Ref_isRead.cls ≠ "java/lang/invoke/MethodHandle" ∧ y_Ref_isRead.cls ≠ "java/lang/invoke/VarHandle" ∧ (parseMethodDescriptor y_Ref_isRead.desc).map (fun d => d.parameters.length) = some 2 := by decide +kernel
abbrev b_Ref_from : ByteArray := prog_7_method_40_code
def y_Ref_from : MethodName := ⟨"FirmStoreModel", "from", "(I)I"⟩
theorem e_Ref_from : y_Ref_from.cls ≠ "java/lang/invoke/MethodHandle" ∧ y_Ref_from.cls ≠ "java/lang/invoke/VarHandle" ∧ (parseMethodDescriptor y_Ref_from.desc).map (fun d => d.parameters.length) = some 1 := by decide +kernel
abbrev b_Ref_order : ByteArray := prog_7_method_41_code
def y_Ref_order : MethodName := ⟨"FirmStoreModel", "order", "(II)Z"⟩
theorem e_Ref_order : y_Ref_order.cls ≠ "java/lang/invoke/MethodHandle" ∧ y_Ref_order.cls ≠ "java/lang/invoke/VarHandle" ∧ (parseMethodDescriptor y_Ref_order.desc).map (fun d => d.parameters.length) = some 2 := by decide +kernel
abbrev b_Ref_firstAt : ByteArray := prog_7_method_42_code
def y_Ref_firstAt : MethodName := ⟨"FirmStoreModel", "firstAt", "(I)I"⟩
theorem e_Ref_firstAt : y_Ref_firstAt.cls ≠ "java/lang/invoke/MethodHandle" ∧ y_Ref_firstAt.cls ≠ "java/lang/invoke/VarHandle" ∧ (parseMethodDescriptor y_Ref_firstAt.desc).map (fun d => d.parameters.length) = some 1 := by decide +kernel
abbrev b_Ref_putRight : ByteArray := prog_7_method_43_code
def y_Ref_putRight : MethodName := ⟨"FirmStoreModel", "putRight", "(I)V"⟩
theorem e_Ref_putRight : y_Ref_putRight.cls ≠ "java/lang/invoke/MethodHandle" ∧ y_Ref_putRight.cls ≠ "java/lang/invoke/VarHandle" ∧ (parseMethodDescriptor y_Ref_putRight.desc).map (fun d => d.parameters.length) = some 1 := by decide +kernel
abbrev b_Ref_isValue : ByteArray := prog_7_method_44_code
def y_Ref_isValue : MethodName := ⟨"FirmStoreModel", "isValue", "(II)Z"⟩
theorem e_Ref_isValue : y_Ref_isValue.cls ≠ "java/lang/invoke/MethodHandle" ∧ y_Ref_isValue.cls ≠ "java/lang/invoke/VarHandle" ∧ (parseMethodDescriptor y_Ref_isValue.desc).map (fun d => d.parameters.length) = some 2 := by decide +kernel
abbrev b_Ref_repair : ByteArray := prog_7_method_45_code
def y_Ref_repair : MethodName := ⟨"FirmStoreModel", "repair", "()V"⟩
theorem e_Ref_repair : y_Ref_repair.cls ≠ "java/lang/invoke/MethodHandle" ∧ y_Ref_repair.cls ≠ "java/lang/invoke/VarHandle" ∧ (parseMethodDescriptor y_Ref_repair.desc).map (fun d => d.parameters.length) = some 0 := by decide +kernel
abbrev b_Ref_recover : ByteArray := prog_7_method_46_code
def y_Ref_recover : MethodName := ⟨"FirmStoreModel", "recover", "()I"⟩
theorem e_Ref_recover : y_Ref_recover.cls ≠ "java/lang/invoke/MethodHandle" ∧ y_Ref_recover.cls ≠ "java/lang/invoke/VarHandle" ∧ (parseMethodDescriptor y_Ref_recover.desc).map (fun d => d.parameters.length) = some 0 := by decide +kernel
abbrev b_Ref_size : ByteArray := prog_7_method_47_code
def y_Ref_size : MethodName := ⟨"FirmStoreModel", "size", "(I)I"⟩
theorem e_Ref_size : y_Ref_size.cls ≠ "java/lang/invoke/MethodHandle" ∧ y_Ref_size.cls ≠ "java/lang/invoke/VarHandle" ∧ (parseMethodDescriptor y_Ref_size.desc).map (fun d => d.parameters.length) = some 1 := by decide +kernel
abbrev b_Ref_free : ByteArray := prog_7_method_48_code
def y_Ref_free : MethodName := ⟨"FirmStoreModel", "free", "()I"⟩
theorem e_Ref_free : y_Ref_free.cls ≠ "java/lang/invoke/MethodHandle" ∧ y_Ref_free.cls ≠ "java/lang/invoke/VarHandle" ∧ (parseMethodDescriptor y_Ref_free.desc).map (fun d => d.parameters.length) = some 0 := by decide +kernel
abbrev b_Ref_height : ByteArray := prog_7_method_49_code
def y_Ref_height : MethodName := ⟨"FirmStoreModel", "height", "()I"⟩
theorem e_Ref_height : y_Ref_height.cls ≠ "java/lang/invoke/MethodHandle" ∧ y_Ref_height.cls ≠ "java/lang/invoke/VarHandle" ∧ (parseMethodDescriptor y_Ref_height.desc).map (fun d => d.parameters.length) = some 0 := by decide +kernel
abbrev b_Ref_word : ByteArray := prog_7_method_50_code
def y_Ref_word : MethodName := ⟨"FirmStoreModel", "word", "(I)J"⟩
theorem e_Ref_word : y_Ref_word.cls ≠ "java/lang/invoke/MethodHandle" ∧ y_Ref_word.cls ≠ "java/lang/invoke/VarHandle" ∧ (parseMethodDescriptor y_Ref_word.desc).map (fun d => d.parameters.length) = some 1 := by decide +kernel
abbrev b_Ref_stores : ByteArray := prog_7_method_51_code
def y_Ref_stores : MethodName := ⟨"FirmStoreModel", "stores", "()I"⟩
theorem e_Ref_stores : y_Ref_stores.cls ≠ "java/lang/invoke/MethodHandle" ∧ y_Ref_stores.cls ≠ "java/lang/invoke/VarHandle" ∧ (parseMethodDescriptor y_Ref_stores.desc).map (fun d => d.parameters.length) = some 0 := by decide +kernel
abbrev b_Ref_down : ByteArray := prog_7_method_52_code
def y_Ref_down : MethodName := ⟨"FirmStoreModel", "down", "()Z"⟩
theorem e_Ref_down : y_Ref_down.cls ≠ "java/lang/invoke/MethodHandle" ∧ y_Ref_down.cls ≠ "java/lang/invoke/VarHandle" ∧ (parseMethodDescriptor y_Ref_down.desc).map (fun d => d.parameters.length) = some 0 := by decide +kernel
abbrev clz : List vw_C := [("FirmStore", F_Firm, 4), ("FirmStore$Memory", F_Memory, 8), ("FirmStore$Blocks", F_Blocks, 1), ("FirmStore$Tree", F_Tree, 2), ("FirmStore$Table", F_Table, 2), ("FirmStoreModel", F_Ref, 12)]
abbrev tyz (Y : Nat → ClassId) : List (ClassId × FieldType) := [(Y 0, .long), (Y 1, .int), (Y 2, .boolean)]
abbrev SM : Type := (Nat → Int64) × (Nat → Int32) × (Nat → Int64) × Int32 × Int32 × Int32 × Int32 × Int32
def cg_w (u : SM) : Nat → Int64 := u.1
def cg_la (u : SM) : Nat → Int32 := u.2.1
def cg_fw (u : SM) : Nat → Int64 := u.2.2.1
def cg_lc (u : SM) : Int32 := u.2.2.2.1
def cg_sb (u : SM) : Int32 := u.2.2.2.2.1
def cg_cm (u : SM) : Int32 := u.2.2.2.2.2.1
def cg_sc (u : SM) : Int32 := u.2.2.2.2.2.2.1
def cg_dn (u : SM) : Int32 := u.2.2.2.2.2.2.2
def cs_w (u : SM) (v : Nat → Int64) : SM := (v, u.2.1, u.2.2.1, u.2.2.2.1, u.2.2.2.2.1, u.2.2.2.2.2.1, u.2.2.2.2.2.2.1, u.2.2.2.2.2.2.2)
def cs_la (u : SM) (v : Nat → Int32) : SM := (u.1, v, u.2.2.1, u.2.2.2.1, u.2.2.2.2.1, u.2.2.2.2.2.1, u.2.2.2.2.2.2.1, u.2.2.2.2.2.2.2)
def cs_fw (u : SM) (v : Nat → Int64) : SM := (u.1, u.2.1, v, u.2.2.2.1, u.2.2.2.2.1, u.2.2.2.2.2.1, u.2.2.2.2.2.2.1, u.2.2.2.2.2.2.2)
def cs_lc (u : SM) (v : Int32) : SM := (u.1, u.2.1, u.2.2.1, v, u.2.2.2.2.1, u.2.2.2.2.2.1, u.2.2.2.2.2.2.1, u.2.2.2.2.2.2.2)
def cs_sb (u : SM) (v : Int32) : SM := (u.1, u.2.1, u.2.2.1, u.2.2.2.1, v, u.2.2.2.2.2.1, u.2.2.2.2.2.2.1, u.2.2.2.2.2.2.2)
def cs_cm (u : SM) (v : Int32) : SM := (u.1, u.2.1, u.2.2.1, u.2.2.2.1, u.2.2.2.2.1, v, u.2.2.2.2.2.2.1, u.2.2.2.2.2.2.2)
def cs_sc (u : SM) (v : Int32) : SM := (u.1, u.2.1, u.2.2.1, u.2.2.2.1, u.2.2.2.2.1, u.2.2.2.2.2.1, v, u.2.2.2.2.2.2.2)
def cs_dn (u : SM) (v : Int32) : SM := (u.1, u.2.1, u.2.2.1, u.2.2.2.1, u.2.2.2.2.1, u.2.2.2.2.2.1, u.2.2.2.2.2.2.1, v)
abbrev SR : Type := (Nat → Int64) × (Nat → Int32) × (Nat → Int64) × (Nat → Int32) × (Nat → Int32) × Int32 × Int32 × Int32 × Int32 × Int32 × Int32 × Int32
def rg_mem (u : SR) : Nat → Int64 := u.1
def rg_lat (u : SR) : Nat → Int32 := u.2.1
def rg_old (u : SR) : Nat → Int64 := u.2.2.1
def rg_rea (u : SR) : Nat → Int32 := u.2.2.2.1
def rg_ris (u : SR) : Nat → Int32 := u.2.2.2.2.1
def rg_lo (u : SR) : Int32 := u.2.2.2.2.2.1
def rg_ca (u : SR) : Int32 := u.2.2.2.2.2.2.1
def rg_cm (u : SR) : Int32 := u.2.2.2.2.2.2.2.1
def rg_st (u : SR) : Int32 := u.2.2.2.2.2.2.2.2.1
def rg_dn (u : SR) : Int32 := u.2.2.2.2.2.2.2.2.2.1
def rg_br (u : SR) : Int32 := u.2.2.2.2.2.2.2.2.2.2.1
def rg_cd (u : SR) : Int32 := u.2.2.2.2.2.2.2.2.2.2.2
def rs_mem (u : SR) (v : Nat → Int64) : SR := (v, u.2.1, u.2.2.1, u.2.2.2.1, u.2.2.2.2.1, u.2.2.2.2.2.1, u.2.2.2.2.2.2.1, u.2.2.2.2.2.2.2.1, u.2.2.2.2.2.2.2.2.1, u.2.2.2.2.2.2.2.2.2.1, u.2.2.2.2.2.2.2.2.2.2.1, u.2.2.2.2.2.2.2.2.2.2.2)
def rs_lat (u : SR) (v : Nat → Int32) : SR := (u.1, v, u.2.2.1, u.2.2.2.1, u.2.2.2.2.1, u.2.2.2.2.2.1, u.2.2.2.2.2.2.1, u.2.2.2.2.2.2.2.1, u.2.2.2.2.2.2.2.2.1, u.2.2.2.2.2.2.2.2.2.1, u.2.2.2.2.2.2.2.2.2.2.1, u.2.2.2.2.2.2.2.2.2.2.2)
def rs_old (u : SR) (v : Nat → Int64) : SR := (u.1, u.2.1, v, u.2.2.2.1, u.2.2.2.2.1, u.2.2.2.2.2.1, u.2.2.2.2.2.2.1, u.2.2.2.2.2.2.2.1, u.2.2.2.2.2.2.2.2.1, u.2.2.2.2.2.2.2.2.2.1, u.2.2.2.2.2.2.2.2.2.2.1, u.2.2.2.2.2.2.2.2.2.2.2)
def rs_rea (u : SR) (v : Nat → Int32) : SR := (u.1, u.2.1, u.2.2.1, v, u.2.2.2.2.1, u.2.2.2.2.2.1, u.2.2.2.2.2.2.1, u.2.2.2.2.2.2.2.1, u.2.2.2.2.2.2.2.2.1, u.2.2.2.2.2.2.2.2.2.1, u.2.2.2.2.2.2.2.2.2.2.1, u.2.2.2.2.2.2.2.2.2.2.2)
def rs_ris (u : SR) (v : Nat → Int32) : SR := (u.1, u.2.1, u.2.2.1, u.2.2.2.1, v, u.2.2.2.2.2.1, u.2.2.2.2.2.2.1, u.2.2.2.2.2.2.2.1, u.2.2.2.2.2.2.2.2.1, u.2.2.2.2.2.2.2.2.2.1, u.2.2.2.2.2.2.2.2.2.2.1, u.2.2.2.2.2.2.2.2.2.2.2)
def rs_lo (u : SR) (v : Int32) : SR := (u.1, u.2.1, u.2.2.1, u.2.2.2.1, u.2.2.2.2.1, v, u.2.2.2.2.2.2.1, u.2.2.2.2.2.2.2.1, u.2.2.2.2.2.2.2.2.1, u.2.2.2.2.2.2.2.2.2.1, u.2.2.2.2.2.2.2.2.2.2.1, u.2.2.2.2.2.2.2.2.2.2.2)
def rs_ca (u : SR) (v : Int32) : SR := (u.1, u.2.1, u.2.2.1, u.2.2.2.1, u.2.2.2.2.1, u.2.2.2.2.2.1, v, u.2.2.2.2.2.2.2.1, u.2.2.2.2.2.2.2.2.1, u.2.2.2.2.2.2.2.2.2.1, u.2.2.2.2.2.2.2.2.2.2.1, u.2.2.2.2.2.2.2.2.2.2.2)
def rs_cm (u : SR) (v : Int32) : SR := (u.1, u.2.1, u.2.2.1, u.2.2.2.1, u.2.2.2.2.1, u.2.2.2.2.2.1, u.2.2.2.2.2.2.1, v, u.2.2.2.2.2.2.2.2.1, u.2.2.2.2.2.2.2.2.2.1, u.2.2.2.2.2.2.2.2.2.2.1, u.2.2.2.2.2.2.2.2.2.2.2)
def rs_st (u : SR) (v : Int32) : SR := (u.1, u.2.1, u.2.2.1, u.2.2.2.1, u.2.2.2.2.1, u.2.2.2.2.2.1, u.2.2.2.2.2.2.1, u.2.2.2.2.2.2.2.1, v, u.2.2.2.2.2.2.2.2.2.1, u.2.2.2.2.2.2.2.2.2.2.1, u.2.2.2.2.2.2.2.2.2.2.2)
def rs_dn (u : SR) (v : Int32) : SR := (u.1, u.2.1, u.2.2.1, u.2.2.2.1, u.2.2.2.2.1, u.2.2.2.2.2.1, u.2.2.2.2.2.2.1, u.2.2.2.2.2.2.2.1, u.2.2.2.2.2.2.2.2.1, v, u.2.2.2.2.2.2.2.2.2.2.1, u.2.2.2.2.2.2.2.2.2.2.2)
def rs_br (u : SR) (v : Int32) : SR := (u.1, u.2.1, u.2.2.1, u.2.2.2.1, u.2.2.2.2.1, u.2.2.2.2.2.1, u.2.2.2.2.2.2.1, u.2.2.2.2.2.2.2.1, u.2.2.2.2.2.2.2.2.1, u.2.2.2.2.2.2.2.2.2.1, v, u.2.2.2.2.2.2.2.2.2.2.2)
def rs_cd (u : SR) (v : Int32) : SR := (u.1, u.2.1, u.2.2.1, u.2.2.2.1, u.2.2.2.2.1, u.2.2.2.2.2.1, u.2.2.2.2.2.2.1, u.2.2.2.2.2.2.2.1, u.2.2.2.2.2.2.2.2.1, u.2.2.2.2.2.2.2.2.2.1, u.2.2.2.2.2.2.2.2.2.2.1, v)
def wdC (G : Nat → Nat) (Y : Nat → ClassId) (u : SM) : va_W := [(G 0, .inr (0, [.ref (G 1), .ref (G 5), .ref (G 6), .ref (G 7)])), (G 1, .inr (1, [.ref (G 2), .ref (G 3), .ref (G 4), .int (cg_lc u), .int (cg_sb u), .int (cg_cm u), .int (cg_sc u), .int (cg_dn u)])), (G 2, .inl (Y 0, 279, .inr (.inl (cg_w u)))), (G 3, .inl (Y 1, 9, .inl (cg_la u))), (G 4, .inl (Y 0, 9, .inr (.inl (cg_fw u)))), (G 5, .inr (2, [.ref (G 1)])), (G 6, .inr (3, [.ref (G 1), .ref (G 5)])), (G 7, .inr (4, [.ref (G 1), .ref (G 5)]))]
def wdR (G : Nat → Nat) (Y : Nat → ClassId) (u : SR) : va_W := [(G 0, .inr (5, [.ref (G 1), .int (rg_lo u), .ref (G 2), .ref (G 3), .int (rg_ca u), .int (rg_cm u), .int (rg_st u), .int (rg_dn u), .int (rg_br u), .int (rg_cd u), .ref (G 4), .ref (G 5)])), (G 1, .inl (Y 0, 279, .inr (.inl (rg_mem u)))), (G 2, .inl (Y 1, 16, .inl (rg_lat u))), (G 3, .inl (Y 0, 16, .inr (.inl (rg_old u)))), (G 4, .inl (Y 2, 31, .inl (rg_rea u))), (G 5, .inl (Y 1, 16, .inl (rg_ris u)))]
