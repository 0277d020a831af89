-- names of the classes, their fields and methods; the words of the tables; by program (wip/gen)
def T_Pages : u_T := fun k => match k with
  | 0 => ("RowFile$Pages", "bytes", "[B", true)
  | _ => ("RowFile$Pages", "count", "I", false)
def ty_Pages : Nat → FieldType := fun k => match k with
  | 0 => .array .byte
  | _ => .int
theorem nm_Pages : ∀ a, a < 2 → ∀ b, b < 2 → a ≠ b → (T_Pages a).2.1 ≠ (T_Pages b).2.1 := by decide +kernel
theorem ty_Pages_ok : ∀ k, k < 2 → parseFieldDescriptor (T_Pages k).2.2.1 = some (ty_Pages k) := by decide +kernel
def T_Draft : u_T := fun k => match k with
  | 0 => ("RowFile$Draft", "codes", "[I", true)
  | 1 => ("RowFile$Draft", "numbers", "[J", true)
  | 2 => ("RowFile$Draft", "blobs", "[B", true)
  | _ => ("RowFile$Draft", "count", "I", false)
def ty_Draft : Nat → FieldType := fun k => match k with
  | 0 => .array .int
  | 1 => .array .long
  | 2 => .array .byte
  | _ => .int
theorem nm_Draft : ∀ a, a < 4 → ∀ b, b < 4 → a ≠ b → (T_Draft a).2.1 ≠ (T_Draft b).2.1 := by decide +kernel
theorem ty_Draft_ok : ∀ k, k < 4 → parseFieldDescriptor (T_Draft k).2.2.1 = some (ty_Draft k) := by decide +kernel
def T_Rec : u_T := fun k => match k with
  | 0 => ("RowFile$RowRecord", "bytes", "[B", true)
  | 1 => ("RowFile$RowRecord", "length", "I", false)
  | 2 => ("RowFile$RowRecord", "codes", "[I", true)
  | 3 => ("RowFile$RowRecord", "starts", "[I", true)
  | _ => ("RowFile$RowRecord", "count", "I", false)
def ty_Rec : Nat → FieldType := fun k => match k with
  | 0 => .array .byte
  | 1 => .int
  | 2 => .array .int
  | 3 => .array .int
  | _ => .int
theorem nm_Rec : ∀ a, a < 5 → ∀ b, b < 5 → a ≠ b → (T_Rec a).2.1 ≠ (T_Rec b).2.1 := by decide +kernel
theorem ty_Rec_ok : ∀ k, k < 5 → parseFieldDescriptor (T_Rec k).2.2.1 = some (ty_Rec k) := by decide +kernel
def T_Node : u_T := fun k => match k with
  | 0 => ("RowFile$Node", "bytes", "[B", true)
  | 1 => ("RowFile$Node", "starts", "[I", true)
  | 2 => ("RowFile$Node", "sizes", "[I", true)
  | 3 => ("RowFile$Node", "count", "I", false)
  | 4 => ("RowFile$Node", "last", "I", false)
  | _ => ("RowFile$Node", "leaf", "Z", false)
def ty_Node : Nat → FieldType := fun k => match k with
  | 0 => .array .byte
  | 1 => .array .int
  | 2 => .array .int
  | 3 => .int
  | 4 => .int
  | _ => .boolean
theorem nm_Node : ∀ a, a < 6 → ∀ b, b < 6 → a ≠ b → (T_Node a).2.1 ≠ (T_Node b).2.1 := by decide +kernel
theorem ty_Node_ok : ∀ k, k < 6 → parseFieldDescriptor (T_Node k).2.2.1 = some (ty_Node k) := by decide +kernel
def T_Disk : u_T := fun k => match k with
  | 0 => ("RowFile$Disk", "file", "LRowFile$Pages;", true)
  | 1 => ("RowFile$Disk", "records", "LRowFile$Pages;", true)
  | 2 => ("RowFile$Disk", "recorded", "[Z", true)
  | 3 => ("RowFile$Disk", "different", "[Z", true)
  | 4 => ("RowFile$Disk", "headThere", "Z", false)
  | 5 => ("RowFile$Disk", "headPages", "I", false)
  | _ => ("RowFile$Disk", "headRecords", "I", false)
def ty_Disk : Nat → FieldType := fun k => match k with
  | 0 => .object "RowFile$Pages"
  | 1 => .object "RowFile$Pages"
  | 2 => .array .boolean
  | 3 => .array .boolean
  | 4 => .boolean
  | 5 => .int
  | _ => .int
theorem nm_Disk : ∀ a, a < 7 → ∀ b, b < 7 → a ≠ b → (T_Disk a).2.1 ≠ (T_Disk b).2.1 := by decide +kernel
theorem ty_Disk_ok : ∀ k, k < 7 → parseFieldDescriptor (T_Disk k).2.2.1 = some (ty_Disk k) := by decide +kernel
def T_Tree : u_T := fun k => match k with
  | 0 => ("RowFile$Tree", "pages", "LRowFile$Pages;", true)
  | 1 => ("RowFile$Tree", "node", "LRowFile$Node;", true)
  | 2 => ("RowFile$Tree", "row", "LRowFile$RowRecord;", true)
  | 3 => ("RowFile$Tree", "path", "[I", true)
  | 4 => ("RowFile$Tree", "slots", "[I", true)
  | 5 => ("RowFile$Tree", "depth", "I", false)
  | 6 => ("RowFile$Tree", "slot", "I", false)
  | 7 => ("RowFile$Tree", "cell", "[B", true)
  | 8 => ("RowFile$Tree", "cellSize", "I", false)
  | 9 => ("RowFile$Tree", "waiting", "[I", true)
  | _ => ("RowFile$Tree", "leaves", "[I", true)
def ty_Tree : Nat → FieldType := fun k => match k with
  | 0 => .object "RowFile$Pages"
  | 1 => .object "RowFile$Node"
  | 2 => .object "RowFile$RowRecord"
  | 3 => .array .int
  | 4 => .array .int
  | 5 => .int
  | 6 => .int
  | 7 => .array .byte
  | 8 => .int
  | 9 => .array .int
  | _ => .array .int
theorem nm_Tree : ∀ a, a < 11 → ∀ b, b < 11 → a ≠ b → (T_Tree a).2.1 ≠ (T_Tree b).2.1 := by decide +kernel
theorem ty_Tree_ok : ∀ k, k < 11 → parseFieldDescriptor (T_Tree k).2.2.1 = some (ty_Tree k) := by decide +kernel
def T_Check : u_T := fun k => match k with
  | 0 => ("RowFile$FileCheck", "file", "LRowFile$Pages;", true)
  | 1 => ("RowFile$FileCheck", "node", "LRowFile$Node;", true)
  | 2 => ("RowFile$FileCheck", "row", "LRowFile$RowRecord;", true)
  | 3 => ("RowFile$FileCheck", "reached", "[Z", true)
  | 4 => ("RowFile$FileCheck", "treePages", "[I", true)
  | 5 => ("RowFile$FileCheck", "lows", "[I", true)
  | 6 => ("RowFile$FileCheck", "highs", "[I", true)
  | _ => ("RowFile$FileCheck", "treeSize", "I", false)
def ty_Check : Nat → FieldType := fun k => match k with
  | 0 => .object "RowFile$Pages"
  | 1 => .object "RowFile$Node"
  | 2 => .object "RowFile$RowRecord"
  | 3 => .array .boolean
  | 4 => .array .int
  | 5 => .array .int
  | 6 => .array .int
  | _ => .int
theorem nm_Check : ∀ a, a < 8 → ∀ b, b < 8 → a ≠ b → (T_Check a).2.1 ≠ (T_Check b).2.1 := by decide +kernel
theorem ty_Check_ok : ∀ k, k < 8 → parseFieldDescriptor (T_Check k).2.2.1 = some (ty_Check k) := by decide +kernel
def T_RF : u_T := fun k => match k with
  | 0 => ("RowFile", "draft", "LRowFile$Draft;", true)
  | 1 => ("RowFile", "now", "LRowFile$Pages;", true)
  | 2 => ("RowFile", "before", "LRowFile$Pages;", true)
  | 3 => ("RowFile", "disk", "LRowFile$Disk;", true)
  | 4 => ("RowFile", "row", "LRowFile$RowRecord;", true)
  | 5 => ("RowFile", "node", "LRowFile$Node;", true)
  | 6 => ("RowFile", "tree", "LRowFile$Tree;", true)
  | 7 => ("RowFile", "check", "LRowFile$FileCheck;", true)
  | 8 => ("RowFile", "up", "Z", false)
  | _ => ("RowFile", "armed", "I", false)
def ty_RF : Nat → FieldType := fun k => match k with
  | 0 => .object "RowFile$Draft"
  | 1 => .object "RowFile$Pages"
  | 2 => .object "RowFile$Pages"
  | 3 => .object "RowFile$Disk"
  | 4 => .object "RowFile$RowRecord"
  | 5 => .object "RowFile$Node"
  | 6 => .object "RowFile$Tree"
  | 7 => .object "RowFile$FileCheck"
  | 8 => .boolean
  | _ => .int
theorem nm_RF : ∀ a, a < 10 → ∀ b, b < 10 → a ≠ b → (T_RF a).2.1 ≠ (T_RF b).2.1 := by decide +kernel
theorem ty_RF_ok : ∀ k, k < 10 → parseFieldDescriptor (T_RF k).2.2.1 = some (ty_RF k) := by decide +kernel
def T_MD : u_T := fun k => match k with
  | 0 => ("RowFileModel", "now", "[I", true)
  | 1 => ("RowFileModel", "disk", "[I", true)
  | 2 => ("RowFileModel", "before", "[I", true)
  | 3 => ("RowFileModel", "onDisk", "I", false)
  | 4 => ("RowFileModel", "head", "Z", false)
  | 5 => ("RowFileModel", "headPages", "I", false)
  | 6 => ("RowFileModel", "records", "I", false)
  | 7 => ("RowFileModel", "recordPage", "[I", true)
  | 8 => ("RowFileModel", "recordBytes", "[I", true)
  | 9 => ("RowFileModel", "up", "Z", false)
  | 10 => ("RowFileModel", "armed", "I", false)
  | 11 => ("RowFileModel", "columns", "I", false)
  | 12 => ("RowFileModel", "isBlob", "[Z", true)
  | 13 => ("RowFileModel", "integer", "[J", true)
  | 14 => ("RowFileModel", "size", "[I", true)
  | 15 => ("RowFileModel", "blobs", "[I", true)
  | 16 => ("RowFileModel", "length", "I", false)
  | 17 => ("RowFileModel", "record", "[I", true)
  | 18 => ("RowFileModel", "kind", "I", false)
  | 19 => ("RowFileModel", "cells", "I", false)
  | 20 => ("RowFileModel", "last", "I", false)
  | 21 => ("RowFileModel", "cellLength", "[I", true)
  | 22 => ("RowFileModel", "row", "[I", true)
  | 23 => ("RowFileModel", "made", "I", false)
  | 24 => ("RowFileModel", "cell", "[I", true)
  | 25 => ("RowFileModel", "deep", "I", false)
  | 26 => ("RowFileModel", "way", "[I", true)
  | 27 => ("RowFileModel", "turn", "[I", true)
  | 28 => ("RowFileModel", "at", "I", false)
  | 29 => ("RowFileModel", "bad", "Z", false)
  | _ => ("RowFileModel", "used", "[Z", true)
def ty_MD : Nat → FieldType := fun k => match k with
  | 0 => .array .int
  | 1 => .array .int
  | 2 => .array .int
  | 3 => .int
  | 4 => .boolean
  | 5 => .int
  | 6 => .int
  | 7 => .array .int
  | 8 => .array .int
  | 9 => .boolean
  | 10 => .int
  | 11 => .int
  | 12 => .array .boolean
  | 13 => .array .long
  | 14 => .array .int
  | 15 => .array .int
  | 16 => .int
  | 17 => .array .int
  | 18 => .int
  | 19 => .int
  | 20 => .int
  | 21 => .array .int
  | 22 => .array .int
  | 23 => .int
  | 24 => .array .int
  | 25 => .int
  | 26 => .array .int
  | 27 => .array .int
  | 28 => .int
  | 29 => .boolean
  | _ => .array .boolean
theorem nm_MD : ∀ a, a < 31 → ∀ b, b < 31 → a ≠ b → (T_MD a).2.1 ≠ (T_MD b).2.1 := by decide +kernel
theorem ty_MD_ok : ∀ k, k < 31 → parseFieldDescriptor (T_MD k).2.2.1 = some (ty_MD k) := by decide +kernel
abbrev pu_cl : List vw_C := [("RowFile$Pages", T_Pages, 2), ("RowFile$Draft", T_Draft, 4), ("RowFile$RowRecord", T_Rec, 5), ("RowFile$Node", T_Node, 6), ("RowFile$Disk", T_Disk, 7), ("RowFile$Tree", T_Tree, 11), ("RowFile$FileCheck", T_Check, 8), ("RowFile", T_RF, 10), ("RowFileModel", T_MD, 31)]
def y_RF_init : MethodName := ⟨"RowFile", "<init>", "()V"⟩
abbrev b_RF_init : ByteArray := prog_1_method_1_code
theorem hd_RF_init : y_RF_init.cls ≠ "java/lang/invoke/MethodHandle" ∧ y_RF_init.cls ≠ "java/lang/invoke/VarHandle" ∧ (parseMethodDescriptor y_RF_init.desc).map (fun d => d.parameters.length) = some 0 := by decide +kernel
def y_RF_number : MethodName := ⟨"RowFile", "number", "(J)Z"⟩
abbrev b_RF_number : ByteArray := prog_1_method_2_code
theorem hd_RF_number : y_RF_number.cls ≠ "java/lang/invoke/MethodHandle" ∧ y_RF_number.cls ≠ "java/lang/invoke/VarHandle" ∧ (parseMethodDescriptor y_RF_number.desc).map (fun d => d.parameters.length) = some 1 := by decide +kernel
def y_RF_blob : MethodName := ⟨"RowFile", "blob", "(ZIJ)Z"⟩
abbrev b_RF_blob : ByteArray := prog_1_method_3_code
theorem hd_RF_blob : y_RF_blob.cls ≠ "java/lang/invoke/MethodHandle" ∧ y_RF_blob.cls ≠ "java/lang/invoke/VarHandle" ∧ (parseMethodDescriptor y_RF_blob.desc).map (fun d => d.parameters.length) = some 3 := by decide +kernel
def y_RF_clear : MethodName := ⟨"RowFile", "clear", "()V"⟩
abbrev b_RF_clear : ByteArray := prog_1_method_4_code
theorem hd_RF_clear : y_RF_clear.cls ≠ "java/lang/invoke/MethodHandle" ∧ y_RF_clear.cls ≠ "java/lang/invoke/VarHandle" ∧ (parseMethodDescriptor y_RF_clear.desc).map (fun d => d.parameters.length) = some 0 := by decide +kernel
def y_RF_insert : MethodName := ⟨"RowFile", "insert", "(I)I"⟩
abbrev b_RF_insert : ByteArray := prog_1_method_5_code
theorem hd_RF_insert : y_RF_insert.cls ≠ "java/lang/invoke/MethodHandle" ∧ y_RF_insert.cls ≠ "java/lang/invoke/VarHandle" ∧ (parseMethodDescriptor y_RF_insert.desc).map (fun d => d.parameters.length) = some 1 := by decide +kernel
def y_RF_remove : MethodName := ⟨"RowFile", "remove", "(I)I"⟩
abbrev b_RF_remove : ByteArray := prog_1_method_6_code
theorem hd_RF_remove : y_RF_remove.cls ≠ "java/lang/invoke/MethodHandle" ∧ y_RF_remove.cls ≠ "java/lang/invoke/VarHandle" ∧ (parseMethodDescriptor y_RF_remove.desc).map (fun d => d.parameters.length) = some 1 := by decide +kernel
def y_RF_commit : MethodName := ⟨"RowFile", "commit", "()I"⟩
abbrev b_RF_commit : ByteArray := prog_1_method_7_code
theorem hd_RF_commit : y_RF_commit.cls ≠ "java/lang/invoke/MethodHandle" ∧ y_RF_commit.cls ≠ "java/lang/invoke/VarHandle" ∧ (parseMethodDescriptor y_RF_commit.desc).map (fun d => d.parameters.length) = some 0 := by decide +kernel
def y_RF_undo : MethodName := ⟨"RowFile", "undo", "()Z"⟩
abbrev b_RF_undo : ByteArray := prog_1_method_8_code
theorem hd_RF_undo : y_RF_undo.cls ≠ "java/lang/invoke/MethodHandle" ∧ y_RF_undo.cls ≠ "java/lang/invoke/VarHandle" ∧ (parseMethodDescriptor y_RF_undo.desc).map (fun d => d.parameters.length) = some 0 := by decide +kernel
def y_RF_crash : MethodName := ⟨"RowFile", "crash", "()Z"⟩
abbrev b_RF_crash : ByteArray := prog_1_method_9_code
theorem hd_RF_crash : y_RF_crash.cls ≠ "java/lang/invoke/MethodHandle" ∧ y_RF_crash.cls ≠ "java/lang/invoke/VarHandle" ∧ (parseMethodDescriptor y_RF_crash.desc).map (fun d => d.parameters.length) = some 0 := by decide +kernel
def y_RF_arm : MethodName := ⟨"RowFile", "arm", "(I)Z"⟩
abbrev b_RF_arm : ByteArray := prog_1_method_10_code
theorem hd_RF_arm : y_RF_arm.cls ≠ "java/lang/invoke/MethodHandle" ∧ y_RF_arm.cls ≠ "java/lang/invoke/VarHandle" ∧ (parseMethodDescriptor y_RF_arm.desc).map (fun d => d.parameters.length) = some 1 := by decide +kernel
def y_RF_open : MethodName := ⟨"RowFile", "open", "()I"⟩
abbrev b_RF_open : ByteArray := prog_1_method_11_code
theorem hd_RF_open : y_RF_open.cls ≠ "java/lang/invoke/MethodHandle" ∧ y_RF_open.cls ≠ "java/lang/invoke/VarHandle" ∧ (parseMethodDescriptor y_RF_open.desc).map (fun d => d.parameters.length) = some 0 := by decide +kernel
def y_RF_spoil : MethodName := ⟨"RowFile", "spoil", "(III)Z"⟩
abbrev b_RF_spoil : ByteArray := prog_1_method_12_code
theorem hd_RF_spoil : y_RF_spoil.cls ≠ "java/lang/invoke/MethodHandle" ∧ y_RF_spoil.cls ≠ "java/lang/invoke/VarHandle" ∧ (parseMethodDescriptor y_RF_spoil.desc).map (fun d => d.parameters.length) = some 3 := by decide +kernel
def y_RF_rows : MethodName := ⟨"RowFile", "rows", "()I"⟩
abbrev b_RF_rows : ByteArray := prog_1_method_13_code
theorem hd_RF_rows : y_RF_rows.cls ≠ "java/lang/invoke/MethodHandle" ∧ y_RF_rows.cls ≠ "java/lang/invoke/VarHandle" ∧ (parseMethodDescriptor y_RF_rows.desc).map (fun d => d.parameters.length) = some 0 := by decide +kernel
def y_RF_key : MethodName := ⟨"RowFile", "key", "(I)I"⟩
abbrev b_RF_key : ByteArray := prog_1_method_14_code
theorem hd_RF_key : y_RF_key.cls ≠ "java/lang/invoke/MethodHandle" ∧ y_RF_key.cls ≠ "java/lang/invoke/VarHandle" ∧ (parseMethodDescriptor y_RF_key.desc).map (fun d => d.parameters.length) = some 1 := by decide +kernel
def y_RF_columns : MethodName := ⟨"RowFile", "columns", "(I)I"⟩
abbrev b_RF_columns : ByteArray := prog_1_method_15_code
theorem hd_RF_columns : y_RF_columns.cls ≠ "java/lang/invoke/MethodHandle" ∧ y_RF_columns.cls ≠ "java/lang/invoke/VarHandle" ∧ (parseMethodDescriptor y_RF_columns.desc).map (fun d => d.parameters.length) = some 1 := by decide +kernel
def y_RF_code : MethodName := ⟨"RowFile", "code", "(II)I"⟩
abbrev b_RF_code : ByteArray := prog_1_method_16_code
theorem hd_RF_code : y_RF_code.cls ≠ "java/lang/invoke/MethodHandle" ∧ y_RF_code.cls ≠ "java/lang/invoke/VarHandle" ∧ (parseMethodDescriptor y_RF_code.desc).map (fun d => d.parameters.length) = some 2 := by decide +kernel
def y_RF_value : MethodName := ⟨"RowFile", "value", "(III)J"⟩
abbrev b_RF_value : ByteArray := prog_1_method_17_code
theorem hd_RF_value : y_RF_value.cls ≠ "java/lang/invoke/MethodHandle" ∧ y_RF_value.cls ≠ "java/lang/invoke/VarHandle" ∧ (parseMethodDescriptor y_RF_value.desc).map (fun d => d.parameters.length) = some 3 := by decide +kernel
def y_RF_octet : MethodName := ⟨"RowFile", "octet", "(IIZ)I"⟩
abbrev b_RF_octet : ByteArray := prog_1_method_18_code
theorem hd_RF_octet : y_RF_octet.cls ≠ "java/lang/invoke/MethodHandle" ∧ y_RF_octet.cls ≠ "java/lang/invoke/VarHandle" ∧ (parseMethodDescriptor y_RF_octet.desc).map (fun d => d.parameters.length) = some 3 := by decide +kernel
def y_RF_journal : MethodName := ⟨"RowFile", "journal", "(I)I"⟩
abbrev b_RF_journal : ByteArray := prog_1_method_19_code
theorem hd_RF_journal : y_RF_journal.cls ≠ "java/lang/invoke/MethodHandle" ∧ y_RF_journal.cls ≠ "java/lang/invoke/VarHandle" ∧ (parseMethodDescriptor y_RF_journal.desc).map (fun d => d.parameters.length) = some 1 := by decide +kernel
def y_RF_load : MethodName := ⟨"RowFile", "load", "(I)Z"⟩
abbrev b_RF_load : ByteArray := prog_1_method_20_code
theorem hd_RF_load : y_RF_load.cls ≠ "java/lang/invoke/MethodHandle" ∧ y_RF_load.cls ≠ "java/lang/invoke/VarHandle" ∧ (parseMethodDescriptor y_RF_load.desc).map (fun d => d.parameters.length) = some 1 := by decide +kernel
def y_RF_goDown : MethodName := ⟨"RowFile", "goDown", "()V"⟩
abbrev b_RF_goDown : ByteArray := prog_1_method_21_code
theorem hd_RF_goDown : y_RF_goDown.cls ≠ "java/lang/invoke/MethodHandle" ∧ y_RF_goDown.cls ≠ "java/lang/invoke/VarHandle" ∧ (parseMethodDescriptor y_RF_goDown.desc).map (fun d => d.parameters.length) = some 0 := by decide +kernel
def y_RF_writeFails : MethodName := ⟨"RowFile", "writeFails", "()Z"⟩
abbrev b_RF_writeFails : ByteArray := prog_1_method_22_code
theorem hd_RF_writeFails : y_RF_writeFails.cls ≠ "java/lang/invoke/MethodHandle" ∧ y_RF_writeFails.cls ≠ "java/lang/invoke/VarHandle" ∧ (parseMethodDescriptor y_RF_writeFails.desc).map (fun d => d.parameters.length) = some 0 := by decide +kernel
def y_RF_writeRecords : MethodName := ⟨"RowFile", "writeRecords", "()Z"⟩
abbrev b_RF_writeRecords : ByteArray := prog_1_method_23_code
theorem hd_RF_writeRecords : y_RF_writeRecords.cls ≠ "java/lang/invoke/MethodHandle" ∧ y_RF_writeRecords.cls ≠ "java/lang/invoke/VarHandle" ∧ (parseMethodDescriptor y_RF_writeRecords.desc).map (fun d => d.parameters.length) = some 0 := by decide +kernel
def y_RF_writeHead : MethodName := ⟨"RowFile", "writeHead", "()Z"⟩
abbrev b_RF_writeHead : ByteArray := prog_1_method_24_code
theorem hd_RF_writeHead : y_RF_writeHead.cls ≠ "java/lang/invoke/MethodHandle" ∧ y_RF_writeHead.cls ≠ "java/lang/invoke/VarHandle" ∧ (parseMethodDescriptor y_RF_writeHead.desc).map (fun d => d.parameters.length) = some 0 := by decide +kernel
def y_RF_writePages : MethodName := ⟨"RowFile", "writePages", "()Z"⟩
abbrev b_RF_writePages : ByteArray := prog_1_method_25_code
theorem hd_RF_writePages : y_RF_writePages.cls ≠ "java/lang/invoke/MethodHandle" ∧ y_RF_writePages.cls ≠ "java/lang/invoke/VarHandle" ∧ (parseMethodDescriptor y_RF_writePages.desc).map (fun d => d.parameters.length) = some 0 := by decide +kernel
def y_RF_dropHead : MethodName := ⟨"RowFile", "dropHead", "()Z"⟩
abbrev b_RF_dropHead : ByteArray := prog_1_method_26_code
theorem hd_RF_dropHead : y_RF_dropHead.cls ≠ "java/lang/invoke/MethodHandle" ∧ y_RF_dropHead.cls ≠ "java/lang/invoke/VarHandle" ∧ (parseMethodDescriptor y_RF_dropHead.desc).map (fun d => d.parameters.length) = some 0 := by decide +kernel
def y_RF_varintSize : MethodName := ⟨"RowFile", "varintSize", "(I)I"⟩
abbrev b_RF_varintSize : ByteArray := prog_1_method_27_code
theorem hd_RF_varintSize : y_RF_varintSize.cls ≠ "java/lang/invoke/MethodHandle" ∧ y_RF_varintSize.cls ≠ "java/lang/invoke/VarHandle" ∧ (parseMethodDescriptor y_RF_varintSize.desc).map (fun d => d.parameters.length) = some 1 := by decide +kernel
def y_RF_writeVarint : MethodName := ⟨"RowFile", "writeVarint", "([BII)I"⟩
abbrev b_RF_writeVarint : ByteArray := prog_1_method_28_code
theorem hd_RF_writeVarint : y_RF_writeVarint.cls ≠ "java/lang/invoke/MethodHandle" ∧ y_RF_writeVarint.cls ≠ "java/lang/invoke/VarHandle" ∧ (parseMethodDescriptor y_RF_writeVarint.desc).map (fun d => d.parameters.length) = some 3 := by decide +kernel
def y_RF_readVarint : MethodName := ⟨"RowFile", "readVarint", "([BII)I"⟩
abbrev b_RF_readVarint : ByteArray := prog_1_method_29_code
theorem hd_RF_readVarint : y_RF_readVarint.cls ≠ "java/lang/invoke/MethodHandle" ∧ y_RF_readVarint.cls ≠ "java/lang/invoke/VarHandle" ∧ (parseMethodDescriptor y_RF_readVarint.desc).map (fun d => d.parameters.length) = some 3 := by decide +kernel
def y_RF_codeOf : MethodName := ⟨"RowFile", "codeOf", "(J)I"⟩
abbrev b_RF_codeOf : ByteArray := prog_1_method_30_code
theorem hd_RF_codeOf : y_RF_codeOf.cls ≠ "java/lang/invoke/MethodHandle" ∧ y_RF_codeOf.cls ≠ "java/lang/invoke/VarHandle" ∧ (parseMethodDescriptor y_RF_codeOf.desc).map (fun d => d.parameters.length) = some 1 := by decide +kernel
def y_RF_valueSize : MethodName := ⟨"RowFile", "valueSize", "(I)I"⟩
abbrev b_RF_valueSize : ByteArray := prog_1_method_31_code
theorem hd_RF_valueSize : y_RF_valueSize.cls ≠ "java/lang/invoke/MethodHandle" ∧ y_RF_valueSize.cls ≠ "java/lang/invoke/VarHandle" ∧ (parseMethodDescriptor y_RF_valueSize.desc).map (fun d => d.parameters.length) = some 1 := by decide +kernel
def y_RF_sizeInLeaf : MethodName := ⟨"RowFile", "sizeInLeaf", "(I)I"⟩
abbrev b_RF_sizeInLeaf : ByteArray := prog_1_method_32_code
theorem hd_RF_sizeInLeaf : y_RF_sizeInLeaf.cls ≠ "java/lang/invoke/MethodHandle" ∧ y_RF_sizeInLeaf.cls ≠ "java/lang/invoke/VarHandle" ∧ (parseMethodDescriptor y_RF_sizeInLeaf.desc).map (fun d => d.parameters.length) = some 1 := by decide +kernel
def y_RF_chainPages : MethodName := ⟨"RowFile", "chainPages", "(I)I"⟩
abbrev b_RF_chainPages : ByteArray := prog_1_method_33_code
theorem hd_RF_chainPages : y_RF_chainPages.cls ≠ "java/lang/invoke/MethodHandle" ∧ y_RF_chainPages.cls ≠ "java/lang/invoke/VarHandle" ∧ (parseMethodDescriptor y_RF_chainPages.desc).map (fun d => d.parameters.length) = some 1 := by decide +kernel
def y_MD_init : MethodName := ⟨"RowFileModel", "<init>", "()V"⟩
abbrev b_MD_init : ByteArray := prog_10_method_1_code
theorem hd_MD_init : y_MD_init.cls ≠ "java/lang/invoke/MethodHandle" ∧ y_MD_init.cls ≠ "java/lang/invoke/VarHandle" ∧ (parseMethodDescriptor y_MD_init.desc).map (fun d => d.parameters.length) = some 0 := by decide +kernel
def y_MD_fetch : MethodName := ⟨"RowFileModel", "fetch", "()V"⟩
abbrev b_MD_fetch : ByteArray := prog_10_method_2_code
theorem hd_MD_fetch : y_MD_fetch.cls ≠ "java/lang/invoke/MethodHandle" ∧ y_MD_fetch.cls ≠ "java/lang/invoke/VarHandle" ∧ (parseMethodDescriptor y_MD_fetch.desc).map (fun d => d.parameters.length) = some 0 := by decide +kernel
def y_MD_pages : MethodName := ⟨"RowFileModel", "pages", "()I"⟩
abbrev b_MD_pages : ByteArray := prog_10_method_3_code
theorem hd_MD_pages : y_MD_pages.cls ≠ "java/lang/invoke/MethodHandle" ∧ y_MD_pages.cls ≠ "java/lang/invoke/VarHandle" ∧ (parseMethodDescriptor y_MD_pages.desc).map (fun d => d.parameters.length) = some 0 := by decide +kernel
def y_MD_root : MethodName := ⟨"RowFileModel", "root", "()I"⟩
abbrev b_MD_root : ByteArray := prog_10_method_4_code
theorem hd_MD_root : y_MD_root.cls ≠ "java/lang/invoke/MethodHandle" ∧ y_MD_root.cls ≠ "java/lang/invoke/VarHandle" ∧ (parseMethodDescriptor y_MD_root.desc).map (fun d => d.parameters.length) = some 0 := by decide +kernel
def y_MD_number : MethodName := ⟨"RowFileModel", "number", "(J)Z"⟩
abbrev b_MD_number : ByteArray := prog_10_method_5_code
theorem hd_MD_number : y_MD_number.cls ≠ "java/lang/invoke/MethodHandle" ∧ y_MD_number.cls ≠ "java/lang/invoke/VarHandle" ∧ (parseMethodDescriptor y_MD_number.desc).map (fun d => d.parameters.length) = some 1 := by decide +kernel
def y_MD_blob : MethodName := ⟨"RowFileModel", "blob", "(ZIJ)Z"⟩
abbrev b_MD_blob : ByteArray := prog_10_method_6_code
theorem hd_MD_blob : y_MD_blob.cls ≠ "java/lang/invoke/MethodHandle" ∧ y_MD_blob.cls ≠ "java/lang/invoke/VarHandle" ∧ (parseMethodDescriptor y_MD_blob.desc).map (fun d => d.parameters.length) = some 3 := by decide +kernel
def y_MD_clear : MethodName := ⟨"RowFileModel", "clear", "()V"⟩
abbrev b_MD_clear : ByteArray := prog_10_method_7_code
theorem hd_MD_clear : y_MD_clear.cls ≠ "java/lang/invoke/MethodHandle" ∧ y_MD_clear.cls ≠ "java/lang/invoke/VarHandle" ∧ (parseMethodDescriptor y_MD_clear.desc).map (fun d => d.parameters.length) = some 0 := by decide +kernel
def y_MD_codeOf : MethodName := ⟨"RowFileModel", "codeOf", "(J)I"⟩
abbrev b_MD_codeOf : ByteArray := prog_10_method_8_code
theorem hd_MD_codeOf : y_MD_codeOf.cls ≠ "java/lang/invoke/MethodHandle" ∧ y_MD_codeOf.cls ≠ "java/lang/invoke/VarHandle" ∧ (parseMethodDescriptor y_MD_codeOf.desc).map (fun d => d.parameters.length) = some 1 := by decide +kernel
def y_MD_bytesOf : MethodName := ⟨"RowFileModel", "bytesOf", "(I)I"⟩
abbrev b_MD_bytesOf : ByteArray := prog_10_method_9_code
theorem hd_MD_bytesOf : y_MD_bytesOf.cls ≠ "java/lang/invoke/MethodHandle" ∧ y_MD_bytesOf.cls ≠ "java/lang/invoke/VarHandle" ∧ (parseMethodDescriptor y_MD_bytesOf.desc).map (fun d => d.parameters.length) = some 1 := by decide +kernel
def y_MD_varint : MethodName := ⟨"RowFileModel", "varint", "([III)I"⟩
abbrev b_MD_varint : ByteArray := prog_10_method_10_code
theorem hd_MD_varint : y_MD_varint.cls ≠ "java/lang/invoke/MethodHandle" ∧ y_MD_varint.cls ≠ "java/lang/invoke/VarHandle" ∧ (parseMethodDescriptor y_MD_varint.desc).map (fun d => d.parameters.length) = some 3 := by decide +kernel
def y_MD_encode : MethodName := ⟨"RowFileModel", "encode", "()V"⟩
abbrev b_MD_encode : ByteArray := prog_10_method_11_code
theorem hd_MD_encode : y_MD_encode.cls ≠ "java/lang/invoke/MethodHandle" ∧ y_MD_encode.cls ≠ "java/lang/invoke/VarHandle" ∧ (parseMethodDescriptor y_MD_encode.desc).map (fun d => d.parameters.length) = some 0 := by decide +kernel
def y_MD_begin : MethodName := ⟨"RowFileModel", "begin", "(II)I"⟩
abbrev b_MD_begin : ByteArray := prog_10_method_12_code
theorem hd_MD_begin : y_MD_begin.cls ≠ "java/lang/invoke/MethodHandle" ∧ y_MD_begin.cls ≠ "java/lang/invoke/VarHandle" ∧ (parseMethodDescriptor y_MD_begin.desc).map (fun d => d.parameters.length) = some 2 := by decide +kernel
def y_MD_take : MethodName := ⟨"RowFileModel", "take", "(I)V"⟩
abbrev b_MD_take : ByteArray := prog_10_method_13_code
theorem hd_MD_take : y_MD_take.cls ≠ "java/lang/invoke/MethodHandle" ∧ y_MD_take.cls ≠ "java/lang/invoke/VarHandle" ∧ (parseMethodDescriptor y_MD_take.desc).map (fun d => d.parameters.length) = some 1 := by decide +kernel
def y_MD_start : MethodName := ⟨"RowFileModel", "start", "(I)I"⟩
abbrev b_MD_start : ByteArray := prog_10_method_14_code
theorem hd_MD_start : y_MD_start.cls ≠ "java/lang/invoke/MethodHandle" ∧ y_MD_start.cls ≠ "java/lang/invoke/VarHandle" ∧ (parseMethodDescriptor y_MD_start.desc).map (fun d => d.parameters.length) = some 1 := by decide +kernel
def y_MD_erase : MethodName := ⟨"RowFileModel", "erase", "(I)V"⟩
abbrev b_MD_erase : ByteArray := prog_10_method_15_code
theorem hd_MD_erase : y_MD_erase.cls ≠ "java/lang/invoke/MethodHandle" ∧ y_MD_erase.cls ≠ "java/lang/invoke/VarHandle" ∧ (parseMethodDescriptor y_MD_erase.desc).map (fun d => d.parameters.length) = some 1 := by decide +kernel
def y_MD_put : MethodName := ⟨"RowFileModel", "put", "(IIII)V"⟩
abbrev b_MD_put : ByteArray := prog_10_method_16_code
theorem hd_MD_put : y_MD_put.cls ≠ "java/lang/invoke/MethodHandle" ∧ y_MD_put.cls ≠ "java/lang/invoke/VarHandle" ∧ (parseMethodDescriptor y_MD_put.desc).map (fun d => d.parameters.length) = some 4 := by decide +kernel
def y_MD_insertCell : MethodName := ⟨"RowFileModel", "insertCell", "(I)V"⟩
abbrev b_MD_insertCell : ByteArray := prog_10_method_17_code
theorem hd_MD_insertCell : y_MD_insertCell.cls ≠ "java/lang/invoke/MethodHandle" ∧ y_MD_insertCell.cls ≠ "java/lang/invoke/VarHandle" ∧ (parseMethodDescriptor y_MD_insertCell.desc).map (fun d => d.parameters.length) = some 1 := by decide +kernel
def y_MD_removeCell : MethodName := ⟨"RowFileModel", "removeCell", "(I)V"⟩
abbrev b_MD_removeCell : ByteArray := prog_10_method_18_code
theorem hd_MD_removeCell : y_MD_removeCell.cls ≠ "java/lang/invoke/MethodHandle" ∧ y_MD_removeCell.cls ≠ "java/lang/invoke/VarHandle" ∧ (parseMethodDescriptor y_MD_removeCell.desc).map (fun d => d.parameters.length) = some 1 := by decide +kernel
def y_MD_fitting : MethodName := ⟨"RowFileModel", "fitting", "()I"⟩
abbrev b_MD_fitting : ByteArray := prog_10_method_19_code
theorem hd_MD_fitting : y_MD_fitting.cls ≠ "java/lang/invoke/MethodHandle" ∧ y_MD_fitting.cls ≠ "java/lang/invoke/VarHandle" ∧ (parseMethodDescriptor y_MD_fitting.desc).map (fun d => d.parameters.length) = some 0 := by decide +kernel
def y_MD_read : MethodName := ⟨"RowFileModel", "read", "([II)I"⟩
abbrev b_MD_read : ByteArray := prog_10_method_20_code
theorem hd_MD_read : y_MD_read.cls ≠ "java/lang/invoke/MethodHandle" ∧ y_MD_read.cls ≠ "java/lang/invoke/VarHandle" ∧ (parseMethodDescriptor y_MD_read.desc).map (fun d => d.parameters.length) = some 2 := by decide +kernel
def y_MD_keyAt : MethodName := ⟨"RowFileModel", "keyAt", "(II)I"⟩
abbrev b_MD_keyAt : ByteArray := prog_10_method_21_code
theorem hd_MD_keyAt : y_MD_keyAt.cls ≠ "java/lang/invoke/MethodHandle" ∧ y_MD_keyAt.cls ≠ "java/lang/invoke/VarHandle" ∧ (parseMethodDescriptor y_MD_keyAt.desc).map (fun d => d.parameters.length) = some 2 := by decide +kernel
def y_MD_child : MethodName := ⟨"RowFileModel", "child", "(II)I"⟩
abbrev b_MD_child : ByteArray := prog_10_method_22_code
theorem hd_MD_child : y_MD_child.cls ≠ "java/lang/invoke/MethodHandle" ∧ y_MD_child.cls ≠ "java/lang/invoke/VarHandle" ∧ (parseMethodDescriptor y_MD_child.desc).map (fun d => d.parameters.length) = some 2 := by decide +kernel
def y_MD_seek : MethodName := ⟨"RowFileModel", "seek", "(II)I"⟩
abbrev b_MD_seek : ByteArray := prog_10_method_23_code
theorem hd_MD_seek : y_MD_seek.cls ≠ "java/lang/invoke/MethodHandle" ∧ y_MD_seek.cls ≠ "java/lang/invoke/VarHandle" ∧ (parseMethodDescriptor y_MD_seek.desc).map (fun d => d.parameters.length) = some 2 := by decide +kernel
def y_MD_goTo : MethodName := ⟨"RowFileModel", "goTo", "(I)I"⟩
abbrev b_MD_goTo : ByteArray := prog_10_method_24_code
theorem hd_MD_goTo : y_MD_goTo.cls ≠ "java/lang/invoke/MethodHandle" ∧ y_MD_goTo.cls ≠ "java/lang/invoke/VarHandle" ∧ (parseMethodDescriptor y_MD_goTo.desc).map (fun d => d.parameters.length) = some 1 := by decide +kernel
def y_MD_find : MethodName := ⟨"RowFileModel", "find", "(I)Z"⟩
abbrev b_MD_find : ByteArray := prog_10_method_25_code
theorem hd_MD_find : y_MD_find.cls ≠ "java/lang/invoke/MethodHandle" ∧ y_MD_find.cls ≠ "java/lang/invoke/VarHandle" ∧ (parseMethodDescriptor y_MD_find.desc).map (fun d => d.parameters.length) = some 1 := by decide +kernel
def y_MD_fetchRecord : MethodName := ⟨"RowFileModel", "fetchRecord", "(II)I"⟩
abbrev b_MD_fetchRecord : ByteArray := prog_10_method_26_code
theorem hd_MD_fetchRecord : y_MD_fetchRecord.cls ≠ "java/lang/invoke/MethodHandle" ∧ y_MD_fetchRecord.cls ≠ "java/lang/invoke/VarHandle" ∧ (parseMethodDescriptor y_MD_fetchRecord.desc).map (fun d => d.parameters.length) = some 2 := by decide +kernel
def y_MD_takePage : MethodName := ⟨"RowFileModel", "takePage", "()I"⟩
abbrev b_MD_takePage : ByteArray := prog_10_method_27_code
theorem hd_MD_takePage : y_MD_takePage.cls ≠ "java/lang/invoke/MethodHandle" ∧ y_MD_takePage.cls ≠ "java/lang/invoke/VarHandle" ∧ (parseMethodDescriptor y_MD_takePage.desc).map (fun d => d.parameters.length) = some 0 := by decide +kernel
def y_MD_free : MethodName := ⟨"RowFileModel", "free", "(I)V"⟩
abbrev b_MD_free : ByteArray := prog_10_method_28_code
theorem hd_MD_free : y_MD_free.cls ≠ "java/lang/invoke/MethodHandle" ∧ y_MD_free.cls ≠ "java/lang/invoke/VarHandle" ∧ (parseMethodDescriptor y_MD_free.desc).map (fun d => d.parameters.length) = some 1 := by decide +kernel
def y_MD_noRoom : MethodName := ⟨"RowFileModel", "noRoom", "()I"⟩
abbrev b_MD_noRoom : ByteArray := prog_10_method_29_code
theorem hd_MD_noRoom : y_MD_noRoom.cls ≠ "java/lang/invoke/MethodHandle" ∧ y_MD_noRoom.cls ≠ "java/lang/invoke/VarHandle" ∧ (parseMethodDescriptor y_MD_noRoom.desc).map (fun d => d.parameters.length) = some 0 := by decide +kernel
def y_MD_makeChain : MethodName := ⟨"RowFileModel", "makeChain", "()I"⟩
abbrev b_MD_makeChain : ByteArray := prog_10_method_30_code
theorem hd_MD_makeChain : y_MD_makeChain.cls ≠ "java/lang/invoke/MethodHandle" ∧ y_MD_makeChain.cls ≠ "java/lang/invoke/VarHandle" ∧ (parseMethodDescriptor y_MD_makeChain.desc).map (fun d => d.parameters.length) = some 0 := by decide +kernel
def y_MD_insert : MethodName := ⟨"RowFileModel", "insert", "(I)I"⟩
abbrev b_MD_insert : ByteArray := prog_10_method_31_code
theorem hd_MD_insert : y_MD_insert.cls ≠ "java/lang/invoke/MethodHandle" ∧ y_MD_insert.cls ≠ "java/lang/invoke/VarHandle" ∧ (parseMethodDescriptor y_MD_insert.desc).map (fun d => d.parameters.length) = some 1 := by decide +kernel
def y_MD_split : MethodName := ⟨"RowFileModel", "split", "()Z"⟩
abbrev b_MD_split : ByteArray := prog_10_method_32_code
theorem hd_MD_split : y_MD_split.cls ≠ "java/lang/invoke/MethodHandle" ∧ y_MD_split.cls ≠ "java/lang/invoke/VarHandle" ∧ (parseMethodDescriptor y_MD_split.desc).map (fun d => d.parameters.length) = some 0 := by decide +kernel
def y_MD_remove : MethodName := ⟨"RowFileModel", "remove", "(I)I"⟩
abbrev b_MD_remove : ByteArray := prog_10_method_33_code
theorem hd_MD_remove : y_MD_remove.cls ≠ "java/lang/invoke/MethodHandle" ∧ y_MD_remove.cls ≠ "java/lang/invoke/VarHandle" ∧ (parseMethodDescriptor y_MD_remove.desc).map (fun d => d.parameters.length) = some 1 := by decide +kernel
def y_MD_lift : MethodName := ⟨"RowFileModel", "lift", "(I)V"⟩
abbrev b_MD_lift : ByteArray := prog_10_method_34_code
theorem hd_MD_lift : y_MD_lift.cls ≠ "java/lang/invoke/MethodHandle" ∧ y_MD_lift.cls ≠ "java/lang/invoke/VarHandle" ∧ (parseMethodDescriptor y_MD_lift.desc).map (fun d => d.parameters.length) = some 1 := by decide +kernel
def y_MD_differs : MethodName := ⟨"RowFileModel", "differs", "(I)Z"⟩
abbrev b_MD_differs : ByteArray := prog_10_method_35_code
theorem hd_MD_differs : y_MD_differs.cls ≠ "java/lang/invoke/MethodHandle" ∧ y_MD_differs.cls ≠ "java/lang/invoke/VarHandle" ∧ (parseMethodDescriptor y_MD_differs.desc).map (fun d => d.parameters.length) = some 1 := by decide +kernel
def y_MD_different : MethodName := ⟨"RowFileModel", "different", "()I"⟩
abbrev b_MD_different : ByteArray := prog_10_method_36_code
theorem hd_MD_different : y_MD_different.cls ≠ "java/lang/invoke/MethodHandle" ∧ y_MD_different.cls ≠ "java/lang/invoke/VarHandle" ∧ (parseMethodDescriptor y_MD_different.desc).map (fun d => d.parameters.length) = some 0 := by decide +kernel
def y_MD_fall : MethodName := ⟨"RowFileModel", "fall", "()Z"⟩
abbrev b_MD_fall : ByteArray := prog_10_method_37_code
theorem hd_MD_fall : y_MD_fall.cls ≠ "java/lang/invoke/MethodHandle" ∧ y_MD_fall.cls ≠ "java/lang/invoke/VarHandle" ∧ (parseMethodDescriptor y_MD_fall.desc).map (fun d => d.parameters.length) = some 0 := by decide +kernel
def y_MD_cut : MethodName := ⟨"RowFileModel", "cut", "()Z"⟩
abbrev b_MD_cut : ByteArray := prog_10_method_38_code
theorem hd_MD_cut : y_MD_cut.cls ≠ "java/lang/invoke/MethodHandle" ∧ y_MD_cut.cls ≠ "java/lang/invoke/VarHandle" ∧ (parseMethodDescriptor y_MD_cut.desc).map (fun d => d.parameters.length) = some 0 := by decide +kernel
def y_MD_commit : MethodName := ⟨"RowFileModel", "commit", "()I"⟩
abbrev b_MD_commit : ByteArray := prog_10_method_39_code
theorem hd_MD_commit : y_MD_commit.cls ≠ "java/lang/invoke/MethodHandle" ∧ y_MD_commit.cls ≠ "java/lang/invoke/VarHandle" ∧ (parseMethodDescriptor y_MD_commit.desc).map (fun d => d.parameters.length) = some 0 := by decide +kernel
def y_MD_write : MethodName := ⟨"RowFileModel", "write", "()Z"⟩
abbrev b_MD_write : ByteArray := prog_10_method_40_code
theorem hd_MD_write : y_MD_write.cls ≠ "java/lang/invoke/MethodHandle" ∧ y_MD_write.cls ≠ "java/lang/invoke/VarHandle" ∧ (parseMethodDescriptor y_MD_write.desc).map (fun d => d.parameters.length) = some 0 := by decide +kernel
def y_MD_undo : MethodName := ⟨"RowFileModel", "undo", "()Z"⟩
abbrev b_MD_undo : ByteArray := prog_10_method_41_code
theorem hd_MD_undo : y_MD_undo.cls ≠ "java/lang/invoke/MethodHandle" ∧ y_MD_undo.cls ≠ "java/lang/invoke/VarHandle" ∧ (parseMethodDescriptor y_MD_undo.desc).map (fun d => d.parameters.length) = some 0 := by decide +kernel
def y_MD_crash : MethodName := ⟨"RowFileModel", "crash", "()Z"⟩
abbrev b_MD_crash : ByteArray := prog_10_method_42_code
theorem hd_MD_crash : y_MD_crash.cls ≠ "java/lang/invoke/MethodHandle" ∧ y_MD_crash.cls ≠ "java/lang/invoke/VarHandle" ∧ (parseMethodDescriptor y_MD_crash.desc).map (fun d => d.parameters.length) = some 0 := by decide +kernel
def y_MD_arm : MethodName := ⟨"RowFileModel", "arm", "(I)Z"⟩
abbrev b_MD_arm : ByteArray := prog_10_method_43_code
theorem hd_MD_arm : y_MD_arm.cls ≠ "java/lang/invoke/MethodHandle" ∧ y_MD_arm.cls ≠ "java/lang/invoke/VarHandle" ∧ (parseMethodDescriptor y_MD_arm.desc).map (fun d => d.parameters.length) = some 1 := by decide +kernel
def y_MD_spoil : MethodName := ⟨"RowFileModel", "spoil", "(III)Z"⟩
abbrev b_MD_spoil : ByteArray := prog_10_method_44_code
theorem hd_MD_spoil : y_MD_spoil.cls ≠ "java/lang/invoke/MethodHandle" ∧ y_MD_spoil.cls ≠ "java/lang/invoke/VarHandle" ∧ (parseMethodDescriptor y_MD_spoil.desc).map (fun d => d.parameters.length) = some 3 := by decide +kernel
def y_MD_open : MethodName := ⟨"RowFileModel", "open", "()I"⟩
abbrev b_MD_open : ByteArray := prog_10_method_45_code
theorem hd_MD_open : y_MD_open.cls ≠ "java/lang/invoke/MethodHandle" ∧ y_MD_open.cls ≠ "java/lang/invoke/VarHandle" ∧ (parseMethodDescriptor y_MD_open.desc).map (fun d => d.parameters.length) = some 0 := by decide +kernel
def y_MD_wellFirst : MethodName := ⟨"RowFileModel", "wellFirst", "()Z"⟩
abbrev b_MD_wellFirst : ByteArray := prog_10_method_46_code
theorem hd_MD_wellFirst : y_MD_wellFirst.cls ≠ "java/lang/invoke/MethodHandle" ∧ y_MD_wellFirst.cls ≠ "java/lang/invoke/VarHandle" ∧ (parseMethodDescriptor y_MD_wellFirst.desc).map (fun d => d.parameters.length) = some 0 := by decide +kernel
def y_MD_meet : MethodName := ⟨"RowFileModel", "meet", "(I)Z"⟩
abbrev b_MD_meet : ByteArray := prog_10_method_47_code
theorem hd_MD_meet : y_MD_meet.cls ≠ "java/lang/invoke/MethodHandle" ∧ y_MD_meet.cls ≠ "java/lang/invoke/VarHandle" ∧ (parseMethodDescriptor y_MD_meet.desc).map (fun d => d.parameters.length) = some 1 := by decide +kernel
def y_MD_wellFree : MethodName := ⟨"RowFileModel", "wellFree", "()Z"⟩
abbrev b_MD_wellFree : ByteArray := prog_10_method_48_code
theorem hd_MD_wellFree : y_MD_wellFree.cls ≠ "java/lang/invoke/MethodHandle" ∧ y_MD_wellFree.cls ≠ "java/lang/invoke/VarHandle" ∧ (parseMethodDescriptor y_MD_wellFree.desc).map (fun d => d.parameters.length) = some 0 := by decide +kernel
def y_MD_wellLaid : MethodName := ⟨"RowFileModel", "wellLaid", "(I)Z"⟩
abbrev b_MD_wellLaid : ByteArray := prog_10_method_49_code
theorem hd_MD_wellLaid : y_MD_wellLaid.cls ≠ "java/lang/invoke/MethodHandle" ∧ y_MD_wellLaid.cls ≠ "java/lang/invoke/VarHandle" ∧ (parseMethodDescriptor y_MD_wellLaid.desc).map (fun d => d.parameters.length) = some 1 := by decide +kernel
def y_MD_wellTree : MethodName := ⟨"RowFileModel", "wellTree", "()I"⟩
abbrev b_MD_wellTree : ByteArray := prog_10_method_50_code
theorem hd_MD_wellTree : y_MD_wellTree.cls ≠ "java/lang/invoke/MethodHandle" ∧ y_MD_wellTree.cls ≠ "java/lang/invoke/VarHandle" ∧ (parseMethodDescriptor y_MD_wellTree.desc).map (fun d => d.parameters.length) = some 0 := by decide +kernel
def y_MD_innerKey : MethodName := ⟨"RowFileModel", "innerKey", "(II)I"⟩
abbrev b_MD_innerKey : ByteArray := prog_10_method_51_code
theorem hd_MD_innerKey : y_MD_innerKey.cls ≠ "java/lang/invoke/MethodHandle" ∧ y_MD_innerKey.cls ≠ "java/lang/invoke/VarHandle" ∧ (parseMethodDescriptor y_MD_innerKey.desc).map (fun d => d.parameters.length) = some 2 := by decide +kernel
def y_MD_wellCell : MethodName := ⟨"RowFileModel", "wellCell", "(II)I"⟩
abbrev b_MD_wellCell : ByteArray := prog_10_method_52_code
theorem hd_MD_wellCell : y_MD_wellCell.cls ≠ "java/lang/invoke/MethodHandle" ∧ y_MD_wellCell.cls ≠ "java/lang/invoke/VarHandle" ∧ (parseMethodDescriptor y_MD_wellCell.desc).map (fun d => d.parameters.length) = some 2 := by decide +kernel
def y_MD_wellRecord : MethodName := ⟨"RowFileModel", "wellRecord", "()Z"⟩
abbrev b_MD_wellRecord : ByteArray := prog_10_method_53_code
theorem hd_MD_wellRecord : y_MD_wellRecord.cls ≠ "java/lang/invoke/MethodHandle" ∧ y_MD_wellRecord.cls ≠ "java/lang/invoke/VarHandle" ∧ (parseMethodDescriptor y_MD_wellRecord.desc).map (fun d => d.parameters.length) = some 0 := by decide +kernel
def y_MD_wellValue : MethodName := ⟨"RowFileModel", "wellValue", "(II)Z"⟩
abbrev b_MD_wellValue : ByteArray := prog_10_method_54_code
theorem hd_MD_wellValue : y_MD_wellValue.cls ≠ "java/lang/invoke/MethodHandle" ∧ y_MD_wellValue.cls ≠ "java/lang/invoke/VarHandle" ∧ (parseMethodDescriptor y_MD_wellValue.desc).map (fun d => d.parameters.length) = some 2 := by decide +kernel
def y_MD_valueAt : MethodName := ⟨"RowFileModel", "valueAt", "(II)J"⟩
abbrev b_MD_valueAt : ByteArray := prog_10_method_55_code
theorem hd_MD_valueAt : y_MD_valueAt.cls ≠ "java/lang/invoke/MethodHandle" ∧ y_MD_valueAt.cls ≠ "java/lang/invoke/VarHandle" ∧ (parseMethodDescriptor y_MD_valueAt.desc).map (fun d => d.parameters.length) = some 2 := by decide +kernel
def y_MD_walk : MethodName := ⟨"RowFileModel", "walk", "(I)I"⟩
abbrev b_MD_walk : ByteArray := prog_10_method_56_code
theorem hd_MD_walk : y_MD_walk.cls ≠ "java/lang/invoke/MethodHandle" ∧ y_MD_walk.cls ≠ "java/lang/invoke/VarHandle" ∧ (parseMethodDescriptor y_MD_walk.desc).map (fun d => d.parameters.length) = some 1 := by decide +kernel
def y_MD_rows : MethodName := ⟨"RowFileModel", "rows", "()I"⟩
abbrev b_MD_rows : ByteArray := prog_10_method_57_code
theorem hd_MD_rows : y_MD_rows.cls ≠ "java/lang/invoke/MethodHandle" ∧ y_MD_rows.cls ≠ "java/lang/invoke/VarHandle" ∧ (parseMethodDescriptor y_MD_rows.desc).map (fun d => d.parameters.length) = some 0 := by decide +kernel
def y_MD_key : MethodName := ⟨"RowFileModel", "key", "(I)I"⟩
abbrev b_MD_key : ByteArray := prog_10_method_58_code
theorem hd_MD_key : y_MD_key.cls ≠ "java/lang/invoke/MethodHandle" ∧ y_MD_key.cls ≠ "java/lang/invoke/VarHandle" ∧ (parseMethodDescriptor y_MD_key.desc).map (fun d => d.parameters.length) = some 1 := by decide +kernel
def y_MD_codeAt : MethodName := ⟨"RowFileModel", "codeAt", "(I)I"⟩
abbrev b_MD_codeAt : ByteArray := prog_10_method_59_code
theorem hd_MD_codeAt : y_MD_codeAt.cls ≠ "java/lang/invoke/MethodHandle" ∧ y_MD_codeAt.cls ≠ "java/lang/invoke/VarHandle" ∧ (parseMethodDescriptor y_MD_codeAt.desc).map (fun d => d.parameters.length) = some 1 := by decide +kernel
def y_MD_columns : MethodName := ⟨"RowFileModel", "columns", "(I)I"⟩
abbrev b_MD_columns : ByteArray := prog_10_method_60_code
theorem hd_MD_columns : y_MD_columns.cls ≠ "java/lang/invoke/MethodHandle" ∧ y_MD_columns.cls ≠ "java/lang/invoke/VarHandle" ∧ (parseMethodDescriptor y_MD_columns.desc).map (fun d => d.parameters.length) = some 1 := by decide +kernel
def y_MD_code : MethodName := ⟨"RowFileModel", "code", "(II)I"⟩
abbrev b_MD_code : ByteArray := prog_10_method_61_code
theorem hd_MD_code : y_MD_code.cls ≠ "java/lang/invoke/MethodHandle" ∧ y_MD_code.cls ≠ "java/lang/invoke/VarHandle" ∧ (parseMethodDescriptor y_MD_code.desc).map (fun d => d.parameters.length) = some 2 := by decide +kernel
def y_MD_value : MethodName := ⟨"RowFileModel", "value", "(III)J"⟩
abbrev b_MD_value : ByteArray := prog_10_method_62_code
theorem hd_MD_value : y_MD_value.cls ≠ "java/lang/invoke/MethodHandle" ∧ y_MD_value.cls ≠ "java/lang/invoke/VarHandle" ∧ (parseMethodDescriptor y_MD_value.desc).map (fun d => d.parameters.length) = some 3 := by decide +kernel
def y_MD_octet : MethodName := ⟨"RowFileModel", "octet", "(IIZ)I"⟩
abbrev b_MD_octet : ByteArray := prog_10_method_63_code
theorem hd_MD_octet : y_MD_octet.cls ≠ "java/lang/invoke/MethodHandle" ∧ y_MD_octet.cls ≠ "java/lang/invoke/VarHandle" ∧ (parseMethodDescriptor y_MD_octet.desc).map (fun d => d.parameters.length) = some 3 := by decide +kernel
def y_MD_journal : MethodName := ⟨"RowFileModel", "journal", "(I)I"⟩
abbrev b_MD_journal : ByteArray := prog_10_method_64_code
theorem hd_MD_journal : y_MD_journal.cls ≠ "java/lang/invoke/MethodHandle" ∧ y_MD_journal.cls ≠ "java/lang/invoke/VarHandle" ∧ (parseMethodDescriptor y_MD_journal.desc).map (fun d => d.parameters.length) = some 1 := by decide +kernel
def y_Disk_init : MethodName := ⟨"RowFile$Disk", "<init>", "()V"⟩
abbrev b_Disk_init : ByteArray := prog_2_method_1_code
theorem hd_Disk_init : y_Disk_init.cls ≠ "java/lang/invoke/MethodHandle" ∧ y_Disk_init.cls ≠ "java/lang/invoke/VarHandle" ∧ (parseMethodDescriptor y_Disk_init.desc).map (fun d => d.parameters.length) = some 0 := by decide +kernel
def y_Disk_markDifferent : MethodName := ⟨"RowFile$Disk", "markDifferent", "(LRowFile$Pages;)I"⟩
abbrev b_Disk_markDifferent : ByteArray := prog_2_method_2_code
theorem hd_Disk_markDifferent : y_Disk_markDifferent.cls ≠ "java/lang/invoke/MethodHandle" ∧ y_Disk_markDifferent.cls ≠ "java/lang/invoke/VarHandle" ∧ (parseMethodDescriptor y_Disk_markDifferent.desc).map (fun d => d.parameters.length) = some 1 := by decide +kernel
def y_Disk_startJournal : MethodName := ⟨"RowFile$Disk", "startJournal", "()V"⟩
abbrev b_Disk_startJournal : ByteArray := prog_2_method_3_code
theorem hd_Disk_startJournal : y_Disk_startJournal.cls ≠ "java/lang/invoke/MethodHandle" ∧ y_Disk_startJournal.cls ≠ "java/lang/invoke/VarHandle" ∧ (parseMethodDescriptor y_Disk_startJournal.desc).map (fun d => d.parameters.length) = some 0 := by decide +kernel
def y_Disk_writeRecord : MethodName := ⟨"RowFile$Disk", "writeRecord", "(I)V"⟩
abbrev b_Disk_writeRecord : ByteArray := prog_2_method_4_code
theorem hd_Disk_writeRecord : y_Disk_writeRecord.cls ≠ "java/lang/invoke/MethodHandle" ∧ y_Disk_writeRecord.cls ≠ "java/lang/invoke/VarHandle" ∧ (parseMethodDescriptor y_Disk_writeRecord.desc).map (fun d => d.parameters.length) = some 1 := by decide +kernel
def y_Disk_writePage : MethodName := ⟨"RowFile$Disk", "writePage", "(LRowFile$Pages;I)V"⟩
abbrev b_Disk_writePage : ByteArray := prog_2_method_5_code
theorem hd_Disk_writePage : y_Disk_writePage.cls ≠ "java/lang/invoke/MethodHandle" ∧ y_Disk_writePage.cls ≠ "java/lang/invoke/VarHandle" ∧ (parseMethodDescriptor y_Disk_writePage.desc).map (fun d => d.parameters.length) = some 2 := by decide +kernel
def y_Disk_tearPage : MethodName := ⟨"RowFile$Disk", "tearPage", "(LRowFile$Pages;I)V"⟩
abbrev b_Disk_tearPage : ByteArray := prog_2_method_6_code
theorem hd_Disk_tearPage : y_Disk_tearPage.cls ≠ "java/lang/invoke/MethodHandle" ∧ y_Disk_tearPage.cls ≠ "java/lang/invoke/VarHandle" ∧ (parseMethodDescriptor y_Disk_tearPage.desc).map (fun d => d.parameters.length) = some 2 := by decide +kernel
def y_Disk_rollBack : MethodName := ⟨"RowFile$Disk", "rollBack", "()V"⟩
abbrev b_Disk_rollBack : ByteArray := prog_2_method_7_code
theorem hd_Disk_rollBack : y_Disk_rollBack.cls ≠ "java/lang/invoke/MethodHandle" ∧ y_Disk_rollBack.cls ≠ "java/lang/invoke/VarHandle" ∧ (parseMethodDescriptor y_Disk_rollBack.desc).map (fun d => d.parameters.length) = some 0 := by decide +kernel
def y_Draft_init : MethodName := ⟨"RowFile$Draft", "<init>", "()V"⟩
abbrev b_Draft_init : ByteArray := prog_3_method_1_code
theorem hd_Draft_init : y_Draft_init.cls ≠ "java/lang/invoke/MethodHandle" ∧ y_Draft_init.cls ≠ "java/lang/invoke/VarHandle" ∧ (parseMethodDescriptor y_Draft_init.desc).map (fun d => d.parameters.length) = some 0 := by decide +kernel
def y_Draft_addNumber : MethodName := ⟨"RowFile$Draft", "addNumber", "(J)Z"⟩
abbrev b_Draft_addNumber : ByteArray := prog_3_method_2_code
theorem hd_Draft_addNumber : y_Draft_addNumber.cls ≠ "java/lang/invoke/MethodHandle" ∧ y_Draft_addNumber.cls ≠ "java/lang/invoke/VarHandle" ∧ (parseMethodDescriptor y_Draft_addNumber.desc).map (fun d => d.parameters.length) = some 1 := by decide +kernel
def y_Draft_addBlob : MethodName := ⟨"RowFile$Draft", "addBlob", "()Z"⟩
abbrev b_Draft_addBlob : ByteArray := prog_3_method_3_code
theorem hd_Draft_addBlob : y_Draft_addBlob.cls ≠ "java/lang/invoke/MethodHandle" ∧ y_Draft_addBlob.cls ≠ "java/lang/invoke/VarHandle" ∧ (parseMethodDescriptor y_Draft_addBlob.desc).map (fun d => d.parameters.length) = some 0 := by decide +kernel
def y_Draft_extendBlob : MethodName := ⟨"RowFile$Draft", "extendBlob", "(IJ)Z"⟩
abbrev b_Draft_extendBlob : ByteArray := prog_3_method_4_code
theorem hd_Draft_extendBlob : y_Draft_extendBlob.cls ≠ "java/lang/invoke/MethodHandle" ∧ y_Draft_extendBlob.cls ≠ "java/lang/invoke/VarHandle" ∧ (parseMethodDescriptor y_Draft_extendBlob.desc).map (fun d => d.parameters.length) = some 2 := by decide +kernel
def y_Check_init : MethodName := ⟨"RowFile$FileCheck", "<init>", "(LRowFile$Pages;LRowFile$Node;LRowFile$RowRecord;)V"⟩
abbrev b_Check_init : ByteArray := prog_4_method_1_code
theorem hd_Check_init : y_Check_init.cls ≠ "java/lang/invoke/MethodHandle" ∧ y_Check_init.cls ≠ "java/lang/invoke/VarHandle" ∧ (parseMethodDescriptor y_Check_init.desc).map (fun d => d.parameters.length) = some 3 := by decide +kernel
def y_Check_holds : MethodName := ⟨"RowFile$FileCheck", "holds", "()Z"⟩
abbrev b_Check_holds : ByteArray := prog_4_method_2_code
theorem hd_Check_holds : y_Check_holds.cls ≠ "java/lang/invoke/MethodHandle" ∧ y_Check_holds.cls ≠ "java/lang/invoke/VarHandle" ∧ (parseMethodDescriptor y_Check_holds.desc).map (fun d => d.parameters.length) = some 0 := by decide +kernel
def y_Check_firstPageHolds : MethodName := ⟨"RowFile$FileCheck", "firstPageHolds", "()Z"⟩
abbrev b_Check_firstPageHolds : ByteArray := prog_4_method_3_code
theorem hd_Check_firstPageHolds : y_Check_firstPageHolds.cls ≠ "java/lang/invoke/MethodHandle" ∧ y_Check_firstPageHolds.cls ≠ "java/lang/invoke/VarHandle" ∧ (parseMethodDescriptor y_Check_firstPageHolds.desc).map (fun d => d.parameters.length) = some 0 := by decide +kernel
def y_Check_listHolds : MethodName := ⟨"RowFile$FileCheck", "listHolds", "()Z"⟩
abbrev b_Check_listHolds : ByteArray := prog_4_method_4_code
theorem hd_Check_listHolds : y_Check_listHolds.cls ≠ "java/lang/invoke/MethodHandle" ∧ y_Check_listHolds.cls ≠ "java/lang/invoke/VarHandle" ∧ (parseMethodDescriptor y_Check_listHolds.desc).map (fun d => d.parameters.length) = some 0 := by decide +kernel
def y_Check_reach : MethodName := ⟨"RowFile$FileCheck", "reach", "(I)Z"⟩
abbrev b_Check_reach : ByteArray := prog_4_method_5_code
theorem hd_Check_reach : y_Check_reach.cls ≠ "java/lang/invoke/MethodHandle" ∧ y_Check_reach.cls ≠ "java/lang/invoke/VarHandle" ∧ (parseMethodDescriptor y_Check_reach.desc).map (fun d => d.parameters.length) = some 1 := by decide +kernel
def y_Check_reachTreePage : MethodName := ⟨"RowFile$FileCheck", "reachTreePage", "(III)Z"⟩
abbrev b_Check_reachTreePage : ByteArray := prog_4_method_6_code
theorem hd_Check_reachTreePage : y_Check_reachTreePage.cls ≠ "java/lang/invoke/MethodHandle" ∧ y_Check_reachTreePage.cls ≠ "java/lang/invoke/VarHandle" ∧ (parseMethodDescriptor y_Check_reachTreePage.desc).map (fun d => d.parameters.length) = some 3 := by decide +kernel
def y_Check_allReached : MethodName := ⟨"RowFile$FileCheck", "allReached", "()Z"⟩
abbrev b_Check_allReached : ByteArray := prog_4_method_7_code
theorem hd_Check_allReached : y_Check_allReached.cls ≠ "java/lang/invoke/MethodHandle" ∧ y_Check_allReached.cls ≠ "java/lang/invoke/VarHandle" ∧ (parseMethodDescriptor y_Check_allReached.desc).map (fun d => d.parameters.length) = some 0 := by decide +kernel
def y_Check_treePageHolds : MethodName := ⟨"RowFile$FileCheck", "treePageHolds", "(III)Z"⟩
abbrev b_Check_treePageHolds : ByteArray := prog_4_method_8_code
theorem hd_Check_treePageHolds : y_Check_treePageHolds.cls ≠ "java/lang/invoke/MethodHandle" ∧ y_Check_treePageHolds.cls ≠ "java/lang/invoke/VarHandle" ∧ (parseMethodDescriptor y_Check_treePageHolds.desc).map (fun d => d.parameters.length) = some 3 := by decide +kernel
def y_Check_rowHolds : MethodName := ⟨"RowFile$FileCheck", "rowHolds", "(I)Z"⟩
abbrev b_Check_rowHolds : ByteArray := prog_4_method_9_code
theorem hd_Check_rowHolds : y_Check_rowHolds.cls ≠ "java/lang/invoke/MethodHandle" ∧ y_Check_rowHolds.cls ≠ "java/lang/invoke/VarHandle" ∧ (parseMethodDescriptor y_Check_rowHolds.desc).map (fun d => d.parameters.length) = some 1 := by decide +kernel
def y_Check_chainHolds : MethodName := ⟨"RowFile$FileCheck", "chainHolds", "(II)Z"⟩
abbrev b_Check_chainHolds : ByteArray := prog_4_method_10_code
theorem hd_Check_chainHolds : y_Check_chainHolds.cls ≠ "java/lang/invoke/MethodHandle" ∧ y_Check_chainHolds.cls ≠ "java/lang/invoke/VarHandle" ∧ (parseMethodDescriptor y_Check_chainHolds.desc).map (fun d => d.parameters.length) = some 2 := by decide +kernel
def y_Node_init : MethodName := ⟨"RowFile$Node", "<init>", "()V"⟩
abbrev b_Node_init : ByteArray := prog_5_method_1_code
theorem hd_Node_init : y_Node_init.cls ≠ "java/lang/invoke/MethodHandle" ∧ y_Node_init.cls ≠ "java/lang/invoke/VarHandle" ∧ (parseMethodDescriptor y_Node_init.desc).map (fun d => d.parameters.length) = some 0 := by decide +kernel
def y_Node_load : MethodName := ⟨"RowFile$Node", "load", "(LRowFile$Pages;I)Z"⟩
abbrev b_Node_load : ByteArray := prog_5_method_2_code
theorem hd_Node_load : y_Node_load.cls ≠ "java/lang/invoke/MethodHandle" ∧ y_Node_load.cls ≠ "java/lang/invoke/VarHandle" ∧ (parseMethodDescriptor y_Node_load.desc).map (fun d => d.parameters.length) = some 2 := by decide +kernel
def y_Node_findCells : MethodName := ⟨"RowFile$Node", "findCells", "(I)Z"⟩
abbrev b_Node_findCells : ByteArray := prog_5_method_3_code
theorem hd_Node_findCells : y_Node_findCells.cls ≠ "java/lang/invoke/MethodHandle" ∧ y_Node_findCells.cls ≠ "java/lang/invoke/VarHandle" ∧ (parseMethodDescriptor y_Node_findCells.desc).map (fun d => d.parameters.length) = some 1 := by decide +kernel
def y_Node_hasCell : MethodName := ⟨"RowFile$Node", "hasCell", "(I)Z"⟩
abbrev b_Node_hasCell : ByteArray := prog_5_method_4_code
theorem hd_Node_hasCell : y_Node_hasCell.cls ≠ "java/lang/invoke/MethodHandle" ∧ y_Node_hasCell.cls ≠ "java/lang/invoke/VarHandle" ∧ (parseMethodDescriptor y_Node_hasCell.desc).map (fun d => d.parameters.length) = some 1 := by decide +kernel
def y_Node_recordLength : MethodName := ⟨"RowFile$Node", "recordLength", "(I)I"⟩
abbrev b_Node_recordLength : ByteArray := prog_5_method_5_code
theorem hd_Node_recordLength : y_Node_recordLength.cls ≠ "java/lang/invoke/MethodHandle" ∧ y_Node_recordLength.cls ≠ "java/lang/invoke/VarHandle" ∧ (parseMethodDescriptor y_Node_recordLength.desc).map (fun d => d.parameters.length) = some 1 := by decide +kernel
def y_Node_cellKey : MethodName := ⟨"RowFile$Node", "cellKey", "(I)I"⟩
abbrev b_Node_cellKey : ByteArray := prog_5_method_6_code
theorem hd_Node_cellKey : y_Node_cellKey.cls ≠ "java/lang/invoke/MethodHandle" ∧ y_Node_cellKey.cls ≠ "java/lang/invoke/VarHandle" ∧ (parseMethodDescriptor y_Node_cellKey.desc).map (fun d => d.parameters.length) = some 1 := by decide +kernel
def y_Node_cellFits : MethodName := ⟨"RowFile$Node", "cellFits", "(I)Z"⟩
abbrev b_Node_cellFits : ByteArray := prog_5_method_7_code
theorem hd_Node_cellFits : y_Node_cellFits.cls ≠ "java/lang/invoke/MethodHandle" ∧ y_Node_cellFits.cls ≠ "java/lang/invoke/VarHandle" ∧ (parseMethodDescriptor y_Node_cellFits.desc).map (fun d => d.parameters.length) = some 1 := by decide +kernel
def y_Node_copyRecord : MethodName := ⟨"RowFile$Node", "copyRecord", "(II[B)V"⟩
abbrev b_Node_copyRecord : ByteArray := prog_5_method_8_code
theorem hd_Node_copyRecord : y_Node_copyRecord.cls ≠ "java/lang/invoke/MethodHandle" ∧ y_Node_copyRecord.cls ≠ "java/lang/invoke/VarHandle" ∧ (parseMethodDescriptor y_Node_copyRecord.desc).map (fun d => d.parameters.length) = some 3 := by decide +kernel
def y_Node_chainStart : MethodName := ⟨"RowFile$Node", "chainStart", "(II)I"⟩
abbrev b_Node_chainStart : ByteArray := prog_5_method_9_code
theorem hd_Node_chainStart : y_Node_chainStart.cls ≠ "java/lang/invoke/MethodHandle" ∧ y_Node_chainStart.cls ≠ "java/lang/invoke/VarHandle" ∧ (parseMethodDescriptor y_Node_chainStart.desc).map (fun d => d.parameters.length) = some 2 := by decide +kernel
def y_Node_child : MethodName := ⟨"RowFile$Node", "child", "(I)I"⟩
abbrev b_Node_child : ByteArray := prog_5_method_10_code
theorem hd_Node_child : y_Node_child.cls ≠ "java/lang/invoke/MethodHandle" ∧ y_Node_child.cls ≠ "java/lang/invoke/VarHandle" ∧ (parseMethodDescriptor y_Node_child.desc).map (fun d => d.parameters.length) = some 1 := by decide +kernel
def y_Node_setChild : MethodName := ⟨"RowFile$Node", "setChild", "(II)V"⟩
abbrev b_Node_setChild : ByteArray := prog_5_method_11_code
theorem hd_Node_setChild : y_Node_setChild.cls ≠ "java/lang/invoke/MethodHandle" ∧ y_Node_setChild.cls ≠ "java/lang/invoke/VarHandle" ∧ (parseMethodDescriptor y_Node_setChild.desc).map (fun d => d.parameters.length) = some 2 := by decide +kernel
def y_Node_slotOf : MethodName := ⟨"RowFile$Node", "slotOf", "(I)I"⟩
abbrev b_Node_slotOf : ByteArray := prog_5_method_12_code
theorem hd_Node_slotOf : y_Node_slotOf.cls ≠ "java/lang/invoke/MethodHandle" ∧ y_Node_slotOf.cls ≠ "java/lang/invoke/VarHandle" ∧ (parseMethodDescriptor y_Node_slotOf.desc).map (fun d => d.parameters.length) = some 1 := by decide +kernel
def y_Node_addCell : MethodName := ⟨"RowFile$Node", "addCell", "(I[BI)V"⟩
abbrev b_Node_addCell : ByteArray := prog_5_method_13_code
theorem hd_Node_addCell : y_Node_addCell.cls ≠ "java/lang/invoke/MethodHandle" ∧ y_Node_addCell.cls ≠ "java/lang/invoke/VarHandle" ∧ (parseMethodDescriptor y_Node_addCell.desc).map (fun d => d.parameters.length) = some 3 := by decide +kernel
def y_Node_dropCell : MethodName := ⟨"RowFile$Node", "dropCell", "(I)V"⟩
abbrev b_Node_dropCell : ByteArray := prog_5_method_14_code
theorem hd_Node_dropCell : y_Node_dropCell.cls ≠ "java/lang/invoke/MethodHandle" ∧ y_Node_dropCell.cls ≠ "java/lang/invoke/VarHandle" ∧ (parseMethodDescriptor y_Node_dropCell.desc).map (fun d => d.parameters.length) = some 1 := by decide +kernel
def y_Node_fitting : MethodName := ⟨"RowFile$Node", "fitting", "()I"⟩
abbrev b_Node_fitting : ByteArray := prog_5_method_15_code
theorem hd_Node_fitting : y_Node_fitting.cls ≠ "java/lang/invoke/MethodHandle" ∧ y_Node_fitting.cls ≠ "java/lang/invoke/VarHandle" ∧ (parseMethodDescriptor y_Node_fitting.desc).map (fun d => d.parameters.length) = some 0 := by decide +kernel
def y_Node_store : MethodName := ⟨"RowFile$Node", "store", "(LRowFile$Pages;IIII)V"⟩
abbrev b_Node_store : ByteArray := prog_5_method_16_code
theorem hd_Node_store : y_Node_store.cls ≠ "java/lang/invoke/MethodHandle" ∧ y_Node_store.cls ≠ "java/lang/invoke/VarHandle" ∧ (parseMethodDescriptor y_Node_store.desc).map (fun d => d.parameters.length) = some 5 := by decide +kernel
def y_Node_storeAll : MethodName := ⟨"RowFile$Node", "storeAll", "(LRowFile$Pages;I)V"⟩
abbrev b_Node_storeAll : ByteArray := prog_5_method_17_code
theorem hd_Node_storeAll : y_Node_storeAll.cls ≠ "java/lang/invoke/MethodHandle" ∧ y_Node_storeAll.cls ≠ "java/lang/invoke/VarHandle" ∧ (parseMethodDescriptor y_Node_storeAll.desc).map (fun d => d.parameters.length) = some 2 := by decide +kernel
def y_Pages_init : MethodName := ⟨"RowFile$Pages", "<init>", "()V"⟩
abbrev b_Pages_init : ByteArray := prog_6_method_1_code
theorem hd_Pages_init : y_Pages_init.cls ≠ "java/lang/invoke/MethodHandle" ∧ y_Pages_init.cls ≠ "java/lang/invoke/VarHandle" ∧ (parseMethodDescriptor y_Pages_init.desc).map (fun d => d.parameters.length) = some 0 := by decide +kernel
def y_Pages_makeEmptyFile : MethodName := ⟨"RowFile$Pages", "makeEmptyFile", "()V"⟩
abbrev b_Pages_makeEmptyFile : ByteArray := prog_6_method_2_code
theorem hd_Pages_makeEmptyFile : y_Pages_makeEmptyFile.cls ≠ "java/lang/invoke/MethodHandle" ∧ y_Pages_makeEmptyFile.cls ≠ "java/lang/invoke/VarHandle" ∧ (parseMethodDescriptor y_Pages_makeEmptyFile.desc).map (fun d => d.parameters.length) = some 0 := by decide +kernel
def y_Pages_has : MethodName := ⟨"RowFile$Pages", "has", "(II)Z"⟩
abbrev b_Pages_has : ByteArray := prog_6_method_3_code
theorem hd_Pages_has : y_Pages_has.cls ≠ "java/lang/invoke/MethodHandle" ∧ y_Pages_has.cls ≠ "java/lang/invoke/VarHandle" ∧ (parseMethodDescriptor y_Pages_has.desc).map (fun d => d.parameters.length) = some 2 := by decide +kernel
def y_Pages_get : MethodName := ⟨"RowFile$Pages", "get", "(II)I"⟩
abbrev b_Pages_get : ByteArray := prog_6_method_4_code
theorem hd_Pages_get : y_Pages_get.cls ≠ "java/lang/invoke/MethodHandle" ∧ y_Pages_get.cls ≠ "java/lang/invoke/VarHandle" ∧ (parseMethodDescriptor y_Pages_get.desc).map (fun d => d.parameters.length) = some 2 := by decide +kernel
def y_Pages_put : MethodName := ⟨"RowFile$Pages", "put", "(III)V"⟩
abbrev b_Pages_put : ByteArray := prog_6_method_5_code
theorem hd_Pages_put : y_Pages_put.cls ≠ "java/lang/invoke/MethodHandle" ∧ y_Pages_put.cls ≠ "java/lang/invoke/VarHandle" ∧ (parseMethodDescriptor y_Pages_put.desc).map (fun d => d.parameters.length) = some 3 := by decide +kernel
def y_Pages_wipe : MethodName := ⟨"RowFile$Pages", "wipe", "(I)V"⟩
abbrev b_Pages_wipe : ByteArray := prog_6_method_6_code
theorem hd_Pages_wipe : y_Pages_wipe.cls ≠ "java/lang/invoke/MethodHandle" ∧ y_Pages_wipe.cls ≠ "java/lang/invoke/VarHandle" ∧ (parseMethodDescriptor y_Pages_wipe.desc).map (fun d => d.parameters.length) = some 1 := by decide +kernel
def y_Pages_copyAll : MethodName := ⟨"RowFile$Pages", "copyAll", "(LRowFile$Pages;)V"⟩
abbrev b_Pages_copyAll : ByteArray := prog_6_method_7_code
theorem hd_Pages_copyAll : y_Pages_copyAll.cls ≠ "java/lang/invoke/MethodHandle" ∧ y_Pages_copyAll.cls ≠ "java/lang/invoke/VarHandle" ∧ (parseMethodDescriptor y_Pages_copyAll.desc).map (fun d => d.parameters.length) = some 1 := by decide +kernel
def y_Pages_copyPage : MethodName := ⟨"RowFile$Pages", "copyPage", "(ILRowFile$Pages;II)V"⟩
abbrev b_Pages_copyPage : ByteArray := prog_6_method_8_code
theorem hd_Pages_copyPage : y_Pages_copyPage.cls ≠ "java/lang/invoke/MethodHandle" ∧ y_Pages_copyPage.cls ≠ "java/lang/invoke/VarHandle" ∧ (parseMethodDescriptor y_Pages_copyPage.desc).map (fun d => d.parameters.length) = some 4 := by decide +kernel
def y_Pages_copyOut : MethodName := ⟨"RowFile$Pages", "copyOut", "(I[BII)V"⟩
abbrev b_Pages_copyOut : ByteArray := prog_6_method_9_code
theorem hd_Pages_copyOut : y_Pages_copyOut.cls ≠ "java/lang/invoke/MethodHandle" ∧ y_Pages_copyOut.cls ≠ "java/lang/invoke/VarHandle" ∧ (parseMethodDescriptor y_Pages_copyOut.desc).map (fun d => d.parameters.length) = some 4 := by decide +kernel
def y_Pages_samePage : MethodName := ⟨"RowFile$Pages", "samePage", "(ILRowFile$Pages;)Z"⟩
abbrev b_Pages_samePage : ByteArray := prog_6_method_10_code
theorem hd_Pages_samePage : y_Pages_samePage.cls ≠ "java/lang/invoke/MethodHandle" ∧ y_Pages_samePage.cls ≠ "java/lang/invoke/VarHandle" ∧ (parseMethodDescriptor y_Pages_samePage.desc).map (fun d => d.parameters.length) = some 2 := by decide +kernel
def y_Pages_zerosFrom : MethodName := ⟨"RowFile$Pages", "zerosFrom", "(II)Z"⟩
abbrev b_Pages_zerosFrom : ByteArray := prog_6_method_11_code
theorem hd_Pages_zerosFrom : y_Pages_zerosFrom.cls ≠ "java/lang/invoke/MethodHandle" ∧ y_Pages_zerosFrom.cls ≠ "java/lang/invoke/VarHandle" ∧ (parseMethodDescriptor y_Pages_zerosFrom.desc).map (fun d => d.parameters.length) = some 2 := by decide +kernel
def y_Pages_root : MethodName := ⟨"RowFile$Pages", "root", "()I"⟩
abbrev b_Pages_root : ByteArray := prog_6_method_12_code
theorem hd_Pages_root : y_Pages_root.cls ≠ "java/lang/invoke/MethodHandle" ∧ y_Pages_root.cls ≠ "java/lang/invoke/VarHandle" ∧ (parseMethodDescriptor y_Pages_root.desc).map (fun d => d.parameters.length) = some 0 := by decide +kernel
def y_Pages_countChange : MethodName := ⟨"RowFile$Pages", "countChange", "()V"⟩
abbrev b_Pages_countChange : ByteArray := prog_6_method_13_code
theorem hd_Pages_countChange : y_Pages_countChange.cls ≠ "java/lang/invoke/MethodHandle" ∧ y_Pages_countChange.cls ≠ "java/lang/invoke/VarHandle" ∧ (parseMethodDescriptor y_Pages_countChange.desc).map (fun d => d.parameters.length) = some 0 := by decide +kernel
def y_Pages_takePage : MethodName := ⟨"RowFile$Pages", "takePage", "()I"⟩
abbrev b_Pages_takePage : ByteArray := prog_6_method_14_code
theorem hd_Pages_takePage : y_Pages_takePage.cls ≠ "java/lang/invoke/MethodHandle" ∧ y_Pages_takePage.cls ≠ "java/lang/invoke/VarHandle" ∧ (parseMethodDescriptor y_Pages_takePage.desc).map (fun d => d.parameters.length) = some 0 := by decide +kernel
def y_Pages_freePage : MethodName := ⟨"RowFile$Pages", "freePage", "(I)V"⟩
abbrev b_Pages_freePage : ByteArray := prog_6_method_15_code
theorem hd_Pages_freePage : y_Pages_freePage.cls ≠ "java/lang/invoke/MethodHandle" ∧ y_Pages_freePage.cls ≠ "java/lang/invoke/VarHandle" ∧ (parseMethodDescriptor y_Pages_freePage.desc).map (fun d => d.parameters.length) = some 1 := by decide +kernel
def y_Rec_init : MethodName := ⟨"RowFile$RowRecord", "<init>", "()V"⟩
abbrev b_Rec_init : ByteArray := prog_7_method_1_code
theorem hd_Rec_init : y_Rec_init.cls ≠ "java/lang/invoke/MethodHandle" ∧ y_Rec_init.cls ≠ "java/lang/invoke/VarHandle" ∧ (parseMethodDescriptor y_Rec_init.desc).map (fun d => d.parameters.length) = some 0 := by decide +kernel
def y_Rec_encode : MethodName := ⟨"RowFile$RowRecord", "encode", "(LRowFile$Draft;)V"⟩
abbrev b_Rec_encode : ByteArray := prog_7_method_2_code
theorem hd_Rec_encode : y_Rec_encode.cls ≠ "java/lang/invoke/MethodHandle" ∧ y_Rec_encode.cls ≠ "java/lang/invoke/VarHandle" ∧ (parseMethodDescriptor y_Rec_encode.desc).map (fun d => d.parameters.length) = some 1 := by decide +kernel
def y_Rec_encodeValue : MethodName := ⟨"RowFile$RowRecord", "encodeValue", "(LRowFile$Draft;I)V"⟩
abbrev b_Rec_encodeValue : ByteArray := prog_7_method_3_code
theorem hd_Rec_encodeValue : y_Rec_encodeValue.cls ≠ "java/lang/invoke/MethodHandle" ∧ y_Rec_encodeValue.cls ≠ "java/lang/invoke/VarHandle" ∧ (parseMethodDescriptor y_Rec_encodeValue.desc).map (fun d => d.parameters.length) = some 2 := by decide +kernel
def y_Rec_read : MethodName := ⟨"RowFile$RowRecord", "read", "(LRowFile$Pages;LRowFile$Node;I)V"⟩
abbrev b_Rec_read : ByteArray := prog_7_method_4_code
theorem hd_Rec_read : y_Rec_read.cls ≠ "java/lang/invoke/MethodHandle" ∧ y_Rec_read.cls ≠ "java/lang/invoke/VarHandle" ∧ (parseMethodDescriptor y_Rec_read.desc).map (fun d => d.parameters.length) = some 3 := by decide +kernel
def y_Rec_decode : MethodName := ⟨"RowFile$RowRecord", "decode", "()Z"⟩
abbrev b_Rec_decode : ByteArray := prog_7_method_5_code
theorem hd_Rec_decode : y_Rec_decode.cls ≠ "java/lang/invoke/MethodHandle" ∧ y_Rec_decode.cls ≠ "java/lang/invoke/VarHandle" ∧ (parseMethodDescriptor y_Rec_decode.desc).map (fun d => d.parameters.length) = some 0 := by decide +kernel
def y_Rec_decodeCodes : MethodName := ⟨"RowFile$RowRecord", "decodeCodes", "(I)I"⟩
abbrev b_Rec_decodeCodes : ByteArray := prog_7_method_6_code
theorem hd_Rec_decodeCodes : y_Rec_decodeCodes.cls ≠ "java/lang/invoke/MethodHandle" ∧ y_Rec_decodeCodes.cls ≠ "java/lang/invoke/VarHandle" ∧ (parseMethodDescriptor y_Rec_decodeCodes.desc).map (fun d => d.parameters.length) = some 1 := by decide +kernel
def y_Rec_hasColumn : MethodName := ⟨"RowFile$RowRecord", "hasColumn", "(I)Z"⟩
abbrev b_Rec_hasColumn : ByteArray := prog_7_method_7_code
theorem hd_Rec_hasColumn : y_Rec_hasColumn.cls ≠ "java/lang/invoke/MethodHandle" ∧ y_Rec_hasColumn.cls ≠ "java/lang/invoke/VarHandle" ∧ (parseMethodDescriptor y_Rec_hasColumn.desc).map (fun d => d.parameters.length) = some 1 := by decide +kernel
def y_Rec_integer : MethodName := ⟨"RowFile$RowRecord", "integer", "(I)J"⟩
abbrev b_Rec_integer : ByteArray := prog_7_method_8_code
theorem hd_Rec_integer : y_Rec_integer.cls ≠ "java/lang/invoke/MethodHandle" ∧ y_Rec_integer.cls ≠ "java/lang/invoke/VarHandle" ∧ (parseMethodDescriptor y_Rec_integer.desc).map (fun d => d.parameters.length) = some 1 := by decide +kernel
def y_Rec_blobByte : MethodName := ⟨"RowFile$RowRecord", "blobByte", "(II)I"⟩
abbrev b_Rec_blobByte : ByteArray := prog_7_method_9_code
theorem hd_Rec_blobByte : y_Rec_blobByte.cls ≠ "java/lang/invoke/MethodHandle" ∧ y_Rec_blobByte.cls ≠ "java/lang/invoke/VarHandle" ∧ (parseMethodDescriptor y_Rec_blobByte.desc).map (fun d => d.parameters.length) = some 2 := by decide +kernel
def y_Tree_init : MethodName := ⟨"RowFile$Tree", "<init>", "(LRowFile$Pages;LRowFile$Node;LRowFile$RowRecord;)V"⟩
abbrev b_Tree_init : ByteArray := prog_8_method_1_code
theorem hd_Tree_init : y_Tree_init.cls ≠ "java/lang/invoke/MethodHandle" ∧ y_Tree_init.cls ≠ "java/lang/invoke/VarHandle" ∧ (parseMethodDescriptor y_Tree_init.desc).map (fun d => d.parameters.length) = some 3 := by decide +kernel
def y_Tree_find : MethodName := ⟨"RowFile$Tree", "find", "(I)Z"⟩
abbrev b_Tree_find : ByteArray := prog_8_method_2_code
theorem hd_Tree_find : y_Tree_find.cls ≠ "java/lang/invoke/MethodHandle" ∧ y_Tree_find.cls ≠ "java/lang/invoke/VarHandle" ∧ (parseMethodDescriptor y_Tree_find.desc).map (fun d => d.parameters.length) = some 1 := by decide +kernel
def y_Tree_readRow : MethodName := ⟨"RowFile$Tree", "readRow", "()Z"⟩
abbrev b_Tree_readRow : ByteArray := prog_8_method_3_code
theorem hd_Tree_readRow : y_Tree_readRow.cls ≠ "java/lang/invoke/MethodHandle" ∧ y_Tree_readRow.cls ≠ "java/lang/invoke/VarHandle" ∧ (parseMethodDescriptor y_Tree_readRow.desc).map (fun d => d.parameters.length) = some 0 := by decide +kernel
def y_Tree_place : MethodName := ⟨"RowFile$Tree", "place", "(I)Z"⟩
abbrev b_Tree_place : ByteArray := prog_8_method_4_code
theorem hd_Tree_place : y_Tree_place.cls ≠ "java/lang/invoke/MethodHandle" ∧ y_Tree_place.cls ≠ "java/lang/invoke/VarHandle" ∧ (parseMethodDescriptor y_Tree_place.desc).map (fun d => d.parameters.length) = some 1 := by decide +kernel
def y_Tree_writeChain : MethodName := ⟨"RowFile$Tree", "writeChain", "()I"⟩
abbrev b_Tree_writeChain : ByteArray := prog_8_method_5_code
theorem hd_Tree_writeChain : y_Tree_writeChain.cls ≠ "java/lang/invoke/MethodHandle" ∧ y_Tree_writeChain.cls ≠ "java/lang/invoke/VarHandle" ∧ (parseMethodDescriptor y_Tree_writeChain.desc).map (fun d => d.parameters.length) = some 0 := by decide +kernel
def y_Tree_makeLeafCell : MethodName := ⟨"RowFile$Tree", "makeLeafCell", "(II)V"⟩
abbrev b_Tree_makeLeafCell : ByteArray := prog_8_method_6_code
theorem hd_Tree_makeLeafCell : y_Tree_makeLeafCell.cls ≠ "java/lang/invoke/MethodHandle" ∧ y_Tree_makeLeafCell.cls ≠ "java/lang/invoke/VarHandle" ∧ (parseMethodDescriptor y_Tree_makeLeafCell.desc).map (fun d => d.parameters.length) = some 2 := by decide +kernel
def y_Tree_makeInnerCell : MethodName := ⟨"RowFile$Tree", "makeInnerCell", "(II)V"⟩
abbrev b_Tree_makeInnerCell : ByteArray := prog_8_method_7_code
theorem hd_Tree_makeInnerCell : y_Tree_makeInnerCell.cls ≠ "java/lang/invoke/MethodHandle" ∧ y_Tree_makeInnerCell.cls ≠ "java/lang/invoke/VarHandle" ∧ (parseMethodDescriptor y_Tree_makeInnerCell.desc).map (fun d => d.parameters.length) = some 2 := by decide +kernel
def y_Tree_settle : MethodName := ⟨"RowFile$Tree", "settle", "()Z"⟩
abbrev b_Tree_settle : ByteArray := prog_8_method_8_code
theorem hd_Tree_settle : y_Tree_settle.cls ≠ "java/lang/invoke/MethodHandle" ∧ y_Tree_settle.cls ≠ "java/lang/invoke/VarHandle" ∧ (parseMethodDescriptor y_Tree_settle.desc).map (fun d => d.parameters.length) = some 0 := by decide +kernel
def y_Tree_deepenRoot : MethodName := ⟨"RowFile$Tree", "deepenRoot", "()Z"⟩
abbrev b_Tree_deepenRoot : ByteArray := prog_8_method_9_code
theorem hd_Tree_deepenRoot : y_Tree_deepenRoot.cls ≠ "java/lang/invoke/MethodHandle" ∧ y_Tree_deepenRoot.cls ≠ "java/lang/invoke/VarHandle" ∧ (parseMethodDescriptor y_Tree_deepenRoot.desc).map (fun d => d.parameters.length) = some 0 := by decide +kernel
def y_Tree_splitTo : MethodName := ⟨"RowFile$Tree", "splitTo", "(II)I"⟩
abbrev b_Tree_splitTo : ByteArray := prog_8_method_10_code
theorem hd_Tree_splitTo : y_Tree_splitTo.cls ≠ "java/lang/invoke/MethodHandle" ∧ y_Tree_splitTo.cls ≠ "java/lang/invoke/VarHandle" ∧ (parseMethodDescriptor y_Tree_splitTo.desc).map (fun d => d.parameters.length) = some 2 := by decide +kernel
def y_Tree_takeOut : MethodName := ⟨"RowFile$Tree", "takeOut", "()V"⟩
abbrev b_Tree_takeOut : ByteArray := prog_8_method_11_code
theorem hd_Tree_takeOut : y_Tree_takeOut.cls ≠ "java/lang/invoke/MethodHandle" ∧ y_Tree_takeOut.cls ≠ "java/lang/invoke/VarHandle" ∧ (parseMethodDescriptor y_Tree_takeOut.desc).map (fun d => d.parameters.length) = some 0 := by decide +kernel
def y_Tree_dropLeaf : MethodName := ⟨"RowFile$Tree", "dropLeaf", "(II)V"⟩
abbrev b_Tree_dropLeaf : ByteArray := prog_8_method_12_code
theorem hd_Tree_dropLeaf : y_Tree_dropLeaf.cls ≠ "java/lang/invoke/MethodHandle" ∧ y_Tree_dropLeaf.cls ≠ "java/lang/invoke/VarHandle" ∧ (parseMethodDescriptor y_Tree_dropLeaf.desc).map (fun d => d.parameters.length) = some 2 := by decide +kernel
def y_Tree_dropInner : MethodName := ⟨"RowFile$Tree", "dropInner", "(II)V"⟩
abbrev b_Tree_dropInner : ByteArray := prog_8_method_13_code
theorem hd_Tree_dropInner : y_Tree_dropInner.cls ≠ "java/lang/invoke/MethodHandle" ∧ y_Tree_dropInner.cls ≠ "java/lang/invoke/VarHandle" ∧ (parseMethodDescriptor y_Tree_dropInner.desc).map (fun d => d.parameters.length) = some 2 := by decide +kernel
def y_Tree_listLeaves : MethodName := ⟨"RowFile$Tree", "listLeaves", "()I"⟩
abbrev b_Tree_listLeaves : ByteArray := prog_8_method_14_code
theorem hd_Tree_listLeaves : y_Tree_listLeaves.cls ≠ "java/lang/invoke/MethodHandle" ∧ y_Tree_listLeaves.cls ≠ "java/lang/invoke/VarHandle" ∧ (parseMethodDescriptor y_Tree_listLeaves.desc).map (fun d => d.parameters.length) = some 0 := by decide +kernel
def y_Tree_countRows : MethodName := ⟨"RowFile$Tree", "countRows", "()I"⟩
abbrev b_Tree_countRows : ByteArray := prog_8_method_15_code
theorem hd_Tree_countRows : y_Tree_countRows.cls ≠ "java/lang/invoke/MethodHandle" ∧ y_Tree_countRows.cls ≠ "java/lang/invoke/VarHandle" ∧ (parseMethodDescriptor y_Tree_countRows.desc).map (fun d => d.parameters.length) = some 0 := by decide +kernel
def y_Tree_keyOfRow : MethodName := ⟨"RowFile$Tree", "keyOfRow", "(I)I"⟩
abbrev b_Tree_keyOfRow : ByteArray := prog_8_method_16_code
theorem hd_Tree_keyOfRow : y_Tree_keyOfRow.cls ≠ "java/lang/invoke/MethodHandle" ∧ y_Tree_keyOfRow.cls ≠ "java/lang/invoke/VarHandle" ∧ (parseMethodDescriptor y_Tree_keyOfRow.desc).map (fun d => d.parameters.length) = some 1 := by decide +kernel
def y_Law_law : MethodName := ⟨"RowFileLaw", "law", "([I)Z"⟩
def y_Object_init : MethodName := ⟨"java/lang/Object", "<init>", "()V"⟩
abbrev b_Object_init : ByteArray := object_method_1_code
theorem hd_Object_init : y_Object_init.cls ≠ "java/lang/invoke/MethodHandle" ∧ y_Object_init.cls ≠ "java/lang/invoke/VarHandle" ∧ (parseMethodDescriptor y_Object_init.desc).map (fun d => d.parameters.length) = some 0 := by decide +kernel
def y_Math_max : MethodName := ⟨"java/lang/Math", "max", "(II)I"⟩
abbrev b_Math_max : ByteArray := prog_11_method_65_code
theorem hd_Math_max : y_Math_max.cls ≠ "java/lang/invoke/MethodHandle" ∧ y_Math_max.cls ≠ "java/lang/invoke/VarHandle" ∧ (parseMethodDescriptor y_Math_max.desc).map (fun d => d.parameters.length) = some 2 := by decide +kernel
def y_Math_min : MethodName := ⟨"java/lang/Math", "min", "(II)I"⟩
abbrev b_Math_min : ByteArray := prog_11_method_69_code
theorem hd_Math_min : y_Math_min.cls ≠ "java/lang/invoke/MethodHandle" ∧ y_Math_min.cls ≠ "java/lang/invoke/VarHandle" ∧ (parseMethodDescriptor y_Math_min.desc).map (fun d => d.parameters.length) = some 2 := by decide +kernel
def y_System_arraycopy : MethodName := ⟨"java/lang/System", "arraycopy", "(Ljava/lang/Object;ILjava/lang/Object;II)V"⟩
theorem hd_System_arraycopy : y_System_arraycopy.cls ≠ "java/lang/invoke/MethodHandle" ∧ y_System_arraycopy.cls ≠ "java/lang/invoke/VarHandle" ∧ (parseMethodDescriptor y_System_arraycopy.desc).map (fun d => d.parameters.length) = some 5 := by decide +kernel
def y_Arrays_fill : MethodName := ⟨"java/util/Arrays", "fill", "([BIIB)V"⟩
abbrev b_Arrays_fill : ByteArray := prog_13_method_110_code
theorem hd_Arrays_fill : y_Arrays_fill.cls ≠ "java/lang/invoke/MethodHandle" ∧ y_Arrays_fill.cls ≠ "java/lang/invoke/VarHandle" ∧ (parseMethodDescriptor y_Arrays_fill.desc).map (fun d => d.parameters.length) = some 4 := by decide +kernel
def y_Arrays_rangeCheck : MethodName := ⟨"java/util/Arrays", "rangeCheck", "(III)V"⟩
abbrev b_Arrays_rangeCheck : ByteArray := prog_13_method_30_code
theorem hd_Arrays_rangeCheck : y_Arrays_rangeCheck.cls ≠ "java/lang/invoke/MethodHandle" ∧ y_Arrays_rangeCheck.cls ≠ "java/lang/invoke/VarHandle" ∧ (parseMethodDescriptor y_Arrays_rangeCheck.desc).map (fun d => d.parameters.length) = some 3 := by decide +kernel
def pu_w0 : List Cond := [(Jvm.Cond.initialized "RowFileLaw"), (Jvm.Cond.initialized "RowFile"), (Jvm.Cond.initialized "RowFile$Draft"), (Jvm.Cond.initialized "RowFile$Pages"), (Jvm.Cond.initialized "RowFile$Disk"), (Jvm.Cond.initialized "RowFile$RowRecord"), (Jvm.Cond.initialized "RowFile$Node"), (Jvm.Cond.initialized "RowFile$Tree"), (Jvm.Cond.initialized "RowFile$FileCheck"), (Jvm.Cond.initialized "java/lang/System"), (Jvm.Cond.initialized "RowFileModel"), (Jvm.Cond.initialized "java/util/Arrays"), (Jvm.Cond.initialized "java/lang/Math"), (Jvm.Cond.classLink "RowFileLaw" (7 : Nat) "RowFile"), (Jvm.Cond.instantiable "RowFile" (10 : Nat)), (Jvm.Cond.methodLink "RowFileLaw" (9 : Nat) y_RF_init), (Jvm.Cond.instanceMethod y_RF_init), (Jvm.Cond.code y_RF_init prog_1_method_1_code (1 : Nat) (Option.none : Option Jvm.ClassFile.FieldType)), (Jvm.Cond.methodLink "RowFile" (3 : Nat) y_Object_init), (Jvm.Cond.instanceMethod y_Object_init), (Jvm.Cond.code y_Object_init object_method_1_code (1 : Nat) (Option.none : Option Jvm.ClassFile.FieldType)), (Jvm.Cond.classLink "RowFile" (9 : Nat) "RowFile$Draft"), (Jvm.Cond.instantiable "RowFile$Draft" (4 : Nat)), (Jvm.Cond.instanceMethod y_Draft_init), (Jvm.Cond.code y_Draft_init prog_3_method_1_code (1 : Nat) (Option.none : Option Jvm.ClassFile.FieldType)), (Jvm.Cond.methodLink "RowFile$Draft" (3 : Nat) y_Object_init), (Jvm.Cond.fieldLink "RowFile$Draft" (9 : Nat) "RowFile$Draft" "codes" "[I"), (Jvm.Cond.fieldLink "RowFile$Draft" (15 : Nat) "RowFile$Draft" "numbers" "[J"), (Jvm.Cond.fieldLink "RowFile$Draft" (19 : Nat) "RowFile$Draft" "blobs" "[B"), (Jvm.Cond.fieldLink "RowFile$Draft" (23 : Nat) "RowFile$Draft" "count" "I"), (Jvm.Cond.laysFinal "RowFile$Draft" "RowFile$Draft" "codes" "[I"), (Jvm.Cond.laysFinal "RowFile$Draft" "RowFile$Draft" "numbers" "[J"), (Jvm.Cond.laysFinal "RowFile$Draft" "RowFile$Draft" "blobs" "[B"), (Jvm.Cond.lays "RowFile$Draft" "RowFile$Draft" "count" "I"), (Jvm.Cond.arrayClass Jvm.ClassFile.FieldType.int), (Jvm.Cond.arrayClass Jvm.ClassFile.FieldType.long), (Jvm.Cond.arrayClass Jvm.ClassFile.FieldType.byte), (Jvm.Cond.classLink "RowFile" (16 : Nat) "RowFile$Pages"), (Jvm.Cond.instantiable "RowFile$Pages" (2 : Nat)), (Jvm.Cond.instanceMethod y_Pages_init), (Jvm.Cond.code y_Pages_init prog_6_method_1_code (1 : Nat) (Option.none : Option Jvm.ClassFile.FieldType)), (Jvm.Cond.methodLink "RowFile$Pages" (3 : Nat) y_Object_init), (Jvm.Cond.fieldLink "RowFile$Pages" (9 : Nat) "RowFile$Pages" "bytes" "[B"), (Jvm.Cond.fieldLink "RowFile$Pages" (15 : Nat) "RowFile$Pages" "count" "I"), (Jvm.Cond.laysFinal "RowFile$Pages" "RowFile$Pages" "bytes" "[B"), (Jvm.Cond.lays "RowFile$Pages" "RowFile$Pages" "count" "I"), (Jvm.Cond.classLink "RowFile" (26 : Nat) "RowFile$Disk"), (Jvm.Cond.instantiable "RowFile$Disk" (7 : Nat)), (Jvm.Cond.instanceMethod y_Disk_init), (Jvm.Cond.code y_Disk_init prog_2_method_1_code (1 : Nat) (Option.none : Option Jvm.ClassFile.FieldType)), (Jvm.Cond.methodLink "RowFile$Disk" (3 : Nat) y_Object_init), (Jvm.Cond.classLink "RowFile$Disk" (9 : Nat) "RowFile$Pages"), (Jvm.Cond.fieldLink "RowFile$Disk" (12 : Nat) "RowFile$Disk" "file" "LRowFile$Pages;"), (Jvm.Cond.fieldLink "RowFile$Disk" (18 : Nat) "RowFile$Disk" "records" "LRowFile$Pages;"), (Jvm.Cond.fieldLink "RowFile$Disk" (21 : Nat) "RowFile$Disk" "recorded" "[Z"), (Jvm.Cond.fieldLink "RowFile$Disk" (25 : Nat) "RowFile$Disk" "different" "[Z"), (Jvm.Cond.fieldLink "RowFile$Disk" (56 : Nat) "RowFile$Disk" "headThere" "Z"), (Jvm.Cond.fieldLink "RowFile$Disk" (60 : Nat) "RowFile$Disk" "headPages" "I"), (Jvm.Cond.fieldLink "RowFile$Disk" (36 : Nat) "RowFile$Disk" "headRecords" "I"), (Jvm.Cond.laysFinal "RowFile$Disk" "RowFile$Disk" "file" "LRowFile$Pages;"), (Jvm.Cond.laysFinal "RowFile$Disk" "RowFile$Disk" "records" "LRowFile$Pages;"), (Jvm.Cond.laysFinal "RowFile$Disk" "RowFile$Disk" "recorded" "[Z"), (Jvm.Cond.laysFinal "RowFile$Disk" "RowFile$Disk" "different" "[Z"), (Jvm.Cond.lays "RowFile$Disk" "RowFile$Disk" "headThere" "Z")]
def pu_w1 : List Cond := [(Jvm.Cond.lays "RowFile$Disk" "RowFile$Disk" "headPages" "I"), (Jvm.Cond.lays "RowFile$Disk" "RowFile$Disk" "headRecords" "I"), (Jvm.Cond.arrayClass Jvm.ClassFile.FieldType.boolean), (Jvm.Cond.classLink "RowFile" (33 : Nat) "RowFile$RowRecord"), (Jvm.Cond.instantiable "RowFile$RowRecord" (5 : Nat)), (Jvm.Cond.instanceMethod y_Rec_init), (Jvm.Cond.code y_Rec_init prog_7_method_1_code (1 : Nat) (Option.none : Option Jvm.ClassFile.FieldType)), (Jvm.Cond.methodLink "RowFile$RowRecord" (3 : Nat) y_Object_init), (Jvm.Cond.fieldLink "RowFile$RowRecord" (9 : Nat) "RowFile$RowRecord" "bytes" "[B"), (Jvm.Cond.fieldLink "RowFile$RowRecord" (37 : Nat) "RowFile$RowRecord" "length" "I"), (Jvm.Cond.fieldLink "RowFile$RowRecord" (15 : Nat) "RowFile$RowRecord" "codes" "[I"), (Jvm.Cond.fieldLink "RowFile$RowRecord" (19 : Nat) "RowFile$RowRecord" "starts" "[I"), (Jvm.Cond.fieldLink "RowFile$RowRecord" (96 : Nat) "RowFile$RowRecord" "count" "I"), (Jvm.Cond.laysFinal "RowFile$RowRecord" "RowFile$RowRecord" "bytes" "[B"), (Jvm.Cond.lays "RowFile$RowRecord" "RowFile$RowRecord" "length" "I"), (Jvm.Cond.laysFinal "RowFile$RowRecord" "RowFile$RowRecord" "codes" "[I"), (Jvm.Cond.laysFinal "RowFile$RowRecord" "RowFile$RowRecord" "starts" "[I"), (Jvm.Cond.lays "RowFile$RowRecord" "RowFile$RowRecord" "count" "I"), (Jvm.Cond.classLink "RowFile" (40 : Nat) "RowFile$Node"), (Jvm.Cond.instantiable "RowFile$Node" (6 : Nat)), (Jvm.Cond.instanceMethod y_Node_init), (Jvm.Cond.code y_Node_init prog_5_method_1_code (1 : Nat) (Option.none : Option Jvm.ClassFile.FieldType)), (Jvm.Cond.methodLink "RowFile$Node" (3 : Nat) y_Object_init), (Jvm.Cond.fieldLink "RowFile$Node" (11 : Nat) "RowFile$Node" "bytes" "[B"), (Jvm.Cond.fieldLink "RowFile$Node" (15 : Nat) "RowFile$Node" "starts" "[I"), (Jvm.Cond.fieldLink "RowFile$Node" (19 : Nat) "RowFile$Node" "sizes" "[I"), (Jvm.Cond.fieldLink "RowFile$Node" (36 : Nat) "RowFile$Node" "count" "I"), (Jvm.Cond.fieldLink "RowFile$Node" (32 : Nat) "RowFile$Node" "last" "I"), (Jvm.Cond.fieldLink "RowFile$Node" (28 : Nat) "RowFile$Node" "leaf" "Z"), (Jvm.Cond.laysFinal "RowFile$Node" "RowFile$Node" "bytes" "[B"), (Jvm.Cond.laysFinal "RowFile$Node" "RowFile$Node" "starts" "[I"), (Jvm.Cond.laysFinal "RowFile$Node" "RowFile$Node" "sizes" "[I"), (Jvm.Cond.lays "RowFile$Node" "RowFile$Node" "count" "I"), (Jvm.Cond.lays "RowFile$Node" "RowFile$Node" "last" "I"), (Jvm.Cond.lays "RowFile$Node" "RowFile$Node" "leaf" "Z"), (Jvm.Cond.classLink "RowFile" (47 : Nat) "RowFile$Tree"), (Jvm.Cond.instantiable "RowFile$Tree" (11 : Nat)), (Jvm.Cond.methodLink "RowFile" (49 : Nat) y_Tree_init), (Jvm.Cond.instanceMethod y_Tree_init), (Jvm.Cond.code y_Tree_init prog_8_method_1_code (4 : Nat) (Option.none : Option Jvm.ClassFile.FieldType)), (Jvm.Cond.methodLink "RowFile$Tree" (3 : Nat) y_Object_init), (Jvm.Cond.fieldLink "RowFile$Tree" (30 : Nat) "RowFile$Tree" "pages" "LRowFile$Pages;"), (Jvm.Cond.fieldLink "RowFile$Tree" (34 : Nat) "RowFile$Tree" "node" "LRowFile$Node;"), (Jvm.Cond.fieldLink "RowFile$Tree" (38 : Nat) "RowFile$Tree" "row" "LRowFile$RowRecord;"), (Jvm.Cond.fieldLink "RowFile$Tree" (9 : Nat) "RowFile$Tree" "path" "[I"), (Jvm.Cond.fieldLink "RowFile$Tree" (15 : Nat) "RowFile$Tree" "slots" "[I"), (Jvm.Cond.fieldLink "RowFile$Tree" (48 : Nat) "RowFile$Tree" "depth" "I"), (Jvm.Cond.fieldLink "RowFile$Tree" (60 : Nat) "RowFile$Tree" "slot" "I"), (Jvm.Cond.fieldLink "RowFile$Tree" (20 : Nat) "RowFile$Tree" "cell" "[B"), (Jvm.Cond.fieldLink "RowFile$Tree" (93 : Nat) "RowFile$Tree" "cellSize" "I"), (Jvm.Cond.fieldLink "RowFile$Tree" (24 : Nat) "RowFile$Tree" "waiting" "[I"), (Jvm.Cond.fieldLink "RowFile$Tree" (27 : Nat) "RowFile$Tree" "leaves" "[I"), (Jvm.Cond.laysFinal "RowFile$Tree" "RowFile$Tree" "pages" "LRowFile$Pages;"), (Jvm.Cond.laysFinal "RowFile$Tree" "RowFile$Tree" "node" "LRowFile$Node;"), (Jvm.Cond.laysFinal "RowFile$Tree" "RowFile$Tree" "row" "LRowFile$RowRecord;"), (Jvm.Cond.laysFinal "RowFile$Tree" "RowFile$Tree" "path" "[I"), (Jvm.Cond.laysFinal "RowFile$Tree" "RowFile$Tree" "slots" "[I"), (Jvm.Cond.lays "RowFile$Tree" "RowFile$Tree" "depth" "I"), (Jvm.Cond.lays "RowFile$Tree" "RowFile$Tree" "slot" "I"), (Jvm.Cond.laysFinal "RowFile$Tree" "RowFile$Tree" "cell" "[B"), (Jvm.Cond.lays "RowFile$Tree" "RowFile$Tree" "cellSize" "I"), (Jvm.Cond.laysFinal "RowFile$Tree" "RowFile$Tree" "waiting" "[I"), (Jvm.Cond.laysFinal "RowFile$Tree" "RowFile$Tree" "leaves" "[I"), (Jvm.Cond.classLink "RowFile" (56 : Nat) "RowFile$FileCheck")]
def pu_w2 : List Cond := [(Jvm.Cond.instantiable "RowFile$FileCheck" (8 : Nat)), (Jvm.Cond.methodLink "RowFile" (61 : Nat) y_Check_init), (Jvm.Cond.instanceMethod y_Check_init), (Jvm.Cond.code y_Check_init prog_4_method_1_code (4 : Nat) (Option.none : Option Jvm.ClassFile.FieldType)), (Jvm.Cond.methodLink "RowFile$FileCheck" (3 : Nat) y_Object_init), (Jvm.Cond.fieldLink "RowFile$FileCheck" (25 : Nat) "RowFile$FileCheck" "file" "LRowFile$Pages;"), (Jvm.Cond.fieldLink "RowFile$FileCheck" (29 : Nat) "RowFile$FileCheck" "node" "LRowFile$Node;"), (Jvm.Cond.fieldLink "RowFile$FileCheck" (33 : Nat) "RowFile$FileCheck" "row" "LRowFile$RowRecord;"), (Jvm.Cond.fieldLink "RowFile$FileCheck" (9 : Nat) "RowFile$FileCheck" "reached" "[Z"), (Jvm.Cond.fieldLink "RowFile$FileCheck" (15 : Nat) "RowFile$FileCheck" "treePages" "[I"), (Jvm.Cond.fieldLink "RowFile$FileCheck" (19 : Nat) "RowFile$FileCheck" "lows" "[I"), (Jvm.Cond.fieldLink "RowFile$FileCheck" (22 : Nat) "RowFile$FileCheck" "highs" "[I"), (Jvm.Cond.fieldLink "RowFile$FileCheck" (37 : Nat) "RowFile$FileCheck" "treeSize" "I"), (Jvm.Cond.laysFinal "RowFile$FileCheck" "RowFile$FileCheck" "file" "LRowFile$Pages;"), (Jvm.Cond.laysFinal "RowFile$FileCheck" "RowFile$FileCheck" "node" "LRowFile$Node;"), (Jvm.Cond.laysFinal "RowFile$FileCheck" "RowFile$FileCheck" "row" "LRowFile$RowRecord;"), (Jvm.Cond.laysFinal "RowFile$FileCheck" "RowFile$FileCheck" "reached" "[Z"), (Jvm.Cond.laysFinal "RowFile$FileCheck" "RowFile$FileCheck" "treePages" "[I"), (Jvm.Cond.laysFinal "RowFile$FileCheck" "RowFile$FileCheck" "lows" "[I"), (Jvm.Cond.laysFinal "RowFile$FileCheck" "RowFile$FileCheck" "highs" "[I"), (Jvm.Cond.lays "RowFile$FileCheck" "RowFile$FileCheck" "treeSize" "I"), (Jvm.Cond.methodLink "RowFile" (74 : Nat) y_Pages_makeEmptyFile), (Jvm.Cond.instanceMethod y_Pages_makeEmptyFile), (Jvm.Cond.selects "RowFile$Pages" y_Pages_makeEmptyFile y_Pages_makeEmptyFile), (Jvm.Cond.code y_Pages_makeEmptyFile prog_6_method_2_code (1 : Nat) (Option.none : Option Jvm.ClassFile.FieldType)), (Jvm.Cond.methodLink "RowFile$Pages" (19 : Nat) y_Pages_put), (Jvm.Cond.instanceMethod y_Pages_put), (Jvm.Cond.selects "RowFile$Pages" y_Pages_put y_Pages_put), (Jvm.Cond.code y_Pages_put prog_6_method_5_code (4 : Nat) (Option.none : Option Jvm.ClassFile.FieldType)), (Jvm.Cond.methodLink "RowFile$Pages" (23 : Nat) y_Pages_has), (Jvm.Cond.instanceMethod y_Pages_has), (Jvm.Cond.selects "RowFile$Pages" y_Pages_has y_Pages_has), (Jvm.Cond.code y_Pages_has prog_6_method_3_code (3 : Nat) (Option.some Jvm.ClassFile.FieldType.boolean)), (Jvm.Cond.methodLink "RowFile" (77 : Nat) y_Pages_copyAll), (Jvm.Cond.instanceMethod y_Pages_copyAll), (Jvm.Cond.selects "RowFile$Pages" y_Pages_copyAll y_Pages_copyAll), (Jvm.Cond.code y_Pages_copyAll prog_6_method_7_code (2 : Nat) (Option.none : Option Jvm.ClassFile.FieldType)), (Jvm.Cond.methodLink "RowFile$Pages" (33 : Nat) y_System_arraycopy), (Jvm.Cond.static y_System_arraycopy), (Jvm.Cond.native y_System_arraycopy), (Jvm.Cond.fieldLink "RowFile" (12 : Nat) "RowFile" "draft" "LRowFile$Draft;"), (Jvm.Cond.fieldLink "RowFile" (19 : Nat) "RowFile" "now" "LRowFile$Pages;"), (Jvm.Cond.fieldLink "RowFile" (23 : Nat) "RowFile" "before" "LRowFile$Pages;"), (Jvm.Cond.fieldLink "RowFile" (29 : Nat) "RowFile" "disk" "LRowFile$Disk;"), (Jvm.Cond.fieldLink "RowFile" (36 : Nat) "RowFile" "row" "LRowFile$RowRecord;"), (Jvm.Cond.fieldLink "RowFile" (43 : Nat) "RowFile" "node" "LRowFile$Node;"), (Jvm.Cond.fieldLink "RowFile" (52 : Nat) "RowFile" "tree" "LRowFile$Tree;"), (Jvm.Cond.fieldLink "RowFile" (62 : Nat) "RowFile" "check" "LRowFile$FileCheck;"), (Jvm.Cond.fieldLink "RowFile" (66 : Nat) "RowFile" "up" "Z"), (Jvm.Cond.fieldLink "RowFile" (70 : Nat) "RowFile" "armed" "I"), (Jvm.Cond.laysFinal "RowFile" "RowFile" "draft" "LRowFile$Draft;"), (Jvm.Cond.laysFinal "RowFile" "RowFile" "now" "LRowFile$Pages;"), (Jvm.Cond.laysFinal "RowFile" "RowFile" "before" "LRowFile$Pages;"), (Jvm.Cond.laysFinal "RowFile" "RowFile" "disk" "LRowFile$Disk;"), (Jvm.Cond.laysFinal "RowFile" "RowFile" "row" "LRowFile$RowRecord;"), (Jvm.Cond.laysFinal "RowFile" "RowFile" "node" "LRowFile$Node;"), (Jvm.Cond.laysFinal "RowFile" "RowFile" "tree" "LRowFile$Tree;"), (Jvm.Cond.laysFinal "RowFile" "RowFile" "check" "LRowFile$FileCheck;"), (Jvm.Cond.lays "RowFile" "RowFile" "up" "Z"), (Jvm.Cond.lays "RowFile" "RowFile" "armed" "I"), (Jvm.Cond.methodLink "RowFileLaw" (15 : Nat) y_RF_number), (Jvm.Cond.instanceMethod y_RF_number), (Jvm.Cond.selects "RowFile" y_RF_number y_RF_number), (Jvm.Cond.code y_RF_number prog_1_method_2_code (3 : Nat) (Option.some Jvm.ClassFile.FieldType.boolean))]
def pu_w3 : List Cond := [(Jvm.Cond.methodLink "RowFile" (81 : Nat) y_Draft_addNumber), (Jvm.Cond.instanceMethod y_Draft_addNumber), (Jvm.Cond.selects "RowFile$Draft" y_Draft_addNumber y_Draft_addNumber), (Jvm.Cond.code y_Draft_addNumber prog_3_method_2_code (3 : Nat) (Option.some Jvm.ClassFile.FieldType.boolean)), (Jvm.Cond.static y_RF_codeOf), (Jvm.Cond.code y_RF_codeOf prog_1_method_30_code (2 : Nat) (Option.some Jvm.ClassFile.FieldType.int)), (Jvm.Cond.methodLink "RowFileLaw" (20 : Nat) y_RF_blob), (Jvm.Cond.instanceMethod y_RF_blob), (Jvm.Cond.selects "RowFile" y_RF_blob y_RF_blob), (Jvm.Cond.code y_RF_blob prog_1_method_3_code (5 : Nat) (Option.some Jvm.ClassFile.FieldType.boolean)), (Jvm.Cond.methodLink "RowFile" (85 : Nat) y_Draft_addBlob), (Jvm.Cond.instanceMethod y_Draft_addBlob), (Jvm.Cond.selects "RowFile$Draft" y_Draft_addBlob y_Draft_addBlob), (Jvm.Cond.code y_Draft_addBlob prog_3_method_3_code (1 : Nat) (Option.some Jvm.ClassFile.FieldType.boolean)), (Jvm.Cond.methodLink "RowFile" (89 : Nat) y_Draft_extendBlob), (Jvm.Cond.instanceMethod y_Draft_extendBlob), (Jvm.Cond.selects "RowFile$Draft" y_Draft_extendBlob y_Draft_extendBlob), (Jvm.Cond.code y_Draft_extendBlob prog_3_method_4_code (7 : Nat) (Option.some Jvm.ClassFile.FieldType.boolean)), (Jvm.Cond.static y_RF_valueSize), (Jvm.Cond.code y_RF_valueSize prog_1_method_31_code (2 : Nat) (Option.some Jvm.ClassFile.FieldType.int)), (Jvm.Cond.methodLink "RowFileLaw" (25 : Nat) y_RF_clear), (Jvm.Cond.instanceMethod y_RF_clear), (Jvm.Cond.selects "RowFile" y_RF_clear y_RF_clear), (Jvm.Cond.code y_RF_clear prog_1_method_4_code (1 : Nat) (Option.none : Option Jvm.ClassFile.FieldType)), (Jvm.Cond.methodLink "RowFileLaw" (29 : Nat) y_RF_insert), (Jvm.Cond.instanceMethod y_RF_insert), (Jvm.Cond.selects "RowFile" y_RF_insert y_RF_insert), (Jvm.Cond.code y_RF_insert prog_1_method_5_code (2 : Nat) (Option.some Jvm.ClassFile.FieldType.int)), (Jvm.Cond.constant "RowFile" (96 : Nat) (1000000 : Int32)), (Jvm.Cond.methodLink "RowFile" (97 : Nat) y_Tree_find), (Jvm.Cond.instanceMethod y_Tree_find), (Jvm.Cond.selects "RowFile$Tree" y_Tree_find y_Tree_find), (Jvm.Cond.code y_Tree_find prog_8_method_2_code (3 : Nat) (Option.some Jvm.ClassFile.FieldType.boolean)), (Jvm.Cond.methodLink "RowFile$Tree" (42 : Nat) y_Pages_root), (Jvm.Cond.instanceMethod y_Pages_root), (Jvm.Cond.selects "RowFile$Pages" y_Pages_root y_Pages_root), (Jvm.Cond.code y_Pages_root prog_6_method_12_code (1 : Nat) (Option.some Jvm.ClassFile.FieldType.int)), (Jvm.Cond.methodLink "RowFile$Pages" (39 : Nat) y_Pages_get), (Jvm.Cond.instanceMethod y_Pages_get), (Jvm.Cond.selects "RowFile$Pages" y_Pages_get y_Pages_get), (Jvm.Cond.code y_Pages_get prog_6_method_4_code (3 : Nat) (Option.some Jvm.ClassFile.FieldType.int)), (Jvm.Cond.methodLink "RowFile$Tree" (52 : Nat) y_Node_load), (Jvm.Cond.instanceMethod y_Node_load), (Jvm.Cond.selects "RowFile$Node" y_Node_load y_Node_load), (Jvm.Cond.code y_Node_load prog_5_method_2_code (4 : Nat) (Option.some Jvm.ClassFile.FieldType.boolean)), (Jvm.Cond.methodLink "RowFile$Node" (22 : Nat) y_Pages_get), (Jvm.Cond.methodLink "RowFile$Node" (39 : Nat) y_Node_findCells), (Jvm.Cond.instanceMethod y_Node_findCells), (Jvm.Cond.code y_Node_findCells prog_5_method_3_code (4 : Nat) (Option.some Jvm.ClassFile.FieldType.boolean)), (Jvm.Cond.methodLink "RowFile$Tree" (56 : Nat) y_Node_slotOf), (Jvm.Cond.instanceMethod y_Node_slotOf), (Jvm.Cond.selects "RowFile$Node" y_Node_slotOf y_Node_slotOf), (Jvm.Cond.code y_Node_slotOf prog_5_method_12_code (3 : Nat) (Option.some Jvm.ClassFile.FieldType.int)), (Jvm.Cond.methodLink "RowFile$Node" (57 : Nat) y_Node_cellKey), (Jvm.Cond.instanceMethod y_Node_cellKey), (Jvm.Cond.selects "RowFile$Node" y_Node_cellKey y_Node_cellKey), (Jvm.Cond.code y_Node_cellKey prog_5_method_6_code (4 : Nat) (Option.some Jvm.ClassFile.FieldType.int)), (Jvm.Cond.methodLink "RowFile$Node" (43 : Nat) y_Node_hasCell), (Jvm.Cond.instanceMethod y_Node_hasCell), (Jvm.Cond.code y_Node_hasCell prog_5_method_4_code (2 : Nat) (Option.some Jvm.ClassFile.FieldType.boolean)), (Jvm.Cond.methodLink "RowFile$Node" (50 : Nat) y_Node_recordLength), (Jvm.Cond.instanceMethod y_Node_recordLength), (Jvm.Cond.selects "RowFile$Node" y_Node_recordLength y_Node_recordLength), (Jvm.Cond.code y_Node_recordLength prog_5_method_5_code (2 : Nat) (Option.some Jvm.ClassFile.FieldType.int))]
def pu_w4 : List Cond := [(Jvm.Cond.static y_RF_readVarint), (Jvm.Cond.code y_RF_readVarint prog_1_method_29_code (6 : Nat) (Option.some Jvm.ClassFile.FieldType.int)), (Jvm.Cond.static y_RF_varintSize), (Jvm.Cond.code y_RF_varintSize prog_1_method_27_code (1 : Nat) (Option.some Jvm.ClassFile.FieldType.int)), (Jvm.Cond.methodLink "RowFile$Tree" (67 : Nat) y_Node_child), (Jvm.Cond.instanceMethod y_Node_child), (Jvm.Cond.selects "RowFile$Node" y_Node_child y_Node_child), (Jvm.Cond.code y_Node_child prog_5_method_10_code (2 : Nat) (Option.some Jvm.ClassFile.FieldType.int)), (Jvm.Cond.methodLink "RowFile$Tree" (70 : Nat) y_Node_cellKey), (Jvm.Cond.methodLink "RowFile" (101 : Nat) y_Rec_encode), (Jvm.Cond.instanceMethod y_Rec_encode), (Jvm.Cond.selects "RowFile$RowRecord" y_Rec_encode y_Rec_encode), (Jvm.Cond.code y_Rec_encode prog_7_method_2_code (4 : Nat) (Option.none : Option Jvm.ClassFile.FieldType)), (Jvm.Cond.static y_RF_writeVarint), (Jvm.Cond.code y_RF_writeVarint prog_1_method_28_code (6 : Nat) (Option.some Jvm.ClassFile.FieldType.int)), (Jvm.Cond.methodLink "RowFile" (211 : Nat) y_RF_varintSize), (Jvm.Cond.methodLink "RowFile$RowRecord" (40 : Nat) y_Rec_encodeValue), (Jvm.Cond.instanceMethod y_Rec_encodeValue), (Jvm.Cond.code y_Rec_encodeValue prog_7_method_3_code (5 : Nat) (Option.none : Option Jvm.ClassFile.FieldType)), (Jvm.Cond.methodLink "RowFile$RowRecord" (50 : Nat) y_System_arraycopy), (Jvm.Cond.methodLink "RowFile" (105 : Nat) y_Tree_place), (Jvm.Cond.instanceMethod y_Tree_place), (Jvm.Cond.selects "RowFile$Tree" y_Tree_place y_Tree_place), (Jvm.Cond.code y_Tree_place prog_8_method_4_code (3 : Nat) (Option.some Jvm.ClassFile.FieldType.boolean)), (Jvm.Cond.methodLink "RowFile$Tree" (86 : Nat) y_Tree_writeChain), (Jvm.Cond.instanceMethod y_Tree_writeChain), (Jvm.Cond.code y_Tree_writeChain prog_8_method_5_code (7 : Nat) (Option.some Jvm.ClassFile.FieldType.int)), (Jvm.Cond.static y_RF_chainPages), (Jvm.Cond.code y_RF_chainPages prog_1_method_33_code (1 : Nat) (Option.some Jvm.ClassFile.FieldType.int)), (Jvm.Cond.methodLink "RowFile" (214 : Nat) y_RF_sizeInLeaf), (Jvm.Cond.static y_RF_sizeInLeaf), (Jvm.Cond.code y_RF_sizeInLeaf prog_1_method_32_code (1 : Nat) (Option.some Jvm.ClassFile.FieldType.int)), (Jvm.Cond.methodLink "RowFile$Tree" (106 : Nat) y_Pages_takePage), (Jvm.Cond.instanceMethod y_Pages_takePage), (Jvm.Cond.selects "RowFile$Pages" y_Pages_takePage y_Pages_takePage), (Jvm.Cond.code y_Pages_takePage prog_6_method_14_code (2 : Nat) (Option.some Jvm.ClassFile.FieldType.int)), (Jvm.Cond.methodLink "RowFile$Pages" (43 : Nat) y_Pages_wipe), (Jvm.Cond.instanceMethod y_Pages_wipe), (Jvm.Cond.selects "RowFile$Pages" y_Pages_wipe y_Pages_wipe), (Jvm.Cond.code y_Pages_wipe prog_6_method_6_code (3 : Nat) (Option.none : Option Jvm.ClassFile.FieldType)), (Jvm.Cond.methodLink "RowFile$Pages" (27 : Nat) y_Arrays_fill), (Jvm.Cond.static y_Arrays_fill), (Jvm.Cond.code y_Arrays_fill prog_13_method_110_code (5 : Nat) (Option.none : Option Jvm.ClassFile.FieldType)), (Jvm.Cond.methodLink "java/util/Arrays" (13 : Nat) y_Arrays_rangeCheck), (Jvm.Cond.static y_Arrays_rangeCheck), (Jvm.Cond.code y_Arrays_rangeCheck prog_13_method_30_code (3 : Nat) (Option.none : Option Jvm.ClassFile.FieldType)), (Jvm.Cond.methodLink "RowFile$Tree" (109 : Nat) y_Pages_put), (Jvm.Cond.methodLink "RowFile$Tree" (89 : Nat) y_Tree_makeLeafCell), (Jvm.Cond.instanceMethod y_Tree_makeLeafCell), (Jvm.Cond.code y_Tree_makeLeafCell prog_8_method_6_code (4 : Nat) (Option.none : Option Jvm.ClassFile.FieldType)), (Jvm.Cond.methodLink "RowFile$Tree" (123 : Nat) y_System_arraycopy), (Jvm.Cond.methodLink "RowFile$Tree" (96 : Nat) y_Node_addCell), (Jvm.Cond.instanceMethod y_Node_addCell), (Jvm.Cond.selects "RowFile$Node" y_Node_addCell y_Node_addCell), (Jvm.Cond.code y_Node_addCell prog_5_method_13_code (4 : Nat) (Option.none : Option Jvm.ClassFile.FieldType)), (Jvm.Cond.methodLink "RowFile$Node" (63 : Nat) y_System_arraycopy), (Jvm.Cond.methodLink "RowFile$Tree" (100 : Nat) y_Tree_settle), (Jvm.Cond.instanceMethod y_Tree_settle), (Jvm.Cond.code y_Tree_settle prog_8_method_8_code (4 : Nat) (Option.some Jvm.ClassFile.FieldType.boolean)), (Jvm.Cond.methodLink "RowFile$Tree" (129 : Nat) y_Node_fitting), (Jvm.Cond.instanceMethod y_Node_fitting), (Jvm.Cond.selects "RowFile$Node" y_Node_fitting y_Node_fitting), (Jvm.Cond.code y_Node_fitting prog_5_method_15_code (3 : Nat) (Option.some Jvm.ClassFile.FieldType.int)), (Jvm.Cond.methodLink "RowFile$Tree" (135 : Nat) y_Tree_deepenRoot)]
def pu_w5 : List Cond := [(Jvm.Cond.instanceMethod y_Tree_deepenRoot), (Jvm.Cond.code y_Tree_deepenRoot prog_8_method_9_code (2 : Nat) (Option.some Jvm.ClassFile.FieldType.boolean)), (Jvm.Cond.methodLink "RowFile$Tree" (149 : Nat) y_Pages_wipe), (Jvm.Cond.methodLink "RowFile$Tree" (138 : Nat) y_Tree_splitTo), (Jvm.Cond.instanceMethod y_Tree_splitTo), (Jvm.Cond.code y_Tree_splitTo prog_8_method_10_code (5 : Nat) (Option.some Jvm.ClassFile.FieldType.int)), (Jvm.Cond.methodLink "RowFile$Tree" (153 : Nat) y_Node_store), (Jvm.Cond.instanceMethod y_Node_store), (Jvm.Cond.selects "RowFile$Node" y_Node_store y_Node_store), (Jvm.Cond.code y_Node_store prog_5_method_16_code (9 : Nat) (Option.none : Option Jvm.ClassFile.FieldType)), (Jvm.Cond.methodLink "RowFile$Node" (69 : Nat) y_Pages_wipe), (Jvm.Cond.methodLink "RowFile$Node" (73 : Nat) y_Pages_put), (Jvm.Cond.methodLink "RowFile$Tree" (142 : Nat) y_Tree_makeInnerCell), (Jvm.Cond.instanceMethod y_Tree_makeInnerCell), (Jvm.Cond.code y_Tree_makeInnerCell prog_8_method_7_code (3 : Nat) (Option.none : Option Jvm.ClassFile.FieldType)), (Jvm.Cond.methodLink "RowFile$Tree" (145 : Nat) y_Node_storeAll), (Jvm.Cond.instanceMethod y_Node_storeAll), (Jvm.Cond.selects "RowFile$Node" y_Node_storeAll y_Node_storeAll), (Jvm.Cond.code y_Node_storeAll prog_5_method_17_code (3 : Nat) (Option.none : Option Jvm.ClassFile.FieldType)), (Jvm.Cond.methodLink "RowFile$Node" (77 : Nat) y_Node_store), (Jvm.Cond.methodLink "RowFileLaw" (34 : Nat) y_RF_remove), (Jvm.Cond.instanceMethod y_RF_remove), (Jvm.Cond.selects "RowFile" y_RF_remove y_RF_remove), (Jvm.Cond.code y_RF_remove prog_1_method_6_code (2 : Nat) (Option.some Jvm.ClassFile.FieldType.int)), (Jvm.Cond.methodLink "RowFile" (108 : Nat) y_Tree_takeOut), (Jvm.Cond.instanceMethod y_Tree_takeOut), (Jvm.Cond.selects "RowFile$Tree" y_Tree_takeOut y_Tree_takeOut), (Jvm.Cond.code y_Tree_takeOut prog_8_method_11_code (5 : Nat) (Option.none : Option Jvm.ClassFile.FieldType)), (Jvm.Cond.methodLink "RowFile$Tree" (160 : Nat) y_Node_recordLength), (Jvm.Cond.methodLink "RowFile$Tree" (163 : Nat) y_Node_chainStart), (Jvm.Cond.instanceMethod y_Node_chainStart), (Jvm.Cond.selects "RowFile$Node" y_Node_chainStart y_Node_chainStart), (Jvm.Cond.code y_Node_chainStart prog_5_method_9_code (3 : Nat) (Option.some Jvm.ClassFile.FieldType.int)), (Jvm.Cond.methodLink "RowFile$Tree" (166 : Nat) y_Node_dropCell), (Jvm.Cond.instanceMethod y_Node_dropCell), (Jvm.Cond.selects "RowFile$Node" y_Node_dropCell y_Node_dropCell), (Jvm.Cond.code y_Node_dropCell prog_5_method_14_code (2 : Nat) (Option.none : Option Jvm.ClassFile.FieldType)), (Jvm.Cond.methodLink "RowFile$Tree" (169 : Nat) y_Pages_get), (Jvm.Cond.methodLink "RowFile$Tree" (172 : Nat) y_Pages_freePage), (Jvm.Cond.instanceMethod y_Pages_freePage), (Jvm.Cond.selects "RowFile$Pages" y_Pages_freePage y_Pages_freePage), (Jvm.Cond.code y_Pages_freePage prog_6_method_15_code (2 : Nat) (Option.none : Option Jvm.ClassFile.FieldType)), (Jvm.Cond.methodLink "RowFile$Tree" (175 : Nat) y_Tree_dropLeaf), (Jvm.Cond.instanceMethod y_Tree_dropLeaf), (Jvm.Cond.code y_Tree_dropLeaf prog_8_method_12_code (4 : Nat) (Option.none : Option Jvm.ClassFile.FieldType)), (Jvm.Cond.methodLink "RowFile$Tree" (178 : Nat) y_Tree_dropInner), (Jvm.Cond.instanceMethod y_Tree_dropInner), (Jvm.Cond.code y_Tree_dropInner prog_8_method_13_code (3 : Nat) (Option.none : Option Jvm.ClassFile.FieldType)), (Jvm.Cond.methodLink "RowFile$Tree" (181 : Nat) y_Pages_copyPage), (Jvm.Cond.instanceMethod y_Pages_copyPage), (Jvm.Cond.selects "RowFile$Pages" y_Pages_copyPage y_Pages_copyPage), (Jvm.Cond.code y_Pages_copyPage prog_6_method_8_code (5 : Nat) (Option.none : Option Jvm.ClassFile.FieldType)), (Jvm.Cond.methodLink "RowFile$Tree" (185 : Nat) y_Node_setChild), (Jvm.Cond.instanceMethod y_Node_setChild), (Jvm.Cond.selects "RowFile$Node" y_Node_setChild y_Node_setChild), (Jvm.Cond.code y_Node_setChild prog_5_method_11_code (3 : Nat) (Option.none : Option Jvm.ClassFile.FieldType)), (Jvm.Cond.methodLink "RowFileLaw" (38 : Nat) y_RF_commit), (Jvm.Cond.instanceMethod y_RF_commit), (Jvm.Cond.selects "RowFile" y_RF_commit y_RF_commit), (Jvm.Cond.code y_RF_commit prog_1_method_7_code (2 : Nat) (Option.some Jvm.ClassFile.FieldType.int)), (Jvm.Cond.methodLink "RowFile" (111 : Nat) y_Disk_markDifferent), (Jvm.Cond.instanceMethod y_Disk_markDifferent), (Jvm.Cond.selects "RowFile$Disk" y_Disk_markDifferent y_Disk_markDifferent), (Jvm.Cond.code y_Disk_markDifferent prog_2_method_2_code (4 : Nat) (Option.some Jvm.ClassFile.FieldType.int))]
def pu_w6 : List Cond := [(Jvm.Cond.methodLink "RowFile$Disk" (32 : Nat) y_Pages_samePage), (Jvm.Cond.instanceMethod y_Pages_samePage), (Jvm.Cond.selects "RowFile$Pages" y_Pages_samePage y_Pages_samePage), (Jvm.Cond.code y_Pages_samePage prog_6_method_10_code (4 : Nat) (Option.some Jvm.ClassFile.FieldType.boolean)), (Jvm.Cond.methodLink "RowFile" (115 : Nat) y_Pages_countChange), (Jvm.Cond.instanceMethod y_Pages_countChange), (Jvm.Cond.selects "RowFile$Pages" y_Pages_countChange y_Pages_countChange), (Jvm.Cond.code y_Pages_countChange prog_6_method_13_code (2 : Nat) (Option.none : Option Jvm.ClassFile.FieldType)), (Jvm.Cond.methodLink "RowFile" (118 : Nat) y_RF_writeRecords), (Jvm.Cond.instanceMethod y_RF_writeRecords), (Jvm.Cond.code y_RF_writeRecords prog_1_method_23_code (2 : Nat) (Option.some Jvm.ClassFile.FieldType.boolean)), (Jvm.Cond.methodLink "RowFile" (190 : Nat) y_Disk_startJournal), (Jvm.Cond.instanceMethod y_Disk_startJournal), (Jvm.Cond.selects "RowFile$Disk" y_Disk_startJournal y_Disk_startJournal), (Jvm.Cond.code y_Disk_startJournal prog_2_method_3_code (2 : Nat) (Option.none : Option Jvm.ClassFile.FieldType)), (Jvm.Cond.methodLink "RowFile" (197 : Nat) y_RF_writeFails), (Jvm.Cond.instanceMethod y_RF_writeFails), (Jvm.Cond.code y_RF_writeFails prog_1_method_22_code (1 : Nat) (Option.some Jvm.ClassFile.FieldType.boolean)), (Jvm.Cond.methodLink "RowFile" (200 : Nat) y_Disk_writeRecord), (Jvm.Cond.instanceMethod y_Disk_writeRecord), (Jvm.Cond.selects "RowFile$Disk" y_Disk_writeRecord y_Disk_writeRecord), (Jvm.Cond.code y_Disk_writeRecord prog_2_method_4_code (2 : Nat) (Option.none : Option Jvm.ClassFile.FieldType)), (Jvm.Cond.methodLink "RowFile$Disk" (39 : Nat) y_Pages_has), (Jvm.Cond.methodLink "RowFile$Disk" (43 : Nat) y_Pages_copyPage), (Jvm.Cond.methodLink "RowFile" (121 : Nat) y_RF_writeHead), (Jvm.Cond.instanceMethod y_RF_writeHead), (Jvm.Cond.code y_RF_writeHead prog_1_method_24_code (1 : Nat) (Option.some Jvm.ClassFile.FieldType.boolean)), (Jvm.Cond.methodLink "RowFile" (124 : Nat) y_RF_writePages), (Jvm.Cond.instanceMethod y_RF_writePages), (Jvm.Cond.code y_RF_writePages prog_1_method_25_code (2 : Nat) (Option.some Jvm.ClassFile.FieldType.boolean)), (Jvm.Cond.methodLink "RowFile" (204 : Nat) y_Disk_tearPage), (Jvm.Cond.instanceMethod y_Disk_tearPage), (Jvm.Cond.selects "RowFile$Disk" y_Disk_tearPage y_Disk_tearPage), (Jvm.Cond.code y_Disk_tearPage prog_2_method_6_code (3 : Nat) (Option.none : Option Jvm.ClassFile.FieldType)), (Jvm.Cond.methodLink "RowFile" (208 : Nat) y_Disk_writePage), (Jvm.Cond.instanceMethod y_Disk_writePage), (Jvm.Cond.selects "RowFile$Disk" y_Disk_writePage y_Disk_writePage), (Jvm.Cond.code y_Disk_writePage prog_2_method_5_code (3 : Nat) (Option.none : Option Jvm.ClassFile.FieldType)), (Jvm.Cond.methodLink "RowFile$Disk" (47 : Nat) y_Math_min), (Jvm.Cond.static y_Math_min), (Jvm.Cond.code y_Math_min prog_11_method_69_code (2 : Nat) (Option.some Jvm.ClassFile.FieldType.int)), (Jvm.Cond.methodLink "RowFile$Disk" (53 : Nat) y_Math_max), (Jvm.Cond.static y_Math_max), (Jvm.Cond.code y_Math_max prog_11_method_65_code (2 : Nat) (Option.some Jvm.ClassFile.FieldType.int)), (Jvm.Cond.methodLink "RowFile" (127 : Nat) y_RF_dropHead), (Jvm.Cond.instanceMethod y_RF_dropHead), (Jvm.Cond.code y_RF_dropHead prog_1_method_26_code (1 : Nat) (Option.some Jvm.ClassFile.FieldType.boolean)), (Jvm.Cond.methodLink "RowFile" (130 : Nat) y_RF_goDown), (Jvm.Cond.instanceMethod y_RF_goDown), (Jvm.Cond.code y_RF_goDown prog_1_method_21_code (1 : Nat) (Option.none : Option Jvm.ClassFile.FieldType)), (Jvm.Cond.methodLink "RowFileLaw" (43 : Nat) y_RF_undo), (Jvm.Cond.instanceMethod y_RF_undo), (Jvm.Cond.selects "RowFile" y_RF_undo y_RF_undo), (Jvm.Cond.code y_RF_undo prog_1_method_8_code (1 : Nat) (Option.some Jvm.ClassFile.FieldType.boolean)), (Jvm.Cond.methodLink "RowFileLaw" (48 : Nat) y_RF_crash), (Jvm.Cond.instanceMethod y_RF_crash), (Jvm.Cond.selects "RowFile" y_RF_crash y_RF_crash), (Jvm.Cond.code y_RF_crash prog_1_method_9_code (1 : Nat) (Option.some Jvm.ClassFile.FieldType.boolean)), (Jvm.Cond.methodLink "RowFileLaw" (52 : Nat) y_RF_arm), (Jvm.Cond.instanceMethod y_RF_arm), (Jvm.Cond.selects "RowFile" y_RF_arm y_RF_arm), (Jvm.Cond.code y_RF_arm prog_1_method_10_code (2 : Nat) (Option.some Jvm.ClassFile.FieldType.boolean)), (Jvm.Cond.methodLink "RowFileLaw" (57 : Nat) y_RF_open), (Jvm.Cond.instanceMethod y_RF_open)]
def pu_w7 : List Cond := [(Jvm.Cond.selects "RowFile" y_RF_open y_RF_open), (Jvm.Cond.code y_RF_open prog_1_method_11_code (1 : Nat) (Option.some Jvm.ClassFile.FieldType.int)), (Jvm.Cond.methodLink "RowFile" (133 : Nat) y_Disk_rollBack), (Jvm.Cond.instanceMethod y_Disk_rollBack), (Jvm.Cond.selects "RowFile$Disk" y_Disk_rollBack y_Disk_rollBack), (Jvm.Cond.code y_Disk_rollBack prog_2_method_7_code (2 : Nat) (Option.none : Option Jvm.ClassFile.FieldType)), (Jvm.Cond.methodLink "RowFile" (136 : Nat) y_Check_holds), (Jvm.Cond.instanceMethod y_Check_holds), (Jvm.Cond.selects "RowFile$FileCheck" y_Check_holds y_Check_holds), (Jvm.Cond.code y_Check_holds prog_4_method_2_code (2 : Nat) (Option.some Jvm.ClassFile.FieldType.boolean)), (Jvm.Cond.methodLink "RowFile$FileCheck" (41 : Nat) y_Check_firstPageHolds), (Jvm.Cond.instanceMethod y_Check_firstPageHolds), (Jvm.Cond.code y_Check_firstPageHolds prog_4_method_3_code (1 : Nat) (Option.some Jvm.ClassFile.FieldType.boolean)), (Jvm.Cond.methodLink "RowFile$FileCheck" (65 : Nat) y_Pages_get), (Jvm.Cond.methodLink "RowFile$FileCheck" (72 : Nat) y_Pages_zerosFrom), (Jvm.Cond.instanceMethod y_Pages_zerosFrom), (Jvm.Cond.selects "RowFile$Pages" y_Pages_zerosFrom y_Pages_zerosFrom), (Jvm.Cond.code y_Pages_zerosFrom prog_6_method_11_code (4 : Nat) (Option.some Jvm.ClassFile.FieldType.boolean)), (Jvm.Cond.methodLink "RowFile$FileCheck" (45 : Nat) y_Check_listHolds), (Jvm.Cond.instanceMethod y_Check_listHolds), (Jvm.Cond.code y_Check_listHolds prog_4_method_4_code (4 : Nat) (Option.some Jvm.ClassFile.FieldType.boolean)), (Jvm.Cond.methodLink "RowFile$FileCheck" (76 : Nat) y_Check_reach), (Jvm.Cond.instanceMethod y_Check_reach), (Jvm.Cond.code y_Check_reach prog_4_method_5_code (2 : Nat) (Option.some Jvm.ClassFile.FieldType.boolean)), (Jvm.Cond.methodLink "RowFile$FileCheck" (48 : Nat) y_Pages_root), (Jvm.Cond.constant "RowFile$FileCheck" (54 : Nat) (1000000 : Int32)), (Jvm.Cond.methodLink "RowFile$FileCheck" (55 : Nat) y_Check_reachTreePage), (Jvm.Cond.instanceMethod y_Check_reachTreePage), (Jvm.Cond.code y_Check_reachTreePage prog_4_method_6_code (4 : Nat) (Option.some Jvm.ClassFile.FieldType.boolean)), (Jvm.Cond.methodLink "RowFile$FileCheck" (59 : Nat) y_Check_treePageHolds), (Jvm.Cond.instanceMethod y_Check_treePageHolds), (Jvm.Cond.code y_Check_treePageHolds prog_4_method_8_code (8 : Nat) (Option.some Jvm.ClassFile.FieldType.boolean)), (Jvm.Cond.methodLink "RowFile$FileCheck" (80 : Nat) y_Node_load), (Jvm.Cond.methodLink "RowFile$FileCheck" (91 : Nat) y_Node_cellKey), (Jvm.Cond.methodLink "RowFile$FileCheck" (95 : Nat) y_Node_cellFits), (Jvm.Cond.instanceMethod y_Node_cellFits), (Jvm.Cond.selects "RowFile$Node" y_Node_cellFits y_Node_cellFits), (Jvm.Cond.code y_Node_cellFits prog_5_method_7_code (5 : Nat) (Option.some Jvm.ClassFile.FieldType.boolean)), (Jvm.Cond.methodLink "RowFile$FileCheck" (98 : Nat) y_Check_rowHolds), (Jvm.Cond.instanceMethod y_Check_rowHolds), (Jvm.Cond.code y_Check_rowHolds prog_4_method_9_code (3 : Nat) (Option.some Jvm.ClassFile.FieldType.boolean)), (Jvm.Cond.methodLink "RowFile$FileCheck" (107 : Nat) y_Node_recordLength), (Jvm.Cond.methodLink "RowFile$FileCheck" (110 : Nat) y_Node_chainStart), (Jvm.Cond.methodLink "RowFile$FileCheck" (113 : Nat) y_Check_chainHolds), (Jvm.Cond.instanceMethod y_Check_chainHolds), (Jvm.Cond.code y_Check_chainHolds prog_4_method_10_code (6 : Nat) (Option.some Jvm.ClassFile.FieldType.boolean)), (Jvm.Cond.methodLink "RowFile$FileCheck" (131 : Nat) y_Math_min), (Jvm.Cond.methodLink "RowFile$FileCheck" (116 : Nat) y_Rec_read), (Jvm.Cond.instanceMethod y_Rec_read), (Jvm.Cond.selects "RowFile$RowRecord" y_Rec_read y_Rec_read), (Jvm.Cond.code y_Rec_read prog_7_method_4_code (8 : Nat) (Option.none : Option Jvm.ClassFile.FieldType)), (Jvm.Cond.methodLink "RowFile$RowRecord" (60 : Nat) y_Node_recordLength), (Jvm.Cond.methodLink "RowFile$RowRecord" (68 : Nat) y_Node_copyRecord), (Jvm.Cond.instanceMethod y_Node_copyRecord), (Jvm.Cond.selects "RowFile$Node" y_Node_copyRecord y_Node_copyRecord), (Jvm.Cond.code y_Node_copyRecord prog_5_method_8_code (6 : Nat) (Option.none : Option Jvm.ClassFile.FieldType)), (Jvm.Cond.methodLink "RowFile$RowRecord" (72 : Nat) y_Node_chainStart), (Jvm.Cond.methodLink "RowFile$RowRecord" (79 : Nat) y_Math_min), (Jvm.Cond.methodLink "RowFile$RowRecord" (84 : Nat) y_Pages_copyOut), (Jvm.Cond.instanceMethod y_Pages_copyOut), (Jvm.Cond.selects "RowFile$Pages" y_Pages_copyOut y_Pages_copyOut), (Jvm.Cond.code y_Pages_copyOut prog_6_method_9_code (5 : Nat) (Option.none : Option Jvm.ClassFile.FieldType)), (Jvm.Cond.methodLink "RowFile$RowRecord" (90 : Nat) y_Pages_get), (Jvm.Cond.methodLink "RowFile$FileCheck" (122 : Nat) y_Rec_decode)]
def pu_w8 : List Cond := [(Jvm.Cond.instanceMethod y_Rec_decode), (Jvm.Cond.selects "RowFile$RowRecord" y_Rec_decode y_Rec_decode), (Jvm.Cond.code y_Rec_decode prog_7_method_5_code (4 : Nat) (Option.some Jvm.ClassFile.FieldType.boolean)), (Jvm.Cond.methodLink "RowFile$RowRecord" (93 : Nat) y_Rec_decodeCodes), (Jvm.Cond.instanceMethod y_Rec_decodeCodes), (Jvm.Cond.code y_Rec_decodeCodes prog_7_method_6_code (5 : Nat) (Option.some Jvm.ClassFile.FieldType.int)), (Jvm.Cond.methodLink "RowFile$RowRecord" (97 : Nat) y_Rec_integer), (Jvm.Cond.instanceMethod y_Rec_integer), (Jvm.Cond.selects "RowFile$RowRecord" y_Rec_integer y_Rec_integer), (Jvm.Cond.code y_Rec_integer prog_7_method_8_code (6 : Nat) (Option.some Jvm.ClassFile.FieldType.long)), (Jvm.Cond.methodLink "RowFile$FileCheck" (101 : Nat) y_Node_child), (Jvm.Cond.methodLink "RowFile$FileCheck" (62 : Nat) y_Check_allReached), (Jvm.Cond.instanceMethod y_Check_allReached), (Jvm.Cond.code y_Check_allReached prog_4_method_7_code (2 : Nat) (Option.some Jvm.ClassFile.FieldType.boolean)), (Jvm.Cond.methodLink "RowFile" (139 : Nat) y_Tree_countRows), (Jvm.Cond.instanceMethod y_Tree_countRows), (Jvm.Cond.selects "RowFile$Tree" y_Tree_countRows y_Tree_countRows), (Jvm.Cond.code y_Tree_countRows prog_8_method_15_code (4 : Nat) (Option.some Jvm.ClassFile.FieldType.int)), (Jvm.Cond.methodLink "RowFile$Tree" (188 : Nat) y_Tree_listLeaves), (Jvm.Cond.instanceMethod y_Tree_listLeaves), (Jvm.Cond.code y_Tree_listLeaves prog_8_method_14_code (6 : Nat) (Option.some Jvm.ClassFile.FieldType.int)), (Jvm.Cond.methodLink "RowFileLaw" (61 : Nat) y_RF_spoil), (Jvm.Cond.instanceMethod y_RF_spoil), (Jvm.Cond.selects "RowFile" y_RF_spoil y_RF_spoil), (Jvm.Cond.code y_RF_spoil prog_1_method_12_code (4 : Nat) (Option.some Jvm.ClassFile.FieldType.boolean)), (Jvm.Cond.methodLink "RowFile" (143 : Nat) y_Pages_has), (Jvm.Cond.methodLink "RowFile" (147 : Nat) y_Pages_put), (Jvm.Cond.methodLink "RowFileLaw" (66 : Nat) y_RF_rows), (Jvm.Cond.instanceMethod y_RF_rows), (Jvm.Cond.selects "RowFile" y_RF_rows y_RF_rows), (Jvm.Cond.code y_RF_rows prog_1_method_13_code (1 : Nat) (Option.some Jvm.ClassFile.FieldType.int)), (Jvm.Cond.methodLink "RowFileLaw" (70 : Nat) y_RF_key), (Jvm.Cond.instanceMethod y_RF_key), (Jvm.Cond.selects "RowFile" y_RF_key y_RF_key), (Jvm.Cond.code y_RF_key prog_1_method_14_code (2 : Nat) (Option.some Jvm.ClassFile.FieldType.int)), (Jvm.Cond.methodLink "RowFile" (151 : Nat) y_Tree_keyOfRow), (Jvm.Cond.instanceMethod y_Tree_keyOfRow), (Jvm.Cond.selects "RowFile$Tree" y_Tree_keyOfRow y_Tree_keyOfRow), (Jvm.Cond.code y_Tree_keyOfRow prog_8_method_16_code (6 : Nat) (Option.some Jvm.ClassFile.FieldType.int)), (Jvm.Cond.methodLink "RowFileLaw" (74 : Nat) y_RF_columns), (Jvm.Cond.instanceMethod y_RF_columns), (Jvm.Cond.selects "RowFile" y_RF_columns y_RF_columns), (Jvm.Cond.code y_RF_columns prog_1_method_15_code (2 : Nat) (Option.some Jvm.ClassFile.FieldType.int)), (Jvm.Cond.methodLink "RowFile" (155 : Nat) y_RF_load), (Jvm.Cond.instanceMethod y_RF_load), (Jvm.Cond.code y_RF_load prog_1_method_20_code (2 : Nat) (Option.some Jvm.ClassFile.FieldType.boolean)), (Jvm.Cond.methodLink "RowFile" (187 : Nat) y_Tree_readRow), (Jvm.Cond.instanceMethod y_Tree_readRow), (Jvm.Cond.selects "RowFile$Tree" y_Tree_readRow y_Tree_readRow), (Jvm.Cond.code y_Tree_readRow prog_8_method_3_code (1 : Nat) (Option.some Jvm.ClassFile.FieldType.boolean)), (Jvm.Cond.methodLink "RowFile$Tree" (73 : Nat) y_Rec_read), (Jvm.Cond.methodLink "RowFile$Tree" (79 : Nat) y_Rec_decode), (Jvm.Cond.methodLink "RowFileLaw" (78 : Nat) y_RF_code), (Jvm.Cond.instanceMethod y_RF_code), (Jvm.Cond.selects "RowFile" y_RF_code y_RF_code), (Jvm.Cond.code y_RF_code prog_1_method_16_code (3 : Nat) (Option.some Jvm.ClassFile.FieldType.int)), (Jvm.Cond.methodLink "RowFile" (159 : Nat) y_Rec_hasColumn), (Jvm.Cond.instanceMethod y_Rec_hasColumn), (Jvm.Cond.selects "RowFile$RowRecord" y_Rec_hasColumn y_Rec_hasColumn), (Jvm.Cond.code y_Rec_hasColumn prog_7_method_7_code (2 : Nat) (Option.some Jvm.ClassFile.FieldType.boolean)), (Jvm.Cond.methodLink "RowFileLaw" (83 : Nat) y_RF_value), (Jvm.Cond.instanceMethod y_RF_value), (Jvm.Cond.selects "RowFile" y_RF_value y_RF_value), (Jvm.Cond.code y_RF_value prog_1_method_17_code (4 : Nat) (Option.some Jvm.ClassFile.FieldType.long))]
def pu_w9 : List Cond := [(Jvm.Cond.methodLink "RowFile" (166 : Nat) y_Rec_blobByte), (Jvm.Cond.instanceMethod y_Rec_blobByte), (Jvm.Cond.selects "RowFile$RowRecord" y_Rec_blobByte y_Rec_blobByte), (Jvm.Cond.code y_Rec_blobByte prog_7_method_9_code (3 : Nat) (Option.some Jvm.ClassFile.FieldType.int)), (Jvm.Cond.methodLink "RowFile" (170 : Nat) y_Rec_integer), (Jvm.Cond.methodLink "RowFileLaw" (88 : Nat) y_RF_octet), (Jvm.Cond.instanceMethod y_RF_octet), (Jvm.Cond.selects "RowFile" y_RF_octet y_RF_octet), (Jvm.Cond.code y_RF_octet prog_1_method_18_code (5 : Nat) (Option.some Jvm.ClassFile.FieldType.int)), (Jvm.Cond.methodLink "RowFile" (174 : Nat) y_Pages_get), (Jvm.Cond.methodLink "RowFileLaw" (93 : Nat) y_RF_journal), (Jvm.Cond.instanceMethod y_RF_journal), (Jvm.Cond.selects "RowFile" y_RF_journal y_RF_journal), (Jvm.Cond.code y_RF_journal prog_1_method_19_code (2 : Nat) (Option.some Jvm.ClassFile.FieldType.int)), (Jvm.Cond.classLink "RowFileLaw" (10 : Nat) "RowFileModel"), (Jvm.Cond.instantiable "RowFileModel" (31 : Nat)), (Jvm.Cond.methodLink "RowFileLaw" (12 : Nat) y_MD_init), (Jvm.Cond.instanceMethod y_MD_init), (Jvm.Cond.code y_MD_init prog_10_method_1_code (1 : Nat) (Option.none : Option Jvm.ClassFile.FieldType)), (Jvm.Cond.methodLink "RowFileModel" (1 : Nat) y_Object_init), (Jvm.Cond.methodLink "RowFileModel" (71 : Nat) y_MD_fetch), (Jvm.Cond.instanceMethod y_MD_fetch), (Jvm.Cond.code y_MD_fetch prog_10_method_2_code (2 : Nat) (Option.none : Option Jvm.ClassFile.FieldType)), (Jvm.Cond.fieldLink "RowFileModel" (7 : Nat) "RowFileModel" "now" "[I"), (Jvm.Cond.fieldLink "RowFileModel" (13 : Nat) "RowFileModel" "disk" "[I"), (Jvm.Cond.fieldLink "RowFileModel" (16 : Nat) "RowFileModel" "before" "[I"), (Jvm.Cond.fieldLink "RowFileModel" (19 : Nat) "RowFileModel" "onDisk" "I"), (Jvm.Cond.fieldLink "RowFileModel" (223 : Nat) "RowFileModel" "head" "Z"), (Jvm.Cond.fieldLink "RowFileModel" (226 : Nat) "RowFileModel" "headPages" "I"), (Jvm.Cond.fieldLink "RowFileModel" (229 : Nat) "RowFileModel" "records" "I"), (Jvm.Cond.fieldLink "RowFileModel" (23 : Nat) "RowFileModel" "recordPage" "[I"), (Jvm.Cond.fieldLink "RowFileModel" (26 : Nat) "RowFileModel" "recordBytes" "[I"), (Jvm.Cond.fieldLink "RowFileModel" (29 : Nat) "RowFileModel" "up" "Z"), (Jvm.Cond.fieldLink "RowFileModel" (33 : Nat) "RowFileModel" "armed" "I"), (Jvm.Cond.fieldLink "RowFileModel" (74 : Nat) "RowFileModel" "columns" "I"), (Jvm.Cond.fieldLink "RowFileModel" (36 : Nat) "RowFileModel" "isBlob" "[Z"), (Jvm.Cond.fieldLink "RowFileModel" (40 : Nat) "RowFileModel" "integer" "[J"), (Jvm.Cond.fieldLink "RowFileModel" (44 : Nat) "RowFileModel" "size" "[I"), (Jvm.Cond.fieldLink "RowFileModel" (47 : Nat) "RowFileModel" "blobs" "[I"), (Jvm.Cond.fieldLink "RowFileModel" (91 : Nat) "RowFileModel" "length" "I"), (Jvm.Cond.fieldLink "RowFileModel" (50 : Nat) "RowFileModel" "record" "[I"), (Jvm.Cond.fieldLink "RowFileModel" (106 : Nat) "RowFileModel" "kind" "I"), (Jvm.Cond.fieldLink "RowFileModel" (109 : Nat) "RowFileModel" "cells" "I"), (Jvm.Cond.fieldLink "RowFileModel" (112 : Nat) "RowFileModel" "last" "I"), (Jvm.Cond.fieldLink "RowFileModel" (53 : Nat) "RowFileModel" "cellLength" "[I"), (Jvm.Cond.fieldLink "RowFileModel" (56 : Nat) "RowFileModel" "row" "[I"), (Jvm.Cond.fieldLink "RowFileModel" (126 : Nat) "RowFileModel" "made" "I"), (Jvm.Cond.fieldLink "RowFileModel" (59 : Nat) "RowFileModel" "cell" "[I"), (Jvm.Cond.fieldLink "RowFileModel" (142 : Nat) "RowFileModel" "deep" "I"), (Jvm.Cond.fieldLink "RowFileModel" (62 : Nat) "RowFileModel" "way" "[I"), (Jvm.Cond.fieldLink "RowFileModel" (65 : Nat) "RowFileModel" "turn" "[I"), (Jvm.Cond.fieldLink "RowFileModel" (132 : Nat) "RowFileModel" "at" "I"), (Jvm.Cond.fieldLink "RowFileModel" (129 : Nat) "RowFileModel" "bad" "Z"), (Jvm.Cond.fieldLink "RowFileModel" (68 : Nat) "RowFileModel" "used" "[Z"), (Jvm.Cond.laysFinal "RowFileModel" "RowFileModel" "now" "[I"), (Jvm.Cond.laysFinal "RowFileModel" "RowFileModel" "disk" "[I"), (Jvm.Cond.laysFinal "RowFileModel" "RowFileModel" "before" "[I"), (Jvm.Cond.lays "RowFileModel" "RowFileModel" "onDisk" "I"), (Jvm.Cond.lays "RowFileModel" "RowFileModel" "head" "Z"), (Jvm.Cond.lays "RowFileModel" "RowFileModel" "headPages" "I"), (Jvm.Cond.lays "RowFileModel" "RowFileModel" "records" "I"), (Jvm.Cond.laysFinal "RowFileModel" "RowFileModel" "recordPage" "[I"), (Jvm.Cond.laysFinal "RowFileModel" "RowFileModel" "recordBytes" "[I"), (Jvm.Cond.lays "RowFileModel" "RowFileModel" "up" "Z")]
def pu_w10 : List Cond := [(Jvm.Cond.lays "RowFileModel" "RowFileModel" "armed" "I"), (Jvm.Cond.lays "RowFileModel" "RowFileModel" "columns" "I"), (Jvm.Cond.laysFinal "RowFileModel" "RowFileModel" "isBlob" "[Z"), (Jvm.Cond.laysFinal "RowFileModel" "RowFileModel" "integer" "[J"), (Jvm.Cond.laysFinal "RowFileModel" "RowFileModel" "size" "[I"), (Jvm.Cond.laysFinal "RowFileModel" "RowFileModel" "blobs" "[I"), (Jvm.Cond.lays "RowFileModel" "RowFileModel" "length" "I"), (Jvm.Cond.laysFinal "RowFileModel" "RowFileModel" "record" "[I"), (Jvm.Cond.lays "RowFileModel" "RowFileModel" "kind" "I"), (Jvm.Cond.lays "RowFileModel" "RowFileModel" "cells" "I"), (Jvm.Cond.lays "RowFileModel" "RowFileModel" "last" "I"), (Jvm.Cond.laysFinal "RowFileModel" "RowFileModel" "cellLength" "[I"), (Jvm.Cond.laysFinal "RowFileModel" "RowFileModel" "row" "[I"), (Jvm.Cond.lays "RowFileModel" "RowFileModel" "made" "I"), (Jvm.Cond.laysFinal "RowFileModel" "RowFileModel" "cell" "[I"), (Jvm.Cond.lays "RowFileModel" "RowFileModel" "deep" "I"), (Jvm.Cond.laysFinal "RowFileModel" "RowFileModel" "way" "[I"), (Jvm.Cond.laysFinal "RowFileModel" "RowFileModel" "turn" "[I"), (Jvm.Cond.lays "RowFileModel" "RowFileModel" "at" "I"), (Jvm.Cond.lays "RowFileModel" "RowFileModel" "bad" "Z"), (Jvm.Cond.laysFinal "RowFileModel" "RowFileModel" "used" "[Z"), (Jvm.Cond.methodLink "RowFileLaw" (19 : Nat) y_MD_number), (Jvm.Cond.instanceMethod y_MD_number), (Jvm.Cond.selects "RowFileModel" y_MD_number y_MD_number), (Jvm.Cond.code y_MD_number prog_10_method_5_code (3 : Nat) (Option.some Jvm.ClassFile.FieldType.boolean)), (Jvm.Cond.methodLink "RowFileLaw" (24 : Nat) y_MD_blob), (Jvm.Cond.instanceMethod y_MD_blob), (Jvm.Cond.selects "RowFileModel" y_MD_blob y_MD_blob), (Jvm.Cond.code y_MD_blob prog_10_method_6_code (7 : Nat) (Option.some Jvm.ClassFile.FieldType.boolean)), (Jvm.Cond.constantLong "RowFileModel" (77 : Nat) (255 : Int64)), (Jvm.Cond.methodLink "RowFileLaw" (28 : Nat) y_MD_clear), (Jvm.Cond.instanceMethod y_MD_clear), (Jvm.Cond.selects "RowFileModel" y_MD_clear y_MD_clear), (Jvm.Cond.code y_MD_clear prog_10_method_7_code (1 : Nat) (Option.none : Option Jvm.ClassFile.FieldType)), (Jvm.Cond.methodLink "RowFileLaw" (33 : Nat) y_MD_insert), (Jvm.Cond.instanceMethod y_MD_insert), (Jvm.Cond.selects "RowFileModel" y_MD_insert y_MD_insert), (Jvm.Cond.code y_MD_insert prog_10_method_31_code (6 : Nat) (Option.some Jvm.ClassFile.FieldType.int)), (Jvm.Cond.constant "RowFileModel" (167 : Nat) (1000000 : Int32)), (Jvm.Cond.methodLink "RowFileModel" (168 : Nat) y_MD_find), (Jvm.Cond.instanceMethod y_MD_find), (Jvm.Cond.code y_MD_find prog_10_method_25_code (4 : Nat) (Option.some Jvm.ClassFile.FieldType.boolean)), (Jvm.Cond.methodLink "RowFileModel" (155 : Nat) y_MD_goTo), (Jvm.Cond.instanceMethod y_MD_goTo), (Jvm.Cond.code y_MD_goTo prog_10_method_24_code (2 : Nat) (Option.some Jvm.ClassFile.FieldType.int)), (Jvm.Cond.methodLink "RowFileModel" (145 : Nat) y_MD_root), (Jvm.Cond.instanceMethod y_MD_root), (Jvm.Cond.code y_MD_root prog_10_method_4_code (1 : Nat) (Option.some Jvm.ClassFile.FieldType.int)), (Jvm.Cond.methodLink "RowFileModel" (149 : Nat) y_MD_seek), (Jvm.Cond.instanceMethod y_MD_seek), (Jvm.Cond.code y_MD_seek prog_10_method_23_code (4 : Nat) (Option.some Jvm.ClassFile.FieldType.int)), (Jvm.Cond.methodLink "RowFileModel" (139 : Nat) y_MD_keyAt), (Jvm.Cond.instanceMethod y_MD_keyAt), (Jvm.Cond.code y_MD_keyAt prog_10_method_21_code (4 : Nat) (Option.some Jvm.ClassFile.FieldType.int)), (Jvm.Cond.methodLink "RowFileModel" (115 : Nat) y_MD_begin), (Jvm.Cond.instanceMethod y_MD_begin), (Jvm.Cond.code y_MD_begin prog_10_method_12_code (3 : Nat) (Option.some Jvm.ClassFile.FieldType.int)), (Jvm.Cond.methodLink "RowFileModel" (135 : Nat) y_MD_read), (Jvm.Cond.instanceMethod y_MD_read), (Jvm.Cond.code y_MD_read prog_10_method_20_code (6 : Nat) (Option.some Jvm.ClassFile.FieldType.int)), (Jvm.Cond.methodLink "RowFileModel" (152 : Nat) y_MD_child), (Jvm.Cond.instanceMethod y_MD_child), (Jvm.Cond.code y_MD_child prog_10_method_22_code (3 : Nat) (Option.some Jvm.ClassFile.FieldType.int)), (Jvm.Cond.methodLink "RowFileModel" (158 : Nat) y_MD_fetchRecord)]
def pu_w11 : List Cond := [(Jvm.Cond.instanceMethod y_MD_fetchRecord), (Jvm.Cond.code y_MD_fetchRecord prog_10_method_26_code (8 : Nat) (Option.some Jvm.ClassFile.FieldType.int)), (Jvm.Cond.methodLink "RowFileModel" (172 : Nat) y_MD_encode), (Jvm.Cond.instanceMethod y_MD_encode), (Jvm.Cond.code y_MD_encode prog_10_method_11_code (4 : Nat) (Option.none : Option Jvm.ClassFile.FieldType)), (Jvm.Cond.methodLink "RowFileModel" (94 : Nat) y_MD_codeOf), (Jvm.Cond.static y_MD_codeOf), (Jvm.Cond.code y_MD_codeOf prog_10_method_8_code (2 : Nat) (Option.some Jvm.ClassFile.FieldType.int)), (Jvm.Cond.constantLong "RowFileModel" (79 : Nat) (-128 : Int64)), (Jvm.Cond.constantLong "RowFileModel" (81 : Nat) (127 : Int64)), (Jvm.Cond.constantLong "RowFileModel" (83 : Nat) (-32768 : Int64)), (Jvm.Cond.constantLong "RowFileModel" (85 : Nat) (32767 : Int64)), (Jvm.Cond.constantLong "RowFileModel" (87 : Nat) (-2147483648 : Int64)), (Jvm.Cond.constantLong "RowFileModel" (89 : Nat) (2147483647 : Int64)), (Jvm.Cond.methodLink "RowFileModel" (98 : Nat) y_MD_varint), (Jvm.Cond.static y_MD_varint), (Jvm.Cond.code y_MD_varint prog_10_method_10_code (5 : Nat) (Option.some Jvm.ClassFile.FieldType.int)), (Jvm.Cond.methodLink "RowFileModel" (102 : Nat) y_MD_bytesOf), (Jvm.Cond.static y_MD_bytesOf), (Jvm.Cond.code y_MD_bytesOf prog_10_method_9_code (1 : Nat) (Option.some Jvm.ClassFile.FieldType.int)), (Jvm.Cond.methodLink "RowFileModel" (175 : Nat) y_MD_makeChain), (Jvm.Cond.instanceMethod y_MD_makeChain), (Jvm.Cond.code y_MD_makeChain prog_10_method_30_code (6 : Nat) (Option.some Jvm.ClassFile.FieldType.int)), (Jvm.Cond.methodLink "RowFileModel" (164 : Nat) y_MD_takePage), (Jvm.Cond.instanceMethod y_MD_takePage), (Jvm.Cond.code y_MD_takePage prog_10_method_27_code (2 : Nat) (Option.some Jvm.ClassFile.FieldType.int)), (Jvm.Cond.methodLink "RowFileModel" (161 : Nat) y_MD_pages), (Jvm.Cond.instanceMethod y_MD_pages), (Jvm.Cond.code y_MD_pages prog_10_method_3_code (1 : Nat) (Option.some Jvm.ClassFile.FieldType.int)), (Jvm.Cond.methodLink "RowFileModel" (119 : Nat) y_MD_erase), (Jvm.Cond.instanceMethod y_MD_erase), (Jvm.Cond.code y_MD_erase prog_10_method_15_code (3 : Nat) (Option.none : Option Jvm.ClassFile.FieldType)), (Jvm.Cond.methodLink "RowFileModel" (178 : Nat) y_MD_noRoom), (Jvm.Cond.instanceMethod y_MD_noRoom), (Jvm.Cond.code y_MD_noRoom prog_10_method_29_code (2 : Nat) (Option.some Jvm.ClassFile.FieldType.int)), (Jvm.Cond.methodLink "RowFileModel" (181 : Nat) y_MD_take), (Jvm.Cond.instanceMethod y_MD_take), (Jvm.Cond.code y_MD_take prog_10_method_13_code (5 : Nat) (Option.none : Option Jvm.ClassFile.FieldType)), (Jvm.Cond.methodLink "RowFileModel" (184 : Nat) y_MD_insertCell), (Jvm.Cond.instanceMethod y_MD_insertCell), (Jvm.Cond.code y_MD_insertCell prog_10_method_17_code (4 : Nat) (Option.none : Option Jvm.ClassFile.FieldType)), (Jvm.Cond.methodLink "RowFileModel" (123 : Nat) y_MD_start), (Jvm.Cond.instanceMethod y_MD_start), (Jvm.Cond.code y_MD_start prog_10_method_14_code (4 : Nat) (Option.some Jvm.ClassFile.FieldType.int)), (Jvm.Cond.methodLink "RowFileModel" (187 : Nat) y_MD_fitting), (Jvm.Cond.instanceMethod y_MD_fitting), (Jvm.Cond.code y_MD_fitting prog_10_method_19_code (3 : Nat) (Option.some Jvm.ClassFile.FieldType.int)), (Jvm.Cond.methodLink "RowFileModel" (190 : Nat) y_MD_split), (Jvm.Cond.instanceMethod y_MD_split), (Jvm.Cond.code y_MD_split prog_10_method_32_code (6 : Nat) (Option.some Jvm.ClassFile.FieldType.boolean)), (Jvm.Cond.methodLink "RowFileModel" (194 : Nat) y_MD_put), (Jvm.Cond.instanceMethod y_MD_put), (Jvm.Cond.code y_MD_put prog_10_method_16_code (8 : Nat) (Option.none : Option Jvm.ClassFile.FieldType)), (Jvm.Cond.methodLink "RowFileLaw" (37 : Nat) y_MD_remove), (Jvm.Cond.instanceMethod y_MD_remove), (Jvm.Cond.selects "RowFileModel" y_MD_remove y_MD_remove), (Jvm.Cond.code y_MD_remove prog_10_method_33_code (7 : Nat) (Option.some Jvm.ClassFile.FieldType.int)), (Jvm.Cond.methodLink "RowFileModel" (198 : Nat) y_MD_free), (Jvm.Cond.instanceMethod y_MD_free), (Jvm.Cond.code y_MD_free prog_10_method_28_code (2 : Nat) (Option.none : Option Jvm.ClassFile.FieldType)), (Jvm.Cond.methodLink "RowFileModel" (201 : Nat) y_MD_removeCell), (Jvm.Cond.instanceMethod y_MD_removeCell), (Jvm.Cond.code y_MD_removeCell prog_10_method_18_code (6 : Nat) (Option.none : Option Jvm.ClassFile.FieldType)), (Jvm.Cond.methodLink "RowFileModel" (204 : Nat) y_MD_lift)]
def pu_w12 : List Cond := [(Jvm.Cond.instanceMethod y_MD_lift), (Jvm.Cond.code y_MD_lift prog_10_method_34_code (4 : Nat) (Option.none : Option Jvm.ClassFile.FieldType)), (Jvm.Cond.methodLink "RowFileLaw" (42 : Nat) y_MD_commit), (Jvm.Cond.instanceMethod y_MD_commit), (Jvm.Cond.selects "RowFileModel" y_MD_commit y_MD_commit), (Jvm.Cond.code y_MD_commit prog_10_method_39_code (3 : Nat) (Option.some Jvm.ClassFile.FieldType.int)), (Jvm.Cond.methodLink "RowFileModel" (210 : Nat) y_MD_different), (Jvm.Cond.instanceMethod y_MD_different), (Jvm.Cond.code y_MD_different prog_10_method_36_code (3 : Nat) (Option.some Jvm.ClassFile.FieldType.int)), (Jvm.Cond.methodLink "RowFileModel" (207 : Nat) y_MD_differs), (Jvm.Cond.instanceMethod y_MD_differs), (Jvm.Cond.code y_MD_differs prog_10_method_35_code (4 : Nat) (Option.some Jvm.ClassFile.FieldType.boolean)), (Jvm.Cond.constant "RowFileModel" (213 : Nat) (65535 : Int32)), (Jvm.Cond.methodLink "RowFileModel" (214 : Nat) y_MD_write), (Jvm.Cond.instanceMethod y_MD_write), (Jvm.Cond.code y_MD_write prog_10_method_40_code (6 : Nat) (Option.some Jvm.ClassFile.FieldType.boolean)), (Jvm.Cond.methodLink "RowFileModel" (217 : Nat) y_MD_cut), (Jvm.Cond.instanceMethod y_MD_cut), (Jvm.Cond.code y_MD_cut prog_10_method_38_code (1 : Nat) (Option.some Jvm.ClassFile.FieldType.boolean)), (Jvm.Cond.methodLink "RowFileModel" (220 : Nat) y_MD_fall), (Jvm.Cond.instanceMethod y_MD_fall), (Jvm.Cond.code y_MD_fall prog_10_method_37_code (1 : Nat) (Option.some Jvm.ClassFile.FieldType.boolean)), (Jvm.Cond.methodLink "RowFileLaw" (47 : Nat) y_MD_undo), (Jvm.Cond.instanceMethod y_MD_undo), (Jvm.Cond.selects "RowFileModel" y_MD_undo y_MD_undo), (Jvm.Cond.code y_MD_undo prog_10_method_41_code (1 : Nat) (Option.some Jvm.ClassFile.FieldType.boolean)), (Jvm.Cond.methodLink "RowFileLaw" (51 : Nat) y_MD_crash), (Jvm.Cond.instanceMethod y_MD_crash), (Jvm.Cond.selects "RowFileModel" y_MD_crash y_MD_crash), (Jvm.Cond.code y_MD_crash prog_10_method_42_code (1 : Nat) (Option.some Jvm.ClassFile.FieldType.boolean)), (Jvm.Cond.methodLink "RowFileLaw" (56 : Nat) y_MD_arm), (Jvm.Cond.instanceMethod y_MD_arm), (Jvm.Cond.selects "RowFileModel" y_MD_arm y_MD_arm), (Jvm.Cond.code y_MD_arm prog_10_method_43_code (2 : Nat) (Option.some Jvm.ClassFile.FieldType.boolean)), (Jvm.Cond.methodLink "RowFileLaw" (65 : Nat) y_MD_spoil), (Jvm.Cond.instanceMethod y_MD_spoil), (Jvm.Cond.selects "RowFileModel" y_MD_spoil y_MD_spoil), (Jvm.Cond.code y_MD_spoil prog_10_method_44_code (4 : Nat) (Option.some Jvm.ClassFile.FieldType.boolean)), (Jvm.Cond.methodLink "RowFileLaw" (60 : Nat) y_MD_open), (Jvm.Cond.instanceMethod y_MD_open), (Jvm.Cond.selects "RowFileModel" y_MD_open y_MD_open), (Jvm.Cond.code y_MD_open prog_10_method_45_code (3 : Nat) (Option.some Jvm.ClassFile.FieldType.int)), (Jvm.Cond.methodLink "RowFileModel" (232 : Nat) y_MD_wellFirst), (Jvm.Cond.instanceMethod y_MD_wellFirst), (Jvm.Cond.code y_MD_wellFirst prog_10_method_46_code (3 : Nat) (Option.some Jvm.ClassFile.FieldType.boolean)), (Jvm.Cond.methodLink "RowFileModel" (235 : Nat) y_MD_wellTree), (Jvm.Cond.instanceMethod y_MD_wellTree), (Jvm.Cond.code y_MD_wellTree prog_10_method_50_code (8 : Nat) (Option.some Jvm.ClassFile.FieldType.int)), (Jvm.Cond.methodLink "RowFileModel" (241 : Nat) y_MD_meet), (Jvm.Cond.instanceMethod y_MD_meet), (Jvm.Cond.code y_MD_meet prog_10_method_47_code (2 : Nat) (Option.some Jvm.ClassFile.FieldType.boolean)), (Jvm.Cond.methodLink "RowFileModel" (244 : Nat) y_MD_wellLaid), (Jvm.Cond.instanceMethod y_MD_wellLaid), (Jvm.Cond.code y_MD_wellLaid prog_10_method_49_code (7 : Nat) (Option.some Jvm.ClassFile.FieldType.boolean)), (Jvm.Cond.methodLink "RowFileModel" (247 : Nat) y_MD_innerKey), (Jvm.Cond.instanceMethod y_MD_innerKey), (Jvm.Cond.code y_MD_innerKey prog_10_method_51_code (5 : Nat) (Option.some Jvm.ClassFile.FieldType.int)), (Jvm.Cond.methodLink "RowFileModel" (250 : Nat) y_MD_wellCell), (Jvm.Cond.instanceMethod y_MD_wellCell), (Jvm.Cond.code y_MD_wellCell prog_10_method_52_code (8 : Nat) (Option.some Jvm.ClassFile.FieldType.int)), (Jvm.Cond.methodLink "RowFileModel" (253 : Nat) y_MD_wellRecord), (Jvm.Cond.instanceMethod y_MD_wellRecord), (Jvm.Cond.code y_MD_wellRecord prog_10_method_53_code (5 : Nat) (Option.some Jvm.ClassFile.FieldType.boolean)), (Jvm.Cond.methodLink "RowFileModel" (256 : Nat) y_MD_wellValue)]
def pu_w13 : List Cond := [(Jvm.Cond.instanceMethod y_MD_wellValue), (Jvm.Cond.code y_MD_wellValue prog_10_method_54_code (3 : Nat) (Option.some Jvm.ClassFile.FieldType.boolean)), (Jvm.Cond.methodLink "RowFileModel" (260 : Nat) y_MD_valueAt), (Jvm.Cond.instanceMethod y_MD_valueAt), (Jvm.Cond.code y_MD_valueAt prog_10_method_55_code (6 : Nat) (Option.some Jvm.ClassFile.FieldType.long)), (Jvm.Cond.constantLong "RowFileModel" (264 : Nat) (-1 : Int64)), (Jvm.Cond.methodLink "RowFileModel" (238 : Nat) y_MD_wellFree), (Jvm.Cond.instanceMethod y_MD_wellFree), (Jvm.Cond.code y_MD_wellFree prog_10_method_48_code (4 : Nat) (Option.some Jvm.ClassFile.FieldType.boolean)), (Jvm.Cond.methodLink "RowFileLaw" (69 : Nat) y_MD_rows), (Jvm.Cond.instanceMethod y_MD_rows), (Jvm.Cond.selects "RowFileModel" y_MD_rows y_MD_rows), (Jvm.Cond.code y_MD_rows prog_10_method_57_code (1 : Nat) (Option.some Jvm.ClassFile.FieldType.int)), (Jvm.Cond.methodLink "RowFileModel" (266 : Nat) y_MD_walk), (Jvm.Cond.instanceMethod y_MD_walk), (Jvm.Cond.code y_MD_walk prog_10_method_56_code (6 : Nat) (Option.some Jvm.ClassFile.FieldType.int)), (Jvm.Cond.methodLink "RowFileLaw" (73 : Nat) y_MD_key), (Jvm.Cond.instanceMethod y_MD_key), (Jvm.Cond.selects "RowFileModel" y_MD_key y_MD_key), (Jvm.Cond.code y_MD_key prog_10_method_58_code (2 : Nat) (Option.some Jvm.ClassFile.FieldType.int)), (Jvm.Cond.methodLink "RowFileLaw" (77 : Nat) y_MD_columns), (Jvm.Cond.instanceMethod y_MD_columns), (Jvm.Cond.selects "RowFileModel" y_MD_columns y_MD_columns), (Jvm.Cond.code y_MD_columns prog_10_method_60_code (3 : Nat) (Option.some Jvm.ClassFile.FieldType.int)), (Jvm.Cond.methodLink "RowFileModel" (269 : Nat) y_MD_codeAt), (Jvm.Cond.instanceMethod y_MD_codeAt), (Jvm.Cond.code y_MD_codeAt prog_10_method_59_code (6 : Nat) (Option.some Jvm.ClassFile.FieldType.int)), (Jvm.Cond.methodLink "RowFileLaw" (82 : Nat) y_MD_code), (Jvm.Cond.instanceMethod y_MD_code), (Jvm.Cond.selects "RowFileModel" y_MD_code y_MD_code), (Jvm.Cond.code y_MD_code prog_10_method_61_code (3 : Nat) (Option.some Jvm.ClassFile.FieldType.int)), (Jvm.Cond.methodLink "RowFileLaw" (87 : Nat) y_MD_value), (Jvm.Cond.instanceMethod y_MD_value), (Jvm.Cond.selects "RowFileModel" y_MD_value y_MD_value), (Jvm.Cond.code y_MD_value prog_10_method_62_code (5 : Nat) (Option.some Jvm.ClassFile.FieldType.long)), (Jvm.Cond.methodLink "RowFileModel" (272 : Nat) y_MD_code), (Jvm.Cond.methodLink "RowFileLaw" (92 : Nat) y_MD_octet), (Jvm.Cond.instanceMethod y_MD_octet), (Jvm.Cond.selects "RowFileModel" y_MD_octet y_MD_octet), (Jvm.Cond.code y_MD_octet prog_10_method_63_code (5 : Nat) (Option.some Jvm.ClassFile.FieldType.int)), (Jvm.Cond.methodLink "RowFileLaw" (96 : Nat) y_MD_journal), (Jvm.Cond.instanceMethod y_MD_journal), (Jvm.Cond.selects "RowFileModel" y_MD_journal y_MD_journal), (Jvm.Cond.code y_MD_journal prog_10_method_64_code (2 : Nat) (Option.some Jvm.ClassFile.FieldType.int)), (Jvm.Cond.constantLong "RowFileLaw" (13 : Nat) (4294967295 : Int64)), (Jvm.Cond.selects "RowFile$Node" y_Node_findCells y_Node_findCells), (Jvm.Cond.selects "RowFile$Node" y_Node_hasCell y_Node_hasCell), (Jvm.Cond.selects "RowFile$RowRecord" y_Rec_encodeValue y_Rec_encodeValue), (Jvm.Cond.selects "RowFile$Tree" y_Tree_writeChain y_Tree_writeChain), (Jvm.Cond.selects "RowFile$Tree" y_Tree_makeLeafCell y_Tree_makeLeafCell), (Jvm.Cond.selects "RowFile$Tree" y_Tree_settle y_Tree_settle), (Jvm.Cond.selects "RowFile$Tree" y_Tree_deepenRoot y_Tree_deepenRoot), (Jvm.Cond.selects "RowFile$Tree" y_Tree_splitTo y_Tree_splitTo), (Jvm.Cond.selects "RowFile$Tree" y_Tree_makeInnerCell y_Tree_makeInnerCell), (Jvm.Cond.selects "RowFile$Tree" y_Tree_dropLeaf y_Tree_dropLeaf), (Jvm.Cond.selects "RowFile$Tree" y_Tree_dropInner y_Tree_dropInner), (Jvm.Cond.selects "RowFile" y_RF_writeRecords y_RF_writeRecords), (Jvm.Cond.selects "RowFile" y_RF_writeFails y_RF_writeFails), (Jvm.Cond.selects "RowFile" y_RF_writeHead y_RF_writeHead), (Jvm.Cond.selects "RowFile" y_RF_writePages y_RF_writePages), (Jvm.Cond.selects "RowFile" y_RF_dropHead y_RF_dropHead), (Jvm.Cond.selects "RowFile" y_RF_goDown y_RF_goDown), (Jvm.Cond.selects "RowFile$FileCheck" y_Check_firstPageHolds y_Check_firstPageHolds), (Jvm.Cond.selects "RowFile$FileCheck" y_Check_listHolds y_Check_listHolds)]
def pu_w14 : List Cond := [(Jvm.Cond.selects "RowFile$FileCheck" y_Check_reach y_Check_reach), (Jvm.Cond.selects "RowFile$FileCheck" y_Check_reachTreePage y_Check_reachTreePage), (Jvm.Cond.selects "RowFile$FileCheck" y_Check_treePageHolds y_Check_treePageHolds), (Jvm.Cond.selects "RowFile$FileCheck" y_Check_rowHolds y_Check_rowHolds), (Jvm.Cond.selects "RowFile$FileCheck" y_Check_chainHolds y_Check_chainHolds), (Jvm.Cond.selects "RowFile$RowRecord" y_Rec_decodeCodes y_Rec_decodeCodes), (Jvm.Cond.selects "RowFile$FileCheck" y_Check_allReached y_Check_allReached), (Jvm.Cond.selects "RowFile$Tree" y_Tree_listLeaves y_Tree_listLeaves), (Jvm.Cond.selects "RowFile" y_RF_load y_RF_load), (Jvm.Cond.selects "RowFileModel" y_MD_fetch y_MD_fetch), (Jvm.Cond.selects "RowFileModel" y_MD_find y_MD_find), (Jvm.Cond.selects "RowFileModel" y_MD_goTo y_MD_goTo), (Jvm.Cond.selects "RowFileModel" y_MD_root y_MD_root), (Jvm.Cond.selects "RowFileModel" y_MD_seek y_MD_seek), (Jvm.Cond.selects "RowFileModel" y_MD_keyAt y_MD_keyAt), (Jvm.Cond.selects "RowFileModel" y_MD_begin y_MD_begin), (Jvm.Cond.selects "RowFileModel" y_MD_read y_MD_read), (Jvm.Cond.selects "RowFileModel" y_MD_child y_MD_child), (Jvm.Cond.selects "RowFileModel" y_MD_fetchRecord y_MD_fetchRecord), (Jvm.Cond.selects "RowFileModel" y_MD_encode y_MD_encode), (Jvm.Cond.selects "RowFileModel" y_MD_makeChain y_MD_makeChain), (Jvm.Cond.selects "RowFileModel" y_MD_takePage y_MD_takePage), (Jvm.Cond.selects "RowFileModel" y_MD_pages y_MD_pages), (Jvm.Cond.selects "RowFileModel" y_MD_erase y_MD_erase), (Jvm.Cond.selects "RowFileModel" y_MD_noRoom y_MD_noRoom), (Jvm.Cond.selects "RowFileModel" y_MD_take y_MD_take), (Jvm.Cond.selects "RowFileModel" y_MD_insertCell y_MD_insertCell), (Jvm.Cond.selects "RowFileModel" y_MD_start y_MD_start), (Jvm.Cond.selects "RowFileModel" y_MD_fitting y_MD_fitting), (Jvm.Cond.selects "RowFileModel" y_MD_split y_MD_split), (Jvm.Cond.selects "RowFileModel" y_MD_put y_MD_put), (Jvm.Cond.selects "RowFileModel" y_MD_free y_MD_free), (Jvm.Cond.selects "RowFileModel" y_MD_removeCell y_MD_removeCell), (Jvm.Cond.selects "RowFileModel" y_MD_lift y_MD_lift), (Jvm.Cond.selects "RowFileModel" y_MD_different y_MD_different), (Jvm.Cond.selects "RowFileModel" y_MD_differs y_MD_differs), (Jvm.Cond.selects "RowFileModel" y_MD_write y_MD_write), (Jvm.Cond.selects "RowFileModel" y_MD_cut y_MD_cut), (Jvm.Cond.selects "RowFileModel" y_MD_fall y_MD_fall), (Jvm.Cond.selects "RowFileModel" y_MD_wellFirst y_MD_wellFirst), (Jvm.Cond.selects "RowFileModel" y_MD_wellTree y_MD_wellTree), (Jvm.Cond.selects "RowFileModel" y_MD_meet y_MD_meet), (Jvm.Cond.selects "RowFileModel" y_MD_wellLaid y_MD_wellLaid), (Jvm.Cond.selects "RowFileModel" y_MD_innerKey y_MD_innerKey), (Jvm.Cond.selects "RowFileModel" y_MD_wellCell y_MD_wellCell), (Jvm.Cond.selects "RowFileModel" y_MD_wellRecord y_MD_wellRecord), (Jvm.Cond.selects "RowFileModel" y_MD_wellValue y_MD_wellValue), (Jvm.Cond.selects "RowFileModel" y_MD_valueAt y_MD_valueAt), (Jvm.Cond.selects "RowFileModel" y_MD_wellFree y_MD_wellFree), (Jvm.Cond.selects "RowFileModel" y_MD_walk y_MD_walk), (Jvm.Cond.selects "RowFileModel" y_MD_codeAt y_MD_codeAt)]
def pu_wA : List Cond := pu_w0 ++ (pu_w1 ++ (pu_w2 ++ (pu_w3 ++ (pu_w4 ++ (pu_w5 ++ (pu_w6 ++ (pu_w7 ++ (pu_w8 ++ (pu_w9 ++ (pu_w10 ++ (pu_w11 ++ (pu_w12 ++ (pu_w13 ++ (pu_w14))))))))))))))
theorem pu_in0 : ∀ w ∈ pu_w0, w ∈ pu_wA := fun _ h => List.mem_append_left _ h
theorem pu_in1 : ∀ w ∈ pu_w1, w ∈ pu_wA := fun _ h => List.mem_append_right _ (List.mem_append_left _ h)
theorem pu_in2 : ∀ w ∈ pu_w2, w ∈ pu_wA := fun _ h => List.mem_append_right _ (List.mem_append_right _ (List.mem_append_left _ h))
theorem pu_in3 : ∀ w ∈ pu_w3, w ∈ pu_wA := fun _ h => List.mem_append_right _ (List.mem_append_right _ (List.mem_append_right _ (List.mem_append_left _ h)))
theorem pu_in4 : ∀ w ∈ pu_w4, w ∈ pu_wA := fun _ h => List.mem_append_right _ (List.mem_append_right _ (List.mem_append_right _ (List.mem_append_right _ (List.mem_append_left _ h))))
theorem pu_in5 : ∀ w ∈ pu_w5, w ∈ pu_wA := fun _ h => List.mem_append_right _ (List.mem_append_right _ (List.mem_append_right _ (List.mem_append_right _ (List.mem_append_right _ (List.mem_append_left _ h)))))
theorem pu_in6 : ∀ w ∈ pu_w6, w ∈ pu_wA := fun _ h => List.mem_append_right _ (List.mem_append_right _ (List.mem_append_right _ (List.mem_append_right _ (List.mem_append_right _ (List.mem_append_right _ (List.mem_append_left _ h))))))
theorem pu_in7 : ∀ w ∈ pu_w7, w ∈ pu_wA := fun _ h => List.mem_append_right _ (List.mem_append_right _ (List.mem_append_right _ (List.mem_append_right _ (List.mem_append_right _ (List.mem_append_right _ (List.mem_append_right _ (List.mem_append_left _ h)))))))
theorem pu_in8 : ∀ w ∈ pu_w8, w ∈ pu_wA := fun _ h => List.mem_append_right _ (List.mem_append_right _ (List.mem_append_right _ (List.mem_append_right _ (List.mem_append_right _ (List.mem_append_right _ (List.mem_append_right _ (List.mem_append_right _ (List.mem_append_left _ h))))))))
theorem pu_in9 : ∀ w ∈ pu_w9, w ∈ pu_wA := fun _ h => List.mem_append_right _ (List.mem_append_right _ (List.mem_append_right _ (List.mem_append_right _ (List.mem_append_right _ (List.mem_append_right _ (List.mem_append_right _ (List.mem_append_right _ (List.mem_append_right _ (List.mem_append_left _ h)))))))))
theorem pu_in10 : ∀ w ∈ pu_w10, w ∈ pu_wA := fun _ h => List.mem_append_right _ (List.mem_append_right _ (List.mem_append_right _ (List.mem_append_right _ (List.mem_append_right _ (List.mem_append_right _ (List.mem_append_right _ (List.mem_append_right _ (List.mem_append_right _ (List.mem_append_right _ (List.mem_append_left _ h))))))))))
theorem pu_in11 : ∀ w ∈ pu_w11, w ∈ pu_wA := fun _ h => List.mem_append_right _ (List.mem_append_right _ (List.mem_append_right _ (List.mem_append_right _ (List.mem_append_right _ (List.mem_append_right _ (List.mem_append_right _ (List.mem_append_right _ (List.mem_append_right _ (List.mem_append_right _ (List.mem_append_right _ (List.mem_append_left _ h)))))))))))
theorem pu_in12 : ∀ w ∈ pu_w12, w ∈ pu_wA := fun _ h => List.mem_append_right _ (List.mem_append_right _ (List.mem_append_right _ (List.mem_append_right _ (List.mem_append_right _ (List.mem_append_right _ (List.mem_append_right _ (List.mem_append_right _ (List.mem_append_right _ (List.mem_append_right _ (List.mem_append_right _ (List.mem_append_right _ (List.mem_append_left _ h))))))))))))
theorem pu_in13 : ∀ w ∈ pu_w13, w ∈ pu_wA := fun _ h => List.mem_append_right _ (List.mem_append_right _ (List.mem_append_right _ (List.mem_append_right _ (List.mem_append_right _ (List.mem_append_right _ (List.mem_append_right _ (List.mem_append_right _ (List.mem_append_right _ (List.mem_append_right _ (List.mem_append_right _ (List.mem_append_right _ (List.mem_append_right _ (List.mem_append_left _ h)))))))))))))
theorem pu_in14 : ∀ w ∈ pu_w14, w ∈ pu_wA := fun _ h => List.mem_append_right _ (List.mem_append_right _ (List.mem_append_right _ (List.mem_append_right _ (List.mem_append_right _ (List.mem_append_right _ (List.mem_append_right _ (List.mem_append_right _ (List.mem_append_right _ (List.mem_append_right _ (List.mem_append_right _ (List.mem_append_right _ (List.mem_append_right _ (List.mem_append_right _ (h))))))))))))))
theorem pu_g0 : pu_w0.all (fun w => k2_isCode w || goodWord w) = true := by decide +kernel
theorem pu_g1 : pu_w1.all (fun w => k2_isCode w || goodWord w) = true := by decide +kernel
theorem pu_g2 : pu_w2.all (fun w => k2_isCode w || goodWord w) = true := by decide +kernel
theorem pu_g3 : pu_w3.all (fun w => k2_isCode w || goodWord w) = true := by decide +kernel
theorem pu_g4 : pu_w4.all (fun w => k2_isCode w || goodWord w) = true := by decide +kernel
theorem pu_g5 : pu_w5.all (fun w => k2_isCode w || goodWord w) = true := by decide +kernel
theorem pu_g6 : pu_w6.all (fun w => k2_isCode w || goodWord w) = true := by decide +kernel
theorem pu_g7 : pu_w7.all (fun w => k2_isCode w || goodWord w) = true := by decide +kernel
theorem pu_g8 : pu_w8.all (fun w => k2_isCode w || goodWord w) = true := by decide +kernel
theorem pu_g9 : pu_w9.all (fun w => k2_isCode w || goodWord w) = true := by decide +kernel
theorem pu_g10 : pu_w10.all (fun w => k2_isCode w || goodWord w) = true := by decide +kernel
theorem pu_g11 : pu_w11.all (fun w => k2_isCode w || goodWord w) = true := by decide +kernel
theorem pu_g12 : pu_w12.all (fun w => k2_isCode w || goodWord w) = true := by decide +kernel
theorem pu_g13 : pu_w13.all (fun w => k2_isCode w || goodWord w) = true := by decide +kernel
theorem pu_g14 : pu_w14.all (fun w => k2_isCode w || goodWord w) = true := by decide +kernel
theorem pu_good : ∀ w ∈ pu_wA, (w.onTables && w.keeps) = true ∨ ∃ ty, w = .arrayClass ty := by
  intro w hw
  have h : (k2_isCode w || goodWord w) = true := by
    unfold pu_wA at hw
    simp only [List.mem_append] at hw
    rcases hw with hw | hw | hw | hw | hw | hw | hw | hw | hw | hw | hw | hw | hw | hw | hw
    · exact List.all_eq_true.mp pu_g0 w hw
    · exact List.all_eq_true.mp pu_g1 w hw
    · exact List.all_eq_true.mp pu_g2 w hw
    · exact List.all_eq_true.mp pu_g3 w hw
    · exact List.all_eq_true.mp pu_g4 w hw
    · exact List.all_eq_true.mp pu_g5 w hw
    · exact List.all_eq_true.mp pu_g6 w hw
    · exact List.all_eq_true.mp pu_g7 w hw
    · exact List.all_eq_true.mp pu_g8 w hw
    · exact List.all_eq_true.mp pu_g9 w hw
    · exact List.all_eq_true.mp pu_g10 w hw
    · exact List.all_eq_true.mp pu_g11 w hw
    · exact List.all_eq_true.mp pu_g12 w hw
    · exact List.all_eq_true.mp pu_g13 w hw
    · exact List.all_eq_true.mp pu_g14 w hw
  rcases Bool.or_eq_true_iff.mp h with h | h
  · cases w <;> first | (simp [k2_isCode] at h; done) | exact Or.inl rfl
  · exact good_of_word h
def pu_wN : List Cond := [(Jvm.Cond.methodLinkNest "RowFile" (11 : Nat) y_Draft_init "RowFile"), (Jvm.Cond.fieldLinkNest "RowFile$RowRecord" (28 : Nat) "RowFile$Draft" "codes" "[I" "RowFile"), (Jvm.Cond.fieldLinkNest "RowFile$RowRecord" (56 : Nat) "RowFile$Draft" "numbers" "[J" "RowFile"), (Jvm.Cond.fieldLinkNest "RowFile$RowRecord" (47 : Nat) "RowFile$Draft" "blobs" "[B" "RowFile"), (Jvm.Cond.fieldLinkNest "RowFile$RowRecord" (22 : Nat) "RowFile$Draft" "count" "I" "RowFile"), (Jvm.Cond.fieldLinkNest "RowFile" (93 : Nat) "RowFile$Draft" "count" "I" "RowFile"), (Jvm.Cond.methodLinkNest "RowFile" (18 : Nat) y_Pages_init "RowFile"), (Jvm.Cond.fieldLinkNest "RowFile$Disk" (28 : Nat) "RowFile$Pages" "count" "I" "RowFile"), (Jvm.Cond.fieldLinkNest "RowFile$FileCheck" (69 : Nat) "RowFile$Pages" "count" "I" "RowFile"), (Jvm.Cond.fieldLinkNest "RowFile" (186 : Nat) "RowFile$Pages" "count" "I" "RowFile"), (Jvm.Cond.methodLinkNest "RowFile" (28 : Nat) y_Disk_init "RowFile"), (Jvm.Cond.methodLinkNest "RowFile$Disk" (11 : Nat) y_Pages_init "RowFile"), (Jvm.Cond.fieldLinkNest "RowFile" (58 : Nat) "RowFile$Disk" "file" "LRowFile$Pages;" "RowFile"), (Jvm.Cond.fieldLinkNest "RowFile" (193 : Nat) "RowFile$Disk" "different" "[Z" "RowFile"), (Jvm.Cond.fieldLinkNest "RowFile" (177 : Nat) "RowFile$Disk" "headThere" "Z" "RowFile"), (Jvm.Cond.fieldLinkNest "RowFile" (180 : Nat) "RowFile$Disk" "headPages" "I" "RowFile"), (Jvm.Cond.fieldLinkNest "RowFile" (183 : Nat) "RowFile$Disk" "headRecords" "I" "RowFile"), (Jvm.Cond.methodLinkNest "RowFile" (35 : Nat) y_Rec_init "RowFile"), (Jvm.Cond.fieldLinkNest "RowFile$Tree" (113 : Nat) "RowFile$RowRecord" "bytes" "[B" "RowFile"), (Jvm.Cond.fieldLinkNest "RowFile$Tree" (83 : Nat) "RowFile$RowRecord" "length" "I" "RowFile"), (Jvm.Cond.fieldLinkNest "RowFile" (162 : Nat) "RowFile$RowRecord" "codes" "[I" "RowFile"), (Jvm.Cond.fieldLinkNest "RowFile" (158 : Nat) "RowFile$RowRecord" "count" "I" "RowFile"), (Jvm.Cond.methodLinkNest "RowFile" (42 : Nat) y_Node_init "RowFile"), (Jvm.Cond.fieldLinkNest "RowFile$FileCheck" (86 : Nat) "RowFile$Node" "count" "I" "RowFile"), (Jvm.Cond.fieldLinkNest "RowFile$Tree" (132 : Nat) "RowFile$Node" "count" "I" "RowFile"), (Jvm.Cond.fieldLinkNest "RowFile$FileCheck" (104 : Nat) "RowFile$Node" "last" "I" "RowFile"), (Jvm.Cond.fieldLinkNest "RowFile$Tree" (157 : Nat) "RowFile$Node" "last" "I" "RowFile"), (Jvm.Cond.fieldLinkNest "RowFile$Tree" (63 : Nat) "RowFile$Node" "leaf" "Z" "RowFile"), (Jvm.Cond.fieldLinkNest "RowFile$FileCheck" (87 : Nat) "RowFile$Node" "leaf" "Z" "RowFile"), (Jvm.Cond.methodLinkNest "RowFile$Draft" (27 : Nat) y_RF_codeOf "RowFile"), (Jvm.Cond.methodLinkNest "RowFile$Draft" (31 : Nat) y_RF_valueSize "RowFile"), (Jvm.Cond.methodLinkNest "RowFile$Node" (46 : Nat) y_RF_readVarint "RowFile"), (Jvm.Cond.methodLinkNest "RowFile$Node" (54 : Nat) y_RF_varintSize "RowFile"), (Jvm.Cond.methodLinkNest "RowFile$RowRecord" (29 : Nat) y_RF_varintSize "RowFile"), (Jvm.Cond.methodLinkNest "RowFile$RowRecord" (33 : Nat) y_RF_writeVarint "RowFile"), (Jvm.Cond.methodLinkNest "RowFile$RowRecord" (44 : Nat) y_RF_valueSize "RowFile"), (Jvm.Cond.methodLinkNest "RowFile$Tree" (103 : Nat) y_RF_chainPages "RowFile"), (Jvm.Cond.methodLinkNest "RowFile$Tree" (116 : Nat) y_RF_sizeInLeaf "RowFile"), (Jvm.Cond.methodLinkNest "RowFile$Tree" (119 : Nat) y_RF_writeVarint "RowFile"), (Jvm.Cond.methodLinkNest "RowFile$Node" (60 : Nat) y_RF_sizeInLeaf "RowFile"), (Jvm.Cond.methodLinkNest "RowFile$FileCheck" (125 : Nat) y_RF_sizeInLeaf "RowFile"), (Jvm.Cond.methodLinkNest "RowFile$FileCheck" (128 : Nat) y_RF_chainPages "RowFile"), (Jvm.Cond.methodLinkNest "RowFile$RowRecord" (65 : Nat) y_RF_sizeInLeaf "RowFile"), (Jvm.Cond.methodLinkNest "RowFile$RowRecord" (76 : Nat) y_RF_chainPages "RowFile"), (Jvm.Cond.methodLinkNest "RowFile$RowRecord" (105 : Nat) y_RF_readVarint "RowFile"), (Jvm.Cond.methodLinkNest "RowFile$RowRecord" (101 : Nat) y_RF_codeOf "RowFile")]
def pu_isN : Cond → Bool
  | .fieldLinkNest .. => true
  | .methodLinkNest .. => true
  | _ => false
theorem pu_wN_ok : pu_wN.all pu_isN = true := by decide +kernel
theorem pu_onT : ∀ w ∈ pu_wN, w.onTables = true := by
  intro w hw
  have h2 : pu_isN w = true := List.all_eq_true.mp pu_wN_ok w hw
  cases w <;> first | (simp [pu_isN] at h2; done) | rfl
theorem in_Pages : ∀ w ∈ u_ws "RowFile$Pages" T_Pages 2, w ∈ pu_wA := by
  intro w hw
  obtain ⟨k, hk, rfl⟩ := List.mem_map.mp hw
  have hk := List.mem_range.mp hk
  match k, hk with
  | 0, _ => exact (pu_in0 _ (List.mem_of_getElem? (i := 44) rfl))
  | 1, _ => exact (pu_in0 _ (List.mem_of_getElem? (i := 45) rfl))
  | k + 2, hk => exact absurd hk (by omega)
theorem in_Draft : ∀ w ∈ u_ws "RowFile$Draft" T_Draft 4, w ∈ pu_wA := by
  intro w hw
  obtain ⟨k, hk, rfl⟩ := List.mem_map.mp hw
  have hk := List.mem_range.mp hk
  match k, hk with
  | 0, _ => exact (pu_in0 _ (List.mem_of_getElem? (i := 30) rfl))
  | 1, _ => exact (pu_in0 _ (List.mem_of_getElem? (i := 31) rfl))
  | 2, _ => exact (pu_in0 _ (List.mem_of_getElem? (i := 32) rfl))
  | 3, _ => exact (pu_in0 _ (List.mem_of_getElem? (i := 33) rfl))
  | k + 4, hk => exact absurd hk (by omega)
theorem in_Rec : ∀ w ∈ u_ws "RowFile$RowRecord" T_Rec 5, w ∈ pu_wA := by
  intro w hw
  obtain ⟨k, hk, rfl⟩ := List.mem_map.mp hw
  have hk := List.mem_range.mp hk
  match k, hk with
  | 0, _ => exact (pu_in1 _ (List.mem_of_getElem? (i := 13) rfl))
  | 1, _ => exact (pu_in1 _ (List.mem_of_getElem? (i := 14) rfl))
  | 2, _ => exact (pu_in1 _ (List.mem_of_getElem? (i := 15) rfl))
  | 3, _ => exact (pu_in1 _ (List.mem_of_getElem? (i := 16) rfl))
  | 4, _ => exact (pu_in1 _ (List.mem_of_getElem? (i := 17) rfl))
  | k + 5, hk => exact absurd hk (by omega)
theorem in_Node : ∀ w ∈ u_ws "RowFile$Node" T_Node 6, w ∈ pu_wA := by
  intro w hw
  obtain ⟨k, hk, rfl⟩ := List.mem_map.mp hw
  have hk := List.mem_range.mp hk
  match k, hk with
  | 0, _ => exact (pu_in1 _ (List.mem_of_getElem? (i := 29) rfl))
  | 1, _ => exact (pu_in1 _ (List.mem_of_getElem? (i := 30) rfl))
  | 2, _ => exact (pu_in1 _ (List.mem_of_getElem? (i := 31) rfl))
  | 3, _ => exact (pu_in1 _ (List.mem_of_getElem? (i := 32) rfl))
  | 4, _ => exact (pu_in1 _ (List.mem_of_getElem? (i := 33) rfl))
  | 5, _ => exact (pu_in1 _ (List.mem_of_getElem? (i := 34) rfl))
  | k + 6, hk => exact absurd hk (by omega)
theorem in_Disk : ∀ w ∈ u_ws "RowFile$Disk" T_Disk 7, w ∈ pu_wA := by
  intro w hw
  obtain ⟨k, hk, rfl⟩ := List.mem_map.mp hw
  have hk := List.mem_range.mp hk
  match k, hk with
  | 0, _ => exact (pu_in0 _ (List.mem_of_getElem? (i := 59) rfl))
  | 1, _ => exact (pu_in0 _ (List.mem_of_getElem? (i := 60) rfl))
  | 2, _ => exact (pu_in0 _ (List.mem_of_getElem? (i := 61) rfl))
  | 3, _ => exact (pu_in0 _ (List.mem_of_getElem? (i := 62) rfl))
  | 4, _ => exact (pu_in0 _ (List.mem_of_getElem? (i := 63) rfl))
  | 5, _ => exact (pu_in1 _ (List.mem_of_getElem? (i := 0) rfl))
  | 6, _ => exact (pu_in1 _ (List.mem_of_getElem? (i := 1) rfl))
  | k + 7, hk => exact absurd hk (by omega)
theorem in_Tree : ∀ w ∈ u_ws "RowFile$Tree" T_Tree 11, w ∈ pu_wA := by
  intro w hw
  obtain ⟨k, hk, rfl⟩ := List.mem_map.mp hw
  have hk := List.mem_range.mp hk
  match k, hk with
  | 0, _ => exact (pu_in1 _ (List.mem_of_getElem? (i := 52) rfl))
  | 1, _ => exact (pu_in1 _ (List.mem_of_getElem? (i := 53) rfl))
  | 2, _ => exact (pu_in1 _ (List.mem_of_getElem? (i := 54) rfl))
  | 3, _ => exact (pu_in1 _ (List.mem_of_getElem? (i := 55) rfl))
  | 4, _ => exact (pu_in1 _ (List.mem_of_getElem? (i := 56) rfl))
  | 5, _ => exact (pu_in1 _ (List.mem_of_getElem? (i := 57) rfl))
  | 6, _ => exact (pu_in1 _ (List.mem_of_getElem? (i := 58) rfl))
  | 7, _ => exact (pu_in1 _ (List.mem_of_getElem? (i := 59) rfl))
  | 8, _ => exact (pu_in1 _ (List.mem_of_getElem? (i := 60) rfl))
  | 9, _ => exact (pu_in1 _ (List.mem_of_getElem? (i := 61) rfl))
  | 10, _ => exact (pu_in1 _ (List.mem_of_getElem? (i := 62) rfl))
  | k + 11, hk => exact absurd hk (by omega)
theorem in_Check : ∀ w ∈ u_ws "RowFile$FileCheck" T_Check 8, w ∈ pu_wA := by
  intro w hw
  obtain ⟨k, hk, rfl⟩ := List.mem_map.mp hw
  have hk := List.mem_range.mp hk
  match k, hk with
  | 0, _ => exact (pu_in2 _ (List.mem_of_getElem? (i := 13) rfl))
  | 1, _ => exact (pu_in2 _ (List.mem_of_getElem? (i := 14) rfl))
  | 2, _ => exact (pu_in2 _ (List.mem_of_getElem? (i := 15) rfl))
  | 3, _ => exact (pu_in2 _ (List.mem_of_getElem? (i := 16) rfl))
  | 4, _ => exact (pu_in2 _ (List.mem_of_getElem? (i := 17) rfl))
  | 5, _ => exact (pu_in2 _ (List.mem_of_getElem? (i := 18) rfl))
  | 6, _ => exact (pu_in2 _ (List.mem_of_getElem? (i := 19) rfl))
  | 7, _ => exact (pu_in2 _ (List.mem_of_getElem? (i := 20) rfl))
  | k + 8, hk => exact absurd hk (by omega)
theorem in_RF : ∀ w ∈ u_ws "RowFile" T_RF 10, w ∈ pu_wA := by
  intro w hw
  obtain ⟨k, hk, rfl⟩ := List.mem_map.mp hw
  have hk := List.mem_range.mp hk
  match k, hk with
  | 0, _ => exact (pu_in2 _ (List.mem_of_getElem? (i := 50) rfl))
  | 1, _ => exact (pu_in2 _ (List.mem_of_getElem? (i := 51) rfl))
  | 2, _ => exact (pu_in2 _ (List.mem_of_getElem? (i := 52) rfl))
  | 3, _ => exact (pu_in2 _ (List.mem_of_getElem? (i := 53) rfl))
  | 4, _ => exact (pu_in2 _ (List.mem_of_getElem? (i := 54) rfl))
  | 5, _ => exact (pu_in2 _ (List.mem_of_getElem? (i := 55) rfl))
  | 6, _ => exact (pu_in2 _ (List.mem_of_getElem? (i := 56) rfl))
  | 7, _ => exact (pu_in2 _ (List.mem_of_getElem? (i := 57) rfl))
  | 8, _ => exact (pu_in2 _ (List.mem_of_getElem? (i := 58) rfl))
  | 9, _ => exact (pu_in2 _ (List.mem_of_getElem? (i := 59) rfl))
  | k + 10, hk => exact absurd hk (by omega)
theorem in_MD : ∀ w ∈ u_ws "RowFileModel" T_MD 31, w ∈ pu_wA := by
  intro w hw
  obtain ⟨k, hk, rfl⟩ := List.mem_map.mp hw
  have hk := List.mem_range.mp hk
  match k, hk with
  | 0, _ => exact (pu_in9 _ (List.mem_of_getElem? (i := 54) rfl))
  | 1, _ => exact (pu_in9 _ (List.mem_of_getElem? (i := 55) rfl))
  | 2, _ => exact (pu_in9 _ (List.mem_of_getElem? (i := 56) rfl))
  | 3, _ => exact (pu_in9 _ (List.mem_of_getElem? (i := 57) rfl))
  | 4, _ => exact (pu_in9 _ (List.mem_of_getElem? (i := 58) rfl))
  | 5, _ => exact (pu_in9 _ (List.mem_of_getElem? (i := 59) rfl))
  | 6, _ => exact (pu_in9 _ (List.mem_of_getElem? (i := 60) rfl))
  | 7, _ => exact (pu_in9 _ (List.mem_of_getElem? (i := 61) rfl))
  | 8, _ => exact (pu_in9 _ (List.mem_of_getElem? (i := 62) rfl))
  | 9, _ => exact (pu_in9 _ (List.mem_of_getElem? (i := 63) rfl))
  | 10, _ => exact (pu_in10 _ (List.mem_of_getElem? (i := 0) rfl))
  | 11, _ => exact (pu_in10 _ (List.mem_of_getElem? (i := 1) rfl))
  | 12, _ => exact (pu_in10 _ (List.mem_of_getElem? (i := 2) rfl))
  | 13, _ => exact (pu_in10 _ (List.mem_of_getElem? (i := 3) rfl))
  | 14, _ => exact (pu_in10 _ (List.mem_of_getElem? (i := 4) rfl))
  | 15, _ => exact (pu_in10 _ (List.mem_of_getElem? (i := 5) rfl))
  | 16, _ => exact (pu_in10 _ (List.mem_of_getElem? (i := 6) rfl))
  | 17, _ => exact (pu_in10 _ (List.mem_of_getElem? (i := 7) rfl))
  | 18, _ => exact (pu_in10 _ (List.mem_of_getElem? (i := 8) rfl))
  | 19, _ => exact (pu_in10 _ (List.mem_of_getElem? (i := 9) rfl))
  | 20, _ => exact (pu_in10 _ (List.mem_of_getElem? (i := 10) rfl))
  | 21, _ => exact (pu_in10 _ (List.mem_of_getElem? (i := 11) rfl))
  | 22, _ => exact (pu_in10 _ (List.mem_of_getElem? (i := 12) rfl))
  | 23, _ => exact (pu_in10 _ (List.mem_of_getElem? (i := 13) rfl))
  | 24, _ => exact (pu_in10 _ (List.mem_of_getElem? (i := 14) rfl))
  | 25, _ => exact (pu_in10 _ (List.mem_of_getElem? (i := 15) rfl))
  | 26, _ => exact (pu_in10 _ (List.mem_of_getElem? (i := 16) rfl))
  | 27, _ => exact (pu_in10 _ (List.mem_of_getElem? (i := 17) rfl))
  | 28, _ => exact (pu_in10 _ (List.mem_of_getElem? (i := 18) rfl))
  | 29, _ => exact (pu_in10 _ (List.mem_of_getElem? (i := 19) rfl))
  | 30, _ => exact (pu_in10 _ (List.mem_of_getElem? (i := 20) rfl))
  | k + 31, hk => exact absurd hk (by omega)
