/-! printed by wip/gen/gen2.py: methods' names and what the tables say of them; the links -/
def y_Sm_init : MethodName := ⟨"ScanMachine", "<init>", "()V"⟩
abbrev b_Sm_init : ByteArray := prog_1_method_1_code
set_option maxRecDepth 20000 in
theorem ok_Sm_init : MOK y_Sm_init b_Sm_init 1 none 0 := ⟨tb_at (lt_s1 18 rfl) rfl, tb_at (lt_s1 1 rfl) rfl, by decide +kernel, by decide +kernel, by decide +kernel⟩
set_option maxRecDepth 20000 in
theorem is_Sm_init : Cond.instanceMethod y_Sm_init ∈ TB := tb_at (lt_s1 17 rfl) rfl
def y_Sm_begin : MethodName := ⟨"ScanMachine", "begin", "(I)I"⟩
abbrev b_Sm_begin : ByteArray := prog_1_method_2_code
set_option maxRecDepth 20000 in
theorem ok_Sm_begin : MOK y_Sm_begin b_Sm_begin 2 (some .int) 1 := ⟨tb_at (lt_s2 26 rfl) rfl, tb_at (lt_s1 1 rfl) rfl, by decide +kernel, by decide +kernel, by decide +kernel⟩
set_option maxRecDepth 20000 in
theorem is_Sm_begin : MIN y_Sm_begin := ⟨tb_at (lt_s2 24 rfl) rfl, tb_at (lt_s2 25 rfl) rfl⟩
def y_Sm_unit : MethodName := ⟨"ScanMachine", "unit", "(II)I"⟩
abbrev b_Sm_unit : ByteArray := prog_1_method_3_code
set_option maxRecDepth 20000 in
theorem ok_Sm_unit : MOK y_Sm_unit b_Sm_unit 4 (some .int) 2 := ⟨tb_at (lt_s2 49 rfl) rfl, tb_at (lt_s1 1 rfl) rfl, by decide +kernel, by decide +kernel, by decide +kernel⟩
set_option maxRecDepth 20000 in
theorem is_Sm_unit : MIN y_Sm_unit := ⟨tb_at (lt_s2 47 rfl) rfl, tb_at (lt_s2 48 rfl) rfl⟩
def y_Sm_add : MethodName := ⟨"ScanMachine", "add", "(IIII)I"⟩
abbrev b_Sm_add : ByteArray := prog_1_method_4_code
set_option maxRecDepth 20000 in
theorem ok_Sm_add : MOK y_Sm_add b_Sm_add 5 (some .int) 4 := ⟨tb_at (lt_s2 62 rfl) rfl, tb_at (lt_s1 1 rfl) rfl, by decide +kernel, by decide +kernel, by decide +kernel⟩
set_option maxRecDepth 20000 in
theorem is_Sm_add : MIN y_Sm_add := ⟨tb_at (lt_s2 60 rfl) rfl, tb_at (lt_s2 61 rfl) rfl⟩
def y_Sm_start : MethodName := ⟨"ScanMachine", "start", "()I"⟩
abbrev b_Sm_start : ByteArray := prog_1_method_5_code
set_option maxRecDepth 20000 in
theorem ok_Sm_start : MOK y_Sm_start b_Sm_start 4 (some .int) 0 := ⟨tb_at (lt_s2 75 rfl) rfl, tb_at (lt_s1 1 rfl) rfl, by decide +kernel, by decide +kernel, by decide +kernel⟩
set_option maxRecDepth 20000 in
theorem is_Sm_start : MIN y_Sm_start := ⟨tb_at (lt_s2 73 rfl) rfl, tb_at (lt_s2 74 rfl) rfl⟩
def y_Sm_scan : MethodName := ⟨"ScanMachine", "scan", "(I)I"⟩
abbrev b_Sm_scan : ByteArray := prog_1_method_6_code
set_option maxRecDepth 20000 in
theorem ok_Sm_scan : MOK y_Sm_scan b_Sm_scan 3 (some .int) 1 := ⟨tb_at (lt_s3 41 rfl) rfl, tb_at (lt_s1 1 rfl) rfl, by decide +kernel, by decide +kernel, by decide +kernel⟩
set_option maxRecDepth 20000 in
theorem is_Sm_scan : MIN y_Sm_scan := ⟨tb_at (lt_s3 39 rfl) rfl, tb_at (lt_s3 40 rfl) rfl⟩
def y_Sm_set : MethodName := ⟨"ScanMachine", "set", "(II)I"⟩
abbrev b_Sm_set : ByteArray := prog_1_method_7_code
set_option maxRecDepth 20000 in
theorem ok_Sm_set : MOK y_Sm_set b_Sm_set 4 (some .int) 2 := ⟨tb_at (lt_s3 178 rfl) rfl, tb_at (lt_s1 1 rfl) rfl, by decide +kernel, by decide +kernel, by decide +kernel⟩
set_option maxRecDepth 20000 in
theorem is_Sm_set : MIN y_Sm_set := ⟨tb_at (lt_s3 176 rfl) rfl, tb_at (lt_s3 177 rfl) rfl⟩
def y_Sm_get : MethodName := ⟨"ScanMachine", "get", "(I)I"⟩
abbrev b_Sm_get : ByteArray := prog_1_method_8_code
set_option maxRecDepth 20000 in
theorem ok_Sm_get : MOK y_Sm_get b_Sm_get 2 (some .int) 1 := ⟨tb_at (lt_s3 188 rfl) rfl, tb_at (lt_s1 1 rfl) rfl, by decide +kernel, by decide +kernel, by decide +kernel⟩
set_option maxRecDepth 20000 in
theorem is_Sm_get : MIN y_Sm_get := ⟨tb_at (lt_s3 186 rfl) rfl, tb_at (lt_s3 187 rfl) rfl⟩
def y_Sm_count : MethodName := ⟨"ScanMachine", "count", "(I)I"⟩
abbrev b_Sm_count : ByteArray := prog_1_method_9_code
set_option maxRecDepth 20000 in
theorem ok_Sm_count : MOK y_Sm_count b_Sm_count 2 (some .int) 1 := ⟨tb_at (lt_s3 192 rfl) rfl, tb_at (lt_s1 1 rfl) rfl, by decide +kernel, by decide +kernel, by decide +kernel⟩
set_option maxRecDepth 20000 in
theorem is_Sm_count : MIN y_Sm_count := ⟨tb_at (lt_s3 190 rfl) rfl, tb_at (lt_s3 191 rfl) rfl⟩
def y_Sm_mayTouch : MethodName := ⟨"ScanMachine", "mayTouch", "(I)Z"⟩
abbrev b_Sm_mayTouch : ByteArray := prog_1_method_10_code
set_option maxRecDepth 20000 in
theorem ok_Sm_mayTouch : MOK y_Sm_mayTouch b_Sm_mayTouch 2 (some .boolean) 1 := ⟨tb_at (lt_s3 182 rfl) rfl, tb_at (lt_s1 1 rfl) rfl, by decide +kernel, by decide +kernel, by decide +kernel⟩
set_option maxRecDepth 20000 in
theorem is_Sm_mayTouch : MIN y_Sm_mayTouch := ⟨tb_at (lt_s3 181 rfl) rfl, tb_at (lt_s0 72 rfl) rfl⟩
def y_Sm_halt : MethodName := ⟨"ScanMachine", "halt", "()V"⟩
abbrev b_Sm_halt : ByteArray := prog_1_method_11_code
set_option maxRecDepth 20000 in
theorem ok_Sm_halt : MOK y_Sm_halt b_Sm_halt 1 none 0 := ⟨tb_at (lt_s2 30 rfl) rfl, tb_at (lt_s1 1 rfl) rfl, by decide +kernel, by decide +kernel, by decide +kernel⟩
set_option maxRecDepth 20000 in
theorem is_Sm_halt : MIN y_Sm_halt := ⟨tb_at (lt_s2 29 rfl) rfl, tb_at (lt_s0 0 rfl) rfl⟩
def y_Sm_firstFault : MethodName := ⟨"ScanMachine", "firstFault", "(I)I"⟩
abbrev b_Sm_firstFault : ByteArray := prog_1_method_12_code
set_option maxRecDepth 20000 in
theorem ok_Sm_firstFault : MOK y_Sm_firstFault b_Sm_firstFault 3 (some .int) 1 := ⟨tb_at (lt_s2 83 rfl) rfl, tb_at (lt_s1 1 rfl) rfl, by decide +kernel, by decide +kernel, by decide +kernel⟩
set_option maxRecDepth 20000 in
theorem is_Sm_firstFault : MIN y_Sm_firstFault := ⟨tb_at (lt_s2 82 rfl) rfl, tb_at (lt_s0 9 rfl) rfl⟩
def y_Mo_init : MethodName := ⟨"ScanMachineModel", "<init>", "()V"⟩
abbrev b_Mo_init : ByteArray := prog_12_method_1_code
set_option maxRecDepth 20000 in
theorem ok_Mo_init : MOK y_Mo_init b_Mo_init 1 none 0 := ⟨tb_at (lt_s3 197 rfl) rfl, tb_at (lt_s1 10 rfl) rfl, by decide +kernel, by decide +kernel, by decide +kernel⟩
set_option maxRecDepth 20000 in
theorem is_Mo_init : Cond.instanceMethod y_Mo_init ∈ TB := tb_at (lt_s3 196 rfl) rfl
def y_Mo_stop : MethodName := ⟨"ScanMachineModel", "stop", "()V"⟩
abbrev b_Mo_stop : ByteArray := prog_12_method_3_code
set_option maxRecDepth 20000 in
theorem ok_Mo_stop : MOK y_Mo_stop b_Mo_stop 2 none 0 := ⟨tb_at (lt_s3 206 rfl) rfl, tb_at (lt_s1 10 rfl) rfl, by decide +kernel, by decide +kernel, by decide +kernel⟩
set_option maxRecDepth 20000 in
theorem is_Mo_stop : MIN y_Mo_stop := ⟨tb_at (lt_s3 205 rfl) rfl, tb_at (lt_s0 73 rfl) rfl⟩
def y_Mo_begin : MethodName := ⟨"ScanMachineModel", "begin", "(I)I"⟩
abbrev b_Mo_begin : ByteArray := prog_12_method_4_code
set_option maxRecDepth 20000 in
theorem ok_Mo_begin : MOK y_Mo_begin b_Mo_begin 2 (some .int) 1 := ⟨tb_at (lt_s3 202 rfl) rfl, tb_at (lt_s1 10 rfl) rfl, by decide +kernel, by decide +kernel, by decide +kernel⟩
set_option maxRecDepth 20000 in
theorem is_Mo_begin : MIN y_Mo_begin := ⟨tb_at (lt_s3 200 rfl) rfl, tb_at (lt_s3 201 rfl) rfl⟩
def y_Mo_unit : MethodName := ⟨"ScanMachineModel", "unit", "(II)I"⟩
abbrev b_Mo_unit : ByteArray := prog_12_method_5_code
set_option maxRecDepth 20000 in
theorem ok_Mo_unit : MOK y_Mo_unit b_Mo_unit 3 (some .int) 2 := ⟨tb_at (lt_s4 56 rfl) rfl, tb_at (lt_s1 10 rfl) rfl, by decide +kernel, by decide +kernel, by decide +kernel⟩
set_option maxRecDepth 20000 in
theorem is_Mo_unit : MIN y_Mo_unit := ⟨tb_at (lt_s4 54 rfl) rfl, tb_at (lt_s4 55 rfl) rfl⟩
def y_Mo_add : MethodName := ⟨"ScanMachineModel", "add", "(IIII)I"⟩
abbrev b_Mo_add : ByteArray := prog_12_method_6_code
set_option maxRecDepth 20000 in
theorem ok_Mo_add : MOK y_Mo_add b_Mo_add 5 (some .int) 4 := ⟨tb_at (lt_s4 60 rfl) rfl, tb_at (lt_s1 10 rfl) rfl, by decide +kernel, by decide +kernel, by decide +kernel⟩
set_option maxRecDepth 20000 in
theorem is_Mo_add : MIN y_Mo_add := ⟨tb_at (lt_s4 58 rfl) rfl, tb_at (lt_s4 59 rfl) rfl⟩
def y_Mo_isIn : MethodName := ⟨"ScanMachineModel", "isIn", "(JJJ)Z"⟩
abbrev b_Mo_isIn : ByteArray := prog_12_method_7_code
set_option maxRecDepth 20000 in
theorem ok_Mo_isIn : MOK y_Mo_isIn b_Mo_isIn 6 (some .boolean) 3 := ⟨tb_at (lt_s4 84 rfl) rfl, tb_at (lt_s1 10 rfl) rfl, by decide +kernel, by decide +kernel, by decide +kernel⟩
set_option maxRecDepth 20000 in
theorem is_Mo_isIn : Cond.static y_Mo_isIn ∈ TB := tb_at (lt_s4 83 rfl) rfl
def y_Mo_placeIsWrong : MethodName := ⟨"ScanMachineModel", "placeIsWrong", "(I)Z"⟩
abbrev b_Mo_placeIsWrong : ByteArray := prog_12_method_8_code
set_option maxRecDepth 20000 in
theorem ok_Mo_placeIsWrong : MOK y_Mo_placeIsWrong b_Mo_placeIsWrong 5 (some .boolean) 1 := ⟨tb_at (lt_s4 72 rfl) rfl, tb_at (lt_s1 10 rfl) rfl, by decide +kernel, by decide +kernel, by decide +kernel⟩
set_option maxRecDepth 20000 in
theorem is_Mo_placeIsWrong : MIN y_Mo_placeIsWrong := ⟨tb_at (lt_s4 71 rfl) rfl, tb_at (lt_s0 75 rfl) rfl⟩
def y_Mo_isWrongNumber : MethodName := ⟨"ScanMachineModel", "isWrongNumber", "(I)Z"⟩
abbrev b_Mo_isWrongNumber : ByteArray := prog_12_method_9_code
set_option maxRecDepth 20000 in
theorem ok_Mo_isWrongNumber : MOK y_Mo_isWrongNumber b_Mo_isWrongNumber 2 (some .boolean) 1 := ⟨tb_at (lt_s4 80 rfl) rfl, tb_at (lt_s1 10 rfl) rfl, by decide +kernel, by decide +kernel, by decide +kernel⟩
set_option maxRecDepth 20000 in
theorem is_Mo_isWrongNumber : MIN y_Mo_isWrongNumber := ⟨tb_at (lt_s4 79 rfl) rfl, tb_at (lt_s0 77 rfl) rfl⟩
def y_Mo_namesUnit : MethodName := ⟨"ScanMachineModel", "namesUnit", "(I)Z"⟩
abbrev b_Mo_namesUnit : ByteArray := prog_12_method_10_code
set_option maxRecDepth 20000 in
theorem ok_Mo_namesUnit : MOK y_Mo_namesUnit b_Mo_namesUnit 3 (some .boolean) 1 := ⟨tb_at (lt_s4 96 rfl) rfl, tb_at (lt_s1 10 rfl) rfl, by decide +kernel, by decide +kernel, by decide +kernel⟩
set_option maxRecDepth 20000 in
theorem is_Mo_namesUnit : MIN y_Mo_namesUnit := ⟨tb_at (lt_s4 95 rfl) rfl, tb_at (lt_s0 79 rfl) rfl⟩
def y_Mo_isWrongUnit : MethodName := ⟨"ScanMachineModel", "isWrongUnit", "(II)Z"⟩
abbrev b_Mo_isWrongUnit : ByteArray := prog_12_method_11_code
set_option maxRecDepth 20000 in
theorem ok_Mo_isWrongUnit : MOK y_Mo_isWrongUnit b_Mo_isWrongUnit 3 (some .boolean) 2 := ⟨tb_at (lt_s4 92 rfl) rfl, tb_at (lt_s1 10 rfl) rfl, by decide +kernel, by decide +kernel, by decide +kernel⟩
set_option maxRecDepth 20000 in
theorem is_Mo_isWrongUnit : MIN y_Mo_isWrongUnit := ⟨tb_at (lt_s4 91 rfl) rfl, tb_at (lt_s0 78 rfl) rfl⟩
def y_Mo_firstCell : MethodName := ⟨"ScanMachineModel", "firstCell", "(I)J"⟩
abbrev b_Mo_firstCell : ByteArray := prog_12_method_12_code
set_option maxRecDepth 20000 in
theorem ok_Mo_firstCell : MOK y_Mo_firstCell b_Mo_firstCell 3 (some .long) 1 := ⟨tb_at (lt_s4 108 rfl) rfl, tb_at (lt_s1 10 rfl) rfl, by decide +kernel, by decide +kernel, by decide +kernel⟩
set_option maxRecDepth 20000 in
theorem is_Mo_firstCell : MIN y_Mo_firstCell := ⟨tb_at (lt_s4 107 rfl) rfl, tb_at (lt_s0 82 rfl) rfl⟩
def y_Mo_cellsOf : MethodName := ⟨"ScanMachineModel", "cellsOf", "(I)I"⟩
abbrev b_Mo_cellsOf : ByteArray := prog_12_method_13_code
set_option maxRecDepth 20000 in
theorem ok_Mo_cellsOf : MOK y_Mo_cellsOf b_Mo_cellsOf 2 (some .int) 1 := ⟨tb_at (lt_s4 104 rfl) rfl, tb_at (lt_s1 10 rfl) rfl, by decide +kernel, by decide +kernel, by decide +kernel⟩
set_option maxRecDepth 20000 in
theorem is_Mo_cellsOf : MIN y_Mo_cellsOf := ⟨tb_at (lt_s4 103 rfl) rfl, tb_at (lt_s0 81 rfl) rfl⟩
def y_Mo_isWrongCell : MethodName := ⟨"ScanMachineModel", "isWrongCell", "(II)Z"⟩
abbrev b_Mo_isWrongCell : ByteArray := prog_12_method_14_code
set_option maxRecDepth 20000 in
theorem ok_Mo_isWrongCell : MOK y_Mo_isWrongCell b_Mo_isWrongCell 5 (some .boolean) 2 := ⟨tb_at (lt_s4 100 rfl) rfl, tb_at (lt_s1 10 rfl) rfl, by decide +kernel, by decide +kernel, by decide +kernel⟩
set_option maxRecDepth 20000 in
theorem is_Mo_isWrongCell : MIN y_Mo_isWrongCell := ⟨tb_at (lt_s4 99 rfl) rfl, tb_at (lt_s0 80 rfl) rfl⟩
def y_Mo_isCounter : MethodName := ⟨"ScanMachineModel", "isCounter", "(IJ)Z"⟩
abbrev b_Mo_isCounter : ByteArray := prog_12_method_15_code
set_option maxRecDepth 20000 in
theorem ok_Mo_isCounter : MOK y_Mo_isCounter b_Mo_isCounter 6 (some .boolean) 2 := ⟨tb_at (lt_s4 116 rfl) rfl, tb_at (lt_s1 10 rfl) rfl, by decide +kernel, by decide +kernel, by decide +kernel⟩
set_option maxRecDepth 20000 in
theorem is_Mo_isCounter : MIN y_Mo_isCounter := ⟨tb_at (lt_s4 115 rfl) rfl, tb_at (lt_s0 84 rfl) rfl⟩
def y_Mo_touchesCounter : MethodName := ⟨"ScanMachineModel", "touchesCounter", "(II)Z"⟩
abbrev b_Mo_touchesCounter : ByteArray := prog_12_method_16_code
set_option maxRecDepth 20000 in
theorem ok_Mo_touchesCounter : MOK y_Mo_touchesCounter b_Mo_touchesCounter 7 (some .boolean) 2 := ⟨tb_at (lt_s4 112 rfl) rfl, tb_at (lt_s1 10 rfl) rfl, by decide +kernel, by decide +kernel, by decide +kernel⟩
set_option maxRecDepth 20000 in
theorem is_Mo_touchesCounter : MIN y_Mo_touchesCounter := ⟨tb_at (lt_s4 111 rfl) rfl, tb_at (lt_s0 83 rfl) rfl⟩
def y_Mo_numberAt : MethodName := ⟨"ScanMachineModel", "numberAt", "(I)I"⟩
abbrev b_Mo_numberAt : ByteArray := prog_12_method_17_code
set_option maxRecDepth 20000 in
theorem ok_Mo_numberAt : MOK y_Mo_numberAt b_Mo_numberAt 2 (some .int) 1 := ⟨tb_at (lt_s4 124 rfl) rfl, tb_at (lt_s1 10 rfl) rfl, by decide +kernel, by decide +kernel, by decide +kernel⟩
set_option maxRecDepth 20000 in
theorem is_Mo_numberAt : MIN y_Mo_numberAt := ⟨tb_at (lt_s4 123 rfl) rfl, tb_at (lt_s0 86 rfl) rfl⟩
def y_Mo_goesWrong : MethodName := ⟨"ScanMachineModel", "goesWrong", "(I)Z"⟩
abbrev b_Mo_goesWrong : ByteArray := prog_12_method_18_code
set_option maxRecDepth 20000 in
theorem ok_Mo_goesWrong : MOK y_Mo_goesWrong b_Mo_goesWrong 2 (some .boolean) 1 := ⟨tb_at (lt_s4 120 rfl) rfl, tb_at (lt_s1 10 rfl) rfl, by decide +kernel, by decide +kernel, by decide +kernel⟩
set_option maxRecDepth 20000 in
theorem is_Mo_goesWrong : MIN y_Mo_goesWrong := ⟨tb_at (lt_s4 119 rfl) rfl, tb_at (lt_s0 85 rfl) rfl⟩
def y_Mo_lineFault : MethodName := ⟨"ScanMachineModel", "lineFault", "(II)I"⟩
abbrev b_Mo_lineFault : ByteArray := prog_12_method_19_code
set_option maxRecDepth 20000 in
theorem ok_Mo_lineFault : MOK y_Mo_lineFault b_Mo_lineFault 4 (some .int) 2 := ⟨tb_at (lt_s4 76 rfl) rfl, tb_at (lt_s1 10 rfl) rfl, by decide +kernel, by decide +kernel, by decide +kernel⟩
set_option maxRecDepth 20000 in
theorem is_Mo_lineFault : MIN y_Mo_lineFault := ⟨tb_at (lt_s4 75 rfl) rfl, tb_at (lt_s0 76 rfl) rfl⟩
def y_Mo_lastOf : MethodName := ⟨"ScanMachineModel", "lastOf", "(I)I"⟩
abbrev b_Mo_lastOf : ByteArray := prog_12_method_20_code
set_option maxRecDepth 20000 in
theorem ok_Mo_lastOf : MOK y_Mo_lastOf b_Mo_lastOf 2 (some .int) 1 := ⟨tb_at (lt_s4 140 rfl) rfl, tb_at (lt_s1 10 rfl) rfl, by decide +kernel, by decide +kernel, by decide +kernel⟩
set_option maxRecDepth 20000 in
theorem is_Mo_lastOf : MIN y_Mo_lastOf := ⟨tb_at (lt_s4 139 rfl) rfl, tb_at (lt_s0 90 rfl) rfl⟩
def y_Mo_isInLoop : MethodName := ⟨"ScanMachineModel", "isInLoop", "(II)Z"⟩
abbrev b_Mo_isInLoop : ByteArray := prog_12_method_21_code
set_option maxRecDepth 20000 in
theorem ok_Mo_isInLoop : MOK y_Mo_isInLoop b_Mo_isInLoop 3 (some .boolean) 2 := ⟨tb_at (lt_s4 136 rfl) rfl, tb_at (lt_s1 10 rfl) rfl, by decide +kernel, by decide +kernel, by decide +kernel⟩
set_option maxRecDepth 20000 in
theorem is_Mo_isInLoop : MIN y_Mo_isInLoop := ⟨tb_at (lt_s4 135 rfl) rfl, tb_at (lt_s0 89 rfl) rfl⟩
def y_Mo_hasSame : MethodName := ⟨"ScanMachineModel", "hasSame", "(III)Z"⟩
abbrev b_Mo_hasSame : ByteArray := prog_12_method_22_code
set_option maxRecDepth 20000 in
theorem ok_Mo_hasSame : MOK y_Mo_hasSame b_Mo_hasSame 4 (some .boolean) 3 := ⟨tb_at (lt_s4 132 rfl) rfl, tb_at (lt_s1 10 rfl) rfl, by decide +kernel, by decide +kernel, by decide +kernel⟩
set_option maxRecDepth 20000 in
theorem is_Mo_hasSame : MIN y_Mo_hasSame := ⟨tb_at (lt_s4 131 rfl) rfl, tb_at (lt_s0 88 rfl) rfl⟩
def y_Mo_isWrongLoop : MethodName := ⟨"ScanMachineModel", "isWrongLoop", "(I)Z"⟩
abbrev b_Mo_isWrongLoop : ByteArray := prog_12_method_23_code
set_option maxRecDepth 20000 in
theorem ok_Mo_isWrongLoop : MOK y_Mo_isWrongLoop b_Mo_isWrongLoop 8 (some .boolean) 1 := ⟨tb_at (lt_s4 128 rfl) rfl, tb_at (lt_s1 10 rfl) rfl, by decide +kernel, by decide +kernel, by decide +kernel⟩
set_option maxRecDepth 20000 in
theorem is_Mo_isWrongLoop : MIN y_Mo_isWrongLoop := ⟨tb_at (lt_s4 127 rfl) rfl, tb_at (lt_s0 87 rfl) rfl⟩
def y_Mo_taken : MethodName := ⟨"ScanMachineModel", "taken", "(I)I"⟩
abbrev b_Mo_taken : ByteArray := prog_12_method_24_code
set_option maxRecDepth 20000 in
theorem ok_Mo_taken : MOK y_Mo_taken b_Mo_taken 1 (some .int) 1 := ⟨tb_at (lt_s4 147 rfl) rfl, tb_at (lt_s1 10 rfl) rfl, by decide +kernel, by decide +kernel, by decide +kernel⟩
set_option maxRecDepth 20000 in
theorem is_Mo_taken : Cond.static y_Mo_taken ∈ TB := tb_at (lt_s4 146 rfl) rfl
def y_Mo_left : MethodName := ⟨"ScanMachineModel", "left", "(I)I"⟩
abbrev b_Mo_left : ByteArray := prog_12_method_25_code
set_option maxRecDepth 20000 in
theorem ok_Mo_left : MOK y_Mo_left b_Mo_left 2 (some .int) 1 := ⟨tb_at (lt_s4 150 rfl) rfl, tb_at (lt_s1 10 rfl) rfl, by decide +kernel, by decide +kernel, by decide +kernel⟩
set_option maxRecDepth 20000 in
theorem is_Mo_left : Cond.static y_Mo_left ∈ TB := tb_at (lt_s4 149 rfl) rfl
def y_Mo_comes : MethodName := ⟨"ScanMachineModel", "comes", "(II)Z"⟩
abbrev b_Mo_comes : ByteArray := prog_12_method_26_code
set_option maxRecDepth 20000 in
theorem ok_Mo_comes : MOK y_Mo_comes b_Mo_comes 3 (some .boolean) 2 := ⟨tb_at (lt_s4 154 rfl) rfl, tb_at (lt_s1 10 rfl) rfl, by decide +kernel, by decide +kernel, by decide +kernel⟩
set_option maxRecDepth 20000 in
theorem is_Mo_comes : MIN y_Mo_comes := ⟨tb_at (lt_s4 153 rfl) rfl, tb_at (lt_s0 92 rfl) rfl⟩
def y_Mo_stackFault : MethodName := ⟨"ScanMachineModel", "stackFault", "(I)I"⟩
abbrev b_Mo_stackFault : ByteArray := prog_12_method_27_code
set_option maxRecDepth 20000 in
theorem ok_Mo_stackFault : MOK y_Mo_stackFault b_Mo_stackFault 5 (some .int) 1 := ⟨tb_at (lt_s4 144 rfl) rfl, tb_at (lt_s1 10 rfl) rfl, by decide +kernel, by decide +kernel, by decide +kernel⟩
set_option maxRecDepth 20000 in
theorem is_Mo_stackFault : MIN y_Mo_stackFault := ⟨tb_at (lt_s4 143 rfl) rfl, tb_at (lt_s0 91 rfl) rfl⟩
def y_Mo_cut : MethodName := ⟨"ScanMachineModel", "cut", "(J)J"⟩
abbrev b_Mo_cut : ByteArray := prog_12_method_28_code
set_option maxRecDepth 20000 in
theorem ok_Mo_cut : MOK y_Mo_cut b_Mo_cut 2 (some .long) 1 := ⟨tb_at (lt_s4 173 rfl) rfl, tb_at (lt_s1 10 rfl) rfl, by decide +kernel, by decide +kernel, by decide +kernel⟩
set_option maxRecDepth 20000 in
theorem is_Mo_cut : Cond.static y_Mo_cut ∈ TB := tb_at (lt_s4 172 rfl) rfl
def y_Mo_greater : MethodName := ⟨"ScanMachineModel", "greater", "(JJ)J"⟩
abbrev b_Mo_greater : ByteArray := prog_12_method_29_code
set_option maxRecDepth 20000 in
theorem ok_Mo_greater : MOK y_Mo_greater b_Mo_greater 4 (some .long) 2 := ⟨tb_at (lt_s4 177 rfl) rfl, tb_at (lt_s1 10 rfl) rfl, by decide +kernel, by decide +kernel, by decide +kernel⟩
set_option maxRecDepth 20000 in
theorem is_Mo_greater : Cond.static y_Mo_greater ∈ TB := tb_at (lt_s4 176 rfl) rfl
def y_Mo_behind : MethodName := ⟨"ScanMachineModel", "behind", "(JJ)J"⟩
abbrev b_Mo_behind : ByteArray := prog_12_method_30_code
set_option maxRecDepth 20000 in
theorem ok_Mo_behind : MOK y_Mo_behind b_Mo_behind 4 (some .long) 2 := ⟨tb_at (lt_s4 170 rfl) rfl, tb_at (lt_s1 10 rfl) rfl, by decide +kernel, by decide +kernel, by decide +kernel⟩
set_option maxRecDepth 20000 in
theorem is_Mo_behind : Cond.static y_Mo_behind ∈ TB := tb_at (lt_s4 169 rfl) rfl
def y_Mo_times : MethodName := ⟨"ScanMachineModel", "times", "(IJ)J"⟩
abbrev b_Mo_times : ByteArray := prog_12_method_31_code
set_option maxRecDepth 20000 in
theorem ok_Mo_times : MOK y_Mo_times b_Mo_times 4 (some .long) 2 := ⟨tb_at (lt_s4 181 rfl) rfl, tb_at (lt_s1 10 rfl) rfl, by decide +kernel, by decide +kernel, by decide +kernel⟩
set_option maxRecDepth 20000 in
theorem is_Mo_times : MIN y_Mo_times := ⟨tb_at (lt_s4 180 rfl) rfl, tb_at (lt_s0 96 rfl) rfl⟩
def y_Mo_way : MethodName := ⟨"ScanMachineModel", "way", "(II)J"⟩
abbrev b_Mo_way : ByteArray := prog_12_method_32_code
set_option maxRecDepth 20000 in
theorem ok_Mo_way : MOK y_Mo_way b_Mo_way 12 (some .long) 2 := ⟨tb_at (lt_s4 162 rfl) rfl, tb_at (lt_s1 10 rfl) rfl, by decide +kernel, by decide +kernel, by decide +kernel⟩
set_option maxRecDepth 20000 in
theorem is_Mo_way : MIN y_Mo_way := ⟨tb_at (lt_s4 161 rfl) rfl, tb_at (lt_s0 94 rfl) rfl⟩
def y_Mo_wayTo : MethodName := ⟨"ScanMachineModel", "wayTo", "(II)J"⟩
abbrev b_Mo_wayTo : ByteArray := prog_12_method_33_code
set_option maxRecDepth 20000 in
theorem ok_Mo_wayTo : MOK y_Mo_wayTo b_Mo_wayTo 3 (some .long) 2 := ⟨tb_at (lt_s4 166 rfl) rfl, tb_at (lt_s1 10 rfl) rfl, by decide +kernel, by decide +kernel, by decide +kernel⟩
set_option maxRecDepth 20000 in
theorem is_Mo_wayTo : MIN y_Mo_wayTo := ⟨tb_at (lt_s4 165 rfl) rfl, tb_at (lt_s0 95 rfl) rfl⟩
def y_Mo_stepsOf : MethodName := ⟨"ScanMachineModel", "stepsOf", "()J"⟩
abbrev b_Mo_stepsOf : ByteArray := prog_12_method_34_code
set_option maxRecDepth 20000 in
theorem ok_Mo_stepsOf : MOK y_Mo_stepsOf b_Mo_stepsOf 3 (some .long) 0 := ⟨tb_at (lt_s4 158 rfl) rfl, tb_at (lt_s1 10 rfl) rfl, by decide +kernel, by decide +kernel, by decide +kernel⟩
set_option maxRecDepth 20000 in
theorem is_Mo_stepsOf : MIN y_Mo_stepsOf := ⟨tb_at (lt_s4 157 rfl) rfl, tb_at (lt_s0 93 rfl) rfl⟩
def y_Mo_unitFault : MethodName := ⟨"ScanMachineModel", "unitFault", "(I)I"⟩
abbrev b_Mo_unitFault : ByteArray := prog_12_method_35_code
set_option maxRecDepth 20000 in
theorem ok_Mo_unitFault : MOK y_Mo_unitFault b_Mo_unitFault 4 (some .int) 1 := ⟨tb_at (lt_s4 68 rfl) rfl, tb_at (lt_s1 10 rfl) rfl, by decide +kernel, by decide +kernel, by decide +kernel⟩
set_option maxRecDepth 20000 in
theorem is_Mo_unitFault : MIN y_Mo_unitFault := ⟨tb_at (lt_s4 67 rfl) rfl, tb_at (lt_s0 74 rfl) rfl⟩
def y_Mo_start : MethodName := ⟨"ScanMachineModel", "start", "()I"⟩
abbrev b_Mo_start : ByteArray := prog_12_method_36_code
set_option maxRecDepth 20000 in
theorem ok_Mo_start : MOK y_Mo_start b_Mo_start 3 (some .int) 0 := ⟨tb_at (lt_s4 64 rfl) rfl, tb_at (lt_s1 10 rfl) rfl, by decide +kernel, by decide +kernel, by decide +kernel⟩
set_option maxRecDepth 20000 in
theorem is_Mo_start : MIN y_Mo_start := ⟨tb_at (lt_s4 62 rfl) rfl, tb_at (lt_s4 63 rfl) rfl⟩
def y_Mo_w16 : MethodName := ⟨"ScanMachineModel", "w16", "(I)I"⟩
abbrev b_Mo_w16 : ByteArray := prog_12_method_37_code
set_option maxRecDepth 20000 in
theorem ok_Mo_w16 : MOK y_Mo_w16 b_Mo_w16 1 (some .int) 1 := ⟨tb_at (lt_s4 210 rfl) rfl, tb_at (lt_s1 10 rfl) rfl, by decide +kernel, by decide +kernel, by decide +kernel⟩
set_option maxRecDepth 20000 in
theorem is_Mo_w16 : Cond.static y_Mo_w16 ∈ TB := tb_at (lt_s4 209 rfl) rfl
def y_Mo_pop : MethodName := ⟨"ScanMachineModel", "pop", "()I"⟩
abbrev b_Mo_pop : ByteArray := prog_12_method_38_code
set_option maxRecDepth 20000 in
theorem ok_Mo_pop : MOK y_Mo_pop b_Mo_pop 1 (some .int) 0 := ⟨tb_at (lt_s4 200 rfl) rfl, tb_at (lt_s1 10 rfl) rfl, by decide +kernel, by decide +kernel, by decide +kernel⟩
set_option maxRecDepth 20000 in
theorem is_Mo_pop : MIN y_Mo_pop := ⟨tb_at (lt_s4 199 rfl) rfl, tb_at (lt_s0 99 rfl) rfl⟩
def y_Mo_push : MethodName := ⟨"ScanMachineModel", "push", "(I)V"⟩
abbrev b_Mo_push : ByteArray := prog_12_method_39_code
set_option maxRecDepth 20000 in
theorem ok_Mo_push : MOK y_Mo_push b_Mo_push 2 none 1 := ⟨tb_at (lt_s4 196 rfl) rfl, tb_at (lt_s1 10 rfl) rfl, by decide +kernel, by decide +kernel, by decide +kernel⟩
set_option maxRecDepth 20000 in
theorem is_Mo_push : MIN y_Mo_push := ⟨tb_at (lt_s4 195 rfl) rfl, tb_at (lt_s0 98 rfl) rfl⟩
def y_Mo_truth : MethodName := ⟨"ScanMachineModel", "truth", "(Z)I"⟩
abbrev b_Mo_truth : ByteArray := prog_12_method_40_code
set_option maxRecDepth 20000 in
theorem ok_Mo_truth : MOK y_Mo_truth b_Mo_truth 1 (some .int) 1 := ⟨tb_at (lt_s4 213 rfl) rfl, tb_at (lt_s1 10 rfl) rfl, by decide +kernel, by decide +kernel, by decide +kernel⟩
set_option maxRecDepth 20000 in
theorem is_Mo_truth : Cond.static y_Mo_truth ∈ TB := tb_at (lt_s4 212 rfl) rfl
def y_Mo_two : MethodName := ⟨"ScanMachineModel", "two", "(III)I"⟩
abbrev b_Mo_two : ByteArray := prog_12_method_41_code
set_option maxRecDepth 20000 in
theorem ok_Mo_two : MOK y_Mo_two b_Mo_two 3 (some .int) 3 := ⟨tb_at (lt_s4 207 rfl) rfl, tb_at (lt_s1 10 rfl) rfl, by decide +kernel, by decide +kernel, by decide +kernel⟩
set_option maxRecDepth 20000 in
theorem is_Mo_two : Cond.static y_Mo_two ∈ TB := tb_at (lt_s4 206 rfl) rfl
def y_Mo_one : MethodName := ⟨"ScanMachineModel", "one", "(II)I"⟩
abbrev b_Mo_one : ByteArray := prog_12_method_42_code
set_option maxRecDepth 20000 in
theorem ok_Mo_one : MOK y_Mo_one b_Mo_one 2 (some .int) 2 := ⟨tb_at (lt_s4 217 rfl) rfl, tb_at (lt_s1 10 rfl) rfl, by decide +kernel, by decide +kernel, by decide +kernel⟩
set_option maxRecDepth 20000 in
theorem is_Mo_one : Cond.static y_Mo_one ∈ TB := tb_at (lt_s4 216 rfl) rfl
def y_Mo_grown : MethodName := ⟨"ScanMachineModel", "grown", "(II)I"⟩
abbrev b_Mo_grown : ByteArray := prog_12_method_43_code
set_option maxRecDepth 20000 in
theorem ok_Mo_grown : MOK y_Mo_grown b_Mo_grown 5 (some .int) 2 := ⟨tb_at (lt_s4 229 rfl) rfl, tb_at (lt_s1 10 rfl) rfl, by decide +kernel, by decide +kernel, by decide +kernel⟩
set_option maxRecDepth 20000 in
theorem is_Mo_grown : MIN y_Mo_grown := ⟨tb_at (lt_s4 228 rfl) rfl, tb_at (lt_s0 103 rfl) rfl⟩
def y_Mo_timer : MethodName := ⟨"ScanMachineModel", "timer", "(II)V"⟩
abbrev b_Mo_timer : ByteArray := prog_12_method_44_code
set_option maxRecDepth 20000 in
theorem ok_Mo_timer : MOK y_Mo_timer b_Mo_timer 6 none 2 := ⟨tb_at (lt_s4 225 rfl) rfl, tb_at (lt_s1 10 rfl) rfl, by decide +kernel, by decide +kernel, by decide +kernel⟩
set_option maxRecDepth 20000 in
theorem is_Mo_timer : MIN y_Mo_timer := ⟨tb_at (lt_s4 224 rfl) rfl, tb_at (lt_s0 102 rfl) rfl⟩
def y_Mo_counter : MethodName := ⟨"ScanMachineModel", "counter", "(II)V"⟩
abbrev b_Mo_counter : ByteArray := prog_12_method_45_code
set_option maxRecDepth 20000 in
theorem ok_Mo_counter : MOK y_Mo_counter b_Mo_counter 6 none 2 := ⟨tb_at (lt_s4 233 rfl) rfl, tb_at (lt_s1 10 rfl) rfl, by decide +kernel, by decide +kernel, by decide +kernel⟩
set_option maxRecDepth 20000 in
theorem is_Mo_counter : MIN y_Mo_counter := ⟨tb_at (lt_s4 232 rfl) rfl, tb_at (lt_s0 104 rfl) rfl⟩
def y_Mo_block : MethodName := ⟨"ScanMachineModel", "block", "(II)V"⟩
abbrev b_Mo_block : ByteArray := prog_12_method_46_code
set_option maxRecDepth 20000 in
theorem ok_Mo_block : MOK y_Mo_block b_Mo_block 6 none 2 := ⟨tb_at (lt_s4 221 rfl) rfl, tb_at (lt_s1 10 rfl) rfl, by decide +kernel, by decide +kernel, by decide +kernel⟩
set_option maxRecDepth 20000 in
theorem is_Mo_block : MIN y_Mo_block := ⟨tb_at (lt_s4 220 rfl) rfl, tb_at (lt_s0 101 rfl) rfl⟩
def y_Mo_index : MethodName := ⟨"ScanMachineModel", "index", "(III)I"⟩
abbrev b_Mo_index : ByteArray := prog_12_method_47_code
set_option maxRecDepth 20000 in
theorem ok_Mo_index : MOK y_Mo_index b_Mo_index 6 (some .int) 3 := ⟨tb_at (lt_s4 204 rfl) rfl, tb_at (lt_s1 10 rfl) rfl, by decide +kernel, by decide +kernel, by decide +kernel⟩
set_option maxRecDepth 20000 in
theorem is_Mo_index : MIN y_Mo_index := ⟨tb_at (lt_s4 203 rfl) rfl, tb_at (lt_s0 100 rfl) rfl⟩
def y_Mo_scan : MethodName := ⟨"ScanMachineModel", "scan", "(I)I"⟩
abbrev b_Mo_scan : ByteArray := prog_12_method_48_code
set_option maxRecDepth 20000 in
theorem ok_Mo_scan : MOK y_Mo_scan b_Mo_scan 7 (some .int) 1 := ⟨tb_at (lt_s4 187 rfl) rfl, tb_at (lt_s1 10 rfl) rfl, by decide +kernel, by decide +kernel, by decide +kernel⟩
set_option maxRecDepth 20000 in
theorem is_Mo_scan : MIN y_Mo_scan := ⟨tb_at (lt_s4 185 rfl) rfl, tb_at (lt_s4 186 rfl) rfl⟩
def y_Mo_act : MethodName := ⟨"ScanMachineModel", "act", "(II)I"⟩
abbrev b_Mo_act : ByteArray := prog_12_method_49_code
set_option maxRecDepth 20000 in
theorem ok_Mo_act : MOK y_Mo_act b_Mo_act 13 (some .int) 2 := ⟨tb_at (lt_s4 192 rfl) rfl, tb_at (lt_s1 10 rfl) rfl, by decide +kernel, by decide +kernel, by decide +kernel⟩
set_option maxRecDepth 20000 in
theorem is_Mo_act : MIN y_Mo_act := ⟨tb_at (lt_s4 191 rfl) rfl, tb_at (lt_s0 97 rfl) rfl⟩
def y_Mo_set : MethodName := ⟨"ScanMachineModel", "set", "(II)I"⟩
abbrev b_Mo_set : ByteArray := prog_12_method_50_code
set_option maxRecDepth 20000 in
theorem ok_Mo_set : MOK y_Mo_set b_Mo_set 4 (some .int) 2 := ⟨tb_at (lt_s4 237 rfl) rfl, tb_at (lt_s1 10 rfl) rfl, by decide +kernel, by decide +kernel, by decide +kernel⟩
set_option maxRecDepth 20000 in
theorem is_Mo_set : MIN y_Mo_set := ⟨tb_at (lt_s4 235 rfl) rfl, tb_at (lt_s4 236 rfl) rfl⟩
def y_Mo_get : MethodName := ⟨"ScanMachineModel", "get", "(I)I"⟩
abbrev b_Mo_get : ByteArray := prog_12_method_51_code
set_option maxRecDepth 20000 in
theorem ok_Mo_get : MOK y_Mo_get b_Mo_get 2 (some .int) 1 := ⟨tb_at (lt_s5 1 rfl) rfl, tb_at (lt_s1 10 rfl) rfl, by decide +kernel, by decide +kernel, by decide +kernel⟩
set_option maxRecDepth 20000 in
theorem is_Mo_get : MIN y_Mo_get := ⟨tb_at (lt_s4 239 rfl) rfl, tb_at (lt_s5 0 rfl) rfl⟩
def y_Mo_count : MethodName := ⟨"ScanMachineModel", "count", "(I)I"⟩
abbrev b_Mo_count : ByteArray := prog_12_method_52_code
set_option maxRecDepth 20000 in
theorem ok_Mo_count : MOK y_Mo_count b_Mo_count 2 (some .int) 1 := ⟨tb_at (lt_s5 5 rfl) rfl, tb_at (lt_s1 10 rfl) rfl, by decide +kernel, by decide +kernel, by decide +kernel⟩
set_option maxRecDepth 20000 in
theorem is_Mo_count : MIN y_Mo_count := ⟨tb_at (lt_s5 3 rfl) rfl, tb_at (lt_s5 4 rfl) rfl⟩
def y_Bl_init : MethodName := ⟨"ScanMachine$Blocks", "<init>", "(LScanMachine$Memory;)V"⟩
abbrev b_Bl_init : ByteArray := prog_2_method_1_code
set_option maxRecDepth 20000 in
theorem ok_Bl_init : MOK y_Bl_init b_Bl_init 2 none 1 := ⟨tb_at (lt_s1 176 rfl) rfl, tb_at (lt_s1 9 rfl) rfl, by decide +kernel, by decide +kernel, by decide +kernel⟩
set_option maxRecDepth 20000 in
theorem is_Bl_init : Cond.instanceMethod y_Bl_init ∈ TB := tb_at (lt_s1 175 rfl) rfl
def y_Bl_run : MethodName := ⟨"ScanMachine$Blocks", "run", "(III)V"⟩
abbrev b_Bl_run : ByteArray := prog_2_method_2_code
set_option maxRecDepth 20000 in
theorem ok_Bl_run : MOK y_Bl_run b_Bl_run 6 none 3 := ⟨tb_at (lt_s3 124 rfl) rfl, tb_at (lt_s1 9 rfl) rfl, by decide +kernel, by decide +kernel, by decide +kernel⟩
set_option maxRecDepth 20000 in
theorem is_Bl_run : MIN y_Bl_run := ⟨tb_at (lt_s3 123 rfl) rfl, tb_at (lt_s0 60 rfl) rfl⟩
def y_Bl_runTimer : MethodName := ⟨"ScanMachine$Blocks", "runTimer", "(IIZI)V"⟩
abbrev b_Bl_runTimer : ByteArray := prog_2_method_3_code
set_option maxRecDepth 20000 in
theorem ok_Bl_runTimer : MOK y_Bl_runTimer b_Bl_runTimer 11 none 4 := ⟨tb_at (lt_s3 129 rfl) rfl, tb_at (lt_s1 9 rfl) rfl, by decide +kernel, by decide +kernel, by decide +kernel⟩
set_option maxRecDepth 20000 in
theorem is_Bl_runTimer : MIN y_Bl_runTimer := ⟨tb_at (lt_s3 128 rfl) rfl, tb_at (lt_s0 61 rfl) rfl⟩
def y_Bl_runOffDelay : MethodName := ⟨"ScanMachine$Blocks", "runOffDelay", "(IZZII)V"⟩
abbrev b_Bl_runOffDelay : ByteArray := prog_2_method_4_code
set_option maxRecDepth 20000 in
theorem ok_Bl_runOffDelay : MOK y_Bl_runOffDelay b_Bl_runOffDelay 6 none 5 := ⟨tb_at (lt_s3 146 rfl) rfl, tb_at (lt_s1 9 rfl) rfl, by decide +kernel, by decide +kernel, by decide +kernel⟩
set_option maxRecDepth 20000 in
theorem is_Bl_runOffDelay : MIN y_Bl_runOffDelay := ⟨tb_at (lt_s3 145 rfl) rfl, tb_at (lt_s0 64 rfl) rfl⟩
def y_Bl_runPulse : MethodName := ⟨"ScanMachine$Blocks", "runPulse", "(IZZII)V"⟩
abbrev b_Bl_runPulse : ByteArray := prog_2_method_5_code
set_option maxRecDepth 20000 in
theorem ok_Bl_runPulse : MOK y_Bl_runPulse b_Bl_runPulse 6 none 5 := ⟨tb_at (lt_s3 150 rfl) rfl, tb_at (lt_s1 9 rfl) rfl, by decide +kernel, by decide +kernel, by decide +kernel⟩
set_option maxRecDepth 20000 in
theorem is_Bl_runPulse : MIN y_Bl_runPulse := ⟨tb_at (lt_s3 149 rfl) rfl, tb_at (lt_s0 65 rfl) rfl⟩
def y_Bl_runCounter : MethodName := ⟨"ScanMachine$Blocks", "runCounter", "(IIZ)V"⟩
abbrev b_Bl_runCounter : ByteArray := prog_2_method_6_code
set_option maxRecDepth 20000 in
theorem ok_Bl_runCounter : MOK y_Bl_runCounter b_Bl_runCounter 7 none 3 := ⟨tb_at (lt_s3 154 rfl) rfl, tb_at (lt_s1 9 rfl) rfl, by decide +kernel, by decide +kernel, by decide +kernel⟩
set_option maxRecDepth 20000 in
theorem is_Bl_runCounter : MIN y_Bl_runCounter := ⟨tb_at (lt_s3 153 rfl) rfl, tb_at (lt_s0 66 rfl) rfl⟩
def y_Bl_runLatch : MethodName := ⟨"ScanMachine$Blocks", "runLatch", "(IIZ)V"⟩
abbrev b_Bl_runLatch : ByteArray := prog_2_method_7_code
set_option maxRecDepth 20000 in
theorem ok_Bl_runLatch : MOK y_Bl_runLatch b_Bl_runLatch 6 none 3 := ⟨tb_at (lt_s3 158 rfl) rfl, tb_at (lt_s1 9 rfl) rfl, by decide +kernel, by decide +kernel, by decide +kernel⟩
set_option maxRecDepth 20000 in
theorem is_Bl_runLatch : MIN y_Bl_runLatch := ⟨tb_at (lt_s3 157 rfl) rfl, tb_at (lt_s0 67 rfl) rfl⟩
def y_Bl_isSet : MethodName := ⟨"ScanMachine$Blocks", "isSet", "(I)Z"⟩
abbrev b_Bl_isSet : ByteArray := prog_2_method_8_code
set_option maxRecDepth 20000 in
theorem ok_Bl_isSet : MOK y_Bl_isSet b_Bl_isSet 2 (some .boolean) 1 := ⟨tb_at (lt_s3 134 rfl) rfl, tb_at (lt_s1 9 rfl) rfl, by decide +kernel, by decide +kernel, by decide +kernel⟩
set_option maxRecDepth 20000 in
theorem is_Bl_isSet : MIN y_Bl_isSet := ⟨tb_at (lt_s3 133 rfl) rfl, tb_at (lt_s0 62 rfl) rfl⟩
def y_Bl_putFlag : MethodName := ⟨"ScanMachine$Blocks", "putFlag", "(IZ)V"⟩
abbrev b_Bl_putFlag : ByteArray := prog_2_method_9_code
set_option maxRecDepth 20000 in
theorem ok_Bl_putFlag : MOK y_Bl_putFlag b_Bl_putFlag 3 none 2 := ⟨tb_at (lt_s3 142 rfl) rfl, tb_at (lt_s1 9 rfl) rfl, by decide +kernel, by decide +kernel, by decide +kernel⟩
set_option maxRecDepth 20000 in
theorem is_Bl_putFlag : MIN y_Bl_putFlag := ⟨tb_at (lt_s3 141 rfl) rfl, tb_at (lt_s0 63 rfl) rfl⟩
def y_Co_init : MethodName := ⟨"ScanMachine$Code", "<init>", "()V"⟩
abbrev b_Co_init : ByteArray := prog_3_method_1_code
set_option maxRecDepth 20000 in
theorem ok_Co_init : MOK y_Co_init b_Co_init 1 none 0 := ⟨tb_at (lt_s1 26 rfl) rfl, tb_at (lt_s1 2 rfl) rfl, by decide +kernel, by decide +kernel, by decide +kernel⟩
set_option maxRecDepth 20000 in
theorem is_Co_init : Cond.instanceMethod y_Co_init ∈ TB := tb_at (lt_s1 25 rfl) rfl
def y_Co_forget : MethodName := ⟨"ScanMachine$Code", "forget", "()V"⟩
abbrev b_Co_forget : ByteArray := prog_3_method_2_code
set_option maxRecDepth 20000 in
theorem ok_Co_forget : MOK y_Co_forget b_Co_forget 1 none 0 := ⟨tb_at (lt_s2 45 rfl) rfl, tb_at (lt_s1 2 rfl) rfl, by decide +kernel, by decide +kernel, by decide +kernel⟩
set_option maxRecDepth 20000 in
theorem is_Co_forget : MIN y_Co_forget := ⟨tb_at (lt_s2 44 rfl) rfl, tb_at (lt_s0 3 rfl) rfl⟩
def y_Co_hasRoomForUnit : MethodName := ⟨"ScanMachine$Code", "hasRoomForUnit", "()Z"⟩
abbrev b_Co_hasRoomForUnit : ByteArray := prog_3_method_3_code
set_option maxRecDepth 20000 in
theorem ok_Co_hasRoomForUnit : MOK y_Co_hasRoomForUnit b_Co_hasRoomForUnit 1 (some .boolean) 0 := ⟨tb_at (lt_s2 53 rfl) rfl, tb_at (lt_s1 2 rfl) rfl, by decide +kernel, by decide +kernel, by decide +kernel⟩
set_option maxRecDepth 20000 in
theorem is_Co_hasRoomForUnit : MIN y_Co_hasRoomForUnit := ⟨tb_at (lt_s2 52 rfl) rfl, tb_at (lt_s0 4 rfl) rfl⟩
def y_Co_hasRoomForInstruction : MethodName := ⟨"ScanMachine$Code", "hasRoomForInstruction", "()Z"⟩
abbrev b_Co_hasRoomForInstruction : ByteArray := prog_3_method_4_code
set_option maxRecDepth 20000 in
theorem ok_Co_hasRoomForInstruction : MOK y_Co_hasRoomForInstruction b_Co_hasRoomForInstruction 1 (some .boolean) 0 := ⟨tb_at (lt_s2 66 rfl) rfl, tb_at (lt_s1 2 rfl) rfl, by decide +kernel, by decide +kernel, by decide +kernel⟩
set_option maxRecDepth 20000 in
theorem is_Co_hasRoomForInstruction : MIN y_Co_hasRoomForInstruction := ⟨tb_at (lt_s2 65 rfl) rfl, tb_at (lt_s0 6 rfl) rfl⟩
def y_Co_appendUnit : MethodName := ⟨"ScanMachine$Code", "appendUnit", "(II)I"⟩
abbrev b_Co_appendUnit : ByteArray := prog_3_method_5_code
set_option maxRecDepth 20000 in
theorem ok_Co_appendUnit : MOK y_Co_appendUnit b_Co_appendUnit 3 (some .int) 2 := ⟨tb_at (lt_s2 57 rfl) rfl, tb_at (lt_s1 2 rfl) rfl, by decide +kernel, by decide +kernel, by decide +kernel⟩
set_option maxRecDepth 20000 in
theorem is_Co_appendUnit : MIN y_Co_appendUnit := ⟨tb_at (lt_s2 56 rfl) rfl, tb_at (lt_s0 5 rfl) rfl⟩
def y_Co_appendInstruction : MethodName := ⟨"ScanMachine$Code", "appendInstruction", "(IIII)I"⟩
abbrev b_Co_appendInstruction : ByteArray := prog_3_method_6_code
set_option maxRecDepth 20000 in
theorem ok_Co_appendInstruction : MOK y_Co_appendInstruction b_Co_appendInstruction 5 (some .int) 4 := ⟨tb_at (lt_s2 70 rfl) rfl, tb_at (lt_s1 2 rfl) rfl, by decide +kernel, by decide +kernel, by decide +kernel⟩
set_option maxRecDepth 20000 in
theorem is_Co_appendInstruction : MIN y_Co_appendInstruction := ⟨tb_at (lt_s2 69 rfl) rfl, tb_at (lt_s0 7 rfl) rfl⟩
def y_Co_unitCount : MethodName := ⟨"ScanMachine$Code", "unitCount", "()I"⟩
abbrev b_Co_unitCount : ByteArray := prog_3_method_7_code
set_option maxRecDepth 20000 in
theorem ok_Co_unitCount : MOK y_Co_unitCount b_Co_unitCount 1 (some .int) 0 := ⟨tb_at (lt_s2 79 rfl) rfl, tb_at (lt_s1 2 rfl) rfl, by decide +kernel, by decide +kernel, by decide +kernel⟩
set_option maxRecDepth 20000 in
theorem is_Co_unitCount : MIN y_Co_unitCount := ⟨tb_at (lt_s2 78 rfl) rfl, tb_at (lt_s0 8 rfl) rfl⟩
def y_Co_hasUnit : MethodName := ⟨"ScanMachine$Code", "hasUnit", "(I)Z"⟩
abbrev b_Co_hasUnit : ByteArray := prog_3_method_8_code
set_option maxRecDepth 20000 in
theorem ok_Co_hasUnit : MOK y_Co_hasUnit b_Co_hasUnit 2 (some .boolean) 1 := ⟨tb_at (lt_s2 99 rfl) rfl, tb_at (lt_s1 2 rfl) rfl, by decide +kernel, by decide +kernel, by decide +kernel⟩
set_option maxRecDepth 20000 in
theorem is_Co_hasUnit : MIN y_Co_hasUnit := ⟨tb_at (lt_s2 98 rfl) rfl, tb_at (lt_s0 13 rfl) rfl⟩
def y_Co_frameOf : MethodName := ⟨"ScanMachine$Code", "frameOf", "(I)I"⟩
abbrev b_Co_frameOf : ByteArray := prog_3_method_9_code
set_option maxRecDepth 20000 in
theorem ok_Co_frameOf : MOK y_Co_frameOf b_Co_frameOf 2 (some .int) 1 := ⟨tb_at (lt_s2 103 rfl) rfl, tb_at (lt_s1 2 rfl) rfl, by decide +kernel, by decide +kernel, by decide +kernel⟩
set_option maxRecDepth 20000 in
theorem is_Co_frameOf : MIN y_Co_frameOf := ⟨tb_at (lt_s2 102 rfl) rfl, tb_at (lt_s0 14 rfl) rfl⟩
def y_Co_placeOf : MethodName := ⟨"ScanMachine$Code", "placeOf", "(I)I"⟩
abbrev b_Co_placeOf : ByteArray := prog_3_method_10_code
set_option maxRecDepth 20000 in
theorem ok_Co_placeOf : MOK y_Co_placeOf b_Co_placeOf 2 (some .int) 1 := ⟨tb_at (lt_s2 95 rfl) rfl, tb_at (lt_s1 2 rfl) rfl, by decide +kernel, by decide +kernel, by decide +kernel⟩
set_option maxRecDepth 20000 in
theorem is_Co_placeOf : MIN y_Co_placeOf := ⟨tb_at (lt_s2 94 rfl) rfl, tb_at (lt_s0 12 rfl) rfl⟩
def y_Co_sizeOf : MethodName := ⟨"ScanMachine$Code", "sizeOf", "(I)I"⟩
abbrev b_Co_sizeOf : ByteArray := prog_3_method_11_code
set_option maxRecDepth 20000 in
theorem ok_Co_sizeOf : MOK y_Co_sizeOf b_Co_sizeOf 2 (some .int) 1 := ⟨tb_at (lt_s2 118 rfl) rfl, tb_at (lt_s1 2 rfl) rfl, by decide +kernel, by decide +kernel, by decide +kernel⟩
set_option maxRecDepth 20000 in
theorem is_Co_sizeOf : MIN y_Co_sizeOf := ⟨tb_at (lt_s2 117 rfl) rfl, tb_at (lt_s0 16 rfl) rfl⟩
def y_Co_numberAt : MethodName := ⟨"ScanMachine$Code", "numberAt", "(II)I"⟩
abbrev b_Co_numberAt : ByteArray := prog_3_method_12_code
set_option maxRecDepth 20000 in
theorem ok_Co_numberAt : MOK y_Co_numberAt b_Co_numberAt 3 (some .int) 2 := ⟨tb_at (lt_s2 126 rfl) rfl, tb_at (lt_s1 2 rfl) rfl, by decide +kernel, by decide +kernel, by decide +kernel⟩
set_option maxRecDepth 20000 in
theorem is_Co_numberAt : MIN y_Co_numberAt := ⟨tb_at (lt_s2 125 rfl) rfl, tb_at (lt_s0 18 rfl) rfl⟩
def y_Co_aAt : MethodName := ⟨"ScanMachine$Code", "aAt", "(II)I"⟩
abbrev b_Co_aAt : ByteArray := prog_3_method_13_code
set_option maxRecDepth 20000 in
theorem ok_Co_aAt : MOK y_Co_aAt b_Co_aAt 3 (some .int) 2 := ⟨tb_at (lt_s2 134 rfl) rfl, tb_at (lt_s1 2 rfl) rfl, by decide +kernel, by decide +kernel, by decide +kernel⟩
set_option maxRecDepth 20000 in
theorem is_Co_aAt : MIN y_Co_aAt := ⟨tb_at (lt_s2 133 rfl) rfl, tb_at (lt_s0 20 rfl) rfl⟩
def y_Co_bAt : MethodName := ⟨"ScanMachine$Code", "bAt", "(II)I"⟩
abbrev b_Co_bAt : ByteArray := prog_3_method_14_code
set_option maxRecDepth 20000 in
theorem ok_Co_bAt : MOK y_Co_bAt b_Co_bAt 3 (some .int) 2 := ⟨tb_at (lt_s2 138 rfl) rfl, tb_at (lt_s1 2 rfl) rfl, by decide +kernel, by decide +kernel, by decide +kernel⟩
set_option maxRecDepth 20000 in
theorem is_Co_bAt : MIN y_Co_bAt := ⟨tb_at (lt_s2 137 rfl) rfl, tb_at (lt_s0 21 rfl) rfl⟩
def y_Co_cAt : MethodName := ⟨"ScanMachine$Code", "cAt", "(II)I"⟩
abbrev b_Co_cAt : ByteArray := prog_3_method_15_code
set_option maxRecDepth 20000 in
theorem ok_Co_cAt : MOK y_Co_cAt b_Co_cAt 3 (some .int) 2 := ⟨tb_at (lt_s2 142 rfl) rfl, tb_at (lt_s1 2 rfl) rfl, by decide +kernel, by decide +kernel, by decide +kernel⟩
set_option maxRecDepth 20000 in
theorem is_Co_cAt : MIN y_Co_cAt := ⟨tb_at (lt_s2 141 rfl) rfl, tb_at (lt_s0 22 rfl) rfl⟩
def y_Co_entry : MethodName := ⟨"ScanMachine$Code", "entry", "([III)I"⟩
abbrev b_Co_entry : ByteArray := prog_3_method_16_code
set_option maxRecDepth 20000 in
theorem ok_Co_entry : MOK y_Co_entry b_Co_entry 5 (some .int) 3 := ⟨tb_at (lt_s2 130 rfl) rfl, tb_at (lt_s1 2 rfl) rfl, by decide +kernel, by decide +kernel, by decide +kernel⟩
set_option maxRecDepth 20000 in
theorem is_Co_entry : MIN y_Co_entry := ⟨tb_at (lt_s2 129 rfl) rfl, tb_at (lt_s0 19 rfl) rfl⟩
def y_De_init : MethodName := ⟨"ScanMachine$Depths", "<init>", "(LScanMachine$Code;)V"⟩
abbrev b_De_init : ByteArray := prog_4_method_1_code
set_option maxRecDepth 20000 in
theorem ok_De_init : MOK y_De_init b_De_init 2 none 1 := ⟨tb_at (lt_s1 111 rfl) rfl, tb_at (lt_s1 5 rfl) rfl, by decide +kernel, by decide +kernel, by decide +kernel⟩
set_option maxRecDepth 20000 in
theorem is_De_init : Cond.instanceMethod y_De_init ∈ TB := tb_at (lt_s1 110 rfl) rfl
def y_De_faultOf : MethodName := ⟨"ScanMachine$Depths", "faultOf", "(I)I"⟩
abbrev b_De_faultOf : ByteArray := prog_4_method_2_code
set_option maxRecDepth 20000 in
theorem ok_De_faultOf : MOK y_De_faultOf b_De_faultOf 5 (some .int) 1 := ⟨tb_at (lt_s2 219 rfl) rfl, tb_at (lt_s1 5 rfl) rfl, by decide +kernel, by decide +kernel, by decide +kernel⟩
set_option maxRecDepth 20000 in
theorem is_De_faultOf : MIN y_De_faultOf := ⟨tb_at (lt_s2 218 rfl) rfl, tb_at (lt_s0 40 rfl) rfl⟩
def y_De_faultAt : MethodName := ⟨"ScanMachine$Depths", "faultAt", "(III)I"⟩
abbrev b_De_faultAt : ByteArray := prog_4_method_3_code
set_option maxRecDepth 20000 in
theorem ok_De_faultAt : MOK y_De_faultAt b_De_faultAt 8 (some .int) 3 := ⟨tb_at (lt_s2 225 rfl) rfl, tb_at (lt_s1 5 rfl) rfl, by decide +kernel, by decide +kernel, by decide +kernel⟩
set_option maxRecDepth 20000 in
theorem is_De_faultAt : MIN y_De_faultAt := ⟨tb_at (lt_s2 224 rfl) rfl, tb_at (lt_s0 41 rfl) rfl⟩
def y_De_targetOf : MethodName := ⟨"ScanMachine$Depths", "targetOf", "(III)I"⟩
abbrev b_De_targetOf : ByteArray := prog_4_method_4_code
set_option maxRecDepth 20000 in
theorem ok_De_targetOf : MOK y_De_targetOf b_De_targetOf 4 (some .int) 3 := ⟨tb_at (lt_s2 238 rfl) rfl, tb_at (lt_s1 5 rfl) rfl, by decide +kernel, by decide +kernel, by decide +kernel⟩
set_option maxRecDepth 20000 in
theorem is_De_targetOf : MIN y_De_targetOf := ⟨tb_at (lt_s2 237 rfl) rfl, tb_at (lt_s0 43 rfl) rfl⟩
def y_De_agrees : MethodName := ⟨"ScanMachine$Depths", "agrees", "(II)Z"⟩
abbrev b_De_agrees : ByteArray := prog_4_method_5_code
set_option maxRecDepth 20000 in
theorem ok_De_agrees : MOK y_De_agrees b_De_agrees 3 (some .boolean) 2 := ⟨tb_at (lt_s2 234 rfl) rfl, tb_at (lt_s1 5 rfl) rfl, by decide +kernel, by decide +kernel, by decide +kernel⟩
set_option maxRecDepth 20000 in
theorem is_De_agrees : MIN y_De_agrees := ⟨tb_at (lt_s2 233 rfl) rfl, tb_at (lt_s0 42 rfl) rfl⟩
def y_Lo_init : MethodName := ⟨"ScanMachine$Loops", "<init>", "(LScanMachine$Code;)V"⟩
abbrev b_Lo_init : ByteArray := prog_5_method_1_code
set_option maxRecDepth 20000 in
theorem ok_Lo_init : MOK y_Lo_init b_Lo_init 2 none 1 := ⟨tb_at (lt_s1 92 rfl) rfl, tb_at (lt_s1 4 rfl) rfl, by decide +kernel, by decide +kernel, by decide +kernel⟩
set_option maxRecDepth 20000 in
theorem is_Lo_init : Cond.instanceMethod y_Lo_init ∈ TB := tb_at (lt_s1 91 rfl) rfl
def y_Lo_faultOf : MethodName := ⟨"ScanMachine$Loops", "faultOf", "(I)I"⟩
abbrev b_Lo_faultOf : ByteArray := prog_5_method_2_code
set_option maxRecDepth 20000 in
theorem ok_Lo_faultOf : MOK y_Lo_faultOf b_Lo_faultOf 4 (some .int) 1 := ⟨tb_at (lt_s2 183 rfl) rfl, tb_at (lt_s1 4 rfl) rfl, by decide +kernel, by decide +kernel, by decide +kernel⟩
set_option maxRecDepth 20000 in
theorem is_Lo_faultOf : MIN y_Lo_faultOf := ⟨tb_at (lt_s2 182 rfl) rfl, tb_at (lt_s0 32 rfl) rfl⟩
def y_Lo_gatherLoops : MethodName := ⟨"ScanMachine$Loops", "gatherLoops", "()V"⟩
abbrev b_Lo_gatherLoops : ByteArray := prog_5_method_3_code
set_option maxRecDepth 20000 in
theorem ok_Lo_gatherLoops : MOK y_Lo_gatherLoops b_Lo_gatherLoops 3 none 0 := ⟨tb_at (lt_s2 187 rfl) rfl, tb_at (lt_s1 4 rfl) rfl, by decide +kernel, by decide +kernel, by decide +kernel⟩
set_option maxRecDepth 20000 in
theorem is_Lo_gatherLoops : MIN y_Lo_gatherLoops := ⟨tb_at (lt_s2 186 rfl) rfl, tb_at (lt_s0 33 rfl) rfl⟩
def y_Lo_isWrong : MethodName := ⟨"ScanMachine$Loops", "isWrong", "(I)Z"⟩
abbrev b_Lo_isWrong : ByteArray := prog_5_method_4_code
set_option maxRecDepth 20000 in
theorem ok_Lo_isWrong : MOK y_Lo_isWrong b_Lo_isWrong 2 (some .boolean) 1 := ⟨tb_at (lt_s2 193 rfl) rfl, tb_at (lt_s1 4 rfl) rfl, by decide +kernel, by decide +kernel, by decide +kernel⟩
set_option maxRecDepth 20000 in
theorem is_Lo_isWrong : MIN y_Lo_isWrong := ⟨tb_at (lt_s2 192 rfl) rfl, tb_at (lt_s0 34 rfl) rfl⟩
def y_Lo_isWrongCount : MethodName := ⟨"ScanMachine$Loops", "isWrongCount", "(I)Z"⟩
abbrev b_Lo_isWrongCount : ByteArray := prog_5_method_5_code
set_option maxRecDepth 20000 in
theorem ok_Lo_isWrongCount : MOK y_Lo_isWrongCount b_Lo_isWrongCount 4 (some .boolean) 1 := ⟨tb_at (lt_s2 197 rfl) rfl, tb_at (lt_s1 4 rfl) rfl, by decide +kernel, by decide +kernel, by decide +kernel⟩
set_option maxRecDepth 20000 in
theorem is_Lo_isWrongCount : MIN y_Lo_isWrongCount := ⟨tb_at (lt_s2 196 rfl) rfl, tb_at (lt_s0 35 rfl) rfl⟩
def y_Lo_isWrongNext : MethodName := ⟨"ScanMachine$Loops", "isWrongNext", "(I)Z"⟩
abbrev b_Lo_isWrongNext : ByteArray := prog_5_method_6_code
set_option maxRecDepth 20000 in
theorem ok_Lo_isWrongNext : MOK y_Lo_isWrongNext b_Lo_isWrongNext 4 (some .boolean) 1 := ⟨tb_at (lt_s2 207 rfl) rfl, tb_at (lt_s1 4 rfl) rfl, by decide +kernel, by decide +kernel, by decide +kernel⟩
set_option maxRecDepth 20000 in
theorem is_Lo_isWrongNext : MIN y_Lo_isWrongNext := ⟨tb_at (lt_s2 206 rfl) rfl, tb_at (lt_s0 37 rfl) rfl⟩
def y_Lo_isWrongBack : MethodName := ⟨"ScanMachine$Loops", "isWrongBack", "(I)Z"⟩
abbrev b_Lo_isWrongBack : ByteArray := prog_5_method_7_code
set_option maxRecDepth 20000 in
theorem ok_Lo_isWrongBack : MOK y_Lo_isWrongBack b_Lo_isWrongBack 3 (some .boolean) 1 := ⟨tb_at (lt_s2 211 rfl) rfl, tb_at (lt_s1 4 rfl) rfl, by decide +kernel, by decide +kernel, by decide +kernel⟩
set_option maxRecDepth 20000 in
theorem is_Lo_isWrongBack : MIN y_Lo_isWrongBack := ⟨tb_at (lt_s2 210 rfl) rfl, tb_at (lt_s0 38 rfl) rfl⟩
def y_Lo_goesIntoLoop : MethodName := ⟨"ScanMachine$Loops", "goesIntoLoop", "(II)Z"⟩
abbrev b_Lo_goesIntoLoop : ByteArray := prog_5_method_8_code
set_option maxRecDepth 20000 in
theorem ok_Lo_goesIntoLoop : MOK y_Lo_goesIntoLoop b_Lo_goesIntoLoop 5 (some .boolean) 2 := ⟨tb_at (lt_s2 215 rfl) rfl, tb_at (lt_s1 4 rfl) rfl, by decide +kernel, by decide +kernel, by decide +kernel⟩
set_option maxRecDepth 20000 in
theorem is_Lo_goesIntoLoop : MIN y_Lo_goesIntoLoop := ⟨tb_at (lt_s2 214 rfl) rfl, tb_at (lt_s0 39 rfl) rfl⟩
def y_Lo_isIn : MethodName := ⟨"ScanMachine$Loops", "isIn", "(II)Z"⟩
abbrev b_Lo_isIn : ByteArray := prog_5_method_9_code
set_option maxRecDepth 20000 in
theorem ok_Lo_isIn : MOK y_Lo_isIn b_Lo_isIn 3 (some .boolean) 2 := ⟨tb_at (lt_s2 202 rfl) rfl, tb_at (lt_s1 4 rfl) rfl, by decide +kernel, by decide +kernel, by decide +kernel⟩
set_option maxRecDepth 20000 in
theorem is_Lo_isIn : MIN y_Lo_isIn := ⟨tb_at (lt_s2 201 rfl) rfl, tb_at (lt_s0 36 rfl) rfl⟩
def y_Me_init : MethodName := ⟨"ScanMachine$Memory", "<init>", "()V"⟩
abbrev b_Me_init : ByteArray := prog_6_method_1_code
set_option maxRecDepth 20000 in
theorem ok_Me_init : MOK y_Me_init b_Me_init 1 none 0 := ⟨tb_at (lt_s1 150 rfl) rfl, tb_at (lt_s1 7 rfl) rfl, by decide +kernel, by decide +kernel, by decide +kernel⟩
set_option maxRecDepth 20000 in
theorem is_Me_init : Cond.instanceMethod y_Me_init ∈ TB := tb_at (lt_s1 149 rfl) rfl
def y_Me_clear : MethodName := ⟨"ScanMachine$Memory", "clear", "()V"⟩
abbrev b_Me_clear : ByteArray := prog_6_method_2_code
set_option maxRecDepth 20000 in
theorem ok_Me_clear : MOK y_Me_clear b_Me_clear 1 none 0 := ⟨tb_at (lt_s2 34 rfl) rfl, tb_at (lt_s1 7 rfl) rfl, by decide +kernel, by decide +kernel, by decide +kernel⟩
set_option maxRecDepth 20000 in
theorem is_Me_clear : MIN y_Me_clear := ⟨tb_at (lt_s2 33 rfl) rfl, tb_at (lt_s0 1 rfl) rfl⟩
def y_Me_emptyStack : MethodName := ⟨"ScanMachine$Memory", "emptyStack", "()V"⟩
abbrev b_Me_emptyStack : ByteArray := prog_6_method_3_code
set_option maxRecDepth 20000 in
theorem ok_Me_emptyStack : MOK y_Me_emptyStack b_Me_emptyStack 1 none 0 := ⟨tb_at (lt_s2 41 rfl) rfl, tb_at (lt_s1 7 rfl) rfl, by decide +kernel, by decide +kernel, by decide +kernel⟩
set_option maxRecDepth 20000 in
theorem is_Me_emptyStack : MIN y_Me_emptyStack := ⟨tb_at (lt_s2 40 rfl) rfl, tb_at (lt_s0 2 rfl) rfl⟩
def y_Me_cell : MethodName := ⟨"ScanMachine$Memory", "cell", "(I)I"⟩
abbrev b_Me_cell : ByteArray := prog_6_method_4_code
set_option maxRecDepth 20000 in
theorem ok_Me_cell : MOK y_Me_cell b_Me_cell 2 (some .int) 1 := ⟨tb_at (lt_s3 72 rfl) rfl, tb_at (lt_s1 7 rfl) rfl, by decide +kernel, by decide +kernel, by decide +kernel⟩
set_option maxRecDepth 20000 in
theorem is_Me_cell : MIN y_Me_cell := ⟨tb_at (lt_s3 71 rfl) rfl, tb_at (lt_s0 54 rfl) rfl⟩
def y_Me_change : MethodName := ⟨"ScanMachine$Memory", "change", "(II)V"⟩
abbrev b_Me_change : ByteArray := prog_6_method_5_code
set_option maxRecDepth 20000 in
theorem ok_Me_change : MOK y_Me_change b_Me_change 3 none 2 := ⟨tb_at (lt_s3 80 rfl) rfl, tb_at (lt_s1 7 rfl) rfl, by decide +kernel, by decide +kernel, by decide +kernel⟩
set_option maxRecDepth 20000 in
theorem is_Me_change : MIN y_Me_change := ⟨tb_at (lt_s3 79 rfl) rfl, tb_at (lt_s0 56 rfl) rfl⟩
def y_Me_push : MethodName := ⟨"ScanMachine$Memory", "push", "(I)V"⟩
abbrev b_Me_push : ByteArray := prog_6_method_6_code
set_option maxRecDepth 20000 in
theorem ok_Me_push : MOK y_Me_push b_Me_push 2 none 1 := ⟨tb_at (lt_s3 67 rfl) rfl, tb_at (lt_s1 7 rfl) rfl, by decide +kernel, by decide +kernel, by decide +kernel⟩
set_option maxRecDepth 20000 in
theorem is_Me_push : MIN y_Me_push := ⟨tb_at (lt_s3 66 rfl) rfl, tb_at (lt_s0 53 rfl) rfl⟩
def y_Me_pop : MethodName := ⟨"ScanMachine$Memory", "pop", "()I"⟩
abbrev b_Me_pop : ByteArray := prog_6_method_7_code
set_option maxRecDepth 20000 in
theorem ok_Me_pop : MOK y_Me_pop b_Me_pop 1 (some .int) 0 := ⟨tb_at (lt_s3 76 rfl) rfl, tb_at (lt_s1 7 rfl) rfl, by decide +kernel, by decide +kernel, by decide +kernel⟩
set_option maxRecDepth 20000 in
theorem is_Me_pop : MIN y_Me_pop := ⟨tb_at (lt_s3 75 rfl) rfl, tb_at (lt_s0 55 rfl) rfl⟩
def y_Re_narrow : MethodName := ⟨"ScanMachine$Reckoning", "narrow", "(I)I"⟩
abbrev b_Re_narrow : ByteArray := prog_7_method_2_code
set_option maxRecDepth 20000 in
theorem ok_Re_narrow : MOK y_Re_narrow b_Re_narrow 1 (some .int) 1 := ⟨tb_at (lt_s3 99 rfl) rfl, tb_at (lt_s1 13 rfl) rfl, by decide +kernel, by decide +kernel, by decide +kernel⟩
set_option maxRecDepth 20000 in
theorem is_Re_narrow : Cond.static y_Re_narrow ∈ TB := tb_at (lt_s3 98 rfl) rfl
def y_Re_flag : MethodName := ⟨"ScanMachine$Reckoning", "flag", "(Z)I"⟩
abbrev b_Re_flag : ByteArray := prog_7_method_3_code
set_option maxRecDepth 20000 in
theorem ok_Re_flag : MOK y_Re_flag b_Re_flag 1 (some .int) 1 := ⟨tb_at (lt_s3 102 rfl) rfl, tb_at (lt_s1 13 rfl) rfl, by decide +kernel, by decide +kernel, by decide +kernel⟩
set_option maxRecDepth 20000 in
theorem is_Re_flag : Cond.static y_Re_flag ∈ TB := tb_at (lt_s3 101 rfl) rfl
def y_Re_divides : MethodName := ⟨"ScanMachine$Reckoning", "divides", "(I)Z"⟩
abbrev b_Re_divides : ByteArray := prog_7_method_4_code
set_option maxRecDepth 20000 in
theorem ok_Re_divides : MOK y_Re_divides b_Re_divides 1 (some .boolean) 1 := ⟨tb_at (lt_s3 105 rfl) rfl, tb_at (lt_s1 13 rfl) rfl, by decide +kernel, by decide +kernel, by decide +kernel⟩
set_option maxRecDepth 20000 in
theorem is_Re_divides : Cond.static y_Re_divides ∈ TB := tb_at (lt_s3 104 rfl) rfl
def y_Re_ofTwo : MethodName := ⟨"ScanMachine$Reckoning", "ofTwo", "(III)I"⟩
abbrev b_Re_ofTwo : ByteArray := prog_7_method_5_code
set_option maxRecDepth 20000 in
theorem ok_Re_ofTwo : MOK y_Re_ofTwo b_Re_ofTwo 3 (some .int) 3 := ⟨tb_at (lt_s3 108 rfl) rfl, tb_at (lt_s1 13 rfl) rfl, by decide +kernel, by decide +kernel, by decide +kernel⟩
set_option maxRecDepth 20000 in
theorem is_Re_ofTwo : Cond.static y_Re_ofTwo ∈ TB := tb_at (lt_s3 107 rfl) rfl
def y_Re_ofArithmetic : MethodName := ⟨"ScanMachine$Reckoning", "ofArithmetic", "(III)I"⟩
abbrev b_Re_ofArithmetic : ByteArray := prog_7_method_6_code
set_option maxRecDepth 20000 in
theorem ok_Re_ofArithmetic : MOK y_Re_ofArithmetic b_Re_ofArithmetic 3 (some .int) 3 := ⟨tb_at (lt_s3 111 rfl) rfl, tb_at (lt_s1 13 rfl) rfl, by decide +kernel, by decide +kernel, by decide +kernel⟩
set_option maxRecDepth 20000 in
theorem is_Re_ofArithmetic : Cond.static y_Re_ofArithmetic ∈ TB := tb_at (lt_s3 110 rfl) rfl
def y_Re_ofBitsAndOrder : MethodName := ⟨"ScanMachine$Reckoning", "ofBitsAndOrder", "(III)I"⟩
abbrev b_Re_ofBitsAndOrder : ByteArray := prog_7_method_7_code
set_option maxRecDepth 20000 in
theorem ok_Re_ofBitsAndOrder : MOK y_Re_ofBitsAndOrder b_Re_ofBitsAndOrder 3 (some .int) 3 := ⟨tb_at (lt_s3 114 rfl) rfl, tb_at (lt_s1 13 rfl) rfl, by decide +kernel, by decide +kernel, by decide +kernel⟩
set_option maxRecDepth 20000 in
theorem is_Re_ofBitsAndOrder : Cond.static y_Re_ofBitsAndOrder ∈ TB := tb_at (lt_s3 113 rfl) rfl
def y_Re_ofShifts : MethodName := ⟨"ScanMachine$Reckoning", "ofShifts", "(III)I"⟩
abbrev b_Re_ofShifts : ByteArray := prog_7_method_8_code
set_option maxRecDepth 20000 in
theorem ok_Re_ofShifts : MOK y_Re_ofShifts b_Re_ofShifts 5 (some .int) 3 := ⟨tb_at (lt_s3 117 rfl) rfl, tb_at (lt_s1 13 rfl) rfl, by decide +kernel, by decide +kernel, by decide +kernel⟩
set_option maxRecDepth 20000 in
theorem is_Re_ofShifts : Cond.static y_Re_ofShifts ∈ TB := tb_at (lt_s3 116 rfl) rfl
def y_Re_ofOne : MethodName := ⟨"ScanMachine$Reckoning", "ofOne", "(II)I"⟩
abbrev b_Re_ofOne : ByteArray := prog_7_method_9_code
set_option maxRecDepth 20000 in
theorem ok_Re_ofOne : MOK y_Re_ofOne b_Re_ofOne 2 (some .int) 2 := ⟨tb_at (lt_s3 96 rfl) rfl, tb_at (lt_s1 13 rfl) rfl, by decide +kernel, by decide +kernel, by decide +kernel⟩
set_option maxRecDepth 20000 in
theorem is_Re_ofOne : Cond.static y_Re_ofOne ∈ TB := tb_at (lt_s3 95 rfl) rfl
def y_Ru_init : MethodName := ⟨"ScanMachine$Runner", "<init>", "(LScanMachine$Code;LScanMachine$Memory;)V"⟩
abbrev b_Ru_init : ByteArray := prog_8_method_1_code
set_option maxRecDepth 20000 in
theorem ok_Ru_init : MOK y_Ru_init b_Ru_init 3 none 2 := ⟨tb_at (lt_s1 170 rfl) rfl, tb_at (lt_s1 8 rfl) rfl, by decide +kernel, by decide +kernel, by decide +kernel⟩
set_option maxRecDepth 20000 in
theorem is_Ru_init : Cond.instanceMethod y_Ru_init ∈ TB := tb_at (lt_s1 169 rfl) rfl
def y_Ru_run : MethodName := ⟨"ScanMachine$Runner", "run", "(I)I"⟩
abbrev b_Ru_run : ByteArray := prog_8_method_2_code
set_option maxRecDepth 20000 in
theorem ok_Ru_run : MOK y_Ru_run b_Ru_run 3 (some .int) 1 := ⟨tb_at (lt_s3 47 rfl) rfl, tb_at (lt_s1 8 rfl) rfl, by decide +kernel, by decide +kernel, by decide +kernel⟩
set_option maxRecDepth 20000 in
theorem is_Ru_run : MIN y_Ru_run := ⟨tb_at (lt_s3 46 rfl) rfl, tb_at (lt_s0 50 rfl) rfl⟩
def y_Ru_step : MethodName := ⟨"ScanMachine$Runner", "step", "()V"⟩
abbrev b_Ru_step : ByteArray := prog_8_method_3_code
set_option maxRecDepth 20000 in
theorem ok_Ru_step : MOK y_Ru_step b_Ru_step 5 none 0 := ⟨tb_at (lt_s3 55 rfl) rfl, tb_at (lt_s1 8 rfl) rfl, by decide +kernel, by decide +kernel, by decide +kernel⟩
set_option maxRecDepth 20000 in
theorem is_Ru_step : MIN y_Ru_step := ⟨tb_at (lt_s3 54 rfl) rfl, tb_at (lt_s0 51 rfl) rfl⟩
def y_Ru_move : MethodName := ⟨"ScanMachine$Runner", "move", "(IIII)V"⟩
abbrev b_Ru_move : ByteArray := prog_8_method_4_code
set_option maxRecDepth 20000 in
theorem ok_Ru_move : MOK y_Ru_move b_Ru_move 5 none 4 := ⟨tb_at (lt_s3 63 rfl) rfl, tb_at (lt_s1 8 rfl) rfl, by decide +kernel, by decide +kernel, by decide +kernel⟩
set_option maxRecDepth 20000 in
theorem is_Ru_move : MIN y_Ru_move := ⟨tb_at (lt_s3 62 rfl) rfl, tb_at (lt_s0 52 rfl) rfl⟩
def y_Ru_take : MethodName := ⟨"ScanMachine$Runner", "take", "(III)V"⟩
abbrev b_Ru_take : ByteArray := prog_8_method_5_code
set_option maxRecDepth 20000 in
theorem ok_Ru_take : MOK y_Ru_take b_Ru_take 6 none 3 := ⟨tb_at (lt_s3 84 rfl) rfl, tb_at (lt_s1 8 rfl) rfl, by decide +kernel, by decide +kernel, by decide +kernel⟩
set_option maxRecDepth 20000 in
theorem is_Ru_take : MIN y_Ru_take := ⟨tb_at (lt_s3 83 rfl) rfl, tb_at (lt_s0 57 rfl) rfl⟩
def y_Ru_put : MethodName := ⟨"ScanMachine$Runner", "put", "(III)V"⟩
abbrev b_Ru_put : ByteArray := prog_8_method_6_code
set_option maxRecDepth 20000 in
theorem ok_Ru_put : MOK y_Ru_put b_Ru_put 7 none 3 := ⟨tb_at (lt_s3 88 rfl) rfl, tb_at (lt_s1 8 rfl) rfl, by decide +kernel, by decide +kernel, by decide +kernel⟩
set_option maxRecDepth 20000 in
theorem is_Ru_put : MIN y_Ru_put := ⟨tb_at (lt_s3 87 rfl) rfl, tb_at (lt_s0 58 rfl) rfl⟩
def y_Ru_reckon : MethodName := ⟨"ScanMachine$Runner", "reckon", "(II)V"⟩
abbrev b_Ru_reckon : ByteArray := prog_8_method_7_code
set_option maxRecDepth 20000 in
theorem ok_Ru_reckon : MOK y_Ru_reckon b_Ru_reckon 5 none 2 := ⟨tb_at (lt_s3 93 rfl) rfl, tb_at (lt_s1 8 rfl) rfl, by decide +kernel, by decide +kernel, by decide +kernel⟩
set_option maxRecDepth 20000 in
theorem is_Ru_reckon : MIN y_Ru_reckon := ⟨tb_at (lt_s3 92 rfl) rfl, tb_at (lt_s0 59 rfl) rfl⟩
def y_Ru_go : MethodName := ⟨"ScanMachine$Runner", "go", "(III)V"⟩
abbrev b_Ru_go : ByteArray := prog_8_method_8_code
set_option maxRecDepth 20000 in
theorem ok_Ru_go : MOK y_Ru_go b_Ru_go 4 none 3 := ⟨tb_at (lt_s3 162 rfl) rfl, tb_at (lt_s1 8 rfl) rfl, by decide +kernel, by decide +kernel, by decide +kernel⟩
set_option maxRecDepth 20000 in
theorem is_Ru_go : MIN y_Ru_go := ⟨tb_at (lt_s3 161 rfl) rfl, tb_at (lt_s0 68 rfl) rfl⟩
def y_Ru_countDown : MethodName := ⟨"ScanMachine$Runner", "countDown", "(II)V"⟩
abbrev b_Ru_countDown : ByteArray := prog_8_method_9_code
set_option maxRecDepth 20000 in
theorem ok_Ru_countDown : MOK y_Ru_countDown b_Ru_countDown 4 none 2 := ⟨tb_at (lt_s3 166 rfl) rfl, tb_at (lt_s1 8 rfl) rfl, by decide +kernel, by decide +kernel, by decide +kernel⟩
set_option maxRecDepth 20000 in
theorem is_Ru_countDown : MIN y_Ru_countDown := ⟨tb_at (lt_s3 165 rfl) rfl, tb_at (lt_s0 69 rfl) rfl⟩
def y_Ru_descend : MethodName := ⟨"ScanMachine$Runner", "descend", "(II)V"⟩
abbrev b_Ru_descend : ByteArray := prog_8_method_10_code
set_option maxRecDepth 20000 in
theorem ok_Ru_descend : MOK y_Ru_descend b_Ru_descend 3 none 2 := ⟨tb_at (lt_s3 170 rfl) rfl, tb_at (lt_s1 8 rfl) rfl, by decide +kernel, by decide +kernel, by decide +kernel⟩
set_option maxRecDepth 20000 in
theorem is_Ru_descend : MIN y_Ru_descend := ⟨tb_at (lt_s3 169 rfl) rfl, tb_at (lt_s0 70 rfl) rfl⟩
def y_Ru_goBack : MethodName := ⟨"ScanMachine$Runner", "goBack", "()V"⟩
abbrev b_Ru_goBack : ByteArray := prog_8_method_11_code
set_option maxRecDepth 20000 in
theorem ok_Ru_goBack : MOK y_Ru_goBack b_Ru_goBack 1 none 0 := ⟨tb_at (lt_s3 174 rfl) rfl, tb_at (lt_s1 8 rfl) rfl, by decide +kernel, by decide +kernel, by decide +kernel⟩
set_option maxRecDepth 20000 in
theorem is_Ru_goBack : MIN y_Ru_goBack := ⟨tb_at (lt_s3 173 rfl) rfl, tb_at (lt_s0 71 rfl) rfl⟩
def y_Sh_init : MethodName := ⟨"ScanMachine$Shape", "<init>", "(LScanMachine$Code;)V"⟩
abbrev b_Sh_init : ByteArray := prog_9_method_1_code
set_option maxRecDepth 20000 in
theorem ok_Sh_init : MOK y_Sh_init b_Sh_init 2 none 1 := ⟨tb_at (lt_s1 64 rfl) rfl, tb_at (lt_s1 3 rfl) rfl, by decide +kernel, by decide +kernel, by decide +kernel⟩
set_option maxRecDepth 20000 in
theorem is_Sh_init : Cond.instanceMethod y_Sh_init ∈ TB := tb_at (lt_s1 63 rfl) rfl
def y_Sh_faultOf : MethodName := ⟨"ScanMachine$Shape", "faultOf", "(II)I"⟩
abbrev b_Sh_faultOf : ByteArray := prog_9_method_2_code
set_option maxRecDepth 20000 in
theorem ok_Sh_faultOf : MOK y_Sh_faultOf b_Sh_faultOf 6 (some .int) 2 := ⟨tb_at (lt_s2 87 rfl) rfl, tb_at (lt_s1 3 rfl) rfl, by decide +kernel, by decide +kernel, by decide +kernel⟩
set_option maxRecDepth 20000 in
theorem is_Sh_faultOf : MIN y_Sh_faultOf := ⟨tb_at (lt_s2 86 rfl) rfl, tb_at (lt_s0 10 rfl) rfl⟩
def y_Sh_isPlacedWrong : MethodName := ⟨"ScanMachine$Shape", "isPlacedWrong", "(I)Z"⟩
abbrev b_Sh_isPlacedWrong : ByteArray := prog_9_method_3_code
set_option maxRecDepth 20000 in
theorem ok_Sh_isPlacedWrong : MOK y_Sh_isPlacedWrong b_Sh_isPlacedWrong 4 (some .boolean) 1 := ⟨tb_at (lt_s2 91 rfl) rfl, tb_at (lt_s1 3 rfl) rfl, by decide +kernel, by decide +kernel, by decide +kernel⟩
set_option maxRecDepth 20000 in
theorem is_Sh_isPlacedWrong : MIN y_Sh_isPlacedWrong := ⟨tb_at (lt_s2 90 rfl) rfl, tb_at (lt_s0 11 rfl) rfl⟩
def y_Sh_meetsEarlierUnit : MethodName := ⟨"ScanMachine$Shape", "meetsEarlierUnit", "(II)Z"⟩
abbrev b_Sh_meetsEarlierUnit : ByteArray := prog_9_method_4_code
set_option maxRecDepth 20000 in
theorem ok_Sh_meetsEarlierUnit : MOK y_Sh_meetsEarlierUnit b_Sh_meetsEarlierUnit 7 (some .boolean) 2 := ⟨tb_at (lt_s2 108 rfl) rfl, tb_at (lt_s1 3 rfl) rfl, by decide +kernel, by decide +kernel, by decide +kernel⟩
set_option maxRecDepth 20000 in
theorem is_Sh_meetsEarlierUnit : MIN y_Sh_meetsEarlierUnit := ⟨tb_at (lt_s2 107 rfl) rfl, tb_at (lt_s0 15 rfl) rfl⟩
def y_Sh_lookAt : MethodName := ⟨"ScanMachine$Shape", "lookAt", "(I)V"⟩
abbrev b_Sh_lookAt : ByteArray := prog_9_method_5_code
set_option maxRecDepth 20000 in
theorem ok_Sh_lookAt : MOK y_Sh_lookAt b_Sh_lookAt 2 none 1 := ⟨tb_at (lt_s2 122 rfl) rfl, tb_at (lt_s1 3 rfl) rfl, by decide +kernel, by decide +kernel, by decide +kernel⟩
set_option maxRecDepth 20000 in
theorem is_Sh_lookAt : MIN y_Sh_lookAt := ⟨tb_at (lt_s2 121 rfl) rfl, tb_at (lt_s0 17 rfl) rfl⟩
def y_Sh_faultHere : MethodName := ⟨"ScanMachine$Shape", "faultHere", "()I"⟩
abbrev b_Sh_faultHere : ByteArray := prog_9_method_6_code
set_option maxRecDepth 20000 in
theorem ok_Sh_faultHere : MOK y_Sh_faultHere b_Sh_faultHere 1 (some .int) 0 := ⟨tb_at (lt_s2 146 rfl) rfl, tb_at (lt_s1 3 rfl) rfl, by decide +kernel, by decide +kernel, by decide +kernel⟩
set_option maxRecDepth 20000 in
theorem is_Sh_faultHere : MIN y_Sh_faultHere := ⟨tb_at (lt_s2 145 rfl) rfl, tb_at (lt_s0 23 rfl) rfl⟩
def y_Sh_isInstruction : MethodName := ⟨"ScanMachine$Shape", "isInstruction", "()Z"⟩
abbrev b_Sh_isInstruction : ByteArray := prog_9_method_7_code
set_option maxRecDepth 20000 in
theorem ok_Sh_isInstruction : MOK y_Sh_isInstruction b_Sh_isInstruction 1 (some .boolean) 0 := ⟨tb_at (lt_s2 150 rfl) rfl, tb_at (lt_s1 3 rfl) rfl, by decide +kernel, by decide +kernel, by decide +kernel⟩
set_option maxRecDepth 20000 in
theorem is_Sh_isInstruction : MIN y_Sh_isInstruction := ⟨tb_at (lt_s2 149 rfl) rfl, tb_at (lt_s0 24 rfl) rfl⟩
def y_Sh_namesWrongUnit : MethodName := ⟨"ScanMachine$Shape", "namesWrongUnit", "()Z"⟩
abbrev b_Sh_namesWrongUnit : ByteArray := prog_9_method_8_code
set_option maxRecDepth 20000 in
theorem ok_Sh_namesWrongUnit : MOK y_Sh_namesWrongUnit b_Sh_namesWrongUnit 1 (some .boolean) 0 := ⟨tb_at (lt_s2 155 rfl) rfl, tb_at (lt_s1 3 rfl) rfl, by decide +kernel, by decide +kernel, by decide +kernel⟩
set_option maxRecDepth 20000 in
theorem is_Sh_namesWrongUnit : MIN y_Sh_namesWrongUnit := ⟨tb_at (lt_s2 154 rfl) rfl, tb_at (lt_s0 25 rfl) rfl⟩
def y_Sh_leavesFrame : MethodName := ⟨"ScanMachine$Shape", "leavesFrame", "()Z"⟩
abbrev b_Sh_leavesFrame : ByteArray := prog_9_method_9_code
set_option maxRecDepth 20000 in
theorem ok_Sh_leavesFrame : MOK y_Sh_leavesFrame b_Sh_leavesFrame 3 (some .boolean) 0 := ⟨tb_at (lt_s2 159 rfl) rfl, tb_at (lt_s1 3 rfl) rfl, by decide +kernel, by decide +kernel, by decide +kernel⟩
set_option maxRecDepth 20000 in
theorem is_Sh_leavesFrame : MIN y_Sh_leavesFrame := ⟨tb_at (lt_s2 158 rfl) rfl, tb_at (lt_s0 26 rfl) rfl⟩
def y_Sh_touchesCounter : MethodName := ⟨"ScanMachine$Shape", "touchesCounter", "()Z"⟩
abbrev b_Sh_touchesCounter : ByteArray := prog_9_method_10_code
set_option maxRecDepth 20000 in
theorem ok_Sh_touchesCounter : MOK y_Sh_touchesCounter b_Sh_touchesCounter 8 (some .boolean) 0 := ⟨tb_at (lt_s2 175 rfl) rfl, tb_at (lt_s1 3 rfl) rfl, by decide +kernel, by decide +kernel, by decide +kernel⟩
set_option maxRecDepth 20000 in
theorem is_Sh_touchesCounter : MIN y_Sh_touchesCounter := ⟨tb_at (lt_s2 174 rfl) rfl, tb_at (lt_s0 30 rfl) rfl⟩
def y_Sh_howManyCells : MethodName := ⟨"ScanMachine$Shape", "howManyCells", "()I"⟩
abbrev b_Sh_howManyCells : ByteArray := prog_9_method_11_code
set_option maxRecDepth 20000 in
theorem ok_Sh_howManyCells : MOK y_Sh_howManyCells b_Sh_howManyCells 1 (some .int) 0 := ⟨tb_at (lt_s2 163 rfl) rfl, tb_at (lt_s1 3 rfl) rfl, by decide +kernel, by decide +kernel, by decide +kernel⟩
set_option maxRecDepth 20000 in
theorem is_Sh_howManyCells : MIN y_Sh_howManyCells := ⟨tb_at (lt_s2 162 rfl) rfl, tb_at (lt_s0 27 rfl) rfl⟩
def y_Sh_firstCell : MethodName := ⟨"ScanMachine$Shape", "firstCell", "()I"⟩
abbrev b_Sh_firstCell : ByteArray := prog_9_method_12_code
set_option maxRecDepth 20000 in
theorem ok_Sh_firstCell : MOK y_Sh_firstCell b_Sh_firstCell 2 (some .int) 0 := ⟨tb_at (lt_s2 167 rfl) rfl, tb_at (lt_s1 3 rfl) rfl, by decide +kernel, by decide +kernel, by decide +kernel⟩
set_option maxRecDepth 20000 in
theorem is_Sh_firstCell : MIN y_Sh_firstCell := ⟨tb_at (lt_s2 166 rfl) rfl, tb_at (lt_s0 28 rfl) rfl⟩
def y_Sh_ownerOfCells : MethodName := ⟨"ScanMachine$Shape", "ownerOfCells", "()I"⟩
abbrev b_Sh_ownerOfCells : ByteArray := prog_9_method_13_code
set_option maxRecDepth 20000 in
theorem ok_Sh_ownerOfCells : MOK y_Sh_ownerOfCells b_Sh_ownerOfCells 1 (some .int) 0 := ⟨tb_at (lt_s2 171 rfl) rfl, tb_at (lt_s1 3 rfl) rfl, by decide +kernel, by decide +kernel, by decide +kernel⟩
set_option maxRecDepth 20000 in
theorem is_Sh_ownerOfCells : MIN y_Sh_ownerOfCells := ⟨tb_at (lt_s2 170 rfl) rfl, tb_at (lt_s0 29 rfl) rfl⟩
def y_Sh_goesWrongWay : MethodName := ⟨"ScanMachine$Shape", "goesWrongWay", "()Z"⟩
abbrev b_Sh_goesWrongWay : ByteArray := prog_9_method_14_code
set_option maxRecDepth 20000 in
theorem ok_Sh_goesWrongWay : MOK y_Sh_goesWrongWay b_Sh_goesWrongWay 1 (some .boolean) 0 := ⟨tb_at (lt_s2 179 rfl) rfl, tb_at (lt_s1 3 rfl) rfl, by decide +kernel, by decide +kernel, by decide +kernel⟩
set_option maxRecDepth 20000 in
theorem is_Sh_goesWrongWay : MIN y_Sh_goesWrongWay := ⟨tb_at (lt_s2 178 rfl) rfl, tb_at (lt_s0 31 rfl) rfl⟩
def y_Wa_init : MethodName := ⟨"ScanMachine$Ways", "<init>", "(LScanMachine$Code;)V"⟩
abbrev b_Wa_init : ByteArray := prog_10_method_1_code
set_option maxRecDepth 20000 in
theorem ok_Wa_init : MOK y_Wa_init b_Wa_init 2 none 1 := ⟨tb_at (lt_s1 124 rfl) rfl, tb_at (lt_s1 6 rfl) rfl, by decide +kernel, by decide +kernel, by decide +kernel⟩
set_option maxRecDepth 20000 in
theorem is_Wa_init : Cond.instanceMethod y_Wa_init ∈ TB := tb_at (lt_s1 123 rfl) rfl
def y_Wa_stepsOf : MethodName := ⟨"ScanMachine$Ways", "stepsOf", "(I)J"⟩
abbrev b_Wa_stepsOf : ByteArray := prog_10_method_2_code
set_option maxRecDepth 20000 in
theorem ok_Wa_stepsOf : MOK y_Wa_stepsOf b_Wa_stepsOf 2 (some .long) 1 := ⟨tb_at (lt_s3 34 rfl) rfl, tb_at (lt_s1 6 rfl) rfl, by decide +kernel, by decide +kernel, by decide +kernel⟩
set_option maxRecDepth 20000 in
theorem is_Wa_stepsOf : MIN y_Wa_stepsOf := ⟨tb_at (lt_s3 33 rfl) rfl, tb_at (lt_s0 49 rfl) rfl⟩
def y_Wa_faultOf : MethodName := ⟨"ScanMachine$Ways", "faultOf", "(I)I"⟩
abbrev b_Wa_faultOf : ByteArray := prog_10_method_3_code
set_option maxRecDepth 20000 in
theorem ok_Wa_faultOf : MOK y_Wa_faultOf b_Wa_faultOf 7 (some .int) 1 := ⟨tb_at (lt_s3 4 rfl) rfl, tb_at (lt_s1 6 rfl) rfl, by decide +kernel, by decide +kernel, by decide +kernel⟩
set_option maxRecDepth 20000 in
theorem is_Wa_faultOf : MIN y_Wa_faultOf := ⟨tb_at (lt_s3 3 rfl) rfl, tb_at (lt_s0 44 rfl) rfl⟩
def y_Wa_walk : MethodName := ⟨"ScanMachine$Ways", "walk", "(II)V"⟩
abbrev b_Wa_walk : ByteArray := prog_10_method_4_code
set_option maxRecDepth 20000 in
theorem ok_Wa_walk : MOK y_Wa_walk b_Wa_walk 4 none 2 := ⟨tb_at (lt_s3 11 rfl) rfl, tb_at (lt_s1 6 rfl) rfl, by decide +kernel, by decide +kernel, by decide +kernel⟩
set_option maxRecDepth 20000 in
theorem is_Wa_walk : MIN y_Wa_walk := ⟨tb_at (lt_s3 10 rfl) rfl, tb_at (lt_s0 45 rfl) rfl⟩
def y_Wa_goOn : MethodName := ⟨"ScanMachine$Ways", "goOn", "(IJ)V"⟩
abbrev b_Wa_goOn : ByteArray := prog_10_method_5_code
set_option maxRecDepth 20000 in
theorem ok_Wa_goOn : MOK y_Wa_goOn b_Wa_goOn 4 none 2 := ⟨tb_at (lt_s3 19 rfl) rfl, tb_at (lt_s1 6 rfl) rfl, by decide +kernel, by decide +kernel, by decide +kernel⟩
set_option maxRecDepth 20000 in
theorem is_Wa_goOn : MIN y_Wa_goOn := ⟨tb_at (lt_s3 18 rfl) rfl, tb_at (lt_s0 46 rfl) rfl⟩
def y_Wa_passLoop : MethodName := ⟨"ScanMachine$Ways", "passLoop", "(IJ)V"⟩
abbrev b_Wa_passLoop : ByteArray := prog_10_method_6_code
set_option maxRecDepth 20000 in
theorem ok_Wa_passLoop : MOK y_Wa_passLoop b_Wa_passLoop 8 none 2 := ⟨tb_at (lt_s3 30 rfl) rfl, tb_at (lt_s1 6 rfl) rfl, by decide +kernel, by decide +kernel, by decide +kernel⟩
set_option maxRecDepth 20000 in
theorem is_Wa_passLoop : MIN y_Wa_passLoop := ⟨tb_at (lt_s3 29 rfl) rfl, tb_at (lt_s0 48 rfl) rfl⟩
def y_Wa_reach : MethodName := ⟨"ScanMachine$Ways", "reach", "(IJ)V"⟩
abbrev b_Wa_reach : ByteArray := prog_10_method_7_code
set_option maxRecDepth 20000 in
theorem ok_Wa_reach : MOK y_Wa_reach b_Wa_reach 4 none 2 := ⟨tb_at (lt_s3 24 rfl) rfl, tb_at (lt_s1 6 rfl) rfl, by decide +kernel, by decide +kernel, by decide +kernel⟩
set_option maxRecDepth 20000 in
theorem is_Wa_reach : MIN y_Wa_reach := ⟨tb_at (lt_s3 23 rfl) rfl, tb_at (lt_s0 47 rfl) rfl⟩
def y_Ma_maxI : MethodName := ⟨"java/lang/Math", "max", "(II)I"⟩
abbrev b_Ma_maxI : ByteArray := prog_13_method_65_code
set_option maxRecDepth 20000 in
theorem ok_Ma_maxI : MOK y_Ma_maxI b_Ma_maxI 2 (some .int) 2 := ⟨tb_at (lt_s2 111 rfl) rfl, tb_at (lt_s1 12 rfl) rfl, by decide +kernel, by decide +kernel, by decide +kernel⟩
set_option maxRecDepth 20000 in
theorem is_Ma_maxI : Cond.static y_Ma_maxI ∈ TB := tb_at (lt_s2 110 rfl) rfl
def y_Ma_minI : MethodName := ⟨"java/lang/Math", "min", "(II)I"⟩
abbrev b_Ma_minI : ByteArray := prog_13_method_69_code
set_option maxRecDepth 20000 in
theorem ok_Ma_minI : MOK y_Ma_minI b_Ma_minI 2 (some .int) 2 := ⟨tb_at (lt_s2 114 rfl) rfl, tb_at (lt_s1 12 rfl) rfl, by decide +kernel, by decide +kernel, by decide +kernel⟩
set_option maxRecDepth 20000 in
theorem is_Ma_minI : Cond.static y_Ma_minI ∈ TB := tb_at (lt_s2 113 rfl) rfl
def y_Ma_minJ : MethodName := ⟨"java/lang/Math", "min", "(JJ)J"⟩
abbrev b_Ma_minJ : ByteArray := prog_13_method_70_code
set_option maxRecDepth 20000 in
theorem ok_Ma_minJ : MOK y_Ma_minJ b_Ma_minJ 4 (some .long) 2 := ⟨tb_at (lt_s3 137 rfl) rfl, tb_at (lt_s1 12 rfl) rfl, by decide +kernel, by decide +kernel, by decide +kernel⟩
set_option maxRecDepth 20000 in
theorem is_Ma_minJ : Cond.static y_Ma_minJ ∈ TB := tb_at (lt_s3 136 rfl) rfl
def y_Ar_fillI : MethodName := ⟨"java/util/Arrays", "fill", "([II)V"⟩
abbrev b_Ar_fillI : ByteArray := prog_14_method_103_code
set_option maxRecDepth 20000 in
theorem ok_Ar_fillI : MOK y_Ar_fillI b_Ar_fillI 4 none 2 := ⟨tb_at (lt_s2 37 rfl) rfl, tb_at (lt_s1 11 rfl) rfl, by decide +kernel, by decide +kernel, by decide +kernel⟩
set_option maxRecDepth 20000 in
theorem is_Ar_fillI : Cond.static y_Ar_fillI ∈ TB := tb_at (lt_s2 36 rfl) rfl
def y_Ar_fillJ : MethodName := ⟨"java/util/Arrays", "fill", "([JJ)V"⟩
abbrev b_Ar_fillJ : ByteArray := prog_14_method_101_code
set_option maxRecDepth 20000 in
theorem ok_Ar_fillJ : MOK y_Ar_fillJ b_Ar_fillJ 5 none 2 := ⟨tb_at (lt_s3 15 rfl) rfl, tb_at (lt_s1 11 rfl) rfl, by decide +kernel, by decide +kernel, by decide +kernel⟩
set_option maxRecDepth 20000 in
theorem is_Ar_fillJ : Cond.static y_Ar_fillJ ∈ TB := tb_at (lt_s3 14 rfl) rfl
set_option maxRecDepth 20000 in
theorem lk_14 : Cond.classLink "ScanMachineLaw" 7 "ScanMachine" ∈ TB := tb_at (lt_s1 14 rfl) rfl
set_option maxRecDepth 20000 in
theorem lk_15 : Cond.instantiable "ScanMachine" 13 ∈ TB := tb_at (lt_s1 15 rfl) rfl
set_option maxRecDepth 20000 in
theorem lk_16 : Cond.methodLink "ScanMachineLaw" 9 ⟨"ScanMachine", "<init>", "()V"⟩ ∈ TB := tb_at (lt_s1 16 rfl) rfl
set_option maxRecDepth 20000 in
theorem lk_19 : Cond.methodLink "ScanMachine" 1 ⟨"java/lang/Object", "<init>", "()V"⟩ ∈ TB := tb_at (lt_s1 19 rfl) rfl
set_option maxRecDepth 20000 in
theorem lk_22 : Cond.classLink "ScanMachine" 7 "ScanMachine$Code" ∈ TB := tb_at (lt_s1 22 rfl) rfl
set_option maxRecDepth 20000 in
theorem lk_23 : Cond.instantiable "ScanMachine$Code" 10 ∈ TB := tb_at (lt_s1 23 rfl) rfl
set_option maxRecDepth 20000 in
theorem lk_24 : Cond.methodLinkNest "ScanMachine" 9 ⟨"ScanMachine$Code", "<init>", "()V"⟩ "ScanMachine" ∈ NWL := nw_at (lt_s1 24 rfl) rfl
set_option maxRecDepth 20000 in
theorem lk_27 : Cond.methodLink "ScanMachine$Code" 3 ⟨"java/lang/Object", "<init>", "()V"⟩ ∈ TB := tb_at (lt_s1 27 rfl) rfl
set_option maxRecDepth 20000 in
theorem lk_28 : Cond.fieldLink "ScanMachine$Code" 9 "ScanMachine$Code" "frames" "[I" ∈ TB := tb_at (lt_s1 28 rfl) rfl
set_option maxRecDepth 20000 in
theorem lk_29 : Cond.fieldLink "ScanMachine$Code" 15 "ScanMachine$Code" "places" "[I" ∈ TB := tb_at (lt_s1 29 rfl) rfl
set_option maxRecDepth 20000 in
theorem lk_30 : Cond.fieldLink "ScanMachine$Code" 18 "ScanMachine$Code" "firsts" "[I" ∈ TB := tb_at (lt_s1 30 rfl) rfl
set_option maxRecDepth 20000 in
theorem lk_31 : Cond.fieldLink "ScanMachine$Code" 21 "ScanMachine$Code" "sizes" "[I" ∈ TB := tb_at (lt_s1 31 rfl) rfl
set_option maxRecDepth 20000 in
theorem lk_32 : Cond.fieldLink "ScanMachine$Code" 24 "ScanMachine$Code" "numbers" "[I" ∈ TB := tb_at (lt_s1 32 rfl) rfl
set_option maxRecDepth 20000 in
theorem lk_33 : Cond.fieldLink "ScanMachine$Code" 27 "ScanMachine$Code" "as" "[I" ∈ TB := tb_at (lt_s1 33 rfl) rfl
set_option maxRecDepth 20000 in
theorem lk_34 : Cond.fieldLink "ScanMachine$Code" 30 "ScanMachine$Code" "bs" "[I" ∈ TB := tb_at (lt_s1 34 rfl) rfl
set_option maxRecDepth 20000 in
theorem lk_35 : Cond.fieldLink "ScanMachine$Code" 33 "ScanMachine$Code" "cs" "[I" ∈ TB := tb_at (lt_s1 35 rfl) rfl
set_option maxRecDepth 20000 in
theorem lk_36 : Cond.fieldLink "ScanMachine$Code" 36 "ScanMachine$Code" "units" "I" ∈ TB := tb_at (lt_s1 36 rfl) rfl
set_option maxRecDepth 20000 in
theorem lk_37 : Cond.fieldLink "ScanMachine$Code" 40 "ScanMachine$Code" "length" "I" ∈ TB := tb_at (lt_s1 37 rfl) rfl
set_option maxRecDepth 20000 in
theorem lk_59 : Cond.arrayClass FieldType.int ∈ TB := tb_at (lt_s1 59 rfl) rfl
set_option maxRecDepth 20000 in
theorem lk_60 : Cond.classLink "ScanMachine" 16 "ScanMachine$Shape" ∈ TB := tb_at (lt_s1 60 rfl) rfl
set_option maxRecDepth 20000 in
theorem lk_61 : Cond.instantiable "ScanMachine$Shape" 7 ∈ TB := tb_at (lt_s1 61 rfl) rfl
set_option maxRecDepth 20000 in
theorem lk_62 : Cond.methodLinkNest "ScanMachine" 18 ⟨"ScanMachine$Shape", "<init>", "(LScanMachine$Code;)V"⟩ "ScanMachine" ∈ NWL := nw_at (lt_s1 62 rfl) rfl
set_option maxRecDepth 20000 in
theorem lk_65 : Cond.methodLink "ScanMachine$Shape" 3 ⟨"java/lang/Object", "<init>", "()V"⟩ ∈ TB := tb_at (lt_s1 65 rfl) rfl
set_option maxRecDepth 20000 in
theorem lk_66 : Cond.fieldLink "ScanMachine$Shape" 9 "ScanMachine$Shape" "code" "LScanMachine$Code;" ∈ TB := tb_at (lt_s1 66 rfl) rfl
set_option maxRecDepth 20000 in
theorem lk_67 : Cond.fieldLink "ScanMachine$Shape" 15 "ScanMachine$Shape" "unit" "I" ∈ TB := tb_at (lt_s1 67 rfl) rfl
set_option maxRecDepth 20000 in
theorem lk_68 : Cond.fieldLink "ScanMachine$Shape" 59 "ScanMachine$Shape" "i" "I" ∈ TB := tb_at (lt_s1 68 rfl) rfl
set_option maxRecDepth 20000 in
theorem lk_69 : Cond.fieldLink "ScanMachine$Shape" 65 "ScanMachine$Shape" "number" "I" ∈ TB := tb_at (lt_s1 69 rfl) rfl
set_option maxRecDepth 20000 in
theorem lk_70 : Cond.fieldLink "ScanMachine$Shape" 71 "ScanMachine$Shape" "a" "I" ∈ TB := tb_at (lt_s1 70 rfl) rfl
set_option maxRecDepth 20000 in
theorem lk_71 : Cond.fieldLink "ScanMachine$Shape" 77 "ScanMachine$Shape" "b" "I" ∈ TB := tb_at (lt_s1 71 rfl) rfl
set_option maxRecDepth 20000 in
theorem lk_72 : Cond.fieldLink "ScanMachine$Shape" 83 "ScanMachine$Shape" "c" "I" ∈ TB := tb_at (lt_s1 72 rfl) rfl
set_option maxRecDepth 20000 in
theorem lk_88 : Cond.classLink "ScanMachine" 25 "ScanMachine$Loops" ∈ TB := tb_at (lt_s1 88 rfl) rfl
set_option maxRecDepth 20000 in
theorem lk_89 : Cond.instantiable "ScanMachine$Loops" 4 ∈ TB := tb_at (lt_s1 89 rfl) rfl
set_option maxRecDepth 20000 in
theorem lk_90 : Cond.methodLinkNest "ScanMachine" 27 ⟨"ScanMachine$Loops", "<init>", "(LScanMachine$Code;)V"⟩ "ScanMachine" ∈ NWL := nw_at (lt_s1 90 rfl) rfl
set_option maxRecDepth 20000 in
theorem lk_93 : Cond.methodLink "ScanMachine$Loops" 3 ⟨"java/lang/Object", "<init>", "()V"⟩ ∈ TB := tb_at (lt_s1 93 rfl) rfl
set_option maxRecDepth 20000 in
theorem lk_94 : Cond.fieldLink "ScanMachine$Loops" 15 "ScanMachine$Loops" "code" "LScanMachine$Code;" ∈ TB := tb_at (lt_s1 94 rfl) rfl
set_option maxRecDepth 20000 in
theorem lk_95 : Cond.fieldLink "ScanMachine$Loops" 9 "ScanMachine$Loops" "nexts" "[I" ∈ TB := tb_at (lt_s1 95 rfl) rfl
set_option maxRecDepth 20000 in
theorem lk_96 : Cond.fieldLink "ScanMachine$Loops" 36 "ScanMachine$Loops" "loops" "I" ∈ TB := tb_at (lt_s1 96 rfl) rfl
set_option maxRecDepth 20000 in
theorem lk_97 : Cond.fieldLink "ScanMachine$Loops" 19 "ScanMachine$Loops" "unit" "I" ∈ TB := tb_at (lt_s1 97 rfl) rfl
set_option maxRecDepth 20000 in
theorem lk_107 : Cond.classLink "ScanMachine" 32 "ScanMachine$Depths" ∈ TB := tb_at (lt_s1 107 rfl) rfl
set_option maxRecDepth 20000 in
theorem lk_108 : Cond.instantiable "ScanMachine$Depths" 2 ∈ TB := tb_at (lt_s1 108 rfl) rfl
set_option maxRecDepth 20000 in
theorem lk_109 : Cond.methodLinkNest "ScanMachine" 34 ⟨"ScanMachine$Depths", "<init>", "(LScanMachine$Code;)V"⟩ "ScanMachine" ∈ NWL := nw_at (lt_s1 109 rfl) rfl
set_option maxRecDepth 20000 in
theorem lk_112 : Cond.methodLink "ScanMachine$Depths" 3 ⟨"java/lang/Object", "<init>", "()V"⟩ ∈ TB := tb_at (lt_s1 112 rfl) rfl
set_option maxRecDepth 20000 in
theorem lk_113 : Cond.fieldLink "ScanMachine$Depths" 15 "ScanMachine$Depths" "code" "LScanMachine$Code;" ∈ TB := tb_at (lt_s1 113 rfl) rfl
set_option maxRecDepth 20000 in
theorem lk_114 : Cond.fieldLink "ScanMachine$Depths" 9 "ScanMachine$Depths" "depths" "[I" ∈ TB := tb_at (lt_s1 114 rfl) rfl
set_option maxRecDepth 20000 in
theorem lk_120 : Cond.classLink "ScanMachine" 39 "ScanMachine$Ways" ∈ TB := tb_at (lt_s1 120 rfl) rfl
set_option maxRecDepth 20000 in
theorem lk_121 : Cond.instantiable "ScanMachine$Ways" 6 ∈ TB := tb_at (lt_s1 121 rfl) rfl
set_option maxRecDepth 20000 in
theorem lk_122 : Cond.methodLinkNest "ScanMachine" 41 ⟨"ScanMachine$Ways", "<init>", "(LScanMachine$Code;)V"⟩ "ScanMachine" ∈ NWL := nw_at (lt_s1 122 rfl) rfl
set_option maxRecDepth 20000 in
theorem lk_125 : Cond.methodLink "ScanMachine$Ways" 3 ⟨"java/lang/Object", "<init>", "()V"⟩ ∈ TB := tb_at (lt_s1 125 rfl) rfl
set_option maxRecDepth 20000 in
theorem lk_126 : Cond.fieldLink "ScanMachine$Ways" 21 "ScanMachine$Ways" "code" "LScanMachine$Code;" ∈ TB := tb_at (lt_s1 126 rfl) rfl
set_option maxRecDepth 20000 in
theorem lk_127 : Cond.fieldLink "ScanMachine$Ways" 9 "ScanMachine$Ways" "reached" "[J" ∈ TB := tb_at (lt_s1 127 rfl) rfl
set_option maxRecDepth 20000 in
theorem lk_128 : Cond.fieldLink "ScanMachine$Ways" 15 "ScanMachine$Ways" "rounds" "[J" ∈ TB := tb_at (lt_s1 128 rfl) rfl
set_option maxRecDepth 20000 in
theorem lk_129 : Cond.fieldLink "ScanMachine$Ways" 18 "ScanMachine$Ways" "steps" "[J" ∈ TB := tb_at (lt_s1 129 rfl) rfl
set_option maxRecDepth 20000 in
theorem lk_130 : Cond.fieldLink "ScanMachine$Ways" 25 "ScanMachine$Ways" "unit" "I" ∈ TB := tb_at (lt_s1 130 rfl) rfl
set_option maxRecDepth 20000 in
theorem lk_131 : Cond.fieldLink "ScanMachine$Ways" 52 "ScanMachine$Ways" "end" "I" ∈ TB := tb_at (lt_s1 131 rfl) rfl
set_option maxRecDepth 20000 in
theorem lk_145 : Cond.arrayClass FieldType.long ∈ TB := tb_at (lt_s1 145 rfl) rfl
set_option maxRecDepth 20000 in
theorem lk_146 : Cond.classLink "ScanMachine" 46 "ScanMachine$Memory" ∈ TB := tb_at (lt_s1 146 rfl) rfl
set_option maxRecDepth 20000 in
theorem lk_147 : Cond.instantiable "ScanMachine$Memory" 4 ∈ TB := tb_at (lt_s1 147 rfl) rfl
set_option maxRecDepth 20000 in
theorem lk_148 : Cond.methodLinkNest "ScanMachine" 48 ⟨"ScanMachine$Memory", "<init>", "()V"⟩ "ScanMachine" ∈ NWL := nw_at (lt_s1 148 rfl) rfl
set_option maxRecDepth 20000 in
theorem lk_151 : Cond.methodLink "ScanMachine$Memory" 3 ⟨"java/lang/Object", "<init>", "()V"⟩ ∈ TB := tb_at (lt_s1 151 rfl) rfl
set_option maxRecDepth 20000 in
theorem lk_152 : Cond.fieldLink "ScanMachine$Memory" 9 "ScanMachine$Memory" "cells" "[I" ∈ TB := tb_at (lt_s1 152 rfl) rfl
set_option maxRecDepth 20000 in
theorem lk_153 : Cond.fieldLink "ScanMachine$Memory" 15 "ScanMachine$Memory" "stack" "[I" ∈ TB := tb_at (lt_s1 153 rfl) rfl
set_option maxRecDepth 20000 in
theorem lk_154 : Cond.fieldLink "ScanMachine$Memory" 27 "ScanMachine$Memory" "depth" "I" ∈ TB := tb_at (lt_s1 154 rfl) rfl
set_option maxRecDepth 20000 in
theorem lk_155 : Cond.fieldLink "ScanMachine$Memory" 31 "ScanMachine$Memory" "deepest" "I" ∈ TB := tb_at (lt_s1 155 rfl) rfl
set_option maxRecDepth 20000 in
theorem lk_156 : Cond.fieldLinkNest "ScanMachine" 136 "ScanMachine$Memory" "deepest" "I" "ScanMachine" ∈ NWL := nw_at (lt_s1 156 rfl) rfl
set_option maxRecDepth 20000 in
theorem lk_166 : Cond.classLink "ScanMachine" 53 "ScanMachine$Runner" ∈ TB := tb_at (lt_s1 166 rfl) rfl
set_option maxRecDepth 20000 in
theorem lk_167 : Cond.instantiable "ScanMachine$Runner" 13 ∈ TB := tb_at (lt_s1 167 rfl) rfl
set_option maxRecDepth 20000 in
theorem lk_168 : Cond.methodLinkNest "ScanMachine" 55 ⟨"ScanMachine$Runner", "<init>", "(LScanMachine$Code;LScanMachine$Memory;)V"⟩ "ScanMachine" ∈ NWL := nw_at (lt_s1 168 rfl) rfl
set_option maxRecDepth 20000 in
theorem lk_171 : Cond.methodLink "ScanMachine$Runner" 3 ⟨"java/lang/Object", "<init>", "()V"⟩ ∈ TB := tb_at (lt_s1 171 rfl) rfl
set_option maxRecDepth 20000 in
theorem lk_172 : Cond.classLink "ScanMachine$Runner" 29 "ScanMachine$Blocks" ∈ TB := tb_at (lt_s1 172 rfl) rfl
set_option maxRecDepth 20000 in
theorem lk_173 : Cond.instantiable "ScanMachine$Blocks" 1 ∈ TB := tb_at (lt_s1 173 rfl) rfl
set_option maxRecDepth 20000 in
theorem lk_174 : Cond.methodLinkNest "ScanMachine$Runner" 31 ⟨"ScanMachine$Blocks", "<init>", "(LScanMachine$Memory;)V"⟩ "ScanMachine" ∈ NWL := nw_at (lt_s1 174 rfl) rfl
set_option maxRecDepth 20000 in
theorem lk_177 : Cond.methodLink "ScanMachine$Blocks" 1 ⟨"java/lang/Object", "<init>", "()V"⟩ ∈ TB := tb_at (lt_s1 177 rfl) rfl
set_option maxRecDepth 20000 in
theorem lk_178 : Cond.fieldLink "ScanMachine$Blocks" 7 "ScanMachine$Blocks" "memory" "LScanMachine$Memory;" ∈ TB := tb_at (lt_s1 178 rfl) rfl
set_option maxRecDepth 20000 in
theorem lk_182 : Cond.fieldLink "ScanMachine$Runner" 21 "ScanMachine$Runner" "code" "LScanMachine$Code;" ∈ TB := tb_at (lt_s1 182 rfl) rfl
set_option maxRecDepth 20000 in
theorem lk_183 : Cond.fieldLink "ScanMachine$Runner" 25 "ScanMachine$Runner" "memory" "LScanMachine$Memory;" ∈ TB := tb_at (lt_s1 183 rfl) rfl
set_option maxRecDepth 20000 in
theorem lk_184 : Cond.fieldLink "ScanMachine$Runner" 34 "ScanMachine$Runner" "blocks" "LScanMachine$Blocks;" ∈ TB := tb_at (lt_s1 184 rfl) rfl
set_option maxRecDepth 20000 in
theorem lk_185 : Cond.fieldLink "ScanMachine$Runner" 9 "ScanMachine$Runner" "waitingUnits" "[I" ∈ TB := tb_at (lt_s1 185 rfl) rfl
set_option maxRecDepth 20000 in
theorem lk_186 : Cond.fieldLink "ScanMachine$Runner" 15 "ScanMachine$Runner" "waitingNexts" "[I" ∈ TB := tb_at (lt_s1 186 rfl) rfl
set_option maxRecDepth 20000 in
theorem lk_187 : Cond.fieldLink "ScanMachine$Runner" 18 "ScanMachine$Runner" "waitingBases" "[I" ∈ TB := tb_at (lt_s1 187 rfl) rfl
set_option maxRecDepth 20000 in
theorem lk_188 : Cond.fieldLink "ScanMachine$Runner" 47 "ScanMachine$Runner" "waiting" "I" ∈ TB := tb_at (lt_s1 188 rfl) rfl
set_option maxRecDepth 20000 in
theorem lk_189 : Cond.fieldLink "ScanMachine$Runner" 62 "ScanMachine$Runner" "unit" "I" ∈ TB := tb_at (lt_s1 189 rfl) rfl
set_option maxRecDepth 20000 in
theorem lk_190 : Cond.fieldLink "ScanMachine$Runner" 65 "ScanMachine$Runner" "next" "I" ∈ TB := tb_at (lt_s1 190 rfl) rfl
set_option maxRecDepth 20000 in
theorem lk_191 : Cond.fieldLink "ScanMachine$Runner" 68 "ScanMachine$Runner" "base" "I" ∈ TB := tb_at (lt_s1 191 rfl) rfl
set_option maxRecDepth 20000 in
theorem lk_192 : Cond.fieldLink "ScanMachine$Runner" 50 "ScanMachine$Runner" "steps" "I" ∈ TB := tb_at (lt_s1 192 rfl) rfl
set_option maxRecDepth 20000 in
theorem lk_193 : Cond.fieldLinkNest "ScanMachine" 133 "ScanMachine$Runner" "steps" "I" "ScanMachine" ∈ NWL := nw_at (lt_s1 193 rfl) rfl
set_option maxRecDepth 20000 in
theorem lk_194 : Cond.fieldLink "ScanMachine$Runner" 53 "ScanMachine$Runner" "fault" "I" ∈ TB := tb_at (lt_s1 194 rfl) rfl
set_option maxRecDepth 20000 in
theorem lk_195 : Cond.fieldLink "ScanMachine$Runner" 38 "ScanMachine$Runner" "now" "I" ∈ TB := tb_at (lt_s1 195 rfl) rfl
set_option maxRecDepth 20000 in
theorem lk_223 : Cond.fieldLink "ScanMachine" 10 "ScanMachine" "code" "LScanMachine$Code;" ∈ TB := tb_at (lt_s1 223 rfl) rfl
set_option maxRecDepth 20000 in
theorem lk_224 : Cond.fieldLink "ScanMachine" 21 "ScanMachine" "shape" "LScanMachine$Shape;" ∈ TB := tb_at (lt_s1 224 rfl) rfl
set_option maxRecDepth 20000 in
theorem lk_225 : Cond.fieldLink "ScanMachine" 28 "ScanMachine" "loops" "LScanMachine$Loops;" ∈ TB := tb_at (lt_s1 225 rfl) rfl
set_option maxRecDepth 20000 in
theorem lk_226 : Cond.fieldLink "ScanMachine" 35 "ScanMachine" "depths" "LScanMachine$Depths;" ∈ TB := tb_at (lt_s1 226 rfl) rfl
set_option maxRecDepth 20000 in
theorem lk_227 : Cond.fieldLink "ScanMachine" 42 "ScanMachine" "ways" "LScanMachine$Ways;" ∈ TB := tb_at (lt_s1 227 rfl) rfl
set_option maxRecDepth 20000 in
theorem lk_228 : Cond.fieldLink "ScanMachine" 49 "ScanMachine" "memory" "LScanMachine$Memory;" ∈ TB := tb_at (lt_s1 228 rfl) rfl
set_option maxRecDepth 20000 in
theorem lk_229 : Cond.fieldLink "ScanMachine" 58 "ScanMachine" "runner" "LScanMachine$Runner;" ∈ TB := tb_at (lt_s1 229 rfl) rfl
set_option maxRecDepth 20000 in
theorem lk_230 : Cond.fieldLink "ScanMachine" 62 "ScanMachine" "total" "I" ∈ TB := tb_at (lt_s1 230 rfl) rfl
set_option maxRecDepth 20000 in
theorem lk_231 : Cond.fieldLink "ScanMachine" 104 "ScanMachine" "ready" "Z" ∈ TB := tb_at (lt_s1 231 rfl) rfl
set_option maxRecDepth 20000 in
theorem lk_232 : Cond.fieldLink "ScanMachine" 101 "ScanMachine" "allowed" "I" ∈ TB := tb_at (lt_s1 232 rfl) rfl
set_option maxRecDepth 20000 in
theorem lk_233 : Cond.fieldLink "ScanMachine" 110 "ScanMachine" "now" "I" ∈ TB := tb_at (lt_s1 233 rfl) rfl
set_option maxRecDepth 20000 in
theorem lk_234 : Cond.fieldLink "ScanMachine" 113 "ScanMachine" "scans" "I" ∈ TB := tb_at (lt_s1 234 rfl) rfl
set_option maxRecDepth 20000 in
theorem lk_235 : Cond.fieldLink "ScanMachine" 119 "ScanMachine" "faults" "I" ∈ TB := tb_at (lt_s1 235 rfl) rfl
set_option maxRecDepth 20000 in
theorem lk_263 : Cond.methodLink "ScanMachineLaw" 13 ⟨"ScanMachine", "begin", "(I)I"⟩ ∈ TB := tb_at (lt_s2 23 rfl) rfl
set_option maxRecDepth 20000 in
theorem lk_267 : Cond.methodLink "ScanMachine" 66 ⟨"ScanMachine", "halt", "()V"⟩ ∈ TB := tb_at (lt_s2 27 rfl) rfl
set_option maxRecDepth 20000 in
theorem lk_271 : Cond.methodLinkNest "ScanMachine" 139 ⟨"ScanMachine$Memory", "clear", "()V"⟩ "ScanMachine" ∈ NWL := nw_at (lt_s2 31 rfl) rfl
set_option maxRecDepth 20000 in
theorem lk_275 : Cond.methodLink "ScanMachine$Memory" 18 ⟨"java/util/Arrays", "fill", "([II)V"⟩ ∈ TB := tb_at (lt_s2 35 rfl) rfl
set_option maxRecDepth 20000 in
theorem lk_278 : Cond.methodLink "ScanMachine$Memory" 24 ⟨"ScanMachine$Memory", "emptyStack", "()V"⟩ ∈ TB := tb_at (lt_s2 38 rfl) rfl
set_option maxRecDepth 20000 in
theorem lk_282 : Cond.methodLinkNest "ScanMachine" 69 ⟨"ScanMachine$Code", "forget", "()V"⟩ "ScanMachine" ∈ NWL := nw_at (lt_s2 42 rfl) rfl
set_option maxRecDepth 20000 in
theorem lk_286 : Cond.methodLink "ScanMachineLaw" 18 ⟨"ScanMachine", "unit", "(II)I"⟩ ∈ TB := tb_at (lt_s2 46 rfl) rfl
set_option maxRecDepth 20000 in
theorem lk_290 : Cond.methodLinkNest "ScanMachine" 72 ⟨"ScanMachine$Code", "hasRoomForUnit", "()Z"⟩ "ScanMachine" ∈ NWL := nw_at (lt_s2 50 rfl) rfl
set_option maxRecDepth 20000 in
theorem lk_294 : Cond.methodLinkNest "ScanMachine" 76 ⟨"ScanMachine$Code", "appendUnit", "(II)I"⟩ "ScanMachine" ∈ NWL := nw_at (lt_s2 54 rfl) rfl
set_option maxRecDepth 20000 in
theorem lk_298 : Cond.methodLink "ScanMachine$Code" 43 ⟨"ScanMachine$Code", "hasRoomForUnit", "()Z"⟩ ∈ TB := tb_at (lt_s2 58 rfl) rfl
set_option maxRecDepth 20000 in
theorem lk_299 : Cond.methodLink "ScanMachineLaw" 23 ⟨"ScanMachine", "add", "(IIII)I"⟩ ∈ TB := tb_at (lt_s2 59 rfl) rfl
set_option maxRecDepth 20000 in
theorem lk_303 : Cond.methodLinkNest "ScanMachine" 80 ⟨"ScanMachine$Code", "hasRoomForInstruction", "()Z"⟩ "ScanMachine" ∈ NWL := nw_at (lt_s2 63 rfl) rfl
set_option maxRecDepth 20000 in
theorem lk_307 : Cond.methodLinkNest "ScanMachine" 83 ⟨"ScanMachine$Code", "appendInstruction", "(IIII)I"⟩ "ScanMachine" ∈ NWL := nw_at (lt_s2 67 rfl) rfl
set_option maxRecDepth 20000 in
theorem lk_311 : Cond.methodLink "ScanMachine$Code" 47 ⟨"ScanMachine$Code", "hasRoomForInstruction", "()Z"⟩ ∈ TB := tb_at (lt_s2 71 rfl) rfl
set_option maxRecDepth 20000 in
theorem lk_312 : Cond.methodLink "ScanMachineLaw" 28 ⟨"ScanMachine", "start", "()I"⟩ ∈ TB := tb_at (lt_s2 72 rfl) rfl
set_option maxRecDepth 20000 in
theorem lk_316 : Cond.methodLinkNest "ScanMachine" 87 ⟨"ScanMachine$Code", "unitCount", "()I"⟩ "ScanMachine" ∈ NWL := nw_at (lt_s2 76 rfl) rfl
set_option maxRecDepth 20000 in
theorem lk_320 : Cond.methodLink "ScanMachine" 91 ⟨"ScanMachine", "firstFault", "(I)I"⟩ ∈ TB := tb_at (lt_s2 80 rfl) rfl
set_option maxRecDepth 20000 in
theorem lk_324 : Cond.methodLinkNest "ScanMachine" 142 ⟨"ScanMachine$Shape", "faultOf", "(II)I"⟩ "ScanMachine" ∈ NWL := nw_at (lt_s2 84 rfl) rfl
set_option maxRecDepth 20000 in
theorem lk_328 : Cond.methodLink "ScanMachine$Shape" 19 ⟨"ScanMachine$Shape", "isPlacedWrong", "(I)Z"⟩ ∈ TB := tb_at (lt_s2 88 rfl) rfl
set_option maxRecDepth 20000 in
theorem lk_332 : Cond.methodLinkNest "ScanMachine$Shape" 37 ⟨"ScanMachine$Code", "placeOf", "(I)I"⟩ "ScanMachine" ∈ NWL := nw_at (lt_s2 92 rfl) rfl
set_option maxRecDepth 20000 in
theorem lk_336 : Cond.methodLink "ScanMachine$Code" 50 ⟨"ScanMachine$Code", "hasUnit", "(I)Z"⟩ ∈ TB := tb_at (lt_s2 96 rfl) rfl
set_option maxRecDepth 20000 in
theorem lk_340 : Cond.methodLinkNest "ScanMachine$Shape" 40 ⟨"ScanMachine$Code", "frameOf", "(I)I"⟩ "ScanMachine" ∈ NWL := nw_at (lt_s2 100 rfl) rfl
set_option maxRecDepth 20000 in
theorem lk_344 : Cond.methodLinkNest "ScanMachine$Shape" 43 ⟨"ScanMachine$Code", "unitCount", "()I"⟩ "ScanMachine" ∈ NWL := nw_at (lt_s2 104 rfl) rfl
set_option maxRecDepth 20000 in
theorem lk_345 : Cond.methodLink "ScanMachine$Shape" 46 ⟨"ScanMachine$Shape", "meetsEarlierUnit", "(II)Z"⟩ ∈ TB := tb_at (lt_s2 105 rfl) rfl
set_option maxRecDepth 20000 in
theorem lk_349 : Cond.methodLink "ScanMachine$Shape" 50 ⟨"java/lang/Math", "max", "(II)I"⟩ ∈ TB := tb_at (lt_s2 109 rfl) rfl
set_option maxRecDepth 20000 in
theorem lk_352 : Cond.methodLink "ScanMachine$Shape" 56 ⟨"java/lang/Math", "min", "(II)I"⟩ ∈ TB := tb_at (lt_s2 112 rfl) rfl
set_option maxRecDepth 20000 in
theorem lk_355 : Cond.methodLinkNest "ScanMachine$Shape" 23 ⟨"ScanMachine$Code", "sizeOf", "(I)I"⟩ "ScanMachine" ∈ NWL := nw_at (lt_s2 115 rfl) rfl
set_option maxRecDepth 20000 in
theorem lk_359 : Cond.methodLink "ScanMachine$Shape" 29 ⟨"ScanMachine$Shape", "lookAt", "(I)V"⟩ ∈ TB := tb_at (lt_s2 119 rfl) rfl
set_option maxRecDepth 20000 in
theorem lk_363 : Cond.methodLinkNest "ScanMachine$Shape" 62 ⟨"ScanMachine$Code", "numberAt", "(II)I"⟩ "ScanMachine" ∈ NWL := nw_at (lt_s2 123 rfl) rfl
set_option maxRecDepth 20000 in
theorem lk_367 : Cond.methodLink "ScanMachine$Code" 54 ⟨"ScanMachine$Code", "entry", "([III)I"⟩ ∈ TB := tb_at (lt_s2 127 rfl) rfl
set_option maxRecDepth 20000 in
theorem lk_371 : Cond.methodLinkNest "ScanMachine$Shape" 68 ⟨"ScanMachine$Code", "aAt", "(II)I"⟩ "ScanMachine" ∈ NWL := nw_at (lt_s2 131 rfl) rfl
set_option maxRecDepth 20000 in
theorem lk_375 : Cond.methodLinkNest "ScanMachine$Shape" 74 ⟨"ScanMachine$Code", "bAt", "(II)I"⟩ "ScanMachine" ∈ NWL := nw_at (lt_s2 135 rfl) rfl
set_option maxRecDepth 20000 in
theorem lk_379 : Cond.methodLinkNest "ScanMachine$Shape" 80 ⟨"ScanMachine$Code", "cAt", "(II)I"⟩ "ScanMachine" ∈ NWL := nw_at (lt_s2 139 rfl) rfl
set_option maxRecDepth 20000 in
theorem lk_383 : Cond.methodLink "ScanMachine$Shape" 33 ⟨"ScanMachine$Shape", "faultHere", "()I"⟩ ∈ TB := tb_at (lt_s2 143 rfl) rfl
set_option maxRecDepth 20000 in
theorem lk_387 : Cond.methodLink "ScanMachine$Shape" 86 ⟨"ScanMachine$Shape", "isInstruction", "()Z"⟩ ∈ TB := tb_at (lt_s2 147 rfl) rfl
set_option maxRecDepth 20000 in
theorem lk_391 : Cond.constant "ScanMachine$Shape" 102 (1000000) ∈ TB := tb_at (lt_s2 151 rfl) rfl
set_option maxRecDepth 20000 in
theorem lk_392 : Cond.methodLink "ScanMachine$Shape" 90 ⟨"ScanMachine$Shape", "namesWrongUnit", "()Z"⟩ ∈ TB := tb_at (lt_s2 152 rfl) rfl
set_option maxRecDepth 20000 in
theorem lk_396 : Cond.methodLink "ScanMachine$Shape" 93 ⟨"ScanMachine$Shape", "leavesFrame", "()Z"⟩ ∈ TB := tb_at (lt_s2 156 rfl) rfl
set_option maxRecDepth 20000 in
theorem lk_400 : Cond.methodLink "ScanMachine$Shape" 103 ⟨"ScanMachine$Shape", "howManyCells", "()I"⟩ ∈ TB := tb_at (lt_s2 160 rfl) rfl
set_option maxRecDepth 20000 in
theorem lk_404 : Cond.methodLink "ScanMachine$Shape" 106 ⟨"ScanMachine$Shape", "firstCell", "()I"⟩ ∈ TB := tb_at (lt_s2 164 rfl) rfl
set_option maxRecDepth 20000 in
theorem lk_408 : Cond.methodLink "ScanMachine$Shape" 109 ⟨"ScanMachine$Shape", "ownerOfCells", "()I"⟩ ∈ TB := tb_at (lt_s2 168 rfl) rfl
set_option maxRecDepth 20000 in
theorem lk_412 : Cond.methodLink "ScanMachine$Shape" 96 ⟨"ScanMachine$Shape", "touchesCounter", "()Z"⟩ ∈ TB := tb_at (lt_s2 172 rfl) rfl
set_option maxRecDepth 20000 in
theorem lk_416 : Cond.methodLink "ScanMachine$Shape" 99 ⟨"ScanMachine$Shape", "goesWrongWay", "()Z"⟩ ∈ TB := tb_at (lt_s2 176 rfl) rfl
set_option maxRecDepth 20000 in
theorem lk_420 : Cond.methodLinkNest "ScanMachine" 145 ⟨"ScanMachine$Loops", "faultOf", "(I)I"⟩ "ScanMachine" ∈ NWL := nw_at (lt_s2 180 rfl) rfl
set_option maxRecDepth 20000 in
theorem lk_424 : Cond.methodLink "ScanMachine$Loops" 23 ⟨"ScanMachine$Loops", "gatherLoops", "()V"⟩ ∈ TB := tb_at (lt_s2 184 rfl) rfl
set_option maxRecDepth 20000 in
theorem lk_428 : Cond.methodLinkNest "ScanMachine$Loops" 26 ⟨"ScanMachine$Code", "sizeOf", "(I)I"⟩ "ScanMachine" ∈ NWL := nw_at (lt_s2 188 rfl) rfl
set_option maxRecDepth 20000 in
theorem lk_429 : Cond.methodLinkNest "ScanMachine$Loops" 39 ⟨"ScanMachine$Code", "numberAt", "(II)I"⟩ "ScanMachine" ∈ NWL := nw_at (lt_s2 189 rfl) rfl
set_option maxRecDepth 20000 in
theorem lk_430 : Cond.methodLink "ScanMachine$Loops" 32 ⟨"ScanMachine$Loops", "isWrong", "(I)Z"⟩ ∈ TB := tb_at (lt_s2 190 rfl) rfl
set_option maxRecDepth 20000 in
theorem lk_434 : Cond.methodLink "ScanMachine$Loops" 43 ⟨"ScanMachine$Loops", "isWrongCount", "(I)Z"⟩ ∈ TB := tb_at (lt_s2 194 rfl) rfl
set_option maxRecDepth 20000 in
theorem lk_438 : Cond.methodLinkNest "ScanMachine$Loops" 52 ⟨"ScanMachine$Code", "aAt", "(II)I"⟩ "ScanMachine" ∈ NWL := nw_at (lt_s2 198 rfl) rfl
set_option maxRecDepth 20000 in
theorem lk_439 : Cond.methodLink "ScanMachine$Loops" 59 ⟨"ScanMachine$Loops", "isIn", "(II)Z"⟩ ∈ TB := tb_at (lt_s2 199 rfl) rfl
set_option maxRecDepth 20000 in
theorem lk_443 : Cond.methodLinkNest "ScanMachine$Loops" 62 ⟨"ScanMachine$Code", "bAt", "(II)I"⟩ "ScanMachine" ∈ NWL := nw_at (lt_s2 203 rfl) rfl
set_option maxRecDepth 20000 in
theorem lk_444 : Cond.methodLink "ScanMachine$Loops" 46 ⟨"ScanMachine$Loops", "isWrongNext", "(I)Z"⟩ ∈ TB := tb_at (lt_s2 204 rfl) rfl
set_option maxRecDepth 20000 in
theorem lk_448 : Cond.methodLink "ScanMachine$Loops" 49 ⟨"ScanMachine$Loops", "isWrongBack", "(I)Z"⟩ ∈ TB := tb_at (lt_s2 208 rfl) rfl
set_option maxRecDepth 20000 in
theorem lk_452 : Cond.methodLink "ScanMachine$Loops" 55 ⟨"ScanMachine$Loops", "goesIntoLoop", "(II)Z"⟩ ∈ TB := tb_at (lt_s2 212 rfl) rfl
set_option maxRecDepth 20000 in
theorem lk_456 : Cond.methodLinkNest "ScanMachine" 147 ⟨"ScanMachine$Depths", "faultOf", "(I)I"⟩ "ScanMachine" ∈ NWL := nw_at (lt_s2 216 rfl) rfl
set_option maxRecDepth 20000 in
theorem lk_460 : Cond.methodLinkNest "ScanMachine$Depths" 19 ⟨"ScanMachine$Code", "sizeOf", "(I)I"⟩ "ScanMachine" ∈ NWL := nw_at (lt_s2 220 rfl) rfl
set_option maxRecDepth 20000 in
theorem lk_461 : Cond.methodLink "ScanMachine$Depths" 25 ⟨"java/util/Arrays", "fill", "([II)V"⟩ ∈ TB := tb_at (lt_s2 221 rfl) rfl
set_option maxRecDepth 20000 in
theorem lk_462 : Cond.methodLink "ScanMachine$Depths" 31 ⟨"ScanMachine$Depths", "faultAt", "(III)I"⟩ ∈ TB := tb_at (lt_s2 222 rfl) rfl
set_option maxRecDepth 20000 in
theorem lk_466 : Cond.methodLinkNest "ScanMachine$Depths" 35 ⟨"ScanMachine$Code", "numberAt", "(II)I"⟩ "ScanMachine" ∈ NWL := nw_at (lt_s2 226 rfl) rfl
set_option maxRecDepth 20000 in
theorem lk_467 : Cond.fieldLink "ScanMachine$Depths" 39 "ScanMachine$Depths" "TAKEN" "[I" ∈ TB := tb_at (lt_s2 227 rfl) rfl
set_option maxRecDepth 20000 in
theorem lk_469 : Cond.fieldLink "ScanMachine$Depths" 42 "ScanMachine$Depths" "LEFT" "[I" ∈ TB := tb_at (lt_s2 229 rfl) rfl
set_option maxRecDepth 20000 in
theorem lk_471 : Cond.methodLink "ScanMachine$Depths" 45 ⟨"ScanMachine$Depths", "agrees", "(II)Z"⟩ ∈ TB := tb_at (lt_s2 231 rfl) rfl
set_option maxRecDepth 20000 in
theorem lk_475 : Cond.methodLink "ScanMachine$Depths" 49 ⟨"ScanMachine$Depths", "targetOf", "(III)I"⟩ ∈ TB := tb_at (lt_s2 235 rfl) rfl
set_option maxRecDepth 20000 in
theorem lk_479 : Cond.methodLinkNest "ScanMachine$Depths" 52 ⟨"ScanMachine$Code", "aAt", "(II)I"⟩ "ScanMachine" ∈ NWL := nw_at (lt_s2 239 rfl) rfl
set_option maxRecDepth 20000 in
theorem lk_480 : Cond.methodLinkNest "ScanMachine$Depths" 55 ⟨"ScanMachine$Code", "bAt", "(II)I"⟩ "ScanMachine" ∈ NWL := nw_at (lt_s3 0 rfl) rfl
set_option maxRecDepth 20000 in
theorem lk_481 : Cond.methodLinkNest "ScanMachine" 148 ⟨"ScanMachine$Ways", "faultOf", "(I)I"⟩ "ScanMachine" ∈ NWL := nw_at (lt_s3 1 rfl) rfl
set_option maxRecDepth 20000 in
theorem lk_485 : Cond.methodLinkNest "ScanMachine$Ways" 29 ⟨"ScanMachine$Code", "sizeOf", "(I)I"⟩ "ScanMachine" ∈ NWL := nw_at (lt_s3 5 rfl) rfl
set_option maxRecDepth 20000 in
theorem lk_486 : Cond.methodLinkNest "ScanMachine$Ways" 35 ⟨"ScanMachine$Code", "numberAt", "(II)I"⟩ "ScanMachine" ∈ NWL := nw_at (lt_s3 6 rfl) rfl
set_option maxRecDepth 20000 in
theorem lk_487 : Cond.methodLinkNest "ScanMachine$Ways" 39 ⟨"ScanMachine$Code", "bAt", "(II)I"⟩ "ScanMachine" ∈ NWL := nw_at (lt_s3 7 rfl) rfl
set_option maxRecDepth 20000 in
theorem lk_488 : Cond.methodLink "ScanMachine$Ways" 42 ⟨"ScanMachine$Ways", "walk", "(II)V"⟩ ∈ TB := tb_at (lt_s3 8 rfl) rfl
set_option maxRecDepth 20000 in
theorem lk_492 : Cond.constantLong "ScanMachine$Ways" 46 (-1) ∈ TB := tb_at (lt_s3 12 rfl) rfl
set_option maxRecDepth 20000 in
theorem lk_493 : Cond.methodLink "ScanMachine$Ways" 55 ⟨"java/util/Arrays", "fill", "([JJ)V"⟩ ∈ TB := tb_at (lt_s3 13 rfl) rfl
set_option maxRecDepth 20000 in
theorem lk_496 : Cond.methodLink "ScanMachine$Ways" 61 ⟨"ScanMachine$Ways", "goOn", "(IJ)V"⟩ ∈ TB := tb_at (lt_s3 16 rfl) rfl
set_option maxRecDepth 20000 in
theorem lk_500 : Cond.methodLinkNest "ScanMachine$Ways" 65 ⟨"ScanMachine$Code", "aAt", "(II)I"⟩ "ScanMachine" ∈ NWL := nw_at (lt_s3 20 rfl) rfl
set_option maxRecDepth 20000 in
theorem lk_501 : Cond.methodLink "ScanMachine$Ways" 68 ⟨"ScanMachine$Ways", "reach", "(IJ)V"⟩ ∈ TB := tb_at (lt_s3 21 rfl) rfl
set_option maxRecDepth 20000 in
theorem lk_505 : Cond.constantLong "ScanMachine$Ways" 50 (1000000000) ∈ TB := tb_at (lt_s3 25 rfl) rfl
set_option maxRecDepth 20000 in
theorem lk_506 : Cond.constantLong "ScanMachine$Ways" 78 (1000000001) ∈ TB := tb_at (lt_s3 26 rfl) rfl
set_option maxRecDepth 20000 in
theorem lk_507 : Cond.methodLink "ScanMachine$Ways" 71 ⟨"ScanMachine$Ways", "passLoop", "(IJ)V"⟩ ∈ TB := tb_at (lt_s3 27 rfl) rfl
set_option maxRecDepth 20000 in
theorem lk_511 : Cond.methodLink "ScanMachine$Ways" 74 ⟨"ScanMachine$Ways", "stepsOf", "(I)J"⟩ ∈ TB := tb_at (lt_s3 31 rfl) rfl
set_option maxRecDepth 20000 in
theorem lk_515 : Cond.constantLong "ScanMachine$Ways" 48 (2) ∈ TB := tb_at (lt_s3 35 rfl) rfl
set_option maxRecDepth 20000 in
theorem lk_516 : Cond.methodLinkNest "ScanMachine" 95 ⟨"ScanMachine$Ways", "stepsOf", "(I)J"⟩ "ScanMachine" ∈ NWL := nw_at (lt_s3 36 rfl) rfl
set_option maxRecDepth 20000 in
theorem lk_517 : Cond.constantLong "ScanMachine" 99 (20000) ∈ TB := tb_at (lt_s3 37 rfl) rfl
set_option maxRecDepth 20000 in
theorem lk_518 : Cond.methodLink "ScanMachineLaw" 33 ⟨"ScanMachine", "scan", "(I)I"⟩ ∈ TB := tb_at (lt_s3 38 rfl) rfl
set_option maxRecDepth 20000 in
theorem lk_522 : Cond.constant "ScanMachine" 108 (100000000) ∈ TB := tb_at (lt_s3 42 rfl) rfl
set_option maxRecDepth 20000 in
theorem lk_523 : Cond.constant "ScanMachine" 109 (2000000000) ∈ TB := tb_at (lt_s3 43 rfl) rfl
set_option maxRecDepth 20000 in
theorem lk_524 : Cond.methodLinkNest "ScanMachine" 116 ⟨"ScanMachine$Runner", "run", "(I)I"⟩ "ScanMachine" ∈ NWL := nw_at (lt_s3 44 rfl) rfl
set_option maxRecDepth 20000 in
theorem lk_528 : Cond.methodLinkNest "ScanMachine$Runner" 42 ⟨"ScanMachine$Memory", "emptyStack", "()V"⟩ "ScanMachine" ∈ NWL := nw_at (lt_s3 48 rfl) rfl
set_option maxRecDepth 20000 in
theorem lk_529 : Cond.methodLinkNest "ScanMachine$Runner" 56 ⟨"ScanMachine$Code", "unitCount", "()I"⟩ "ScanMachine" ∈ NWL := nw_at (lt_s3 49 rfl) rfl
set_option maxRecDepth 20000 in
theorem lk_530 : Cond.constant "ScanMachine$Runner" 71 (40002) ∈ TB := tb_at (lt_s3 50 rfl) rfl
set_option maxRecDepth 20000 in
theorem lk_531 : Cond.methodLinkNest "ScanMachine$Runner" 72 ⟨"ScanMachine$Code", "sizeOf", "(I)I"⟩ "ScanMachine" ∈ NWL := nw_at (lt_s3 51 rfl) rfl
set_option maxRecDepth 20000 in
theorem lk_532 : Cond.methodLink "ScanMachine$Runner" 76 ⟨"ScanMachine$Runner", "step", "()V"⟩ ∈ TB := tb_at (lt_s3 52 rfl) rfl
set_option maxRecDepth 20000 in
theorem lk_536 : Cond.methodLinkNest "ScanMachine$Runner" 82 ⟨"ScanMachine$Code", "numberAt", "(II)I"⟩ "ScanMachine" ∈ NWL := nw_at (lt_s3 56 rfl) rfl
set_option maxRecDepth 20000 in
theorem lk_537 : Cond.methodLinkNest "ScanMachine$Runner" 86 ⟨"ScanMachine$Code", "aAt", "(II)I"⟩ "ScanMachine" ∈ NWL := nw_at (lt_s3 57 rfl) rfl
set_option maxRecDepth 20000 in
theorem lk_538 : Cond.methodLinkNest "ScanMachine$Runner" 89 ⟨"ScanMachine$Code", "bAt", "(II)I"⟩ "ScanMachine" ∈ NWL := nw_at (lt_s3 58 rfl) rfl
set_option maxRecDepth 20000 in
theorem lk_539 : Cond.methodLinkNest "ScanMachine$Runner" 92 ⟨"ScanMachine$Code", "cAt", "(II)I"⟩ "ScanMachine" ∈ NWL := nw_at (lt_s3 59 rfl) rfl
set_option maxRecDepth 20000 in
theorem lk_540 : Cond.methodLink "ScanMachine$Runner" 95 ⟨"ScanMachine$Runner", "move", "(IIII)V"⟩ ∈ TB := tb_at (lt_s3 60 rfl) rfl
set_option maxRecDepth 20000 in
theorem lk_544 : Cond.methodLinkNest "ScanMachine$Runner" 110 ⟨"ScanMachine$Memory", "push", "(I)V"⟩ "ScanMachine" ∈ NWL := nw_at (lt_s3 64 rfl) rfl
set_option maxRecDepth 20000 in
theorem lk_548 : Cond.methodLink "ScanMachine$Memory" 34 ⟨"java/lang/Math", "max", "(II)I"⟩ ∈ TB := tb_at (lt_s3 68 rfl) rfl
set_option maxRecDepth 20000 in
theorem lk_549 : Cond.methodLinkNest "ScanMachine$Runner" 114 ⟨"ScanMachine$Memory", "cell", "(I)I"⟩ "ScanMachine" ∈ NWL := nw_at (lt_s3 69 rfl) rfl
set_option maxRecDepth 20000 in
theorem lk_553 : Cond.methodLinkNest "ScanMachine$Runner" 117 ⟨"ScanMachine$Memory", "pop", "()I"⟩ "ScanMachine" ∈ NWL := nw_at (lt_s3 73 rfl) rfl
set_option maxRecDepth 20000 in
theorem lk_557 : Cond.methodLinkNest "ScanMachine$Runner" 120 ⟨"ScanMachine$Memory", "change", "(II)V"⟩ "ScanMachine" ∈ NWL := nw_at (lt_s3 77 rfl) rfl
set_option maxRecDepth 20000 in
theorem lk_561 : Cond.methodLink "ScanMachine$Runner" 123 ⟨"ScanMachine$Runner", "take", "(III)V"⟩ ∈ TB := tb_at (lt_s3 81 rfl) rfl
set_option maxRecDepth 20000 in
theorem lk_565 : Cond.methodLink "ScanMachine$Runner" 126 ⟨"ScanMachine$Runner", "put", "(III)V"⟩ ∈ TB := tb_at (lt_s3 85 rfl) rfl
set_option maxRecDepth 20000 in
theorem lk_569 : Cond.methodLinkNest "ScanMachine$Runner" 129 ⟨"ScanMachine$Code", "placeOf", "(I)I"⟩ "ScanMachine" ∈ NWL := nw_at (lt_s3 89 rfl) rfl
set_option maxRecDepth 20000 in
theorem lk_570 : Cond.methodLink "ScanMachine$Runner" 99 ⟨"ScanMachine$Runner", "reckon", "(II)V"⟩ ∈ TB := tb_at (lt_s3 90 rfl) rfl
set_option maxRecDepth 20000 in
theorem lk_574 : Cond.methodLinkNest "ScanMachine$Runner" 132 ⟨"ScanMachine$Reckoning", "ofOne", "(II)I"⟩ "ScanMachine" ∈ NWL := nw_at (lt_s3 94 rfl) rfl
set_option maxRecDepth 20000 in
theorem lk_577 : Cond.methodLink "ScanMachine$Reckoning" 13 ⟨"ScanMachine$Reckoning", "narrow", "(I)I"⟩ ∈ TB := tb_at (lt_s3 97 rfl) rfl
set_option maxRecDepth 20000 in
theorem lk_580 : Cond.methodLink "ScanMachine$Reckoning" 23 ⟨"ScanMachine$Reckoning", "flag", "(Z)I"⟩ ∈ TB := tb_at (lt_s3 100 rfl) rfl
set_option maxRecDepth 20000 in
theorem lk_583 : Cond.methodLinkNest "ScanMachine$Runner" 137 ⟨"ScanMachine$Reckoning", "divides", "(I)Z"⟩ "ScanMachine" ∈ NWL := nw_at (lt_s3 103 rfl) rfl
set_option maxRecDepth 20000 in
theorem lk_586 : Cond.methodLinkNest "ScanMachine$Runner" 141 ⟨"ScanMachine$Reckoning", "ofTwo", "(III)I"⟩ "ScanMachine" ∈ NWL := nw_at (lt_s3 106 rfl) rfl
set_option maxRecDepth 20000 in
theorem lk_589 : Cond.methodLink "ScanMachine$Reckoning" 7 ⟨"ScanMachine$Reckoning", "ofArithmetic", "(III)I"⟩ ∈ TB := tb_at (lt_s3 109 rfl) rfl
set_option maxRecDepth 20000 in
theorem lk_592 : Cond.methodLink "ScanMachine$Reckoning" 17 ⟨"ScanMachine$Reckoning", "ofBitsAndOrder", "(III)I"⟩ ∈ TB := tb_at (lt_s3 112 rfl) rfl
set_option maxRecDepth 20000 in
theorem lk_595 : Cond.methodLink "ScanMachine$Reckoning" 20 ⟨"ScanMachine$Reckoning", "ofShifts", "(III)I"⟩ ∈ TB := tb_at (lt_s3 115 rfl) rfl
set_option maxRecDepth 20000 in
theorem lk_598 : Cond.constant "ScanMachine$Reckoning" 27 (65535) ∈ TB := tb_at (lt_s3 118 rfl) rfl
set_option maxRecDepth 20000 in
theorem lk_599 : Cond.methodLink "ScanMachine$Reckoning" 28 ⟨"java/lang/Math", "min", "(II)I"⟩ ∈ TB := tb_at (lt_s3 119 rfl) rfl
set_option maxRecDepth 20000 in
theorem lk_600 : Cond.methodLink "ScanMachine$Reckoning" 34 ⟨"java/lang/Math", "max", "(II)I"⟩ ∈ TB := tb_at (lt_s3 120 rfl) rfl
set_option maxRecDepth 20000 in
theorem lk_601 : Cond.methodLinkNest "ScanMachine$Runner" 103 ⟨"ScanMachine$Blocks", "run", "(III)V"⟩ "ScanMachine" ∈ NWL := nw_at (lt_s3 121 rfl) rfl
set_option maxRecDepth 20000 in
theorem lk_605 : Cond.methodLinkNest "ScanMachine$Blocks" 13 ⟨"ScanMachine$Memory", "cell", "(I)I"⟩ "ScanMachine" ∈ NWL := nw_at (lt_s3 125 rfl) rfl
set_option maxRecDepth 20000 in
theorem lk_606 : Cond.methodLink "ScanMachine$Blocks" 19 ⟨"ScanMachine$Blocks", "runTimer", "(IIZI)V"⟩ ∈ TB := tb_at (lt_s3 126 rfl) rfl
set_option maxRecDepth 20000 in
theorem lk_610 : Cond.methodLink "ScanMachine$Blocks" 42 ⟨"java/lang/Math", "max", "(II)I"⟩ ∈ TB := tb_at (lt_s3 130 rfl) rfl
set_option maxRecDepth 20000 in
theorem lk_611 : Cond.methodLink "ScanMachine$Blocks" 31 ⟨"ScanMachine$Blocks", "isSet", "(I)Z"⟩ ∈ TB := tb_at (lt_s3 131 rfl) rfl
set_option maxRecDepth 20000 in
theorem lk_615 : Cond.methodLink "ScanMachine$Blocks" 48 ⟨"java/lang/Math", "min", "(JJ)J"⟩ ∈ TB := tb_at (lt_s3 135 rfl) rfl
set_option maxRecDepth 20000 in
theorem lk_618 : Cond.methodLinkNest "ScanMachine$Blocks" 27 ⟨"ScanMachine$Memory", "change", "(II)V"⟩ "ScanMachine" ∈ NWL := nw_at (lt_s3 138 rfl) rfl
set_option maxRecDepth 20000 in
theorem lk_619 : Cond.methodLink "ScanMachine$Blocks" 23 ⟨"ScanMachine$Blocks", "putFlag", "(IZ)V"⟩ ∈ TB := tb_at (lt_s3 139 rfl) rfl
set_option maxRecDepth 20000 in
theorem lk_623 : Cond.methodLink "ScanMachine$Blocks" 52 ⟨"ScanMachine$Blocks", "runOffDelay", "(IZZII)V"⟩ ∈ TB := tb_at (lt_s3 143 rfl) rfl
set_option maxRecDepth 20000 in
theorem lk_627 : Cond.methodLink "ScanMachine$Blocks" 56 ⟨"ScanMachine$Blocks", "runPulse", "(IZZII)V"⟩ ∈ TB := tb_at (lt_s3 147 rfl) rfl
set_option maxRecDepth 20000 in
theorem lk_631 : Cond.methodLink "ScanMachine$Blocks" 35 ⟨"ScanMachine$Blocks", "runCounter", "(IIZ)V"⟩ ∈ TB := tb_at (lt_s3 151 rfl) rfl
set_option maxRecDepth 20000 in
theorem lk_635 : Cond.methodLink "ScanMachine$Blocks" 39 ⟨"ScanMachine$Blocks", "runLatch", "(IIZ)V"⟩ ∈ TB := tb_at (lt_s3 155 rfl) rfl
set_option maxRecDepth 20000 in
theorem lk_639 : Cond.methodLink "ScanMachine$Runner" 107 ⟨"ScanMachine$Runner", "go", "(III)V"⟩ ∈ TB := tb_at (lt_s3 159 rfl) rfl
set_option maxRecDepth 20000 in
theorem lk_643 : Cond.methodLink "ScanMachine$Runner" 145 ⟨"ScanMachine$Runner", "countDown", "(II)V"⟩ ∈ TB := tb_at (lt_s3 163 rfl) rfl
set_option maxRecDepth 20000 in
theorem lk_647 : Cond.methodLink "ScanMachine$Runner" 148 ⟨"ScanMachine$Runner", "descend", "(II)V"⟩ ∈ TB := tb_at (lt_s3 167 rfl) rfl
set_option maxRecDepth 20000 in
theorem lk_651 : Cond.methodLink "ScanMachine$Runner" 79 ⟨"ScanMachine$Runner", "goBack", "()V"⟩ ∈ TB := tb_at (lt_s3 171 rfl) rfl
set_option maxRecDepth 20000 in
theorem lk_655 : Cond.methodLink "ScanMachineLaw" 37 ⟨"ScanMachine", "set", "(II)I"⟩ ∈ TB := tb_at (lt_s3 175 rfl) rfl
set_option maxRecDepth 20000 in
theorem lk_659 : Cond.methodLink "ScanMachine" 122 ⟨"ScanMachine", "mayTouch", "(I)Z"⟩ ∈ TB := tb_at (lt_s3 179 rfl) rfl
set_option maxRecDepth 20000 in
theorem lk_663 : Cond.methodLinkNest "ScanMachine" 126 ⟨"ScanMachine$Memory", "cell", "(I)I"⟩ "ScanMachine" ∈ NWL := nw_at (lt_s3 183 rfl) rfl
set_option maxRecDepth 20000 in
theorem lk_664 : Cond.methodLinkNest "ScanMachine" 129 ⟨"ScanMachine$Memory", "change", "(II)V"⟩ "ScanMachine" ∈ NWL := nw_at (lt_s3 184 rfl) rfl
set_option maxRecDepth 20000 in
theorem lk_665 : Cond.methodLink "ScanMachineLaw" 41 ⟨"ScanMachine", "get", "(I)I"⟩ ∈ TB := tb_at (lt_s3 185 rfl) rfl
set_option maxRecDepth 20000 in
theorem lk_669 : Cond.methodLink "ScanMachineLaw" 45 ⟨"ScanMachine", "count", "(I)I"⟩ ∈ TB := tb_at (lt_s3 189 rfl) rfl
set_option maxRecDepth 20000 in
theorem lk_673 : Cond.classLink "ScanMachineLaw" 10 "ScanMachineModel" ∈ TB := tb_at (lt_s3 193 rfl) rfl
set_option maxRecDepth 20000 in
theorem lk_674 : Cond.instantiable "ScanMachineModel" 28 ∈ TB := tb_at (lt_s3 194 rfl) rfl
set_option maxRecDepth 20000 in
theorem lk_675 : Cond.methodLink "ScanMachineLaw" 12 ⟨"ScanMachineModel", "<init>", "()V"⟩ ∈ TB := tb_at (lt_s3 195 rfl) rfl
set_option maxRecDepth 20000 in
theorem lk_678 : Cond.methodLink "ScanMachineModel" 1 ⟨"java/lang/Object", "<init>", "()V"⟩ ∈ TB := tb_at (lt_s3 198 rfl) rfl
set_option maxRecDepth 20000 in
theorem lk_679 : Cond.methodLink "ScanMachineModel" 59 ⟨"ScanMachineModel", "begin", "(I)I"⟩ ∈ TB := tb_at (lt_s3 199 rfl) rfl
set_option maxRecDepth 20000 in
theorem lk_683 : Cond.methodLink "ScanMachineModel" 83 ⟨"ScanMachineModel", "stop", "()V"⟩ ∈ TB := tb_at (lt_s3 203 rfl) rfl
set_option maxRecDepth 20000 in
theorem lk_687 : Cond.fieldLink "ScanMachineModel" 86 "ScanMachineModel" "size" "I" ∈ TB := tb_at (lt_s3 207 rfl) rfl
set_option maxRecDepth 20000 in
theorem lk_688 : Cond.fieldLink "ScanMachineModel" 7 "ScanMachineModel" "cells" "[I" ∈ TB := tb_at (lt_s3 208 rfl) rfl
set_option maxRecDepth 20000 in
theorem lk_689 : Cond.fieldLink "ScanMachineModel" 89 "ScanMachineModel" "units" "I" ∈ TB := tb_at (lt_s3 209 rfl) rfl
set_option maxRecDepth 20000 in
theorem lk_690 : Cond.fieldLink "ScanMachineModel" 13 "ScanMachineModel" "frames" "[I" ∈ TB := tb_at (lt_s3 210 rfl) rfl
set_option maxRecDepth 20000 in
theorem lk_691 : Cond.fieldLink "ScanMachineModel" 16 "ScanMachineModel" "places" "[I" ∈ TB := tb_at (lt_s3 211 rfl) rfl
set_option maxRecDepth 20000 in
theorem lk_692 : Cond.fieldLink "ScanMachineModel" 19 "ScanMachineModel" "firsts" "[I" ∈ TB := tb_at (lt_s3 212 rfl) rfl
set_option maxRecDepth 20000 in
theorem lk_693 : Cond.fieldLink "ScanMachineModel" 92 "ScanMachineModel" "total" "I" ∈ TB := tb_at (lt_s3 213 rfl) rfl
set_option maxRecDepth 20000 in
theorem lk_694 : Cond.fieldLink "ScanMachineModel" 22 "ScanMachineModel" "numbers" "[I" ∈ TB := tb_at (lt_s3 214 rfl) rfl
set_option maxRecDepth 20000 in
theorem lk_695 : Cond.fieldLink "ScanMachineModel" 25 "ScanMachineModel" "as" "[I" ∈ TB := tb_at (lt_s3 215 rfl) rfl
set_option maxRecDepth 20000 in
theorem lk_696 : Cond.fieldLink "ScanMachineModel" 28 "ScanMachineModel" "bs" "[I" ∈ TB := tb_at (lt_s3 216 rfl) rfl
set_option maxRecDepth 20000 in
theorem lk_697 : Cond.fieldLink "ScanMachineModel" 31 "ScanMachineModel" "cs" "[I" ∈ TB := tb_at (lt_s3 217 rfl) rfl
set_option maxRecDepth 20000 in
theorem lk_698 : Cond.fieldLink "ScanMachineModel" 124 "ScanMachineModel" "from" "I" ∈ TB := tb_at (lt_s3 218 rfl) rfl
set_option maxRecDepth 20000 in
theorem lk_699 : Cond.fieldLink "ScanMachineModel" 130 "ScanMachineModel" "many" "I" ∈ TB := tb_at (lt_s3 219 rfl) rfl
set_option maxRecDepth 20000 in
theorem lk_700 : Cond.fieldLink "ScanMachineModel" 34 "ScanMachineModel" "depths" "[I" ∈ TB := tb_at (lt_s3 220 rfl) rfl
set_option maxRecDepth 20000 in
theorem lk_701 : Cond.fieldLink "ScanMachineModel" 37 "ScanMachineModel" "ways" "[J" ∈ TB := tb_at (lt_s3 221 rfl) rfl
set_option maxRecDepth 20000 in
theorem lk_702 : Cond.fieldLink "ScanMachineModel" 41 "ScanMachineModel" "rounds" "[J" ∈ TB := tb_at (lt_s3 222 rfl) rfl
set_option maxRecDepth 20000 in
theorem lk_703 : Cond.fieldLink "ScanMachineModel" 44 "ScanMachineModel" "steps" "[J" ∈ TB := tb_at (lt_s3 223 rfl) rfl
set_option maxRecDepth 20000 in
theorem lk_704 : Cond.fieldLink "ScanMachineModel" 63 "ScanMachineModel" "runs" "Z" ∈ TB := tb_at (lt_s3 224 rfl) rfl
set_option maxRecDepth 20000 in
theorem lk_705 : Cond.fieldLink "ScanMachineModel" 67 "ScanMachineModel" "now" "I" ∈ TB := tb_at (lt_s3 225 rfl) rfl
set_option maxRecDepth 20000 in
theorem lk_706 : Cond.fieldLink "ScanMachineModel" 71 "ScanMachineModel" "lastSteps" "I" ∈ TB := tb_at (lt_s3 226 rfl) rfl
set_option maxRecDepth 20000 in
theorem lk_707 : Cond.fieldLink "ScanMachineModel" 74 "ScanMachineModel" "scans" "I" ∈ TB := tb_at (lt_s3 227 rfl) rfl
set_option maxRecDepth 20000 in
theorem lk_708 : Cond.fieldLink "ScanMachineModel" 77 "ScanMachineModel" "faults" "I" ∈ TB := tb_at (lt_s3 228 rfl) rfl
set_option maxRecDepth 20000 in
theorem lk_709 : Cond.fieldLink "ScanMachineModel" 80 "ScanMachineModel" "deepest" "I" ∈ TB := tb_at (lt_s3 229 rfl) rfl
set_option maxRecDepth 20000 in
theorem lk_710 : Cond.fieldLink "ScanMachineModel" 47 "ScanMachineModel" "stack" "[I" ∈ TB := tb_at (lt_s3 230 rfl) rfl
set_option maxRecDepth 20000 in
theorem lk_711 : Cond.fieldLink "ScanMachineModel" 218 "ScanMachineModel" "depth" "I" ∈ TB := tb_at (lt_s3 231 rfl) rfl
set_option maxRecDepth 20000 in
theorem lk_712 : Cond.fieldLink "ScanMachineModel" 50 "ScanMachineModel" "unitOf" "[I" ∈ TB := tb_at (lt_s3 232 rfl) rfl
set_option maxRecDepth 20000 in
theorem lk_713 : Cond.fieldLink "ScanMachineModel" 53 "ScanMachineModel" "baseOf" "[I" ∈ TB := tb_at (lt_s3 233 rfl) rfl
set_option maxRecDepth 20000 in
theorem lk_714 : Cond.fieldLink "ScanMachineModel" 56 "ScanMachineModel" "nextOf" "[I" ∈ TB := tb_at (lt_s3 234 rfl) rfl
set_option maxRecDepth 20000 in
theorem lk_772 : Cond.methodLink "ScanMachineLaw" 17 ⟨"ScanMachineModel", "begin", "(I)I"⟩ ∈ TB := tb_at (lt_s4 52 rfl) rfl
set_option maxRecDepth 20000 in
theorem lk_773 : Cond.methodLink "ScanMachineLaw" 22 ⟨"ScanMachineModel", "unit", "(II)I"⟩ ∈ TB := tb_at (lt_s4 53 rfl) rfl
set_option maxRecDepth 20000 in
theorem lk_777 : Cond.methodLink "ScanMachineLaw" 27 ⟨"ScanMachineModel", "add", "(IIII)I"⟩ ∈ TB := tb_at (lt_s4 57 rfl) rfl
set_option maxRecDepth 20000 in
theorem lk_781 : Cond.methodLink "ScanMachineLaw" 32 ⟨"ScanMachineModel", "start", "()I"⟩ ∈ TB := tb_at (lt_s4 61 rfl) rfl
set_option maxRecDepth 20000 in
theorem lk_785 : Cond.methodLink "ScanMachineModel" 213 ⟨"ScanMachineModel", "unitFault", "(I)I"⟩ ∈ TB := tb_at (lt_s4 65 rfl) rfl
set_option maxRecDepth 20000 in
theorem lk_789 : Cond.methodLink "ScanMachineModel" 194 ⟨"ScanMachineModel", "placeIsWrong", "(I)Z"⟩ ∈ TB := tb_at (lt_s4 69 rfl) rfl
set_option maxRecDepth 20000 in
theorem lk_793 : Cond.methodLink "ScanMachineModel" 197 ⟨"ScanMachineModel", "lineFault", "(II)I"⟩ ∈ TB := tb_at (lt_s4 73 rfl) rfl
set_option maxRecDepth 20000 in
theorem lk_797 : Cond.methodLink "ScanMachineModel" 133 ⟨"ScanMachineModel", "isWrongNumber", "(I)Z"⟩ ∈ TB := tb_at (lt_s4 77 rfl) rfl
set_option maxRecDepth 20000 in
theorem lk_801 : Cond.constantLong "ScanMachineModel" 95 (24) ∈ TB := tb_at (lt_s4 81 rfl) rfl
set_option maxRecDepth 20000 in
theorem lk_802 : Cond.methodLink "ScanMachineModel" 97 ⟨"ScanMachineModel", "isIn", "(JJJ)Z"⟩ ∈ TB := tb_at (lt_s4 82 rfl) rfl
set_option maxRecDepth 20000 in
theorem lk_805 : Cond.constantLong "ScanMachineModel" 101 (7) ∈ TB := tb_at (lt_s4 85 rfl) rfl
set_option maxRecDepth 20000 in
theorem lk_806 : Cond.constantLong "ScanMachineModel" 103 (1000000) ∈ TB := tb_at (lt_s4 86 rfl) rfl
set_option maxRecDepth 20000 in
theorem lk_807 : Cond.constantLong "ScanMachineModel" 105 (8) ∈ TB := tb_at (lt_s4 87 rfl) rfl
set_option maxRecDepth 20000 in
theorem lk_808 : Cond.constantLong "ScanMachineModel" 107 (18) ∈ TB := tb_at (lt_s4 88 rfl) rfl
set_option maxRecDepth 20000 in
theorem lk_809 : Cond.methodLink "ScanMachineModel" 136 ⟨"ScanMachineModel", "isWrongUnit", "(II)Z"⟩ ∈ TB := tb_at (lt_s4 89 rfl) rfl
set_option maxRecDepth 20000 in
theorem lk_813 : Cond.methodLink "ScanMachineModel" 109 ⟨"ScanMachineModel", "namesUnit", "(I)Z"⟩ ∈ TB := tb_at (lt_s4 93 rfl) rfl
set_option maxRecDepth 20000 in
theorem lk_817 : Cond.methodLink "ScanMachineModel" 140 ⟨"ScanMachineModel", "isWrongCell", "(II)Z"⟩ ∈ TB := tb_at (lt_s4 97 rfl) rfl
set_option maxRecDepth 20000 in
theorem lk_821 : Cond.methodLink "ScanMachineModel" 113 ⟨"ScanMachineModel", "cellsOf", "(I)I"⟩ ∈ TB := tb_at (lt_s4 101 rfl) rfl
set_option maxRecDepth 20000 in
theorem lk_825 : Cond.methodLink "ScanMachineModel" 116 ⟨"ScanMachineModel", "firstCell", "(I)J"⟩ ∈ TB := tb_at (lt_s4 105 rfl) rfl
set_option maxRecDepth 20000 in
theorem lk_829 : Cond.methodLink "ScanMachineModel" 143 ⟨"ScanMachineModel", "touchesCounter", "(II)Z"⟩ ∈ TB := tb_at (lt_s4 109 rfl) rfl
set_option maxRecDepth 20000 in
theorem lk_833 : Cond.methodLink "ScanMachineModel" 120 ⟨"ScanMachineModel", "isCounter", "(IJ)Z"⟩ ∈ TB := tb_at (lt_s4 113 rfl) rfl
set_option maxRecDepth 20000 in
theorem lk_837 : Cond.methodLink "ScanMachineModel" 146 ⟨"ScanMachineModel", "goesWrong", "(I)Z"⟩ ∈ TB := tb_at (lt_s4 117 rfl) rfl
set_option maxRecDepth 20000 in
theorem lk_841 : Cond.methodLink "ScanMachineModel" 127 ⟨"ScanMachineModel", "numberAt", "(I)I"⟩ ∈ TB := tb_at (lt_s4 121 rfl) rfl
set_option maxRecDepth 20000 in
theorem lk_845 : Cond.methodLink "ScanMachineModel" 201 ⟨"ScanMachineModel", "isWrongLoop", "(I)Z"⟩ ∈ TB := tb_at (lt_s4 125 rfl) rfl
set_option maxRecDepth 20000 in
theorem lk_849 : Cond.methodLink "ScanMachineModel" 152 ⟨"ScanMachineModel", "hasSame", "(III)Z"⟩ ∈ TB := tb_at (lt_s4 129 rfl) rfl
set_option maxRecDepth 20000 in
theorem lk_853 : Cond.methodLink "ScanMachineModel" 156 ⟨"ScanMachineModel", "isInLoop", "(II)Z"⟩ ∈ TB := tb_at (lt_s4 133 rfl) rfl
set_option maxRecDepth 20000 in
theorem lk_857 : Cond.methodLink "ScanMachineModel" 149 ⟨"ScanMachineModel", "lastOf", "(I)I"⟩ ∈ TB := tb_at (lt_s4 137 rfl) rfl
set_option maxRecDepth 20000 in
theorem lk_861 : Cond.methodLink "ScanMachineModel" 204 ⟨"ScanMachineModel", "stackFault", "(I)I"⟩ ∈ TB := tb_at (lt_s4 141 rfl) rfl
set_option maxRecDepth 20000 in
theorem lk_865 : Cond.methodLink "ScanMachineModel" 159 ⟨"ScanMachineModel", "taken", "(I)I"⟩ ∈ TB := tb_at (lt_s4 145 rfl) rfl
set_option maxRecDepth 20000 in
theorem lk_868 : Cond.methodLink "ScanMachineModel" 162 ⟨"ScanMachineModel", "left", "(I)I"⟩ ∈ TB := tb_at (lt_s4 148 rfl) rfl
set_option maxRecDepth 20000 in
theorem lk_871 : Cond.methodLink "ScanMachineModel" 165 ⟨"ScanMachineModel", "comes", "(II)Z"⟩ ∈ TB := tb_at (lt_s4 151 rfl) rfl
set_option maxRecDepth 20000 in
theorem lk_875 : Cond.methodLink "ScanMachineModel" 207 ⟨"ScanMachineModel", "stepsOf", "()J"⟩ ∈ TB := tb_at (lt_s4 155 rfl) rfl
set_option maxRecDepth 20000 in
theorem lk_879 : Cond.methodLink "ScanMachineModel" 191 ⟨"ScanMachineModel", "way", "(II)J"⟩ ∈ TB := tb_at (lt_s4 159 rfl) rfl
set_option maxRecDepth 20000 in
theorem lk_883 : Cond.methodLink "ScanMachineModel" 176 ⟨"ScanMachineModel", "wayTo", "(II)J"⟩ ∈ TB := tb_at (lt_s4 163 rfl) rfl
set_option maxRecDepth 20000 in
theorem lk_887 : Cond.constantLong "ScanMachineModel" 170 (-1) ∈ TB := tb_at (lt_s4 167 rfl) rfl
set_option maxRecDepth 20000 in
theorem lk_888 : Cond.methodLink "ScanMachineModel" 180 ⟨"ScanMachineModel", "behind", "(JJ)J"⟩ ∈ TB := tb_at (lt_s4 168 rfl) rfl
set_option maxRecDepth 20000 in
theorem lk_891 : Cond.methodLink "ScanMachineModel" 172 ⟨"ScanMachineModel", "cut", "(J)J"⟩ ∈ TB := tb_at (lt_s4 171 rfl) rfl
set_option maxRecDepth 20000 in
theorem lk_894 : Cond.constantLong "ScanMachineModel" 168 (2000000000) ∈ TB := tb_at (lt_s4 174 rfl) rfl
set_option maxRecDepth 20000 in
theorem lk_895 : Cond.methodLink "ScanMachineModel" 184 ⟨"ScanMachineModel", "greater", "(JJ)J"⟩ ∈ TB := tb_at (lt_s4 175 rfl) rfl
set_option maxRecDepth 20000 in
theorem lk_898 : Cond.methodLink "ScanMachineModel" 187 ⟨"ScanMachineModel", "times", "(IJ)J"⟩ ∈ TB := tb_at (lt_s4 178 rfl) rfl
set_option maxRecDepth 20000 in
theorem lk_902 : Cond.constantLong "ScanMachineModel" 211 (1000000000) ∈ TB := tb_at (lt_s4 182 rfl) rfl
set_option maxRecDepth 20000 in
theorem lk_903 : Cond.constantLong "ScanMachineModel" 216 (20000) ∈ TB := tb_at (lt_s4 183 rfl) rfl
set_option maxRecDepth 20000 in
theorem lk_904 : Cond.methodLink "ScanMachineLaw" 36 ⟨"ScanMachineModel", "scan", "(I)I"⟩ ∈ TB := tb_at (lt_s4 184 rfl) rfl
set_option maxRecDepth 20000 in
theorem lk_908 : Cond.constant "ScanMachineModel" 239 (100000000) ∈ TB := tb_at (lt_s4 188 rfl) rfl
set_option maxRecDepth 20000 in
theorem lk_909 : Cond.methodLink "ScanMachineModel" 240 ⟨"ScanMachineModel", "act", "(II)I"⟩ ∈ TB := tb_at (lt_s4 189 rfl) rfl
set_option maxRecDepth 20000 in
theorem lk_913 : Cond.methodLink "ScanMachineModel" 243 ⟨"ScanMachineModel", "push", "(I)V"⟩ ∈ TB := tb_at (lt_s4 193 rfl) rfl
set_option maxRecDepth 20000 in
theorem lk_917 : Cond.methodLink "ScanMachineModel" 247 ⟨"ScanMachineModel", "pop", "()I"⟩ ∈ TB := tb_at (lt_s4 197 rfl) rfl
set_option maxRecDepth 20000 in
theorem lk_921 : Cond.methodLink "ScanMachineModel" 251 ⟨"ScanMachineModel", "index", "(III)I"⟩ ∈ TB := tb_at (lt_s4 201 rfl) rfl
set_option maxRecDepth 20000 in
theorem lk_925 : Cond.methodLink "ScanMachineModel" 255 ⟨"ScanMachineModel", "two", "(III)I"⟩ ∈ TB := tb_at (lt_s4 205 rfl) rfl
set_option maxRecDepth 20000 in
theorem lk_928 : Cond.methodLink "ScanMachineModel" 221 ⟨"ScanMachineModel", "w16", "(I)I"⟩ ∈ TB := tb_at (lt_s4 208 rfl) rfl
set_option maxRecDepth 20000 in
theorem lk_931 : Cond.methodLink "ScanMachineModel" 224 ⟨"ScanMachineModel", "truth", "(Z)I"⟩ ∈ TB := tb_at (lt_s4 211 rfl) rfl
set_option maxRecDepth 20000 in
theorem lk_934 : Cond.constant "ScanMachineModel" 228 (65535) ∈ TB := tb_at (lt_s4 214 rfl) rfl
set_option maxRecDepth 20000 in
theorem lk_935 : Cond.methodLink "ScanMachineModel" 258 ⟨"ScanMachineModel", "one", "(II)I"⟩ ∈ TB := tb_at (lt_s4 215 rfl) rfl
set_option maxRecDepth 20000 in
theorem lk_938 : Cond.methodLink "ScanMachineModel" 261 ⟨"ScanMachineModel", "block", "(II)V"⟩ ∈ TB := tb_at (lt_s4 218 rfl) rfl
set_option maxRecDepth 20000 in
theorem lk_942 : Cond.methodLink "ScanMachineModel" 232 ⟨"ScanMachineModel", "timer", "(II)V"⟩ ∈ TB := tb_at (lt_s4 222 rfl) rfl
set_option maxRecDepth 20000 in
theorem lk_946 : Cond.methodLink "ScanMachineModel" 229 ⟨"ScanMachineModel", "grown", "(II)I"⟩ ∈ TB := tb_at (lt_s4 226 rfl) rfl
set_option maxRecDepth 20000 in
theorem lk_950 : Cond.methodLink "ScanMachineModel" 236 ⟨"ScanMachineModel", "counter", "(II)V"⟩ ∈ TB := tb_at (lt_s4 230 rfl) rfl
set_option maxRecDepth 20000 in
theorem lk_954 : Cond.methodLink "ScanMachineLaw" 40 ⟨"ScanMachineModel", "set", "(II)I"⟩ ∈ TB := tb_at (lt_s4 234 rfl) rfl
set_option maxRecDepth 20000 in
theorem lk_958 : Cond.methodLink "ScanMachineLaw" 44 ⟨"ScanMachineModel", "get", "(I)I"⟩ ∈ TB := tb_at (lt_s4 238 rfl) rfl
set_option maxRecDepth 20000 in
theorem lk_962 : Cond.methodLink "ScanMachineLaw" 48 ⟨"ScanMachineModel", "count", "(I)I"⟩ ∈ TB := tb_at (lt_s5 2 rfl) rfl
