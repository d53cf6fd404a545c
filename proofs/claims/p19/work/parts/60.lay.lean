noncomputable section XNC
def yk0 : List yk := [.r 1, .r 9, .r 17, .r 22, .r 26, .r 29, .r 31, .r 33, .r 40, .r 42]
def yk1 : List yk := [.r 2, .r 3, .r 4, .r 5, .r 6, .r 7, .r 8, .i]
def yk9 : List yk := [.r 1, .r 10, .r 11, .r 12, .r 13, .r 14, .r 15, .r 16, .i]
def yk17 : List yk := [.r 1, .r 9, .r 18, .r 19, .r 20, .r 21, .i, .i, .i, .i, .i, .i, .i]
def yk22 : List yk := [.r 23, .r 24, .r 25, .i]
def yk26 : List yk := [.r 27, .r 28, .i, .i, .i, .l]
def yk29 : List yk := [.r 1, .r 9, .r 22, .r 26, .r 30, .l]
def yk31 : List yk := [.g 0, .i]
def yk33 : List yk := [.r 1, .r 9, .r 17, .r 22, .r 31, .r 34, .r 36, .i, .i, .i, .i, .i, .i, .i, .i, .i]
def yk34 : List yk := [.g 1, .i]
def yk36 : List yk := [.r 1, .r 31, .r 37, .g 2, .g 3, .i]
def yk40 : List yk := [.r 31, .g 4, .i, .i, .i, .i]
def yk43 : List yk := [.i, .i, .r 44, .r 45, .r 46, .r 47, .r 48, .r 49, .r 50, .r 51, .i, .r 52, .r 53, .r 54, .r 55, .r 56, .r 57, .r 58, .r 59, .i, .i, .i, .i, .r 60, .r 61, .r 62, .r 63, .r 64, .r 65, .r 66, .r 67, .i, .r 68, .i, .i, .i, .l, .l, .r 69, .r 70, .r 71, .r 72, .i, .i, .r 73, .r 74, .r 75, .r 76, .r 77, .i, .i, .i, .i, .i, .r 78, .r 79, .i, .i, .i, .r 80]
def LY : List yc := [.o 0 10 yk0, .o 1 8 yk1, .a 4 20, .a 10 20, .a 10 20, .a 10 20, .a 10 20, .a 10 20, .a 10 80, .o 2 9 yk9, .a 10 60, .a 10 60, .a 10 60, .a 10 60, .a 10 60, .a 10 60, .a 10 180, .o 3 13 yk17, .a 10 3, .a 10 20, .a 10 60, .a 10 60, .o 4 4 yk22, .a 10 24, .a 10 24, .a 10 24, .o 5 6 yk26, .a 10 4, .a 11 4, .o 6 6 yk29, .a 11 4, .o 7 2 yk31, .x, .o 8 16 yk33, .o 7 2 yk34, .x, .o 9 6 yk36, .a 10 64, .x, .x, .o 10 6 yk40, .x, .a 10 10, .o 11 60 yk43, .a 4 20, .a 4 20, .a 4 20, .a 4 20, .a 10 20, .a 10 20, .a 10 80, .a 10 20, .a 10 60, .a 10 60, .a 10 60, .a 10 60, .a 10 60, .a 10 180, .a 10 60, .a 10 10, .a 10 24, .a 10 24, .a 10 72, .a 10 24, .a 10 3, .a 4 24, .a 10 60, .a 4 60, .a 4 20, .a 10 4, .a 11 4, .a 10 24000, .a 10 24000, .a 10 1200, .a 10 1200, .a 10 1200, .a 10 24000, .a 10 200, .a 4 20, .a 10 400, .a 10 24002, .a 11 1]
theorem ly0 : LY[0]? = some (.o 0 10 yk0) := rfl
theorem ly1 : LY[1]? = some (.o 1 8 yk1) := rfl
theorem ly2 : LY[2]? = some (.a 4 20) := rfl
theorem ly3 : LY[3]? = some (.a 10 20) := rfl
theorem ly4 : LY[4]? = some (.a 10 20) := rfl
theorem ly5 : LY[5]? = some (.a 10 20) := rfl
theorem ly6 : LY[6]? = some (.a 10 20) := rfl
theorem ly7 : LY[7]? = some (.a 10 20) := rfl
theorem ly8 : LY[8]? = some (.a 10 80) := rfl
theorem ly9 : LY[9]? = some (.o 2 9 yk9) := rfl
theorem ly10 : LY[10]? = some (.a 10 60) := rfl
theorem ly11 : LY[11]? = some (.a 10 60) := rfl
theorem ly12 : LY[12]? = some (.a 10 60) := rfl
theorem ly13 : LY[13]? = some (.a 10 60) := rfl
theorem ly14 : LY[14]? = some (.a 10 60) := rfl
theorem ly15 : LY[15]? = some (.a 10 60) := rfl
theorem ly16 : LY[16]? = some (.a 10 180) := rfl
theorem ly17 : LY[17]? = some (.o 3 13 yk17) := rfl
theorem ly18 : LY[18]? = some (.a 10 3) := rfl
theorem ly19 : LY[19]? = some (.a 10 20) := rfl
theorem ly20 : LY[20]? = some (.a 10 60) := rfl
theorem ly21 : LY[21]? = some (.a 10 60) := rfl
theorem ly22 : LY[22]? = some (.o 4 4 yk22) := rfl
theorem ly23 : LY[23]? = some (.a 10 24) := rfl
theorem ly24 : LY[24]? = some (.a 10 24) := rfl
theorem ly25 : LY[25]? = some (.a 10 24) := rfl
theorem ly26 : LY[26]? = some (.o 5 6 yk26) := rfl
theorem ly27 : LY[27]? = some (.a 10 4) := rfl
theorem ly28 : LY[28]? = some (.a 11 4) := rfl
theorem ly29 : LY[29]? = some (.o 6 6 yk29) := rfl
theorem ly30 : LY[30]? = some (.a 11 4) := rfl
theorem ly31 : LY[31]? = some (.o 7 2 yk31) := rfl
theorem ly33 : LY[33]? = some (.o 8 16 yk33) := rfl
theorem ly34 : LY[34]? = some (.o 7 2 yk34) := rfl
theorem ly36 : LY[36]? = some (.o 9 6 yk36) := rfl
theorem ly37 : LY[37]? = some (.a 10 64) := rfl
theorem ly40 : LY[40]? = some (.o 10 6 yk40) := rfl
theorem ly42 : LY[42]? = some (.a 10 10) := rfl
theorem ly43 : LY[43]? = some (.o 11 60 yk43) := rfl
theorem ly44 : LY[44]? = some (.a 4 20) := rfl
theorem ly45 : LY[45]? = some (.a 4 20) := rfl
theorem ly46 : LY[46]? = some (.a 4 20) := rfl
theorem ly47 : LY[47]? = some (.a 4 20) := rfl
theorem ly48 : LY[48]? = some (.a 10 20) := rfl
theorem ly49 : LY[49]? = some (.a 10 20) := rfl
theorem ly50 : LY[50]? = some (.a 10 80) := rfl
theorem ly51 : LY[51]? = some (.a 10 20) := rfl
theorem ly52 : LY[52]? = some (.a 10 60) := rfl
theorem ly53 : LY[53]? = some (.a 10 60) := rfl
theorem ly54 : LY[54]? = some (.a 10 60) := rfl
theorem ly55 : LY[55]? = some (.a 10 60) := rfl
theorem ly56 : LY[56]? = some (.a 10 60) := rfl
theorem ly57 : LY[57]? = some (.a 10 180) := rfl
theorem ly58 : LY[58]? = some (.a 10 60) := rfl
theorem ly59 : LY[59]? = some (.a 10 10) := rfl
theorem ly60 : LY[60]? = some (.a 10 24) := rfl
theorem ly61 : LY[61]? = some (.a 10 24) := rfl
theorem ly62 : LY[62]? = some (.a 10 72) := rfl
theorem ly63 : LY[63]? = some (.a 10 24) := rfl
theorem ly64 : LY[64]? = some (.a 10 3) := rfl
theorem ly65 : LY[65]? = some (.a 4 24) := rfl
theorem ly66 : LY[66]? = some (.a 10 60) := rfl
theorem ly67 : LY[67]? = some (.a 4 60) := rfl
theorem ly68 : LY[68]? = some (.a 4 20) := rfl
theorem ly69 : LY[69]? = some (.a 10 4) := rfl
theorem ly70 : LY[70]? = some (.a 11 4) := rfl
theorem ly71 : LY[71]? = some (.a 10 24000) := rfl
theorem ly72 : LY[72]? = some (.a 10 24000) := rfl
theorem ly73 : LY[73]? = some (.a 10 1200) := rfl
theorem ly74 : LY[74]? = some (.a 10 1200) := rfl
theorem ly75 : LY[75]? = some (.a 10 1200) := rfl
theorem ly76 : LY[76]? = some (.a 10 24000) := rfl
theorem ly77 : LY[77]? = some (.a 10 200) := rfl
theorem ly78 : LY[78]? = some (.a 4 20) := rfl
theorem ly79 : LY[79]? = some (.a 10 400) := rfl
theorem ly80 : LY[80]? = some (.a 10 24002) := rfl
theorem ly81 : LY[81]? = some (.a 11 1) := rfl
end XNC
