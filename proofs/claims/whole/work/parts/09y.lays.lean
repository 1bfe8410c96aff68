/-! the fields' words, class by class, by their places -/
def zlay0 : List Nat := [400, 402, 404, 406]
def zlay1 : List Nat := [238, 240, 242, 244, 246]
def zlay2 : List Nat := [426, 428, 430, 432, 434, 436, 438, 440, 442]
def zlay3 : List Nat := [375, 377, 379, 381, 383]
def zlay4 : List Nat := [300, 302, 304, 306, 308, 310, 312, 314, 316, 318, 320]
def zlay5 : List Nat := [188, 190, 192, 194, 196, 198, 200, 202, 204, 206, 208, 210, 212]
def zlay6 : List Nat := [344, 346, 348, 350, 352, 354, 356]
def zlay7 : List Nat := [460, 462, 464, 466, 468, 470, 472, 474, 476, 478, 480, 482, 484, 486]
def zlay8 : List Nat := [1179, 1181, 1183, 1185, 1187, 1189, 1191, 1193, 1195, 1197, 1199, 1201, 1203, 1205, 1207, 1209, 1211, 1213, 1215, 1217, 1219, 1221, 1223, 1225, 1227, 1229, 1231, 1233, 1235, 1237, 1239, 1241, 1243, 1245, 1247, 1249, 1251, 1253, 1255, 1257, 1259, 1261, 1263, 1265, 1267, 1269, 1271, 1273, 1275, 1277, 1279, 1281, 1283, 1285, 1287, 1289, 1291, 1293, 1295, 1297, 1299, 1301, 1303, 1305, 1307, 1309, 1311, 1313, 1315, 1317, 1319, 1321, 1323, 1325, 1327, 1329, 1331, 1333]
def zlay (c : Nat) : List Nat := match c with
  | 0 => zlay0
  | 1 => zlay1
  | 2 => zlay2
  | 3 => zlay3
  | 4 => zlay4
  | 5 => zlay5
  | 6 => zlay6
  | 7 => zlay7
  | _ => zlay8
set_option maxRecDepth 100000 in
theorem zlay_b0 : (List.range 4).all (fun k => zwd ((zlay 0).getD k 0) (u_lay (zcls 0).1 (zcls 0).2.1 k)) = true := by decide +kernel
set_option maxRecDepth 100000 in
theorem zlay_b1 : (List.range 5).all (fun k => zwd ((zlay 1).getD k 0) (u_lay (zcls 1).1 (zcls 1).2.1 k)) = true := by decide +kernel
set_option maxRecDepth 100000 in
theorem zlay_b2 : (List.range 9).all (fun k => zwd ((zlay 2).getD k 0) (u_lay (zcls 2).1 (zcls 2).2.1 k)) = true := by decide +kernel
set_option maxRecDepth 100000 in
theorem zlay_b3 : (List.range 5).all (fun k => zwd ((zlay 3).getD k 0) (u_lay (zcls 3).1 (zcls 3).2.1 k)) = true := by decide +kernel
set_option maxRecDepth 100000 in
theorem zlay_b4 : (List.range 11).all (fun k => zwd ((zlay 4).getD k 0) (u_lay (zcls 4).1 (zcls 4).2.1 k)) = true := by decide +kernel
set_option maxRecDepth 100000 in
theorem zlay_b5 : (List.range 13).all (fun k => zwd ((zlay 5).getD k 0) (u_lay (zcls 5).1 (zcls 5).2.1 k)) = true := by decide +kernel
set_option maxRecDepth 100000 in
theorem zlay_b6 : (List.range 7).all (fun k => zwd ((zlay 6).getD k 0) (u_lay (zcls 6).1 (zcls 6).2.1 k)) = true := by decide +kernel
set_option maxRecDepth 100000 in
theorem zlay_b7 : (List.range 14).all (fun k => zwd ((zlay 7).getD k 0) (u_lay (zcls 7).1 (zcls 7).2.1 k)) = true := by decide +kernel
set_option maxRecDepth 100000 in
theorem zlay_b8 : (List.range 78).all (fun k => zwd ((zlay 8).getD k 0) (u_lay (zcls 8).1 (zcls 8).2.1 k)) = true := by decide +kernel
/-- words of a class: can be made, is initialised -/
def zcw : List (Nat × Nat) := [(387, 109), (224, 106), (410, 110), (360, 108), (218, 105), (126, 100), (324, 107), (118, 99), (1096, 111)]
set_option maxRecDepth 100000 in
theorem zcw_b : (List.range 9).all (fun c => zwd (zcw.getD c (0, 0)).1 (.instantiable (zcls c).1 (zcls c).2.2) && zwd (zcw.getD c (0, 0)).2 (.initialized (zcls c).1)) = true := by decide +kernel
def ziw : List Nat := [109, 106, 110, 108, 105, 100, 107, 99, 111, 98, 115, 112, 114, 101, 102, 103]
set_option maxRecDepth 100000 in
theorem ziw_b : (List.range 16).all (fun c => zwd (ziw.getD c 0) (.initialized (zcn.getD c ""))) = true := by decide +kernel
set_option maxRecDepth 100000 in
theorem zac_b : zwd 249 (.arrayClass .int) && zwd 215 (.arrayClass .byte) && zwd 445 (.arrayClass .boolean) && zwd 216 (.arrayClass .long) = true := by decide +kernel
set_option maxRecDepth 100000 in
theorem zsy_b : zwd 771 (.native arraycopyName) && zwd 770 (.static arraycopyName) && zwd 116 (.initialized "java/lang/System") && zwd 123 (.instanceMethod Lib.objectInit) && zwd 124 (.code Lib.objectInit ⟨#[0xb1]⟩ 1 none) = true := by decide +kernel
def zgf2 : Nat := 140
def zgf3 : Nat := 148
set_option maxRecDepth 100000 in
theorem zst_b : zwd zgf2 (.fieldLink RJ0 38 RJ0 "COMPACT_STRINGS" "Z") && zwd zgf3 (.fieldLink RJ0 1053 RJ3 "SIOOBE_FORMATTER" "Ljava/util/function/BiFunction;") = true := by decide +kernel
