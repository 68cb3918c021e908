set_option maxRecDepth 100000 in
theorem cm_0 : ((List.range 8).all (fun i => chkM (i + 1))) = true := by decide +kernel
set_option maxRecDepth 100000 in
theorem cm_1 : ((List.range 8).all (fun i => chkM (i + 9))) = true := by decide +kernel
set_option maxRecDepth 100000 in
theorem cm_2 : ((List.range 8).all (fun i => chkM (i + 17))) = true := by decide +kernel
set_option maxRecDepth 100000 in
theorem cm_3 : ((List.range 8).all (fun i => chkM (i + 25))) = true := by decide +kernel
set_option maxRecDepth 100000 in
theorem cm_4 : ((List.range 8).all (fun i => chkM (i + 33))) = true := by decide +kernel
set_option maxRecDepth 100000 in
theorem cm_5 : ((List.range 8).all (fun i => chkM (i + 41))) = true := by decide +kernel
set_option maxRecDepth 100000 in
theorem cm_6 : ((List.range 8).all (fun i => chkM (i + 49))) = true := by decide +kernel
set_option maxRecDepth 100000 in
theorem cm_7 : ((List.range 8).all (fun i => chkM (i + 57))) = true := by decide +kernel
set_option maxRecDepth 100000 in
theorem cm_8 : ((List.range 8).all (fun i => chkM (i + 65))) = true := by decide +kernel
set_option maxRecDepth 100000 in
theorem cm_9 : ((List.range 8).all (fun i => chkM (i + 73))) = true := by decide +kernel
set_option maxRecDepth 100000 in
theorem cm_10 : ((List.range 8).all (fun i => chkM (i + 81))) = true := by decide +kernel
set_option maxRecDepth 100000 in
theorem cm_11 : ((List.range 8).all (fun i => chkM (i + 89))) = true := by decide +kernel
set_option maxRecDepth 100000 in
theorem cm_12 : ((List.range 8).all (fun i => chkM (i + 97))) = true := by decide +kernel
set_option maxRecDepth 100000 in
theorem cm_13 : ((List.range 8).all (fun i => chkM (i + 105))) = true := by decide +kernel
set_option maxRecDepth 100000 in
theorem cm_14 : ((List.range 8).all (fun i => chkM (i + 113))) = true := by decide +kernel
set_option maxRecDepth 100000 in
theorem cm_15 : ((List.range 8).all (fun i => chkM (i + 121))) = true := by decide +kernel
set_option maxRecDepth 100000 in
theorem cm_16 : ((List.range 8).all (fun i => chkM (i + 129))) = true := by decide +kernel
set_option maxRecDepth 100000 in
theorem cm_17 : ((List.range 8).all (fun i => chkM (i + 137))) = true := by decide +kernel
set_option maxRecDepth 100000 in
theorem cm_18 : ((List.range 8).all (fun i => chkM (i + 145))) = true := by decide +kernel
set_option maxRecDepth 100000 in
theorem cm_19 : ((List.range 8).all (fun i => chkM (i + 153))) = true := by decide +kernel
set_option maxRecDepth 100000 in
theorem cm_20 : ((List.range 8).all (fun i => chkM (i + 161))) = true := by decide +kernel
set_option maxRecDepth 100000 in
theorem cm_21 : ((List.range 8).all (fun i => chkM (i + 169))) = true := by decide +kernel
set_option maxRecDepth 100000 in
theorem cm_22 : ((List.range 8).all (fun i => chkM (i + 177))) = true := by decide +kernel
set_option maxRecDepth 100000 in
theorem cm_23 : ((List.range 8).all (fun i => chkM (i + 185))) = true := by decide +kernel
set_option maxRecDepth 100000 in
theorem cm_24 : ((List.range 8).all (fun i => chkM (i + 193))) = true := by decide +kernel
set_option maxRecDepth 100000 in
theorem cm_25 : ((List.range 8).all (fun i => chkM (i + 201))) = true := by decide +kernel
set_option maxRecDepth 100000 in
theorem cm_26 : ((List.range 8).all (fun i => chkM (i + 209))) = true := by decide +kernel
set_option maxRecDepth 100000 in
theorem cm_27 : ((List.range 8).all (fun i => chkM (i + 217))) = true := by decide +kernel
set_option maxRecDepth 100000 in
theorem cm_28 : ((List.range 8).all (fun i => chkM (i + 225))) = true := by decide +kernel
set_option maxRecDepth 100000 in
theorem cm_29 : ((List.range 8).all (fun i => chkM (i + 233))) = true := by decide +kernel
set_option maxRecDepth 100000 in
theorem cm_30 : ((List.range 8).all (fun i => chkM (i + 241))) = true := by decide +kernel
set_option maxRecDepth 100000 in
theorem cm_31 : ((List.range 8).all (fun i => chkM (i + 249))) = true := by decide +kernel
set_option maxRecDepth 100000 in
theorem cm_32 : ((List.range 6).all (fun i => chkM (i + 257))) = true := by decide +kernel
