set_option maxRecDepth 100000 in
theorem vE_0 : K_0.all (okE (cB 0)) = true := by decide +kernel
set_option maxRecDepth 100000 in
theorem vE_1 : K_1.all (okE (cB 1)) = true := by decide +kernel
set_option maxRecDepth 100000 in
theorem vE_2 : K_2.all (okE (cB 2)) = true := by decide +kernel
set_option maxRecDepth 100000 in
theorem vE_3 : K_3.all (okE (cB 3)) = true := by decide +kernel
set_option maxRecDepth 100000 in
theorem vE_100 : K_100.all (okE (cB 100)) = true := by decide +kernel
set_option maxRecDepth 100000 in
theorem vE_101 : K_101.all (okE (cB 101)) = true := by decide +kernel
set_option maxRecDepth 100000 in
theorem vE_102 : K_102.all (okE (cB 102)) = true := by decide +kernel
set_option maxRecDepth 100000 in
theorem vE_103 : K_103.all (okE (cB 103)) = true := by decide +kernel
set_option maxRecDepth 100000 in
theorem vE_104 : K_104.all (okE (cB 104)) = true := by decide +kernel
set_option maxRecDepth 100000 in
theorem vE_105 : K_105.all (okE (cB 105)) = true := by decide +kernel
set_option maxRecDepth 100000 in
theorem vE_106 : K_106.all (okE (cB 106)) = true := by decide +kernel
set_option maxRecDepth 100000 in
theorem vE_107 : K_107.all (okE (cB 107)) = true := by decide +kernel
set_option maxRecDepth 100000 in
theorem vE_200 : K_200.all (okE (cB 200)) = true := by decide +kernel
set_option maxRecDepth 100000 in
theorem vE_201 : K_201.all (okE (cB 201)) = true := by decide +kernel
set_option maxRecDepth 100000 in
theorem vE_202 : K_202.all (okE (cB 202)) = true := by decide +kernel
set_option maxRecDepth 100000 in
theorem vE_203 : K_203.all (okE (cB 203)) = true := by decide +kernel
set_option maxRecDepth 100000 in
theorem vE_204 : K_204.all (okE (cB 204)) = true := by decide +kernel
set_option maxRecDepth 100000 in
theorem vE_205 : K_205.all (okE (cB 205)) = true := by decide +kernel
set_option maxRecDepth 100000 in
theorem vE_206 : K_206.all (okE (cB 206)) = true := by decide +kernel
set_option maxRecDepth 100000 in
theorem vE_300 : K_300.all (okE (cB 300)) = true := by decide +kernel
set_option maxRecDepth 100000 in
theorem vE_301 : K_301.all (okE (cB 301)) = true := by decide +kernel
set_option maxRecDepth 100000 in
theorem vE_302 : K_302.all (okE (cB 302)) = true := by decide +kernel
set_option maxRecDepth 100000 in
theorem vE_303 : K_303.all (okE (cB 303)) = true := by decide +kernel
set_option maxRecDepth 100000 in
theorem vE_304 : K_304.all (okE (cB 304)) = true := by decide +kernel
set_option maxRecDepth 100000 in
theorem vE_305 : K_305.all (okE (cB 305)) = true := by decide +kernel
set_option maxRecDepth 100000 in
theorem vE_306 : K_306.all (okE (cB 306)) = true := by decide +kernel
set_option maxRecDepth 100000 in
theorem vE_307 : K_307.all (okE (cB 307)) = true := by decide +kernel
set_option maxRecDepth 100000 in
theorem vE_400 : K_400.all (okE (cB 400)) = true := by decide +kernel
set_option maxRecDepth 100000 in
theorem vE_401 : K_401.all (okE (cB 401)) = true := by decide +kernel
set_option maxRecDepth 100000 in
theorem vE_402 : K_402.all (okE (cB 402)) = true := by decide +kernel
set_option maxRecDepth 100000 in
theorem vE_403 : K_403.all (okE (cB 403)) = true := by decide +kernel
set_option maxRecDepth 100000 in
theorem vE_404 : K_404.all (okE (cB 404)) = true := by decide +kernel
set_option maxRecDepth 100000 in
theorem vE_500 : K_500.all (okE (cB 500)) = true := by decide +kernel
set_option maxRecDepth 100000 in
theorem vE_501 : K_501.all (okE (cB 501)) = true := by decide +kernel
set_option maxRecDepth 100000 in
theorem vE_502 : K_502.all (okE (cB 502)) = true := by decide +kernel
set_option maxRecDepth 100000 in
theorem vE_503 : K_503.all (okE (cB 503)) = true := by decide +kernel
set_option maxRecDepth 100000 in
theorem vE_504 : K_504.all (okE (cB 504)) = true := by decide +kernel
set_option maxRecDepth 100000 in
theorem vE_505 : K_505.all (okE (cB 505)) = true := by decide +kernel
set_option maxRecDepth 100000 in
theorem vE_506 : K_506.all (okE (cB 506)) = true := by decide +kernel
set_option maxRecDepth 100000 in
theorem vE_507 : K_507.all (okE (cB 507)) = true := by decide +kernel
set_option maxRecDepth 100000 in
theorem vE_508 : K_508.all (okE (cB 508)) = true := by decide +kernel
set_option maxRecDepth 100000 in
theorem vE_509 : K_509.all (okE (cB 509)) = true := by decide +kernel
set_option maxRecDepth 100000 in
theorem vE_510 : K_510.all (okE (cB 510)) = true := by decide +kernel
set_option maxRecDepth 100000 in
theorem vE_511 : K_511.all (okE (cB 511)) = true := by decide +kernel
set_option maxRecDepth 100000 in
theorem vE_512 : K_512.all (okE (cB 512)) = true := by decide +kernel
set_option maxRecDepth 100000 in
theorem vE_600 : K_600.all (okE (cB 600)) = true := by decide +kernel
set_option maxRecDepth 100000 in
theorem vE_601 : K_601.all (okE (cB 601)) = true := by decide +kernel
set_option maxRecDepth 100000 in
theorem vE_602 : K_602.all (okE (cB 602)) = true := by decide +kernel
set_option maxRecDepth 100000 in
theorem vE_603 : K_603.all (okE (cB 603)) = true := by decide +kernel
set_option maxRecDepth 100000 in
theorem vE_604 : K_604.all (okE (cB 604)) = true := by decide +kernel
set_option maxRecDepth 100000 in
theorem vE_605 : K_605.all (okE (cB 605)) = true := by decide +kernel
set_option maxRecDepth 100000 in
theorem vE_606 : K_606.all (okE (cB 606)) = true := by decide +kernel
set_option maxRecDepth 100000 in
theorem vE_607 : K_607.all (okE (cB 607)) = true := by decide +kernel
set_option maxRecDepth 100000 in
theorem vE_608 : K_608.all (okE (cB 608)) = true := by decide +kernel
set_option maxRecDepth 100000 in
theorem vE_609 : K_609.all (okE (cB 609)) = true := by decide +kernel
set_option maxRecDepth 100000 in
theorem vE_610 : K_610.all (okE (cB 610)) = true := by decide +kernel
set_option maxRecDepth 100000 in
theorem vE_611 : K_611.all (okE (cB 611)) = true := by decide +kernel
set_option maxRecDepth 100000 in
theorem vE_612 : K_612.all (okE (cB 612)) = true := by decide +kernel
set_option maxRecDepth 100000 in
theorem vE_613 : K_613.all (okE (cB 613)) = true := by decide +kernel
set_option maxRecDepth 100000 in
theorem vE_614 : K_614.all (okE (cB 614)) = true := by decide +kernel
set_option maxRecDepth 100000 in
theorem vE_615 : K_615.all (okE (cB 615)) = true := by decide +kernel
set_option maxRecDepth 100000 in
theorem vE_616 : K_616.all (okE (cB 616)) = true := by decide +kernel
set_option maxRecDepth 100000 in
theorem vE_617 : K_617.all (okE (cB 617)) = true := by decide +kernel
set_option maxRecDepth 100000 in
theorem vE_618 : K_618.all (okE (cB 618)) = true := by decide +kernel
set_option maxRecDepth 100000 in
theorem vE_619 : K_619.all (okE (cB 619)) = true := by decide +kernel
set_option maxRecDepth 100000 in
theorem vE_620 : K_620.all (okE (cB 620)) = true := by decide +kernel
set_option maxRecDepth 100000 in
theorem vE_621 : K_621.all (okE (cB 621)) = true := by decide +kernel
set_option maxRecDepth 100000 in
theorem vE_622 : K_622.all (okE (cB 622)) = true := by decide +kernel
set_option maxRecDepth 100000 in
theorem vE_623 : K_623.all (okE (cB 623)) = true := by decide +kernel
set_option maxRecDepth 100000 in
theorem vE_624 : K_624.all (okE (cB 624)) = true := by decide +kernel
set_option maxRecDepth 100000 in
theorem vE_700 : K_700.all (okE (cB 700)) = true := by decide +kernel
set_option maxRecDepth 100000 in
theorem vE_701 : K_701.all (okE (cB 701)) = true := by decide +kernel
set_option maxRecDepth 100000 in
theorem vE_702 : K_702.all (okE (cB 702)) = true := by decide +kernel
set_option maxRecDepth 100000 in
theorem vE_703 : K_703.all (okE (cB 703)) = true := by decide +kernel
set_option maxRecDepth 100000 in
theorem vE_704 : K_704.all (okE (cB 704)) = true := by decide +kernel
set_option maxRecDepth 100000 in
theorem vE_705 : K_705.all (okE (cB 705)) = true := by decide +kernel
set_option maxRecDepth 100000 in
theorem vE_706 : K_706.all (okE (cB 706)) = true := by decide +kernel
set_option maxRecDepth 100000 in
theorem vE_707 : K_707.all (okE (cB 707)) = true := by decide +kernel
set_option maxRecDepth 100000 in
theorem vE_708 : K_708.all (okE (cB 708)) = true := by decide +kernel
set_option maxRecDepth 100000 in
theorem vE_709 : K_709.all (okE (cB 709)) = true := by decide +kernel
set_option maxRecDepth 100000 in
theorem vE_710 : K_710.all (okE (cB 710)) = true := by decide +kernel
set_option maxRecDepth 100000 in
theorem vE_711 : K_711.all (okE (cB 711)) = true := by decide +kernel
set_option maxRecDepth 100000 in
theorem vE_712 : K_712.all (okE (cB 712)) = true := by decide +kernel
set_option maxRecDepth 100000 in
theorem vE_713 : K_713.all (okE (cB 713)) = true := by decide +kernel
set_option maxRecDepth 100000 in
theorem vE_714 : K_714.all (okE (cB 714)) = true := by decide +kernel
set_option maxRecDepth 100000 in
theorem vE_715 : K_715.all (okE (cB 715)) = true := by decide +kernel
set_option maxRecDepth 100000 in
theorem vE_716 : K_716.all (okE (cB 716)) = true := by decide +kernel
set_option maxRecDepth 100000 in
theorem vE_717 : K_717.all (okE (cB 717)) = true := by decide +kernel
set_option maxRecDepth 100000 in
theorem vE_718 : K_718.all (okE (cB 718)) = true := by decide +kernel
set_option maxRecDepth 100000 in
theorem vE_719 : K_719.all (okE (cB 719)) = true := by decide +kernel
set_option maxRecDepth 100000 in
theorem vE_800 : K_800.all (okE (cB 800)) = true := by decide +kernel
set_option maxRecDepth 100000 in
theorem vE_801 : K_801.all (okE (cB 801)) = true := by decide +kernel
set_option maxRecDepth 100000 in
theorem vE_802 : K_802.all (okE (cB 802)) = true := by decide +kernel
set_option maxRecDepth 100000 in
theorem vE_803 : K_803.all (okE (cB 803)) = true := by decide +kernel
set_option maxRecDepth 100000 in
theorem vE_804 : K_804.all (okE (cB 804)) = true := by decide +kernel
set_option maxRecDepth 100000 in
theorem vE_805 : K_805.all (okE (cB 805)) = true := by decide +kernel
set_option maxRecDepth 100000 in
theorem vE_806 : K_806.all (okE (cB 806)) = true := by decide +kernel
set_option maxRecDepth 100000 in
theorem vE_807 : K_807.all (okE (cB 807)) = true := by decide +kernel
set_option maxRecDepth 100000 in
theorem vE_808 : K_808.all (okE (cB 808)) = true := by decide +kernel
set_option maxRecDepth 100000 in
theorem vE_809 : K_809.all (okE (cB 809)) = true := by decide +kernel
set_option maxRecDepth 100000 in
theorem vE_810 : K_810.all (okE (cB 810)) = true := by decide +kernel
set_option maxRecDepth 100000 in
theorem vE_811 : K_811.all (okE (cB 811)) = true := by decide +kernel
set_option maxRecDepth 100000 in
theorem vE_812 : K_812.all (okE (cB 812)) = true := by decide +kernel
set_option maxRecDepth 100000 in
theorem vE_813 : K_813.all (okE (cB 813)) = true := by decide +kernel
set_option maxRecDepth 100000 in
theorem vE_814 : K_814.all (okE (cB 814)) = true := by decide +kernel
set_option maxRecDepth 100000 in
theorem vE_815 : K_815.all (okE (cB 815)) = true := by decide +kernel
set_option maxRecDepth 100000 in
theorem vE_816 : K_816.all (okE (cB 816)) = true := by decide +kernel
set_option maxRecDepth 100000 in
theorem vE_817 : K_817.all (okE (cB 817)) = true := by decide +kernel
set_option maxRecDepth 100000 in
theorem vE_818 : K_818.all (okE (cB 818)) = true := by decide +kernel
set_option maxRecDepth 100000 in
theorem vE_900 : K_900.all (okE (cB 900)) = true := by decide +kernel
set_option maxRecDepth 100000 in
theorem vE_901 : K_901.all (okE (cB 901)) = true := by decide +kernel
set_option maxRecDepth 100000 in
theorem vE_902 : K_902.all (okE (cB 902)) = true := by decide +kernel
set_option maxRecDepth 100000 in
theorem vE_903 : K_903.all (okE (cB 903)) = true := by decide +kernel
set_option maxRecDepth 100000 in
theorem vE_904 : K_904.all (okE (cB 904)) = true := by decide +kernel
set_option maxRecDepth 100000 in
theorem vE_905 : K_905.all (okE (cB 905)) = true := by decide +kernel
set_option maxRecDepth 100000 in
theorem vE_906 : K_906.all (okE (cB 906)) = true := by decide +kernel
set_option maxRecDepth 100000 in
theorem vE_1000 : K_1000.all (okE (cB 1000)) = true := by decide +kernel
set_option maxRecDepth 100000 in
theorem vE_1001 : K_1001.all (okE (cB 1001)) = true := by decide +kernel
set_option maxRecDepth 100000 in
theorem vE_1002 : K_1002.all (okE (cB 1002)) = true := by decide +kernel
set_option maxRecDepth 100000 in
theorem vE_1003 : K_1003.all (okE (cB 1003)) = true := by decide +kernel
set_option maxRecDepth 100000 in
theorem vE_1004 : K_1004.all (okE (cB 1004)) = true := by decide +kernel
set_option maxRecDepth 100000 in
theorem vE_1005 : K_1005.all (okE (cB 1005)) = true := by decide +kernel
set_option maxRecDepth 100000 in
theorem vE_1006 : K_1006.all (okE (cB 1006)) = true := by decide +kernel
set_option maxRecDepth 100000 in
theorem vE_1007 : K_1007.all (okE (cB 1007)) = true := by decide +kernel
set_option maxRecDepth 100000 in
theorem vE_1008 : K_1008.all (okE (cB 1008)) = true := by decide +kernel
set_option maxRecDepth 100000 in
theorem vE_1009 : K_1009.all (okE (cB 1009)) = true := by decide +kernel
set_option maxRecDepth 100000 in
theorem vE_1010 : K_1010.all (okE (cB 1010)) = true := by decide +kernel
set_option maxRecDepth 100000 in
theorem vE_1011 : K_1011.all (okE (cB 1011)) = true := by decide +kernel
set_option maxRecDepth 100000 in
theorem vE_1012 : K_1012.all (okE (cB 1012)) = true := by decide +kernel
set_option maxRecDepth 100000 in
theorem vE_1013 : K_1013.all (okE (cB 1013)) = true := by decide +kernel
set_option maxRecDepth 100000 in
theorem vE_1014 : K_1014.all (okE (cB 1014)) = true := by decide +kernel
set_option maxRecDepth 100000 in
theorem vE_1015 : K_1015.all (okE (cB 1015)) = true := by decide +kernel
set_option maxRecDepth 100000 in
theorem vE_1016 : K_1016.all (okE (cB 1016)) = true := by decide +kernel
set_option maxRecDepth 100000 in
theorem vE_1017 : K_1017.all (okE (cB 1017)) = true := by decide +kernel
set_option maxRecDepth 100000 in
theorem vE_1018 : K_1018.all (okE (cB 1018)) = true := by decide +kernel
set_option maxRecDepth 100000 in
theorem vE_1019 : K_1019.all (okE (cB 1019)) = true := by decide +kernel
set_option maxRecDepth 100000 in
theorem vE_1020 : K_1020.all (okE (cB 1020)) = true := by decide +kernel
set_option maxRecDepth 100000 in
theorem vE_1021 : K_1021.all (okE (cB 1021)) = true := by decide +kernel
set_option maxRecDepth 100000 in
theorem vE_1022 : K_1022.all (okE (cB 1022)) = true := by decide +kernel
set_option maxRecDepth 100000 in
theorem vE_1100 : K_1100.all (okE (cB 1100)) = true := by decide +kernel
set_option maxRecDepth 100000 in
theorem vE_1101 : K_1101.all (okE (cB 1101)) = true := by decide +kernel
set_option maxRecDepth 100000 in
theorem vE_1102 : K_1102.all (okE (cB 1102)) = true := by decide +kernel
set_option maxRecDepth 100000 in
theorem vE_1103 : K_1103.all (okE (cB 1103)) = true := by decide +kernel
set_option maxRecDepth 100000 in
theorem vE_1104 : K_1104.all (okE (cB 1104)) = true := by decide +kernel
set_option maxRecDepth 100000 in
theorem vE_1105 : K_1105.all (okE (cB 1105)) = true := by decide +kernel
set_option maxRecDepth 100000 in
theorem vE_1106 : K_1106.all (okE (cB 1106)) = true := by decide +kernel
set_option maxRecDepth 100000 in
theorem vE_1107 : K_1107.all (okE (cB 1107)) = true := by decide +kernel
set_option maxRecDepth 100000 in
theorem vE_1108 : K_1108.all (okE (cB 1108)) = true := by decide +kernel
set_option maxRecDepth 100000 in
theorem vE_1109 : K_1109.all (okE (cB 1109)) = true := by decide +kernel
set_option maxRecDepth 100000 in
theorem vE_1110 : K_1110.all (okE (cB 1110)) = true := by decide +kernel
set_option maxRecDepth 100000 in
theorem vE_1111 : K_1111.all (okE (cB 1111)) = true := by decide +kernel
set_option maxRecDepth 100000 in
theorem vE_1112 : K_1112.all (okE (cB 1112)) = true := by decide +kernel
set_option maxRecDepth 100000 in
theorem vE_1113 : K_1113.all (okE (cB 1113)) = true := by decide +kernel
set_option maxRecDepth 100000 in
theorem vE_1114 : K_1114.all (okE (cB 1114)) = true := by decide +kernel
set_option maxRecDepth 100000 in
theorem vE_1115 : K_1115.all (okE (cB 1115)) = true := by decide +kernel
set_option maxRecDepth 100000 in
theorem vE_1116 : K_1116.all (okE (cB 1116)) = true := by decide +kernel
set_option maxRecDepth 100000 in
theorem vE_1117 : K_1117.all (okE (cB 1117)) = true := by decide +kernel
set_option maxRecDepth 100000 in
theorem vE_1118 : K_1118.all (okE (cB 1118)) = true := by decide +kernel
set_option maxRecDepth 100000 in
theorem vE_1119 : K_1119.all (okE (cB 1119)) = true := by decide +kernel
set_option maxRecDepth 100000 in
theorem vE_1120 : K_1120.all (okE (cB 1120)) = true := by decide +kernel
set_option maxRecDepth 100000 in
theorem vE_1121 : K_1121.all (okE (cB 1121)) = true := by decide +kernel
set_option maxRecDepth 100000 in
theorem vE_1122 : K_1122.all (okE (cB 1122)) = true := by decide +kernel
set_option maxRecDepth 100000 in
theorem vE_1123 : K_1123.all (okE (cB 1123)) = true := by decide +kernel
set_option maxRecDepth 100000 in
theorem vE_1124 : K_1124.all (okE (cB 1124)) = true := by decide +kernel
set_option maxRecDepth 100000 in
theorem vE_1125 : K_1125.all (okE (cB 1125)) = true := by decide +kernel
set_option maxRecDepth 100000 in
theorem vE_1126 : K_1126.all (okE (cB 1126)) = true := by decide +kernel
set_option maxRecDepth 100000 in
theorem vE_1127 : K_1127.all (okE (cB 1127)) = true := by decide +kernel
set_option maxRecDepth 100000 in
theorem vE_1128 : K_1128.all (okE (cB 1128)) = true := by decide +kernel
set_option maxRecDepth 100000 in
theorem vE_1129 : K_1129.all (okE (cB 1129)) = true := by decide +kernel
set_option maxRecDepth 100000 in
theorem vE_1130 : K_1130.all (okE (cB 1130)) = true := by decide +kernel
set_option maxRecDepth 100000 in
theorem vE_1131 : K_1131.all (okE (cB 1131)) = true := by decide +kernel
set_option maxRecDepth 100000 in
theorem vE_1132 : K_1132.all (okE (cB 1132)) = true := by decide +kernel
set_option maxRecDepth 100000 in
theorem vE_1133 : K_1133.all (okE (cB 1133)) = true := by decide +kernel
set_option maxRecDepth 100000 in
theorem vE_1134 : K_1134.all (okE (cB 1134)) = true := by decide +kernel
set_option maxRecDepth 100000 in
theorem vE_1135 : K_1135.all (okE (cB 1135)) = true := by decide +kernel
set_option maxRecDepth 100000 in
theorem vE_1136 : K_1136.all (okE (cB 1136)) = true := by decide +kernel
set_option maxRecDepth 100000 in
theorem vE_1137 : K_1137.all (okE (cB 1137)) = true := by decide +kernel
set_option maxRecDepth 100000 in
theorem vE_1138 : K_1138.all (okE (cB 1138)) = true := by decide +kernel
set_option maxRecDepth 100000 in
theorem vE_1139 : K_1139.all (okE (cB 1139)) = true := by decide +kernel
set_option maxRecDepth 100000 in
theorem vE_1140 : K_1140.all (okE (cB 1140)) = true := by decide +kernel
set_option maxRecDepth 100000 in
theorem vE_1141 : K_1141.all (okE (cB 1141)) = true := by decide +kernel
set_option maxRecDepth 100000 in
theorem vE_1142 : K_1142.all (okE (cB 1142)) = true := by decide +kernel
set_option maxRecDepth 100000 in
theorem vE_1143 : K_1143.all (okE (cB 1143)) = true := by decide +kernel
set_option maxRecDepth 100000 in
theorem vE_1144 : K_1144.all (okE (cB 1144)) = true := by decide +kernel
set_option maxRecDepth 100000 in
theorem vE_1145 : K_1145.all (okE (cB 1145)) = true := by decide +kernel
set_option maxRecDepth 100000 in
theorem vE_1146 : K_1146.all (okE (cB 1146)) = true := by decide +kernel
set_option maxRecDepth 100000 in
theorem vE_1200 : K_1200.all (okE (cB 1200)) = true := by decide +kernel
set_option maxRecDepth 100000 in
theorem vE_1201 : K_1201.all (okE (cB 1201)) = true := by decide +kernel
set_option maxRecDepth 100000 in
theorem vE_1202 : K_1202.all (okE (cB 1202)) = true := by decide +kernel
set_option maxRecDepth 100000 in
theorem vE_1203 : K_1203.all (okE (cB 1203)) = true := by decide +kernel
set_option maxRecDepth 100000 in
theorem vE_1204 : K_1204.all (okE (cB 1204)) = true := by decide +kernel
set_option maxRecDepth 100000 in
theorem vE_1205 : K_1205.all (okE (cB 1205)) = true := by decide +kernel
set_option maxRecDepth 100000 in
theorem vE_1206 : K_1206.all (okE (cB 1206)) = true := by decide +kernel
set_option maxRecDepth 100000 in
theorem vE_1207 : K_1207.all (okE (cB 1207)) = true := by decide +kernel
set_option maxRecDepth 100000 in
theorem vE_1208 : K_1208.all (okE (cB 1208)) = true := by decide +kernel
set_option maxRecDepth 100000 in
theorem vE_1209 : K_1209.all (okE (cB 1209)) = true := by decide +kernel
set_option maxRecDepth 100000 in
theorem vE_1210 : K_1210.all (okE (cB 1210)) = true := by decide +kernel
set_option maxRecDepth 100000 in
theorem vE_1211 : K_1211.all (okE (cB 1211)) = true := by decide +kernel
set_option maxRecDepth 100000 in
theorem vE_1212 : K_1212.all (okE (cB 1212)) = true := by decide +kernel
set_option maxRecDepth 100000 in
theorem vE_1213 : K_1213.all (okE (cB 1213)) = true := by decide +kernel
set_option maxRecDepth 100000 in
theorem vE_1214 : K_1214.all (okE (cB 1214)) = true := by decide +kernel
set_option maxRecDepth 100000 in
theorem vE_1215 : K_1215.all (okE (cB 1215)) = true := by decide +kernel
set_option maxRecDepth 100000 in
theorem vE_1216 : K_1216.all (okE (cB 1216)) = true := by decide +kernel
set_option maxRecDepth 100000 in
theorem vE_1217 : K_1217.all (okE (cB 1217)) = true := by decide +kernel
set_option maxRecDepth 100000 in
theorem vE_1218 : K_1218.all (okE (cB 1218)) = true := by decide +kernel
set_option maxRecDepth 100000 in
theorem vE_1219 : K_1219.all (okE (cB 1219)) = true := by decide +kernel
set_option maxRecDepth 100000 in
theorem vE_1220 : K_1220.all (okE (cB 1220)) = true := by decide +kernel
set_option maxRecDepth 100000 in
theorem vE_1221 : K_1221.all (okE (cB 1221)) = true := by decide +kernel
set_option maxRecDepth 100000 in
theorem vE_1222 : K_1222.all (okE (cB 1222)) = true := by decide +kernel
set_option maxRecDepth 100000 in
theorem vE_1223 : K_1223.all (okE (cB 1223)) = true := by decide +kernel
set_option maxRecDepth 100000 in
theorem vE_1224 : K_1224.all (okE (cB 1224)) = true := by decide +kernel
set_option maxRecDepth 100000 in
theorem vE_1225 : K_1225.all (okE (cB 1225)) = true := by decide +kernel
set_option maxRecDepth 100000 in
theorem vE_1226 : K_1226.all (okE (cB 1226)) = true := by decide +kernel
set_option maxRecDepth 100000 in
theorem vE_1227 : K_1227.all (okE (cB 1227)) = true := by decide +kernel
set_option maxRecDepth 100000 in
theorem vE_1228 : K_1228.all (okE (cB 1228)) = true := by decide +kernel
set_option maxRecDepth 100000 in
theorem vE_1229 : K_1229.all (okE (cB 1229)) = true := by decide +kernel
set_option maxRecDepth 100000 in
theorem vE_1230 : K_1230.all (okE (cB 1230)) = true := by decide +kernel
set_option maxRecDepth 100000 in
theorem vE_1231 : K_1231.all (okE (cB 1231)) = true := by decide +kernel
set_option maxRecDepth 100000 in
theorem vE_1232 : K_1232.all (okE (cB 1232)) = true := by decide +kernel
set_option maxRecDepth 100000 in
theorem vE_1233 : K_1233.all (okE (cB 1233)) = true := by decide +kernel
set_option maxRecDepth 100000 in
theorem vE_1234 : K_1234.all (okE (cB 1234)) = true := by decide +kernel
set_option maxRecDepth 100000 in
theorem vE_1235 : K_1235.all (okE (cB 1235)) = true := by decide +kernel
set_option maxRecDepth 100000 in
theorem vE_1236 : K_1236.all (okE (cB 1236)) = true := by decide +kernel
set_option maxRecDepth 100000 in
theorem vE_1237 : K_1237.all (okE (cB 1237)) = true := by decide +kernel
set_option maxRecDepth 100000 in
theorem vE_1238 : K_1238.all (okE (cB 1238)) = true := by decide +kernel
set_option maxRecDepth 100000 in
theorem vE_1239 : K_1239.all (okE (cB 1239)) = true := by decide +kernel
set_option maxRecDepth 100000 in
theorem vE_1240 : K_1240.all (okE (cB 1240)) = true := by decide +kernel
set_option maxRecDepth 100000 in
theorem vE_1241 : K_1241.all (okE (cB 1241)) = true := by decide +kernel
set_option maxRecDepth 100000 in
theorem vE_1242 : K_1242.all (okE (cB 1242)) = true := by decide +kernel
set_option maxRecDepth 100000 in
theorem vE_1243 : K_1243.all (okE (cB 1243)) = true := by decide +kernel
set_option maxRecDepth 100000 in
theorem vE_1244 : K_1244.all (okE (cB 1244)) = true := by decide +kernel
set_option maxRecDepth 100000 in
theorem vE_1245 : K_1245.all (okE (cB 1245)) = true := by decide +kernel
set_option maxRecDepth 100000 in
theorem vE_1246 : K_1246.all (okE (cB 1246)) = true := by decide +kernel
set_option maxRecDepth 100000 in
theorem vE_1247 : K_1247.all (okE (cB 1247)) = true := by decide +kernel
set_option maxRecDepth 100000 in
theorem vE_1248 : K_1248.all (okE (cB 1248)) = true := by decide +kernel
set_option maxRecDepth 100000 in
theorem vE_1249 : K_1249.all (okE (cB 1249)) = true := by decide +kernel
set_option maxRecDepth 100000 in
theorem vE_1250 : K_1250.all (okE (cB 1250)) = true := by decide +kernel
set_option maxRecDepth 100000 in
theorem vE_1251 : K_1251.all (okE (cB 1251)) = true := by decide +kernel
set_option maxRecDepth 100000 in
theorem vE_1252 : K_1252.all (okE (cB 1252)) = true := by decide +kernel
set_option maxRecDepth 100000 in
theorem vE_1253 : K_1253.all (okE (cB 1253)) = true := by decide +kernel
set_option maxRecDepth 100000 in
theorem vE_1254 : K_1254.all (okE (cB 1254)) = true := by decide +kernel
set_option maxRecDepth 100000 in
theorem vE_1255 : K_1255.all (okE (cB 1255)) = true := by decide +kernel
set_option maxRecDepth 100000 in
theorem vE_1256 : K_1256.all (okE (cB 1256)) = true := by decide +kernel
set_option maxRecDepth 100000 in
theorem vE_1257 : K_1257.all (okE (cB 1257)) = true := by decide +kernel
set_option maxRecDepth 100000 in
theorem vE_1258 : K_1258.all (okE (cB 1258)) = true := by decide +kernel
set_option maxRecDepth 100000 in
theorem vE_1259 : K_1259.all (okE (cB 1259)) = true := by decide +kernel
set_option maxRecDepth 100000 in
theorem vE_1260 : K_1260.all (okE (cB 1260)) = true := by decide +kernel
set_option maxRecDepth 100000 in
theorem vE_1261 : K_1261.all (okE (cB 1261)) = true := by decide +kernel
set_option maxRecDepth 100000 in
theorem vE_1262 : K_1262.all (okE (cB 1262)) = true := by decide +kernel
set_option maxRecDepth 100000 in
theorem vE_1263 : K_1263.all (okE (cB 1263)) = true := by decide +kernel
set_option maxRecDepth 100000 in
theorem vE_1264 : K_1264.all (okE (cB 1264)) = true := by decide +kernel
set_option maxRecDepth 100000 in
theorem vE_1265 : K_1265.all (okE (cB 1265)) = true := by decide +kernel
set_option maxRecDepth 100000 in
theorem vE_1266 : K_1266.all (okE (cB 1266)) = true := by decide +kernel
set_option maxRecDepth 100000 in
theorem vE_1267 : K_1267.all (okE (cB 1267)) = true := by decide +kernel
set_option maxRecDepth 100000 in
theorem vE_1268 : K_1268.all (okE (cB 1268)) = true := by decide +kernel
set_option maxRecDepth 100000 in
theorem vE_1269 : K_1269.all (okE (cB 1269)) = true := by decide +kernel
set_option maxRecDepth 100000 in
theorem vE_1270 : K_1270.all (okE (cB 1270)) = true := by decide +kernel
set_option maxRecDepth 100000 in
theorem vE_1271 : K_1271.all (okE (cB 1271)) = true := by decide +kernel
set_option maxRecDepth 100000 in
theorem vE_1272 : K_1272.all (okE (cB 1272)) = true := by decide +kernel
set_option maxRecDepth 100000 in
theorem vE_1273 : K_1273.all (okE (cB 1273)) = true := by decide +kernel
set_option maxRecDepth 100000 in
theorem vE_1274 : K_1274.all (okE (cB 1274)) = true := by decide +kernel
set_option maxRecDepth 100000 in
theorem vE_1275 : K_1275.all (okE (cB 1275)) = true := by decide +kernel
set_option maxRecDepth 100000 in
theorem vE_1276 : K_1276.all (okE (cB 1276)) = true := by decide +kernel
set_option maxRecDepth 100000 in
theorem vE_1277 : K_1277.all (okE (cB 1277)) = true := by decide +kernel
set_option maxRecDepth 100000 in
theorem vE_1278 : K_1278.all (okE (cB 1278)) = true := by decide +kernel
set_option maxRecDepth 100000 in
theorem vE_1279 : K_1279.all (okE (cB 1279)) = true := by decide +kernel
set_option maxRecDepth 100000 in
theorem vE_1280 : K_1280.all (okE (cB 1280)) = true := by decide +kernel
set_option maxRecDepth 100000 in
theorem vE_1281 : K_1281.all (okE (cB 1281)) = true := by decide +kernel
set_option maxRecDepth 100000 in
theorem vE_1282 : K_1282.all (okE (cB 1282)) = true := by decide +kernel
set_option maxRecDepth 100000 in
theorem vE_1283 : K_1283.all (okE (cB 1283)) = true := by decide +kernel
set_option maxRecDepth 100000 in
theorem vE_1284 : K_1284.all (okE (cB 1284)) = true := by decide +kernel
set_option maxRecDepth 100000 in
theorem vE_1285 : K_1285.all (okE (cB 1285)) = true := by decide +kernel
set_option maxRecDepth 100000 in
theorem vE_1286 : K_1286.all (okE (cB 1286)) = true := by decide +kernel
set_option maxRecDepth 100000 in
theorem vE_1287 : K_1287.all (okE (cB 1287)) = true := by decide +kernel
set_option maxRecDepth 100000 in
theorem vE_1288 : K_1288.all (okE (cB 1288)) = true := by decide +kernel
set_option maxRecDepth 100000 in
theorem vE_1300 : K_1300.all (okE (cB 1300)) = true := by decide +kernel
