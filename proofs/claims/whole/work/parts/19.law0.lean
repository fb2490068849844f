/-! the law's rows -/
def tL0 : List CI := [
  (0, 3, .new 7, 0, 0, 0, .null), (3, 1, .dup, 0, 0, 0, .null), (4, 3, .invokespecial 9, 0, 0, 0, .null), (7, 1, .astore_n 1, 1, 0, 0, .null), (8, 3, .new 10, 0, 0, 0, .null), 
  (11, 1, .dup, 0, 0, 0, .null), (12, 3, .invokespecial 12, 0, 0, 0, .null), (15, 1, .astore_n 2, 2, 0, 0, .null), (16, 1, .iconst 0, 0, 0, 0, .int 0), 
  (17, 1, .istore_n 3, 3, 0, 0, .null), (18, 1, .iload_n 3, 3, 0, 0, .null), (19, 1, .aload_n 0, 0, 0, 0, .null), (20, 1, .arraylength, 0, 0, 0, .null), 
  (21, 1, .iconst 4, 0, 0, 0, .int 4), (22, 1, .isub, 0, 0, 0, .null), (23, 3, .if_icmp .gt 859, 882, 0, 0, .null), (26, 1, .aload_n 0, 0, 0, 0, .null), 
  (27, 1, .iload_n 3, 3, 0, 0, .null), (28, 1, .iaload, 0, 0, 0, .null), (29, 2, .bipush 31, 0, 0, 0, .int 31), (31, 1, .iand, 0, 0, 0, .null), 
  (32, 128, .tableswitch 844 0 27 #[128, 151, 164, 177, 190, 223, 256, 289, 323, 366, 399, 432, 466, 499, 512, 535, 568, 591, 604, 617, 630, 653, 676, 709, 742, 775, 798, 821], 0, 0, 0, .null), 
  (160, 1, .aload_n 1, 1, 0, 0, .null), (161, 1, .aload_n 0, 0, 0, 0, .null), (162, 1, .iload_n 3, 3, 0, 0, .null), (163, 1, .iconst 1, 0, 0, 0, .int 1), 
  (164, 1, .iadd, 0, 0, 0, .null), (165, 1, .iaload, 0, 0, 0, .null), (166, 3, .invokevirtual 13, 0, 0, 0, .null), (169, 1, .aload_n 2, 2, 0, 0, .null), 
  (170, 1, .aload_n 0, 0, 0, 0, .null), (171, 1, .iload_n 3, 3, 0, 0, .null), (172, 1, .iconst 1, 0, 0, 0, .int 1), (173, 1, .iadd, 0, 0, 0, .null), 
  (174, 1, .iaload, 0, 0, 0, .null), (175, 3, .invokevirtual 17, 0, 0, 0, .null), (178, 3, .if_icmp .eq 698, 876, 0, 0, .null), (181, 1, .iconst 0, 0, 0, 0, .int 0), 
  (182, 1, .ireturn, 0, 0, 0, .null), (183, 1, .aload_n 1, 1, 0, 0, .null)]
theorem okL0 : tL0.all (okI RL false code) = true := by decide +kernel
def tL1 : List CI := [
  (184, 3, .invokevirtual 18, 0, 0, 0, .null), (187, 1, .aload_n 2, 2, 0, 0, .null), (188, 3, .invokevirtual 22, 0, 0, 0, .null), (191, 3, .if_icmp .eq 685, 876, 0, 0, .null), 
  (194, 1, .iconst 0, 0, 0, 0, .int 0), (195, 1, .ireturn, 0, 0, 0, .null), (196, 1, .aload_n 1, 1, 0, 0, .null), (197, 3, .invokevirtual 23, 0, 0, 0, .null), 
  (200, 1, .aload_n 2, 2, 0, 0, .null), (201, 3, .invokevirtual 26, 0, 0, 0, .null), (204, 3, .if_icmp .eq 672, 876, 0, 0, .null), (207, 1, .iconst 0, 0, 0, 0, .int 0), 
  (208, 1, .ireturn, 0, 0, 0, .null), (209, 1, .aload_n 1, 1, 0, 0, .null), (210, 3, .invokevirtual 27, 0, 0, 0, .null), (213, 1, .aload_n 2, 2, 0, 0, .null), 
  (214, 3, .invokevirtual 30, 0, 0, 0, .null), (217, 3, .if_icmp .eq 659, 876, 0, 0, .null), (220, 1, .iconst 0, 0, 0, 0, .int 0), (221, 1, .ireturn, 0, 0, 0, .null), 
  (222, 1, .aload_n 1, 1, 0, 0, .null), (223, 1, .aload_n 0, 0, 0, 0, .null), (224, 1, .iload_n 3, 3, 0, 0, .null), (225, 1, .iconst 1, 0, 0, 0, .int 1), 
  (226, 1, .iadd, 0, 0, 0, .null), (227, 1, .iaload, 0, 0, 0, .null), (228, 1, .aload_n 0, 0, 0, 0, .null), (229, 1, .iload_n 3, 3, 0, 0, .null), 
  (230, 1, .iconst 2, 0, 0, 0, .int 2), (231, 1, .iadd, 0, 0, 0, .null), (232, 1, .iaload, 0, 0, 0, .null), (233, 3, .invokevirtual 31, 0, 0, 0, .null), 
  (236, 1, .aload_n 2, 2, 0, 0, .null), (237, 1, .aload_n 0, 0, 0, 0, .null), (238, 1, .iload_n 3, 3, 0, 0, .null), (239, 1, .iconst 1, 0, 0, 0, .int 1), 
  (240, 1, .iadd, 0, 0, 0, .null), (241, 1, .iaload, 0, 0, 0, .null), (242, 1, .aload_n 0, 0, 0, 0, .null), (243, 1, .iload_n 3, 3, 0, 0, .null)]
theorem okL1 : tL1.all (okI RL false code) = true := by decide +kernel
def tL2 : List CI := [
  (244, 1, .iconst 2, 0, 0, 0, .int 2), (245, 1, .iadd, 0, 0, 0, .null), (246, 1, .iaload, 0, 0, 0, .null), (247, 3, .invokevirtual 35, 0, 0, 0, .null), 
  (250, 3, .if_icmp .eq 626, 876, 0, 0, .null), (253, 1, .iconst 0, 0, 0, 0, .int 0), (254, 1, .ireturn, 0, 0, 0, .null), (255, 1, .aload_n 1, 1, 0, 0, .null), 
  (256, 1, .aload_n 0, 0, 0, 0, .null), (257, 1, .iload_n 3, 3, 0, 0, .null), (258, 1, .iconst 1, 0, 0, 0, .int 1), (259, 1, .iadd, 0, 0, 0, .null), 
  (260, 1, .iaload, 0, 0, 0, .null), (261, 1, .aload_n 0, 0, 0, 0, .null), (262, 1, .iload_n 3, 3, 0, 0, .null), (263, 1, .iconst 2, 0, 0, 0, .int 2), 
  (264, 1, .iadd, 0, 0, 0, .null), (265, 1, .iaload, 0, 0, 0, .null), (266, 3, .invokevirtual 36, 0, 0, 0, .null), (269, 1, .aload_n 2, 2, 0, 0, .null), 
  (270, 1, .aload_n 0, 0, 0, 0, .null), (271, 1, .iload_n 3, 3, 0, 0, .null), (272, 1, .iconst 1, 0, 0, 0, .int 1), (273, 1, .iadd, 0, 0, 0, .null), 
  (274, 1, .iaload, 0, 0, 0, .null), (275, 1, .aload_n 0, 0, 0, 0, .null), (276, 1, .iload_n 3, 3, 0, 0, .null), (277, 1, .iconst 2, 0, 0, 0, .int 2), 
  (278, 1, .iadd, 0, 0, 0, .null), (279, 1, .iaload, 0, 0, 0, .null), (280, 3, .invokevirtual 39, 0, 0, 0, .null), (283, 3, .if_icmp .eq 593, 876, 0, 0, .null), 
  (286, 1, .iconst 0, 0, 0, 0, .int 0), (287, 1, .ireturn, 0, 0, 0, .null), (288, 1, .aload_n 1, 1, 0, 0, .null), (289, 1, .aload_n 0, 0, 0, 0, .null), 
  (290, 1, .iload_n 3, 3, 0, 0, .null), (291, 1, .iconst 1, 0, 0, 0, .int 1), (292, 1, .iadd, 0, 0, 0, .null), (293, 1, .iaload, 0, 0, 0, .null)]
theorem okL2 : tL2.all (okI RL false code) = true := by decide +kernel
def tL3 : List CI := [
  (294, 1, .aload_n 0, 0, 0, 0, .null), (295, 1, .iload_n 3, 3, 0, 0, .null), (296, 1, .iconst 2, 0, 0, 0, .int 2), (297, 1, .iadd, 0, 0, 0, .null), 
  (298, 1, .iaload, 0, 0, 0, .null), (299, 3, .invokevirtual 40, 0, 0, 0, .null), (302, 1, .aload_n 2, 2, 0, 0, .null), (303, 1, .aload_n 0, 0, 0, 0, .null), 
  (304, 1, .iload_n 3, 3, 0, 0, .null), (305, 1, .iconst 1, 0, 0, 0, .int 1), (306, 1, .iadd, 0, 0, 0, .null), (307, 1, .iaload, 0, 0, 0, .null), 
  (308, 1, .aload_n 0, 0, 0, 0, .null), (309, 1, .iload_n 3, 3, 0, 0, .null), (310, 1, .iconst 2, 0, 0, 0, .int 2), (311, 1, .iadd, 0, 0, 0, .null), 
  (312, 1, .iaload, 0, 0, 0, .null), (313, 3, .invokevirtual 43, 0, 0, 0, .null), (316, 3, .if_icmp .eq 560, 876, 0, 0, .null), (319, 1, .iconst 0, 0, 0, 0, .int 0), 
  (320, 1, .ireturn, 0, 0, 0, .null), (321, 1, .aload_n 1, 1, 0, 0, .null), (322, 1, .aload_n 0, 0, 0, 0, .null), (323, 1, .iload_n 3, 3, 0, 0, .null), 
  (324, 1, .iconst 1, 0, 0, 0, .int 1), (325, 1, .iadd, 0, 0, 0, .null), (326, 1, .iaload, 0, 0, 0, .null), (327, 1, .aload_n 0, 0, 0, 0, .null), 
  (328, 1, .iload_n 3, 3, 0, 0, .null), (329, 1, .iconst 2, 0, 0, 0, .int 2), (330, 1, .iadd, 0, 0, 0, .null), (331, 1, .iaload, 0, 0, 0, .null), 
  (332, 3, .invokevirtual 44, 0, 0, 0, .null), (335, 1, .aload_n 2, 2, 0, 0, .null), (336, 1, .aload_n 0, 0, 0, 0, .null), (337, 1, .iload_n 3, 3, 0, 0, .null), 
  (338, 1, .iconst 1, 0, 0, 0, .int 1), (339, 1, .iadd, 0, 0, 0, .null), (340, 1, .iaload, 0, 0, 0, .null), (341, 1, .aload_n 0, 0, 0, 0, .null)]
theorem okL3 : tL3.all (okI RL false code) = true := by decide +kernel
def tL4 : List CI := [
  (342, 1, .iload_n 3, 3, 0, 0, .null), (343, 1, .iconst 2, 0, 0, 0, .int 2), (344, 1, .iadd, 0, 0, 0, .null), (345, 1, .iaload, 0, 0, 0, .null), 
  (346, 3, .invokevirtual 48, 0, 0, 0, .null), (349, 1, .lcmp, 0, 0, 0, .null), (350, 3, .ifCond .eq 526, 876, 0, 0, .null), (353, 1, .iconst 0, 0, 0, 0, .int 0), 
  (354, 1, .ireturn, 0, 0, 0, .null), (355, 1, .aload_n 1, 1, 0, 0, .null), (356, 1, .aload_n 0, 0, 0, 0, .null), (357, 1, .iload_n 3, 3, 0, 0, .null), 
  (358, 1, .iconst 1, 0, 0, 0, .int 1), (359, 1, .iadd, 0, 0, 0, .null), (360, 1, .iaload, 0, 0, 0, .null), (361, 1, .aload_n 0, 0, 0, 0, .null), 
  (362, 1, .iload_n 3, 3, 0, 0, .null), (363, 1, .iconst 2, 0, 0, 0, .int 2), (364, 1, .iadd, 0, 0, 0, .null), (365, 1, .iaload, 0, 0, 0, .null), 
  (366, 1, .aload_n 0, 0, 0, 0, .null), (367, 1, .iload_n 3, 3, 0, 0, .null), (368, 1, .iconst 3, 0, 0, 0, .int 3), (369, 1, .iadd, 0, 0, 0, .null), 
  (370, 1, .iaload, 0, 0, 0, .null), (371, 3, .invokevirtual 49, 0, 0, 0, .null), (374, 1, .aload_n 2, 2, 0, 0, .null), (375, 1, .aload_n 0, 0, 0, 0, .null), 
  (376, 1, .iload_n 3, 3, 0, 0, .null), (377, 1, .iconst 1, 0, 0, 0, .int 1), (378, 1, .iadd, 0, 0, 0, .null), (379, 1, .iaload, 0, 0, 0, .null), 
  (380, 1, .aload_n 0, 0, 0, 0, .null), (381, 1, .iload_n 3, 3, 0, 0, .null), (382, 1, .iconst 2, 0, 0, 0, .int 2), (383, 1, .iadd, 0, 0, 0, .null), 
  (384, 1, .iaload, 0, 0, 0, .null), (385, 1, .aload_n 0, 0, 0, 0, .null), (386, 1, .iload_n 3, 3, 0, 0, .null), (387, 1, .iconst 3, 0, 0, 0, .int 3)]
theorem okL4 : tL4.all (okI RL false code) = true := by decide +kernel
def tL5 : List CI := [
  (388, 1, .iadd, 0, 0, 0, .null), (389, 1, .iaload, 0, 0, 0, .null), (390, 3, .invokevirtual 53, 0, 0, 0, .null), (393, 3, .if_icmp .eq 483, 876, 0, 0, .null), 
  (396, 1, .iconst 0, 0, 0, 0, .int 0), (397, 1, .ireturn, 0, 0, 0, .null), (398, 1, .aload_n 1, 1, 0, 0, .null), (399, 1, .aload_n 0, 0, 0, 0, .null), 
  (400, 1, .iload_n 3, 3, 0, 0, .null), (401, 1, .iconst 1, 0, 0, 0, .int 1), (402, 1, .iadd, 0, 0, 0, .null), (403, 1, .iaload, 0, 0, 0, .null), 
  (404, 1, .aload_n 0, 0, 0, 0, .null), (405, 1, .iload_n 3, 3, 0, 0, .null), (406, 1, .iconst 2, 0, 0, 0, .int 2), (407, 1, .iadd, 0, 0, 0, .null), 
  (408, 1, .iaload, 0, 0, 0, .null), (409, 3, .invokevirtual 54, 0, 0, 0, .null), (412, 1, .aload_n 2, 2, 0, 0, .null), (413, 1, .aload_n 0, 0, 0, 0, .null), 
  (414, 1, .iload_n 3, 3, 0, 0, .null), (415, 1, .iconst 1, 0, 0, 0, .int 1), (416, 1, .iadd, 0, 0, 0, .null), (417, 1, .iaload, 0, 0, 0, .null), 
  (418, 1, .aload_n 0, 0, 0, 0, .null), (419, 1, .iload_n 3, 3, 0, 0, .null), (420, 1, .iconst 2, 0, 0, 0, .int 2), (421, 1, .iadd, 0, 0, 0, .null), 
  (422, 1, .iaload, 0, 0, 0, .null), (423, 3, .invokevirtual 57, 0, 0, 0, .null), (426, 3, .if_icmp .eq 450, 876, 0, 0, .null), (429, 1, .iconst 0, 0, 0, 0, .int 0), 
  (430, 1, .ireturn, 0, 0, 0, .null), (431, 1, .aload_n 1, 1, 0, 0, .null), (432, 1, .aload_n 0, 0, 0, 0, .null), (433, 1, .iload_n 3, 3, 0, 0, .null), 
  (434, 1, .iconst 1, 0, 0, 0, .int 1), (435, 1, .iadd, 0, 0, 0, .null), (436, 1, .iaload, 0, 0, 0, .null), (437, 1, .aload_n 0, 0, 0, 0, .null)]
theorem okL5 : tL5.all (okI RL false code) = true := by decide +kernel
def tL6 : List CI := [
  (438, 1, .iload_n 3, 3, 0, 0, .null), (439, 1, .iconst 2, 0, 0, 0, .int 2), (440, 1, .iadd, 0, 0, 0, .null), (441, 1, .iaload, 0, 0, 0, .null), 
  (442, 3, .invokevirtual 58, 0, 0, 0, .null), (445, 1, .aload_n 2, 2, 0, 0, .null), (446, 1, .aload_n 0, 0, 0, 0, .null), (447, 1, .iload_n 3, 3, 0, 0, .null), 
  (448, 1, .iconst 1, 0, 0, 0, .int 1), (449, 1, .iadd, 0, 0, 0, .null), (450, 1, .iaload, 0, 0, 0, .null), (451, 1, .aload_n 0, 0, 0, 0, .null), 
  (452, 1, .iload_n 3, 3, 0, 0, .null), (453, 1, .iconst 2, 0, 0, 0, .int 2), (454, 1, .iadd, 0, 0, 0, .null), (455, 1, .iaload, 0, 0, 0, .null), 
  (456, 3, .invokevirtual 61, 0, 0, 0, .null), (459, 3, .if_icmp .eq 417, 876, 0, 0, .null), (462, 1, .iconst 0, 0, 0, 0, .int 0), (463, 1, .ireturn, 0, 0, 0, .null), 
  (464, 1, .aload_n 1, 1, 0, 0, .null), (465, 1, .aload_n 0, 0, 0, 0, .null), (466, 1, .iload_n 3, 3, 0, 0, .null), (467, 1, .iconst 1, 0, 0, 0, .int 1), 
  (468, 1, .iadd, 0, 0, 0, .null), (469, 1, .iaload, 0, 0, 0, .null), (470, 1, .aload_n 0, 0, 0, 0, .null), (471, 1, .iload_n 3, 3, 0, 0, .null), 
  (472, 1, .iconst 2, 0, 0, 0, .int 2), (473, 1, .iadd, 0, 0, 0, .null), (474, 1, .iaload, 0, 0, 0, .null), (475, 3, .invokevirtual 62, 0, 0, 0, .null), 
  (478, 1, .aload_n 2, 2, 0, 0, .null), (479, 1, .aload_n 0, 0, 0, 0, .null), (480, 1, .iload_n 3, 3, 0, 0, .null), (481, 1, .iconst 1, 0, 0, 0, .int 1), 
  (482, 1, .iadd, 0, 0, 0, .null), (483, 1, .iaload, 0, 0, 0, .null), (484, 1, .aload_n 0, 0, 0, 0, .null), (485, 1, .iload_n 3, 3, 0, 0, .null)]
theorem okL6 : tL6.all (okI RL false code) = true := by decide +kernel
def tL7 : List CI := [
  (486, 1, .iconst 2, 0, 0, 0, .int 2), (487, 1, .iadd, 0, 0, 0, .null), (488, 1, .iaload, 0, 0, 0, .null), (489, 3, .invokevirtual 65, 0, 0, 0, .null), 
  (492, 1, .lcmp, 0, 0, 0, .null), (493, 3, .ifCond .eq 383, 876, 0, 0, .null), (496, 1, .iconst 0, 0, 0, 0, .int 0), (497, 1, .ireturn, 0, 0, 0, .null), 
  (498, 1, .aload_n 1, 1, 0, 0, .null), (499, 1, .aload_n 0, 0, 0, 0, .null), (500, 1, .iload_n 3, 3, 0, 0, .null), (501, 1, .iconst 1, 0, 0, 0, .int 1), 
  (502, 1, .iadd, 0, 0, 0, .null), (503, 1, .iaload, 0, 0, 0, .null), (504, 1, .aload_n 0, 0, 0, 0, .null), (505, 1, .iload_n 3, 3, 0, 0, .null), 
  (506, 1, .iconst 2, 0, 0, 0, .int 2), (507, 1, .iadd, 0, 0, 0, .null), (508, 1, .iaload, 0, 0, 0, .null), (509, 3, .invokevirtual 66, 0, 0, 0, .null), 
  (512, 1, .aload_n 2, 2, 0, 0, .null), (513, 1, .aload_n 0, 0, 0, 0, .null), (514, 1, .iload_n 3, 3, 0, 0, .null), (515, 1, .iconst 1, 0, 0, 0, .int 1), 
  (516, 1, .iadd, 0, 0, 0, .null), (517, 1, .iaload, 0, 0, 0, .null), (518, 1, .aload_n 0, 0, 0, 0, .null), (519, 1, .iload_n 3, 3, 0, 0, .null), 
  (520, 1, .iconst 2, 0, 0, 0, .int 2), (521, 1, .iadd, 0, 0, 0, .null), (522, 1, .iaload, 0, 0, 0, .null), (523, 3, .invokevirtual 69, 0, 0, 0, .null), 
  (526, 3, .if_icmp .eq 350, 876, 0, 0, .null), (529, 1, .iconst 0, 0, 0, 0, .int 0), (530, 1, .ireturn, 0, 0, 0, .null), (531, 1, .aload_n 1, 1, 0, 0, .null), 
  (532, 3, .invokevirtual 70, 0, 0, 0, .null), (535, 1, .aload_n 2, 2, 0, 0, .null), (536, 3, .invokevirtual 73, 0, 0, 0, .null), (539, 3, .if_icmp .eq 337, 876, 0, 0, .null)]
theorem okL7 : tL7.all (okI RL false code) = true := by decide +kernel
def tL8 : List CI := [
  (542, 1, .iconst 0, 0, 0, 0, .int 0), (543, 1, .ireturn, 0, 0, 0, .null), (544, 1, .aload_n 1, 1, 0, 0, .null), (545, 1, .aload_n 0, 0, 0, 0, .null), 
  (546, 1, .iload_n 3, 3, 0, 0, .null), (547, 1, .iconst 1, 0, 0, 0, .int 1), (548, 1, .iadd, 0, 0, 0, .null), (549, 1, .iaload, 0, 0, 0, .null), 
  (550, 3, .invokevirtual 74, 0, 0, 0, .null), (553, 1, .aload_n 2, 2, 0, 0, .null), (554, 1, .aload_n 0, 0, 0, 0, .null), (555, 1, .iload_n 3, 3, 0, 0, .null), 
  (556, 1, .iconst 1, 0, 0, 0, .int 1), (557, 1, .iadd, 0, 0, 0, .null), (558, 1, .iaload, 0, 0, 0, .null), (559, 3, .invokevirtual 77, 0, 0, 0, .null), 
  (562, 3, .if_icmp .eq 314, 876, 0, 0, .null), (565, 1, .iconst 0, 0, 0, 0, .int 0), (566, 1, .ireturn, 0, 0, 0, .null), (567, 1, .aload_n 1, 1, 0, 0, .null), 
  (568, 1, .aload_n 0, 0, 0, 0, .null), (569, 1, .iload_n 3, 3, 0, 0, .null), (570, 1, .iconst 1, 0, 0, 0, .int 1), (571, 1, .iadd, 0, 0, 0, .null), 
  (572, 1, .iaload, 0, 0, 0, .null), (573, 1, .aload_n 0, 0, 0, 0, .null), (574, 1, .iload_n 3, 3, 0, 0, .null), (575, 1, .iconst 2, 0, 0, 0, .int 2), 
  (576, 1, .iadd, 0, 0, 0, .null), (577, 1, .iaload, 0, 0, 0, .null), (578, 3, .invokevirtual 78, 0, 0, 0, .null), (581, 1, .aload_n 2, 2, 0, 0, .null), 
  (582, 1, .aload_n 0, 0, 0, 0, .null), (583, 1, .iload_n 3, 3, 0, 0, .null), (584, 1, .iconst 1, 0, 0, 0, .int 1), (585, 1, .iadd, 0, 0, 0, .null), 
  (586, 1, .iaload, 0, 0, 0, .null), (587, 1, .aload_n 0, 0, 0, 0, .null), (588, 1, .iload_n 3, 3, 0, 0, .null), (589, 1, .iconst 2, 0, 0, 0, .int 2)]
theorem okL8 : tL8.all (okI RL false code) = true := by decide +kernel
def tL9 : List CI := [
  (590, 1, .iadd, 0, 0, 0, .null), (591, 1, .iaload, 0, 0, 0, .null), (592, 3, .invokevirtual 81, 0, 0, 0, .null), (595, 3, .if_icmp .eq 281, 876, 0, 0, .null), 
  (598, 1, .iconst 0, 0, 0, 0, .int 0), (599, 1, .ireturn, 0, 0, 0, .null), (600, 1, .aload_n 1, 1, 0, 0, .null), (601, 1, .aload_n 0, 0, 0, 0, .null), 
  (602, 1, .iload_n 3, 3, 0, 0, .null), (603, 1, .iconst 1, 0, 0, 0, .int 1), (604, 1, .iadd, 0, 0, 0, .null), (605, 1, .iaload, 0, 0, 0, .null), 
  (606, 3, .invokevirtual 82, 0, 0, 0, .null), (609, 1, .aload_n 2, 2, 0, 0, .null), (610, 1, .aload_n 0, 0, 0, 0, .null), (611, 1, .iload_n 3, 3, 0, 0, .null), 
  (612, 1, .iconst 1, 0, 0, 0, .int 1), (613, 1, .iadd, 0, 0, 0, .null), (614, 1, .iaload, 0, 0, 0, .null), (615, 3, .invokevirtual 85, 0, 0, 0, .null), 
  (618, 3, .if_icmp .eq 258, 876, 0, 0, .null), (621, 1, .iconst 0, 0, 0, 0, .int 0), (622, 1, .ireturn, 0, 0, 0, .null), (623, 1, .aload_n 1, 1, 0, 0, .null), 
  (624, 3, .invokevirtual 86, 0, 0, 0, .null), (627, 1, .aload_n 2, 2, 0, 0, .null), (628, 3, .invokevirtual 89, 0, 0, 0, .null), (631, 3, .if_icmp .eq 245, 876, 0, 0, .null), 
  (634, 1, .iconst 0, 0, 0, 0, .int 0), (635, 1, .ireturn, 0, 0, 0, .null), (636, 1, .aload_n 1, 1, 0, 0, .null), (637, 3, .invokevirtual 90, 0, 0, 0, .null), 
  (640, 1, .aload_n 2, 2, 0, 0, .null), (641, 3, .invokevirtual 93, 0, 0, 0, .null), (644, 3, .if_icmp .eq 232, 876, 0, 0, .null), (647, 1, .iconst 0, 0, 0, 0, .int 0), 
  (648, 1, .ireturn, 0, 0, 0, .null), (649, 1, .aload_n 1, 1, 0, 0, .null), (650, 3, .invokevirtual 94, 0, 0, 0, .null), (653, 1, .aload_n 2, 2, 0, 0, .null)]
theorem okL9 : tL9.all (okI RL false code) = true := by decide +kernel
def tL10 : List CI := [
  (654, 3, .invokevirtual 97, 0, 0, 0, .null), (657, 3, .if_icmp .eq 219, 876, 0, 0, .null), (660, 1, .iconst 0, 0, 0, 0, .int 0), (661, 1, .ireturn, 0, 0, 0, .null), 
  (662, 1, .aload_n 1, 1, 0, 0, .null), (663, 1, .aload_n 0, 0, 0, 0, .null), (664, 1, .iload_n 3, 3, 0, 0, .null), (665, 1, .iconst 1, 0, 0, 0, .int 1), 
  (666, 1, .iadd, 0, 0, 0, .null), (667, 1, .iaload, 0, 0, 0, .null), (668, 3, .invokevirtual 98, 0, 0, 0, .null), (671, 1, .aload_n 2, 2, 0, 0, .null), 
  (672, 1, .aload_n 0, 0, 0, 0, .null), (673, 1, .iload_n 3, 3, 0, 0, .null), (674, 1, .iconst 1, 0, 0, 0, .int 1), (675, 1, .iadd, 0, 0, 0, .null), 
  (676, 1, .iaload, 0, 0, 0, .null), (677, 3, .invokevirtual 101, 0, 0, 0, .null), (680, 3, .if_icmp .eq 196, 876, 0, 0, .null), (683, 1, .iconst 0, 0, 0, 0, .int 0), 
  (684, 1, .ireturn, 0, 0, 0, .null), (685, 1, .aload_n 1, 1, 0, 0, .null), (686, 1, .aload_n 0, 0, 0, 0, .null), (687, 1, .iload_n 3, 3, 0, 0, .null), 
  (688, 1, .iconst 1, 0, 0, 0, .int 1), (689, 1, .iadd, 0, 0, 0, .null), (690, 1, .iaload, 0, 0, 0, .null), (691, 3, .invokevirtual 102, 0, 0, 0, .null), 
  (694, 1, .aload_n 2, 2, 0, 0, .null), (695, 1, .aload_n 0, 0, 0, 0, .null), (696, 1, .iload_n 3, 3, 0, 0, .null), (697, 1, .iconst 1, 0, 0, 0, .int 1), 
  (698, 1, .iadd, 0, 0, 0, .null), (699, 1, .iaload, 0, 0, 0, .null), (700, 3, .invokevirtual 105, 0, 0, 0, .null), (703, 3, .if_icmp .eq 173, 876, 0, 0, .null), 
  (706, 1, .iconst 0, 0, 0, 0, .int 0), (707, 1, .ireturn, 0, 0, 0, .null), (708, 1, .aload_n 1, 1, 0, 0, .null), (709, 1, .aload_n 0, 0, 0, 0, .null)]
theorem okL10 : tL10.all (okI RL false code) = true := by decide +kernel
def tL11 : List CI := [
  (710, 1, .iload_n 3, 3, 0, 0, .null), (711, 1, .iconst 1, 0, 0, 0, .int 1), (712, 1, .iadd, 0, 0, 0, .null), (713, 1, .iaload, 0, 0, 0, .null), 
  (714, 1, .aload_n 0, 0, 0, 0, .null), (715, 1, .iload_n 3, 3, 0, 0, .null), (716, 1, .iconst 2, 0, 0, 0, .int 2), (717, 1, .iadd, 0, 0, 0, .null), 
  (718, 1, .iaload, 0, 0, 0, .null), (719, 3, .invokevirtual 106, 0, 0, 0, .null), (722, 1, .aload_n 2, 2, 0, 0, .null), (723, 1, .aload_n 0, 0, 0, 0, .null), 
  (724, 1, .iload_n 3, 3, 0, 0, .null), (725, 1, .iconst 1, 0, 0, 0, .int 1), (726, 1, .iadd, 0, 0, 0, .null), (727, 1, .iaload, 0, 0, 0, .null), 
  (728, 1, .aload_n 0, 0, 0, 0, .null), (729, 1, .iload_n 3, 3, 0, 0, .null), (730, 1, .iconst 2, 0, 0, 0, .int 2), (731, 1, .iadd, 0, 0, 0, .null), 
  (732, 1, .iaload, 0, 0, 0, .null), (733, 3, .invokevirtual 109, 0, 0, 0, .null), (736, 3, .if_icmp .eq 140, 876, 0, 0, .null), (739, 1, .iconst 0, 0, 0, 0, .int 0), 
  (740, 1, .ireturn, 0, 0, 0, .null), (741, 1, .aload_n 1, 1, 0, 0, .null), (742, 1, .aload_n 0, 0, 0, 0, .null), (743, 1, .iload_n 3, 3, 0, 0, .null), 
  (744, 1, .iconst 1, 0, 0, 0, .int 1), (745, 1, .iadd, 0, 0, 0, .null), (746, 1, .iaload, 0, 0, 0, .null), (747, 1, .aload_n 0, 0, 0, 0, .null), 
  (748, 1, .iload_n 3, 3, 0, 0, .null), (749, 1, .iconst 2, 0, 0, 0, .int 2), (750, 1, .iadd, 0, 0, 0, .null), (751, 1, .iaload, 0, 0, 0, .null), 
  (752, 3, .invokevirtual 110, 0, 0, 0, .null), (755, 1, .aload_n 2, 2, 0, 0, .null), (756, 1, .aload_n 0, 0, 0, 0, .null), (757, 1, .iload_n 3, 3, 0, 0, .null)]
theorem okL11 : tL11.all (okI RL false code) = true := by decide +kernel
def tL12 : List CI := [
  (758, 1, .iconst 1, 0, 0, 0, .int 1), (759, 1, .iadd, 0, 0, 0, .null), (760, 1, .iaload, 0, 0, 0, .null), (761, 1, .aload_n 0, 0, 0, 0, .null), 
  (762, 1, .iload_n 3, 3, 0, 0, .null), (763, 1, .iconst 2, 0, 0, 0, .int 2), (764, 1, .iadd, 0, 0, 0, .null), (765, 1, .iaload, 0, 0, 0, .null), 
  (766, 3, .invokevirtual 113, 0, 0, 0, .null), (769, 3, .if_icmp .eq 107, 876, 0, 0, .null), (772, 1, .iconst 0, 0, 0, 0, .int 0), (773, 1, .ireturn, 0, 0, 0, .null), 
  (774, 1, .aload_n 1, 1, 0, 0, .null), (775, 1, .aload_n 0, 0, 0, 0, .null), (776, 1, .iload_n 3, 3, 0, 0, .null), (777, 1, .iconst 1, 0, 0, 0, .int 1), 
  (778, 1, .iadd, 0, 0, 0, .null), (779, 1, .iaload, 0, 0, 0, .null), (780, 1, .aload_n 0, 0, 0, 0, .null), (781, 1, .iload_n 3, 3, 0, 0, .null), 
  (782, 1, .iconst 2, 0, 0, 0, .int 2), (783, 1, .iadd, 0, 0, 0, .null), (784, 1, .iaload, 0, 0, 0, .null), (785, 3, .invokevirtual 114, 0, 0, 0, .null), 
  (788, 1, .aload_n 2, 2, 0, 0, .null), (789, 1, .aload_n 0, 0, 0, 0, .null), (790, 1, .iload_n 3, 3, 0, 0, .null), (791, 1, .iconst 1, 0, 0, 0, .int 1), 
  (792, 1, .iadd, 0, 0, 0, .null), (793, 1, .iaload, 0, 0, 0, .null), (794, 1, .aload_n 0, 0, 0, 0, .null), (795, 1, .iload_n 3, 3, 0, 0, .null), 
  (796, 1, .iconst 2, 0, 0, 0, .int 2), (797, 1, .iadd, 0, 0, 0, .null), (798, 1, .iaload, 0, 0, 0, .null), (799, 3, .invokevirtual 117, 0, 0, 0, .null), 
  (802, 3, .if_icmp .eq 74, 876, 0, 0, .null), (805, 1, .iconst 0, 0, 0, 0, .int 0), (806, 1, .ireturn, 0, 0, 0, .null), (807, 1, .aload_n 1, 1, 0, 0, .null)]
theorem okL12 : tL12.all (okI RL false code) = true := by decide +kernel
def tL13 : List CI := [
  (808, 1, .aload_n 0, 0, 0, 0, .null), (809, 1, .iload_n 3, 3, 0, 0, .null), (810, 1, .iconst 1, 0, 0, 0, .int 1), (811, 1, .iadd, 0, 0, 0, .null), 
  (812, 1, .iaload, 0, 0, 0, .null), (813, 3, .invokevirtual 118, 0, 0, 0, .null), (816, 1, .aload_n 2, 2, 0, 0, .null), (817, 1, .aload_n 0, 0, 0, 0, .null), 
  (818, 1, .iload_n 3, 3, 0, 0, .null), (819, 1, .iconst 1, 0, 0, 0, .int 1), (820, 1, .iadd, 0, 0, 0, .null), (821, 1, .iaload, 0, 0, 0, .null), 
  (822, 3, .invokevirtual 121, 0, 0, 0, .null), (825, 3, .if_icmp .eq 51, 876, 0, 0, .null), (828, 1, .iconst 0, 0, 0, 0, .int 0), (829, 1, .ireturn, 0, 0, 0, .null), 
  (830, 1, .aload_n 1, 1, 0, 0, .null), (831, 1, .aload_n 0, 0, 0, 0, .null), (832, 1, .iload_n 3, 3, 0, 0, .null), (833, 1, .iconst 1, 0, 0, 0, .int 1), 
  (834, 1, .iadd, 0, 0, 0, .null), (835, 1, .iaload, 0, 0, 0, .null), (836, 3, .invokevirtual 122, 0, 0, 0, .null), (839, 1, .aload_n 2, 2, 0, 0, .null), 
  (840, 1, .aload_n 0, 0, 0, 0, .null), (841, 1, .iload_n 3, 3, 0, 0, .null), (842, 1, .iconst 1, 0, 0, 0, .int 1), (843, 1, .iadd, 0, 0, 0, .null), 
  (844, 1, .iaload, 0, 0, 0, .null), (845, 3, .invokevirtual 125, 0, 0, 0, .null), (848, 3, .if_icmp .eq 28, 876, 0, 0, .null), (851, 1, .iconst 0, 0, 0, 0, .int 0), 
  (852, 1, .ireturn, 0, 0, 0, .null), (853, 1, .aload_n 1, 1, 0, 0, .null), (854, 1, .aload_n 0, 0, 0, 0, .null), (855, 1, .iload_n 3, 3, 0, 0, .null), 
  (856, 1, .iconst 1, 0, 0, 0, .int 1), (857, 1, .iadd, 0, 0, 0, .null), (858, 1, .iaload, 0, 0, 0, .null), (859, 3, .invokevirtual 126, 0, 0, 0, .null)]
theorem okL13 : tL13.all (okI RL false code) = true := by decide +kernel
def tL14 : List CI := [
  (862, 1, .aload_n 2, 2, 0, 0, .null), (863, 1, .aload_n 0, 0, 0, 0, .null), (864, 1, .iload_n 3, 3, 0, 0, .null), (865, 1, .iconst 1, 0, 0, 0, .int 1), 
  (866, 1, .iadd, 0, 0, 0, .null), (867, 1, .iaload, 0, 0, 0, .null), (868, 3, .invokevirtual 129, 0, 0, 0, .null), (871, 3, .if_icmp .eq 5, 876, 0, 0, .null), 
  (874, 1, .iconst 0, 0, 0, 0, .int 0), (875, 1, .ireturn, 0, 0, 0, .null), (876, 3, .iinc 3 4, 3, 0, 0, .int 4), (879, 3, .goto (-861), 18, 0, 0, .null), 
  (882, 1, .iconst 1, 0, 0, 0, .int 1), (883, 1, .ireturn, 0, 0, 0, .null)]
theorem okL14 : tL14.all (okI RL false code) = true := by decide +kernel
def apC : List CI → List CI → List CI
  | [], b => b
  | a :: r, b => a :: apC r b
theorem apC_all {p : CI → Bool} {a b : List CI} (h1 : a.all p = true) (h2 : b.all p = true) : (apC a b).all p = true := by
  induction a with
  | nil => exact h2
  | cons c r ih =>
    simp only [List.all_cons, Bool.and_eq_true] at h1
    simp only [apC, List.all_cons, Bool.and_eq_true]
    exact ⟨h1.1, ih h1.2⟩
def tL_law : List CI := apC tL0 (apC tL1 (apC tL2 (apC tL3 (apC tL4 (apC tL5 (apC tL6 (apC tL7 (apC tL8 (apC tL9 (apC tL10 (apC tL11 (apC tL12 (apC tL13 (tL14))))))))))))))
theorem okL_law : tL_law.all (okI RL false code) = true := apC_all okL0 (apC_all okL1 (apC_all okL2 (apC_all okL3 (apC_all okL4 (apC_all okL5 (apC_all okL6 (apC_all okL7 (apC_all okL8 (apC_all okL9 (apC_all okL10 (apC_all okL11 (apC_all okL12 (apC_all okL13 (okL14))))))))))))))
theorem dpX11_init : (decide (yX11_init.cls ≠ "java/lang/invoke/MethodHandle") && decide (yX11_init.cls ≠ "java/lang/invoke/VarHandle") && decide ((parseMethodDescriptor yX11_init.desc).map (fun d => d.parameters.length) = some 0)) = true := by decide +kernel
theorem lkL_9 : ∀ w ∈ [Cond.methodLink RL 9 yX11_init, .instanceMethod yX11_init, .initialized yX11_init.cls, .code yX11_init cX11_init 1 none], w ∈ TG := in_by [92, 93, 74, 94] (by decide +kernel)
theorem dpX12_init : (decide (yX12_init.cls ≠ "java/lang/invoke/MethodHandle") && decide (yX12_init.cls ≠ "java/lang/invoke/VarHandle") && decide ((parseMethodDescriptor yX12_init.desc).map (fun d => d.parameters.length) = some 0)) = true := by decide +kernel
theorem lkL_12 : ∀ w ∈ [Cond.methodLink RL 12 yX12_init, .instanceMethod yX12_init, .initialized yX12_init.cls, .code yX12_init cX12_init 1 none], w ∈ TG := in_by [854, 855, 87, 856] (by decide +kernel)
theorem dpX11_say : (decide (yX11_say.cls ≠ "java/lang/invoke/MethodHandle") && decide (yX11_say.cls ≠ "java/lang/invoke/VarHandle") && decide ((parseMethodDescriptor yX11_say.desc).map (fun d => d.parameters.length) = some 1)) = true := by decide +kernel
theorem lkL_13 : ∀ w ∈ [Cond.methodLink RL 13 yX11_say, .instanceMethod yX11_say, .selects yX11_say.cls yX11_say yX11_say, .initialized yX11_say.cls, .code yX11_say cX11_say 2 (some .int)], w ∈ TG := in_by [424, 425, 426, 74, 427] (by decide +kernel)
theorem dpX12_say : (decide (yX12_say.cls ≠ "java/lang/invoke/MethodHandle") && decide (yX12_say.cls ≠ "java/lang/invoke/VarHandle") && decide ((parseMethodDescriptor yX12_say.desc).map (fun d => d.parameters.length) = some 1)) = true := by decide +kernel
theorem lkL_17 : ∀ w ∈ [Cond.methodLink RL 17 yX12_say, .instanceMethod yX12_say, .selects yX12_say.cls yX12_say yX12_say, .initialized yX12_say.cls, .code yX12_say cX12_say 2 (some .int)], w ∈ TG := in_by [994, 995, 996, 87, 997] (by decide +kernel)
theorem dpX11_wipe : (decide (yX11_wipe.cls ≠ "java/lang/invoke/MethodHandle") && decide (yX11_wipe.cls ≠ "java/lang/invoke/VarHandle") && decide ((parseMethodDescriptor yX11_wipe.desc).map (fun d => d.parameters.length) = some 0)) = true := by decide +kernel
theorem lkL_18 : ∀ w ∈ [Cond.methodLink RL 18 yX11_wipe, .instanceMethod yX11_wipe, .selects yX11_wipe.cls yX11_wipe yX11_wipe, .initialized yX11_wipe.cls, .code yX11_wipe cX11_wipe 2 (some .int)], w ∈ TG := in_by [428, 429, 430, 74, 431] (by decide +kernel)
theorem dpX12_wipe : (decide (yX12_wipe.cls ≠ "java/lang/invoke/MethodHandle") && decide (yX12_wipe.cls ≠ "java/lang/invoke/VarHandle") && decide ((parseMethodDescriptor yX12_wipe.desc).map (fun d => d.parameters.length) = some 0)) = true := by decide +kernel
theorem lkL_22 : ∀ w ∈ [Cond.methodLink RL 22 yX12_wipe, .instanceMethod yX12_wipe, .selects yX12_wipe.cls yX12_wipe yX12_wipe, .initialized yX12_wipe.cls, .code yX12_wipe cX12_wipe 2 (some .int)], w ∈ TG := in_by [1003, 1004, 1005, 87, 1006] (by decide +kernel)
theorem dpX11_fault : (decide (yX11_fault.cls ≠ "java/lang/invoke/MethodHandle") && decide (yX11_fault.cls ≠ "java/lang/invoke/VarHandle") && decide ((parseMethodDescriptor yX11_fault.desc).map (fun d => d.parameters.length) = some 0)) = true := by decide +kernel
theorem lkL_23 : ∀ w ∈ [Cond.methodLink RL 23 yX11_fault, .instanceMethod yX11_fault, .selects yX11_fault.cls yX11_fault yX11_fault, .initialized yX11_fault.cls, .code yX11_fault cX11_fault 1 (some .int)], w ∈ TG := in_by [432, 433, 434, 74, 435] (by decide +kernel)
theorem lkL_26 : ∀ w ∈ [Cond.methodLink RL 26 yX12_fault, .instanceMethod yX12_fault, .selects yX12_fault.cls yX12_fault yX12_fault, .initialized yX12_fault.cls, .code yX12_fault cX12_fault 7 (some .int)], w ∈ TG := in_by [1007, 1008, 1009, 87, 1010] (by decide +kernel)
theorem dpX11_yard : (decide (yX11_yard.cls ≠ "java/lang/invoke/MethodHandle") && decide (yX11_yard.cls ≠ "java/lang/invoke/VarHandle") && decide ((parseMethodDescriptor yX11_yard.desc).map (fun d => d.parameters.length) = some 0)) = true := by decide +kernel
theorem lkL_27 : ∀ w ∈ [Cond.methodLink RL 27 yX11_yard, .instanceMethod yX11_yard, .selects yX11_yard.cls yX11_yard yX11_yard, .initialized yX11_yard.cls, .code yX11_yard cX11_yard 1 (some .int)], w ∈ TG := in_by [440, 441, 442, 74, 443] (by decide +kernel)
theorem dpX12_yard : (decide (yX12_yard.cls ≠ "java/lang/invoke/MethodHandle") && decide (yX12_yard.cls ≠ "java/lang/invoke/VarHandle") && decide ((parseMethodDescriptor yX12_yard.desc).map (fun d => d.parameters.length) = some 0)) = true := by decide +kernel
theorem lkL_30 : ∀ w ∈ [Cond.methodLink RL 30 yX12_yard, .instanceMethod yX12_yard, .selects yX12_yard.cls yX12_yard yX12_yard, .initialized yX12_yard.cls, .code yX12_yard cX12_yard 3 (some .int)], w ∈ TG := in_by [1016, 1017, 1018, 87, 1019] (by decide +kernel)
theorem dpX11_siding : (decide (yX11_siding.cls ≠ "java/lang/invoke/MethodHandle") && decide (yX11_siding.cls ≠ "java/lang/invoke/VarHandle") && decide ((parseMethodDescriptor yX11_siding.desc).map (fun d => d.parameters.length) = some 2)) = true := by decide +kernel
theorem lkL_31 : ∀ w ∈ [Cond.methodLink RL 31 yX11_siding, .instanceMethod yX11_siding, .selects yX11_siding.cls yX11_siding yX11_siding, .initialized yX11_siding.cls, .code yX11_siding cX11_siding 3 (some .int)], w ∈ TG := in_by [451, 452, 453, 74, 454] (by decide +kernel)
theorem dpX12_siding : (decide (yX12_siding.cls ≠ "java/lang/invoke/MethodHandle") && decide (yX12_siding.cls ≠ "java/lang/invoke/VarHandle") && decide ((parseMethodDescriptor yX12_siding.desc).map (fun d => d.parameters.length) = some 2)) = true := by decide +kernel
theorem lkL_35 : ∀ w ∈ [Cond.methodLink RL 35 yX12_siding, .instanceMethod yX12_siding, .selects yX12_siding.cls yX12_siding yX12_siding, .initialized yX12_siding.cls, .code yX12_siding cX12_siding 3 (some .int)], w ∈ TG := in_by [1024, 1025, 1026, 87, 1027] (by decide +kernel)
theorem dpX11_leads : (decide (yX11_leads.cls ≠ "java/lang/invoke/MethodHandle") && decide (yX11_leads.cls ≠ "java/lang/invoke/VarHandle") && decide ((parseMethodDescriptor yX11_leads.desc).map (fun d => d.parameters.length) = some 2)) = true := by decide +kernel
theorem lkL_36 : ∀ w ∈ [Cond.methodLink RL 36 yX11_leads, .instanceMethod yX11_leads, .selects yX11_leads.cls yX11_leads yX11_leads, .initialized yX11_leads.cls, .code yX11_leads cX11_leads 3 (some .int)], w ∈ TG := in_by [461, 462, 463, 74, 464] (by decide +kernel)
theorem dpX12_leads : (decide (yX12_leads.cls ≠ "java/lang/invoke/MethodHandle") && decide (yX12_leads.cls ≠ "java/lang/invoke/VarHandle") && decide ((parseMethodDescriptor yX12_leads.desc).map (fun d => d.parameters.length) = some 2)) = true := by decide +kernel
theorem lkL_39 : ∀ w ∈ [Cond.methodLink RL 39 yX12_leads, .instanceMethod yX12_leads, .selects yX12_leads.cls yX12_leads yX12_leads, .initialized yX12_leads.cls, .code yX12_leads cX12_leads 3 (some .int)], w ∈ TG := in_by [1031, 1032, 1033, 87, 1034] (by decide +kernel)
theorem dpX11_least : (decide (yX11_least.cls ≠ "java/lang/invoke/MethodHandle") && decide (yX11_least.cls ≠ "java/lang/invoke/VarHandle") && decide ((parseMethodDescriptor yX11_least.desc).map (fun d => d.parameters.length) = some 2)) = true := by decide +kernel
theorem lkL_40 : ∀ w ∈ [Cond.methodLink RL 40 yX11_least, .instanceMethod yX11_least, .selects yX11_least.cls yX11_least yX11_least, .initialized yX11_least.cls, .code yX11_least cX11_least 4 (some .int)], w ∈ TG := in_by [469, 470, 471, 74, 472] (by decide +kernel)
theorem dpX12_least : (decide (yX12_least.cls ≠ "java/lang/invoke/MethodHandle") && decide (yX12_least.cls ≠ "java/lang/invoke/VarHandle") && decide ((parseMethodDescriptor yX12_least.desc).map (fun d => d.parameters.length) = some 2)) = true := by decide +kernel
theorem lkL_43 : ∀ w ∈ [Cond.methodLink RL 43 yX12_least, .instanceMethod yX12_least, .selects yX12_least.cls yX12_least yX12_least, .initialized yX12_least.cls, .code yX12_least cX12_least 3 (some .int)], w ∈ TG := in_by [1040, 1041, 1042, 87, 1043] (by decide +kernel)
theorem dpX11_ways : (decide (yX11_ways.cls ≠ "java/lang/invoke/MethodHandle") && decide (yX11_ways.cls ≠ "java/lang/invoke/VarHandle") && decide ((parseMethodDescriptor yX11_ways.desc).map (fun d => d.parameters.length) = some 2)) = true := by decide +kernel
theorem lkL_44 : ∀ w ∈ [Cond.methodLink RL 44 yX11_ways, .instanceMethod yX11_ways, .selects yX11_ways.cls yX11_ways yX11_ways, .initialized yX11_ways.cls, .code yX11_ways cX11_ways 4 (some .long)], w ∈ TG := in_by [609, 610, 611, 74, 612] (by decide +kernel)
theorem dpX12_ways : (decide (yX12_ways.cls ≠ "java/lang/invoke/MethodHandle") && decide (yX12_ways.cls ≠ "java/lang/invoke/VarHandle") && decide ((parseMethodDescriptor yX12_ways.desc).map (fun d => d.parameters.length) = some 2)) = true := by decide +kernel
theorem lkL_48 : ∀ w ∈ [Cond.methodLink RL 48 yX12_ways, .instanceMethod yX12_ways, .selects yX12_ways.cls yX12_ways yX12_ways, .initialized yX12_ways.cls, .code yX12_ways cX12_ways 3 (some .long)], w ∈ TG := in_by [1120, 1121, 1122, 87, 1123] (by decide +kernel)
theorem dpX11_first : (decide (yX11_first.cls ≠ "java/lang/invoke/MethodHandle") && decide (yX11_first.cls ≠ "java/lang/invoke/VarHandle") && decide ((parseMethodDescriptor yX11_first.desc).map (fun d => d.parameters.length) = some 3)) = true := by decide +kernel
theorem lkL_49 : ∀ w ∈ [Cond.methodLink RL 49 yX11_first, .instanceMethod yX11_first, .selects yX11_first.cls yX11_first yX11_first, .initialized yX11_first.cls, .code yX11_first cX11_first 5 (some .int)], w ∈ TG := in_by [618, 619, 620, 74, 621] (by decide +kernel)
theorem dpX12_first : (decide (yX12_first.cls ≠ "java/lang/invoke/MethodHandle") && decide (yX12_first.cls ≠ "java/lang/invoke/VarHandle") && decide ((parseMethodDescriptor yX12_first.desc).map (fun d => d.parameters.length) = some 3)) = true := by decide +kernel
theorem lkL_53 : ∀ w ∈ [Cond.methodLink RL 53 yX12_first, .instanceMethod yX12_first, .selects yX12_first.cls yX12_first yX12_first, .initialized yX12_first.cls, .code yX12_first cX12_first 9 (some .int)], w ∈ TG := in_by [1125, 1126, 1127, 87, 1128] (by decide +kernel)
theorem dpX11_orders : (decide (yX11_orders.cls ≠ "java/lang/invoke/MethodHandle") && decide (yX11_orders.cls ≠ "java/lang/invoke/VarHandle") && decide ((parseMethodDescriptor yX11_orders.desc).map (fun d => d.parameters.length) = some 2)) = true := by decide +kernel
theorem lkL_54 : ∀ w ∈ [Cond.methodLink RL 54 yX11_orders, .instanceMethod yX11_orders, .selects yX11_orders.cls yX11_orders yX11_orders, .initialized yX11_orders.cls, .code yX11_orders cX11_orders 9 (some .int)], w ∈ TG := in_by [657, 658, 659, 74, 660] (by decide +kernel)
theorem dpX12_orders : (decide (yX12_orders.cls ≠ "java/lang/invoke/MethodHandle") && decide (yX12_orders.cls ≠ "java/lang/invoke/VarHandle") && decide ((parseMethodDescriptor yX12_orders.desc).map (fun d => d.parameters.length) = some 2)) = true := by decide +kernel
theorem lkL_57 : ∀ w ∈ [Cond.methodLink RL 57 yX12_orders, .instanceMethod yX12_orders, .selects yX12_orders.cls yX12_orders yX12_orders, .initialized yX12_orders.cls, .code yX12_orders cX12_orders 8 (some .int)], w ∈ TG := in_by [1141, 1142, 1143, 87, 1144] (by decide +kernel)
theorem dpX11_good : (decide (yX11_good.cls ≠ "java/lang/invoke/MethodHandle") && decide (yX11_good.cls ≠ "java/lang/invoke/VarHandle") && decide ((parseMethodDescriptor yX11_good.desc).map (fun d => d.parameters.length) = some 2)) = true := by decide +kernel
theorem lkL_58 : ∀ w ∈ [Cond.methodLink RL 58 yX11_good, .instanceMethod yX11_good, .selects yX11_good.cls yX11_good yX11_good, .initialized yX11_good.cls, .code yX11_good cX11_good 7 (some .int)], w ∈ TG := in_by [673, 674, 675, 74, 676] (by decide +kernel)
theorem dpX12_good : (decide (yX12_good.cls ≠ "java/lang/invoke/MethodHandle") && decide (yX12_good.cls ≠ "java/lang/invoke/VarHandle") && decide ((parseMethodDescriptor yX12_good.desc).map (fun d => d.parameters.length) = some 2)) = true := by decide +kernel
theorem lkL_61 : ∀ w ∈ [Cond.methodLink RL 61 yX12_good, .instanceMethod yX12_good, .selects yX12_good.cls yX12_good yX12_good, .initialized yX12_good.cls, .code yX12_good cX12_good 7 (some .int)], w ∈ TG := in_by [1154, 1155, 1156, 87, 1157] (by decide +kernel)
theorem dpX11_mean : (decide (yX11_mean.cls ≠ "java/lang/invoke/MethodHandle") && decide (yX11_mean.cls ≠ "java/lang/invoke/VarHandle") && decide ((parseMethodDescriptor yX11_mean.desc).map (fun d => d.parameters.length) = some 2)) = true := by decide +kernel
theorem lkL_62 : ∀ w ∈ [Cond.methodLink RL 62 yX11_mean, .instanceMethod yX11_mean, .selects yX11_mean.cls yX11_mean yX11_mean, .initialized yX11_mean.cls, .code yX11_mean cX11_mean 8 (some .long)], w ∈ TG := in_by [681, 682, 683, 74, 684] (by decide +kernel)
theorem dpX12_mean : (decide (yX12_mean.cls ≠ "java/lang/invoke/MethodHandle") && decide (yX12_mean.cls ≠ "java/lang/invoke/VarHandle") && decide ((parseMethodDescriptor yX12_mean.desc).map (fun d => d.parameters.length) = some 2)) = true := by decide +kernel
theorem lkL_65 : ∀ w ∈ [Cond.methodLink RL 65 yX12_mean, .instanceMethod yX12_mean, .selects yX12_mean.cls yX12_mean yX12_mean, .initialized yX12_mean.cls, .code yX12_mean cX12_mean 9 (some .long)], w ∈ TG := in_by [1170, 1171, 1172, 87, 1173] (by decide +kernel)
theorem dpX11_need : (decide (yX11_need.cls ≠ "java/lang/invoke/MethodHandle") && decide (yX11_need.cls ≠ "java/lang/invoke/VarHandle") && decide ((parseMethodDescriptor yX11_need.desc).map (fun d => d.parameters.length) = some 2)) = true := by decide +kernel
theorem lkL_66 : ∀ w ∈ [Cond.methodLink RL 66 yX11_need, .instanceMethod yX11_need, .selects yX11_need.cls yX11_need yX11_need, .initialized yX11_need.cls, .code yX11_need cX11_need 5 (some .int)], w ∈ TG := in_by [689, 690, 691, 74, 692] (by decide +kernel)
theorem dpX12_need : (decide (yX12_need.cls ≠ "java/lang/invoke/MethodHandle") && decide (yX12_need.cls ≠ "java/lang/invoke/VarHandle") && decide ((parseMethodDescriptor yX12_need.desc).map (fun d => d.parameters.length) = some 2)) = true := by decide +kernel
theorem lkL_69 : ∀ w ∈ [Cond.methodLink RL 69 yX12_need, .instanceMethod yX12_need, .selects yX12_need.cls yX12_need yX12_need, .initialized yX12_need.cls, .code yX12_need cX12_need 5 (some .int)], w ∈ TG := in_by [1178, 1179, 1180, 87, 1181] (by decide +kernel)
theorem dpX11_keep : (decide (yX11_keep.cls ≠ "java/lang/invoke/MethodHandle") && decide (yX11_keep.cls ≠ "java/lang/invoke/VarHandle") && decide ((parseMethodDescriptor yX11_keep.desc).map (fun d => d.parameters.length) = some 0)) = true := by decide +kernel
theorem lkL_70 : ∀ w ∈ [Cond.methodLink RL 70 yX11_keep, .instanceMethod yX11_keep, .selects yX11_keep.cls yX11_keep yX11_keep, .initialized yX11_keep.cls, .code yX11_keep cX11_keep 1 (some .int)], w ∈ TG := in_by [712, 713, 714, 74, 715] (by decide +kernel)
theorem dpX12_keep : (decide (yX12_keep.cls ≠ "java/lang/invoke/MethodHandle") && decide (yX12_keep.cls ≠ "java/lang/invoke/VarHandle") && decide ((parseMethodDescriptor yX12_keep.desc).map (fun d => d.parameters.length) = some 0)) = true := by decide +kernel
theorem lkL_73 : ∀ w ∈ [Cond.methodLink RL 73 yX12_keep, .instanceMethod yX12_keep, .selects yX12_keep.cls yX12_keep yX12_keep, .initialized yX12_keep.cls, .code yX12_keep cX12_keep 2 (some .int)], w ∈ TG := in_by [1185, 1186, 1187, 87, 1188] (by decide +kernel)
theorem dpX11_unlike : (decide (yX11_unlike.cls ≠ "java/lang/invoke/MethodHandle") && decide (yX11_unlike.cls ≠ "java/lang/invoke/VarHandle") && decide ((parseMethodDescriptor yX11_unlike.desc).map (fun d => d.parameters.length) = some 1)) = true := by decide +kernel
theorem lkL_74 : ∀ w ∈ [Cond.methodLink RL 74 yX11_unlike, .instanceMethod yX11_unlike, .selects yX11_unlike.cls yX11_unlike yX11_unlike, .initialized yX11_unlike.cls, .code yX11_unlike cX11_unlike 7 (some .int)], w ∈ TG := in_by [716, 717, 718, 74, 719] (by decide +kernel)
theorem dpX12_unlike : (decide (yX12_unlike.cls ≠ "java/lang/invoke/MethodHandle") && decide (yX12_unlike.cls ≠ "java/lang/invoke/VarHandle") && decide ((parseMethodDescriptor yX12_unlike.desc).map (fun d => d.parameters.length) = some 1)) = true := by decide +kernel
theorem lkL_77 : ∀ w ∈ [Cond.methodLink RL 77 yX12_unlike, .instanceMethod yX12_unlike, .selects yX12_unlike.cls yX12_unlike yX12_unlike, .initialized yX12_unlike.cls, .code yX12_unlike cX12_unlike 4 (some .int)], w ∈ TG := in_by [1189, 1190, 1191, 87, 1192] (by decide +kernel)
theorem dpX11_play : (decide (yX11_play.cls ≠ "java/lang/invoke/MethodHandle") && decide (yX11_play.cls ≠ "java/lang/invoke/VarHandle") && decide ((parseMethodDescriptor yX11_play.desc).map (fun d => d.parameters.length) = some 2)) = true := by decide +kernel
theorem lkL_78 : ∀ w ∈ [Cond.methodLink RL 78 yX11_play, .instanceMethod yX11_play, .selects yX11_play.cls yX11_play yX11_play, .initialized yX11_play.cls, .code yX11_play cX11_play 5 (some .int)], w ∈ TG := in_by [720, 721, 722, 74, 723] (by decide +kernel)
theorem dpX12_play : (decide (yX12_play.cls ≠ "java/lang/invoke/MethodHandle") && decide (yX12_play.cls ≠ "java/lang/invoke/VarHandle") && decide ((parseMethodDescriptor yX12_play.desc).map (fun d => d.parameters.length) = some 2)) = true := by decide +kernel
theorem lkL_81 : ∀ w ∈ [Cond.methodLink RL 81 yX12_play, .instanceMethod yX12_play, .selects yX12_play.cls yX12_play yX12_play, .initialized yX12_play.cls, .code yX12_play cX12_play 3 (some .int)], w ∈ TG := in_by [1196, 1197, 1198, 87, 1199] (by decide +kernel)
theorem dpX11_move : (decide (yX11_move.cls ≠ "java/lang/invoke/MethodHandle") && decide (yX11_move.cls ≠ "java/lang/invoke/VarHandle") && decide ((parseMethodDescriptor yX11_move.desc).map (fun d => d.parameters.length) = some 1)) = true := by decide +kernel
theorem lkL_82 : ∀ w ∈ [Cond.methodLink RL 82 yX11_move, .instanceMethod yX11_move, .selects yX11_move.cls yX11_move yX11_move, .initialized yX11_move.cls, .code yX11_move cX11_move 2 (some .int)], w ∈ TG := in_by [730, 731, 732, 74, 733] (by decide +kernel)
theorem dpX12_move : (decide (yX12_move.cls ≠ "java/lang/invoke/MethodHandle") && decide (yX12_move.cls ≠ "java/lang/invoke/VarHandle") && decide ((parseMethodDescriptor yX12_move.desc).map (fun d => d.parameters.length) = some 1)) = true := by decide +kernel
theorem lkL_85 : ∀ w ∈ [Cond.methodLink RL 85 yX12_move, .instanceMethod yX12_move, .selects yX12_move.cls yX12_move yX12_move, .initialized yX12_move.cls, .code yX12_move cX12_move 6 (some .int)], w ∈ TG := in_by [1200, 1201, 1202, 87, 1203] (by decide +kernel)
theorem dpX11_back : (decide (yX11_back.cls ≠ "java/lang/invoke/MethodHandle") && decide (yX11_back.cls ≠ "java/lang/invoke/VarHandle") && decide ((parseMethodDescriptor yX11_back.desc).map (fun d => d.parameters.length) = some 0)) = true := by decide +kernel
theorem lkL_86 : ∀ w ∈ [Cond.methodLink RL 86 yX11_back, .instanceMethod yX11_back, .selects yX11_back.cls yX11_back yX11_back, .initialized yX11_back.cls, .code yX11_back cX11_back 1 (some .int)], w ∈ TG := in_by [745, 746, 747, 74, 748] (by decide +kernel)
theorem dpX12_back : (decide (yX12_back.cls ≠ "java/lang/invoke/MethodHandle") && decide (yX12_back.cls ≠ "java/lang/invoke/VarHandle") && decide ((parseMethodDescriptor yX12_back.desc).map (fun d => d.parameters.length) = some 0)) = true := by decide +kernel
theorem lkL_89 : ∀ w ∈ [Cond.methodLink RL 89 yX12_back, .instanceMethod yX12_back, .selects yX12_back.cls yX12_back yX12_back, .initialized yX12_back.cls, .code yX12_back cX12_back 1 (some .int)], w ∈ TG := in_by [1204, 1205, 1206, 87, 1207] (by decide +kernel)
theorem dpX11_rest : (decide (yX11_rest.cls ≠ "java/lang/invoke/MethodHandle") && decide (yX11_rest.cls ≠ "java/lang/invoke/VarHandle") && decide ((parseMethodDescriptor yX11_rest.desc).map (fun d => d.parameters.length) = some 0)) = true := by decide +kernel
theorem lkL_90 : ∀ w ∈ [Cond.methodLink RL 90 yX11_rest, .instanceMethod yX11_rest, .selects yX11_rest.cls yX11_rest yX11_rest, .initialized yX11_rest.cls, .code yX11_rest cX11_rest 2 (some .int)], w ∈ TG := in_by [754, 755, 756, 74, 757] (by decide +kernel)
theorem dpX12_rest : (decide (yX12_rest.cls ≠ "java/lang/invoke/MethodHandle") && decide (yX12_rest.cls ≠ "java/lang/invoke/VarHandle") && decide ((parseMethodDescriptor yX12_rest.desc).map (fun d => d.parameters.length) = some 0)) = true := by decide +kernel
theorem lkL_93 : ∀ w ∈ [Cond.methodLink RL 93 yX12_rest, .instanceMethod yX12_rest, .selects yX12_rest.cls yX12_rest yX12_rest, .initialized yX12_rest.cls, .code yX12_rest cX12_rest 1 (some .int)], w ∈ TG := in_by [1208, 1209, 1210, 87, 1211] (by decide +kernel)
theorem dpX11_next : (decide (yX11_next.cls ≠ "java/lang/invoke/MethodHandle") && decide (yX11_next.cls ≠ "java/lang/invoke/VarHandle") && decide ((parseMethodDescriptor yX11_next.desc).map (fun d => d.parameters.length) = some 0)) = true := by decide +kernel
theorem lkL_94 : ∀ w ∈ [Cond.methodLink RL 94 yX11_next, .instanceMethod yX11_next, .selects yX11_next.cls yX11_next yX11_next, .initialized yX11_next.cls, .code yX11_next cX11_next 1 (some .int)], w ∈ TG := in_by [769, 770, 771, 74, 772] (by decide +kernel)
theorem dpX12_next : (decide (yX12_next.cls ≠ "java/lang/invoke/MethodHandle") && decide (yX12_next.cls ≠ "java/lang/invoke/VarHandle") && decide ((parseMethodDescriptor yX12_next.desc).map (fun d => d.parameters.length) = some 0)) = true := by decide +kernel
theorem lkL_97 : ∀ w ∈ [Cond.methodLink RL 97 yX12_next, .instanceMethod yX12_next, .selects yX12_next.cls yX12_next yX12_next, .initialized yX12_next.cls, .code yX12_next cX12_next 2 (some .int)], w ∈ TG := in_by [1215, 1216, 1217, 87, 1218] (by decide +kernel)
theorem dpX11_moves : (decide (yX11_moves.cls ≠ "java/lang/invoke/MethodHandle") && decide (yX11_moves.cls ≠ "java/lang/invoke/VarHandle") && decide ((parseMethodDescriptor yX11_moves.desc).map (fun d => d.parameters.length) = some 1)) = true := by decide +kernel
theorem lkL_98 : ∀ w ∈ [Cond.methodLink RL 98 yX11_moves, .instanceMethod yX11_moves, .selects yX11_moves.cls yX11_moves yX11_moves, .initialized yX11_moves.cls, .code yX11_moves cX11_moves 5 (some .int)], w ∈ TG := in_by [777, 778, 779, 74, 780] (by decide +kernel)
theorem dpX12_moves : (decide (yX12_moves.cls ≠ "java/lang/invoke/MethodHandle") && decide (yX12_moves.cls ≠ "java/lang/invoke/VarHandle") && decide ((parseMethodDescriptor yX12_moves.desc).map (fun d => d.parameters.length) = some 1)) = true := by decide +kernel
theorem lkL_101 : ∀ w ∈ [Cond.methodLink RL 101 yX12_moves, .instanceMethod yX12_moves, .selects yX12_moves.cls yX12_moves yX12_moves, .initialized yX12_moves.cls, .code yX12_moves cX12_moves 8 (some .int)], w ∈ TG := in_by [1219, 1220, 1221, 87, 1222] (by decide +kernel)
theorem dpX11_stand : (decide (yX11_stand.cls ≠ "java/lang/invoke/MethodHandle") && decide (yX11_stand.cls ≠ "java/lang/invoke/VarHandle") && decide ((parseMethodDescriptor yX11_stand.desc).map (fun d => d.parameters.length) = some 1)) = true := by decide +kernel
theorem lkL_102 : ∀ w ∈ [Cond.methodLink RL 102 yX11_stand, .instanceMethod yX11_stand, .selects yX11_stand.cls yX11_stand yX11_stand, .initialized yX11_stand.cls, .code yX11_stand cX11_stand 2 (some .int)], w ∈ TG := in_by [782, 783, 784, 74, 785] (by decide +kernel)
theorem dpX12_stand : (decide (yX12_stand.cls ≠ "java/lang/invoke/MethodHandle") && decide (yX12_stand.cls ≠ "java/lang/invoke/VarHandle") && decide ((parseMethodDescriptor yX12_stand.desc).map (fun d => d.parameters.length) = some 1)) = true := by decide +kernel
theorem lkL_105 : ∀ w ∈ [Cond.methodLink RL 105 yX12_stand, .instanceMethod yX12_stand, .selects yX12_stand.cls yX12_stand yX12_stand, .initialized yX12_stand.cls, .code yX12_stand cX12_stand 5 (some .int)], w ∈ TG := in_by [1223, 1224, 1225, 87, 1226] (by decide +kernel)
theorem dpX11_thumb : (decide (yX11_thumb.cls ≠ "java/lang/invoke/MethodHandle") && decide (yX11_thumb.cls ≠ "java/lang/invoke/VarHandle") && decide ((parseMethodDescriptor yX11_thumb.desc).map (fun d => d.parameters.length) = some 2)) = true := by decide +kernel
theorem lkL_106 : ∀ w ∈ [Cond.methodLink RL 106 yX11_thumb, .instanceMethod yX11_thumb, .selects yX11_thumb.cls yX11_thumb yX11_thumb, .initialized yX11_thumb.cls, .code yX11_thumb cX11_thumb 4 (some .int)], w ∈ TG := in_by [790, 791, 792, 74, 793] (by decide +kernel)
theorem dpX12_thumb : (decide (yX12_thumb.cls ≠ "java/lang/invoke/MethodHandle") && decide (yX12_thumb.cls ≠ "java/lang/invoke/VarHandle") && decide ((parseMethodDescriptor yX12_thumb.desc).map (fun d => d.parameters.length) = some 2)) = true := by decide +kernel
theorem lkL_109 : ∀ w ∈ [Cond.methodLink RL 109 yX12_thumb, .instanceMethod yX12_thumb, .selects yX12_thumb.cls yX12_thumb yX12_thumb, .initialized yX12_thumb.cls, .code yX12_thumb cX12_thumb 4 (some .int)], w ∈ TG := in_by [1227, 1228, 1229, 87, 1230] (by decide +kernel)
theorem dpX11_sorts : (decide (yX11_sorts.cls ≠ "java/lang/invoke/MethodHandle") && decide (yX11_sorts.cls ≠ "java/lang/invoke/VarHandle") && decide ((parseMethodDescriptor yX11_sorts.desc).map (fun d => d.parameters.length) = some 2)) = true := by decide +kernel
theorem lkL_110 : ∀ w ∈ [Cond.methodLink RL 110 yX11_sorts, .instanceMethod yX11_sorts, .selects yX11_sorts.cls yX11_sorts yX11_sorts, .initialized yX11_sorts.cls, .code yX11_sorts cX11_sorts 6 (some .int)], w ∈ TG := in_by [821, 822, 823, 74, 824] (by decide +kernel)
theorem dpX12_sorts : (decide (yX12_sorts.cls ≠ "java/lang/invoke/MethodHandle") && decide (yX12_sorts.cls ≠ "java/lang/invoke/VarHandle") && decide ((parseMethodDescriptor yX12_sorts.desc).map (fun d => d.parameters.length) = some 2)) = true := by decide +kernel
theorem lkL_113 : ∀ w ∈ [Cond.methodLink RL 113 yX12_sorts, .instanceMethod yX12_sorts, .selects yX12_sorts.cls yX12_sorts yX12_sorts, .initialized yX12_sorts.cls, .code yX12_sorts cX12_sorts 5 (some .int)], w ∈ TG := in_by [1256, 1257, 1258, 87, 1259] (by decide +kernel)
theorem dpX11_draw : (decide (yX11_draw.cls ≠ "java/lang/invoke/MethodHandle") && decide (yX11_draw.cls ≠ "java/lang/invoke/VarHandle") && decide ((parseMethodDescriptor yX11_draw.desc).map (fun d => d.parameters.length) = some 2)) = true := by decide +kernel
theorem lkL_114 : ∀ w ∈ [Cond.methodLink RL 114 yX11_draw, .instanceMethod yX11_draw, .selects yX11_draw.cls yX11_draw yX11_draw, .initialized yX11_draw.cls, .code yX11_draw cX11_draw 8 (some .int)], w ∈ TG := in_by [825, 826, 827, 74, 828] (by decide +kernel)
theorem dpX12_draw : (decide (yX12_draw.cls ≠ "java/lang/invoke/MethodHandle") && decide (yX12_draw.cls ≠ "java/lang/invoke/VarHandle") && decide ((parseMethodDescriptor yX12_draw.desc).map (fun d => d.parameters.length) = some 2)) = true := by decide +kernel
theorem lkL_117 : ∀ w ∈ [Cond.methodLink RL 117 yX12_draw, .instanceMethod yX12_draw, .selects yX12_draw.cls yX12_draw yX12_draw, .initialized yX12_draw.cls, .code yX12_draw cX12_draw 9 (some .int)], w ∈ TG := in_by [1260, 1261, 1262, 87, 1263] (by decide +kernel)
theorem dpX11_image : (decide (yX11_image.cls ≠ "java/lang/invoke/MethodHandle") && decide (yX11_image.cls ≠ "java/lang/invoke/VarHandle") && decide ((parseMethodDescriptor yX11_image.desc).map (fun d => d.parameters.length) = some 1)) = true := by decide +kernel
theorem lkL_118 : ∀ w ∈ [Cond.methodLink RL 118 yX11_image, .instanceMethod yX11_image, .selects yX11_image.cls yX11_image yX11_image, .initialized yX11_image.cls, .code yX11_image cX11_image 3 (some .int)], w ∈ TG := in_by [832, 833, 834, 74, 835] (by decide +kernel)
theorem dpX12_image : (decide (yX12_image.cls ≠ "java/lang/invoke/MethodHandle") && decide (yX12_image.cls ≠ "java/lang/invoke/VarHandle") && decide ((parseMethodDescriptor yX12_image.desc).map (fun d => d.parameters.length) = some 1)) = true := by decide +kernel
theorem lkL_121 : ∀ w ∈ [Cond.methodLink RL 121 yX12_image, .instanceMethod yX12_image, .selects yX12_image.cls yX12_image yX12_image, .initialized yX12_image.cls, .code yX12_image cX12_image 2 (some .int)], w ∈ TG := in_by [1266, 1267, 1268, 87, 1269] (by decide +kernel)
theorem dpX11_restore : (decide (yX11_restore.cls ≠ "java/lang/invoke/MethodHandle") && decide (yX11_restore.cls ≠ "java/lang/invoke/VarHandle") && decide ((parseMethodDescriptor yX11_restore.desc).map (fun d => d.parameters.length) = some 1)) = true := by decide +kernel
theorem lkL_122 : ∀ w ∈ [Cond.methodLink RL 122 yX11_restore, .instanceMethod yX11_restore, .selects yX11_restore.cls yX11_restore yX11_restore, .initialized yX11_restore.cls, .code yX11_restore cX11_restore 3 (some .int)], w ∈ TG := in_by [844, 845, 846, 74, 847] (by decide +kernel)
theorem dpX12_restore : (decide (yX12_restore.cls ≠ "java/lang/invoke/MethodHandle") && decide (yX12_restore.cls ≠ "java/lang/invoke/VarHandle") && decide ((parseMethodDescriptor yX12_restore.desc).map (fun d => d.parameters.length) = some 1)) = true := by decide +kernel
theorem lkL_125 : ∀ w ∈ [Cond.methodLink RL 125 yX12_restore, .instanceMethod yX12_restore, .selects yX12_restore.cls yX12_restore yX12_restore, .initialized yX12_restore.cls, .code yX12_restore cX12_restore 2 (some .int)], w ∈ TG := in_by [1276, 1277, 1278, 87, 1279] (by decide +kernel)
theorem dpX11_told : (decide (yX11_told.cls ≠ "java/lang/invoke/MethodHandle") && decide (yX11_told.cls ≠ "java/lang/invoke/VarHandle") && decide ((parseMethodDescriptor yX11_told.desc).map (fun d => d.parameters.length) = some 1)) = true := by decide +kernel
theorem lkL_126 : ∀ w ∈ [Cond.methodLink RL 126 yX11_told, .instanceMethod yX11_told, .selects yX11_told.cls yX11_told yX11_told, .initialized yX11_told.cls, .code yX11_told cX11_told 2 (some .int)], w ∈ TG := in_by [848, 849, 850, 74, 851] (by decide +kernel)
theorem dpX12_told : (decide (yX12_told.cls ≠ "java/lang/invoke/MethodHandle") && decide (yX12_told.cls ≠ "java/lang/invoke/VarHandle") && decide ((parseMethodDescriptor yX12_told.desc).map (fun d => d.parameters.length) = some 1)) = true := by decide +kernel
theorem lkL_129 : ∀ w ∈ [Cond.methodLink RL 129 yX12_told, .instanceMethod yX12_told, .selects yX12_told.cls yX12_told yX12_told, .initialized yX12_told.cls, .code yX12_told cX12_told 2 (some .int)], w ∈ TG := in_by [1280, 1281, 1282, 87, 1283] (by decide +kernel)
theorem nwL_7 : ∀ w ∈ [Cond.classLink RL 7 RX11, .instantiable RX11 10, .initialized RX11], w ∈ TG := in_by [90, 91, 74] (by decide +kernel)
theorem hfX11 : ∀ k, k < 10 → (parseFieldDescriptor (TX11 k).2.2.1).map defaultValue = some (([.null, .null, .null, .null, .null, .null, .null, .null, .null, .null] : List Value).getD k .null) := by decide +kernel
theorem nwL_10 : ∀ w ∈ [Cond.classLink RL 10 RX12, .instantiable RX12 44, .initialized RX12], w ∈ TG := in_by [852, 853, 87] (by decide +kernel)
theorem hfX12 : ∀ k, k < 44 → (parseFieldDescriptor (TX12 k).2.2.1).map defaultValue = some (([.null, .null, .null, .null, .int 0, .int 0, .null, .null, .null, .null, .int 0, .int 0, .null, .int 0, .null, .null, .int 0, .null, .null, .null, .null, .null, .int 0, .int 0, .null, .int 0, .null, .null, .null, .null, .null, .null, .null, .null, .null, .int 0, .int 0, .int 0, .null, .int 0, .null, .null, .int 0, .int 0] : List Value).getD k .null) := by decide +kernel
