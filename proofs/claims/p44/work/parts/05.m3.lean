theorem dL_law_1709 : decode cL_law 1709 = .ok (.iload 15, 2) := by decide +kernel
theorem dL_law_1711 : decode cL_law 1711 = .ok (.if_icmp .le 10, 3) := by decide +kernel
theorem dL_law_1714 : decode cL_law 1714 = .ok (.iload 9, 2) := by decide +kernel
theorem dL_law_1716 : decode cL_law 1716 = .ok (.ifCond .ne 5, 3) := by decide +kernel
theorem dL_law_1719 : decode cL_law 1719 = .ok (.iconst 0, 1) := by decide +kernel
theorem dL_law_1720 : decode cL_law 1720 = .ok (.ireturn, 1) := by decide +kernel
theorem dL_law_1721 : decode cL_law 1721 = .ok (.aload_n 1, 1) := by decide +kernel
theorem dL_law_1722 : decode cL_law 1722 = .ok (.invokevirtual 98, 3) := by decide +kernel
theorem dL_law_1725 : decode cL_law 1725 = .ok (.istore 25, 2) := by decide +kernel
theorem dL_law_1727 : decode cL_law 1727 = .ok (.iconst 0, 1) := by decide +kernel
theorem dL_law_1728 : decode cL_law 1728 = .ok (.istore 26, 2) := by decide +kernel
theorem dL_law_1730 : decode cL_law 1730 = .ok (.iload 26, 2) := by decide +kernel
theorem dL_law_1732 : decode cL_law 1732 = .ok (.iload 4, 2) := by decide +kernel
theorem dL_law_1734 : decode cL_law 1734 = .ok (.if_icmp .ge 68, 3) := by decide +kernel
theorem dL_law_1737 : decode cL_law 1737 = .ok (.iload 22, 2) := by decide +kernel
theorem dL_law_1739 : decode cL_law 1739 = .ok (.iload 26, 2) := by decide +kernel
theorem dL_law_1741 : decode cL_law 1741 = .ok (.ishr, 1) := by decide +kernel
theorem dL_law_1742 : decode cL_law 1742 = .ok (.iconst 1, 1) := by decide +kernel
theorem dL_law_1743 : decode cL_law 1743 = .ok (.iand, 1) := by decide +kernel
theorem dL_law_1744 : decode cL_law 1744 = .ok (.ifCond .ne 6, 3) := by decide +kernel
theorem dL_law_1747 : decode cL_law 1747 = .ok (.goto 49, 3) := by decide +kernel
theorem dL_law_1750 : decode cL_law 1750 = .ok (.aload_n 1, 1) := by decide +kernel
theorem dL_law_1751 : decode cL_law 1751 = .ok (.aload_n 1, 1) := by decide +kernel
theorem dL_law_1752 : decode cL_law 1752 = .ok (.iload 26, 2) := by decide +kernel
theorem dL_law_1754 : decode cL_law 1754 = .ok (.iconst 2, 1) := by decide +kernel
theorem dL_law_1755 : decode cL_law 1755 = .ok (.invokevirtual 88, 3) := by decide +kernel
theorem dL_law_1758 : decode cL_law 1758 = .ok (.invokestatic 91, 3) := by decide +kernel
theorem dL_law_1761 : decode cL_law 1761 = .ok (.istore 27, 2) := by decide +kernel
theorem dL_law_1763 : decode cL_law 1763 = .ok (.iload 27, 2) := by decide +kernel
theorem dL_law_1765 : decode cL_law 1765 = .ok (.iload 25, 2) := by decide +kernel
theorem dL_law_1767 : decode cL_law 1767 = .ok (.iand, 1) := by decide +kernel
theorem dL_law_1768 : decode cL_law 1768 = .ok (.ifCond .eq 5, 3) := by decide +kernel
theorem dL_law_1771 : decode cL_law 1771 = .ok (.iconst 0, 1) := by decide +kernel
theorem dL_law_1772 : decode cL_law 1772 = .ok (.ireturn, 1) := by decide +kernel
theorem dL_law_1773 : decode cL_law 1773 = .ok (.iload 25, 2) := by decide +kernel
theorem dL_law_1775 : decode cL_law 1775 = .ok (.iload 27, 2) := by decide +kernel
theorem dL_law_1777 : decode cL_law 1777 = .ok (.ior, 1) := by decide +kernel
theorem dL_law_1778 : decode cL_law 1778 = .ok (.istore 25, 2) := by decide +kernel
theorem dL_law_1780 : decode cL_law 1780 = .ok (.iload 23, 2) := by decide +kernel
theorem dL_law_1782 : decode cL_law 1782 = .ok (.aload_n 1, 1) := by decide +kernel
theorem dL_law_1783 : decode cL_law 1783 = .ok (.aload_n 1, 1) := by decide +kernel
theorem dL_law_1784 : decode cL_law 1784 = .ok (.iload 26, 2) := by decide +kernel
theorem dL_law_1786 : decode cL_law 1786 = .ok (.iconst 5, 1) := by decide +kernel
theorem dL_law_1787 : decode cL_law 1787 = .ok (.invokevirtual 88, 3) := by decide +kernel
theorem dL_law_1790 : decode cL_law 1790 = .ok (.invokestatic 91, 3) := by decide +kernel
theorem dL_law_1793 : decode cL_law 1793 = .ok (.iadd, 1) := by decide +kernel
theorem dL_law_1794 : decode cL_law 1794 = .ok (.istore 23, 2) := by decide +kernel
theorem dL_law_1796 : decode cL_law 1796 = .ok (.iinc 26 1, 3) := by decide +kernel
theorem dL_law_1799 : decode cL_law 1799 = .ok (.goto (-69), 3) := by decide +kernel
theorem dL_law_1802 : decode cL_law 1802 = .ok (.iload 23, 2) := by decide +kernel
theorem dL_law_1804 : decode cL_law 1804 = .ok (.iload 21, 2) := by decide +kernel
theorem dL_law_1806 : decode cL_law 1806 = .ok (.if_icmp .eq 5, 3) := by decide +kernel
theorem dL_law_1809 : decode cL_law 1809 = .ok (.iconst 0, 1) := by decide +kernel
theorem dL_law_1810 : decode cL_law 1810 = .ok (.ireturn, 1) := by decide +kernel
theorem dL_law_1811 : decode cL_law 1811 = .ok (.iload 21, 2) := by decide +kernel
theorem dL_law_1813 : decode cL_law 1813 = .ok (.istore 19, 2) := by decide +kernel
theorem dL_law_1815 : decode cL_law 1815 = .ok (.iinc 20 1, 3) := by decide +kernel
theorem dL_law_1818 : decode cL_law 1818 = .ok (.goto (-188), 3) := by decide +kernel
theorem dL_law_1821 : decode cL_law 1821 = .ok (.iconst 0, 1) := by decide +kernel
theorem dL_law_1822 : decode cL_law 1822 = .ok (.istore 20, 2) := by decide +kernel
theorem dL_law_1824 : decode cL_law 1824 = .ok (.iload 20, 2) := by decide +kernel
theorem dL_law_1826 : decode cL_law 1826 = .ok (.iconst 5, 1) := by decide +kernel
theorem dL_law_1827 : decode cL_law 1827 = .ok (.if_icmp .ge 205, 3) := by decide +kernel
theorem dL_law_1830 : decode cL_law 1830 = .ok (.aload_n 0, 1) := by decide +kernel
theorem dL_law_1831 : decode cL_law 1831 = .ok (.bipush 35, 2) := by decide +kernel
theorem dL_law_1833 : decode cL_law 1833 = .ok (.iload 20, 2) := by decide +kernel
theorem dL_law_1835 : decode cL_law 1835 = .ok (.iadd, 1) := by decide +kernel
theorem dL_law_1836 : decode cL_law 1836 = .ok (.invokestatic 15, 3) := by decide +kernel
theorem dL_law_1839 : decode cL_law 1839 = .ok (.iload 5, 2) := by decide +kernel
theorem dL_law_1841 : decode cL_law 1841 = .ok (.iconst 1, 1) := by decide +kernel
theorem dL_law_1842 : decode cL_law 1842 = .ok (.iadd, 1) := by decide +kernel
theorem dL_law_1843 : decode cL_law 1843 = .ok (.invokestatic 21, 3) := by decide +kernel
theorem dL_law_1846 : decode cL_law 1846 = .ok (.istore 21, 2) := by decide +kernel
theorem dL_law_1848 : decode cL_law 1848 = .ok (.aload_n 1, 1) := by decide +kernel
theorem dL_law_1849 : decode cL_law 1849 = .ok (.iload 21, 2) := by decide +kernel
theorem dL_law_1851 : decode cL_law 1851 = .ok (.invokevirtual 124, 3) := by decide +kernel
theorem dL_law_1854 : decode cL_law 1854 = .ok (.istore 22, 2) := by decide +kernel
theorem dL_law_1856 : decode cL_law 1856 = .ok (.aload_n 1, 1) := by decide +kernel
theorem dL_law_1857 : decode cL_law 1857 = .ok (.invokevirtual 101, 3) := by decide +kernel
theorem dL_law_1860 : decode cL_law 1860 = .ok (.istore 23, 2) := by decide +kernel
theorem dL_law_1862 : decode cL_law 1862 = .ok (.iload 21, 2) := by decide +kernel
theorem dL_law_1864 : decode cL_law 1864 = .ok (.iload 10, 2) := by decide +kernel
theorem dL_law_1866 : decode cL_law 1866 = .ok (.iconst (-1), 1) := by decide +kernel
theorem dL_law_1867 : decode cL_law 1867 = .ok (.ixor, 1) := by decide +kernel
theorem dL_law_1868 : decode cL_law 1868 = .ok (.iand, 1) := by decide +kernel
theorem dL_law_1869 : decode cL_law 1869 = .ok (.ifCond .eq 12, 3) := by decide +kernel
theorem dL_law_1872 : decode cL_law 1872 = .ok (.iload 22, 2) := by decide +kernel
theorem dL_law_1874 : decode cL_law 1874 = .ok (.bipush (-4), 2) := by decide +kernel
theorem dL_law_1876 : decode cL_law 1876 = .ok (.if_icmp .eq 150, 3) := by decide +kernel
theorem dL_law_1879 : decode cL_law 1879 = .ok (.iconst 0, 1) := by decide +kernel
theorem dL_law_1880 : decode cL_law 1880 = .ok (.ireturn, 1) := by decide +kernel
theorem dL_law_1881 : decode cL_law 1881 = .ok (.iload 21, 2) := by decide +kernel
theorem dL_law_1883 : decode cL_law 1883 = .ok (.ifCond .ne 14, 3) := by decide +kernel
theorem dL_law_1886 : decode cL_law 1886 = .ok (.iload 23, 2) := by decide +kernel
theorem dL_law_1888 : decode cL_law 1888 = .ok (.iload 8, 2) := by decide +kernel
theorem dL_law_1890 : decode cL_law 1890 = .ok (.if_icmp .ne 7, 3) := by decide +kernel
theorem dL_law_1893 : decode cL_law 1893 = .ok (.iconst 1, 1) := by decide +kernel
theorem dL_law_1894 : decode cL_law 1894 = .ok (.goto 4, 3) := by decide +kernel
theorem dL_law_1897 : decode cL_law 1897 = .ok (.iconst 0, 1) := by decide +kernel
theorem dL_law_1898 : decode cL_law 1898 = .ok (.istore 24, 2) := by decide +kernel
theorem dL_law_1900 : decode cL_law 1900 = .ok (.iconst 0, 1) := by decide +kernel
theorem dL_law_1901 : decode cL_law 1901 = .ok (.istore 25, 2) := by decide +kernel
theorem dL_law_1903 : decode cL_law 1903 = .ok (.iload 25, 2) := by decide +kernel
theorem dL_law_1905 : decode cL_law 1905 = .ok (.iload 4, 2) := by decide +kernel
theorem dL_law_1907 : decode cL_law 1907 = .ok (.if_icmp .ge 105, 3) := by decide +kernel
theorem dL_law_1910 : decode cL_law 1910 = .ok (.aload_n 1, 1) := by decide +kernel
theorem dL_law_1911 : decode cL_law 1911 = .ok (.aload_n 1, 1) := by decide +kernel
theorem dL_law_1912 : decode cL_law 1912 = .ok (.iload 25, 2) := by decide +kernel
theorem dL_law_1914 : decode cL_law 1914 = .ok (.iconst 1, 1) := by decide +kernel
theorem dL_law_1915 : decode cL_law 1915 = .ok (.invokevirtual 88, 3) := by decide +kernel
theorem dL_law_1918 : decode cL_law 1918 = .ok (.invokestatic 91, 3) := by decide +kernel
theorem dL_law_1921 : decode cL_law 1921 = .ok (.istore 26, 2) := by decide +kernel
theorem dL_law_1923 : decode cL_law 1923 = .ok (.iload 21, 2) := by decide +kernel
theorem dL_law_1925 : decode cL_law 1925 = .ok (.iload 25, 2) := by decide +kernel
theorem dL_law_1927 : decode cL_law 1927 = .ok (.ishr, 1) := by decide +kernel
theorem dL_law_1928 : decode cL_law 1928 = .ok (.iconst 1, 1) := by decide +kernel
theorem dL_law_1929 : decode cL_law 1929 = .ok (.iand, 1) := by decide +kernel
theorem dL_law_1930 : decode cL_law 1930 = .ok (.ifCond .ne 6, 3) := by decide +kernel
theorem dL_law_1933 : decode cL_law 1933 = .ok (.goto 73, 3) := by decide +kernel
theorem dL_law_1936 : decode cL_law 1936 = .ok (.iload 24, 2) := by decide +kernel
theorem dL_law_1938 : decode cL_law 1938 = .ok (.iload 26, 2) := by decide +kernel
theorem dL_law_1940 : decode cL_law 1940 = .ok (.iload 23, 2) := by decide +kernel
theorem dL_law_1942 : decode cL_law 1942 = .ok (.if_icmp .ne 7, 3) := by decide +kernel
theorem dL_law_1945 : decode cL_law 1945 = .ok (.iconst 1, 1) := by decide +kernel
theorem dL_law_1946 : decode cL_law 1946 = .ok (.goto 4, 3) := by decide +kernel
theorem dL_law_1949 : decode cL_law 1949 = .ok (.iconst 0, 1) := by decide +kernel
theorem dL_law_1950 : decode cL_law 1950 = .ok (.ior, 1) := by decide +kernel
theorem dL_law_1951 : decode cL_law 1951 = .ok (.istore 24, 2) := by decide +kernel
theorem dL_law_1953 : decode cL_law 1953 = .ok (.iload 26, 2) := by decide +kernel
theorem dL_law_1955 : decode cL_law 1955 = .ok (.iload 8, 2) := by decide +kernel
theorem dL_law_1957 : decode cL_law 1957 = .ok (.if_icmp .ge 11, 3) := by decide +kernel
theorem dL_law_1960 : decode cL_law 1960 = .ok (.iload 8, 2) := by decide +kernel
theorem dL_law_1962 : decode cL_law 1962 = .ok (.iload 26, 2) := by decide +kernel
theorem dL_law_1964 : decode cL_law 1964 = .ok (.isub, 1) := by decide +kernel
theorem dL_law_1965 : decode cL_law 1965 = .ok (.goto 8, 3) := by decide +kernel
theorem dL_law_1968 : decode cL_law 1968 = .ok (.iload 26, 2) := by decide +kernel
theorem dL_law_1970 : decode cL_law 1970 = .ok (.iload 8, 2) := by decide +kernel
theorem dL_law_1972 : decode cL_law 1972 = .ok (.isub, 1) := by decide +kernel
theorem dL_law_1973 : decode cL_law 1973 = .ok (.istore 27, 2) := by decide +kernel
theorem dL_law_1975 : decode cL_law 1975 = .ok (.iload 27, 2) := by decide +kernel
theorem dL_law_1977 : decode cL_law 1977 = .ok (.iload 22, 2) := by decide +kernel
theorem dL_law_1979 : decode cL_law 1979 = .ok (.if_icmp .gt 25, 3) := by decide +kernel
theorem dL_law_1982 : decode cL_law 1982 = .ok (.aload_n 1, 1) := by decide +kernel
theorem dL_law_1983 : decode cL_law 1983 = .ok (.iconst 1, 1) := by decide +kernel
theorem dL_law_1984 : decode cL_law 1984 = .ok (.iload 25, 2) := by decide +kernel
theorem dL_law_1986 : decode cL_law 1986 = .ok (.ishl, 1) := by decide +kernel
theorem dL_law_1987 : decode cL_law 1987 = .ok (.invokevirtual 124, 3) := by decide +kernel
theorem dL_law_1990 : decode cL_law 1990 = .ok (.iload 27, 2) := by decide +kernel
theorem dL_law_1992 : decode cL_law 1992 = .ok (.if_icmp .ne 12, 3) := by decide +kernel
theorem dL_law_1995 : decode cL_law 1995 = .ok (.aload_n 1, 1) := by decide +kernel
theorem dL_law_1996 : decode cL_law 1996 = .ok (.invokevirtual 101, 3) := by decide +kernel
theorem dL_law_1999 : decode cL_law 1999 = .ok (.iload 26, 2) := by decide +kernel
theorem dL_law_2001 : decode cL_law 2001 = .ok (.if_icmp .eq 5, 3) := by decide +kernel
theorem dL_law_2004 : decode cL_law 2004 = .ok (.iconst 0, 1) := by decide +kernel
theorem dL_law_2005 : decode cL_law 2005 = .ok (.ireturn, 1) := by decide +kernel
theorem dL_law_2006 : decode cL_law 2006 = .ok (.iinc 25 1, 3) := by decide +kernel
theorem dL_law_2009 : decode cL_law 2009 = .ok (.goto (-106), 3) := by decide +kernel
theorem dL_law_2012 : decode cL_law 2012 = .ok (.iload 24, 2) := by decide +kernel
theorem dL_law_2014 : decode cL_law 2014 = .ok (.ifCond .eq 10, 3) := by decide +kernel
theorem dL_law_2017 : decode cL_law 2017 = .ok (.iload 22, 2) := by decide +kernel
theorem dL_law_2019 : decode cL_law 2019 = .ok (.bipush 18, 2) := by decide +kernel
theorem dL_law_2021 : decode cL_law 2021 = .ok (.if_icmp .le 5, 3) := by decide +kernel
theorem dL_law_2024 : decode cL_law 2024 = .ok (.iconst 0, 1) := by decide +kernel
theorem dL_law_2025 : decode cL_law 2025 = .ok (.ireturn, 1) := by decide +kernel
theorem dL_law_2026 : decode cL_law 2026 = .ok (.iinc 20 1, 3) := by decide +kernel
theorem dL_law_2029 : decode cL_law 2029 = .ok (.goto (-205), 3) := by decide +kernel
theorem dL_law_2032 : decode cL_law 2032 = .ok (.aload_n 1, 1) := by decide +kernel
theorem dL_law_2033 : decode cL_law 2033 = .ok (.invokevirtual 98, 3) := by decide +kernel
theorem dL_law_2036 : decode cL_law 2036 = .ok (.istore 20, 2) := by decide +kernel
theorem dL_law_2038 : decode cL_law 2038 = .ok (.aload_n 1, 1) := by decide +kernel
theorem dL_law_2039 : decode cL_law 2039 = .ok (.iconst 2, 1) := by decide +kernel
theorem dL_law_2040 : decode cL_law 2040 = .ok (.bipush 13, 2) := by decide +kernel
theorem dL_law_2042 : decode cL_law 2042 = .ok (.invokevirtual 127, 3) := by decide +kernel
theorem dL_law_2045 : decode cL_law 2045 = .ok (.bipush 13, 2) := by decide +kernel
theorem dL_law_2047 : decode cL_law 2047 = .ok (.if_icmp .eq 5, 3) := by decide +kernel
theorem dL_law_2050 : decode cL_law 2050 = .ok (.iconst 0, 1) := by decide +kernel
theorem dL_law_2051 : decode cL_law 2051 = .ok (.ireturn, 1) := by decide +kernel
theorem dL_law_2052 : decode cL_law 2052 = .ok (.iconst 0, 1) := by decide +kernel
theorem dL_law_2053 : decode cL_law 2053 = .ok (.istore 21, 2) := by decide +kernel
theorem dL_law_2055 : decode cL_law 2055 = .ok (.iload 21, 2) := by decide +kernel
theorem dL_law_2057 : decode cL_law 2057 = .ok (.bipush 13, 2) := by decide +kernel
theorem dL_law_2059 : decode cL_law 2059 = .ok (.if_icmp .ge 29, 3) := by decide +kernel
theorem dL_law_2062 : decode cL_law 2062 = .ok (.aload_n 1, 1) := by decide +kernel
theorem dL_law_2063 : decode cL_law 2063 = .ok (.iconst 2, 1) := by decide +kernel
theorem dL_law_2064 : decode cL_law 2064 = .ok (.iload 21, 2) := by decide +kernel
theorem dL_law_2066 : decode cL_law 2066 = .ok (.iload 20, 2) := by decide +kernel
theorem dL_law_2068 : decode cL_law 2068 = .ok (.iload 21, 2) := by decide +kernel
theorem dL_law_2070 : decode cL_law 2070 = .ok (.ishr, 1) := by decide +kernel
theorem dL_law_2071 : decode cL_law 2071 = .ok (.iconst 1, 1) := by decide +kernel
theorem dL_law_2072 : decode cL_law 2072 = .ok (.iand, 1) := by decide +kernel
theorem dL_law_2073 : decode cL_law 2073 = .ok (.invokevirtual 130, 3) := by decide +kernel
theorem dL_law_2076 : decode cL_law 2076 = .ok (.iconst 1, 1) := by decide +kernel
theorem dL_law_2077 : decode cL_law 2077 = .ok (.if_icmp .eq 5, 3) := by decide +kernel
theorem dL_law_2080 : decode cL_law 2080 = .ok (.iconst 0, 1) := by decide +kernel
theorem dL_law_2081 : decode cL_law 2081 = .ok (.ireturn, 1) := by decide +kernel
theorem dL_law_2082 : decode cL_law 2082 = .ok (.iinc 21 1, 3) := by decide +kernel
theorem dL_law_2085 : decode cL_law 2085 = .ok (.goto (-30), 3) := by decide +kernel
theorem dL_law_2088 : decode cL_law 2088 = .ok (.aload_n 1, 1) := by decide +kernel
theorem dL_law_2089 : decode cL_law 2089 = .ok (.iconst 2, 1) := by decide +kernel
theorem dL_law_2090 : decode cL_law 2090 = .ok (.invokevirtual 133, 3) := by decide +kernel
theorem dL_law_2093 : decode cL_law 2093 = .ok (.istore 21, 2) := by decide +kernel
theorem dL_law_2095 : decode cL_law 2095 = .ok (.iload 21, 2) := by decide +kernel
theorem dL_law_2097 : decode cL_law 2097 = .ok (.iconst 1, 1) := by decide +kernel
theorem dL_law_2098 : decode cL_law 2098 = .ok (.if_icmp .lt 21, 3) := by decide +kernel
theorem dL_law_2101 : decode cL_law 2101 = .ok (.iload 21, 2) := by decide +kernel
theorem dL_law_2103 : decode cL_law 2103 = .ok (.iload 5, 2) := by decide +kernel
theorem dL_law_2105 : decode cL_law 2105 = .ok (.iconst 1, 1) := by decide +kernel
theorem dL_law_2106 : decode cL_law 2106 = .ok (.iadd, 1) := by decide +kernel
theorem dL_law_2107 : decode cL_law 2107 = .ok (.if_icmp .gt 12, 3) := by decide +kernel
theorem dL_law_2110 : decode cL_law 2110 = .ok (.aload_n 1, 1) := by decide +kernel
theorem dL_law_2111 : decode cL_law 2111 = .ok (.invokevirtual 101, 3) := by decide +kernel
theorem dL_law_2114 : decode cL_law 2114 = .ok (.iload 9, 2) := by decide +kernel
theorem dL_law_2116 : decode cL_law 2116 = .ok (.if_icmp .le 5, 3) := by decide +kernel
theorem dL_law_2119 : decode cL_law 2119 = .ok (.iconst 0, 1) := by decide +kernel
theorem dL_law_2120 : decode cL_law 2120 = .ok (.ireturn, 1) := by decide +kernel
theorem dL_law_2121 : decode cL_law 2121 = .ok (.iconst 0, 1) := by decide +kernel
theorem dL_law_2122 : decode cL_law 2122 = .ok (.istore 22, 2) := by decide +kernel
theorem dL_law_2124 : decode cL_law 2124 = .ok (.iload 22, 2) := by decide +kernel
theorem dL_law_2126 : decode cL_law 2126 = .ok (.bipush 13, 2) := by decide +kernel
theorem dL_law_2128 : decode cL_law 2128 = .ok (.if_icmp .ge 41, 3) := by decide +kernel
theorem dL_law_2131 : decode cL_law 2131 = .ok (.aload_n 1, 1) := by decide +kernel
theorem dL_law_2132 : decode cL_law 2132 = .ok (.iconst 2, 1) := by decide +kernel
theorem dL_law_2133 : decode cL_law 2133 = .ok (.iload 22, 2) := by decide +kernel
theorem dL_law_2135 : decode cL_law 2135 = .ok (.bipush (-9), 2) := by decide +kernel
theorem dL_law_2137 : decode cL_law 2137 = .ok (.invokevirtual 130, 3) := by decide +kernel
theorem dL_law_2140 : decode cL_law 2140 = .ok (.iconst 1, 1) := by decide +kernel
theorem dL_law_2141 : decode cL_law 2141 = .ok (.if_icmp .ne 13, 3) := by decide +kernel
theorem dL_law_2144 : decode cL_law 2144 = .ok (.aload_n 1, 1) := by decide +kernel
theorem dL_law_2145 : decode cL_law 2145 = .ok (.iconst 2, 1) := by decide +kernel
theorem dL_law_2146 : decode cL_law 2146 = .ok (.invokevirtual 133, 3) := by decide +kernel
theorem dL_law_2149 : decode cL_law 2149 = .ok (.iload 21, 2) := by decide +kernel
theorem dL_law_2151 : decode cL_law 2151 = .ok (.if_icmp .ge 5, 3) := by decide +kernel
theorem dL_law_2154 : decode cL_law 2154 = .ok (.iconst 0, 1) := by decide +kernel
theorem dL_law_2155 : decode cL_law 2155 = .ok (.ireturn, 1) := by decide +kernel
theorem dL_law_2156 : decode cL_law 2156 = .ok (.aload_n 1, 1) := by decide +kernel
theorem dL_law_2157 : decode cL_law 2157 = .ok (.iconst 2, 1) := by decide +kernel
theorem dL_law_2158 : decode cL_law 2158 = .ok (.invokevirtual 133, 3) := by decide +kernel
theorem dL_law_2161 : decode cL_law 2161 = .ok (.istore 21, 2) := by decide +kernel
theorem dL_law_2163 : decode cL_law 2163 = .ok (.iinc 22 3, 3) := by decide +kernel
theorem dL_law_2166 : decode cL_law 2166 = .ok (.goto (-42), 3) := by decide +kernel
theorem dL_law_2169 : decode cL_law 2169 = .ok (.iconst 0, 1) := by decide +kernel
theorem dL_law_2170 : decode cL_law 2170 = .ok (.istore 22, 2) := by decide +kernel
theorem dL_law_2172 : decode cL_law 2172 = .ok (.iload 22, 2) := by decide +kernel
theorem dL_law_2174 : decode cL_law 2174 = .ok (.iload 4, 2) := by decide +kernel
theorem dL_law_2176 : decode cL_law 2176 = .ok (.if_icmp .ge 201, 3) := by decide +kernel
theorem dL_law_2179 : decode cL_law 2179 = .ok (.aload_n 0, 1) := by decide +kernel
theorem dL_law_2180 : decode cL_law 2180 = .ok (.bipush 40, 2) := by decide +kernel
theorem dL_law_2182 : decode cL_law 2182 = .ok (.iload 22, 2) := by decide +kernel
theorem dL_law_2184 : decode cL_law 2184 = .ok (.iconst 3, 1) := by decide +kernel
theorem dL_law_2185 : decode cL_law 2185 = .ok (.irem, 1) := by decide +kernel
theorem dL_law_2186 : decode cL_law 2186 = .ok (.iadd, 1) := by decide +kernel
theorem dL_law_2187 : decode cL_law 2187 = .ok (.invokestatic 15, 3) := by decide +kernel
theorem dL_law_2190 : decode cL_law 2190 = .ok (.bipush 10, 2) := by decide +kernel
theorem dL_law_2192 : decode cL_law 2192 = .ok (.invokestatic 21, 3) := by decide +kernel
theorem dL_law_2195 : decode cL_law 2195 = .ok (.istore 23, 2) := by decide +kernel
theorem dL_law_2197 : decode cL_law 2197 = .ok (.aload_n 1, 1) := by decide +kernel
theorem dL_law_2198 : decode cL_law 2198 = .ok (.aload_n 1, 1) := by decide +kernel
theorem dL_law_2199 : decode cL_law 2199 = .ok (.iload 22, 2) := by decide +kernel
theorem dL_law_2201 : decode cL_law 2201 = .ok (.iload 23, 2) := by decide +kernel
theorem dL_law_2203 : decode cL_law 2203 = .ok (.invokevirtual 136, 3) := by decide +kernel
theorem dL_law_2206 : decode cL_law 2206 = .ok (.invokestatic 91, 3) := by decide +kernel
theorem dL_law_2209 : decode cL_law 2209 = .ok (.istore 24, 2) := by decide +kernel
theorem dL_law_2211 : decode cL_law 2211 = .ok (.aload_n 1, 1) := by decide +kernel
theorem dL_law_2212 : decode cL_law 2212 = .ok (.iconst 3, 1) := by decide +kernel
theorem dL_law_2213 : decode cL_law 2213 = .ok (.iconst 2, 1) := by decide +kernel
theorem dL_law_2214 : decode cL_law 2214 = .ok (.invokevirtual 127, 3) := by decide +kernel
theorem dL_law_2217 : decode cL_law 2217 = .ok (.iconst 2, 1) := by decide +kernel
theorem dL_law_2218 : decode cL_law 2218 = .ok (.if_icmp .ne 27, 3) := by decide +kernel
theorem dL_law_2221 : decode cL_law 2221 = .ok (.aload_n 1, 1) := by decide +kernel
theorem dL_law_2222 : decode cL_law 2222 = .ok (.iconst 3, 1) := by decide +kernel
theorem dL_law_2223 : decode cL_law 2223 = .ok (.iconst 0, 1) := by decide +kernel
theorem dL_law_2224 : decode cL_law 2224 = .ok (.iload 23, 2) := by decide +kernel
theorem dL_law_2226 : decode cL_law 2226 = .ok (.invokevirtual 130, 3) := by decide +kernel
theorem dL_law_2229 : decode cL_law 2229 = .ok (.iconst 1, 1) := by decide +kernel
theorem dL_law_2230 : decode cL_law 2230 = .ok (.if_icmp .ne 15, 3) := by decide +kernel
theorem dL_law_2233 : decode cL_law 2233 = .ok (.aload_n 1, 1) := by decide +kernel
theorem dL_law_2234 : decode cL_law 2234 = .ok (.iconst 3, 1) := by decide +kernel
theorem dL_law_2235 : decode cL_law 2235 = .ok (.iconst 1, 1) := by decide +kernel
theorem dL_law_2236 : decode cL_law 2236 = .ok (.iload 24, 2) := by decide +kernel
theorem dL_law_2238 : decode cL_law 2238 = .ok (.invokevirtual 130, 3) := by decide +kernel
theorem dL_law_2241 : decode cL_law 2241 = .ok (.iconst 1, 1) := by decide +kernel
theorem dL_law_2242 : decode cL_law 2242 = .ok (.if_icmp .eq 5, 3) := by decide +kernel
theorem dL_law_2245 : decode cL_law 2245 = .ok (.iconst 0, 1) := by decide +kernel
theorem dL_law_2246 : decode cL_law 2246 = .ok (.ireturn, 1) := by decide +kernel
theorem dL_law_2247 : decode cL_law 2247 = .ok (.aload_n 1, 1) := by decide +kernel
theorem dL_law_2248 : decode cL_law 2248 = .ok (.iload 22, 2) := by decide +kernel
theorem dL_law_2250 : decode cL_law 2250 = .ok (.iconst 3, 1) := by decide +kernel
theorem dL_law_2251 : decode cL_law 2251 = .ok (.invokevirtual 138, 3) := by decide +kernel
theorem dL_law_2254 : decode cL_law 2254 = .ok (.istore 25, 2) := by decide +kernel
theorem dL_law_2256 : decode cL_law 2256 = .ok (.aload_n 1, 1) := by decide +kernel
theorem dL_law_2257 : decode cL_law 2257 = .ok (.iload 22, 2) := by decide +kernel
theorem dL_law_2259 : decode cL_law 2259 = .ok (.iconst 3, 1) := by decide +kernel
theorem dL_law_2260 : decode cL_law 2260 = .ok (.invokevirtual 141, 3) := by decide +kernel
theorem dL_law_2263 : decode cL_law 2263 = .ok (.istore 26, 2) := by decide +kernel
theorem dL_law_2265 : decode cL_law 2265 = .ok (.aload_n 1, 1) := by decide +kernel
theorem dL_law_2266 : decode cL_law 2266 = .ok (.invokevirtual 101, 3) := by decide +kernel
theorem dL_law_2269 : decode cL_law 2269 = .ok (.istore 27, 2) := by decide +kernel
theorem dL_law_2271 : decode cL_law 2271 = .ok (.iload 25, 2) := by decide +kernel
theorem dL_law_2273 : decode cL_law 2273 = .ok (.aload_n 2, 1) := by decide +kernel
theorem dL_law_2274 : decode cL_law 2274 = .ok (.iconst 1, 1) := by decide +kernel
